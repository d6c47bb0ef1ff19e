/-! the law: blocks of code, written by wip/whole/mk15.py out of what TURN printed of the program -/
def k_L_fill_0 : List am_I := [(.aload_n 3, 1, 0, 0, 0), (.iconst 0, 1, 0, 0, 0), (.aload_n 0, 1, 0, 0, 0), (.iload_n 1, 1, 0, 0, 0), (.iload_n 2, 1, 0, 0, 0), (.invokevirtual 7, 3, 36, 3, 424), (.i2l, 1, 0, 0, 0), (.lastore, 1, 0, 0, 0), (.goto 11, 3, 0, 0, 0)]
set_option maxRecDepth 20000 in
theorem o_L_fill_0 : am_okB mt_L_fill 0 k_L_fill_0 = true := by decide +kernel
theorem g_L_fill_0 {L : am_S} {n : Nat} {ls st : List Value} {M : am_M} {Q : am_Q} (h : am_B L mt_L_fill k_L_fill_0 n 0 ls st M Q) : am_R L mt_L_fill n 0 ls st M Q := am_go L mt_L_fill (fun h => by cases h) k_L_fill_0 n 0 ls st M Q o_L_fill_0 h
def k_L_fill_13 : List am_I := [(.astore 4, 2, 0, 0, 0), (.iconst 1, 1, 0, 0, 0), (.ireturn, 1, 0, 0, 0)]
set_option maxRecDepth 20000 in
theorem o_L_fill_13 : am_okB mt_L_fill 13 k_L_fill_13 = true := by decide +kernel
theorem g_L_fill_13 {L : am_S} {n : Nat} {ls st : List Value} {M : am_M} {Q : am_Q} (h : am_B L mt_L_fill k_L_fill_13 n 13 ls st M Q) : am_R L mt_L_fill n 13 ls st M Q := am_go L mt_L_fill (fun h => by cases h) k_L_fill_13 n 13 ls st M Q o_L_fill_13 h
def k_L_fill_17 : List am_I := [(.astore 4, 2, 0, 0, 0), (.iconst 2, 1, 0, 0, 0), (.ireturn, 1, 0, 0, 0)]
set_option maxRecDepth 20000 in
theorem o_L_fill_17 : am_okB mt_L_fill 17 k_L_fill_17 = true := by decide +kernel
theorem g_L_fill_17 {L : am_S} {n : Nat} {ls st : List Value} {M : am_M} {Q : am_Q} (h : am_B L mt_L_fill k_L_fill_17 n 17 ls st M Q) : am_R L mt_L_fill n 17 ls st M Q := am_go L mt_L_fill (fun h => by cases h) k_L_fill_17 n 17 ls st M Q o_L_fill_17 h
def k_L_fill_21 : List am_I := [(.iconst 0, 1, 0, 0, 0), (.ireturn, 1, 0, 0, 0)]
set_option maxRecDepth 20000 in
theorem o_L_fill_21 : am_okB mt_L_fill 21 k_L_fill_21 = true := by decide +kernel
theorem g_L_fill_21 {L : am_S} {n : Nat} {ls st : List Value} {M : am_M} {Q : am_Q} (h : am_B L mt_L_fill k_L_fill_21 n 21 ls st M Q) : am_R L mt_L_fill n 21 ls st M Q := am_go L mt_L_fill (fun h => by cases h) k_L_fill_21 n 21 ls st M Q o_L_fill_21 h
def k_L_dye_0 : List am_I := [(.aload 4, 2, 0, 0, 0), (.iconst 0, 1, 0, 0, 0), (.aload_n 0, 1, 0, 0, 0), (.iload_n 1, 1, 0, 0, 0), (.iload_n 2, 1, 0, 0, 0), (.iload_n 3, 1, 0, 0, 0), (.invokevirtual 17, 3, 37, 4, 530), (.i2l, 1, 0, 0, 0), (.lastore, 1, 0, 0, 0), (.goto 15, 3, 0, 0, 0)]
set_option maxRecDepth 20000 in
theorem o_L_dye_0 : am_okB mt_L_dye 0 k_L_dye_0 = true := by decide +kernel
theorem g_L_dye_0 {L : am_S} {n : Nat} {ls st : List Value} {M : am_M} {Q : am_Q} (h : am_B L mt_L_dye k_L_dye_0 n 0 ls st M Q) : am_R L mt_L_dye n 0 ls st M Q := am_go L mt_L_dye (fun h => by cases h) k_L_dye_0 n 0 ls st M Q o_L_dye_0 h
def k_L_dye_15 : List am_I := [(.astore 5, 2, 0, 0, 0), (.iconst 1, 1, 0, 0, 0), (.ireturn, 1, 0, 0, 0)]
set_option maxRecDepth 20000 in
theorem o_L_dye_15 : am_okB mt_L_dye 15 k_L_dye_15 = true := by decide +kernel
theorem g_L_dye_15 {L : am_S} {n : Nat} {ls st : List Value} {M : am_M} {Q : am_Q} (h : am_B L mt_L_dye k_L_dye_15 n 15 ls st M Q) : am_R L mt_L_dye n 15 ls st M Q := am_go L mt_L_dye (fun h => by cases h) k_L_dye_15 n 15 ls st M Q o_L_dye_15 h
def k_L_dye_19 : List am_I := [(.astore 5, 2, 0, 0, 0), (.iconst 2, 1, 0, 0, 0), (.ireturn, 1, 0, 0, 0)]
set_option maxRecDepth 20000 in
theorem o_L_dye_19 : am_okB mt_L_dye 19 k_L_dye_19 = true := by decide +kernel
theorem g_L_dye_19 {L : am_S} {n : Nat} {ls st : List Value} {M : am_M} {Q : am_Q} (h : am_B L mt_L_dye k_L_dye_19 n 19 ls st M Q) : am_R L mt_L_dye n 19 ls st M Q := am_go L mt_L_dye (fun h => by cases h) k_L_dye_19 n 19 ls st M Q o_L_dye_19 h
def k_L_dye_23 : List am_I := [(.astore 5, 2, 0, 0, 0), (.iconst 3, 1, 0, 0, 0), (.ireturn, 1, 0, 0, 0)]
set_option maxRecDepth 20000 in
theorem o_L_dye_23 : am_okB mt_L_dye 23 k_L_dye_23 = true := by decide +kernel
theorem g_L_dye_23 {L : am_S} {n : Nat} {ls st : List Value} {M : am_M} {Q : am_Q} (h : am_B L mt_L_dye k_L_dye_23 n 23 ls st M Q) : am_R L mt_L_dye n 23 ls st M Q := am_go L mt_L_dye (fun h => by cases h) k_L_dye_23 n 23 ls st M Q o_L_dye_23 h
def k_L_dye_27 : List am_I := [(.iconst 0, 1, 0, 0, 0), (.ireturn, 1, 0, 0, 0)]
set_option maxRecDepth 20000 in
theorem o_L_dye_27 : am_okB mt_L_dye 27 k_L_dye_27 = true := by decide +kernel
theorem g_L_dye_27 {L : am_S} {n : Nat} {ls st : List Value} {M : am_M} {Q : am_Q} (h : am_B L mt_L_dye k_L_dye_27 n 27 ls st M Q) : am_R L mt_L_dye n 27 ls st M Q := am_go L mt_L_dye (fun h => by cases h) k_L_dye_27 n 27 ls st M Q o_L_dye_27 h
def k_L_stir_0 : List am_I := [(.aload_n 2, 1, 0, 0, 0), (.iconst 0, 1, 0, 0, 0), (.aload_n 0, 1, 0, 0, 0), (.iload_n 1, 1, 0, 0, 0), (.invokevirtual 23, 3, 38, 2, 558), (.i2l, 1, 0, 0, 0), (.lastore, 1, 0, 0, 0), (.goto 6, 3, 0, 0, 0)]
set_option maxRecDepth 20000 in
theorem o_L_stir_0 : am_okB mt_L_stir 0 k_L_stir_0 = true := by decide +kernel
theorem g_L_stir_0 {L : am_S} {n : Nat} {ls st : List Value} {M : am_M} {Q : am_Q} (h : am_B L mt_L_stir k_L_stir_0 n 0 ls st M Q) : am_R L mt_L_stir n 0 ls st M Q := am_go L mt_L_stir (fun h => by cases h) k_L_stir_0 n 0 ls st M Q o_L_stir_0 h
def k_L_stir_12 : List am_I := [(.astore_n 3, 1, 0, 0, 0), (.iconst 1, 1, 0, 0, 0), (.ireturn, 1, 0, 0, 0)]
set_option maxRecDepth 20000 in
theorem o_L_stir_12 : am_okB mt_L_stir 12 k_L_stir_12 = true := by decide +kernel
theorem g_L_stir_12 {L : am_S} {n : Nat} {ls st : List Value} {M : am_M} {Q : am_Q} (h : am_B L mt_L_stir k_L_stir_12 n 12 ls st M Q) : am_R L mt_L_stir n 12 ls st M Q := am_go L mt_L_stir (fun h => by cases h) k_L_stir_12 n 12 ls st M Q o_L_stir_12 h
def k_L_stir_15 : List am_I := [(.iconst 0, 1, 0, 0, 0), (.ireturn, 1, 0, 0, 0)]
set_option maxRecDepth 20000 in
theorem o_L_stir_15 : am_okB mt_L_stir 15 k_L_stir_15 = true := by decide +kernel
theorem g_L_stir_15 {L : am_S} {n : Nat} {ls st : List Value} {M : am_M} {Q : am_Q} (h : am_B L mt_L_stir k_L_stir_15 n 15 ls st M Q) : am_R L mt_L_stir n 15 ls st M Q := am_go L mt_L_stir (fun h => by cases h) k_L_stir_15 n 15 ls st M Q o_L_stir_15 h
def k_L_capacity_0 : List am_I := [(.aload_n 3, 1, 0, 0, 0), (.iconst 0, 1, 0, 0, 0), (.aload_n 0, 1, 0, 0, 0), (.iload_n 1, 1, 0, 0, 0), (.iload_n 2, 1, 0, 0, 0), (.invokevirtual 27, 3, 39, 3, 572), (.i2l, 1, 0, 0, 0), (.lastore, 1, 0, 0, 0), (.goto 11, 3, 0, 0, 0)]
set_option maxRecDepth 20000 in
theorem o_L_capacity_0 : am_okB mt_L_capacity 0 k_L_capacity_0 = true := by decide +kernel
theorem g_L_capacity_0 {L : am_S} {n : Nat} {ls st : List Value} {M : am_M} {Q : am_Q} (h : am_B L mt_L_capacity k_L_capacity_0 n 0 ls st M Q) : am_R L mt_L_capacity n 0 ls st M Q := am_go L mt_L_capacity (fun h => by cases h) k_L_capacity_0 n 0 ls st M Q o_L_capacity_0 h
def k_L_capacity_13 : List am_I := [(.astore 4, 2, 0, 0, 0), (.iconst 1, 1, 0, 0, 0), (.ireturn, 1, 0, 0, 0)]
set_option maxRecDepth 20000 in
theorem o_L_capacity_13 : am_okB mt_L_capacity 13 k_L_capacity_13 = true := by decide +kernel
theorem g_L_capacity_13 {L : am_S} {n : Nat} {ls st : List Value} {M : am_M} {Q : am_Q} (h : am_B L mt_L_capacity k_L_capacity_13 n 13 ls st M Q) : am_R L mt_L_capacity n 13 ls st M Q := am_go L mt_L_capacity (fun h => by cases h) k_L_capacity_13 n 13 ls st M Q o_L_capacity_13 h
def k_L_capacity_17 : List am_I := [(.astore 4, 2, 0, 0, 0), (.iconst 2, 1, 0, 0, 0), (.ireturn, 1, 0, 0, 0)]
set_option maxRecDepth 20000 in
theorem o_L_capacity_17 : am_okB mt_L_capacity 17 k_L_capacity_17 = true := by decide +kernel
theorem g_L_capacity_17 {L : am_S} {n : Nat} {ls st : List Value} {M : am_M} {Q : am_Q} (h : am_B L mt_L_capacity k_L_capacity_17 n 17 ls st M Q) : am_R L mt_L_capacity n 17 ls st M Q := am_go L mt_L_capacity (fun h => by cases h) k_L_capacity_17 n 17 ls st M Q o_L_capacity_17 h
def k_L_capacity_21 : List am_I := [(.iconst 0, 1, 0, 0, 0), (.ireturn, 1, 0, 0, 0)]
set_option maxRecDepth 20000 in
theorem o_L_capacity_21 : am_okB mt_L_capacity 21 k_L_capacity_21 = true := by decide +kernel
theorem g_L_capacity_21 {L : am_S} {n : Nat} {ls st : List Value} {M : am_M} {Q : am_Q} (h : am_B L mt_L_capacity k_L_capacity_21 n 21 ls st M Q) : am_R L mt_L_capacity n 21 ls st M Q := am_go L mt_L_capacity (fun h => by cases h) k_L_capacity_21 n 21 ls st M Q o_L_capacity_21 h
def k_L_valve_0 : List am_I := [(.aload 6, 2, 0, 0, 0), (.iconst 0, 1, 0, 0, 0), (.aload_n 0, 1, 0, 0, 0), (.iload_n 1, 1, 0, 0, 0), (.iload_n 2, 1, 0, 0, 0), (.iload_n 3, 1, 0, 0, 0), (.iload 4, 2, 0, 0, 0), (.iload 5, 2, 0, 0, 0), (.invokevirtual 30, 3, 40, 6, 579), (.i2l, 1, 0, 0, 0), (.lastore, 1, 0, 0, 0), (.goto 15, 3, 0, 0, 0)]
set_option maxRecDepth 20000 in
theorem o_L_valve_0 : am_okB mt_L_valve 0 k_L_valve_0 = true := by decide +kernel
theorem g_L_valve_0 {L : am_S} {n : Nat} {ls st : List Value} {M : am_M} {Q : am_Q} (h : am_B L mt_L_valve k_L_valve_0 n 0 ls st M Q) : am_R L mt_L_valve n 0 ls st M Q := am_go L mt_L_valve (fun h => by cases h) k_L_valve_0 n 0 ls st M Q o_L_valve_0 h
def k_L_valve_19 : List am_I := [(.astore 7, 2, 0, 0, 0), (.iconst 1, 1, 0, 0, 0), (.ireturn, 1, 0, 0, 0)]
set_option maxRecDepth 20000 in
theorem o_L_valve_19 : am_okB mt_L_valve 19 k_L_valve_19 = true := by decide +kernel
theorem g_L_valve_19 {L : am_S} {n : Nat} {ls st : List Value} {M : am_M} {Q : am_Q} (h : am_B L mt_L_valve k_L_valve_19 n 19 ls st M Q) : am_R L mt_L_valve n 19 ls st M Q := am_go L mt_L_valve (fun h => by cases h) k_L_valve_19 n 19 ls st M Q o_L_valve_19 h
def k_L_valve_23 : List am_I := [(.astore 7, 2, 0, 0, 0), (.iconst 2, 1, 0, 0, 0), (.ireturn, 1, 0, 0, 0)]
set_option maxRecDepth 20000 in
theorem o_L_valve_23 : am_okB mt_L_valve 23 k_L_valve_23 = true := by decide +kernel
theorem g_L_valve_23 {L : am_S} {n : Nat} {ls st : List Value} {M : am_M} {Q : am_Q} (h : am_B L mt_L_valve k_L_valve_23 n 23 ls st M Q) : am_R L mt_L_valve n 23 ls st M Q := am_go L mt_L_valve (fun h => by cases h) k_L_valve_23 n 23 ls st M Q o_L_valve_23 h
def k_L_valve_27 : List am_I := [(.astore 7, 2, 0, 0, 0), (.iconst 3, 1, 0, 0, 0), (.ireturn, 1, 0, 0, 0)]
set_option maxRecDepth 20000 in
theorem o_L_valve_27 : am_okB mt_L_valve 27 k_L_valve_27 = true := by decide +kernel
theorem g_L_valve_27 {L : am_S} {n : Nat} {ls st : List Value} {M : am_M} {Q : am_Q} (h : am_B L mt_L_valve k_L_valve_27 n 27 ls st M Q) : am_R L mt_L_valve n 27 ls st M Q := am_go L mt_L_valve (fun h => by cases h) k_L_valve_27 n 27 ls st M Q o_L_valve_27 h
def k_L_valve_31 : List am_I := [(.iconst 0, 1, 0, 0, 0), (.ireturn, 1, 0, 0, 0)]
set_option maxRecDepth 20000 in
theorem o_L_valve_31 : am_okB mt_L_valve 31 k_L_valve_31 = true := by decide +kernel
theorem g_L_valve_31 {L : am_S} {n : Nat} {ls st : List Value} {M : am_M} {Q : am_Q} (h : am_B L mt_L_valve k_L_valve_31 n 31 ls st M Q) : am_R L mt_L_valve n 31 ls st M Q := am_go L mt_L_valve (fun h => by cases h) k_L_valve_31 n 31 ls st M Q o_L_valve_31 h
def k_L_close_0 : List am_I := [(.aload_n 2, 1, 0, 0, 0), (.iconst 0, 1, 0, 0, 0), (.aload_n 0, 1, 0, 0, 0), (.iload_n 1, 1, 0, 0, 0), (.invokevirtual 34, 3, 41, 2, 588), (.i2l, 1, 0, 0, 0), (.lastore, 1, 0, 0, 0), (.goto 6, 3, 0, 0, 0)]
set_option maxRecDepth 20000 in
theorem o_L_close_0 : am_okB mt_L_close 0 k_L_close_0 = true := by decide +kernel
theorem g_L_close_0 {L : am_S} {n : Nat} {ls st : List Value} {M : am_M} {Q : am_Q} (h : am_B L mt_L_close k_L_close_0 n 0 ls st M Q) : am_R L mt_L_close n 0 ls st M Q := am_go L mt_L_close (fun h => by cases h) k_L_close_0 n 0 ls st M Q o_L_close_0 h
def k_L_close_12 : List am_I := [(.astore_n 3, 1, 0, 0, 0), (.iconst 1, 1, 0, 0, 0), (.ireturn, 1, 0, 0, 0)]
set_option maxRecDepth 20000 in
theorem o_L_close_12 : am_okB mt_L_close 12 k_L_close_12 = true := by decide +kernel
theorem g_L_close_12 {L : am_S} {n : Nat} {ls st : List Value} {M : am_M} {Q : am_Q} (h : am_B L mt_L_close k_L_close_12 n 12 ls st M Q) : am_R L mt_L_close n 12 ls st M Q := am_go L mt_L_close (fun h => by cases h) k_L_close_12 n 12 ls st M Q o_L_close_12 h
def k_L_close_15 : List am_I := [(.iconst 0, 1, 0, 0, 0), (.ireturn, 1, 0, 0, 0)]
set_option maxRecDepth 20000 in
theorem o_L_close_15 : am_okB mt_L_close 15 k_L_close_15 = true := by decide +kernel
theorem g_L_close_15 {L : am_S} {n : Nat} {ls st : List Value} {M : am_M} {Q : am_Q} (h : am_B L mt_L_close k_L_close_15 n 15 ls st M Q) : am_R L mt_L_close n 15 ls st M Q := am_go L mt_L_close (fun h => by cases h) k_L_close_15 n 15 ls st M Q o_L_close_15 h
def k_L_pipe_0 : List am_I := [(.aload_n 3, 1, 0, 0, 0), (.iconst 0, 1, 0, 0, 0), (.aload_n 0, 1, 0, 0, 0), (.iload_n 1, 1, 0, 0, 0), (.iload_n 2, 1, 0, 0, 0), (.invokevirtual 37, 3, 42, 3, 600), (.i2l, 1, 0, 0, 0), (.lastore, 1, 0, 0, 0), (.goto 11, 3, 0, 0, 0)]
set_option maxRecDepth 20000 in
theorem o_L_pipe_0 : am_okB mt_L_pipe 0 k_L_pipe_0 = true := by decide +kernel
theorem g_L_pipe_0 {L : am_S} {n : Nat} {ls st : List Value} {M : am_M} {Q : am_Q} (h : am_B L mt_L_pipe k_L_pipe_0 n 0 ls st M Q) : am_R L mt_L_pipe n 0 ls st M Q := am_go L mt_L_pipe (fun h => by cases h) k_L_pipe_0 n 0 ls st M Q o_L_pipe_0 h
def k_L_pipe_13 : List am_I := [(.astore 4, 2, 0, 0, 0), (.iconst 1, 1, 0, 0, 0), (.ireturn, 1, 0, 0, 0)]
set_option maxRecDepth 20000 in
theorem o_L_pipe_13 : am_okB mt_L_pipe 13 k_L_pipe_13 = true := by decide +kernel
theorem g_L_pipe_13 {L : am_S} {n : Nat} {ls st : List Value} {M : am_M} {Q : am_Q} (h : am_B L mt_L_pipe k_L_pipe_13 n 13 ls st M Q) : am_R L mt_L_pipe n 13 ls st M Q := am_go L mt_L_pipe (fun h => by cases h) k_L_pipe_13 n 13 ls st M Q o_L_pipe_13 h
def k_L_pipe_17 : List am_I := [(.astore 4, 2, 0, 0, 0), (.iconst 2, 1, 0, 0, 0), (.ireturn, 1, 0, 0, 0)]
set_option maxRecDepth 20000 in
theorem o_L_pipe_17 : am_okB mt_L_pipe 17 k_L_pipe_17 = true := by decide +kernel
theorem g_L_pipe_17 {L : am_S} {n : Nat} {ls st : List Value} {M : am_M} {Q : am_Q} (h : am_B L mt_L_pipe k_L_pipe_17 n 17 ls st M Q) : am_R L mt_L_pipe n 17 ls st M Q := am_go L mt_L_pipe (fun h => by cases h) k_L_pipe_17 n 17 ls st M Q o_L_pipe_17 h
def k_L_pipe_21 : List am_I := [(.iconst 0, 1, 0, 0, 0), (.ireturn, 1, 0, 0, 0)]
set_option maxRecDepth 20000 in
theorem o_L_pipe_21 : am_okB mt_L_pipe 21 k_L_pipe_21 = true := by decide +kernel
theorem g_L_pipe_21 {L : am_S} {n : Nat} {ls st : List Value} {M : am_M} {Q : am_Q} (h : am_B L mt_L_pipe k_L_pipe_21 n 21 ls st M Q) : am_R L mt_L_pipe n 21 ls st M Q := am_go L mt_L_pipe (fun h => by cases h) k_L_pipe_21 n 21 ls st M Q o_L_pipe_21 h
def k_L_set_0 : List am_I := [(.aload_n 2, 1, 0, 0, 0), (.iconst 0, 1, 0, 0, 0), (.aload_n 0, 1, 0, 0, 0), (.iload_n 1, 1, 0, 0, 0), (.invokevirtual 40, 3, 43, 2, 608), (.i2l, 1, 0, 0, 0), (.lastore, 1, 0, 0, 0), (.goto 6, 3, 0, 0, 0)]
set_option maxRecDepth 20000 in
theorem o_L_set_0 : am_okB mt_L_set 0 k_L_set_0 = true := by decide +kernel
theorem g_L_set_0 {L : am_S} {n : Nat} {ls st : List Value} {M : am_M} {Q : am_Q} (h : am_B L mt_L_set k_L_set_0 n 0 ls st M Q) : am_R L mt_L_set n 0 ls st M Q := am_go L mt_L_set (fun h => by cases h) k_L_set_0 n 0 ls st M Q o_L_set_0 h
def k_L_set_12 : List am_I := [(.astore_n 3, 1, 0, 0, 0), (.iconst 1, 1, 0, 0, 0), (.ireturn, 1, 0, 0, 0)]
set_option maxRecDepth 20000 in
theorem o_L_set_12 : am_okB mt_L_set 12 k_L_set_12 = true := by decide +kernel
theorem g_L_set_12 {L : am_S} {n : Nat} {ls st : List Value} {M : am_M} {Q : am_Q} (h : am_B L mt_L_set k_L_set_12 n 12 ls st M Q) : am_R L mt_L_set n 12 ls st M Q := am_go L mt_L_set (fun h => by cases h) k_L_set_12 n 12 ls st M Q o_L_set_12 h
def k_L_set_15 : List am_I := [(.iconst 0, 1, 0, 0, 0), (.ireturn, 1, 0, 0, 0)]
set_option maxRecDepth 20000 in
theorem o_L_set_15 : am_okB mt_L_set 15 k_L_set_15 = true := by decide +kernel
theorem g_L_set_15 {L : am_S} {n : Nat} {ls st : List Value} {M : am_M} {Q : am_Q} (h : am_B L mt_L_set k_L_set_15 n 15 ls st M Q) : am_R L mt_L_set n 15 ls st M Q := am_go L mt_L_set (fun h => by cases h) k_L_set_15 n 15 ls st M Q o_L_set_15 h
def k_L_pass_0 : List am_I := [(.aload_n 2, 1, 0, 0, 0), (.iconst 0, 1, 0, 0, 0), (.aload_n 0, 1, 0, 0, 0), (.iload_n 1, 1, 0, 0, 0), (.invokevirtual 43, 3, 44, 2, 615), (.i2l, 1, 0, 0, 0), (.lastore, 1, 0, 0, 0), (.goto 9, 3, 0, 0, 0)]
set_option maxRecDepth 20000 in
theorem o_L_pass_0 : am_okB mt_L_pass 0 k_L_pass_0 = true := by decide +kernel
theorem g_L_pass_0 {L : am_S} {n : Nat} {ls st : List Value} {M : am_M} {Q : am_Q} (h : am_B L mt_L_pass k_L_pass_0 n 0 ls st M Q) : am_R L mt_L_pass n 0 ls st M Q := am_go L mt_L_pass (fun h => by cases h) k_L_pass_0 n 0 ls st M Q o_L_pass_0 h
def k_L_pass_12 : List am_I := [(.astore_n 3, 1, 0, 0, 0), (.iconst 1, 1, 0, 0, 0), (.ireturn, 1, 0, 0, 0)]
set_option maxRecDepth 20000 in
theorem o_L_pass_12 : am_okB mt_L_pass 12 k_L_pass_12 = true := by decide +kernel
theorem g_L_pass_12 {L : am_S} {n : Nat} {ls st : List Value} {M : am_M} {Q : am_Q} (h : am_B L mt_L_pass k_L_pass_12 n 12 ls st M Q) : am_R L mt_L_pass n 12 ls st M Q := am_go L mt_L_pass (fun h => by cases h) k_L_pass_12 n 12 ls st M Q o_L_pass_12 h
def k_L_pass_15 : List am_I := [(.astore_n 3, 1, 0, 0, 0), (.iconst 2, 1, 0, 0, 0), (.ireturn, 1, 0, 0, 0)]
set_option maxRecDepth 20000 in
theorem o_L_pass_15 : am_okB mt_L_pass 15 k_L_pass_15 = true := by decide +kernel
theorem g_L_pass_15 {L : am_S} {n : Nat} {ls st : List Value} {M : am_M} {Q : am_Q} (h : am_B L mt_L_pass k_L_pass_15 n 15 ls st M Q) : am_R L mt_L_pass n 15 ls st M Q := am_go L mt_L_pass (fun h => by cases h) k_L_pass_15 n 15 ls st M Q o_L_pass_15 h
def k_L_pass_18 : List am_I := [(.iconst 0, 1, 0, 0, 0), (.ireturn, 1, 0, 0, 0)]
set_option maxRecDepth 20000 in
theorem o_L_pass_18 : am_okB mt_L_pass 18 k_L_pass_18 = true := by decide +kernel
theorem g_L_pass_18 {L : am_S} {n : Nat} {ls st : List Value} {M : am_M} {Q : am_Q} (h : am_B L mt_L_pass k_L_pass_18 n 18 ls st M Q) : am_R L mt_L_pass n 18 ls st M Q := am_go L mt_L_pass (fun h => by cases h) k_L_pass_18 n 18 ls st M Q o_L_pass_18 h
def k_L_append_0 : List am_I := [(.aload_n 2, 1, 0, 0, 0), (.iconst 0, 1, 0, 0, 0), (.aload_n 0, 1, 0, 0, 0), (.iload_n 1, 1, 0, 0, 0), (.invokevirtual 46, 3, 45, 2, 623), (.i2l, 1, 0, 0, 0), (.lastore, 1, 0, 0, 0), (.goto 9, 3, 0, 0, 0)]
set_option maxRecDepth 20000 in
theorem o_L_append_0 : am_okB mt_L_append 0 k_L_append_0 = true := by decide +kernel
theorem g_L_append_0 {L : am_S} {n : Nat} {ls st : List Value} {M : am_M} {Q : am_Q} (h : am_B L mt_L_append k_L_append_0 n 0 ls st M Q) : am_R L mt_L_append n 0 ls st M Q := am_go L mt_L_append (fun h => by cases h) k_L_append_0 n 0 ls st M Q o_L_append_0 h
def k_L_append_12 : List am_I := [(.astore_n 3, 1, 0, 0, 0), (.iconst 1, 1, 0, 0, 0), (.ireturn, 1, 0, 0, 0)]
set_option maxRecDepth 20000 in
theorem o_L_append_12 : am_okB mt_L_append 12 k_L_append_12 = true := by decide +kernel
theorem g_L_append_12 {L : am_S} {n : Nat} {ls st : List Value} {M : am_M} {Q : am_Q} (h : am_B L mt_L_append k_L_append_12 n 12 ls st M Q) : am_R L mt_L_append n 12 ls st M Q := am_go L mt_L_append (fun h => by cases h) k_L_append_12 n 12 ls st M Q o_L_append_12 h
def k_L_append_15 : List am_I := [(.astore_n 3, 1, 0, 0, 0), (.iconst 2, 1, 0, 0, 0), (.ireturn, 1, 0, 0, 0)]
set_option maxRecDepth 20000 in
theorem o_L_append_15 : am_okB mt_L_append 15 k_L_append_15 = true := by decide +kernel
theorem g_L_append_15 {L : am_S} {n : Nat} {ls st : List Value} {M : am_M} {Q : am_Q} (h : am_B L mt_L_append k_L_append_15 n 15 ls st M Q) : am_R L mt_L_append n 15 ls st M Q := am_go L mt_L_append (fun h => by cases h) k_L_append_15 n 15 ls st M Q o_L_append_15 h
def k_L_append_18 : List am_I := [(.iconst 0, 1, 0, 0, 0), (.ireturn, 1, 0, 0, 0)]
set_option maxRecDepth 20000 in
theorem o_L_append_18 : am_okB mt_L_append 18 k_L_append_18 = true := by decide +kernel
theorem g_L_append_18 {L : am_S} {n : Nat} {ls st : List Value} {M : am_M} {Q : am_Q} (h : am_B L mt_L_append k_L_append_18 n 18 ls st M Q) : am_R L mt_L_append n 18 ls st M Q := am_go L mt_L_append (fun h => by cases h) k_L_append_18 n 18 ls st M Q o_L_append_18 h
def k_L_load_0 : List am_I := [(.aload_n 1, 1, 0, 0, 0), (.iconst 0, 1, 0, 0, 0), (.aload_n 0, 1, 0, 0, 0), (.invokevirtual 49, 3, 48, 1, 631), (.i2l, 1, 0, 0, 0), (.lastore, 1, 0, 0, 0), (.goto 9, 3, 0, 0, 0)]
set_option maxRecDepth 20000 in
theorem o_L_load_0 : am_okB mt_L_load 0 k_L_load_0 = true := by decide +kernel
theorem g_L_load_0 {L : am_S} {n : Nat} {ls st : List Value} {M : am_M} {Q : am_Q} (h : am_B L mt_L_load k_L_load_0 n 0 ls st M Q) : am_R L mt_L_load n 0 ls st M Q := am_go L mt_L_load (fun h => by cases h) k_L_load_0 n 0 ls st M Q o_L_load_0 h
def k_L_load_11 : List am_I := [(.astore_n 2, 1, 0, 0, 0), (.iconst 1, 1, 0, 0, 0), (.ireturn, 1, 0, 0, 0)]
set_option maxRecDepth 20000 in
theorem o_L_load_11 : am_okB mt_L_load 11 k_L_load_11 = true := by decide +kernel
theorem g_L_load_11 {L : am_S} {n : Nat} {ls st : List Value} {M : am_M} {Q : am_Q} (h : am_B L mt_L_load k_L_load_11 n 11 ls st M Q) : am_R L mt_L_load n 11 ls st M Q := am_go L mt_L_load (fun h => by cases h) k_L_load_11 n 11 ls st M Q o_L_load_11 h
def k_L_load_14 : List am_I := [(.astore_n 2, 1, 0, 0, 0), (.iconst 2, 1, 0, 0, 0), (.ireturn, 1, 0, 0, 0)]
set_option maxRecDepth 20000 in
theorem o_L_load_14 : am_okB mt_L_load 14 k_L_load_14 = true := by decide +kernel
theorem g_L_load_14 {L : am_S} {n : Nat} {ls st : List Value} {M : am_M} {Q : am_Q} (h : am_B L mt_L_load k_L_load_14 n 14 ls st M Q) : am_R L mt_L_load n 14 ls st M Q := am_go L mt_L_load (fun h => by cases h) k_L_load_14 n 14 ls st M Q o_L_load_14 h
def k_L_load_17 : List am_I := [(.iconst 0, 1, 0, 0, 0), (.ireturn, 1, 0, 0, 0)]
set_option maxRecDepth 20000 in
theorem o_L_load_17 : am_okB mt_L_load 17 k_L_load_17 = true := by decide +kernel
theorem g_L_load_17 {L : am_S} {n : Nat} {ls st : List Value} {M : am_M} {Q : am_Q} (h : am_B L mt_L_load k_L_load_17 n 17 ls st M Q) : am_R L mt_L_load n 17 ls st M Q := am_go L mt_L_load (fun h => by cases h) k_L_load_17 n 17 ls st M Q o_L_load_17 h
def k_L_keep_0 : List am_I := [(.aload_n 2, 1, 0, 0, 0), (.iconst 0, 1, 0, 0, 0), (.aload_n 0, 1, 0, 0, 0), (.iload_n 1, 1, 0, 0, 0), (.invokevirtual 53, 3, 49, 2, 648), (.i2l, 1, 0, 0, 0), (.lastore, 1, 0, 0, 0), (.goto 6, 3, 0, 0, 0)]
set_option maxRecDepth 20000 in
theorem o_L_keep_0 : am_okB mt_L_keep 0 k_L_keep_0 = true := by decide +kernel
theorem g_L_keep_0 {L : am_S} {n : Nat} {ls st : List Value} {M : am_M} {Q : am_Q} (h : am_B L mt_L_keep k_L_keep_0 n 0 ls st M Q) : am_R L mt_L_keep n 0 ls st M Q := am_go L mt_L_keep (fun h => by cases h) k_L_keep_0 n 0 ls st M Q o_L_keep_0 h
def k_L_keep_12 : List am_I := [(.astore_n 3, 1, 0, 0, 0), (.iconst 1, 1, 0, 0, 0), (.ireturn, 1, 0, 0, 0)]
set_option maxRecDepth 20000 in
theorem o_L_keep_12 : am_okB mt_L_keep 12 k_L_keep_12 = true := by decide +kernel
theorem g_L_keep_12 {L : am_S} {n : Nat} {ls st : List Value} {M : am_M} {Q : am_Q} (h : am_B L mt_L_keep k_L_keep_12 n 12 ls st M Q) : am_R L mt_L_keep n 12 ls st M Q := am_go L mt_L_keep (fun h => by cases h) k_L_keep_12 n 12 ls st M Q o_L_keep_12 h
def k_L_keep_15 : List am_I := [(.iconst 0, 1, 0, 0, 0), (.ireturn, 1, 0, 0, 0)]
set_option maxRecDepth 20000 in
theorem o_L_keep_15 : am_okB mt_L_keep 15 k_L_keep_15 = true := by decide +kernel
theorem g_L_keep_15 {L : am_S} {n : Nat} {ls st : List Value} {M : am_M} {Q : am_Q} (h : am_B L mt_L_keep k_L_keep_15 n 15 ls st M Q) : am_R L mt_L_keep n 15 ls st M Q := am_go L mt_L_keep (fun h => by cases h) k_L_keep_15 n 15 ls st M Q o_L_keep_15 h
def k_L_goBack_0 : List am_I := [(.aload_n 2, 1, 0, 0, 0), (.iconst 0, 1, 0, 0, 0), (.aload_n 0, 1, 0, 0, 0), (.iload_n 1, 1, 0, 0, 0), (.invokevirtual 56, 3, 50, 2, 655), (.i2l, 1, 0, 0, 0), (.lastore, 1, 0, 0, 0), (.goto 9, 3, 0, 0, 0)]
set_option maxRecDepth 20000 in
theorem o_L_goBack_0 : am_okB mt_L_goBack 0 k_L_goBack_0 = true := by decide +kernel
theorem g_L_goBack_0 {L : am_S} {n : Nat} {ls st : List Value} {M : am_M} {Q : am_Q} (h : am_B L mt_L_goBack k_L_goBack_0 n 0 ls st M Q) : am_R L mt_L_goBack n 0 ls st M Q := am_go L mt_L_goBack (fun h => by cases h) k_L_goBack_0 n 0 ls st M Q o_L_goBack_0 h
def k_L_goBack_12 : List am_I := [(.astore_n 3, 1, 0, 0, 0), (.iconst 1, 1, 0, 0, 0), (.ireturn, 1, 0, 0, 0)]
set_option maxRecDepth 20000 in
theorem o_L_goBack_12 : am_okB mt_L_goBack 12 k_L_goBack_12 = true := by decide +kernel
theorem g_L_goBack_12 {L : am_S} {n : Nat} {ls st : List Value} {M : am_M} {Q : am_Q} (h : am_B L mt_L_goBack k_L_goBack_12 n 12 ls st M Q) : am_R L mt_L_goBack n 12 ls st M Q := am_go L mt_L_goBack (fun h => by cases h) k_L_goBack_12 n 12 ls st M Q o_L_goBack_12 h
def k_L_goBack_15 : List am_I := [(.astore_n 3, 1, 0, 0, 0), (.iconst 2, 1, 0, 0, 0), (.ireturn, 1, 0, 0, 0)]
set_option maxRecDepth 20000 in
theorem o_L_goBack_15 : am_okB mt_L_goBack 15 k_L_goBack_15 = true := by decide +kernel
theorem g_L_goBack_15 {L : am_S} {n : Nat} {ls st : List Value} {M : am_M} {Q : am_Q} (h : am_B L mt_L_goBack k_L_goBack_15 n 15 ls st M Q) : am_R L mt_L_goBack n 15 ls st M Q := am_go L mt_L_goBack (fun h => by cases h) k_L_goBack_15 n 15 ls st M Q o_L_goBack_15 h
def k_L_goBack_18 : List am_I := [(.iconst 0, 1, 0, 0, 0), (.ireturn, 1, 0, 0, 0)]
set_option maxRecDepth 20000 in
theorem o_L_goBack_18 : am_okB mt_L_goBack 18 k_L_goBack_18 = true := by decide +kernel
theorem g_L_goBack_18 {L : am_S} {n : Nat} {ls st : List Value} {M : am_M} {Q : am_Q} (h : am_B L mt_L_goBack k_L_goBack_18 n 18 ls st M Q) : am_R L mt_L_goBack n 18 ls st M Q := am_go L mt_L_goBack (fun h => by cases h) k_L_goBack_18 n 18 ls st M Q o_L_goBack_18 h
def k_L_undo_0 : List am_I := [(.aload_n 1, 1, 0, 0, 0), (.iconst 0, 1, 0, 0, 0), (.aload_n 0, 1, 0, 0, 0), (.invokevirtual 59, 3, 51, 1, 663), (.i2l, 1, 0, 0, 0), (.lastore, 1, 0, 0, 0), (.goto 6, 3, 0, 0, 0)]
set_option maxRecDepth 20000 in
theorem o_L_undo_0 : am_okB mt_L_undo 0 k_L_undo_0 = true := by decide +kernel
theorem g_L_undo_0 {L : am_S} {n : Nat} {ls st : List Value} {M : am_M} {Q : am_Q} (h : am_B L mt_L_undo k_L_undo_0 n 0 ls st M Q) : am_R L mt_L_undo n 0 ls st M Q := am_go L mt_L_undo (fun h => by cases h) k_L_undo_0 n 0 ls st M Q o_L_undo_0 h
def k_L_undo_11 : List am_I := [(.astore_n 2, 1, 0, 0, 0), (.iconst 1, 1, 0, 0, 0), (.ireturn, 1, 0, 0, 0)]
set_option maxRecDepth 20000 in
theorem o_L_undo_11 : am_okB mt_L_undo 11 k_L_undo_11 = true := by decide +kernel
theorem g_L_undo_11 {L : am_S} {n : Nat} {ls st : List Value} {M : am_M} {Q : am_Q} (h : am_B L mt_L_undo k_L_undo_11 n 11 ls st M Q) : am_R L mt_L_undo n 11 ls st M Q := am_go L mt_L_undo (fun h => by cases h) k_L_undo_11 n 11 ls st M Q o_L_undo_11 h
def k_L_undo_14 : List am_I := [(.iconst 0, 1, 0, 0, 0), (.ireturn, 1, 0, 0, 0)]
set_option maxRecDepth 20000 in
theorem o_L_undo_14 : am_okB mt_L_undo 14 k_L_undo_14 = true := by decide +kernel
theorem g_L_undo_14 {L : am_S} {n : Nat} {ls st : List Value} {M : am_M} {Q : am_Q} (h : am_B L mt_L_undo k_L_undo_14 n 14 ls st M Q) : am_R L mt_L_undo n 14 ls st M Q := am_go L mt_L_undo (fun h => by cases h) k_L_undo_14 n 14 ls st M Q o_L_undo_14 h
def k_L_vatOf_0 : List am_I := [(.aload_n 3, 1, 0, 0, 0), (.iconst 0, 1, 0, 0, 0), (.aload_n 0, 1, 0, 0, 0), (.iload_n 1, 1, 0, 0, 0), (.iload_n 2, 1, 0, 0, 0), (.invokevirtual 62, 3, 52, 3, 671), (.i2l, 1, 0, 0, 0), (.lastore, 1, 0, 0, 0), (.goto 11, 3, 0, 0, 0)]
set_option maxRecDepth 20000 in
theorem o_L_vatOf_0 : am_okB mt_L_vatOf 0 k_L_vatOf_0 = true := by decide +kernel
theorem g_L_vatOf_0 {L : am_S} {n : Nat} {ls st : List Value} {M : am_M} {Q : am_Q} (h : am_B L mt_L_vatOf k_L_vatOf_0 n 0 ls st M Q) : am_R L mt_L_vatOf n 0 ls st M Q := am_go L mt_L_vatOf (fun h => by cases h) k_L_vatOf_0 n 0 ls st M Q o_L_vatOf_0 h
def k_L_vatOf_13 : List am_I := [(.astore 4, 2, 0, 0, 0), (.iconst 1, 1, 0, 0, 0), (.ireturn, 1, 0, 0, 0)]
set_option maxRecDepth 20000 in
theorem o_L_vatOf_13 : am_okB mt_L_vatOf 13 k_L_vatOf_13 = true := by decide +kernel
theorem g_L_vatOf_13 {L : am_S} {n : Nat} {ls st : List Value} {M : am_M} {Q : am_Q} (h : am_B L mt_L_vatOf k_L_vatOf_13 n 13 ls st M Q) : am_R L mt_L_vatOf n 13 ls st M Q := am_go L mt_L_vatOf (fun h => by cases h) k_L_vatOf_13 n 13 ls st M Q o_L_vatOf_13 h
def k_L_vatOf_17 : List am_I := [(.astore 4, 2, 0, 0, 0), (.iconst 2, 1, 0, 0, 0), (.ireturn, 1, 0, 0, 0)]
set_option maxRecDepth 20000 in
theorem o_L_vatOf_17 : am_okB mt_L_vatOf 17 k_L_vatOf_17 = true := by decide +kernel
theorem g_L_vatOf_17 {L : am_S} {n : Nat} {ls st : List Value} {M : am_M} {Q : am_Q} (h : am_B L mt_L_vatOf k_L_vatOf_17 n 17 ls st M Q) : am_R L mt_L_vatOf n 17 ls st M Q := am_go L mt_L_vatOf (fun h => by cases h) k_L_vatOf_17 n 17 ls st M Q o_L_vatOf_17 h
def k_L_vatOf_21 : List am_I := [(.iconst 0, 1, 0, 0, 0), (.ireturn, 1, 0, 0, 0)]
set_option maxRecDepth 20000 in
theorem o_L_vatOf_21 : am_okB mt_L_vatOf 21 k_L_vatOf_21 = true := by decide +kernel
theorem g_L_vatOf_21 {L : am_S} {n : Nat} {ls st : List Value} {M : am_M} {Q : am_Q} (h : am_B L mt_L_vatOf k_L_vatOf_21 n 21 ls st M Q) : am_R L mt_L_vatOf n 21 ls st M Q := am_go L mt_L_vatOf (fun h => by cases h) k_L_vatOf_21 n 21 ls st M Q o_L_vatOf_21 h
def k_L_valveOf_0 : List am_I := [(.aload_n 3, 1, 0, 0, 0), (.iconst 0, 1, 0, 0, 0), (.aload_n 0, 1, 0, 0, 0), (.iload_n 1, 1, 0, 0, 0), (.iload_n 2, 1, 0, 0, 0), (.invokevirtual 65, 3, 53, 3, 678), (.i2l, 1, 0, 0, 0), (.lastore, 1, 0, 0, 0), (.goto 11, 3, 0, 0, 0)]
set_option maxRecDepth 20000 in
theorem o_L_valveOf_0 : am_okB mt_L_valveOf 0 k_L_valveOf_0 = true := by decide +kernel
theorem g_L_valveOf_0 {L : am_S} {n : Nat} {ls st : List Value} {M : am_M} {Q : am_Q} (h : am_B L mt_L_valveOf k_L_valveOf_0 n 0 ls st M Q) : am_R L mt_L_valveOf n 0 ls st M Q := am_go L mt_L_valveOf (fun h => by cases h) k_L_valveOf_0 n 0 ls st M Q o_L_valveOf_0 h
def k_L_valveOf_13 : List am_I := [(.astore 4, 2, 0, 0, 0), (.iconst 1, 1, 0, 0, 0), (.ireturn, 1, 0, 0, 0)]
set_option maxRecDepth 20000 in
theorem o_L_valveOf_13 : am_okB mt_L_valveOf 13 k_L_valveOf_13 = true := by decide +kernel
theorem g_L_valveOf_13 {L : am_S} {n : Nat} {ls st : List Value} {M : am_M} {Q : am_Q} (h : am_B L mt_L_valveOf k_L_valveOf_13 n 13 ls st M Q) : am_R L mt_L_valveOf n 13 ls st M Q := am_go L mt_L_valveOf (fun h => by cases h) k_L_valveOf_13 n 13 ls st M Q o_L_valveOf_13 h
def k_L_valveOf_17 : List am_I := [(.astore 4, 2, 0, 0, 0), (.iconst 2, 1, 0, 0, 0), (.ireturn, 1, 0, 0, 0)]
set_option maxRecDepth 20000 in
theorem o_L_valveOf_17 : am_okB mt_L_valveOf 17 k_L_valveOf_17 = true := by decide +kernel
theorem g_L_valveOf_17 {L : am_S} {n : Nat} {ls st : List Value} {M : am_M} {Q : am_Q} (h : am_B L mt_L_valveOf k_L_valveOf_17 n 17 ls st M Q) : am_R L mt_L_valveOf n 17 ls st M Q := am_go L mt_L_valveOf (fun h => by cases h) k_L_valveOf_17 n 17 ls st M Q o_L_valveOf_17 h
def k_L_valveOf_21 : List am_I := [(.iconst 0, 1, 0, 0, 0), (.ireturn, 1, 0, 0, 0)]
set_option maxRecDepth 20000 in
theorem o_L_valveOf_21 : am_okB mt_L_valveOf 21 k_L_valveOf_21 = true := by decide +kernel
theorem g_L_valveOf_21 {L : am_S} {n : Nat} {ls st : List Value} {M : am_M} {Q : am_Q} (h : am_B L mt_L_valveOf k_L_valveOf_21 n 21 ls st M Q) : am_R L mt_L_valveOf n 21 ls st M Q := am_go L mt_L_valveOf (fun h => by cases h) k_L_valveOf_21 n 21 ls st M Q o_L_valveOf_21 h
def k_L_dyeOf_0 : List am_I := [(.aload_n 3, 1, 0, 0, 0), (.iconst 0, 1, 0, 0, 0), (.aload_n 0, 1, 0, 0, 0), (.iload_n 1, 1, 0, 0, 0), (.iload_n 2, 1, 0, 0, 0), (.invokevirtual 68, 3, 54, 3, 685), (.i2l, 1, 0, 0, 0), (.lastore, 1, 0, 0, 0), (.goto 11, 3, 0, 0, 0)]
set_option maxRecDepth 20000 in
theorem o_L_dyeOf_0 : am_okB mt_L_dyeOf 0 k_L_dyeOf_0 = true := by decide +kernel
theorem g_L_dyeOf_0 {L : am_S} {n : Nat} {ls st : List Value} {M : am_M} {Q : am_Q} (h : am_B L mt_L_dyeOf k_L_dyeOf_0 n 0 ls st M Q) : am_R L mt_L_dyeOf n 0 ls st M Q := am_go L mt_L_dyeOf (fun h => by cases h) k_L_dyeOf_0 n 0 ls st M Q o_L_dyeOf_0 h
def k_L_dyeOf_13 : List am_I := [(.astore 4, 2, 0, 0, 0), (.iconst 1, 1, 0, 0, 0), (.ireturn, 1, 0, 0, 0)]
set_option maxRecDepth 20000 in
theorem o_L_dyeOf_13 : am_okB mt_L_dyeOf 13 k_L_dyeOf_13 = true := by decide +kernel
theorem g_L_dyeOf_13 {L : am_S} {n : Nat} {ls st : List Value} {M : am_M} {Q : am_Q} (h : am_B L mt_L_dyeOf k_L_dyeOf_13 n 13 ls st M Q) : am_R L mt_L_dyeOf n 13 ls st M Q := am_go L mt_L_dyeOf (fun h => by cases h) k_L_dyeOf_13 n 13 ls st M Q o_L_dyeOf_13 h
def k_L_dyeOf_17 : List am_I := [(.astore 4, 2, 0, 0, 0), (.iconst 2, 1, 0, 0, 0), (.ireturn, 1, 0, 0, 0)]
set_option maxRecDepth 20000 in
theorem o_L_dyeOf_17 : am_okB mt_L_dyeOf 17 k_L_dyeOf_17 = true := by decide +kernel
theorem g_L_dyeOf_17 {L : am_S} {n : Nat} {ls st : List Value} {M : am_M} {Q : am_Q} (h : am_B L mt_L_dyeOf k_L_dyeOf_17 n 17 ls st M Q) : am_R L mt_L_dyeOf n 17 ls st M Q := am_go L mt_L_dyeOf (fun h => by cases h) k_L_dyeOf_17 n 17 ls st M Q o_L_dyeOf_17 h
def k_L_dyeOf_21 : List am_I := [(.iconst 0, 1, 0, 0, 0), (.ireturn, 1, 0, 0, 0)]
set_option maxRecDepth 20000 in
theorem o_L_dyeOf_21 : am_okB mt_L_dyeOf 21 k_L_dyeOf_21 = true := by decide +kernel
theorem g_L_dyeOf_21 {L : am_S} {n : Nat} {ls st : List Value} {M : am_M} {Q : am_Q} (h : am_B L mt_L_dyeOf k_L_dyeOf_21 n 21 ls st M Q) : am_R L mt_L_dyeOf n 21 ls st M Q := am_go L mt_L_dyeOf (fun h => by cases h) k_L_dyeOf_21 n 21 ls st M Q o_L_dyeOf_21 h
def k_L_count_0 : List am_I := [(.aload_n 2, 1, 0, 0, 0), (.iconst 0, 1, 0, 0, 0), (.aload_n 0, 1, 0, 0, 0), (.iload_n 1, 1, 0, 0, 0), (.invokevirtual 71, 3, 55, 2, 692), (.i2l, 1, 0, 0, 0), (.lastore, 1, 0, 0, 0), (.goto 6, 3, 0, 0, 0)]
set_option maxRecDepth 20000 in
theorem o_L_count_0 : am_okB mt_L_count 0 k_L_count_0 = true := by decide +kernel
theorem g_L_count_0 {L : am_S} {n : Nat} {ls st : List Value} {M : am_M} {Q : am_Q} (h : am_B L mt_L_count k_L_count_0 n 0 ls st M Q) : am_R L mt_L_count n 0 ls st M Q := am_go L mt_L_count (fun h => by cases h) k_L_count_0 n 0 ls st M Q o_L_count_0 h
def k_L_count_12 : List am_I := [(.astore_n 3, 1, 0, 0, 0), (.iconst 1, 1, 0, 0, 0), (.ireturn, 1, 0, 0, 0)]
set_option maxRecDepth 20000 in
theorem o_L_count_12 : am_okB mt_L_count 12 k_L_count_12 = true := by decide +kernel
theorem g_L_count_12 {L : am_S} {n : Nat} {ls st : List Value} {M : am_M} {Q : am_Q} (h : am_B L mt_L_count k_L_count_12 n 12 ls st M Q) : am_R L mt_L_count n 12 ls st M Q := am_go L mt_L_count (fun h => by cases h) k_L_count_12 n 12 ls st M Q o_L_count_12 h
def k_L_count_15 : List am_I := [(.iconst 0, 1, 0, 0, 0), (.ireturn, 1, 0, 0, 0)]
set_option maxRecDepth 20000 in
theorem o_L_count_15 : am_okB mt_L_count 15 k_L_count_15 = true := by decide +kernel
theorem g_L_count_15 {L : am_S} {n : Nat} {ls st : List Value} {M : am_M} {Q : am_Q} (h : am_B L mt_L_count k_L_count_15 n 15 ls st M Q) : am_R L mt_L_count n 15 ls st M Q := am_go L mt_L_count (fun h => by cases h) k_L_count_15 n 15 ls st M Q o_L_count_15 h
def k_L_ifPassed_0 : List am_I := [(.aload 4, 2, 0, 0, 0), (.iconst 0, 1, 0, 0, 0), (.aload_n 0, 1, 0, 0, 0), (.iload_n 1, 1, 0, 0, 0), (.iload_n 2, 1, 0, 0, 0), (.iload_n 3, 1, 0, 0, 0), (.invokevirtual 74, 3, 56, 4, 699), (.i2l, 1, 0, 0, 0), (.lastore, 1, 0, 0, 0), (.goto 11, 3, 0, 0, 0)]
set_option maxRecDepth 20000 in
theorem o_L_ifPassed_0 : am_okB mt_L_ifPassed 0 k_L_ifPassed_0 = true := by decide +kernel
theorem g_L_ifPassed_0 {L : am_S} {n : Nat} {ls st : List Value} {M : am_M} {Q : am_Q} (h : am_B L mt_L_ifPassed k_L_ifPassed_0 n 0 ls st M Q) : am_R L mt_L_ifPassed n 0 ls st M Q := am_go L mt_L_ifPassed (fun h => by cases h) k_L_ifPassed_0 n 0 ls st M Q o_L_ifPassed_0 h
def k_L_ifPassed_15 : List am_I := [(.astore 5, 2, 0, 0, 0), (.iconst 1, 1, 0, 0, 0), (.ireturn, 1, 0, 0, 0)]
set_option maxRecDepth 20000 in
theorem o_L_ifPassed_15 : am_okB mt_L_ifPassed 15 k_L_ifPassed_15 = true := by decide +kernel
theorem g_L_ifPassed_15 {L : am_S} {n : Nat} {ls st : List Value} {M : am_M} {Q : am_Q} (h : am_B L mt_L_ifPassed k_L_ifPassed_15 n 15 ls st M Q) : am_R L mt_L_ifPassed n 15 ls st M Q := am_go L mt_L_ifPassed (fun h => by cases h) k_L_ifPassed_15 n 15 ls st M Q o_L_ifPassed_15 h
def k_L_ifPassed_19 : List am_I := [(.astore 5, 2, 0, 0, 0), (.iconst 2, 1, 0, 0, 0), (.ireturn, 1, 0, 0, 0)]
set_option maxRecDepth 20000 in
theorem o_L_ifPassed_19 : am_okB mt_L_ifPassed 19 k_L_ifPassed_19 = true := by decide +kernel
theorem g_L_ifPassed_19 {L : am_S} {n : Nat} {ls st : List Value} {M : am_M} {Q : am_Q} (h : am_B L mt_L_ifPassed k_L_ifPassed_19 n 19 ls st M Q) : am_R L mt_L_ifPassed n 19 ls st M Q := am_go L mt_L_ifPassed (fun h => by cases h) k_L_ifPassed_19 n 19 ls st M Q o_L_ifPassed_19 h
def k_L_ifPassed_23 : List am_I := [(.iconst 0, 1, 0, 0, 0), (.ireturn, 1, 0, 0, 0)]
set_option maxRecDepth 20000 in
theorem o_L_ifPassed_23 : am_okB mt_L_ifPassed 23 k_L_ifPassed_23 = true := by decide +kernel
theorem g_L_ifPassed_23 {L : am_S} {n : Nat} {ls st : List Value} {M : am_M} {Q : am_Q} (h : am_B L mt_L_ifPassed k_L_ifPassed_23 n 23 ls st M Q) : am_R L mt_L_ifPassed n 23 ls st M Q := am_go L mt_L_ifPassed (fun h => by cases h) k_L_ifPassed_23 n 23 ls st M Q o_L_ifPassed_23 h
def k_L_emptyIn_0 : List am_I := [(.aload_n 2, 1, 0, 0, 0), (.iconst 0, 1, 0, 0, 0), (.aload_n 0, 1, 0, 0, 0), (.iload_n 1, 1, 0, 0, 0), (.invokevirtual 77, 3, 57, 2, 706), (.i2l, 1, 0, 0, 0), (.lastore, 1, 0, 0, 0), (.goto 6, 3, 0, 0, 0)]
set_option maxRecDepth 20000 in
theorem o_L_emptyIn_0 : am_okB mt_L_emptyIn 0 k_L_emptyIn_0 = true := by decide +kernel
theorem g_L_emptyIn_0 {L : am_S} {n : Nat} {ls st : List Value} {M : am_M} {Q : am_Q} (h : am_B L mt_L_emptyIn k_L_emptyIn_0 n 0 ls st M Q) : am_R L mt_L_emptyIn n 0 ls st M Q := am_go L mt_L_emptyIn (fun h => by cases h) k_L_emptyIn_0 n 0 ls st M Q o_L_emptyIn_0 h
def k_L_emptyIn_12 : List am_I := [(.astore_n 3, 1, 0, 0, 0), (.iconst 1, 1, 0, 0, 0), (.ireturn, 1, 0, 0, 0)]
set_option maxRecDepth 20000 in
theorem o_L_emptyIn_12 : am_okB mt_L_emptyIn 12 k_L_emptyIn_12 = true := by decide +kernel
theorem g_L_emptyIn_12 {L : am_S} {n : Nat} {ls st : List Value} {M : am_M} {Q : am_Q} (h : am_B L mt_L_emptyIn k_L_emptyIn_12 n 12 ls st M Q) : am_R L mt_L_emptyIn n 12 ls st M Q := am_go L mt_L_emptyIn (fun h => by cases h) k_L_emptyIn_12 n 12 ls st M Q o_L_emptyIn_12 h
def k_L_emptyIn_15 : List am_I := [(.iconst 0, 1, 0, 0, 0), (.ireturn, 1, 0, 0, 0)]
set_option maxRecDepth 20000 in
theorem o_L_emptyIn_15 : am_okB mt_L_emptyIn 15 k_L_emptyIn_15 = true := by decide +kernel
theorem g_L_emptyIn_15 {L : am_S} {n : Nat} {ls st : List Value} {M : am_M} {Q : am_Q} (h : am_B L mt_L_emptyIn k_L_emptyIn_15 n 15 ls st M Q) : am_R L mt_L_emptyIn n 15 ls st M Q := am_go L mt_L_emptyIn (fun h => by cases h) k_L_emptyIn_15 n 15 ls st M Q o_L_emptyIn_15 h
def k_L_round_0 : List am_I := [(.aload_n 2, 1, 0, 0, 0), (.iconst 0, 1, 0, 0, 0), (.aload_n 0, 1, 0, 0, 0), (.iload_n 1, 1, 0, 0, 0), (.invokevirtual 80, 3, 58, 2, 713), (.i2l, 1, 0, 0, 0), (.lastore, 1, 0, 0, 0), (.goto 6, 3, 0, 0, 0)]
set_option maxRecDepth 20000 in
theorem o_L_round_0 : am_okB mt_L_round 0 k_L_round_0 = true := by decide +kernel
theorem g_L_round_0 {L : am_S} {n : Nat} {ls st : List Value} {M : am_M} {Q : am_Q} (h : am_B L mt_L_round k_L_round_0 n 0 ls st M Q) : am_R L mt_L_round n 0 ls st M Q := am_go L mt_L_round (fun h => by cases h) k_L_round_0 n 0 ls st M Q o_L_round_0 h
def k_L_round_12 : List am_I := [(.astore_n 3, 1, 0, 0, 0), (.iconst 1, 1, 0, 0, 0), (.ireturn, 1, 0, 0, 0)]
set_option maxRecDepth 20000 in
theorem o_L_round_12 : am_okB mt_L_round 12 k_L_round_12 = true := by decide +kernel
theorem g_L_round_12 {L : am_S} {n : Nat} {ls st : List Value} {M : am_M} {Q : am_Q} (h : am_B L mt_L_round k_L_round_12 n 12 ls st M Q) : am_R L mt_L_round n 12 ls st M Q := am_go L mt_L_round (fun h => by cases h) k_L_round_12 n 12 ls st M Q o_L_round_12 h
def k_L_round_15 : List am_I := [(.iconst 0, 1, 0, 0, 0), (.ireturn, 1, 0, 0, 0)]
set_option maxRecDepth 20000 in
theorem o_L_round_15 : am_okB mt_L_round 15 k_L_round_15 = true := by decide +kernel
theorem g_L_round_15 {L : am_S} {n : Nat} {ls st : List Value} {M : am_M} {Q : am_Q} (h : am_B L mt_L_round k_L_round_15 n 15 ls st M Q) : am_R L mt_L_round n 15 ls st M Q := am_go L mt_L_round (fun h => by cases h) k_L_round_15 n 15 ls st M Q o_L_round_15 h
def k_L_law_23 : List am_I := [(.iload 4, 2, 0, 0, 0), (.aload_n 0, 1, 0, 0, 0), (.arraylength, 1, 0, 0, 0), (.bipush 6, 2, 0, 0, 0), (.isub, 1, 0, 0, 0), (.if_icmp .gt 1550, 3, 0, 0, 0), (.aload_n 0, 1, 0, 0, 0), (.iload 4, 2, 0, 0, 0), (.iaload, 1, 0, 0, 0), (.bipush 31, 2, 0, 0, 0), (.iand, 1, 0, 0, 0), (.tableswitch 1534 0 25 #[120, 188, 268, 324, 392, 496, 552, 620, 676, 732, 788, 801, 814, 858, 914, 970, 1014, 1082, 1150, 1218, 1274, 1354, 1410, 1466, 1479, 1520], 120, 0, 0, 0)]
set_option maxRecDepth 20000 in
theorem o_L_law_23 : am_okB mt_L_law 23 k_L_law_23 = true := by decide +kernel
theorem g_L_law_23 {L : am_S} (hL : L.1 < 2 ^ 31) {n : Nat} {ls st : List Value} {M : am_M} {Q : am_Q} (h : am_B L mt_L_law k_L_law_23 n 23 ls st M Q) : am_R L mt_L_law n 23 ls st M Q := am_go L mt_L_law (fun _ => hL) k_L_law_23 n 23 ls st M Q o_L_law_23 h
def k_L_law_160 : List am_I := [(.aload_n 1, 1, 0, 0, 0), (.aload_n 0, 1, 0, 0, 0), (.iload 4, 2, 0, 0, 0), (.iconst 1, 1, 0, 0, 0), (.iadd, 1, 0, 0, 0), (.iaload, 1, 0, 0, 0), (.aload_n 0, 1, 0, 0, 0), (.iload 4, 2, 0, 0, 0), (.iconst 2, 1, 0, 0, 0), (.iadd, 1, 0, 0, 0), (.iaload, 1, 0, 0, 0), (.aload_n 3, 1, 0, 0, 0), (.invokestatic 87, 3, 146, 4, 419), (.istore 5, 2, 0, 0, 0), (.aload_n 2, 1, 0, 0, 0), (.aload_n 0, 1, 0, 0, 0), (.iload 4, 2, 0, 0, 0), (.iconst 1, 1, 0, 0, 0), (.iadd, 1, 0, 0, 0), (.iaload, 1, 0, 0, 0), (.aload_n 0, 1, 0, 0, 0), (.iload 4, 2, 0, 0, 0), (.iconst 2, 1, 0, 0, 0), (.iadd, 1, 0, 0, 0), (.iaload, 1, 0, 0, 0), (.invokevirtual 92, 3, 93, 3, 806), (.istore 6, 2, 0, 0, 0), (.aload_n 2, 1, 0, 0, 0), (.invokevirtual 93, 3, 74, 1, 779), (.iload 5, 2, 0, 0, 0), (.if_icmp .eq 5, 3, 0, 0, 0), (.iconst 0, 1, 0, 0, 0), (.ireturn, 1, 0, 0, 0)]
set_option maxRecDepth 20000 in
theorem o_L_law_160 : am_okB mt_L_law 160 k_L_law_160 = true := by decide +kernel
theorem g_L_law_160 {L : am_S} (hL : L.1 < 2 ^ 31) {n : Nat} {ls st : List Value} {M : am_M} {Q : am_Q} (h : am_B L mt_L_law k_L_law_160 n 160 ls st M Q) : am_R L mt_L_law n 160 ls st M Q := am_go L mt_L_law (fun _ => hL) k_L_law_160 n 160 ls st M Q o_L_law_160 h
def k_L_law_208 : List am_I := [(.iload 5, 2, 0, 0, 0), (.ifCond .ne 15, 3, 0, 0, 0), (.aload_n 3, 1, 0, 0, 0), (.iconst 0, 1, 0, 0, 0), (.laload, 1, 0, 0, 0), (.iload 6, 2, 0, 0, 0), (.i2l, 1, 0, 0, 0), (.lcmp, 1, 0, 0, 0), (.ifCond .eq 5, 3, 0, 0, 0), (.iconst 0, 1, 0, 0, 0), (.ireturn, 1, 0, 0, 0)]
set_option maxRecDepth 20000 in
theorem o_L_law_208 : am_okB mt_L_law 208 k_L_law_208 = true := by decide +kernel
theorem g_L_law_208 {L : am_S} (hL : L.1 < 2 ^ 31) {n : Nat} {ls st : List Value} {M : am_M} {Q : am_Q} (h : am_B L mt_L_law k_L_law_208 n 208 ls st M Q) : am_R L mt_L_law n 208 ls st M Q := am_go L mt_L_law (fun _ => hL) k_L_law_208 n 208 ls st M Q o_L_law_208 h
def k_L_law_225 : List am_I := [(.goto 1349, 3, 0, 0, 0)]
set_option maxRecDepth 20000 in
theorem o_L_law_225 : am_okB mt_L_law 225 k_L_law_225 = true := by decide +kernel
theorem g_L_law_225 {L : am_S} (hL : L.1 < 2 ^ 31) {n : Nat} {ls st : List Value} {M : am_M} {Q : am_Q} (h : am_B L mt_L_law k_L_law_225 n 225 ls st M Q) : am_R L mt_L_law n 225 ls st M Q := am_go L mt_L_law (fun _ => hL) k_L_law_225 n 225 ls st M Q o_L_law_225 h
def k_L_law_228 : List am_I := [(.aload_n 1, 1, 0, 0, 0), (.aload_n 0, 1, 0, 0, 0), (.iload 4, 2, 0, 0, 0), (.iconst 1, 1, 0, 0, 0), (.iadd, 1, 0, 0, 0), (.iaload, 1, 0, 0, 0), (.aload_n 0, 1, 0, 0, 0), (.iload 4, 2, 0, 0, 0), (.iconst 2, 1, 0, 0, 0), (.iadd, 1, 0, 0, 0), (.iaload, 1, 0, 0, 0), (.aload_n 0, 1, 0, 0, 0), (.iload 4, 2, 0, 0, 0), (.iconst 3, 1, 0, 0, 0), (.iadd, 1, 0, 0, 0), (.iaload, 1, 0, 0, 0), (.aload_n 3, 1, 0, 0, 0), (.invokestatic 96, 3, 147, 5, 526), (.istore 5, 2, 0, 0, 0), (.aload_n 2, 1, 0, 0, 0), (.aload_n 0, 1, 0, 0, 0), (.iload 4, 2, 0, 0, 0), (.iconst 1, 1, 0, 0, 0), (.iadd, 1, 0, 0, 0), (.iaload, 1, 0, 0, 0), (.aload_n 0, 1, 0, 0, 0), (.iload 4, 2, 0, 0, 0), (.iconst 2, 1, 0, 0, 0), (.iadd, 1, 0, 0, 0), (.iaload, 1, 0, 0, 0), (.aload_n 0, 1, 0, 0, 0), (.iload 4, 2, 0, 0, 0), (.iconst 3, 1, 0, 0, 0), (.iadd, 1, 0, 0, 0), (.iaload, 1, 0, 0, 0), (.invokevirtual 99, 3, 94, 4, 821), (.istore 6, 2, 0, 0, 0), (.aload_n 2, 1, 0, 0, 0), (.invokevirtual 93, 3, 74, 1, 779), (.iload 5, 2, 0, 0, 0), (.if_icmp .eq 5, 3, 0, 0, 0), (.iconst 0, 1, 0, 0, 0), (.ireturn, 1, 0, 0, 0)]
set_option maxRecDepth 20000 in
theorem o_L_law_228 : am_okB mt_L_law 228 k_L_law_228 = true := by decide +kernel
theorem g_L_law_228 {L : am_S} (hL : L.1 < 2 ^ 31) {n : Nat} {ls st : List Value} {M : am_M} {Q : am_Q} (h : am_B L mt_L_law k_L_law_228 n 228 ls st M Q) : am_R L mt_L_law n 228 ls st M Q := am_go L mt_L_law (fun _ => hL) k_L_law_228 n 228 ls st M Q o_L_law_228 h
def k_L_law_288 : List am_I := [(.iload 5, 2, 0, 0, 0), (.ifCond .ne 15, 3, 0, 0, 0), (.aload_n 3, 1, 0, 0, 0), (.iconst 0, 1, 0, 0, 0), (.laload, 1, 0, 0, 0), (.iload 6, 2, 0, 0, 0), (.i2l, 1, 0, 0, 0), (.lcmp, 1, 0, 0, 0), (.ifCond .eq 5, 3, 0, 0, 0), (.iconst 0, 1, 0, 0, 0), (.ireturn, 1, 0, 0, 0)]
set_option maxRecDepth 20000 in
theorem o_L_law_288 : am_okB mt_L_law 288 k_L_law_288 = true := by decide +kernel
theorem g_L_law_288 {L : am_S} (hL : L.1 < 2 ^ 31) {n : Nat} {ls st : List Value} {M : am_M} {Q : am_Q} (h : am_B L mt_L_law k_L_law_288 n 288 ls st M Q) : am_R L mt_L_law n 288 ls st M Q := am_go L mt_L_law (fun _ => hL) k_L_law_288 n 288 ls st M Q o_L_law_288 h
def k_L_law_305 : List am_I := [(.goto 1269, 3, 0, 0, 0)]
set_option maxRecDepth 20000 in
theorem o_L_law_305 : am_okB mt_L_law 305 k_L_law_305 = true := by decide +kernel
theorem g_L_law_305 {L : am_S} (hL : L.1 < 2 ^ 31) {n : Nat} {ls st : List Value} {M : am_M} {Q : am_Q} (h : am_B L mt_L_law k_L_law_305 n 305 ls st M Q) : am_R L mt_L_law n 305 ls st M Q := am_go L mt_L_law (fun _ => hL) k_L_law_305 n 305 ls st M Q o_L_law_305 h
def k_L_law_308 : List am_I := [(.aload_n 1, 1, 0, 0, 0), (.aload_n 0, 1, 0, 0, 0), (.iload 4, 2, 0, 0, 0), (.iconst 1, 1, 0, 0, 0), (.iadd, 1, 0, 0, 0), (.iaload, 1, 0, 0, 0), (.aload_n 3, 1, 0, 0, 0), (.invokestatic 100, 3, 148, 3, 555), (.istore 5, 2, 0, 0, 0), (.aload_n 2, 1, 0, 0, 0), (.aload_n 0, 1, 0, 0, 0), (.iload 4, 2, 0, 0, 0), (.iconst 1, 1, 0, 0, 0), (.iadd, 1, 0, 0, 0), (.iaload, 1, 0, 0, 0), (.invokevirtual 103, 3, 95, 2, 829), (.istore 6, 2, 0, 0, 0), (.aload_n 2, 1, 0, 0, 0), (.invokevirtual 93, 3, 74, 1, 779), (.iload 5, 2, 0, 0, 0), (.if_icmp .eq 5, 3, 0, 0, 0), (.iconst 0, 1, 0, 0, 0), (.ireturn, 1, 0, 0, 0)]
set_option maxRecDepth 20000 in
theorem o_L_law_308 : am_okB mt_L_law 308 k_L_law_308 = true := by decide +kernel
theorem g_L_law_308 {L : am_S} (hL : L.1 < 2 ^ 31) {n : Nat} {ls st : List Value} {M : am_M} {Q : am_Q} (h : am_B L mt_L_law k_L_law_308 n 308 ls st M Q) : am_R L mt_L_law n 308 ls st M Q := am_go L mt_L_law (fun _ => hL) k_L_law_308 n 308 ls st M Q o_L_law_308 h
def k_L_law_344 : List am_I := [(.iload 5, 2, 0, 0, 0), (.ifCond .ne 15, 3, 0, 0, 0), (.aload_n 3, 1, 0, 0, 0), (.iconst 0, 1, 0, 0, 0), (.laload, 1, 0, 0, 0), (.iload 6, 2, 0, 0, 0), (.i2l, 1, 0, 0, 0), (.lcmp, 1, 0, 0, 0), (.ifCond .eq 5, 3, 0, 0, 0), (.iconst 0, 1, 0, 0, 0), (.ireturn, 1, 0, 0, 0)]
set_option maxRecDepth 20000 in
theorem o_L_law_344 : am_okB mt_L_law 344 k_L_law_344 = true := by decide +kernel
theorem g_L_law_344 {L : am_S} (hL : L.1 < 2 ^ 31) {n : Nat} {ls st : List Value} {M : am_M} {Q : am_Q} (h : am_B L mt_L_law k_L_law_344 n 344 ls st M Q) : am_R L mt_L_law n 344 ls st M Q := am_go L mt_L_law (fun _ => hL) k_L_law_344 n 344 ls st M Q o_L_law_344 h
def k_L_law_361 : List am_I := [(.goto 1213, 3, 0, 0, 0)]
set_option maxRecDepth 20000 in
theorem o_L_law_361 : am_okB mt_L_law 361 k_L_law_361 = true := by decide +kernel
theorem g_L_law_361 {L : am_S} (hL : L.1 < 2 ^ 31) {n : Nat} {ls st : List Value} {M : am_M} {Q : am_Q} (h : am_B L mt_L_law k_L_law_361 n 361 ls st M Q) : am_R L mt_L_law n 361 ls st M Q := am_go L mt_L_law (fun _ => hL) k_L_law_361 n 361 ls st M Q o_L_law_361 h
def k_L_law_364 : List am_I := [(.aload_n 1, 1, 0, 0, 0), (.aload_n 0, 1, 0, 0, 0), (.iload 4, 2, 0, 0, 0), (.iconst 1, 1, 0, 0, 0), (.iadd, 1, 0, 0, 0), (.iaload, 1, 0, 0, 0), (.aload_n 0, 1, 0, 0, 0), (.iload 4, 2, 0, 0, 0), (.iconst 2, 1, 0, 0, 0), (.iadd, 1, 0, 0, 0), (.iaload, 1, 0, 0, 0), (.aload_n 3, 1, 0, 0, 0), (.invokestatic 104, 3, 149, 4, 569), (.istore 5, 2, 0, 0, 0), (.aload_n 2, 1, 0, 0, 0), (.aload_n 0, 1, 0, 0, 0), (.iload 4, 2, 0, 0, 0), (.iconst 1, 1, 0, 0, 0), (.iadd, 1, 0, 0, 0), (.iaload, 1, 0, 0, 0), (.aload_n 0, 1, 0, 0, 0), (.iload 4, 2, 0, 0, 0), (.iconst 2, 1, 0, 0, 0), (.iadd, 1, 0, 0, 0), (.iaload, 1, 0, 0, 0), (.invokevirtual 106, 3, 96, 3, 840), (.istore 6, 2, 0, 0, 0), (.aload_n 2, 1, 0, 0, 0), (.invokevirtual 93, 3, 74, 1, 779), (.iload 5, 2, 0, 0, 0), (.if_icmp .eq 5, 3, 0, 0, 0), (.iconst 0, 1, 0, 0, 0), (.ireturn, 1, 0, 0, 0)]
set_option maxRecDepth 20000 in
theorem o_L_law_364 : am_okB mt_L_law 364 k_L_law_364 = true := by decide +kernel
theorem g_L_law_364 {L : am_S} (hL : L.1 < 2 ^ 31) {n : Nat} {ls st : List Value} {M : am_M} {Q : am_Q} (h : am_B L mt_L_law k_L_law_364 n 364 ls st M Q) : am_R L mt_L_law n 364 ls st M Q := am_go L mt_L_law (fun _ => hL) k_L_law_364 n 364 ls st M Q o_L_law_364 h
def k_L_law_412 : List am_I := [(.iload 5, 2, 0, 0, 0), (.ifCond .ne 15, 3, 0, 0, 0), (.aload_n 3, 1, 0, 0, 0), (.iconst 0, 1, 0, 0, 0), (.laload, 1, 0, 0, 0), (.iload 6, 2, 0, 0, 0), (.i2l, 1, 0, 0, 0), (.lcmp, 1, 0, 0, 0), (.ifCond .eq 5, 3, 0, 0, 0), (.iconst 0, 1, 0, 0, 0), (.ireturn, 1, 0, 0, 0)]
set_option maxRecDepth 20000 in
theorem o_L_law_412 : am_okB mt_L_law 412 k_L_law_412 = true := by decide +kernel
theorem g_L_law_412 {L : am_S} (hL : L.1 < 2 ^ 31) {n : Nat} {ls st : List Value} {M : am_M} {Q : am_Q} (h : am_B L mt_L_law k_L_law_412 n 412 ls st M Q) : am_R L mt_L_law n 412 ls st M Q := am_go L mt_L_law (fun _ => hL) k_L_law_412 n 412 ls st M Q o_L_law_412 h
def k_L_law_429 : List am_I := [(.goto 1145, 3, 0, 0, 0)]
set_option maxRecDepth 20000 in
theorem o_L_law_429 : am_okB mt_L_law 429 k_L_law_429 = true := by decide +kernel
theorem g_L_law_429 {L : am_S} (hL : L.1 < 2 ^ 31) {n : Nat} {ls st : List Value} {M : am_M} {Q : am_Q} (h : am_B L mt_L_law k_L_law_429 n 429 ls st M Q) : am_R L mt_L_law n 429 ls st M Q := am_go L mt_L_law (fun _ => hL) k_L_law_429 n 429 ls st M Q o_L_law_429 h
def k_L_law_432 : List am_I := [(.aload_n 1, 1, 0, 0, 0), (.aload_n 0, 1, 0, 0, 0), (.iload 4, 2, 0, 0, 0), (.iconst 1, 1, 0, 0, 0), (.iadd, 1, 0, 0, 0), (.iaload, 1, 0, 0, 0), (.aload_n 0, 1, 0, 0, 0), (.iload 4, 2, 0, 0, 0), (.iconst 2, 1, 0, 0, 0), (.iadd, 1, 0, 0, 0), (.iaload, 1, 0, 0, 0), (.aload_n 0, 1, 0, 0, 0), (.iload 4, 2, 0, 0, 0), (.iconst 3, 1, 0, 0, 0), (.iadd, 1, 0, 0, 0), (.iaload, 1, 0, 0, 0), (.aload_n 0, 1, 0, 0, 0), (.iload 4, 2, 0, 0, 0), (.iconst 4, 1, 0, 0, 0), (.iadd, 1, 0, 0, 0), (.iaload, 1, 0, 0, 0), (.aload_n 0, 1, 0, 0, 0), (.iload 4, 2, 0, 0, 0), (.iconst 5, 1, 0, 0, 0), (.iadd, 1, 0, 0, 0), (.iaload, 1, 0, 0, 0), (.aload_n 3, 1, 0, 0, 0), (.invokestatic 107, 3, 150, 7, 576), (.istore 5, 2, 0, 0, 0), (.aload_n 2, 1, 0, 0, 0), (.aload_n 0, 1, 0, 0, 0), (.iload 4, 2, 0, 0, 0), (.iconst 1, 1, 0, 0, 0), (.iadd, 1, 0, 0, 0), (.iaload, 1, 0, 0, 0), (.aload_n 0, 1, 0, 0, 0), (.iload 4, 2, 0, 0, 0), (.iconst 2, 1, 0, 0, 0), (.iadd, 1, 0, 0, 0), (.iaload, 1, 0, 0, 0), (.aload_n 0, 1, 0, 0, 0), (.iload 4, 2, 0, 0, 0), (.iconst 3, 1, 0, 0, 0), (.iadd, 1, 0, 0, 0), (.iaload, 1, 0, 0, 0), (.aload_n 0, 1, 0, 0, 0), (.iload 4, 2, 0, 0, 0), (.iconst 4, 1, 0, 0, 0), (.iadd, 1, 0, 0, 0), (.iaload, 1, 0, 0, 0), (.aload_n 0, 1, 0, 0, 0), (.iload 4, 2, 0, 0, 0), (.iconst 5, 1, 0, 0, 0), (.iadd, 1, 0, 0, 0), (.iaload, 1, 0, 0, 0), (.invokevirtual 110, 3, 98, 6, 844), (.istore 6, 2, 0, 0, 0), (.aload_n 2, 1, 0, 0, 0), (.invokevirtual 93, 3, 74, 1, 779), (.iload 5, 2, 0, 0, 0), (.if_icmp .eq 5, 3, 0, 0, 0), (.iconst 0, 1, 0, 0, 0), (.ireturn, 1, 0, 0, 0)]
set_option maxRecDepth 20000 in
theorem o_L_law_432 : am_okB mt_L_law 432 k_L_law_432 = true := by decide +kernel
theorem g_L_law_432 {L : am_S} (hL : L.1 < 2 ^ 31) {n : Nat} {ls st : List Value} {M : am_M} {Q : am_Q} (h : am_B L mt_L_law k_L_law_432 n 432 ls st M Q) : am_R L mt_L_law n 432 ls st M Q := am_go L mt_L_law (fun _ => hL) k_L_law_432 n 432 ls st M Q o_L_law_432 h
def k_L_law_516 : List am_I := [(.iload 5, 2, 0, 0, 0), (.ifCond .ne 15, 3, 0, 0, 0), (.aload_n 3, 1, 0, 0, 0), (.iconst 0, 1, 0, 0, 0), (.laload, 1, 0, 0, 0), (.iload 6, 2, 0, 0, 0), (.i2l, 1, 0, 0, 0), (.lcmp, 1, 0, 0, 0), (.ifCond .eq 5, 3, 0, 0, 0), (.iconst 0, 1, 0, 0, 0), (.ireturn, 1, 0, 0, 0)]
set_option maxRecDepth 20000 in
theorem o_L_law_516 : am_okB mt_L_law 516 k_L_law_516 = true := by decide +kernel
theorem g_L_law_516 {L : am_S} (hL : L.1 < 2 ^ 31) {n : Nat} {ls st : List Value} {M : am_M} {Q : am_Q} (h : am_B L mt_L_law k_L_law_516 n 516 ls st M Q) : am_R L mt_L_law n 516 ls st M Q := am_go L mt_L_law (fun _ => hL) k_L_law_516 n 516 ls st M Q o_L_law_516 h
def k_L_law_533 : List am_I := [(.goto 1041, 3, 0, 0, 0)]
set_option maxRecDepth 20000 in
theorem o_L_law_533 : am_okB mt_L_law 533 k_L_law_533 = true := by decide +kernel
theorem g_L_law_533 {L : am_S} (hL : L.1 < 2 ^ 31) {n : Nat} {ls st : List Value} {M : am_M} {Q : am_Q} (h : am_B L mt_L_law k_L_law_533 n 533 ls st M Q) : am_R L mt_L_law n 533 ls st M Q := am_go L mt_L_law (fun _ => hL) k_L_law_533 n 533 ls st M Q o_L_law_533 h
def k_L_law_536 : List am_I := [(.aload_n 1, 1, 0, 0, 0), (.aload_n 0, 1, 0, 0, 0), (.iload 4, 2, 0, 0, 0), (.iconst 1, 1, 0, 0, 0), (.iadd, 1, 0, 0, 0), (.iaload, 1, 0, 0, 0), (.aload_n 3, 1, 0, 0, 0), (.invokestatic 111, 3, 151, 3, 585), (.istore 5, 2, 0, 0, 0), (.aload_n 2, 1, 0, 0, 0), (.aload_n 0, 1, 0, 0, 0), (.iload 4, 2, 0, 0, 0), (.iconst 1, 1, 0, 0, 0), (.iadd, 1, 0, 0, 0), (.iaload, 1, 0, 0, 0), (.invokevirtual 113, 3, 100, 2, 852), (.istore 6, 2, 0, 0, 0), (.aload_n 2, 1, 0, 0, 0), (.invokevirtual 93, 3, 74, 1, 779), (.iload 5, 2, 0, 0, 0), (.if_icmp .eq 5, 3, 0, 0, 0), (.iconst 0, 1, 0, 0, 0), (.ireturn, 1, 0, 0, 0)]
set_option maxRecDepth 20000 in
theorem o_L_law_536 : am_okB mt_L_law 536 k_L_law_536 = true := by decide +kernel
theorem g_L_law_536 {L : am_S} (hL : L.1 < 2 ^ 31) {n : Nat} {ls st : List Value} {M : am_M} {Q : am_Q} (h : am_B L mt_L_law k_L_law_536 n 536 ls st M Q) : am_R L mt_L_law n 536 ls st M Q := am_go L mt_L_law (fun _ => hL) k_L_law_536 n 536 ls st M Q o_L_law_536 h
def k_L_law_572 : List am_I := [(.iload 5, 2, 0, 0, 0), (.ifCond .ne 15, 3, 0, 0, 0), (.aload_n 3, 1, 0, 0, 0), (.iconst 0, 1, 0, 0, 0), (.laload, 1, 0, 0, 0), (.iload 6, 2, 0, 0, 0), (.i2l, 1, 0, 0, 0), (.lcmp, 1, 0, 0, 0), (.ifCond .eq 5, 3, 0, 0, 0), (.iconst 0, 1, 0, 0, 0), (.ireturn, 1, 0, 0, 0)]
set_option maxRecDepth 20000 in
theorem o_L_law_572 : am_okB mt_L_law 572 k_L_law_572 = true := by decide +kernel
theorem g_L_law_572 {L : am_S} (hL : L.1 < 2 ^ 31) {n : Nat} {ls st : List Value} {M : am_M} {Q : am_Q} (h : am_B L mt_L_law k_L_law_572 n 572 ls st M Q) : am_R L mt_L_law n 572 ls st M Q := am_go L mt_L_law (fun _ => hL) k_L_law_572 n 572 ls st M Q o_L_law_572 h
def k_L_law_589 : List am_I := [(.goto 985, 3, 0, 0, 0)]
set_option maxRecDepth 20000 in
theorem o_L_law_589 : am_okB mt_L_law 589 k_L_law_589 = true := by decide +kernel
theorem g_L_law_589 {L : am_S} (hL : L.1 < 2 ^ 31) {n : Nat} {ls st : List Value} {M : am_M} {Q : am_Q} (h : am_B L mt_L_law k_L_law_589 n 589 ls st M Q) : am_R L mt_L_law n 589 ls st M Q := am_go L mt_L_law (fun _ => hL) k_L_law_589 n 589 ls st M Q o_L_law_589 h
def k_L_law_592 : List am_I := [(.aload_n 1, 1, 0, 0, 0), (.aload_n 0, 1, 0, 0, 0), (.iload 4, 2, 0, 0, 0), (.iconst 1, 1, 0, 0, 0), (.iadd, 1, 0, 0, 0), (.iaload, 1, 0, 0, 0), (.aload_n 0, 1, 0, 0, 0), (.iload 4, 2, 0, 0, 0), (.iconst 2, 1, 0, 0, 0), (.iadd, 1, 0, 0, 0), (.iaload, 1, 0, 0, 0), (.aload_n 3, 1, 0, 0, 0), (.invokestatic 114, 3, 152, 4, 597), (.istore 5, 2, 0, 0, 0), (.aload_n 2, 1, 0, 0, 0), (.aload_n 0, 1, 0, 0, 0), (.iload 4, 2, 0, 0, 0), (.iconst 1, 1, 0, 0, 0), (.iadd, 1, 0, 0, 0), (.iaload, 1, 0, 0, 0), (.aload_n 0, 1, 0, 0, 0), (.iload 4, 2, 0, 0, 0), (.iconst 2, 1, 0, 0, 0), (.iadd, 1, 0, 0, 0), (.iaload, 1, 0, 0, 0), (.invokevirtual 116, 3, 102, 3, 864), (.istore 6, 2, 0, 0, 0), (.aload_n 2, 1, 0, 0, 0), (.invokevirtual 93, 3, 74, 1, 779), (.iload 5, 2, 0, 0, 0), (.if_icmp .eq 5, 3, 0, 0, 0), (.iconst 0, 1, 0, 0, 0), (.ireturn, 1, 0, 0, 0)]
set_option maxRecDepth 20000 in
theorem o_L_law_592 : am_okB mt_L_law 592 k_L_law_592 = true := by decide +kernel
theorem g_L_law_592 {L : am_S} (hL : L.1 < 2 ^ 31) {n : Nat} {ls st : List Value} {M : am_M} {Q : am_Q} (h : am_B L mt_L_law k_L_law_592 n 592 ls st M Q) : am_R L mt_L_law n 592 ls st M Q := am_go L mt_L_law (fun _ => hL) k_L_law_592 n 592 ls st M Q o_L_law_592 h
def k_L_law_640 : List am_I := [(.iload 5, 2, 0, 0, 0), (.ifCond .ne 15, 3, 0, 0, 0), (.aload_n 3, 1, 0, 0, 0), (.iconst 0, 1, 0, 0, 0), (.laload, 1, 0, 0, 0), (.iload 6, 2, 0, 0, 0), (.i2l, 1, 0, 0, 0), (.lcmp, 1, 0, 0, 0), (.ifCond .eq 5, 3, 0, 0, 0), (.iconst 0, 1, 0, 0, 0), (.ireturn, 1, 0, 0, 0)]
set_option maxRecDepth 20000 in
theorem o_L_law_640 : am_okB mt_L_law 640 k_L_law_640 = true := by decide +kernel
theorem g_L_law_640 {L : am_S} (hL : L.1 < 2 ^ 31) {n : Nat} {ls st : List Value} {M : am_M} {Q : am_Q} (h : am_B L mt_L_law k_L_law_640 n 640 ls st M Q) : am_R L mt_L_law n 640 ls st M Q := am_go L mt_L_law (fun _ => hL) k_L_law_640 n 640 ls st M Q o_L_law_640 h
def k_L_law_657 : List am_I := [(.goto 917, 3, 0, 0, 0)]
set_option maxRecDepth 20000 in
theorem o_L_law_657 : am_okB mt_L_law 657 k_L_law_657 = true := by decide +kernel
theorem g_L_law_657 {L : am_S} (hL : L.1 < 2 ^ 31) {n : Nat} {ls st : List Value} {M : am_M} {Q : am_Q} (h : am_B L mt_L_law k_L_law_657 n 657 ls st M Q) : am_R L mt_L_law n 657 ls st M Q := am_go L mt_L_law (fun _ => hL) k_L_law_657 n 657 ls st M Q o_L_law_657 h
def k_L_law_660 : List am_I := [(.aload_n 1, 1, 0, 0, 0), (.aload_n 0, 1, 0, 0, 0), (.iload 4, 2, 0, 0, 0), (.iconst 1, 1, 0, 0, 0), (.iadd, 1, 0, 0, 0), (.iaload, 1, 0, 0, 0), (.aload_n 3, 1, 0, 0, 0), (.invokestatic 117, 3, 153, 3, 605), (.istore 5, 2, 0, 0, 0), (.aload_n 2, 1, 0, 0, 0), (.aload_n 0, 1, 0, 0, 0), (.iload 4, 2, 0, 0, 0), (.iconst 1, 1, 0, 0, 0), (.iadd, 1, 0, 0, 0), (.iaload, 1, 0, 0, 0), (.invokevirtual 119, 3, 103, 2, 872), (.istore 6, 2, 0, 0, 0), (.aload_n 2, 1, 0, 0, 0), (.invokevirtual 93, 3, 74, 1, 779), (.iload 5, 2, 0, 0, 0), (.if_icmp .eq 5, 3, 0, 0, 0), (.iconst 0, 1, 0, 0, 0), (.ireturn, 1, 0, 0, 0)]
set_option maxRecDepth 20000 in
theorem o_L_law_660 : am_okB mt_L_law 660 k_L_law_660 = true := by decide +kernel
theorem g_L_law_660 {L : am_S} (hL : L.1 < 2 ^ 31) {n : Nat} {ls st : List Value} {M : am_M} {Q : am_Q} (h : am_B L mt_L_law k_L_law_660 n 660 ls st M Q) : am_R L mt_L_law n 660 ls st M Q := am_go L mt_L_law (fun _ => hL) k_L_law_660 n 660 ls st M Q o_L_law_660 h
def k_L_law_696 : List am_I := [(.iload 5, 2, 0, 0, 0), (.ifCond .ne 15, 3, 0, 0, 0), (.aload_n 3, 1, 0, 0, 0), (.iconst 0, 1, 0, 0, 0), (.laload, 1, 0, 0, 0), (.iload 6, 2, 0, 0, 0), (.i2l, 1, 0, 0, 0), (.lcmp, 1, 0, 0, 0), (.ifCond .eq 5, 3, 0, 0, 0), (.iconst 0, 1, 0, 0, 0), (.ireturn, 1, 0, 0, 0)]
set_option maxRecDepth 20000 in
theorem o_L_law_696 : am_okB mt_L_law 696 k_L_law_696 = true := by decide +kernel
theorem g_L_law_696 {L : am_S} (hL : L.1 < 2 ^ 31) {n : Nat} {ls st : List Value} {M : am_M} {Q : am_Q} (h : am_B L mt_L_law k_L_law_696 n 696 ls st M Q) : am_R L mt_L_law n 696 ls st M Q := am_go L mt_L_law (fun _ => hL) k_L_law_696 n 696 ls st M Q o_L_law_696 h
def k_L_law_713 : List am_I := [(.goto 861, 3, 0, 0, 0)]
set_option maxRecDepth 20000 in
theorem o_L_law_713 : am_okB mt_L_law 713 k_L_law_713 = true := by decide +kernel
theorem g_L_law_713 {L : am_S} (hL : L.1 < 2 ^ 31) {n : Nat} {ls st : List Value} {M : am_M} {Q : am_Q} (h : am_B L mt_L_law k_L_law_713 n 713 ls st M Q) : am_R L mt_L_law n 713 ls st M Q := am_go L mt_L_law (fun _ => hL) k_L_law_713 n 713 ls st M Q o_L_law_713 h
def k_L_law_716 : List am_I := [(.aload_n 1, 1, 0, 0, 0), (.aload_n 0, 1, 0, 0, 0), (.iload 4, 2, 0, 0, 0), (.iconst 1, 1, 0, 0, 0), (.iadd, 1, 0, 0, 0), (.iaload, 1, 0, 0, 0), (.aload_n 3, 1, 0, 0, 0), (.invokestatic 120, 3, 154, 3, 612), (.istore 5, 2, 0, 0, 0), (.aload_n 2, 1, 0, 0, 0), (.aload_n 0, 1, 0, 0, 0), (.iload 4, 2, 0, 0, 0), (.iconst 1, 1, 0, 0, 0), (.iadd, 1, 0, 0, 0), (.iaload, 1, 0, 0, 0), (.invokevirtual 122, 3, 109, 2, 876), (.istore 6, 2, 0, 0, 0), (.aload_n 2, 1, 0, 0, 0), (.invokevirtual 93, 3, 74, 1, 779), (.iload 5, 2, 0, 0, 0), (.if_icmp .eq 5, 3, 0, 0, 0), (.iconst 0, 1, 0, 0, 0), (.ireturn, 1, 0, 0, 0)]
set_option maxRecDepth 20000 in
theorem o_L_law_716 : am_okB mt_L_law 716 k_L_law_716 = true := by decide +kernel
theorem g_L_law_716 {L : am_S} (hL : L.1 < 2 ^ 31) {n : Nat} {ls st : List Value} {M : am_M} {Q : am_Q} (h : am_B L mt_L_law k_L_law_716 n 716 ls st M Q) : am_R L mt_L_law n 716 ls st M Q := am_go L mt_L_law (fun _ => hL) k_L_law_716 n 716 ls st M Q o_L_law_716 h
def k_L_law_752 : List am_I := [(.iload 5, 2, 0, 0, 0), (.ifCond .ne 15, 3, 0, 0, 0), (.aload_n 3, 1, 0, 0, 0), (.iconst 0, 1, 0, 0, 0), (.laload, 1, 0, 0, 0), (.iload 6, 2, 0, 0, 0), (.i2l, 1, 0, 0, 0), (.lcmp, 1, 0, 0, 0), (.ifCond .eq 5, 3, 0, 0, 0), (.iconst 0, 1, 0, 0, 0), (.ireturn, 1, 0, 0, 0)]
set_option maxRecDepth 20000 in
theorem o_L_law_752 : am_okB mt_L_law 752 k_L_law_752 = true := by decide +kernel
theorem g_L_law_752 {L : am_S} (hL : L.1 < 2 ^ 31) {n : Nat} {ls st : List Value} {M : am_M} {Q : am_Q} (h : am_B L mt_L_law k_L_law_752 n 752 ls st M Q) : am_R L mt_L_law n 752 ls st M Q := am_go L mt_L_law (fun _ => hL) k_L_law_752 n 752 ls st M Q o_L_law_752 h
def k_L_law_769 : List am_I := [(.goto 805, 3, 0, 0, 0)]
set_option maxRecDepth 20000 in
theorem o_L_law_769 : am_okB mt_L_law 769 k_L_law_769 = true := by decide +kernel
theorem g_L_law_769 {L : am_S} (hL : L.1 < 2 ^ 31) {n : Nat} {ls st : List Value} {M : am_M} {Q : am_Q} (h : am_B L mt_L_law k_L_law_769 n 769 ls st M Q) : am_R L mt_L_law n 769 ls st M Q := am_go L mt_L_law (fun _ => hL) k_L_law_769 n 769 ls st M Q o_L_law_769 h
def k_L_law_772 : List am_I := [(.aload_n 1, 1, 0, 0, 0), (.aload_n 0, 1, 0, 0, 0), (.iload 4, 2, 0, 0, 0), (.iconst 1, 1, 0, 0, 0), (.iadd, 1, 0, 0, 0), (.iaload, 1, 0, 0, 0), (.aload_n 3, 1, 0, 0, 0), (.invokestatic 123, 3, 155, 3, 620), (.istore 5, 2, 0, 0, 0), (.aload_n 2, 1, 0, 0, 0), (.aload_n 0, 1, 0, 0, 0), (.iload 4, 2, 0, 0, 0), (.iconst 1, 1, 0, 0, 0), (.iadd, 1, 0, 0, 0), (.iaload, 1, 0, 0, 0), (.invokevirtual 125, 3, 110, 2, 908), (.istore 6, 2, 0, 0, 0), (.aload_n 2, 1, 0, 0, 0), (.invokevirtual 93, 3, 74, 1, 779), (.iload 5, 2, 0, 0, 0), (.if_icmp .eq 5, 3, 0, 0, 0), (.iconst 0, 1, 0, 0, 0), (.ireturn, 1, 0, 0, 0)]
set_option maxRecDepth 20000 in
theorem o_L_law_772 : am_okB mt_L_law 772 k_L_law_772 = true := by decide +kernel
theorem g_L_law_772 {L : am_S} (hL : L.1 < 2 ^ 31) {n : Nat} {ls st : List Value} {M : am_M} {Q : am_Q} (h : am_B L mt_L_law k_L_law_772 n 772 ls st M Q) : am_R L mt_L_law n 772 ls st M Q := am_go L mt_L_law (fun _ => hL) k_L_law_772 n 772 ls st M Q o_L_law_772 h
def k_L_law_808 : List am_I := [(.iload 5, 2, 0, 0, 0), (.ifCond .ne 15, 3, 0, 0, 0), (.aload_n 3, 1, 0, 0, 0), (.iconst 0, 1, 0, 0, 0), (.laload, 1, 0, 0, 0), (.iload 6, 2, 0, 0, 0), (.i2l, 1, 0, 0, 0), (.lcmp, 1, 0, 0, 0), (.ifCond .eq 5, 3, 0, 0, 0), (.iconst 0, 1, 0, 0, 0), (.ireturn, 1, 0, 0, 0)]
set_option maxRecDepth 20000 in
theorem o_L_law_808 : am_okB mt_L_law 808 k_L_law_808 = true := by decide +kernel
theorem g_L_law_808 {L : am_S} (hL : L.1 < 2 ^ 31) {n : Nat} {ls st : List Value} {M : am_M} {Q : am_Q} (h : am_B L mt_L_law k_L_law_808 n 808 ls st M Q) : am_R L mt_L_law n 808 ls st M Q := am_go L mt_L_law (fun _ => hL) k_L_law_808 n 808 ls st M Q o_L_law_808 h
def k_L_law_825 : List am_I := [(.goto 749, 3, 0, 0, 0)]
set_option maxRecDepth 20000 in
theorem o_L_law_825 : am_okB mt_L_law 825 k_L_law_825 = true := by decide +kernel
theorem g_L_law_825 {L : am_S} (hL : L.1 < 2 ^ 31) {n : Nat} {ls st : List Value} {M : am_M} {Q : am_Q} (h : am_B L mt_L_law k_L_law_825 n 825 ls st M Q) : am_R L mt_L_law n 825 ls st M Q := am_go L mt_L_law (fun _ => hL) k_L_law_825 n 825 ls st M Q o_L_law_825 h
def k_L_law_828 : List am_I := [(.aload_n 1, 1, 0, 0, 0), (.invokevirtual 126, 3, 46, 1, 192), (.aload_n 2, 1, 0, 0, 0), (.invokevirtual 129, 3, 111, 1, 912), (.if_icmp .eq 738, 3, 0, 0, 0), (.iconst 0, 1, 0, 0, 0), (.ireturn, 1, 0, 0, 0)]
set_option maxRecDepth 20000 in
theorem o_L_law_828 : am_okB mt_L_law 828 k_L_law_828 = true := by decide +kernel
theorem g_L_law_828 {L : am_S} (hL : L.1 < 2 ^ 31) {n : Nat} {ls st : List Value} {M : am_M} {Q : am_Q} (h : am_B L mt_L_law k_L_law_828 n 828 ls st M Q) : am_R L mt_L_law n 828 ls st M Q := am_go L mt_L_law (fun _ => hL) k_L_law_828 n 828 ls st M Q o_L_law_828 h
def k_L_law_841 : List am_I := [(.aload_n 1, 1, 0, 0, 0), (.invokevirtual 130, 3, 47, 1, 196), (.aload_n 2, 1, 0, 0, 0), (.invokevirtual 133, 3, 121, 1, 916), (.if_icmp .eq 725, 3, 0, 0, 0), (.iconst 0, 1, 0, 0, 0), (.ireturn, 1, 0, 0, 0)]
set_option maxRecDepth 20000 in
theorem o_L_law_841 : am_okB mt_L_law 841 k_L_law_841 = true := by decide +kernel
theorem g_L_law_841 {L : am_S} (hL : L.1 < 2 ^ 31) {n : Nat} {ls st : List Value} {M : am_M} {Q : am_Q} (h : am_B L mt_L_law k_L_law_841 n 841 ls st M Q) : am_R L mt_L_law n 841 ls st M Q := am_go L mt_L_law (fun _ => hL) k_L_law_841 n 841 ls st M Q o_L_law_841 h
def k_L_law_854 : List am_I := [(.aload_n 1, 1, 0, 0, 0), (.aload_n 3, 1, 0, 0, 0), (.invokestatic 134, 3, 156, 2, 628), (.istore 5, 2, 0, 0, 0), (.aload_n 2, 1, 0, 0, 0), (.invokevirtual 137, 3, 122, 1, 955), (.istore 6, 2, 0, 0, 0), (.aload_n 2, 1, 0, 0, 0), (.invokevirtual 93, 3, 74, 1, 779), (.iload 5, 2, 0, 0, 0), (.if_icmp .eq 5, 3, 0, 0, 0), (.iconst 0, 1, 0, 0, 0), (.ireturn, 1, 0, 0, 0)]
set_option maxRecDepth 20000 in
theorem o_L_law_854 : am_okB mt_L_law 854 k_L_law_854 = true := by decide +kernel
theorem g_L_law_854 {L : am_S} (hL : L.1 < 2 ^ 31) {n : Nat} {ls st : List Value} {M : am_M} {Q : am_Q} (h : am_B L mt_L_law k_L_law_854 n 854 ls st M Q) : am_R L mt_L_law n 854 ls st M Q := am_go L mt_L_law (fun _ => hL) k_L_law_854 n 854 ls st M Q o_L_law_854 h
def k_L_law_878 : List am_I := [(.iload 5, 2, 0, 0, 0), (.ifCond .ne 15, 3, 0, 0, 0), (.aload_n 3, 1, 0, 0, 0), (.iconst 0, 1, 0, 0, 0), (.laload, 1, 0, 0, 0), (.iload 6, 2, 0, 0, 0), (.i2l, 1, 0, 0, 0), (.lcmp, 1, 0, 0, 0), (.ifCond .eq 5, 3, 0, 0, 0), (.iconst 0, 1, 0, 0, 0), (.ireturn, 1, 0, 0, 0)]
set_option maxRecDepth 20000 in
theorem o_L_law_878 : am_okB mt_L_law 878 k_L_law_878 = true := by decide +kernel
theorem g_L_law_878 {L : am_S} (hL : L.1 < 2 ^ 31) {n : Nat} {ls st : List Value} {M : am_M} {Q : am_Q} (h : am_B L mt_L_law k_L_law_878 n 878 ls st M Q) : am_R L mt_L_law n 878 ls st M Q := am_go L mt_L_law (fun _ => hL) k_L_law_878 n 878 ls st M Q o_L_law_878 h
def k_L_law_895 : List am_I := [(.goto 679, 3, 0, 0, 0)]
set_option maxRecDepth 20000 in
theorem o_L_law_895 : am_okB mt_L_law 895 k_L_law_895 = true := by decide +kernel
theorem g_L_law_895 {L : am_S} (hL : L.1 < 2 ^ 31) {n : Nat} {ls st : List Value} {M : am_M} {Q : am_Q} (h : am_B L mt_L_law k_L_law_895 n 895 ls st M Q) : am_R L mt_L_law n 895 ls st M Q := am_go L mt_L_law (fun _ => hL) k_L_law_895 n 895 ls st M Q o_L_law_895 h
def k_L_law_898 : List am_I := [(.aload_n 1, 1, 0, 0, 0), (.aload_n 0, 1, 0, 0, 0), (.iload 4, 2, 0, 0, 0), (.iconst 1, 1, 0, 0, 0), (.iadd, 1, 0, 0, 0), (.iaload, 1, 0, 0, 0), (.aload_n 3, 1, 0, 0, 0), (.invokestatic 138, 3, 157, 3, 645), (.istore 5, 2, 0, 0, 0), (.aload_n 2, 1, 0, 0, 0), (.aload_n 0, 1, 0, 0, 0), (.iload 4, 2, 0, 0, 0), (.iconst 1, 1, 0, 0, 0), (.iadd, 1, 0, 0, 0), (.iaload, 1, 0, 0, 0), (.invokevirtual 140, 3, 89, 2, 787), (.istore 6, 2, 0, 0, 0), (.aload_n 2, 1, 0, 0, 0), (.invokevirtual 93, 3, 74, 1, 779), (.iload 5, 2, 0, 0, 0), (.if_icmp .eq 5, 3, 0, 0, 0), (.iconst 0, 1, 0, 0, 0), (.ireturn, 1, 0, 0, 0)]
set_option maxRecDepth 20000 in
theorem o_L_law_898 : am_okB mt_L_law 898 k_L_law_898 = true := by decide +kernel
theorem g_L_law_898 {L : am_S} (hL : L.1 < 2 ^ 31) {n : Nat} {ls st : List Value} {M : am_M} {Q : am_Q} (h : am_B L mt_L_law k_L_law_898 n 898 ls st M Q) : am_R L mt_L_law n 898 ls st M Q := am_go L mt_L_law (fun _ => hL) k_L_law_898 n 898 ls st M Q o_L_law_898 h
def k_L_law_934 : List am_I := [(.iload 5, 2, 0, 0, 0), (.ifCond .ne 15, 3, 0, 0, 0), (.aload_n 3, 1, 0, 0, 0), (.iconst 0, 1, 0, 0, 0), (.laload, 1, 0, 0, 0), (.iload 6, 2, 0, 0, 0), (.i2l, 1, 0, 0, 0), (.lcmp, 1, 0, 0, 0), (.ifCond .eq 5, 3, 0, 0, 0), (.iconst 0, 1, 0, 0, 0), (.ireturn, 1, 0, 0, 0)]
set_option maxRecDepth 20000 in
theorem o_L_law_934 : am_okB mt_L_law 934 k_L_law_934 = true := by decide +kernel
theorem g_L_law_934 {L : am_S} (hL : L.1 < 2 ^ 31) {n : Nat} {ls st : List Value} {M : am_M} {Q : am_Q} (h : am_B L mt_L_law k_L_law_934 n 934 ls st M Q) : am_R L mt_L_law n 934 ls st M Q := am_go L mt_L_law (fun _ => hL) k_L_law_934 n 934 ls st M Q o_L_law_934 h
def k_L_law_951 : List am_I := [(.goto 623, 3, 0, 0, 0)]
set_option maxRecDepth 20000 in
theorem o_L_law_951 : am_okB mt_L_law 951 k_L_law_951 = true := by decide +kernel
theorem g_L_law_951 {L : am_S} (hL : L.1 < 2 ^ 31) {n : Nat} {ls st : List Value} {M : am_M} {Q : am_Q} (h : am_B L mt_L_law k_L_law_951 n 951 ls st M Q) : am_R L mt_L_law n 951 ls st M Q := am_go L mt_L_law (fun _ => hL) k_L_law_951 n 951 ls st M Q o_L_law_951 h
def k_L_law_954 : List am_I := [(.aload_n 1, 1, 0, 0, 0), (.aload_n 0, 1, 0, 0, 0), (.iload 4, 2, 0, 0, 0), (.iconst 1, 1, 0, 0, 0), (.iadd, 1, 0, 0, 0), (.iaload, 1, 0, 0, 0), (.aload_n 3, 1, 0, 0, 0), (.invokestatic 141, 3, 158, 3, 652), (.istore 5, 2, 0, 0, 0), (.aload_n 2, 1, 0, 0, 0), (.aload_n 0, 1, 0, 0, 0), (.iload 4, 2, 0, 0, 0), (.iconst 1, 1, 0, 0, 0), (.iadd, 1, 0, 0, 0), (.iaload, 1, 0, 0, 0), (.invokevirtual 143, 3, 90, 2, 798), (.istore 6, 2, 0, 0, 0), (.aload_n 2, 1, 0, 0, 0), (.invokevirtual 93, 3, 74, 1, 779), (.iload 5, 2, 0, 0, 0), (.if_icmp .eq 5, 3, 0, 0, 0), (.iconst 0, 1, 0, 0, 0), (.ireturn, 1, 0, 0, 0)]
set_option maxRecDepth 20000 in
theorem o_L_law_954 : am_okB mt_L_law 954 k_L_law_954 = true := by decide +kernel
theorem g_L_law_954 {L : am_S} (hL : L.1 < 2 ^ 31) {n : Nat} {ls st : List Value} {M : am_M} {Q : am_Q} (h : am_B L mt_L_law k_L_law_954 n 954 ls st M Q) : am_R L mt_L_law n 954 ls st M Q := am_go L mt_L_law (fun _ => hL) k_L_law_954 n 954 ls st M Q o_L_law_954 h
def k_L_law_990 : List am_I := [(.iload 5, 2, 0, 0, 0), (.ifCond .ne 15, 3, 0, 0, 0), (.aload_n 3, 1, 0, 0, 0), (.iconst 0, 1, 0, 0, 0), (.laload, 1, 0, 0, 0), (.iload 6, 2, 0, 0, 0), (.i2l, 1, 0, 0, 0), (.lcmp, 1, 0, 0, 0), (.ifCond .eq 5, 3, 0, 0, 0), (.iconst 0, 1, 0, 0, 0), (.ireturn, 1, 0, 0, 0)]
set_option maxRecDepth 20000 in
theorem o_L_law_990 : am_okB mt_L_law 990 k_L_law_990 = true := by decide +kernel
theorem g_L_law_990 {L : am_S} (hL : L.1 < 2 ^ 31) {n : Nat} {ls st : List Value} {M : am_M} {Q : am_Q} (h : am_B L mt_L_law k_L_law_990 n 990 ls st M Q) : am_R L mt_L_law n 990 ls st M Q := am_go L mt_L_law (fun _ => hL) k_L_law_990 n 990 ls st M Q o_L_law_990 h
def k_L_law_1007 : List am_I := [(.goto 567, 3, 0, 0, 0)]
set_option maxRecDepth 20000 in
theorem o_L_law_1007 : am_okB mt_L_law 1007 k_L_law_1007 = true := by decide +kernel
theorem g_L_law_1007 {L : am_S} (hL : L.1 < 2 ^ 31) {n : Nat} {ls st : List Value} {M : am_M} {Q : am_Q} (h : am_B L mt_L_law k_L_law_1007 n 1007 ls st M Q) : am_R L mt_L_law n 1007 ls st M Q := am_go L mt_L_law (fun _ => hL) k_L_law_1007 n 1007 ls st M Q o_L_law_1007 h
def k_L_law_1010 : List am_I := [(.aload_n 1, 1, 0, 0, 0), (.aload_n 3, 1, 0, 0, 0), (.invokestatic 144, 3, 159, 2, 660), (.istore 5, 2, 0, 0, 0), (.aload_n 2, 1, 0, 0, 0), (.invokevirtual 146, 3, 88, 1, 783), (.istore 6, 2, 0, 0, 0), (.aload_n 2, 1, 0, 0, 0), (.invokevirtual 93, 3, 74, 1, 779), (.iload 5, 2, 0, 0, 0), (.if_icmp .eq 5, 3, 0, 0, 0), (.iconst 0, 1, 0, 0, 0), (.ireturn, 1, 0, 0, 0)]
set_option maxRecDepth 20000 in
theorem o_L_law_1010 : am_okB mt_L_law 1010 k_L_law_1010 = true := by decide +kernel
theorem g_L_law_1010 {L : am_S} (hL : L.1 < 2 ^ 31) {n : Nat} {ls st : List Value} {M : am_M} {Q : am_Q} (h : am_B L mt_L_law k_L_law_1010 n 1010 ls st M Q) : am_R L mt_L_law n 1010 ls st M Q := am_go L mt_L_law (fun _ => hL) k_L_law_1010 n 1010 ls st M Q o_L_law_1010 h
def k_L_law_1034 : List am_I := [(.iload 5, 2, 0, 0, 0), (.ifCond .ne 15, 3, 0, 0, 0), (.aload_n 3, 1, 0, 0, 0), (.iconst 0, 1, 0, 0, 0), (.laload, 1, 0, 0, 0), (.iload 6, 2, 0, 0, 0), (.i2l, 1, 0, 0, 0), (.lcmp, 1, 0, 0, 0), (.ifCond .eq 5, 3, 0, 0, 0), (.iconst 0, 1, 0, 0, 0), (.ireturn, 1, 0, 0, 0)]
set_option maxRecDepth 20000 in
theorem o_L_law_1034 : am_okB mt_L_law 1034 k_L_law_1034 = true := by decide +kernel
theorem g_L_law_1034 {L : am_S} (hL : L.1 < 2 ^ 31) {n : Nat} {ls st : List Value} {M : am_M} {Q : am_Q} (h : am_B L mt_L_law k_L_law_1034 n 1034 ls st M Q) : am_R L mt_L_law n 1034 ls st M Q := am_go L mt_L_law (fun _ => hL) k_L_law_1034 n 1034 ls st M Q o_L_law_1034 h
def k_L_law_1051 : List am_I := [(.goto 523, 3, 0, 0, 0)]
set_option maxRecDepth 20000 in
theorem o_L_law_1051 : am_okB mt_L_law 1051 k_L_law_1051 = true := by decide +kernel
theorem g_L_law_1051 {L : am_S} (hL : L.1 < 2 ^ 31) {n : Nat} {ls st : List Value} {M : am_M} {Q : am_Q} (h : am_B L mt_L_law k_L_law_1051 n 1051 ls st M Q) : am_R L mt_L_law n 1051 ls st M Q := am_go L mt_L_law (fun _ => hL) k_L_law_1051 n 1051 ls st M Q o_L_law_1051 h
def k_L_law_1054 : List am_I := [(.aload_n 1, 1, 0, 0, 0), (.aload_n 0, 1, 0, 0, 0), (.iload 4, 2, 0, 0, 0), (.iconst 1, 1, 0, 0, 0), (.iadd, 1, 0, 0, 0), (.iaload, 1, 0, 0, 0), (.aload_n 0, 1, 0, 0, 0), (.iload 4, 2, 0, 0, 0), (.iconst 2, 1, 0, 0, 0), (.iadd, 1, 0, 0, 0), (.iaload, 1, 0, 0, 0), (.aload_n 3, 1, 0, 0, 0), (.invokestatic 147, 3, 160, 4, 668), (.istore 5, 2, 0, 0, 0), (.aload_n 2, 1, 0, 0, 0), (.aload_n 0, 1, 0, 0, 0), (.iload 4, 2, 0, 0, 0), (.iconst 1, 1, 0, 0, 0), (.iadd, 1, 0, 0, 0), (.iaload, 1, 0, 0, 0), (.aload_n 0, 1, 0, 0, 0), (.iload 4, 2, 0, 0, 0), (.iconst 2, 1, 0, 0, 0), (.iadd, 1, 0, 0, 0), (.iaload, 1, 0, 0, 0), (.invokevirtual 149, 3, 124, 3, 959), (.istore 6, 2, 0, 0, 0), (.aload_n 2, 1, 0, 0, 0), (.invokevirtual 93, 3, 74, 1, 779), (.iload 5, 2, 0, 0, 0), (.if_icmp .eq 5, 3, 0, 0, 0), (.iconst 0, 1, 0, 0, 0), (.ireturn, 1, 0, 0, 0)]
set_option maxRecDepth 20000 in
theorem o_L_law_1054 : am_okB mt_L_law 1054 k_L_law_1054 = true := by decide +kernel
theorem g_L_law_1054 {L : am_S} (hL : L.1 < 2 ^ 31) {n : Nat} {ls st : List Value} {M : am_M} {Q : am_Q} (h : am_B L mt_L_law k_L_law_1054 n 1054 ls st M Q) : am_R L mt_L_law n 1054 ls st M Q := am_go L mt_L_law (fun _ => hL) k_L_law_1054 n 1054 ls st M Q o_L_law_1054 h
def k_L_law_1102 : List am_I := [(.iload 5, 2, 0, 0, 0), (.ifCond .ne 15, 3, 0, 0, 0), (.aload_n 3, 1, 0, 0, 0), (.iconst 0, 1, 0, 0, 0), (.laload, 1, 0, 0, 0), (.iload 6, 2, 0, 0, 0), (.i2l, 1, 0, 0, 0), (.lcmp, 1, 0, 0, 0), (.ifCond .eq 5, 3, 0, 0, 0), (.iconst 0, 1, 0, 0, 0), (.ireturn, 1, 0, 0, 0)]
set_option maxRecDepth 20000 in
theorem o_L_law_1102 : am_okB mt_L_law 1102 k_L_law_1102 = true := by decide +kernel
theorem g_L_law_1102 {L : am_S} (hL : L.1 < 2 ^ 31) {n : Nat} {ls st : List Value} {M : am_M} {Q : am_Q} (h : am_B L mt_L_law k_L_law_1102 n 1102 ls st M Q) : am_R L mt_L_law n 1102 ls st M Q := am_go L mt_L_law (fun _ => hL) k_L_law_1102 n 1102 ls st M Q o_L_law_1102 h
def k_L_law_1119 : List am_I := [(.goto 455, 3, 0, 0, 0)]
set_option maxRecDepth 20000 in
theorem o_L_law_1119 : am_okB mt_L_law 1119 k_L_law_1119 = true := by decide +kernel
theorem g_L_law_1119 {L : am_S} (hL : L.1 < 2 ^ 31) {n : Nat} {ls st : List Value} {M : am_M} {Q : am_Q} (h : am_B L mt_L_law k_L_law_1119 n 1119 ls st M Q) : am_R L mt_L_law n 1119 ls st M Q := am_go L mt_L_law (fun _ => hL) k_L_law_1119 n 1119 ls st M Q o_L_law_1119 h
def k_L_law_1122 : List am_I := [(.aload_n 1, 1, 0, 0, 0), (.aload_n 0, 1, 0, 0, 0), (.iload 4, 2, 0, 0, 0), (.iconst 1, 1, 0, 0, 0), (.iadd, 1, 0, 0, 0), (.iaload, 1, 0, 0, 0), (.aload_n 0, 1, 0, 0, 0), (.iload 4, 2, 0, 0, 0), (.iconst 2, 1, 0, 0, 0), (.iadd, 1, 0, 0, 0), (.iaload, 1, 0, 0, 0), (.aload_n 3, 1, 0, 0, 0), (.invokestatic 150, 3, 161, 4, 675), (.istore 5, 2, 0, 0, 0), (.aload_n 2, 1, 0, 0, 0), (.aload_n 0, 1, 0, 0, 0), (.iload 4, 2, 0, 0, 0), (.iconst 1, 1, 0, 0, 0), (.iadd, 1, 0, 0, 0), (.iaload, 1, 0, 0, 0), (.aload_n 0, 1, 0, 0, 0), (.iload 4, 2, 0, 0, 0), (.iconst 2, 1, 0, 0, 0), (.iadd, 1, 0, 0, 0), (.iaload, 1, 0, 0, 0), (.invokevirtual 152, 3, 126, 3, 967), (.istore 6, 2, 0, 0, 0), (.aload_n 2, 1, 0, 0, 0), (.invokevirtual 93, 3, 74, 1, 779), (.iload 5, 2, 0, 0, 0), (.if_icmp .eq 5, 3, 0, 0, 0), (.iconst 0, 1, 0, 0, 0), (.ireturn, 1, 0, 0, 0)]
set_option maxRecDepth 20000 in
theorem o_L_law_1122 : am_okB mt_L_law 1122 k_L_law_1122 = true := by decide +kernel
theorem g_L_law_1122 {L : am_S} (hL : L.1 < 2 ^ 31) {n : Nat} {ls st : List Value} {M : am_M} {Q : am_Q} (h : am_B L mt_L_law k_L_law_1122 n 1122 ls st M Q) : am_R L mt_L_law n 1122 ls st M Q := am_go L mt_L_law (fun _ => hL) k_L_law_1122 n 1122 ls st M Q o_L_law_1122 h
def k_L_law_1170 : List am_I := [(.iload 5, 2, 0, 0, 0), (.ifCond .ne 15, 3, 0, 0, 0), (.aload_n 3, 1, 0, 0, 0), (.iconst 0, 1, 0, 0, 0), (.laload, 1, 0, 0, 0), (.iload 6, 2, 0, 0, 0), (.i2l, 1, 0, 0, 0), (.lcmp, 1, 0, 0, 0), (.ifCond .eq 5, 3, 0, 0, 0), (.iconst 0, 1, 0, 0, 0), (.ireturn, 1, 0, 0, 0)]
set_option maxRecDepth 20000 in
theorem o_L_law_1170 : am_okB mt_L_law 1170 k_L_law_1170 = true := by decide +kernel
theorem g_L_law_1170 {L : am_S} (hL : L.1 < 2 ^ 31) {n : Nat} {ls st : List Value} {M : am_M} {Q : am_Q} (h : am_B L mt_L_law k_L_law_1170 n 1170 ls st M Q) : am_R L mt_L_law n 1170 ls st M Q := am_go L mt_L_law (fun _ => hL) k_L_law_1170 n 1170 ls st M Q o_L_law_1170 h
def k_L_law_1187 : List am_I := [(.goto 387, 3, 0, 0, 0)]
set_option maxRecDepth 20000 in
theorem o_L_law_1187 : am_okB mt_L_law 1187 k_L_law_1187 = true := by decide +kernel
theorem g_L_law_1187 {L : am_S} (hL : L.1 < 2 ^ 31) {n : Nat} {ls st : List Value} {M : am_M} {Q : am_Q} (h : am_B L mt_L_law k_L_law_1187 n 1187 ls st M Q) : am_R L mt_L_law n 1187 ls st M Q := am_go L mt_L_law (fun _ => hL) k_L_law_1187 n 1187 ls st M Q o_L_law_1187 h
def k_L_law_1190 : List am_I := [(.aload_n 1, 1, 0, 0, 0), (.aload_n 0, 1, 0, 0, 0), (.iload 4, 2, 0, 0, 0), (.iconst 1, 1, 0, 0, 0), (.iadd, 1, 0, 0, 0), (.iaload, 1, 0, 0, 0), (.aload_n 0, 1, 0, 0, 0), (.iload 4, 2, 0, 0, 0), (.iconst 2, 1, 0, 0, 0), (.iadd, 1, 0, 0, 0), (.iaload, 1, 0, 0, 0), (.aload_n 3, 1, 0, 0, 0), (.invokestatic 153, 3, 162, 4, 682), (.istore 5, 2, 0, 0, 0), (.aload_n 2, 1, 0, 0, 0), (.aload_n 0, 1, 0, 0, 0), (.iload 4, 2, 0, 0, 0), (.iconst 1, 1, 0, 0, 0), (.iadd, 1, 0, 0, 0), (.iaload, 1, 0, 0, 0), (.aload_n 0, 1, 0, 0, 0), (.iload 4, 2, 0, 0, 0), (.iconst 2, 1, 0, 0, 0), (.iadd, 1, 0, 0, 0), (.iaload, 1, 0, 0, 0), (.invokevirtual 155, 3, 130, 3, 975), (.istore 6, 2, 0, 0, 0), (.aload_n 2, 1, 0, 0, 0), (.invokevirtual 93, 3, 74, 1, 779), (.iload 5, 2, 0, 0, 0), (.if_icmp .eq 5, 3, 0, 0, 0), (.iconst 0, 1, 0, 0, 0), (.ireturn, 1, 0, 0, 0)]
set_option maxRecDepth 20000 in
theorem o_L_law_1190 : am_okB mt_L_law 1190 k_L_law_1190 = true := by decide +kernel
theorem g_L_law_1190 {L : am_S} (hL : L.1 < 2 ^ 31) {n : Nat} {ls st : List Value} {M : am_M} {Q : am_Q} (h : am_B L mt_L_law k_L_law_1190 n 1190 ls st M Q) : am_R L mt_L_law n 1190 ls st M Q := am_go L mt_L_law (fun _ => hL) k_L_law_1190 n 1190 ls st M Q o_L_law_1190 h
def k_L_law_1238 : List am_I := [(.iload 5, 2, 0, 0, 0), (.ifCond .ne 15, 3, 0, 0, 0), (.aload_n 3, 1, 0, 0, 0), (.iconst 0, 1, 0, 0, 0), (.laload, 1, 0, 0, 0), (.iload 6, 2, 0, 0, 0), (.i2l, 1, 0, 0, 0), (.lcmp, 1, 0, 0, 0), (.ifCond .eq 5, 3, 0, 0, 0), (.iconst 0, 1, 0, 0, 0), (.ireturn, 1, 0, 0, 0)]
set_option maxRecDepth 20000 in
theorem o_L_law_1238 : am_okB mt_L_law 1238 k_L_law_1238 = true := by decide +kernel
theorem g_L_law_1238 {L : am_S} (hL : L.1 < 2 ^ 31) {n : Nat} {ls st : List Value} {M : am_M} {Q : am_Q} (h : am_B L mt_L_law k_L_law_1238 n 1238 ls st M Q) : am_R L mt_L_law n 1238 ls st M Q := am_go L mt_L_law (fun _ => hL) k_L_law_1238 n 1238 ls st M Q o_L_law_1238 h
def k_L_law_1255 : List am_I := [(.goto 319, 3, 0, 0, 0)]
set_option maxRecDepth 20000 in
theorem o_L_law_1255 : am_okB mt_L_law 1255 k_L_law_1255 = true := by decide +kernel
theorem g_L_law_1255 {L : am_S} (hL : L.1 < 2 ^ 31) {n : Nat} {ls st : List Value} {M : am_M} {Q : am_Q} (h : am_B L mt_L_law k_L_law_1255 n 1255 ls st M Q) : am_R L mt_L_law n 1255 ls st M Q := am_go L mt_L_law (fun _ => hL) k_L_law_1255 n 1255 ls st M Q o_L_law_1255 h
def k_L_law_1258 : List am_I := [(.aload_n 1, 1, 0, 0, 0), (.aload_n 0, 1, 0, 0, 0), (.iload 4, 2, 0, 0, 0), (.iconst 1, 1, 0, 0, 0), (.iadd, 1, 0, 0, 0), (.iaload, 1, 0, 0, 0), (.aload_n 3, 1, 0, 0, 0), (.invokestatic 156, 3, 163, 3, 689), (.istore 5, 2, 0, 0, 0), (.aload_n 2, 1, 0, 0, 0), (.aload_n 0, 1, 0, 0, 0), (.iload 4, 2, 0, 0, 0), (.iconst 1, 1, 0, 0, 0), (.iadd, 1, 0, 0, 0), (.iaload, 1, 0, 0, 0), (.invokevirtual 158, 3, 133, 2, 991), (.istore 6, 2, 0, 0, 0), (.aload_n 2, 1, 0, 0, 0), (.invokevirtual 93, 3, 74, 1, 779), (.iload 5, 2, 0, 0, 0), (.if_icmp .eq 5, 3, 0, 0, 0), (.iconst 0, 1, 0, 0, 0), (.ireturn, 1, 0, 0, 0)]
set_option maxRecDepth 20000 in
theorem o_L_law_1258 : am_okB mt_L_law 1258 k_L_law_1258 = true := by decide +kernel
theorem g_L_law_1258 {L : am_S} (hL : L.1 < 2 ^ 31) {n : Nat} {ls st : List Value} {M : am_M} {Q : am_Q} (h : am_B L mt_L_law k_L_law_1258 n 1258 ls st M Q) : am_R L mt_L_law n 1258 ls st M Q := am_go L mt_L_law (fun _ => hL) k_L_law_1258 n 1258 ls st M Q o_L_law_1258 h
def k_L_law_1294 : List am_I := [(.iload 5, 2, 0, 0, 0), (.ifCond .ne 15, 3, 0, 0, 0), (.aload_n 3, 1, 0, 0, 0), (.iconst 0, 1, 0, 0, 0), (.laload, 1, 0, 0, 0), (.iload 6, 2, 0, 0, 0), (.i2l, 1, 0, 0, 0), (.lcmp, 1, 0, 0, 0), (.ifCond .eq 5, 3, 0, 0, 0), (.iconst 0, 1, 0, 0, 0), (.ireturn, 1, 0, 0, 0)]
set_option maxRecDepth 20000 in
theorem o_L_law_1294 : am_okB mt_L_law 1294 k_L_law_1294 = true := by decide +kernel
theorem g_L_law_1294 {L : am_S} (hL : L.1 < 2 ^ 31) {n : Nat} {ls st : List Value} {M : am_M} {Q : am_Q} (h : am_B L mt_L_law k_L_law_1294 n 1294 ls st M Q) : am_R L mt_L_law n 1294 ls st M Q := am_go L mt_L_law (fun _ => hL) k_L_law_1294 n 1294 ls st M Q o_L_law_1294 h
def k_L_law_1311 : List am_I := [(.goto 263, 3, 0, 0, 0)]
set_option maxRecDepth 20000 in
theorem o_L_law_1311 : am_okB mt_L_law 1311 k_L_law_1311 = true := by decide +kernel
theorem g_L_law_1311 {L : am_S} (hL : L.1 < 2 ^ 31) {n : Nat} {ls st : List Value} {M : am_M} {Q : am_Q} (h : am_B L mt_L_law k_L_law_1311 n 1311 ls st M Q) : am_R L mt_L_law n 1311 ls st M Q := am_go L mt_L_law (fun _ => hL) k_L_law_1311 n 1311 ls st M Q o_L_law_1311 h
def k_L_law_1314 : List am_I := [(.aload_n 1, 1, 0, 0, 0), (.aload_n 0, 1, 0, 0, 0), (.iload 4, 2, 0, 0, 0), (.iconst 1, 1, 0, 0, 0), (.iadd, 1, 0, 0, 0), (.iaload, 1, 0, 0, 0), (.aload_n 0, 1, 0, 0, 0), (.iload 4, 2, 0, 0, 0), (.iconst 2, 1, 0, 0, 0), (.iadd, 1, 0, 0, 0), (.iaload, 1, 0, 0, 0), (.aload_n 0, 1, 0, 0, 0), (.iload 4, 2, 0, 0, 0), (.iconst 3, 1, 0, 0, 0), (.iadd, 1, 0, 0, 0), (.iaload, 1, 0, 0, 0), (.aload_n 3, 1, 0, 0, 0), (.invokestatic 159, 3, 164, 5, 696), (.istore 5, 2, 0, 0, 0), (.aload_n 2, 1, 0, 0, 0), (.aload_n 0, 1, 0, 0, 0), (.iload 4, 2, 0, 0, 0), (.iconst 1, 1, 0, 0, 0), (.iadd, 1, 0, 0, 0), (.iaload, 1, 0, 0, 0), (.aload_n 0, 1, 0, 0, 0), (.iload 4, 2, 0, 0, 0), (.iconst 2, 1, 0, 0, 0), (.iadd, 1, 0, 0, 0), (.iaload, 1, 0, 0, 0), (.aload_n 0, 1, 0, 0, 0), (.iload 4, 2, 0, 0, 0), (.iconst 3, 1, 0, 0, 0), (.iadd, 1, 0, 0, 0), (.iaload, 1, 0, 0, 0), (.invokevirtual 161, 3, 135, 4, 1003), (.istore 6, 2, 0, 0, 0), (.aload_n 2, 1, 0, 0, 0), (.invokevirtual 93, 3, 74, 1, 779), (.iload 5, 2, 0, 0, 0), (.if_icmp .eq 5, 3, 0, 0, 0), (.iconst 0, 1, 0, 0, 0), (.ireturn, 1, 0, 0, 0)]
set_option maxRecDepth 20000 in
theorem o_L_law_1314 : am_okB mt_L_law 1314 k_L_law_1314 = true := by decide +kernel
theorem g_L_law_1314 {L : am_S} (hL : L.1 < 2 ^ 31) {n : Nat} {ls st : List Value} {M : am_M} {Q : am_Q} (h : am_B L mt_L_law k_L_law_1314 n 1314 ls st M Q) : am_R L mt_L_law n 1314 ls st M Q := am_go L mt_L_law (fun _ => hL) k_L_law_1314 n 1314 ls st M Q o_L_law_1314 h
def k_L_law_1374 : List am_I := [(.iload 5, 2, 0, 0, 0), (.ifCond .ne 15, 3, 0, 0, 0), (.aload_n 3, 1, 0, 0, 0), (.iconst 0, 1, 0, 0, 0), (.laload, 1, 0, 0, 0), (.iload 6, 2, 0, 0, 0), (.i2l, 1, 0, 0, 0), (.lcmp, 1, 0, 0, 0), (.ifCond .eq 5, 3, 0, 0, 0), (.iconst 0, 1, 0, 0, 0), (.ireturn, 1, 0, 0, 0)]
set_option maxRecDepth 20000 in
theorem o_L_law_1374 : am_okB mt_L_law 1374 k_L_law_1374 = true := by decide +kernel
theorem g_L_law_1374 {L : am_S} (hL : L.1 < 2 ^ 31) {n : Nat} {ls st : List Value} {M : am_M} {Q : am_Q} (h : am_B L mt_L_law k_L_law_1374 n 1374 ls st M Q) : am_R L mt_L_law n 1374 ls st M Q := am_go L mt_L_law (fun _ => hL) k_L_law_1374 n 1374 ls st M Q o_L_law_1374 h
def k_L_law_1391 : List am_I := [(.goto 183, 3, 0, 0, 0)]
set_option maxRecDepth 20000 in
theorem o_L_law_1391 : am_okB mt_L_law 1391 k_L_law_1391 = true := by decide +kernel
theorem g_L_law_1391 {L : am_S} (hL : L.1 < 2 ^ 31) {n : Nat} {ls st : List Value} {M : am_M} {Q : am_Q} (h : am_B L mt_L_law k_L_law_1391 n 1391 ls st M Q) : am_R L mt_L_law n 1391 ls st M Q := am_go L mt_L_law (fun _ => hL) k_L_law_1391 n 1391 ls st M Q o_L_law_1391 h
def k_L_law_1394 : List am_I := [(.aload_n 1, 1, 0, 0, 0), (.aload_n 0, 1, 0, 0, 0), (.iload 4, 2, 0, 0, 0), (.iconst 1, 1, 0, 0, 0), (.iadd, 1, 0, 0, 0), (.iaload, 1, 0, 0, 0), (.aload_n 3, 1, 0, 0, 0), (.invokestatic 162, 3, 165, 3, 703), (.istore 5, 2, 0, 0, 0), (.aload_n 2, 1, 0, 0, 0), (.aload_n 0, 1, 0, 0, 0), (.iload 4, 2, 0, 0, 0), (.iconst 1, 1, 0, 0, 0), (.iadd, 1, 0, 0, 0), (.iaload, 1, 0, 0, 0), (.invokevirtual 164, 3, 137, 2, 1019), (.istore 6, 2, 0, 0, 0), (.aload_n 2, 1, 0, 0, 0), (.invokevirtual 93, 3, 74, 1, 779), (.iload 5, 2, 0, 0, 0), (.if_icmp .eq 5, 3, 0, 0, 0), (.iconst 0, 1, 0, 0, 0), (.ireturn, 1, 0, 0, 0)]
set_option maxRecDepth 20000 in
theorem o_L_law_1394 : am_okB mt_L_law 1394 k_L_law_1394 = true := by decide +kernel
theorem g_L_law_1394 {L : am_S} (hL : L.1 < 2 ^ 31) {n : Nat} {ls st : List Value} {M : am_M} {Q : am_Q} (h : am_B L mt_L_law k_L_law_1394 n 1394 ls st M Q) : am_R L mt_L_law n 1394 ls st M Q := am_go L mt_L_law (fun _ => hL) k_L_law_1394 n 1394 ls st M Q o_L_law_1394 h
def k_L_law_1430 : List am_I := [(.iload 5, 2, 0, 0, 0), (.ifCond .ne 15, 3, 0, 0, 0), (.aload_n 3, 1, 0, 0, 0), (.iconst 0, 1, 0, 0, 0), (.laload, 1, 0, 0, 0), (.iload 6, 2, 0, 0, 0), (.i2l, 1, 0, 0, 0), (.lcmp, 1, 0, 0, 0), (.ifCond .eq 5, 3, 0, 0, 0), (.iconst 0, 1, 0, 0, 0), (.ireturn, 1, 0, 0, 0)]
set_option maxRecDepth 20000 in
theorem o_L_law_1430 : am_okB mt_L_law 1430 k_L_law_1430 = true := by decide +kernel
theorem g_L_law_1430 {L : am_S} (hL : L.1 < 2 ^ 31) {n : Nat} {ls st : List Value} {M : am_M} {Q : am_Q} (h : am_B L mt_L_law k_L_law_1430 n 1430 ls st M Q) : am_R L mt_L_law n 1430 ls st M Q := am_go L mt_L_law (fun _ => hL) k_L_law_1430 n 1430 ls st M Q o_L_law_1430 h
def k_L_law_1447 : List am_I := [(.goto 127, 3, 0, 0, 0)]
set_option maxRecDepth 20000 in
theorem o_L_law_1447 : am_okB mt_L_law 1447 k_L_law_1447 = true := by decide +kernel
theorem g_L_law_1447 {L : am_S} (hL : L.1 < 2 ^ 31) {n : Nat} {ls st : List Value} {M : am_M} {Q : am_Q} (h : am_B L mt_L_law k_L_law_1447 n 1447 ls st M Q) : am_R L mt_L_law n 1447 ls st M Q := am_go L mt_L_law (fun _ => hL) k_L_law_1447 n 1447 ls st M Q o_L_law_1447 h
def k_L_law_1450 : List am_I := [(.aload_n 1, 1, 0, 0, 0), (.aload_n 0, 1, 0, 0, 0), (.iload 4, 2, 0, 0, 0), (.iconst 1, 1, 0, 0, 0), (.iadd, 1, 0, 0, 0), (.iaload, 1, 0, 0, 0), (.aload_n 3, 1, 0, 0, 0), (.invokestatic 165, 3, 166, 3, 710), (.istore 5, 2, 0, 0, 0), (.aload_n 2, 1, 0, 0, 0), (.aload_n 0, 1, 0, 0, 0), (.iload 4, 2, 0, 0, 0), (.iconst 1, 1, 0, 0, 0), (.iadd, 1, 0, 0, 0), (.iaload, 1, 0, 0, 0), (.invokevirtual 167, 3, 140, 2, 1027), (.istore 6, 2, 0, 0, 0), (.aload_n 2, 1, 0, 0, 0), (.invokevirtual 93, 3, 74, 1, 779), (.iload 5, 2, 0, 0, 0), (.if_icmp .eq 5, 3, 0, 0, 0), (.iconst 0, 1, 0, 0, 0), (.ireturn, 1, 0, 0, 0)]
set_option maxRecDepth 20000 in
theorem o_L_law_1450 : am_okB mt_L_law 1450 k_L_law_1450 = true := by decide +kernel
theorem g_L_law_1450 {L : am_S} (hL : L.1 < 2 ^ 31) {n : Nat} {ls st : List Value} {M : am_M} {Q : am_Q} (h : am_B L mt_L_law k_L_law_1450 n 1450 ls st M Q) : am_R L mt_L_law n 1450 ls st M Q := am_go L mt_L_law (fun _ => hL) k_L_law_1450 n 1450 ls st M Q o_L_law_1450 h
def k_L_law_1486 : List am_I := [(.iload 5, 2, 0, 0, 0), (.ifCond .ne 15, 3, 0, 0, 0), (.aload_n 3, 1, 0, 0, 0), (.iconst 0, 1, 0, 0, 0), (.laload, 1, 0, 0, 0), (.iload 6, 2, 0, 0, 0), (.i2l, 1, 0, 0, 0), (.lcmp, 1, 0, 0, 0), (.ifCond .eq 5, 3, 0, 0, 0), (.iconst 0, 1, 0, 0, 0), (.ireturn, 1, 0, 0, 0)]
set_option maxRecDepth 20000 in
theorem o_L_law_1486 : am_okB mt_L_law 1486 k_L_law_1486 = true := by decide +kernel
theorem g_L_law_1486 {L : am_S} (hL : L.1 < 2 ^ 31) {n : Nat} {ls st : List Value} {M : am_M} {Q : am_Q} (h : am_B L mt_L_law k_L_law_1486 n 1486 ls st M Q) : am_R L mt_L_law n 1486 ls st M Q := am_go L mt_L_law (fun _ => hL) k_L_law_1486 n 1486 ls st M Q o_L_law_1486 h
def k_L_law_1503 : List am_I := [(.goto 71, 3, 0, 0, 0)]
set_option maxRecDepth 20000 in
theorem o_L_law_1503 : am_okB mt_L_law 1503 k_L_law_1503 = true := by decide +kernel
theorem g_L_law_1503 {L : am_S} (hL : L.1 < 2 ^ 31) {n : Nat} {ls st : List Value} {M : am_M} {Q : am_Q} (h : am_B L mt_L_law k_L_law_1503 n 1503 ls st M Q) : am_R L mt_L_law n 1503 ls st M Q := am_go L mt_L_law (fun _ => hL) k_L_law_1503 n 1503 ls st M Q o_L_law_1503 h
def k_L_law_1506 : List am_I := [(.aload_n 1, 1, 0, 0, 0), (.invokevirtual 168, 3, 59, 1, 270), (.aload_n 2, 1, 0, 0, 0), (.invokevirtual 171, 3, 142, 1, 1039), (.if_icmp .eq 60, 3, 0, 0, 0), (.iconst 0, 1, 0, 0, 0), (.ireturn, 1, 0, 0, 0)]
set_option maxRecDepth 20000 in
theorem o_L_law_1506 : am_okB mt_L_law 1506 k_L_law_1506 = true := by decide +kernel
theorem g_L_law_1506 {L : am_S} (hL : L.1 < 2 ^ 31) {n : Nat} {ls st : List Value} {M : am_M} {Q : am_Q} (h : am_B L mt_L_law k_L_law_1506 n 1506 ls st M Q) : am_R L mt_L_law n 1506 ls st M Q := am_go L mt_L_law (fun _ => hL) k_L_law_1506 n 1506 ls st M Q o_L_law_1506 h
def k_L_law_1519 : List am_I := [(.aload_n 1, 1, 0, 0, 0), (.invokevirtual 172, 3, 60, 1, 323), (.dstore 5, 2, 0, 0, 0), (.aload_n 2, 1, 0, 0, 0), (.invokevirtual 176, 3, 144, 1, 1047), (.dstore 7, 2, 0, 0, 0), (.dload 5, 2, 0, 0, 0), (.dload 7, 2, 0, 0, 0), (.dcmp .l, 1, 0, 0, 0), (.ifCond .eq 21, 3, 0, 0, 0), (.dload 5, 2, 0, 0, 0), (.dload 5, 2, 0, 0, 0), (.dcmp .l, 1, 0, 0, 0), (.ifCond .eq 11, 3, 0, 0, 0), (.dload 7, 2, 0, 0, 0), (.dload 7, 2, 0, 0, 0), (.dcmp .l, 1, 0, 0, 0), (.ifCond .ne 5, 3, 0, 0, 0)]
set_option maxRecDepth 20000 in
theorem o_L_law_1519 : am_okB mt_L_law 1519 k_L_law_1519 = true := by decide +kernel
theorem g_L_law_1519 {L : am_S} (hL : L.1 < 2 ^ 31) {n : Nat} {ls st : List Value} {M : am_M} {Q : am_Q} (h : am_B L mt_L_law k_L_law_1519 n 1519 ls st M Q) : am_R L mt_L_law n 1519 ls st M Q := am_go L mt_L_law (fun _ => hL) k_L_law_1519 n 1519 ls st M Q o_L_law_1519 h
def k_L_law_1555 : List am_I := [(.iconst 0, 1, 0, 0, 0), (.ireturn, 1, 0, 0, 0)]
set_option maxRecDepth 20000 in
theorem o_L_law_1555 : am_okB mt_L_law 1555 k_L_law_1555 = true := by decide +kernel
theorem g_L_law_1555 {L : am_S} (hL : L.1 < 2 ^ 31) {n : Nat} {ls st : List Value} {M : am_M} {Q : am_Q} (h : am_B L mt_L_law k_L_law_1555 n 1555 ls st M Q) : am_R L mt_L_law n 1555 ls st M Q := am_go L mt_L_law (fun _ => hL) k_L_law_1555 n 1555 ls st M Q o_L_law_1555 h
def k_L_law_1557 : List am_I := [(.goto 17, 3, 0, 0, 0)]
set_option maxRecDepth 20000 in
theorem o_L_law_1557 : am_okB mt_L_law 1557 k_L_law_1557 = true := by decide +kernel
theorem g_L_law_1557 {L : am_S} (hL : L.1 < 2 ^ 31) {n : Nat} {ls st : List Value} {M : am_M} {Q : am_Q} (h : am_B L mt_L_law k_L_law_1557 n 1557 ls st M Q) : am_R L mt_L_law n 1557 ls st M Q := am_go L mt_L_law (fun _ => hL) k_L_law_1557 n 1557 ls st M Q o_L_law_1557 h
def k_L_law_1560 : List am_I := [(.aload_n 1, 1, 0, 0, 0), (.invokevirtual 177, 3, 61, 1, 327), (.aload_n 2, 1, 0, 0, 0), (.invokevirtual 181, 3, 145, 1, 1055), (.lcmp, 1, 0, 0, 0), (.ifCond .eq 5, 3, 0, 0, 0), (.iconst 0, 1, 0, 0, 0), (.ireturn, 1, 0, 0, 0)]
set_option maxRecDepth 20000 in
theorem o_L_law_1560 : am_okB mt_L_law 1560 k_L_law_1560 = true := by decide +kernel
theorem g_L_law_1560 {L : am_S} (hL : L.1 < 2 ^ 31) {n : Nat} {ls st : List Value} {M : am_M} {Q : am_Q} (h : am_B L mt_L_law k_L_law_1560 n 1560 ls st M Q) : am_R L mt_L_law n 1560 ls st M Q := am_go L mt_L_law (fun _ => hL) k_L_law_1560 n 1560 ls st M Q o_L_law_1560 h
def k_L_law_1574 : List am_I := [(.iinc 4 6, 3, 0, 0, 0), (.goto (-1554), 3, 0, 0, 0)]
set_option maxRecDepth 20000 in
theorem o_L_law_1574 : am_okB mt_L_law 1574 k_L_law_1574 = true := by decide +kernel
theorem g_L_law_1574 {L : am_S} (hL : L.1 < 2 ^ 31) {n : Nat} {ls st : List Value} {M : am_M} {Q : am_Q} (h : am_B L mt_L_law k_L_law_1574 n 1574 ls st M Q) : am_R L mt_L_law n 1574 ls st M Q := am_go L mt_L_law (fun _ => hL) k_L_law_1574 n 1574 ls st M Q o_L_law_1574 h
def k_L_law_1580 : List am_I := [(.iconst 1, 1, 0, 0, 0), (.ireturn, 1, 0, 0, 0)]
set_option maxRecDepth 20000 in
theorem o_L_law_1580 : am_okB mt_L_law 1580 k_L_law_1580 = true := by decide +kernel
theorem g_L_law_1580 {L : am_S} (hL : L.1 < 2 ^ 31) {n : Nat} {ls st : List Value} {M : am_M} {Q : am_Q} (h : am_B L mt_L_law k_L_law_1580 n 1580 ls st M Q) : am_R L mt_L_law n 1580 ls st M Q := am_go L mt_L_law (fun _ => hL) k_L_law_1580 n 1580 ls st M Q o_L_law_1580 h
