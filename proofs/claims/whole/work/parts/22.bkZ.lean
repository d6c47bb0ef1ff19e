/-! DyeVatsModel: blocks of code, written by wip/whole/mk15.py out of what TURN printed of the program -/
def k_Z_thrown_0 : List am_I := [(.aload_n 0, 1, 0, 0, 0), (.getfield 39, 3, 4, 0, 727), (.ireturn, 1, 0, 0, 0)]
set_option maxRecDepth 20000 in
theorem o_Z_thrown_0 : am_okB mt_Z_thrown 0 k_Z_thrown_0 = true := by decide +kernel
theorem g_Z_thrown_0 {L : am_S} {n : Nat} {ls st : List Value} {M : am_M} {Q : am_Q} (h : am_B L mt_Z_thrown k_Z_thrown_0 n 0 ls st M Q) : am_R L mt_Z_thrown n 0 ls st M Q := am_go L mt_Z_thrown (fun h => by cases h) k_Z_thrown_0 n 0 ls st M Q o_Z_thrown_0 h
def k_Z_in_0 : List am_I := [(.iload_n 0, 1, 0, 0, 0), (.iload_n 1, 1, 0, 0, 0), (.if_icmp .lt 12, 3, 0, 0, 0), (.iload_n 0, 1, 0, 0, 0), (.iload_n 2, 1, 0, 0, 0), (.if_icmp .gt 7, 3, 0, 0, 0), (.iconst 1, 1, 0, 0, 0), (.goto 4, 3, 0, 0, 0)]
set_option maxRecDepth 20000 in
theorem o_Z_in_0 : am_okB mt_Z_in 0 k_Z_in_0 = true := by decide +kernel
theorem g_Z_in_0 {L : am_S} {n : Nat} {ls st : List Value} {M : am_M} {Q : am_Q} (h : am_B L mt_Z_in k_Z_in_0 n 0 ls st M Q) : am_R L mt_Z_in n 0 ls st M Q := am_go L mt_Z_in (fun h => by cases h) k_Z_in_0 n 0 ls st M Q o_Z_in_0 h
def k_Z_in_14 : List am_I := [(.iconst 0, 1, 0, 0, 0)]
set_option maxRecDepth 20000 in
theorem o_Z_in_14 : am_okB mt_Z_in 14 k_Z_in_14 = true := by decide +kernel
theorem g_Z_in_14 {L : am_S} {n : Nat} {ls st : List Value} {M : am_M} {Q : am_Q} (h : am_B L mt_Z_in k_Z_in_14 n 14 ls st M Q) : am_R L mt_Z_in n 14 ls st M Q := am_go L mt_Z_in (fun h => by cases h) k_Z_in_14 n 14 ls st M Q o_Z_in_14 h
def k_Z_in_15 : List am_I := [(.ireturn, 1, 0, 0, 0)]
set_option maxRecDepth 20000 in
theorem o_Z_in_15 : am_okB mt_Z_in 15 k_Z_in_15 = true := by decide +kernel
theorem g_Z_in_15 {L : am_S} {n : Nat} {ls st : List Value} {M : am_M} {Q : am_Q} (h : am_B L mt_Z_in k_Z_in_15 n 15 ls st M Q) : am_R L mt_Z_in n 15 ls st M Q := am_go L mt_Z_in (fun h => by cases h) k_Z_in_15 n 15 ls st M Q o_Z_in_15 h
def k_Z_least_0 : List am_I := [(.iload_n 0, 1, 0, 0, 0), (.iload_n 1, 1, 0, 0, 0), (.if_icmp .ge 7, 3, 0, 0, 0), (.iload_n 0, 1, 0, 0, 0), (.goto 4, 3, 0, 0, 0)]
set_option maxRecDepth 20000 in
theorem o_Z_least_0 : am_okB mt_Z_least 0 k_Z_least_0 = true := by decide +kernel
theorem g_Z_least_0 {L : am_S} {n : Nat} {ls st : List Value} {M : am_M} {Q : am_Q} (h : am_B L mt_Z_least k_Z_least_0 n 0 ls st M Q) : am_R L mt_Z_least n 0 ls st M Q := am_go L mt_Z_least (fun h => by cases h) k_Z_least_0 n 0 ls st M Q o_Z_least_0 h
def k_Z_least_9 : List am_I := [(.iload_n 1, 1, 0, 0, 0)]
set_option maxRecDepth 20000 in
theorem o_Z_least_9 : am_okB mt_Z_least 9 k_Z_least_9 = true := by decide +kernel
theorem g_Z_least_9 {L : am_S} {n : Nat} {ls st : List Value} {M : am_M} {Q : am_Q} (h : am_B L mt_Z_least k_Z_least_9 n 9 ls st M Q) : am_R L mt_Z_least n 9 ls st M Q := am_go L mt_Z_least (fun h => by cases h) k_Z_least_9 n 9 ls st M Q o_Z_least_9 h
def k_Z_least_10 : List am_I := [(.ireturn, 1, 0, 0, 0)]
set_option maxRecDepth 20000 in
theorem o_Z_least_10 : am_okB mt_Z_least 10 k_Z_least_10 = true := by decide +kernel
theorem g_Z_least_10 {L : am_S} {n : Nat} {ls st : List Value} {M : am_M} {Q : am_Q} (h : am_B L mt_Z_least k_Z_least_10 n 10 ls st M Q) : am_R L mt_Z_least n 10 ls st M Q := am_go L mt_Z_least (fun h => by cases h) k_Z_least_10 n 10 ls st M Q o_Z_least_10 h
def k_Z_of_0 : List am_I := [(.aload_n 0, 1, 0, 0, 0), (.getfield 7, 3, 4, 1, 728), (.bipush 17, 2, 0, 0, 0), (.bipush 8, 2, 0, 0, 0), (.iload_n 1, 1, 0, 0, 0), (.imul, 1, 0, 0, 0), (.iadd, 1, 0, 0, 0), (.iload_n 2, 1, 0, 0, 0), (.iadd, 1, 0, 0, 0), (.iaload, 1, 0, 0, 0), (.ireturn, 1, 0, 0, 0)]
set_option maxRecDepth 20000 in
theorem o_Z_of_0 : am_okB mt_Z_of 0 k_Z_of_0 = true := by decide +kernel
theorem g_Z_of_0 {L : am_S} {n : Nat} {ls st : List Value} {M : am_M} {Q : am_Q} (h : am_B L mt_Z_of k_Z_of_0 n 0 ls st M Q) : am_R L mt_Z_of n 0 ls st M Q := am_go L mt_Z_of (fun h => by cases h) k_Z_of_0 n 0 ls st M Q o_Z_of_0 h
def k_Z_setVat_0 : List am_I := [(.aload_n 0, 1, 0, 0, 0), (.getfield 7, 3, 4, 1, 728), (.bipush 17, 2, 0, 0, 0), (.bipush 8, 2, 0, 0, 0), (.iload_n 1, 1, 0, 0, 0), (.imul, 1, 0, 0, 0), (.iadd, 1, 0, 0, 0), (.iload_n 2, 1, 0, 0, 0), (.iadd, 1, 0, 0, 0), (.iload_n 3, 1, 0, 0, 0), (.iastore, 1, 0, 0, 0), (.return_, 1, 0, 0, 0)]
set_option maxRecDepth 20000 in
theorem o_Z_setVat_0 : am_okB mt_Z_setVat 0 k_Z_setVat_0 = true := by decide +kernel
theorem g_Z_setVat_0 {L : am_S} {n : Nat} {ls st : List Value} {M : am_M} {Q : am_Q} (h : am_B L mt_Z_setVat k_Z_setVat_0 n 0 ls st M Q) : am_R L mt_Z_setVat n 0 ls st M Q := am_go L mt_Z_setVat (fun h => by cases h) k_Z_setVat_0 n 0 ls st M Q o_Z_setVat_0 h
def k_Z_add_0 : List am_I := [(.aload_n 0, 1, 0, 0, 0), (.getfield 7, 3, 4, 1, 728), (.bipush 17, 2, 0, 0, 0), (.bipush 8, 2, 0, 0, 0), (.iload_n 1, 1, 0, 0, 0), (.imul, 1, 0, 0, 0), (.iadd, 1, 0, 0, 0), (.iload_n 2, 1, 0, 0, 0), (.iadd, 1, 0, 0, 0), (.dup2, 1, 0, 0, 0), (.iaload, 1, 0, 0, 0), (.iload_n 3, 1, 0, 0, 0), (.iadd, 1, 0, 0, 0), (.iastore, 1, 0, 0, 0), (.return_, 1, 0, 0, 0)]
set_option maxRecDepth 20000 in
theorem o_Z_add_0 : am_okB mt_Z_add 0 k_Z_add_0 = true := by decide +kernel
theorem g_Z_add_0 {L : am_S} {n : Nat} {ls st : List Value} {M : am_M} {Q : am_Q} (h : am_B L mt_Z_add k_Z_add_0 n 0 ls st M Q) : am_R L mt_Z_add n 0 ls st M Q := am_go L mt_Z_add (fun h => by cases h) k_Z_add_0 n 0 ls st M Q o_Z_add_0 h
def k_Z_valveNow_0 : List am_I := [(.aload_n 0, 1, 0, 0, 0), (.getfield 7, 3, 4, 1, 728), (.bipush 57, 2, 0, 0, 0), (.bipush 6, 2, 0, 0, 0), (.iload_n 1, 1, 0, 0, 0), (.imul, 1, 0, 0, 0), (.iadd, 1, 0, 0, 0), (.iload_n 2, 1, 0, 0, 0), (.iadd, 1, 0, 0, 0), (.iaload, 1, 0, 0, 0), (.ireturn, 1, 0, 0, 0)]
set_option maxRecDepth 20000 in
theorem o_Z_valveNow_0 : am_okB mt_Z_valveNow 0 k_Z_valveNow_0 = true := by decide +kernel
theorem g_Z_valveNow_0 {L : am_S} {n : Nat} {ls st : List Value} {M : am_M} {Q : am_Q} (h : am_B L mt_Z_valveNow k_Z_valveNow_0 n 0 ls st M Q) : am_R L mt_Z_valveNow n 0 ls st M Q := am_go L mt_Z_valveNow (fun h => by cases h) k_Z_valveNow_0 n 0 ls st M Q o_Z_valveNow_0 h
def k_Z_isVat_0 : List am_I := [(.iload_n 0, 1, 0, 0, 0), (.iconst 0, 1, 0, 0, 0), (.iconst 4, 1, 0, 0, 0), (.invokestatic 43, 3, 75, 3, 791), (.ireturn, 1, 0, 0, 0)]
set_option maxRecDepth 20000 in
theorem o_Z_isVat_0 : am_okB mt_Z_isVat 0 k_Z_isVat_0 = true := by decide +kernel
theorem g_Z_isVat_0 {L : am_S} {n : Nat} {ls st : List Value} {M : am_M} {Q : am_Q} (h : am_B L mt_Z_isVat k_Z_isVat_0 n 0 ls st M Q) : am_R L mt_Z_isVat n 0 ls st M Q := am_go L mt_Z_isVat (fun h => by cases h) k_Z_isVat_0 n 0 ls st M Q o_Z_isVat_0 h
def k_Z_isDye_0 : List am_I := [(.iload_n 0, 1, 0, 0, 0), (.iconst 0, 1, 0, 0, 0), (.iconst 2, 1, 0, 0, 0), (.invokestatic 43, 3, 75, 3, 791), (.ireturn, 1, 0, 0, 0)]
set_option maxRecDepth 20000 in
theorem o_Z_isDye_0 : am_okB mt_Z_isDye 0 k_Z_isDye_0 = true := by decide +kernel
theorem g_Z_isDye_0 {L : am_S} {n : Nat} {ls st : List Value} {M : am_M} {Q : am_Q} (h : am_B L mt_Z_isDye k_Z_isDye_0 n 0 ls st M Q) : am_R L mt_Z_isDye n 0 ls st M Q := am_go L mt_Z_isDye (fun h => by cases h) k_Z_isDye_0 n 0 ls st M Q o_Z_isDye_0 h
def k_Z_isValve_0 : List am_I := [(.iload_n 1, 1, 0, 0, 0), (.iconst 0, 1, 0, 0, 0), (.aload_n 0, 1, 0, 0, 0), (.getfield 7, 3, 4, 1, 728), (.iconst 5, 1, 0, 0, 0), (.iaload, 1, 0, 0, 0), (.iconst 1, 1, 0, 0, 0), (.isub, 1, 0, 0, 0), (.invokestatic 43, 3, 75, 3, 791), (.ireturn, 1, 0, 0, 0)]
set_option maxRecDepth 20000 in
theorem o_Z_isValve_0 : am_okB mt_Z_isValve 0 k_Z_isValve_0 = true := by decide +kernel
theorem g_Z_isValve_0 {L : am_S} {n : Nat} {ls st : List Value} {M : am_M} {Q : am_Q} (h : am_B L mt_Z_isValve k_Z_isValve_0 n 0 ls st M Q) : am_R L mt_Z_isValve n 0 ls st M Q := am_go L mt_Z_isValve (fun h => by cases h) k_Z_isValve_0 n 0 ls st M Q o_Z_isValve_0 h
def k_Z_hourOfDay_0 : List am_I := [(.aload_n 0, 1, 0, 0, 0), (.getfield 7, 3, 4, 1, 728), (.iconst 0, 1, 0, 0, 0), (.iaload, 1, 0, 0, 0), (.bipush 24, 2, 0, 0, 0), (.irem, 1, 0, 0, 0), (.ireturn, 1, 0, 0, 0)]
set_option maxRecDepth 20000 in
theorem o_Z_hourOfDay_0 : am_okB mt_Z_hourOfDay 0 k_Z_hourOfDay_0 = true := by decide +kernel
theorem g_Z_hourOfDay_0 {L : am_S} {n : Nat} {ls st : List Value} {M : am_M} {Q : am_Q} (h : am_B L mt_Z_hourOfDay k_Z_hourOfDay_0 n 0 ls st M Q) : am_R L mt_Z_hourOfDay n 0 ls st M Q := am_go L mt_Z_hourOfDay (fun h => by cases h) k_Z_hourOfDay_0 n 0 ls st M Q o_Z_hourOfDay_0 h
def k_Z_holds_0 : List am_I := [(.aload_n 0, 1, 0, 0, 0), (.iload_n 1, 1, 0, 0, 0), (.iconst 1, 1, 0, 0, 0), (.invokevirtual 47, 3, 77, 3, 813), (.aload_n 0, 1, 0, 0, 0), (.getfield 7, 3, 4, 1, 728), (.iconst 1, 1, 0, 0, 0), (.iaload, 1, 0, 0, 0), (.imul, 1, 0, 0, 0), (.bipush 100, 2, 0, 0, 0), (.idiv, 1, 0, 0, 0), (.ireturn, 1, 0, 0, 0)]
set_option maxRecDepth 20000 in
theorem o_Z_holds_0 : am_okB mt_Z_holds 0 k_Z_holds_0 = true := by decide +kernel
theorem g_Z_holds_0 {L : am_S} {n : Nat} {ls st : List Value} {M : am_M} {Q : am_Q} (h : am_B L mt_Z_holds k_Z_holds_0 n 0 ls st M Q) : am_R L mt_Z_holds n 0 ls st M Q := am_go L mt_Z_holds (fun h => by cases h) k_Z_holds_0 n 0 ls st M Q o_Z_holds_0 h
def k_Z_isOpen_0 : List am_I := [(.aload_n 0, 1, 0, 0, 0), (.invokevirtual 51, 3, 84, 1, 794), (.aload_n 0, 1, 0, 0, 0), (.iload_n 1, 1, 0, 0, 0), (.iconst 3, 1, 0, 0, 0), (.invokevirtual 55, 3, 80, 3, 892), (.aload_n 0, 1, 0, 0, 0), (.iload_n 1, 1, 0, 0, 0), (.iconst 4, 1, 0, 0, 0), (.invokevirtual 55, 3, 80, 3, 892), (.invokestatic 43, 3, 75, 3, 791), (.ireturn, 1, 0, 0, 0)]
set_option maxRecDepth 20000 in
theorem o_Z_isOpen_0 : am_okB mt_Z_isOpen 0 k_Z_isOpen_0 = true := by decide +kernel
theorem g_Z_isOpen_0 {L : am_S} {n : Nat} {ls st : List Value} {M : am_M} {Q : am_Q} (h : am_B L mt_Z_isOpen k_Z_isOpen_0 n 0 ls st M Q) : am_R L mt_Z_isOpen n 0 ls st M Q := am_go L mt_Z_isOpen (fun h => by cases h) k_Z_isOpen_0 n 0 ls st M Q o_Z_isOpen_0 h
def k_Z_record_0 : List am_I := [(.aload_n 0, 1, 0, 0, 0), (.getfield 58, 3, 4, 4, 731), (.bipush 6, 2, 0, 0, 0), (.if_icmp .ne 43, 3, 0, 0, 0), (.iconst 0, 1, 0, 0, 0), (.istore_n 1, 1, 0, 0, 0)]
set_option maxRecDepth 20000 in
theorem o_Z_record_0 : am_okB mt_Z_record 0 k_Z_record_0 = true := by decide +kernel
theorem g_Z_record_0 {L : am_S} {n : Nat} {ls st : List Value} {M : am_M} {Q : am_Q} (h : am_B L mt_Z_record k_Z_record_0 n 0 ls st M Q) : am_R L mt_Z_record n 0 ls st M Q := am_go L mt_Z_record (fun h => by cases h) k_Z_record_0 n 0 ls st M Q o_Z_record_0 h
def k_Z_record_11 : List am_I := [(.iload_n 1, 1, 0, 0, 0), (.sipush 525, 3, 0, 0, 0), (.if_icmp .ge 24, 3, 0, 0, 0), (.aload_n 0, 1, 0, 0, 0), (.getfield 16, 3, 4, 3, 730), (.iload_n 1, 1, 0, 0, 0), (.aload_n 0, 1, 0, 0, 0), (.getfield 16, 3, 4, 3, 730), (.bipush 105, 2, 0, 0, 0), (.iload_n 1, 1, 0, 0, 0), (.iadd, 1, 0, 0, 0), (.iaload, 1, 0, 0, 0), (.iastore, 1, 0, 0, 0), (.iinc 1 1, 3, 0, 0, 0), (.goto (-25), 3, 0, 0, 0)]
set_option maxRecDepth 20000 in
theorem o_Z_record_11 : am_okB mt_Z_record 11 k_Z_record_11 = true := by decide +kernel
theorem g_Z_record_11 {L : am_S} {n : Nat} {ls st : List Value} {M : am_M} {Q : am_Q} (h : am_B L mt_Z_record k_Z_record_11 n 11 ls st M Q) : am_R L mt_Z_record n 11 ls st M Q := am_go L mt_Z_record (fun h => by cases h) k_Z_record_11 n 11 ls st M Q o_Z_record_11 h
def k_Z_record_39 : List am_I := [(.aload_n 0, 1, 0, 0, 0), (.dup, 1, 0, 0, 0), (.getfield 58, 3, 4, 4, 731), (.iconst 1, 1, 0, 0, 0), (.isub, 1, 0, 0, 0), (.putfield 58, 3, 4, 4, 731)]
set_option maxRecDepth 20000 in
theorem o_Z_record_39 : am_okB mt_Z_record 39 k_Z_record_39 = true := by decide +kernel
theorem g_Z_record_39 {L : am_S} {n : Nat} {ls st : List Value} {M : am_M} {Q : am_Q} (h : am_B L mt_Z_record k_Z_record_39 n 39 ls st M Q) : am_R L mt_Z_record n 39 ls st M Q := am_go L mt_Z_record (fun h => by cases h) k_Z_record_39 n 39 ls st M Q o_Z_record_39 h
def k_Z_record_49 : List am_I := [(.iconst 0, 1, 0, 0, 0), (.istore_n 1, 1, 0, 0, 0)]
set_option maxRecDepth 20000 in
theorem o_Z_record_49 : am_okB mt_Z_record 49 k_Z_record_49 = true := by decide +kernel
theorem g_Z_record_49 {L : am_S} {n : Nat} {ls st : List Value} {M : am_M} {Q : am_Q} (h : am_B L mt_Z_record k_Z_record_49 n 49 ls st M Q) : am_R L mt_Z_record n 49 ls st M Q := am_go L mt_Z_record (fun h => by cases h) k_Z_record_49 n 49 ls st M Q o_Z_record_49 h
def k_Z_record_51 : List am_I := [(.iload_n 1, 1, 0, 0, 0), (.bipush 105, 2, 0, 0, 0), (.if_icmp .ge 29, 3, 0, 0, 0), (.aload_n 0, 1, 0, 0, 0), (.getfield 16, 3, 4, 3, 730), (.bipush 105, 2, 0, 0, 0), (.aload_n 0, 1, 0, 0, 0), (.getfield 58, 3, 4, 4, 731), (.imul, 1, 0, 0, 0), (.iload_n 1, 1, 0, 0, 0), (.iadd, 1, 0, 0, 0), (.aload_n 0, 1, 0, 0, 0), (.getfield 7, 3, 4, 1, 728), (.iload_n 1, 1, 0, 0, 0), (.iaload, 1, 0, 0, 0), (.iastore, 1, 0, 0, 0), (.iinc 1 1, 3, 0, 0, 0), (.goto (-29), 3, 0, 0, 0)]
set_option maxRecDepth 20000 in
theorem o_Z_record_51 : am_okB mt_Z_record 51 k_Z_record_51 = true := by decide +kernel
theorem g_Z_record_51 {L : am_S} {n : Nat} {ls st : List Value} {M : am_M} {Q : am_Q} (h : am_B L mt_Z_record k_Z_record_51 n 51 ls st M Q) : am_R L mt_Z_record n 51 ls st M Q := am_go L mt_Z_record (fun h => by cases h) k_Z_record_51 n 51 ls st M Q o_Z_record_51 h
def k_Z_record_83 : List am_I := [(.aload_n 0, 1, 0, 0, 0), (.dup, 1, 0, 0, 0), (.getfield 58, 3, 4, 4, 731), (.iconst 1, 1, 0, 0, 0), (.iadd, 1, 0, 0, 0), (.putfield 58, 3, 4, 4, 731), (.return_, 1, 0, 0, 0)]
set_option maxRecDepth 20000 in
theorem o_Z_record_83 : am_okB mt_Z_record 83 k_Z_record_83 = true := by decide +kernel
theorem g_Z_record_83 {L : am_S} {n : Nat} {ls st : List Value} {M : am_M} {Q : am_Q} (h : am_B L mt_Z_record k_Z_record_83 n 83 ls st M Q) : am_R L mt_Z_record n 83 ls st M Q := am_go L mt_Z_record (fun h => by cases h) k_Z_record_83 n 83 ls st M Q o_Z_record_83 h
def k_Z_undo_0 : List am_I := [(.aload_n 0, 1, 0, 0, 0), (.aload_n 0, 1, 0, 0, 0), (.getfield 58, 3, 4, 4, 731), (.ifCond .ne 7, 3, 0, 0, 0), (.iconst 1, 1, 0, 0, 0), (.goto 4, 3, 0, 0, 0)]
set_option maxRecDepth 20000 in
theorem o_Z_undo_0 : am_okB mt_Z_undo 0 k_Z_undo_0 = true := by decide +kernel
theorem g_Z_undo_0 {L : am_S} {n : Nat} {ls st : List Value} {M : am_M} {Q : am_Q} (h : am_B L mt_Z_undo k_Z_undo_0 n 0 ls st M Q) : am_R L mt_Z_undo n 0 ls st M Q := am_go L mt_Z_undo (fun h => by cases h) k_Z_undo_0 n 0 ls st M Q o_Z_undo_0 h
def k_Z_undo_12 : List am_I := [(.iconst 0, 1, 0, 0, 0)]
set_option maxRecDepth 20000 in
theorem o_Z_undo_12 : am_okB mt_Z_undo 12 k_Z_undo_12 = true := by decide +kernel
theorem g_Z_undo_12 {L : am_S} {n : Nat} {ls st : List Value} {M : am_M} {Q : am_Q} (h : am_B L mt_Z_undo k_Z_undo_12 n 12 ls st M Q) : am_R L mt_Z_undo n 12 ls st M Q := am_go L mt_Z_undo (fun h => by cases h) k_Z_undo_12 n 12 ls st M Q o_Z_undo_12 h
def k_Z_undo_13 : List am_I := [(.putfield 39, 3, 4, 0, 727), (.aload_n 0, 1, 0, 0, 0), (.getfield 39, 3, 4, 0, 727), (.ifCond .le 5, 3, 0, 0, 0), (.iconst 0, 1, 0, 0, 0), (.ireturn, 1, 0, 0, 0)]
set_option maxRecDepth 20000 in
theorem o_Z_undo_13 : am_okB mt_Z_undo 13 k_Z_undo_13 = true := by decide +kernel
theorem g_Z_undo_13 {L : am_S} {n : Nat} {ls st : List Value} {M : am_M} {Q : am_Q} (h : am_B L mt_Z_undo k_Z_undo_13 n 13 ls st M Q) : am_R L mt_Z_undo n 13 ls st M Q := am_go L mt_Z_undo (fun h => by cases h) k_Z_undo_13 n 13 ls st M Q o_Z_undo_13 h
def k_Z_undo_25 : List am_I := [(.aload_n 0, 1, 0, 0, 0), (.dup, 1, 0, 0, 0), (.getfield 58, 3, 4, 4, 731), (.iconst 1, 1, 0, 0, 0), (.isub, 1, 0, 0, 0), (.putfield 58, 3, 4, 4, 731), (.iconst 0, 1, 0, 0, 0), (.istore_n 1, 1, 0, 0, 0)]
set_option maxRecDepth 20000 in
theorem o_Z_undo_25 : am_okB mt_Z_undo 25 k_Z_undo_25 = true := by decide +kernel
theorem g_Z_undo_25 {L : am_S} {n : Nat} {ls st : List Value} {M : am_M} {Q : am_Q} (h : am_B L mt_Z_undo k_Z_undo_25 n 25 ls st M Q) : am_R L mt_Z_undo n 25 ls st M Q := am_go L mt_Z_undo (fun h => by cases h) k_Z_undo_25 n 25 ls st M Q o_Z_undo_25 h
def k_Z_undo_37 : List am_I := [(.iload_n 1, 1, 0, 0, 0), (.bipush 105, 2, 0, 0, 0), (.if_icmp .ge 29, 3, 0, 0, 0), (.aload_n 0, 1, 0, 0, 0), (.getfield 7, 3, 4, 1, 728), (.iload_n 1, 1, 0, 0, 0), (.aload_n 0, 1, 0, 0, 0), (.getfield 16, 3, 4, 3, 730), (.bipush 105, 2, 0, 0, 0), (.aload_n 0, 1, 0, 0, 0), (.getfield 58, 3, 4, 4, 731), (.imul, 1, 0, 0, 0), (.iload_n 1, 1, 0, 0, 0), (.iadd, 1, 0, 0, 0), (.iaload, 1, 0, 0, 0), (.iastore, 1, 0, 0, 0), (.iinc 1 1, 3, 0, 0, 0), (.goto (-29), 3, 0, 0, 0)]
set_option maxRecDepth 20000 in
theorem o_Z_undo_37 : am_okB mt_Z_undo 37 k_Z_undo_37 = true := by decide +kernel
theorem g_Z_undo_37 {L : am_S} {n : Nat} {ls st : List Value} {M : am_M} {Q : am_Q} (h : am_B L mt_Z_undo k_Z_undo_37 n 37 ls st M Q) : am_R L mt_Z_undo n 37 ls st M Q := am_go L mt_Z_undo (fun h => by cases h) k_Z_undo_37 n 37 ls st M Q o_Z_undo_37 h
def k_Z_undo_69 : List am_I := [(.aload_n 0, 1, 0, 0, 0), (.getfield 58, 3, 4, 4, 731), (.ireturn, 1, 0, 0, 0)]
set_option maxRecDepth 20000 in
theorem o_Z_undo_69 : am_okB mt_Z_undo 69 k_Z_undo_69 = true := by decide +kernel
theorem g_Z_undo_69 {L : am_S} {n : Nat} {ls st : List Value} {M : am_M} {Q : am_Q} (h : am_B L mt_Z_undo k_Z_undo_69 n 69 ls st M Q) : am_R L mt_Z_undo n 69 ls st M Q := am_go L mt_Z_undo (fun h => by cases h) k_Z_undo_69 n 69 ls st M Q o_Z_undo_69 h
def k_Z_keep_0 : List am_I := [(.aload_n 0, 1, 0, 0, 0), (.iload_n 1, 1, 0, 0, 0), (.iconst 0, 1, 0, 0, 0), (.iconst 1, 1, 0, 0, 0), (.invokestatic 43, 3, 75, 3, 791), (.ifCond .eq 7, 3, 0, 0, 0), (.iconst 0, 1, 0, 0, 0), (.goto 4, 3, 0, 0, 0)]
set_option maxRecDepth 20000 in
theorem o_Z_keep_0 : am_okB mt_Z_keep 0 k_Z_keep_0 = true := by decide +kernel
theorem g_Z_keep_0 {L : am_S} {n : Nat} {ls st : List Value} {M : am_M} {Q : am_Q} (h : am_B L mt_Z_keep k_Z_keep_0 n 0 ls st M Q) : am_R L mt_Z_keep n 0 ls st M Q := am_go L mt_Z_keep (fun h => by cases h) k_Z_keep_0 n 0 ls st M Q o_Z_keep_0 h
def k_Z_keep_14 : List am_I := [(.iconst 1, 1, 0, 0, 0)]
set_option maxRecDepth 20000 in
theorem o_Z_keep_14 : am_okB mt_Z_keep 14 k_Z_keep_14 = true := by decide +kernel
theorem g_Z_keep_14 {L : am_S} {n : Nat} {ls st : List Value} {M : am_M} {Q : am_Q} (h : am_B L mt_Z_keep k_Z_keep_14 n 14 ls st M Q) : am_R L mt_Z_keep n 14 ls st M Q := am_go L mt_Z_keep (fun h => by cases h) k_Z_keep_14 n 14 ls st M Q o_Z_keep_14 h
def k_Z_keep_15 : List am_I := [(.putfield 39, 3, 4, 0, 727), (.aload_n 0, 1, 0, 0, 0), (.getfield 39, 3, 4, 0, 727), (.ifCond .le 5, 3, 0, 0, 0), (.iconst 0, 1, 0, 0, 0), (.ireturn, 1, 0, 0, 0)]
set_option maxRecDepth 20000 in
theorem o_Z_keep_15 : am_okB mt_Z_keep 15 k_Z_keep_15 = true := by decide +kernel
theorem g_Z_keep_15 {L : am_S} {n : Nat} {ls st : List Value} {M : am_M} {Q : am_Q} (h : am_B L mt_Z_keep k_Z_keep_15 n 15 ls st M Q) : am_R L mt_Z_keep n 15 ls st M Q := am_go L mt_Z_keep (fun h => by cases h) k_Z_keep_15 n 15 ls st M Q o_Z_keep_15 h
def k_Z_keep_27 : List am_I := [(.iconst 0, 1, 0, 0, 0), (.istore_n 2, 1, 0, 0, 0)]
set_option maxRecDepth 20000 in
theorem o_Z_keep_27 : am_okB mt_Z_keep 27 k_Z_keep_27 = true := by decide +kernel
theorem g_Z_keep_27 {L : am_S} {n : Nat} {ls st : List Value} {M : am_M} {Q : am_Q} (h : am_B L mt_Z_keep k_Z_keep_27 n 27 ls st M Q) : am_R L mt_Z_keep n 27 ls st M Q := am_go L mt_Z_keep (fun h => by cases h) k_Z_keep_27 n 27 ls st M Q o_Z_keep_27 h
def k_Z_keep_29 : List am_I := [(.iload_n 2, 1, 0, 0, 0), (.bipush 105, 2, 0, 0, 0), (.if_icmp .ge 26, 3, 0, 0, 0), (.aload_n 0, 1, 0, 0, 0), (.getfield 19, 3, 4, 5, 732), (.bipush 105, 2, 0, 0, 0), (.iload_n 1, 1, 0, 0, 0), (.imul, 1, 0, 0, 0), (.iload_n 2, 1, 0, 0, 0), (.iadd, 1, 0, 0, 0), (.aload_n 0, 1, 0, 0, 0), (.getfield 7, 3, 4, 1, 728), (.iload_n 2, 1, 0, 0, 0), (.iaload, 1, 0, 0, 0), (.iastore, 1, 0, 0, 0), (.iinc 2 1, 3, 0, 0, 0), (.goto (-26), 3, 0, 0, 0)]
set_option maxRecDepth 20000 in
theorem o_Z_keep_29 : am_okB mt_Z_keep 29 k_Z_keep_29 = true := by decide +kernel
theorem g_Z_keep_29 {L : am_S} {n : Nat} {ls st : List Value} {M : am_M} {Q : am_Q} (h : am_B L mt_Z_keep k_Z_keep_29 n 29 ls st M Q) : am_R L mt_Z_keep n 29 ls st M Q := am_go L mt_Z_keep (fun h => by cases h) k_Z_keep_29 n 29 ls st M Q o_Z_keep_29 h
def k_Z_keep_58 : List am_I := [(.aload_n 0, 1, 0, 0, 0), (.getfield 22, 3, 4, 6, 733), (.iload_n 1, 1, 0, 0, 0), (.iconst 1, 1, 0, 0, 0), (.bastore, 1, 0, 0, 0), (.aload_n 0, 1, 0, 0, 0), (.invokevirtual 51, 3, 84, 1, 794), (.ireturn, 1, 0, 0, 0)]
set_option maxRecDepth 20000 in
theorem o_Z_keep_58 : am_okB mt_Z_keep 58 k_Z_keep_58 = true := by decide +kernel
theorem g_Z_keep_58 {L : am_S} {n : Nat} {ls st : List Value} {M : am_M} {Q : am_Q} (h : am_B L mt_Z_keep k_Z_keep_58 n 58 ls st M Q) : am_R L mt_Z_keep n 58 ls st M Q := am_go L mt_Z_keep (fun h => by cases h) k_Z_keep_58 n 58 ls st M Q o_Z_keep_58 h
def k_Z_goBack_0 : List am_I := [(.aload_n 0, 1, 0, 0, 0), (.iload_n 1, 1, 0, 0, 0), (.iconst 0, 1, 0, 0, 0), (.iconst 1, 1, 0, 0, 0), (.invokestatic 43, 3, 75, 3, 791), (.ifCond .ne 7, 3, 0, 0, 0), (.iconst 1, 1, 0, 0, 0), (.goto 17, 3, 0, 0, 0)]
set_option maxRecDepth 20000 in
theorem o_Z_goBack_0 : am_okB mt_Z_goBack 0 k_Z_goBack_0 = true := by decide +kernel
theorem g_Z_goBack_0 {L : am_S} {n : Nat} {ls st : List Value} {M : am_M} {Q : am_Q} (h : am_B L mt_Z_goBack k_Z_goBack_0 n 0 ls st M Q) : am_R L mt_Z_goBack n 0 ls st M Q := am_go L mt_Z_goBack (fun h => by cases h) k_Z_goBack_0 n 0 ls st M Q o_Z_goBack_0 h
def k_Z_goBack_14 : List am_I := [(.aload_n 0, 1, 0, 0, 0), (.getfield 22, 3, 4, 6, 733), (.iload_n 1, 1, 0, 0, 0), (.baload, 1, 0, 0, 0), (.ifCond .eq 7, 3, 0, 0, 0), (.iconst 0, 1, 0, 0, 0), (.goto 4, 3, 0, 0, 0)]
set_option maxRecDepth 20000 in
theorem o_Z_goBack_14 : am_okB mt_Z_goBack 14 k_Z_goBack_14 = true := by decide +kernel
theorem g_Z_goBack_14 {L : am_S} {n : Nat} {ls st : List Value} {M : am_M} {Q : am_Q} (h : am_B L mt_Z_goBack k_Z_goBack_14 n 14 ls st M Q) : am_R L mt_Z_goBack n 14 ls st M Q := am_go L mt_Z_goBack (fun h => by cases h) k_Z_goBack_14 n 14 ls st M Q o_Z_goBack_14 h
def k_Z_goBack_27 : List am_I := [(.iconst 2, 1, 0, 0, 0)]
set_option maxRecDepth 20000 in
theorem o_Z_goBack_27 : am_okB mt_Z_goBack 27 k_Z_goBack_27 = true := by decide +kernel
theorem g_Z_goBack_27 {L : am_S} {n : Nat} {ls st : List Value} {M : am_M} {Q : am_Q} (h : am_B L mt_Z_goBack k_Z_goBack_27 n 27 ls st M Q) : am_R L mt_Z_goBack n 27 ls st M Q := am_go L mt_Z_goBack (fun h => by cases h) k_Z_goBack_27 n 27 ls st M Q o_Z_goBack_27 h
def k_Z_goBack_28 : List am_I := [(.putfield 39, 3, 4, 0, 727), (.aload_n 0, 1, 0, 0, 0), (.getfield 39, 3, 4, 0, 727), (.ifCond .le 5, 3, 0, 0, 0), (.iconst 0, 1, 0, 0, 0), (.ireturn, 1, 0, 0, 0)]
set_option maxRecDepth 20000 in
theorem o_Z_goBack_28 : am_okB mt_Z_goBack 28 k_Z_goBack_28 = true := by decide +kernel
theorem g_Z_goBack_28 {L : am_S} {n : Nat} {ls st : List Value} {M : am_M} {Q : am_Q} (h : am_B L mt_Z_goBack k_Z_goBack_28 n 28 ls st M Q) : am_R L mt_Z_goBack n 28 ls st M Q := am_go L mt_Z_goBack (fun h => by cases h) k_Z_goBack_28 n 28 ls st M Q o_Z_goBack_28 h
def k_Z_goBack_40 : List am_I := [(.aload_n 0, 1, 0, 0, 0), (.invokevirtual 61, 3, 87, 1, 802), (.iconst 0, 1, 0, 0, 0), (.istore_n 2, 1, 0, 0, 0)]
set_option maxRecDepth 20000 in
theorem o_Z_goBack_40 : am_okB mt_Z_goBack 40 k_Z_goBack_40 = true := by decide +kernel
theorem g_Z_goBack_40 {L : am_S} {n : Nat} {ls st : List Value} {M : am_M} {Q : am_Q} (h : am_B L mt_Z_goBack k_Z_goBack_40 n 40 ls st M Q) : am_R L mt_Z_goBack n 40 ls st M Q := am_go L mt_Z_goBack (fun h => by cases h) k_Z_goBack_40 n 40 ls st M Q o_Z_goBack_40 h
def k_Z_goBack_46 : List am_I := [(.iload_n 2, 1, 0, 0, 0), (.bipush 105, 2, 0, 0, 0), (.if_icmp .ge 26, 3, 0, 0, 0), (.aload_n 0, 1, 0, 0, 0), (.getfield 7, 3, 4, 1, 728), (.iload_n 2, 1, 0, 0, 0), (.aload_n 0, 1, 0, 0, 0), (.getfield 19, 3, 4, 5, 732), (.bipush 105, 2, 0, 0, 0), (.iload_n 1, 1, 0, 0, 0), (.imul, 1, 0, 0, 0), (.iload_n 2, 1, 0, 0, 0), (.iadd, 1, 0, 0, 0), (.iaload, 1, 0, 0, 0), (.iastore, 1, 0, 0, 0), (.iinc 2 1, 3, 0, 0, 0), (.goto (-26), 3, 0, 0, 0)]
set_option maxRecDepth 20000 in
theorem o_Z_goBack_46 : am_okB mt_Z_goBack 46 k_Z_goBack_46 = true := by decide +kernel
theorem g_Z_goBack_46 {L : am_S} {n : Nat} {ls st : List Value} {M : am_M} {Q : am_Q} (h : am_B L mt_Z_goBack k_Z_goBack_46 n 46 ls st M Q) : am_R L mt_Z_goBack n 46 ls st M Q := am_go L mt_Z_goBack (fun h => by cases h) k_Z_goBack_46 n 46 ls st M Q o_Z_goBack_46 h
def k_Z_goBack_75 : List am_I := [(.aload_n 0, 1, 0, 0, 0), (.invokevirtual 51, 3, 84, 1, 794), (.ireturn, 1, 0, 0, 0)]
set_option maxRecDepth 20000 in
theorem o_Z_goBack_75 : am_okB mt_Z_goBack 75 k_Z_goBack_75 = true := by decide +kernel
theorem g_Z_goBack_75 {L : am_S} {n : Nat} {ls st : List Value} {M : am_M} {Q : am_Q} (h : am_B L mt_Z_goBack k_Z_goBack_75 n 75 ls st M Q) : am_R L mt_Z_goBack n 75 ls st M Q := am_go L mt_Z_goBack (fun h => by cases h) k_Z_goBack_75 n 75 ls st M Q o_Z_goBack_75 h
def k_Z_putAside_0 : List am_I := [(.iconst 0, 1, 0, 0, 0), (.istore_n 1, 1, 0, 0, 0)]
set_option maxRecDepth 20000 in
theorem o_Z_putAside_0 : am_okB mt_Z_putAside 0 k_Z_putAside_0 = true := by decide +kernel
theorem g_Z_putAside_0 {L : am_S} {n : Nat} {ls st : List Value} {M : am_M} {Q : am_Q} (h : am_B L mt_Z_putAside k_Z_putAside_0 n 0 ls st M Q) : am_R L mt_Z_putAside n 0 ls st M Q := am_go L mt_Z_putAside (fun h => by cases h) k_Z_putAside_0 n 0 ls st M Q o_Z_putAside_0 h
def k_Z_putAside_2 : List am_I := [(.iload_n 1, 1, 0, 0, 0), (.bipush 105, 2, 0, 0, 0), (.if_icmp .ge 21, 3, 0, 0, 0), (.aload_n 0, 1, 0, 0, 0), (.getfield 13, 3, 4, 2, 729), (.iload_n 1, 1, 0, 0, 0), (.aload_n 0, 1, 0, 0, 0), (.getfield 7, 3, 4, 1, 728), (.iload_n 1, 1, 0, 0, 0), (.iaload, 1, 0, 0, 0), (.iastore, 1, 0, 0, 0), (.iinc 1 1, 3, 0, 0, 0), (.goto (-21), 3, 0, 0, 0)]
set_option maxRecDepth 20000 in
theorem o_Z_putAside_2 : am_okB mt_Z_putAside 2 k_Z_putAside_2 = true := by decide +kernel
theorem g_Z_putAside_2 {L : am_S} {n : Nat} {ls st : List Value} {M : am_M} {Q : am_Q} (h : am_B L mt_Z_putAside k_Z_putAside_2 n 2 ls st M Q) : am_R L mt_Z_putAside n 2 ls st M Q := am_go L mt_Z_putAside (fun h => by cases h) k_Z_putAside_2 n 2 ls st M Q o_Z_putAside_2 h
def k_Z_putAside_26 : List am_I := [(.return_, 1, 0, 0, 0)]
set_option maxRecDepth 20000 in
theorem o_Z_putAside_26 : am_okB mt_Z_putAside 26 k_Z_putAside_26 = true := by decide +kernel
theorem g_Z_putAside_26 {L : am_S} {n : Nat} {ls st : List Value} {M : am_M} {Q : am_Q} (h : am_B L mt_Z_putAside k_Z_putAside_26 n 26 ls st M Q) : am_R L mt_Z_putAside n 26 ls st M Q := am_go L mt_Z_putAside (fun h => by cases h) k_Z_putAside_26 n 26 ls st M Q o_Z_putAside_26 h
def k_Z_putBack_0 : List am_I := [(.iconst 0, 1, 0, 0, 0), (.istore_n 1, 1, 0, 0, 0)]
set_option maxRecDepth 20000 in
theorem o_Z_putBack_0 : am_okB mt_Z_putBack 0 k_Z_putBack_0 = true := by decide +kernel
theorem g_Z_putBack_0 {L : am_S} {n : Nat} {ls st : List Value} {M : am_M} {Q : am_Q} (h : am_B L mt_Z_putBack k_Z_putBack_0 n 0 ls st M Q) : am_R L mt_Z_putBack n 0 ls st M Q := am_go L mt_Z_putBack (fun h => by cases h) k_Z_putBack_0 n 0 ls st M Q o_Z_putBack_0 h
def k_Z_putBack_2 : List am_I := [(.iload_n 1, 1, 0, 0, 0), (.bipush 105, 2, 0, 0, 0), (.if_icmp .ge 21, 3, 0, 0, 0), (.aload_n 0, 1, 0, 0, 0), (.getfield 7, 3, 4, 1, 728), (.iload_n 1, 1, 0, 0, 0), (.aload_n 0, 1, 0, 0, 0), (.getfield 13, 3, 4, 2, 729), (.iload_n 1, 1, 0, 0, 0), (.iaload, 1, 0, 0, 0), (.iastore, 1, 0, 0, 0), (.iinc 1 1, 3, 0, 0, 0), (.goto (-21), 3, 0, 0, 0)]
set_option maxRecDepth 20000 in
theorem o_Z_putBack_2 : am_okB mt_Z_putBack 2 k_Z_putBack_2 = true := by decide +kernel
theorem g_Z_putBack_2 {L : am_S} {n : Nat} {ls st : List Value} {M : am_M} {Q : am_Q} (h : am_B L mt_Z_putBack k_Z_putBack_2 n 2 ls st M Q) : am_R L mt_Z_putBack n 2 ls st M Q := am_go L mt_Z_putBack (fun h => by cases h) k_Z_putBack_2 n 2 ls st M Q o_Z_putBack_2 h
def k_Z_putBack_26 : List am_I := [(.return_, 1, 0, 0, 0)]
set_option maxRecDepth 20000 in
theorem o_Z_putBack_26 : am_okB mt_Z_putBack 26 k_Z_putBack_26 = true := by decide +kernel
theorem g_Z_putBack_26 {L : am_S} {n : Nat} {ls st : List Value} {M : am_M} {Q : am_Q} (h : am_B L mt_Z_putBack k_Z_putBack_26 n 26 ls st M Q) : am_R L mt_Z_putBack n 26 ls st M Q := am_go L mt_Z_putBack (fun h => by cases h) k_Z_putBack_26 n 26 ls st M Q o_Z_putBack_26 h
def k_Z_fill_0 : List am_I := [(.aload_n 0, 1, 0, 0, 0), (.iload_n 1, 1, 0, 0, 0), (.invokestatic 64, 3, 81, 1, 810), (.ifCond .ne 7, 3, 0, 0, 0), (.iconst 1, 1, 0, 0, 0), (.goto 19, 3, 0, 0, 0)]
set_option maxRecDepth 20000 in
theorem o_Z_fill_0 : am_okB mt_Z_fill 0 k_Z_fill_0 = true := by decide +kernel
theorem g_Z_fill_0 {L : am_S} {n : Nat} {ls st : List Value} {M : am_M} {Q : am_Q} (h : am_B L mt_Z_fill k_Z_fill_0 n 0 ls st M Q) : am_R L mt_Z_fill n 0 ls st M Q := am_go L mt_Z_fill (fun h => by cases h) k_Z_fill_0 n 0 ls st M Q o_Z_fill_0 h
def k_Z_fill_12 : List am_I := [(.iload_n 2, 1, 0, 0, 0), (.iconst 1, 1, 0, 0, 0), (.sipush 2000, 3, 0, 0, 0), (.invokestatic 43, 3, 75, 3, 791), (.ifCond .eq 7, 3, 0, 0, 0), (.iconst 0, 1, 0, 0, 0), (.goto 4, 3, 0, 0, 0)]
set_option maxRecDepth 20000 in
theorem o_Z_fill_12 : am_okB mt_Z_fill 12 k_Z_fill_12 = true := by decide +kernel
theorem g_Z_fill_12 {L : am_S} {n : Nat} {ls st : List Value} {M : am_M} {Q : am_Q} (h : am_B L mt_Z_fill k_Z_fill_12 n 12 ls st M Q) : am_R L mt_Z_fill n 12 ls st M Q := am_go L mt_Z_fill (fun h => by cases h) k_Z_fill_12 n 12 ls st M Q o_Z_fill_12 h
def k_Z_fill_27 : List am_I := [(.iconst 2, 1, 0, 0, 0)]
set_option maxRecDepth 20000 in
theorem o_Z_fill_27 : am_okB mt_Z_fill 27 k_Z_fill_27 = true := by decide +kernel
theorem g_Z_fill_27 {L : am_S} {n : Nat} {ls st : List Value} {M : am_M} {Q : am_Q} (h : am_B L mt_Z_fill k_Z_fill_27 n 27 ls st M Q) : am_R L mt_Z_fill n 27 ls st M Q := am_go L mt_Z_fill (fun h => by cases h) k_Z_fill_27 n 27 ls st M Q o_Z_fill_27 h
def k_Z_fill_28 : List am_I := [(.putfield 39, 3, 4, 0, 727), (.aload_n 0, 1, 0, 0, 0), (.getfield 39, 3, 4, 0, 727), (.ifCond .le 5, 3, 0, 0, 0), (.iconst 0, 1, 0, 0, 0), (.ireturn, 1, 0, 0, 0)]
set_option maxRecDepth 20000 in
theorem o_Z_fill_28 : am_okB mt_Z_fill 28 k_Z_fill_28 = true := by decide +kernel
theorem g_Z_fill_28 {L : am_S} {n : Nat} {ls st : List Value} {M : am_M} {Q : am_Q} (h : am_B L mt_Z_fill k_Z_fill_28 n 28 ls st M Q) : am_R L mt_Z_fill n 28 ls st M Q := am_go L mt_Z_fill (fun h => by cases h) k_Z_fill_28 n 28 ls st M Q o_Z_fill_28 h
def k_Z_fill_40 : List am_I := [(.aload_n 0, 1, 0, 0, 0), (.invokevirtual 61, 3, 87, 1, 802), (.aload_n 0, 1, 0, 0, 0), (.iload_n 1, 1, 0, 0, 0), (.iconst 1, 1, 0, 0, 0), (.invokevirtual 47, 3, 77, 3, 813), (.iload_n 2, 1, 0, 0, 0), (.iadd, 1, 0, 0, 0), (.aload_n 0, 1, 0, 0, 0), (.iload_n 1, 1, 0, 0, 0), (.iconst 0, 1, 0, 0, 0), (.invokevirtual 47, 3, 77, 3, 813), (.if_icmp .le 15, 3, 0, 0, 0), (.aload_n 0, 1, 0, 0, 0), (.getfield 7, 3, 4, 1, 728), (.iconst 4, 1, 0, 0, 0), (.dup2, 1, 0, 0, 0), (.iaload, 1, 0, 0, 0), (.iconst 1, 1, 0, 0, 0), (.iadd, 1, 0, 0, 0), (.iastore, 1, 0, 0, 0), (.iconst (-1), 1, 0, 0, 0), (.ireturn, 1, 0, 0, 0)]
set_option maxRecDepth 20000 in
theorem o_Z_fill_40 : am_okB mt_Z_fill 40 k_Z_fill_40 = true := by decide +kernel
theorem g_Z_fill_40 {L : am_S} {n : Nat} {ls st : List Value} {M : am_M} {Q : am_Q} (h : am_B L mt_Z_fill k_Z_fill_40 n 40 ls st M Q) : am_R L mt_Z_fill n 40 ls st M Q := am_go L mt_Z_fill (fun h => by cases h) k_Z_fill_40 n 40 ls st M Q o_Z_fill_40 h
def k_Z_fill_73 : List am_I := [(.aload_n 0, 1, 0, 0, 0), (.iload_n 1, 1, 0, 0, 0), (.iconst 1, 1, 0, 0, 0), (.iload_n 2, 1, 0, 0, 0), (.invokevirtual 68, 3, 79, 4, 817), (.aload_n 0, 1, 0, 0, 0), (.getfield 7, 3, 4, 1, 728), (.iconst 3, 1, 0, 0, 0), (.dup2, 1, 0, 0, 0), (.iaload, 1, 0, 0, 0), (.iload_n 2, 1, 0, 0, 0), (.iadd, 1, 0, 0, 0), (.iastore, 1, 0, 0, 0), (.aload_n 0, 1, 0, 0, 0), (.iload_n 1, 1, 0, 0, 0), (.iconst 1, 1, 0, 0, 0), (.invokevirtual 47, 3, 77, 3, 813), (.ireturn, 1, 0, 0, 0)]
set_option maxRecDepth 20000 in
theorem o_Z_fill_73 : am_okB mt_Z_fill 73 k_Z_fill_73 = true := by decide +kernel
theorem g_Z_fill_73 {L : am_S} {n : Nat} {ls st : List Value} {M : am_M} {Q : am_Q} (h : am_B L mt_Z_fill k_Z_fill_73 n 73 ls st M Q) : am_R L mt_Z_fill n 73 ls st M Q := am_go L mt_Z_fill (fun h => by cases h) k_Z_fill_73 n 73 ls st M Q o_Z_fill_73 h
def k_Z_dye_0 : List am_I := [(.aload_n 0, 1, 0, 0, 0), (.iload_n 1, 1, 0, 0, 0), (.invokestatic 64, 3, 81, 1, 810), (.ifCond .eq 10, 3, 0, 0, 0), (.iload_n 2, 1, 0, 0, 0), (.invokestatic 71, 3, 82, 1, 825), (.ifCond .ne 7, 3, 0, 0, 0)]
set_option maxRecDepth 20000 in
theorem o_Z_dye_0 : am_okB mt_Z_dye 0 k_Z_dye_0 = true := by decide +kernel
theorem g_Z_dye_0 {L : am_S} {n : Nat} {ls st : List Value} {M : am_M} {Q : am_Q} (h : am_B L mt_Z_dye k_Z_dye_0 n 0 ls st M Q) : am_R L mt_Z_dye n 0 ls st M Q := am_go L mt_Z_dye (fun h => by cases h) k_Z_dye_0 n 0 ls st M Q o_Z_dye_0 h
def k_Z_dye_15 : List am_I := [(.iconst 1, 1, 0, 0, 0), (.goto 39, 3, 0, 0, 0)]
set_option maxRecDepth 20000 in
theorem o_Z_dye_15 : am_okB mt_Z_dye 15 k_Z_dye_15 = true := by decide +kernel
theorem g_Z_dye_15 {L : am_S} {n : Nat} {ls st : List Value} {M : am_M} {Q : am_Q} (h : am_B L mt_Z_dye k_Z_dye_15 n 15 ls st M Q) : am_R L mt_Z_dye n 15 ls st M Q := am_go L mt_Z_dye (fun h => by cases h) k_Z_dye_15 n 15 ls st M Q o_Z_dye_15 h
def k_Z_dye_19 : List am_I := [(.iload_n 3, 1, 0, 0, 0), (.iconst 1, 1, 0, 0, 0), (.sipush 999, 3, 0, 0, 0), (.invokestatic 43, 3, 75, 3, 791), (.ifCond .ne 7, 3, 0, 0, 0), (.iconst 2, 1, 0, 0, 0), (.goto 24, 3, 0, 0, 0)]
set_option maxRecDepth 20000 in
theorem o_Z_dye_19 : am_okB mt_Z_dye 19 k_Z_dye_19 = true := by decide +kernel
theorem g_Z_dye_19 {L : am_S} {n : Nat} {ls st : List Value} {M : am_M} {Q : am_Q} (h : am_B L mt_Z_dye k_Z_dye_19 n 19 ls st M Q) : am_R L mt_Z_dye n 19 ls st M Q := am_go L mt_Z_dye (fun h => by cases h) k_Z_dye_19 n 19 ls st M Q o_Z_dye_19 h
def k_Z_dye_34 : List am_I := [(.aload_n 0, 1, 0, 0, 0), (.getfield 7, 3, 4, 1, 728), (.bipush 11, 2, 0, 0, 0), (.iload_n 2, 1, 0, 0, 0), (.iadd, 1, 0, 0, 0), (.iaload, 1, 0, 0, 0), (.iload_n 3, 1, 0, 0, 0), (.iadd, 1, 0, 0, 0), (.ldc 74, 2, 99999, 0, 828), (.if_icmp .le 7, 3, 0, 0, 0), (.iconst 3, 1, 0, 0, 0), (.goto 4, 3, 0, 0, 0)]
set_option maxRecDepth 20000 in
theorem o_Z_dye_34 : am_okB mt_Z_dye 34 k_Z_dye_34 = true := by decide +kernel
theorem g_Z_dye_34 {L : am_S} {n : Nat} {ls st : List Value} {M : am_M} {Q : am_Q} (h : am_B L mt_Z_dye k_Z_dye_34 n 34 ls st M Q) : am_R L mt_Z_dye n 34 ls st M Q := am_go L mt_Z_dye (fun h => by cases h) k_Z_dye_34 n 34 ls st M Q o_Z_dye_34 h
def k_Z_dye_54 : List am_I := [(.iconst 0, 1, 0, 0, 0)]
set_option maxRecDepth 20000 in
theorem o_Z_dye_54 : am_okB mt_Z_dye 54 k_Z_dye_54 = true := by decide +kernel
theorem g_Z_dye_54 {L : am_S} {n : Nat} {ls st : List Value} {M : am_M} {Q : am_Q} (h : am_B L mt_Z_dye k_Z_dye_54 n 54 ls st M Q) : am_R L mt_Z_dye n 54 ls st M Q := am_go L mt_Z_dye (fun h => by cases h) k_Z_dye_54 n 54 ls st M Q o_Z_dye_54 h
def k_Z_dye_55 : List am_I := [(.putfield 39, 3, 4, 0, 727), (.aload_n 0, 1, 0, 0, 0), (.getfield 39, 3, 4, 0, 727), (.ifCond .le 5, 3, 0, 0, 0), (.iconst 0, 1, 0, 0, 0), (.ireturn, 1, 0, 0, 0)]
set_option maxRecDepth 20000 in
theorem o_Z_dye_55 : am_okB mt_Z_dye 55 k_Z_dye_55 = true := by decide +kernel
theorem g_Z_dye_55 {L : am_S} {n : Nat} {ls st : List Value} {M : am_M} {Q : am_Q} (h : am_B L mt_Z_dye k_Z_dye_55 n 55 ls st M Q) : am_R L mt_Z_dye n 55 ls st M Q := am_go L mt_Z_dye (fun h => by cases h) k_Z_dye_55 n 55 ls st M Q o_Z_dye_55 h
def k_Z_dye_67 : List am_I := [(.aload_n 0, 1, 0, 0, 0), (.invokevirtual 61, 3, 87, 1, 802), (.aload_n 0, 1, 0, 0, 0), (.iload_n 1, 1, 0, 0, 0), (.iconst 1, 1, 0, 0, 0), (.invokevirtual 47, 3, 77, 3, 813), (.ifCond .ne 15, 3, 0, 0, 0), (.aload_n 0, 1, 0, 0, 0), (.getfield 7, 3, 4, 1, 728), (.iconst 4, 1, 0, 0, 0), (.dup2, 1, 0, 0, 0), (.iaload, 1, 0, 0, 0), (.iconst 1, 1, 0, 0, 0), (.iadd, 1, 0, 0, 0), (.iastore, 1, 0, 0, 0), (.iconst (-1), 1, 0, 0, 0), (.ireturn, 1, 0, 0, 0)]
set_option maxRecDepth 20000 in
theorem o_Z_dye_67 : am_okB mt_Z_dye 67 k_Z_dye_67 = true := by decide +kernel
theorem g_Z_dye_67 {L : am_S} {n : Nat} {ls st : List Value} {M : am_M} {Q : am_Q} (h : am_B L mt_Z_dye k_Z_dye_67 n 67 ls st M Q) : am_R L mt_Z_dye n 67 ls st M Q := am_go L mt_Z_dye (fun h => by cases h) k_Z_dye_67 n 67 ls st M Q o_Z_dye_67 h
def k_Z_dye_92 : List am_I := [(.aload_n 0, 1, 0, 0, 0), (.iload_n 1, 1, 0, 0, 0), (.iconst 2, 1, 0, 0, 0), (.iload_n 2, 1, 0, 0, 0), (.iadd, 1, 0, 0, 0), (.iload_n 3, 1, 0, 0, 0), (.invokevirtual 68, 3, 79, 4, 817), (.aload_n 0, 1, 0, 0, 0), (.getfield 7, 3, 4, 1, 728), (.bipush 11, 2, 0, 0, 0), (.iload_n 2, 1, 0, 0, 0), (.iadd, 1, 0, 0, 0), (.dup2, 1, 0, 0, 0), (.iaload, 1, 0, 0, 0), (.iload_n 3, 1, 0, 0, 0), (.iadd, 1, 0, 0, 0), (.iastore, 1, 0, 0, 0), (.aload_n 0, 1, 0, 0, 0), (.iload_n 1, 1, 0, 0, 0), (.iconst 2, 1, 0, 0, 0), (.iload_n 2, 1, 0, 0, 0), (.iadd, 1, 0, 0, 0), (.invokevirtual 47, 3, 77, 3, 813), (.ireturn, 1, 0, 0, 0)]
set_option maxRecDepth 20000 in
theorem o_Z_dye_92 : am_okB mt_Z_dye 92 k_Z_dye_92 = true := by decide +kernel
theorem g_Z_dye_92 {L : am_S} {n : Nat} {ls st : List Value} {M : am_M} {Q : am_Q} (h : am_B L mt_Z_dye k_Z_dye_92 n 92 ls st M Q) : am_R L mt_Z_dye n 92 ls st M Q := am_go L mt_Z_dye (fun h => by cases h) k_Z_dye_92 n 92 ls st M Q o_Z_dye_92 h
def k_Z_stir_0 : List am_I := [(.aload_n 0, 1, 0, 0, 0), (.iload_n 1, 1, 0, 0, 0), (.invokestatic 64, 3, 81, 1, 810), (.ifCond .eq 7, 3, 0, 0, 0), (.iconst 0, 1, 0, 0, 0), (.goto 4, 3, 0, 0, 0)]
set_option maxRecDepth 20000 in
theorem o_Z_stir_0 : am_okB mt_Z_stir 0 k_Z_stir_0 = true := by decide +kernel
theorem g_Z_stir_0 {L : am_S} {n : Nat} {ls st : List Value} {M : am_M} {Q : am_Q} (h : am_B L mt_Z_stir k_Z_stir_0 n 0 ls st M Q) : am_R L mt_Z_stir n 0 ls st M Q := am_go L mt_Z_stir (fun h => by cases h) k_Z_stir_0 n 0 ls st M Q o_Z_stir_0 h
def k_Z_stir_12 : List am_I := [(.iconst 1, 1, 0, 0, 0)]
set_option maxRecDepth 20000 in
theorem o_Z_stir_12 : am_okB mt_Z_stir 12 k_Z_stir_12 = true := by decide +kernel
theorem g_Z_stir_12 {L : am_S} {n : Nat} {ls st : List Value} {M : am_M} {Q : am_Q} (h : am_B L mt_Z_stir k_Z_stir_12 n 12 ls st M Q) : am_R L mt_Z_stir n 12 ls st M Q := am_go L mt_Z_stir (fun h => by cases h) k_Z_stir_12 n 12 ls st M Q o_Z_stir_12 h
def k_Z_stir_13 : List am_I := [(.putfield 39, 3, 4, 0, 727), (.aload_n 0, 1, 0, 0, 0), (.getfield 39, 3, 4, 0, 727), (.ifCond .le 5, 3, 0, 0, 0), (.iconst 0, 1, 0, 0, 0), (.ireturn, 1, 0, 0, 0)]
set_option maxRecDepth 20000 in
theorem o_Z_stir_13 : am_okB mt_Z_stir 13 k_Z_stir_13 = true := by decide +kernel
theorem g_Z_stir_13 {L : am_S} {n : Nat} {ls st : List Value} {M : am_M} {Q : am_Q} (h : am_B L mt_Z_stir k_Z_stir_13 n 13 ls st M Q) : am_R L mt_Z_stir n 13 ls st M Q := am_go L mt_Z_stir (fun h => by cases h) k_Z_stir_13 n 13 ls st M Q o_Z_stir_13 h
def k_Z_stir_25 : List am_I := [(.aload_n 0, 1, 0, 0, 0), (.invokevirtual 61, 3, 87, 1, 802), (.iconst 0, 1, 0, 0, 0), (.istore_n 2, 1, 0, 0, 0), (.iconst 0, 1, 0, 0, 0), (.istore_n 3, 1, 0, 0, 0)]
set_option maxRecDepth 20000 in
theorem o_Z_stir_25 : am_okB mt_Z_stir 25 k_Z_stir_25 = true := by decide +kernel
theorem g_Z_stir_25 {L : am_S} {n : Nat} {ls st : List Value} {M : am_M} {Q : am_Q} (h : am_B L mt_Z_stir k_Z_stir_25 n 25 ls st M Q) : am_R L mt_Z_stir n 25 ls st M Q := am_go L mt_Z_stir (fun h => by cases h) k_Z_stir_25 n 25 ls st M Q o_Z_stir_25 h
def k_Z_stir_33 : List am_I := [(.iload_n 3, 1, 0, 0, 0), (.iconst 3, 1, 0, 0, 0), (.if_icmp .ge 67, 3, 0, 0, 0), (.aload_n 0, 1, 0, 0, 0), (.iload_n 1, 1, 0, 0, 0), (.iconst 5, 1, 0, 0, 0), (.iload_n 3, 1, 0, 0, 0), (.iadd, 1, 0, 0, 0), (.invokevirtual 47, 3, 77, 3, 813), (.aload_n 0, 1, 0, 0, 0), (.iload_n 1, 1, 0, 0, 0), (.invokevirtual 75, 3, 85, 2, 833), (.aload_n 0, 1, 0, 0, 0), (.iload_n 1, 1, 0, 0, 0), (.iconst 2, 1, 0, 0, 0), (.iload_n 3, 1, 0, 0, 0), (.iadd, 1, 0, 0, 0), (.invokevirtual 47, 3, 77, 3, 813), (.isub, 1, 0, 0, 0), (.invokestatic 79, 3, 76, 2, 837), (.istore 4, 2, 0, 0, 0), (.iload 4, 2, 0, 0, 0), (.ifCond .le 29, 3, 0, 0, 0), (.aload_n 0, 1, 0, 0, 0), (.iload_n 1, 1, 0, 0, 0), (.iconst 5, 1, 0, 0, 0), (.iload_n 3, 1, 0, 0, 0), (.iadd, 1, 0, 0, 0), (.iload 4, 2, 0, 0, 0), (.ineg, 1, 0, 0, 0), (.invokevirtual 68, 3, 79, 4, 817), (.aload_n 0, 1, 0, 0, 0), (.iload_n 1, 1, 0, 0, 0), (.iconst 2, 1, 0, 0, 0), (.iload_n 3, 1, 0, 0, 0), (.iadd, 1, 0, 0, 0), (.iload 4, 2, 0, 0, 0), (.invokevirtual 68, 3, 79, 4, 817), (.iload_n 2, 1, 0, 0, 0), (.iload 4, 2, 0, 0, 0), (.iadd, 1, 0, 0, 0), (.istore_n 2, 1, 0, 0, 0)]
set_option maxRecDepth 20000 in
theorem o_Z_stir_33 : am_okB mt_Z_stir 33 k_Z_stir_33 = true := by decide +kernel
theorem g_Z_stir_33 {L : am_S} {n : Nat} {ls st : List Value} {M : am_M} {Q : am_Q} (h : am_B L mt_Z_stir k_Z_stir_33 n 33 ls st M Q) : am_R L mt_Z_stir n 33 ls st M Q := am_go L mt_Z_stir (fun h => by cases h) k_Z_stir_33 n 33 ls st M Q o_Z_stir_33 h
def k_Z_stir_96 : List am_I := [(.iinc 3 1, 3, 0, 0, 0), (.goto (-66), 3, 0, 0, 0)]
set_option maxRecDepth 20000 in
theorem o_Z_stir_96 : am_okB mt_Z_stir 96 k_Z_stir_96 = true := by decide +kernel
theorem g_Z_stir_96 {L : am_S} {n : Nat} {ls st : List Value} {M : am_M} {Q : am_Q} (h : am_B L mt_Z_stir k_Z_stir_96 n 96 ls st M Q) : am_R L mt_Z_stir n 96 ls st M Q := am_go L mt_Z_stir (fun h => by cases h) k_Z_stir_96 n 96 ls st M Q o_Z_stir_96 h
def k_Z_stir_102 : List am_I := [(.iload_n 2, 1, 0, 0, 0), (.ireturn, 1, 0, 0, 0)]
set_option maxRecDepth 20000 in
theorem o_Z_stir_102 : am_okB mt_Z_stir 102 k_Z_stir_102 = true := by decide +kernel
theorem g_Z_stir_102 {L : am_S} {n : Nat} {ls st : List Value} {M : am_M} {Q : am_Q} (h : am_B L mt_Z_stir k_Z_stir_102 n 102 ls st M Q) : am_R L mt_Z_stir n 102 ls st M Q := am_go L mt_Z_stir (fun h => by cases h) k_Z_stir_102 n 102 ls st M Q o_Z_stir_102 h
def k_Z_capacity_0 : List am_I := [(.aload_n 0, 1, 0, 0, 0), (.iload_n 1, 1, 0, 0, 0), (.invokestatic 64, 3, 81, 1, 810), (.ifCond .ne 7, 3, 0, 0, 0), (.iconst 1, 1, 0, 0, 0), (.goto 19, 3, 0, 0, 0)]
set_option maxRecDepth 20000 in
theorem o_Z_capacity_0 : am_okB mt_Z_capacity 0 k_Z_capacity_0 = true := by decide +kernel
theorem g_Z_capacity_0 {L : am_S} {n : Nat} {ls st : List Value} {M : am_M} {Q : am_Q} (h : am_B L mt_Z_capacity k_Z_capacity_0 n 0 ls st M Q) : am_R L mt_Z_capacity n 0 ls st M Q := am_go L mt_Z_capacity (fun h => by cases h) k_Z_capacity_0 n 0 ls st M Q o_Z_capacity_0 h
def k_Z_capacity_12 : List am_I := [(.iload_n 2, 1, 0, 0, 0), (.iconst 1, 1, 0, 0, 0), (.sipush 2000, 3, 0, 0, 0), (.invokestatic 43, 3, 75, 3, 791), (.ifCond .eq 7, 3, 0, 0, 0), (.iconst 0, 1, 0, 0, 0), (.goto 4, 3, 0, 0, 0)]
set_option maxRecDepth 20000 in
theorem o_Z_capacity_12 : am_okB mt_Z_capacity 12 k_Z_capacity_12 = true := by decide +kernel
theorem g_Z_capacity_12 {L : am_S} {n : Nat} {ls st : List Value} {M : am_M} {Q : am_Q} (h : am_B L mt_Z_capacity k_Z_capacity_12 n 12 ls st M Q) : am_R L mt_Z_capacity n 12 ls st M Q := am_go L mt_Z_capacity (fun h => by cases h) k_Z_capacity_12 n 12 ls st M Q o_Z_capacity_12 h
def k_Z_capacity_27 : List am_I := [(.iconst 2, 1, 0, 0, 0)]
set_option maxRecDepth 20000 in
theorem o_Z_capacity_27 : am_okB mt_Z_capacity 27 k_Z_capacity_27 = true := by decide +kernel
theorem g_Z_capacity_27 {L : am_S} {n : Nat} {ls st : List Value} {M : am_M} {Q : am_Q} (h : am_B L mt_Z_capacity k_Z_capacity_27 n 27 ls st M Q) : am_R L mt_Z_capacity n 27 ls st M Q := am_go L mt_Z_capacity (fun h => by cases h) k_Z_capacity_27 n 27 ls st M Q o_Z_capacity_27 h
def k_Z_capacity_28 : List am_I := [(.putfield 39, 3, 4, 0, 727), (.aload_n 0, 1, 0, 0, 0), (.getfield 39, 3, 4, 0, 727), (.ifCond .le 5, 3, 0, 0, 0), (.iconst 0, 1, 0, 0, 0), (.ireturn, 1, 0, 0, 0)]
set_option maxRecDepth 20000 in
theorem o_Z_capacity_28 : am_okB mt_Z_capacity 28 k_Z_capacity_28 = true := by decide +kernel
theorem g_Z_capacity_28 {L : am_S} {n : Nat} {ls st : List Value} {M : am_M} {Q : am_Q} (h : am_B L mt_Z_capacity k_Z_capacity_28 n 28 ls st M Q) : am_R L mt_Z_capacity n 28 ls st M Q := am_go L mt_Z_capacity (fun h => by cases h) k_Z_capacity_28 n 28 ls st M Q o_Z_capacity_28 h
def k_Z_capacity_40 : List am_I := [(.aload_n 0, 1, 0, 0, 0), (.invokevirtual 61, 3, 87, 1, 802), (.aload_n 0, 1, 0, 0, 0), (.iload_n 1, 1, 0, 0, 0), (.iconst 1, 1, 0, 0, 0), (.invokevirtual 47, 3, 77, 3, 813), (.iload_n 2, 1, 0, 0, 0), (.if_icmp .le 15, 3, 0, 0, 0), (.aload_n 0, 1, 0, 0, 0), (.getfield 7, 3, 4, 1, 728), (.iconst 4, 1, 0, 0, 0), (.dup2, 1, 0, 0, 0), (.iaload, 1, 0, 0, 0), (.iconst 1, 1, 0, 0, 0), (.iadd, 1, 0, 0, 0), (.iastore, 1, 0, 0, 0), (.iconst (-1), 1, 0, 0, 0), (.ireturn, 1, 0, 0, 0)]
set_option maxRecDepth 20000 in
theorem o_Z_capacity_40 : am_okB mt_Z_capacity 40 k_Z_capacity_40 = true := by decide +kernel
theorem g_Z_capacity_40 {L : am_S} {n : Nat} {ls st : List Value} {M : am_M} {Q : am_Q} (h : am_B L mt_Z_capacity k_Z_capacity_40 n 40 ls st M Q) : am_R L mt_Z_capacity n 40 ls st M Q := am_go L mt_Z_capacity (fun h => by cases h) k_Z_capacity_40 n 40 ls st M Q o_Z_capacity_40 h
def k_Z_capacity_66 : List am_I := [(.aload_n 0, 1, 0, 0, 0), (.iload_n 1, 1, 0, 0, 0), (.iconst 0, 1, 0, 0, 0), (.invokevirtual 47, 3, 77, 3, 813), (.istore_n 3, 1, 0, 0, 0), (.aload_n 0, 1, 0, 0, 0), (.iload_n 1, 1, 0, 0, 0), (.iconst 0, 1, 0, 0, 0), (.iload_n 2, 1, 0, 0, 0), (.invokevirtual 35, 3, 78, 4, 723), (.iload_n 3, 1, 0, 0, 0), (.ireturn, 1, 0, 0, 0)]
set_option maxRecDepth 20000 in
theorem o_Z_capacity_66 : am_okB mt_Z_capacity 66 k_Z_capacity_66 = true := by decide +kernel
theorem g_Z_capacity_66 {L : am_S} {n : Nat} {ls st : List Value} {M : am_M} {Q : am_Q} (h : am_B L mt_Z_capacity k_Z_capacity_66 n 66 ls st M Q) : am_R L mt_Z_capacity n 66 ls st M Q := am_go L mt_Z_capacity (fun h => by cases h) k_Z_capacity_66 n 66 ls st M Q o_Z_capacity_66 h
def k_Z_putValve_0 : List am_I := [(.bipush 57, 2, 0, 0, 0), (.bipush 6, 2, 0, 0, 0), (.aload_n 0, 1, 0, 0, 0), (.getfield 7, 3, 4, 1, 728), (.iconst 5, 1, 0, 0, 0), (.iaload, 1, 0, 0, 0), (.imul, 1, 0, 0, 0), (.iadd, 1, 0, 0, 0), (.istore 6, 2, 0, 0, 0), (.aload_n 0, 1, 0, 0, 0), (.getfield 7, 3, 4, 1, 728), (.iload 6, 2, 0, 0, 0), (.iconst 0, 1, 0, 0, 0), (.iadd, 1, 0, 0, 0), (.iload_n 1, 1, 0, 0, 0), (.iastore, 1, 0, 0, 0), (.aload_n 0, 1, 0, 0, 0), (.getfield 7, 3, 4, 1, 728), (.iload 6, 2, 0, 0, 0), (.iconst 1, 1, 0, 0, 0), (.iadd, 1, 0, 0, 0), (.iload_n 2, 1, 0, 0, 0), (.iastore, 1, 0, 0, 0), (.aload_n 0, 1, 0, 0, 0), (.getfield 7, 3, 4, 1, 728), (.iload 6, 2, 0, 0, 0), (.iconst 2, 1, 0, 0, 0), (.iadd, 1, 0, 0, 0), (.iload_n 3, 1, 0, 0, 0), (.iastore, 1, 0, 0, 0), (.aload_n 0, 1, 0, 0, 0), (.getfield 7, 3, 4, 1, 728), (.iload 6, 2, 0, 0, 0), (.iconst 3, 1, 0, 0, 0), (.iadd, 1, 0, 0, 0), (.iload 4, 2, 0, 0, 0), (.iastore, 1, 0, 0, 0), (.aload_n 0, 1, 0, 0, 0), (.getfield 7, 3, 4, 1, 728), (.iload 6, 2, 0, 0, 0), (.iconst 4, 1, 0, 0, 0), (.iadd, 1, 0, 0, 0), (.iload 5, 2, 0, 0, 0), (.iastore, 1, 0, 0, 0), (.aload_n 0, 1, 0, 0, 0), (.getfield 7, 3, 4, 1, 728), (.iload 6, 2, 0, 0, 0), (.iconst 5, 1, 0, 0, 0), (.iadd, 1, 0, 0, 0), (.iconst 0, 1, 0, 0, 0), (.iastore, 1, 0, 0, 0), (.aload_n 0, 1, 0, 0, 0), (.getfield 7, 3, 4, 1, 728), (.iconst 5, 1, 0, 0, 0), (.dup2, 1, 0, 0, 0), (.iaload, 1, 0, 0, 0), (.iconst 1, 1, 0, 0, 0), (.iadd, 1, 0, 0, 0), (.iastore, 1, 0, 0, 0), (.return_, 1, 0, 0, 0)]
set_option maxRecDepth 20000 in
theorem o_Z_putValve_0 : am_okB mt_Z_putValve 0 k_Z_putValve_0 = true := by decide +kernel
theorem g_Z_putValve_0 {L : am_S} {n : Nat} {ls st : List Value} {M : am_M} {Q : am_Q} (h : am_B L mt_Z_putValve k_Z_putValve_0 n 0 ls st M Q) : am_R L mt_Z_putValve n 0 ls st M Q := am_go L mt_Z_putValve (fun h => by cases h) k_Z_putValve_0 n 0 ls st M Q o_Z_putValve_0 h
def k_Z_valve_0 : List am_I := [(.iload_n 1, 1, 0, 0, 0), (.iload_n 2, 1, 0, 0, 0), (.if_icmp .eq 41, 3, 0, 0, 0), (.iload_n 3, 1, 0, 0, 0), (.iconst 1, 1, 0, 0, 0), (.sipush 500, 3, 0, 0, 0), (.invokestatic 43, 3, 75, 3, 791), (.ifCond .eq 30, 3, 0, 0, 0), (.iload 4, 2, 0, 0, 0), (.iconst 0, 1, 0, 0, 0), (.bipush 23, 2, 0, 0, 0), (.invokestatic 43, 3, 75, 3, 791), (.ifCond .eq 19, 3, 0, 0, 0), (.iload 5, 2, 0, 0, 0), (.iload 4, 2, 0, 0, 0), (.bipush 23, 2, 0, 0, 0), (.invokestatic 43, 3, 75, 3, 791), (.ifCond .eq 7, 3, 0, 0, 0), (.iconst 1, 1, 0, 0, 0), (.goto 4, 3, 0, 0, 0)]
set_option maxRecDepth 20000 in
theorem o_Z_valve_0 : am_okB mt_Z_valve 0 k_Z_valve_0 = true := by decide +kernel
theorem g_Z_valve_0 {L : am_S} {n : Nat} {ls st : List Value} {M : am_M} {Q : am_Q} (h : am_B L mt_Z_valve k_Z_valve_0 n 0 ls st M Q) : am_R L mt_Z_valve n 0 ls st M Q := am_go L mt_Z_valve (fun h => by cases h) k_Z_valve_0 n 0 ls st M Q o_Z_valve_0 h
def k_Z_valve_43 : List am_I := [(.iconst 0, 1, 0, 0, 0)]
set_option maxRecDepth 20000 in
theorem o_Z_valve_43 : am_okB mt_Z_valve 43 k_Z_valve_43 = true := by decide +kernel
theorem g_Z_valve_43 {L : am_S} {n : Nat} {ls st : List Value} {M : am_M} {Q : am_Q} (h : am_B L mt_Z_valve k_Z_valve_43 n 43 ls st M Q) : am_R L mt_Z_valve n 43 ls st M Q := am_go L mt_Z_valve (fun h => by cases h) k_Z_valve_43 n 43 ls st M Q o_Z_valve_43 h
def k_Z_valve_44 : List am_I := [(.istore 6, 2, 0, 0, 0), (.aload_n 0, 1, 0, 0, 0), (.iload_n 1, 1, 0, 0, 0), (.invokestatic 64, 3, 81, 1, 810), (.ifCond .eq 12, 3, 0, 0, 0), (.iload_n 2, 1, 0, 0, 0), (.iconst 0, 1, 0, 0, 0), (.iconst 5, 1, 0, 0, 0), (.invokestatic 43, 3, 75, 3, 791), (.ifCond .ne 7, 3, 0, 0, 0)]
set_option maxRecDepth 20000 in
theorem o_Z_valve_44 : am_okB mt_Z_valve 44 k_Z_valve_44 = true := by decide +kernel
theorem g_Z_valve_44 {L : am_S} {n : Nat} {ls st : List Value} {M : am_M} {Q : am_Q} (h : am_B L mt_Z_valve k_Z_valve_44 n 44 ls st M Q) : am_R L mt_Z_valve n 44 ls st M Q := am_go L mt_Z_valve (fun h => by cases h) k_Z_valve_44 n 44 ls st M Q o_Z_valve_44 h
def k_Z_valve_63 : List am_I := [(.iconst 1, 1, 0, 0, 0), (.goto 28, 3, 0, 0, 0)]
set_option maxRecDepth 20000 in
theorem o_Z_valve_63 : am_okB mt_Z_valve 63 k_Z_valve_63 = true := by decide +kernel
theorem g_Z_valve_63 {L : am_S} {n : Nat} {ls st : List Value} {M : am_M} {Q : am_Q} (h : am_B L mt_Z_valve k_Z_valve_63 n 63 ls st M Q) : am_R L mt_Z_valve n 63 ls st M Q := am_go L mt_Z_valve (fun h => by cases h) k_Z_valve_63 n 63 ls st M Q o_Z_valve_63 h
def k_Z_valve_67 : List am_I := [(.iload 6, 2, 0, 0, 0), (.ifCond .ne 7, 3, 0, 0, 0), (.iconst 2, 1, 0, 0, 0), (.goto 19, 3, 0, 0, 0)]
set_option maxRecDepth 20000 in
theorem o_Z_valve_67 : am_okB mt_Z_valve 67 k_Z_valve_67 = true := by decide +kernel
theorem g_Z_valve_67 {L : am_S} {n : Nat} {ls st : List Value} {M : am_M} {Q : am_Q} (h : am_B L mt_Z_valve k_Z_valve_67 n 67 ls st M Q) : am_R L mt_Z_valve n 67 ls st M Q := am_go L mt_Z_valve (fun h => by cases h) k_Z_valve_67 n 67 ls st M Q o_Z_valve_67 h
def k_Z_valve_76 : List am_I := [(.aload_n 0, 1, 0, 0, 0), (.getfield 7, 3, 4, 1, 728), (.iconst 5, 1, 0, 0, 0), (.iaload, 1, 0, 0, 0), (.bipush 8, 2, 0, 0, 0), (.if_icmp .ne 7, 3, 0, 0, 0), (.iconst 3, 1, 0, 0, 0), (.goto 4, 3, 0, 0, 0)]
set_option maxRecDepth 20000 in
theorem o_Z_valve_76 : am_okB mt_Z_valve 76 k_Z_valve_76 = true := by decide +kernel
theorem g_Z_valve_76 {L : am_S} {n : Nat} {ls st : List Value} {M : am_M} {Q : am_Q} (h : am_B L mt_Z_valve k_Z_valve_76 n 76 ls st M Q) : am_R L mt_Z_valve n 76 ls st M Q := am_go L mt_Z_valve (fun h => by cases h) k_Z_valve_76 n 76 ls st M Q o_Z_valve_76 h
def k_Z_valve_91 : List am_I := [(.iconst 0, 1, 0, 0, 0)]
set_option maxRecDepth 20000 in
theorem o_Z_valve_91 : am_okB mt_Z_valve 91 k_Z_valve_91 = true := by decide +kernel
theorem g_Z_valve_91 {L : am_S} {n : Nat} {ls st : List Value} {M : am_M} {Q : am_Q} (h : am_B L mt_Z_valve k_Z_valve_91 n 91 ls st M Q) : am_R L mt_Z_valve n 91 ls st M Q := am_go L mt_Z_valve (fun h => by cases h) k_Z_valve_91 n 91 ls st M Q o_Z_valve_91 h
def k_Z_valve_92 : List am_I := [(.putfield 39, 3, 4, 0, 727), (.aload_n 0, 1, 0, 0, 0), (.getfield 39, 3, 4, 0, 727), (.ifCond .le 5, 3, 0, 0, 0), (.iconst 0, 1, 0, 0, 0), (.ireturn, 1, 0, 0, 0)]
set_option maxRecDepth 20000 in
theorem o_Z_valve_92 : am_okB mt_Z_valve 92 k_Z_valve_92 = true := by decide +kernel
theorem g_Z_valve_92 {L : am_S} {n : Nat} {ls st : List Value} {M : am_M} {Q : am_Q} (h : am_B L mt_Z_valve k_Z_valve_92 n 92 ls st M Q) : am_R L mt_Z_valve n 92 ls st M Q := am_go L mt_Z_valve (fun h => by cases h) k_Z_valve_92 n 92 ls st M Q o_Z_valve_92 h
def k_Z_valve_104 : List am_I := [(.aload_n 0, 1, 0, 0, 0), (.invokevirtual 61, 3, 87, 1, 802), (.aload_n 0, 1, 0, 0, 0), (.iload_n 1, 1, 0, 0, 0), (.iload_n 2, 1, 0, 0, 0), (.iload_n 3, 1, 0, 0, 0), (.iload 4, 2, 0, 0, 0), (.iload 5, 2, 0, 0, 0), (.invokevirtual 82, 3, 97, 6, 848), (.aload_n 0, 1, 0, 0, 0), (.getfield 7, 3, 4, 1, 728), (.iconst 5, 1, 0, 0, 0), (.iaload, 1, 0, 0, 0), (.iconst 1, 1, 0, 0, 0), (.isub, 1, 0, 0, 0), (.ireturn, 1, 0, 0, 0)]
set_option maxRecDepth 20000 in
theorem o_Z_valve_104 : am_okB mt_Z_valve 104 k_Z_valve_104 = true := by decide +kernel
theorem g_Z_valve_104 {L : am_S} {n : Nat} {ls st : List Value} {M : am_M} {Q : am_Q} (h : am_B L mt_Z_valve k_Z_valve_104 n 104 ls st M Q) : am_R L mt_Z_valve n 104 ls st M Q := am_go L mt_Z_valve (fun h => by cases h) k_Z_valve_104 n 104 ls st M Q o_Z_valve_104 h
def k_Z_dropValve_0 : List am_I := [(.aload_n 0, 1, 0, 0, 0), (.getfield 7, 3, 4, 1, 728), (.iconst 5, 1, 0, 0, 0), (.dup2, 1, 0, 0, 0), (.iaload, 1, 0, 0, 0), (.iconst 1, 1, 0, 0, 0), (.isub, 1, 0, 0, 0), (.iastore, 1, 0, 0, 0), (.bipush 57, 2, 0, 0, 0), (.bipush 6, 2, 0, 0, 0), (.iload_n 1, 1, 0, 0, 0), (.imul, 1, 0, 0, 0), (.iadd, 1, 0, 0, 0), (.istore_n 2, 1, 0, 0, 0)]
set_option maxRecDepth 20000 in
theorem o_Z_dropValve_0 : am_okB mt_Z_dropValve 0 k_Z_dropValve_0 = true := by decide +kernel
theorem g_Z_dropValve_0 {L : am_S} {n : Nat} {ls st : List Value} {M : am_M} {Q : am_Q} (h : am_B L mt_Z_dropValve k_Z_dropValve_0 n 0 ls st M Q) : am_R L mt_Z_dropValve n 0 ls st M Q := am_go L mt_Z_dropValve (fun h => by cases h) k_Z_dropValve_0 n 0 ls st M Q o_Z_dropValve_0 h
def k_Z_dropValve_18 : List am_I := [(.iload_n 2, 1, 0, 0, 0), (.bipush 57, 2, 0, 0, 0), (.bipush 6, 2, 0, 0, 0), (.aload_n 0, 1, 0, 0, 0), (.getfield 7, 3, 4, 1, 728), (.iconst 5, 1, 0, 0, 0), (.iaload, 1, 0, 0, 0), (.imul, 1, 0, 0, 0), (.iadd, 1, 0, 0, 0), (.if_icmp .ge 24, 3, 0, 0, 0), (.aload_n 0, 1, 0, 0, 0), (.getfield 7, 3, 4, 1, 728), (.iload_n 2, 1, 0, 0, 0), (.aload_n 0, 1, 0, 0, 0), (.getfield 7, 3, 4, 1, 728), (.iload_n 2, 1, 0, 0, 0), (.bipush 6, 2, 0, 0, 0), (.iadd, 1, 0, 0, 0), (.iaload, 1, 0, 0, 0), (.iastore, 1, 0, 0, 0), (.iinc 2 1, 3, 0, 0, 0), (.goto (-34), 3, 0, 0, 0)]
set_option maxRecDepth 20000 in
theorem o_Z_dropValve_18 : am_okB mt_Z_dropValve 18 k_Z_dropValve_18 = true := by decide +kernel
theorem g_Z_dropValve_18 {L : am_S} {n : Nat} {ls st : List Value} {M : am_M} {Q : am_Q} (h : am_B L mt_Z_dropValve k_Z_dropValve_18 n 18 ls st M Q) : am_R L mt_Z_dropValve n 18 ls st M Q := am_go L mt_Z_dropValve (fun h => by cases h) k_Z_dropValve_18 n 18 ls st M Q o_Z_dropValve_18 h
def k_Z_dropValve_55 : List am_I := [(.return_, 1, 0, 0, 0)]
set_option maxRecDepth 20000 in
theorem o_Z_dropValve_55 : am_okB mt_Z_dropValve 55 k_Z_dropValve_55 = true := by decide +kernel
theorem g_Z_dropValve_55 {L : am_S} {n : Nat} {ls st : List Value} {M : am_M} {Q : am_Q} (h : am_B L mt_Z_dropValve k_Z_dropValve_55 n 55 ls st M Q) : am_R L mt_Z_dropValve n 55 ls st M Q := am_go L mt_Z_dropValve (fun h => by cases h) k_Z_dropValve_55 n 55 ls st M Q o_Z_dropValve_55 h
def k_Z_close_0 : List am_I := [(.aload_n 0, 1, 0, 0, 0), (.aload_n 0, 1, 0, 0, 0), (.iload_n 1, 1, 0, 0, 0), (.invokevirtual 86, 3, 83, 2, 856), (.ifCond .eq 7, 3, 0, 0, 0), (.iconst 0, 1, 0, 0, 0), (.goto 4, 3, 0, 0, 0)]
set_option maxRecDepth 20000 in
theorem o_Z_close_0 : am_okB mt_Z_close 0 k_Z_close_0 = true := by decide +kernel
theorem g_Z_close_0 {L : am_S} {n : Nat} {ls st : List Value} {M : am_M} {Q : am_Q} (h : am_B L mt_Z_close k_Z_close_0 n 0 ls st M Q) : am_R L mt_Z_close n 0 ls st M Q := am_go L mt_Z_close (fun h => by cases h) k_Z_close_0 n 0 ls st M Q o_Z_close_0 h
def k_Z_close_13 : List am_I := [(.iconst 1, 1, 0, 0, 0)]
set_option maxRecDepth 20000 in
theorem o_Z_close_13 : am_okB mt_Z_close 13 k_Z_close_13 = true := by decide +kernel
theorem g_Z_close_13 {L : am_S} {n : Nat} {ls st : List Value} {M : am_M} {Q : am_Q} (h : am_B L mt_Z_close k_Z_close_13 n 13 ls st M Q) : am_R L mt_Z_close n 13 ls st M Q := am_go L mt_Z_close (fun h => by cases h) k_Z_close_13 n 13 ls st M Q o_Z_close_13 h
def k_Z_close_14 : List am_I := [(.putfield 39, 3, 4, 0, 727), (.aload_n 0, 1, 0, 0, 0), (.getfield 39, 3, 4, 0, 727), (.ifCond .le 5, 3, 0, 0, 0), (.iconst 0, 1, 0, 0, 0), (.ireturn, 1, 0, 0, 0)]
set_option maxRecDepth 20000 in
theorem o_Z_close_14 : am_okB mt_Z_close 14 k_Z_close_14 = true := by decide +kernel
theorem g_Z_close_14 {L : am_S} {n : Nat} {ls st : List Value} {M : am_M} {Q : am_Q} (h : am_B L mt_Z_close k_Z_close_14 n 14 ls st M Q) : am_R L mt_Z_close n 14 ls st M Q := am_go L mt_Z_close (fun h => by cases h) k_Z_close_14 n 14 ls st M Q o_Z_close_14 h
def k_Z_close_26 : List am_I := [(.aload_n 0, 1, 0, 0, 0), (.invokevirtual 61, 3, 87, 1, 802), (.aload_n 0, 1, 0, 0, 0), (.iload_n 1, 1, 0, 0, 0), (.invokevirtual 89, 3, 99, 2, 860), (.aload_n 0, 1, 0, 0, 0), (.getfield 7, 3, 4, 1, 728), (.iconst 5, 1, 0, 0, 0), (.iaload, 1, 0, 0, 0), (.ireturn, 1, 0, 0, 0)]
set_option maxRecDepth 20000 in
theorem o_Z_close_26 : am_okB mt_Z_close 26 k_Z_close_26 = true := by decide +kernel
theorem g_Z_close_26 {L : am_S} {n : Nat} {ls st : List Value} {M : am_M} {Q : am_Q} (h : am_B L mt_Z_close k_Z_close_26 n 26 ls st M Q) : am_R L mt_Z_close n 26 ls st M Q := am_go L mt_Z_close (fun h => by cases h) k_Z_close_26 n 26 ls st M Q o_Z_close_26 h
def k_Z_isPipe_0 : List am_I := [(.aload_n 0, 1, 0, 0, 0), (.getfield 7, 3, 4, 1, 728), (.bipush 6, 2, 0, 0, 0), (.iload_n 1, 1, 0, 0, 0), (.iadd, 1, 0, 0, 0), (.iaload, 1, 0, 0, 0), (.iload_n 2, 1, 0, 0, 0), (.ishr, 1, 0, 0, 0), (.iconst 1, 1, 0, 0, 0), (.iand, 1, 0, 0, 0), (.iconst 1, 1, 0, 0, 0), (.if_icmp .ne 7, 3, 0, 0, 0), (.iconst 1, 1, 0, 0, 0), (.goto 4, 3, 0, 0, 0)]
set_option maxRecDepth 20000 in
theorem o_Z_isPipe_0 : am_okB mt_Z_isPipe 0 k_Z_isPipe_0 = true := by decide +kernel
theorem g_Z_isPipe_0 {L : am_S} {n : Nat} {ls st : List Value} {M : am_M} {Q : am_Q} (h : am_B L mt_Z_isPipe k_Z_isPipe_0 n 0 ls st M Q) : am_R L mt_Z_isPipe n 0 ls st M Q := am_go L mt_Z_isPipe (fun h => by cases h) k_Z_isPipe_0 n 0 ls st M Q o_Z_isPipe_0 h
def k_Z_isPipe_21 : List am_I := [(.iconst 0, 1, 0, 0, 0)]
set_option maxRecDepth 20000 in
theorem o_Z_isPipe_21 : am_okB mt_Z_isPipe 21 k_Z_isPipe_21 = true := by decide +kernel
theorem g_Z_isPipe_21 {L : am_S} {n : Nat} {ls st : List Value} {M : am_M} {Q : am_Q} (h : am_B L mt_Z_isPipe k_Z_isPipe_21 n 21 ls st M Q) : am_R L mt_Z_isPipe n 21 ls st M Q := am_go L mt_Z_isPipe (fun h => by cases h) k_Z_isPipe_21 n 21 ls st M Q o_Z_isPipe_21 h
def k_Z_isPipe_22 : List am_I := [(.ireturn, 1, 0, 0, 0)]
set_option maxRecDepth 20000 in
theorem o_Z_isPipe_22 : am_okB mt_Z_isPipe 22 k_Z_isPipe_22 = true := by decide +kernel
theorem g_Z_isPipe_22 {L : am_S} {n : Nat} {ls st : List Value} {M : am_M} {Q : am_Q} (h : am_B L mt_Z_isPipe k_Z_isPipe_22 n 22 ls st M Q) : am_R L mt_Z_isPipe n 22 ls st M Q := am_go L mt_Z_isPipe (fun h => by cases h) k_Z_isPipe_22 n 22 ls st M Q o_Z_isPipe_22 h
def k_Z_pipe_0 : List am_I := [(.aload_n 0, 1, 0, 0, 0), (.iload_n 1, 1, 0, 0, 0), (.invokestatic 64, 3, 81, 1, 810), (.ifCond .eq 10, 3, 0, 0, 0), (.iload_n 2, 1, 0, 0, 0), (.invokestatic 64, 3, 81, 1, 810), (.ifCond .ne 7, 3, 0, 0, 0)]
set_option maxRecDepth 20000 in
theorem o_Z_pipe_0 : am_okB mt_Z_pipe 0 k_Z_pipe_0 = true := by decide +kernel
theorem g_Z_pipe_0 {L : am_S} {n : Nat} {ls st : List Value} {M : am_M} {Q : am_Q} (h : am_B L mt_Z_pipe k_Z_pipe_0 n 0 ls st M Q) : am_R L mt_Z_pipe n 0 ls st M Q := am_go L mt_Z_pipe (fun h => by cases h) k_Z_pipe_0 n 0 ls st M Q o_Z_pipe_0 h
def k_Z_pipe_15 : List am_I := [(.iconst 1, 1, 0, 0, 0), (.goto 13, 3, 0, 0, 0)]
set_option maxRecDepth 20000 in
theorem o_Z_pipe_15 : am_okB mt_Z_pipe 15 k_Z_pipe_15 = true := by decide +kernel
theorem g_Z_pipe_15 {L : am_S} {n : Nat} {ls st : List Value} {M : am_M} {Q : am_Q} (h : am_B L mt_Z_pipe k_Z_pipe_15 n 15 ls st M Q) : am_R L mt_Z_pipe n 15 ls st M Q := am_go L mt_Z_pipe (fun h => by cases h) k_Z_pipe_15 n 15 ls st M Q o_Z_pipe_15 h
def k_Z_pipe_19 : List am_I := [(.iload_n 1, 1, 0, 0, 0), (.iload_n 2, 1, 0, 0, 0), (.if_icmp .ne 7, 3, 0, 0, 0), (.iconst 2, 1, 0, 0, 0), (.goto 4, 3, 0, 0, 0)]
set_option maxRecDepth 20000 in
theorem o_Z_pipe_19 : am_okB mt_Z_pipe 19 k_Z_pipe_19 = true := by decide +kernel
theorem g_Z_pipe_19 {L : am_S} {n : Nat} {ls st : List Value} {M : am_M} {Q : am_Q} (h : am_B L mt_Z_pipe k_Z_pipe_19 n 19 ls st M Q) : am_R L mt_Z_pipe n 19 ls st M Q := am_go L mt_Z_pipe (fun h => by cases h) k_Z_pipe_19 n 19 ls st M Q o_Z_pipe_19 h
def k_Z_pipe_28 : List am_I := [(.iconst 0, 1, 0, 0, 0)]
set_option maxRecDepth 20000 in
theorem o_Z_pipe_28 : am_okB mt_Z_pipe 28 k_Z_pipe_28 = true := by decide +kernel
theorem g_Z_pipe_28 {L : am_S} {n : Nat} {ls st : List Value} {M : am_M} {Q : am_Q} (h : am_B L mt_Z_pipe k_Z_pipe_28 n 28 ls st M Q) : am_R L mt_Z_pipe n 28 ls st M Q := am_go L mt_Z_pipe (fun h => by cases h) k_Z_pipe_28 n 28 ls st M Q o_Z_pipe_28 h
def k_Z_pipe_29 : List am_I := [(.putfield 39, 3, 4, 0, 727), (.aload_n 0, 1, 0, 0, 0), (.getfield 39, 3, 4, 0, 727), (.ifCond .le 5, 3, 0, 0, 0), (.iconst 0, 1, 0, 0, 0), (.ireturn, 1, 0, 0, 0)]
set_option maxRecDepth 20000 in
theorem o_Z_pipe_29 : am_okB mt_Z_pipe 29 k_Z_pipe_29 = true := by decide +kernel
theorem g_Z_pipe_29 {L : am_S} {n : Nat} {ls st : List Value} {M : am_M} {Q : am_Q} (h : am_B L mt_Z_pipe k_Z_pipe_29 n 29 ls st M Q) : am_R L mt_Z_pipe n 29 ls st M Q := am_go L mt_Z_pipe (fun h => by cases h) k_Z_pipe_29 n 29 ls st M Q o_Z_pipe_29 h
def k_Z_pipe_41 : List am_I := [(.aload_n 0, 1, 0, 0, 0), (.invokevirtual 61, 3, 87, 1, 802), (.aload_n 0, 1, 0, 0, 0), (.getfield 7, 3, 4, 1, 728), (.bipush 6, 2, 0, 0, 0), (.iload_n 1, 1, 0, 0, 0), (.iadd, 1, 0, 0, 0), (.dup2, 1, 0, 0, 0), (.iaload, 1, 0, 0, 0), (.iconst 1, 1, 0, 0, 0), (.iload_n 2, 1, 0, 0, 0), (.ishl, 1, 0, 0, 0), (.ixor, 1, 0, 0, 0), (.iastore, 1, 0, 0, 0), (.aload_n 0, 1, 0, 0, 0), (.getfield 7, 3, 4, 1, 728), (.bipush 6, 2, 0, 0, 0), (.iload_n 2, 1, 0, 0, 0), (.iadd, 1, 0, 0, 0), (.dup2, 1, 0, 0, 0), (.iaload, 1, 0, 0, 0), (.iconst 1, 1, 0, 0, 0), (.iload_n 1, 1, 0, 0, 0), (.ishl, 1, 0, 0, 0), (.ixor, 1, 0, 0, 0), (.iastore, 1, 0, 0, 0), (.aload_n 0, 1, 0, 0, 0), (.iload_n 1, 1, 0, 0, 0), (.iload_n 2, 1, 0, 0, 0), (.invokevirtual 93, 3, 101, 3, 868), (.ifCond .eq 7, 3, 0, 0, 0), (.iconst 1, 1, 0, 0, 0), (.goto 4, 3, 0, 0, 0)]
set_option maxRecDepth 20000 in
theorem o_Z_pipe_41 : am_okB mt_Z_pipe 41 k_Z_pipe_41 = true := by decide +kernel
theorem g_Z_pipe_41 {L : am_S} {n : Nat} {ls st : List Value} {M : am_M} {Q : am_Q} (h : am_B L mt_Z_pipe k_Z_pipe_41 n 41 ls st M Q) : am_R L mt_Z_pipe n 41 ls st M Q := am_go L mt_Z_pipe (fun h => by cases h) k_Z_pipe_41 n 41 ls st M Q o_Z_pipe_41 h
def k_Z_pipe_88 : List am_I := [(.iconst 0, 1, 0, 0, 0)]
set_option maxRecDepth 20000 in
theorem o_Z_pipe_88 : am_okB mt_Z_pipe 88 k_Z_pipe_88 = true := by decide +kernel
theorem g_Z_pipe_88 {L : am_S} {n : Nat} {ls st : List Value} {M : am_M} {Q : am_Q} (h : am_B L mt_Z_pipe k_Z_pipe_88 n 88 ls st M Q) : am_R L mt_Z_pipe n 88 ls st M Q := am_go L mt_Z_pipe (fun h => by cases h) k_Z_pipe_88 n 88 ls st M Q o_Z_pipe_88 h
def k_Z_pipe_89 : List am_I := [(.ireturn, 1, 0, 0, 0)]
set_option maxRecDepth 20000 in
theorem o_Z_pipe_89 : am_okB mt_Z_pipe 89 k_Z_pipe_89 = true := by decide +kernel
theorem g_Z_pipe_89 {L : am_S} {n : Nat} {ls st : List Value} {M : am_M} {Q : am_Q} (h : am_B L mt_Z_pipe k_Z_pipe_89 n 89 ls st M Q) : am_R L mt_Z_pipe n 89 ls st M Q := am_go L mt_Z_pipe (fun h => by cases h) k_Z_pipe_89 n 89 ls st M Q o_Z_pipe_89 h
def k_Z_set_0 : List am_I := [(.aload_n 0, 1, 0, 0, 0), (.iload_n 1, 1, 0, 0, 0), (.iconst 0, 1, 0, 0, 0), (.sipush 200, 3, 0, 0, 0), (.invokestatic 43, 3, 75, 3, 791), (.ifCond .eq 7, 3, 0, 0, 0), (.iconst 0, 1, 0, 0, 0), (.goto 4, 3, 0, 0, 0)]
set_option maxRecDepth 20000 in
theorem o_Z_set_0 : am_okB mt_Z_set 0 k_Z_set_0 = true := by decide +kernel
theorem g_Z_set_0 {L : am_S} {n : Nat} {ls st : List Value} {M : am_M} {Q : am_Q} (h : am_B L mt_Z_set k_Z_set_0 n 0 ls st M Q) : am_R L mt_Z_set n 0 ls st M Q := am_go L mt_Z_set (fun h => by cases h) k_Z_set_0 n 0 ls st M Q o_Z_set_0 h
def k_Z_set_16 : List am_I := [(.iconst 1, 1, 0, 0, 0)]
set_option maxRecDepth 20000 in
theorem o_Z_set_16 : am_okB mt_Z_set 16 k_Z_set_16 = true := by decide +kernel
theorem g_Z_set_16 {L : am_S} {n : Nat} {ls st : List Value} {M : am_M} {Q : am_Q} (h : am_B L mt_Z_set k_Z_set_16 n 16 ls st M Q) : am_R L mt_Z_set n 16 ls st M Q := am_go L mt_Z_set (fun h => by cases h) k_Z_set_16 n 16 ls st M Q o_Z_set_16 h
def k_Z_set_17 : List am_I := [(.putfield 39, 3, 4, 0, 727), (.aload_n 0, 1, 0, 0, 0), (.getfield 39, 3, 4, 0, 727), (.ifCond .le 5, 3, 0, 0, 0), (.iconst 0, 1, 0, 0, 0), (.ireturn, 1, 0, 0, 0)]
set_option maxRecDepth 20000 in
theorem o_Z_set_17 : am_okB mt_Z_set 17 k_Z_set_17 = true := by decide +kernel
theorem g_Z_set_17 {L : am_S} {n : Nat} {ls st : List Value} {M : am_M} {Q : am_Q} (h : am_B L mt_Z_set k_Z_set_17 n 17 ls st M Q) : am_R L mt_Z_set n 17 ls st M Q := am_go L mt_Z_set (fun h => by cases h) k_Z_set_17 n 17 ls st M Q o_Z_set_17 h
def k_Z_set_29 : List am_I := [(.aload_n 0, 1, 0, 0, 0), (.invokevirtual 61, 3, 87, 1, 802), (.aload_n 0, 1, 0, 0, 0), (.getfield 7, 3, 4, 1, 728), (.iconst 1, 1, 0, 0, 0), (.iaload, 1, 0, 0, 0), (.istore_n 2, 1, 0, 0, 0), (.aload_n 0, 1, 0, 0, 0), (.getfield 7, 3, 4, 1, 728), (.iconst 1, 1, 0, 0, 0), (.iload_n 1, 1, 0, 0, 0), (.iastore, 1, 0, 0, 0), (.iload_n 2, 1, 0, 0, 0), (.ireturn, 1, 0, 0, 0)]
set_option maxRecDepth 20000 in
theorem o_Z_set_29 : am_okB mt_Z_set 29 k_Z_set_29 = true := by decide +kernel
theorem g_Z_set_29 {L : am_S} {n : Nat} {ls st : List Value} {M : am_M} {Q : am_Q} (h : am_B L mt_Z_set k_Z_set_29 n 29 ls st M Q) : am_R L mt_Z_set n 29 ls st M Q := am_go L mt_Z_set (fun h => by cases h) k_Z_set_29 n 29 ls st M Q o_Z_set_29 h
def k_Z_move_0 : List am_I := [(.aload_n 0, 1, 0, 0, 0), (.iload_n 1, 1, 0, 0, 0), (.iconst 1, 1, 0, 0, 0), (.invokevirtual 47, 3, 77, 3, 813), (.istore 4, 2, 0, 0, 0), (.iload_n 3, 1, 0, 0, 0), (.iload 4, 2, 0, 0, 0), (.invokestatic 79, 3, 76, 2, 837), (.istore 5, 2, 0, 0, 0), (.iload_n 2, 1, 0, 0, 0), (.iconst 5, 1, 0, 0, 0), (.if_icmp .ne 8, 3, 0, 0, 0), (.iload 5, 2, 0, 0, 0), (.goto 21, 3, 0, 0, 0)]
set_option maxRecDepth 20000 in
theorem o_Z_move_0 : am_okB mt_Z_move 0 k_Z_move_0 = true := by decide +kernel
theorem g_Z_move_0 {L : am_S} {n : Nat} {ls st : List Value} {M : am_M} {Q : am_Q} (h : am_B L mt_Z_move k_Z_move_0 n 0 ls st M Q) : am_R L mt_Z_move n 0 ls st M Q := am_go L mt_Z_move (fun h => by cases h) k_Z_move_0 n 0 ls st M Q o_Z_move_0 h
def k_Z_move_26 : List am_I := [(.iload 5, 2, 0, 0, 0), (.aload_n 0, 1, 0, 0, 0), (.iload_n 2, 1, 0, 0, 0), (.iconst 0, 1, 0, 0, 0), (.invokevirtual 47, 3, 77, 3, 813), (.aload_n 0, 1, 0, 0, 0), (.iload_n 2, 1, 0, 0, 0), (.iconst 1, 1, 0, 0, 0), (.invokevirtual 47, 3, 77, 3, 813), (.isub, 1, 0, 0, 0), (.invokestatic 79, 3, 76, 2, 837)]
set_option maxRecDepth 20000 in
theorem o_Z_move_26 : am_okB mt_Z_move 26 k_Z_move_26 = true := by decide +kernel
theorem g_Z_move_26 {L : am_S} {n : Nat} {ls st : List Value} {M : am_M} {Q : am_Q} (h : am_B L mt_Z_move k_Z_move_26 n 26 ls st M Q) : am_R L mt_Z_move n 26 ls st M Q := am_go L mt_Z_move (fun h => by cases h) k_Z_move_26 n 26 ls st M Q o_Z_move_26 h
def k_Z_move_44 : List am_I := [(.istore 5, 2, 0, 0, 0), (.iload 5, 2, 0, 0, 0), (.ifCond .ne 5, 3, 0, 0, 0), (.iconst 0, 1, 0, 0, 0), (.ireturn, 1, 0, 0, 0)]
set_option maxRecDepth 20000 in
theorem o_Z_move_44 : am_okB mt_Z_move 44 k_Z_move_44 = true := by decide +kernel
theorem g_Z_move_44 {L : am_S} {n : Nat} {ls st : List Value} {M : am_M} {Q : am_Q} (h : am_B L mt_Z_move k_Z_move_44 n 44 ls st M Q) : am_R L mt_Z_move n 44 ls st M Q := am_go L mt_Z_move (fun h => by cases h) k_Z_move_44 n 44 ls st M Q o_Z_move_44 h
def k_Z_move_53 : List am_I := [(.iconst 0, 1, 0, 0, 0), (.istore 6, 2, 0, 0, 0)]
set_option maxRecDepth 20000 in
theorem o_Z_move_53 : am_okB mt_Z_move 53 k_Z_move_53 = true := by decide +kernel
theorem g_Z_move_53 {L : am_S} {n : Nat} {ls st : List Value} {M : am_M} {Q : am_Q} (h : am_B L mt_Z_move k_Z_move_53 n 53 ls st M Q) : am_R L mt_Z_move n 53 ls st M Q := am_go L mt_Z_move (fun h => by cases h) k_Z_move_53 n 53 ls st M Q o_Z_move_53 h
def k_Z_move_56 : List am_I := [(.iload 6, 2, 0, 0, 0), (.iconst 3, 1, 0, 0, 0), (.if_icmp .ge 72, 3, 0, 0, 0), (.aload_n 0, 1, 0, 0, 0), (.iload_n 1, 1, 0, 0, 0), (.iconst 2, 1, 0, 0, 0), (.iload 6, 2, 0, 0, 0), (.iadd, 1, 0, 0, 0), (.invokevirtual 47, 3, 77, 3, 813), (.iload 5, 2, 0, 0, 0), (.imul, 1, 0, 0, 0), (.iload 4, 2, 0, 0, 0), (.idiv, 1, 0, 0, 0), (.istore 7, 2, 0, 0, 0), (.aload_n 0, 1, 0, 0, 0), (.iload_n 1, 1, 0, 0, 0), (.iconst 2, 1, 0, 0, 0), (.iload 6, 2, 0, 0, 0), (.iadd, 1, 0, 0, 0), (.iload 7, 2, 0, 0, 0), (.ineg, 1, 0, 0, 0), (.invokevirtual 68, 3, 79, 4, 817), (.iload_n 2, 1, 0, 0, 0), (.iconst 5, 1, 0, 0, 0), (.if_icmp .ne 21, 3, 0, 0, 0), (.aload_n 0, 1, 0, 0, 0), (.getfield 7, 3, 4, 1, 728), (.bipush 14, 2, 0, 0, 0), (.iload 6, 2, 0, 0, 0), (.iadd, 1, 0, 0, 0), (.dup2, 1, 0, 0, 0), (.iaload, 1, 0, 0, 0), (.iload 7, 2, 0, 0, 0), (.iadd, 1, 0, 0, 0), (.iastore, 1, 0, 0, 0), (.goto 14, 3, 0, 0, 0)]
set_option maxRecDepth 20000 in
theorem o_Z_move_56 : am_okB mt_Z_move 56 k_Z_move_56 = true := by decide +kernel
theorem g_Z_move_56 {L : am_S} {n : Nat} {ls st : List Value} {M : am_M} {Q : am_Q} (h : am_B L mt_Z_move k_Z_move_56 n 56 ls st M Q) : am_R L mt_Z_move n 56 ls st M Q := am_go L mt_Z_move (fun h => by cases h) k_Z_move_56 n 56 ls st M Q o_Z_move_56 h
def k_Z_move_114 : List am_I := [(.aload_n 0, 1, 0, 0, 0), (.iload_n 2, 1, 0, 0, 0), (.iconst 2, 1, 0, 0, 0), (.iload 6, 2, 0, 0, 0), (.iadd, 1, 0, 0, 0), (.iload 7, 2, 0, 0, 0), (.invokevirtual 68, 3, 79, 4, 817)]
set_option maxRecDepth 20000 in
theorem o_Z_move_114 : am_okB mt_Z_move 114 k_Z_move_114 = true := by decide +kernel
theorem g_Z_move_114 {L : am_S} {n : Nat} {ls st : List Value} {M : am_M} {Q : am_Q} (h : am_B L mt_Z_move k_Z_move_114 n 114 ls st M Q) : am_R L mt_Z_move n 114 ls st M Q := am_go L mt_Z_move (fun h => by cases h) k_Z_move_114 n 114 ls st M Q o_Z_move_114 h
def k_Z_move_125 : List am_I := [(.iinc 6 1, 3, 0, 0, 0), (.goto (-72), 3, 0, 0, 0)]
set_option maxRecDepth 20000 in
theorem o_Z_move_125 : am_okB mt_Z_move 125 k_Z_move_125 = true := by decide +kernel
theorem g_Z_move_125 {L : am_S} {n : Nat} {ls st : List Value} {M : am_M} {Q : am_Q} (h : am_B L mt_Z_move k_Z_move_125 n 125 ls st M Q) : am_R L mt_Z_move n 125 ls st M Q := am_go L mt_Z_move (fun h => by cases h) k_Z_move_125 n 125 ls st M Q o_Z_move_125 h
def k_Z_move_131 : List am_I := [(.aload_n 0, 1, 0, 0, 0), (.iload_n 1, 1, 0, 0, 0), (.iconst 1, 1, 0, 0, 0), (.iload 5, 2, 0, 0, 0), (.ineg, 1, 0, 0, 0), (.invokevirtual 68, 3, 79, 4, 817), (.iload_n 2, 1, 0, 0, 0), (.iconst 5, 1, 0, 0, 0), (.if_icmp .ne 17, 3, 0, 0, 0), (.aload_n 0, 1, 0, 0, 0), (.getfield 7, 3, 4, 1, 728), (.iconst 2, 1, 0, 0, 0), (.dup2, 1, 0, 0, 0), (.iaload, 1, 0, 0, 0), (.iload 5, 2, 0, 0, 0), (.iadd, 1, 0, 0, 0), (.iastore, 1, 0, 0, 0), (.goto 11, 3, 0, 0, 0)]
set_option maxRecDepth 20000 in
theorem o_Z_move_131 : am_okB mt_Z_move 131 k_Z_move_131 = true := by decide +kernel
theorem g_Z_move_131 {L : am_S} {n : Nat} {ls st : List Value} {M : am_M} {Q : am_Q} (h : am_B L mt_Z_move k_Z_move_131 n 131 ls st M Q) : am_R L mt_Z_move n 131 ls st M Q := am_go L mt_Z_move (fun h => by cases h) k_Z_move_131 n 131 ls st M Q o_Z_move_131 h
def k_Z_move_159 : List am_I := [(.aload_n 0, 1, 0, 0, 0), (.iload_n 2, 1, 0, 0, 0), (.iconst 1, 1, 0, 0, 0), (.iload 5, 2, 0, 0, 0), (.invokevirtual 68, 3, 79, 4, 817)]
set_option maxRecDepth 20000 in
theorem o_Z_move_159 : am_okB mt_Z_move 159 k_Z_move_159 = true := by decide +kernel
theorem g_Z_move_159 {L : am_S} {n : Nat} {ls st : List Value} {M : am_M} {Q : am_Q} (h : am_B L mt_Z_move k_Z_move_159 n 159 ls st M Q) : am_R L mt_Z_move n 159 ls st M Q := am_go L mt_Z_move (fun h => by cases h) k_Z_move_159 n 159 ls st M Q o_Z_move_159 h
def k_Z_move_167 : List am_I := [(.iload 5, 2, 0, 0, 0), (.ireturn, 1, 0, 0, 0)]
set_option maxRecDepth 20000 in
theorem o_Z_move_167 : am_okB mt_Z_move 167 k_Z_move_167 = true := by decide +kernel
theorem g_Z_move_167 {L : am_S} {n : Nat} {ls st : List Value} {M : am_M} {Q : am_Q} (h : am_B L mt_Z_move k_Z_move_167 n 167 ls st M Q) : am_R L mt_Z_move n 167 ls st M Q := am_go L mt_Z_move (fun h => by cases h) k_Z_move_167 n 167 ls st M Q o_Z_move_167 h
def k_Z_level_0 : List am_I := [(.aload_n 0, 1, 0, 0, 0), (.iload_n 1, 1, 0, 0, 0), (.iconst 1, 1, 0, 0, 0), (.invokevirtual 47, 3, 77, 3, 813), (.aload_n 0, 1, 0, 0, 0), (.iload_n 2, 1, 0, 0, 0), (.iconst 1, 1, 0, 0, 0), (.invokevirtual 47, 3, 77, 3, 813), (.isub, 1, 0, 0, 0), (.istore_n 3, 1, 0, 0, 0), (.iload_n 3, 1, 0, 0, 0), (.ifCond .le 16, 3, 0, 0, 0), (.aload_n 0, 1, 0, 0, 0), (.iload_n 1, 1, 0, 0, 0), (.iload_n 2, 1, 0, 0, 0), (.iload_n 3, 1, 0, 0, 0), (.iconst 2, 1, 0, 0, 0), (.idiv, 1, 0, 0, 0), (.invokevirtual 97, 3, 104, 4, 896), (.pop, 1, 0, 0, 0), (.goto 14, 3, 0, 0, 0)]
set_option maxRecDepth 20000 in
theorem o_Z_level_0 : am_okB mt_Z_level 0 k_Z_level_0 = true := by decide +kernel
theorem g_Z_level_0 {L : am_S} {n : Nat} {ls st : List Value} {M : am_M} {Q : am_Q} (h : am_B L mt_Z_level k_Z_level_0 n 0 ls st M Q) : am_R L mt_Z_level n 0 ls st M Q := am_go L mt_Z_level (fun h => by cases h) k_Z_level_0 n 0 ls st M Q o_Z_level_0 h
def k_Z_level_31 : List am_I := [(.aload_n 0, 1, 0, 0, 0), (.iload_n 2, 1, 0, 0, 0), (.iload_n 1, 1, 0, 0, 0), (.iload_n 3, 1, 0, 0, 0), (.ineg, 1, 0, 0, 0), (.iconst 2, 1, 0, 0, 0), (.idiv, 1, 0, 0, 0), (.invokevirtual 97, 3, 104, 4, 896), (.pop, 1, 0, 0, 0)]
set_option maxRecDepth 20000 in
theorem o_Z_level_31 : am_okB mt_Z_level 31 k_Z_level_31 = true := by decide +kernel
theorem g_Z_level_31 {L : am_S} {n : Nat} {ls st : List Value} {M : am_M} {Q : am_Q} (h : am_B L mt_Z_level k_Z_level_31 n 31 ls st M Q) : am_R L mt_Z_level n 31 ls st M Q := am_go L mt_Z_level (fun h => by cases h) k_Z_level_31 n 31 ls st M Q o_Z_level_31 h
def k_Z_level_42 : List am_I := [(.return_, 1, 0, 0, 0)]
set_option maxRecDepth 20000 in
theorem o_Z_level_42 : am_okB mt_Z_level 42 k_Z_level_42 = true := by decide +kernel
theorem g_Z_level_42 {L : am_S} {n : Nat} {ls st : List Value} {M : am_M} {Q : am_Q} (h : am_B L mt_Z_level k_Z_level_42 n 42 ls st M Q) : am_R L mt_Z_level n 42 ls st M Q := am_go L mt_Z_level (fun h => by cases h) k_Z_level_42 n 42 ls st M Q o_Z_level_42 h
def k_Z_settle_0 : List am_I := [(.iconst 0, 1, 0, 0, 0), (.istore_n 2, 1, 0, 0, 0)]
set_option maxRecDepth 20000 in
theorem o_Z_settle_0 : am_okB mt_Z_settle 0 k_Z_settle_0 = true := by decide +kernel
theorem g_Z_settle_0 {L : am_S} {n : Nat} {ls st : List Value} {M : am_M} {Q : am_Q} (h : am_B L mt_Z_settle k_Z_settle_0 n 0 ls st M Q) : am_R L mt_Z_settle n 0 ls st M Q := am_go L mt_Z_settle (fun h => by cases h) k_Z_settle_0 n 0 ls st M Q o_Z_settle_0 h
def k_Z_settle_2 : List am_I := [(.iload_n 2, 1, 0, 0, 0), (.iconst 3, 1, 0, 0, 0), (.if_icmp .ge 47, 3, 0, 0, 0), (.aload_n 0, 1, 0, 0, 0), (.iload_n 1, 1, 0, 0, 0), (.iconst 2, 1, 0, 0, 0), (.iload_n 2, 1, 0, 0, 0), (.iadd, 1, 0, 0, 0), (.invokevirtual 47, 3, 77, 3, 813), (.aload_n 0, 1, 0, 0, 0), (.iload_n 1, 1, 0, 0, 0), (.invokevirtual 75, 3, 85, 2, 833), (.isub, 1, 0, 0, 0), (.istore_n 3, 1, 0, 0, 0), (.iload_n 3, 1, 0, 0, 0), (.ifCond .le 22, 3, 0, 0, 0), (.aload_n 0, 1, 0, 0, 0), (.iload_n 1, 1, 0, 0, 0), (.iconst 2, 1, 0, 0, 0), (.iload_n 2, 1, 0, 0, 0), (.iadd, 1, 0, 0, 0), (.iload_n 3, 1, 0, 0, 0), (.ineg, 1, 0, 0, 0), (.invokevirtual 68, 3, 79, 4, 817), (.aload_n 0, 1, 0, 0, 0), (.iload_n 1, 1, 0, 0, 0), (.iconst 5, 1, 0, 0, 0), (.iload_n 2, 1, 0, 0, 0), (.iadd, 1, 0, 0, 0), (.iload_n 3, 1, 0, 0, 0), (.invokevirtual 68, 3, 79, 4, 817)]
set_option maxRecDepth 20000 in
theorem o_Z_settle_2 : am_okB mt_Z_settle 2 k_Z_settle_2 = true := by decide +kernel
theorem g_Z_settle_2 {L : am_S} {n : Nat} {ls st : List Value} {M : am_M} {Q : am_Q} (h : am_B L mt_Z_settle k_Z_settle_2 n 2 ls st M Q) : am_R L mt_Z_settle n 2 ls st M Q := am_go L mt_Z_settle (fun h => by cases h) k_Z_settle_2 n 2 ls st M Q o_Z_settle_2 h
def k_Z_settle_45 : List am_I := [(.iinc 2 1, 3, 0, 0, 0), (.goto (-46), 3, 0, 0, 0)]
set_option maxRecDepth 20000 in
theorem o_Z_settle_45 : am_okB mt_Z_settle 45 k_Z_settle_45 = true := by decide +kernel
theorem g_Z_settle_45 {L : am_S} {n : Nat} {ls st : List Value} {M : am_M} {Q : am_Q} (h : am_B L mt_Z_settle k_Z_settle_45 n 45 ls st M Q) : am_R L mt_Z_settle n 45 ls st M Q := am_go L mt_Z_settle (fun h => by cases h) k_Z_settle_45 n 45 ls st M Q o_Z_settle_45 h
def k_Z_settle_51 : List am_I := [(.return_, 1, 0, 0, 0)]
set_option maxRecDepth 20000 in
theorem o_Z_settle_51 : am_okB mt_Z_settle 51 k_Z_settle_51 = true := by decide +kernel
theorem g_Z_settle_51 {L : am_S} {n : Nat} {ls st : List Value} {M : am_M} {Q : am_Q} (h : am_B L mt_Z_settle k_Z_settle_51 n 51 ls st M Q) : am_R L mt_Z_settle n 51 ls st M Q := am_go L mt_Z_settle (fun h => by cases h) k_Z_settle_51 n 51 ls st M Q o_Z_settle_51 h
def k_Z_hour_0 : List am_I := [(.iconst 0, 1, 0, 0, 0), (.istore_n 1, 1, 0, 0, 0)]
set_option maxRecDepth 20000 in
theorem o_Z_hour_0 : am_okB mt_Z_hour 0 k_Z_hour_0 = true := by decide +kernel
theorem g_Z_hour_0 {L : am_S} {n : Nat} {ls st : List Value} {M : am_M} {Q : am_Q} (h : am_B L mt_Z_hour k_Z_hour_0 n 0 ls st M Q) : am_R L mt_Z_hour n 0 ls st M Q := am_go L mt_Z_hour (fun h => by cases h) k_Z_hour_0 n 0 ls st M Q o_Z_hour_0 h
def k_Z_hour_2 : List am_I := [(.iload_n 1, 1, 0, 0, 0), (.aload_n 0, 1, 0, 0, 0), (.getfield 7, 3, 4, 1, 728), (.iconst 5, 1, 0, 0, 0), (.iaload, 1, 0, 0, 0), (.if_icmp .ge 56, 3, 0, 0, 0), (.aload_n 0, 1, 0, 0, 0), (.iload_n 1, 1, 0, 0, 0), (.invokevirtual 101, 3, 86, 2, 888), (.ifCond .eq 42, 3, 0, 0, 0), (.aload_n 0, 1, 0, 0, 0), (.getfield 7, 3, 4, 1, 728), (.bipush 57, 2, 0, 0, 0), (.bipush 6, 2, 0, 0, 0), (.iload_n 1, 1, 0, 0, 0), (.imul, 1, 0, 0, 0), (.iadd, 1, 0, 0, 0), (.iconst 5, 1, 0, 0, 0), (.iadd, 1, 0, 0, 0), (.dup2, 1, 0, 0, 0), (.iaload, 1, 0, 0, 0), (.aload_n 0, 1, 0, 0, 0), (.aload_n 0, 1, 0, 0, 0), (.iload_n 1, 1, 0, 0, 0), (.iconst 0, 1, 0, 0, 0), (.invokevirtual 55, 3, 80, 3, 892), (.aload_n 0, 1, 0, 0, 0), (.iload_n 1, 1, 0, 0, 0), (.iconst 1, 1, 0, 0, 0), (.invokevirtual 55, 3, 80, 3, 892), (.aload_n 0, 1, 0, 0, 0), (.iload_n 1, 1, 0, 0, 0), (.iconst 2, 1, 0, 0, 0), (.invokevirtual 55, 3, 80, 3, 892), (.invokevirtual 97, 3, 104, 4, 896), (.iadd, 1, 0, 0, 0), (.iastore, 1, 0, 0, 0)]
set_option maxRecDepth 20000 in
theorem o_Z_hour_2 : am_okB mt_Z_hour 2 k_Z_hour_2 = true := by decide +kernel
theorem g_Z_hour_2 {L : am_S} {n : Nat} {ls st : List Value} {M : am_M} {Q : am_Q} (h : am_B L mt_Z_hour k_Z_hour_2 n 2 ls st M Q) : am_R L mt_Z_hour n 2 ls st M Q := am_go L mt_Z_hour (fun h => by cases h) k_Z_hour_2 n 2 ls st M Q o_Z_hour_2 h
def k_Z_hour_59 : List am_I := [(.iinc 1 1, 3, 0, 0, 0), (.goto (-60), 3, 0, 0, 0)]
set_option maxRecDepth 20000 in
theorem o_Z_hour_59 : am_okB mt_Z_hour 59 k_Z_hour_59 = true := by decide +kernel
theorem g_Z_hour_59 {L : am_S} {n : Nat} {ls st : List Value} {M : am_M} {Q : am_Q} (h : am_B L mt_Z_hour k_Z_hour_59 n 59 ls st M Q) : am_R L mt_Z_hour n 59 ls st M Q := am_go L mt_Z_hour (fun h => by cases h) k_Z_hour_59 n 59 ls st M Q o_Z_hour_59 h
def k_Z_hour_65 : List am_I := [(.iconst 0, 1, 0, 0, 0), (.istore_n 1, 1, 0, 0, 0)]
set_option maxRecDepth 20000 in
theorem o_Z_hour_65 : am_okB mt_Z_hour 65 k_Z_hour_65 = true := by decide +kernel
theorem g_Z_hour_65 {L : am_S} {n : Nat} {ls st : List Value} {M : am_M} {Q : am_Q} (h : am_B L mt_Z_hour k_Z_hour_65 n 65 ls st M Q) : am_R L mt_Z_hour n 65 ls st M Q := am_go L mt_Z_hour (fun h => by cases h) k_Z_hour_65 n 65 ls st M Q o_Z_hour_65 h
def k_Z_hour_67 : List am_I := [(.iload_n 1, 1, 0, 0, 0), (.iconst 5, 1, 0, 0, 0), (.if_icmp .ge 39, 3, 0, 0, 0), (.iload_n 1, 1, 0, 0, 0), (.iconst 1, 1, 0, 0, 0), (.iadd, 1, 0, 0, 0), (.istore_n 2, 1, 0, 0, 0)]
set_option maxRecDepth 20000 in
theorem o_Z_hour_67 : am_okB mt_Z_hour 67 k_Z_hour_67 = true := by decide +kernel
theorem g_Z_hour_67 {L : am_S} {n : Nat} {ls st : List Value} {M : am_M} {Q : am_Q} (h : am_B L mt_Z_hour k_Z_hour_67 n 67 ls st M Q) : am_R L mt_Z_hour n 67 ls st M Q := am_go L mt_Z_hour (fun h => by cases h) k_Z_hour_67 n 67 ls st M Q o_Z_hour_67 h
def k_Z_hour_76 : List am_I := [(.iload_n 2, 1, 0, 0, 0), (.iconst 5, 1, 0, 0, 0), (.if_icmp .ge 24, 3, 0, 0, 0), (.aload_n 0, 1, 0, 0, 0), (.iload_n 1, 1, 0, 0, 0), (.iload_n 2, 1, 0, 0, 0), (.invokevirtual 93, 3, 101, 3, 868), (.ifCond .eq 9, 3, 0, 0, 0), (.aload_n 0, 1, 0, 0, 0), (.iload_n 1, 1, 0, 0, 0), (.iload_n 2, 1, 0, 0, 0), (.invokevirtual 104, 3, 105, 3, 900)]
set_option maxRecDepth 20000 in
theorem o_Z_hour_76 : am_okB mt_Z_hour 76 k_Z_hour_76 = true := by decide +kernel
theorem g_Z_hour_76 {L : am_S} {n : Nat} {ls st : List Value} {M : am_M} {Q : am_Q} (h : am_B L mt_Z_hour k_Z_hour_76 n 76 ls st M Q) : am_R L mt_Z_hour n 76 ls st M Q := am_go L mt_Z_hour (fun h => by cases h) k_Z_hour_76 n 76 ls st M Q o_Z_hour_76 h
def k_Z_hour_96 : List am_I := [(.iinc 2 1, 3, 0, 0, 0), (.goto (-23), 3, 0, 0, 0)]
set_option maxRecDepth 20000 in
theorem o_Z_hour_96 : am_okB mt_Z_hour 96 k_Z_hour_96 = true := by decide +kernel
theorem g_Z_hour_96 {L : am_S} {n : Nat} {ls st : List Value} {M : am_M} {Q : am_Q} (h : am_B L mt_Z_hour k_Z_hour_96 n 96 ls st M Q) : am_R L mt_Z_hour n 96 ls st M Q := am_go L mt_Z_hour (fun h => by cases h) k_Z_hour_96 n 96 ls st M Q o_Z_hour_96 h
def k_Z_hour_102 : List am_I := [(.iinc 1 1, 3, 0, 0, 0), (.goto (-38), 3, 0, 0, 0)]
set_option maxRecDepth 20000 in
theorem o_Z_hour_102 : am_okB mt_Z_hour 102 k_Z_hour_102 = true := by decide +kernel
theorem g_Z_hour_102 {L : am_S} {n : Nat} {ls st : List Value} {M : am_M} {Q : am_Q} (h : am_B L mt_Z_hour k_Z_hour_102 n 102 ls st M Q) : am_R L mt_Z_hour n 102 ls st M Q := am_go L mt_Z_hour (fun h => by cases h) k_Z_hour_102 n 102 ls st M Q o_Z_hour_102 h
def k_Z_hour_108 : List am_I := [(.iconst 0, 1, 0, 0, 0), (.istore_n 1, 1, 0, 0, 0)]
set_option maxRecDepth 20000 in
theorem o_Z_hour_108 : am_okB mt_Z_hour 108 k_Z_hour_108 = true := by decide +kernel
theorem g_Z_hour_108 {L : am_S} {n : Nat} {ls st : List Value} {M : am_M} {Q : am_Q} (h : am_B L mt_Z_hour k_Z_hour_108 n 108 ls st M Q) : am_R L mt_Z_hour n 108 ls st M Q := am_go L mt_Z_hour (fun h => by cases h) k_Z_hour_108 n 108 ls st M Q o_Z_hour_108 h
def k_Z_hour_110 : List am_I := [(.iload_n 1, 1, 0, 0, 0), (.iconst 5, 1, 0, 0, 0), (.if_icmp .ge 14, 3, 0, 0, 0), (.aload_n 0, 1, 0, 0, 0), (.iload_n 1, 1, 0, 0, 0), (.invokevirtual 108, 3, 106, 2, 904), (.iinc 1 1, 3, 0, 0, 0), (.goto (-13), 3, 0, 0, 0)]
set_option maxRecDepth 20000 in
theorem o_Z_hour_110 : am_okB mt_Z_hour 110 k_Z_hour_110 = true := by decide +kernel
theorem g_Z_hour_110 {L : am_S} {n : Nat} {ls st : List Value} {M : am_M} {Q : am_Q} (h : am_B L mt_Z_hour k_Z_hour_110 n 110 ls st M Q) : am_R L mt_Z_hour n 110 ls st M Q := am_go L mt_Z_hour (fun h => by cases h) k_Z_hour_110 n 110 ls st M Q o_Z_hour_110 h
def k_Z_hour_126 : List am_I := [(.aload_n 0, 1, 0, 0, 0), (.getfield 7, 3, 4, 1, 728), (.iconst 0, 1, 0, 0, 0), (.dup2, 1, 0, 0, 0), (.iaload, 1, 0, 0, 0), (.iconst 1, 1, 0, 0, 0), (.iadd, 1, 0, 0, 0), (.iastore, 1, 0, 0, 0), (.return_, 1, 0, 0, 0)]
set_option maxRecDepth 20000 in
theorem o_Z_hour_126 : am_okB mt_Z_hour 126 k_Z_hour_126 = true := by decide +kernel
theorem g_Z_hour_126 {L : am_S} {n : Nat} {ls st : List Value} {M : am_M} {Q : am_Q} (h : am_B L mt_Z_hour k_Z_hour_126 n 126 ls st M Q) : am_R L mt_Z_hour n 126 ls st M Q := am_go L mt_Z_hour (fun h => by cases h) k_Z_hour_126 n 126 ls st M Q o_Z_hour_126 h
def k_Z_hours_0 : List am_I := [(.iconst 0, 1, 0, 0, 0), (.istore_n 2, 1, 0, 0, 0)]
set_option maxRecDepth 20000 in
theorem o_Z_hours_0 : am_okB mt_Z_hours 0 k_Z_hours_0 = true := by decide +kernel
theorem g_Z_hours_0 {L : am_S} {n : Nat} {ls st : List Value} {M : am_M} {Q : am_Q} (h : am_B L mt_Z_hours k_Z_hours_0 n 0 ls st M Q) : am_R L mt_Z_hours n 0 ls st M Q := am_go L mt_Z_hours (fun h => by cases h) k_Z_hours_0 n 0 ls st M Q o_Z_hours_0 h
def k_Z_hours_2 : List am_I := [(.iload_n 2, 1, 0, 0, 0), (.iload_n 1, 1, 0, 0, 0), (.if_icmp .ge 13, 3, 0, 0, 0), (.aload_n 0, 1, 0, 0, 0), (.invokevirtual 111, 3, 107, 1, 884), (.iinc 2 1, 3, 0, 0, 0), (.goto (-12), 3, 0, 0, 0)]
set_option maxRecDepth 20000 in
theorem o_Z_hours_2 : am_okB mt_Z_hours 2 k_Z_hours_2 = true := by decide +kernel
theorem g_Z_hours_2 {L : am_S} {n : Nat} {ls st : List Value} {M : am_M} {Q : am_Q} (h : am_B L mt_Z_hours k_Z_hours_2 n 2 ls st M Q) : am_R L mt_Z_hours n 2 ls st M Q := am_go L mt_Z_hours (fun h => by cases h) k_Z_hours_2 n 2 ls st M Q o_Z_hours_2 h
def k_Z_hours_17 : List am_I := [(.return_, 1, 0, 0, 0)]
set_option maxRecDepth 20000 in
theorem o_Z_hours_17 : am_okB mt_Z_hours 17 k_Z_hours_17 = true := by decide +kernel
theorem g_Z_hours_17 {L : am_S} {n : Nat} {ls st : List Value} {M : am_M} {Q : am_Q} (h : am_B L mt_Z_hours k_Z_hours_17 n 17 ls st M Q) : am_R L mt_Z_hours n 17 ls st M Q := am_go L mt_Z_hours (fun h => by cases h) k_Z_hours_17 n 17 ls st M Q o_Z_hours_17 h
def k_Z_pass_0 : List am_I := [(.aload_n 0, 1, 0, 0, 0), (.iload_n 1, 1, 0, 0, 0), (.iconst 1, 1, 0, 0, 0), (.sipush 240, 3, 0, 0, 0), (.invokestatic 43, 3, 75, 3, 791), (.ifCond .ne 7, 3, 0, 0, 0), (.iconst 1, 1, 0, 0, 0), (.goto 21, 3, 0, 0, 0)]
set_option maxRecDepth 20000 in
theorem o_Z_pass_0 : am_okB mt_Z_pass 0 k_Z_pass_0 = true := by decide +kernel
theorem g_Z_pass_0 {L : am_S} {n : Nat} {ls st : List Value} {M : am_M} {Q : am_Q} (h : am_B L mt_Z_pass k_Z_pass_0 n 0 ls st M Q) : am_R L mt_Z_pass n 0 ls st M Q := am_go L mt_Z_pass (fun h => by cases h) k_Z_pass_0 n 0 ls st M Q o_Z_pass_0 h
def k_Z_pass_16 : List am_I := [(.aload_n 0, 1, 0, 0, 0), (.getfield 7, 3, 4, 1, 728), (.iconst 0, 1, 0, 0, 0), (.iaload, 1, 0, 0, 0), (.iload_n 1, 1, 0, 0, 0), (.iadd, 1, 0, 0, 0), (.ldc 74, 2, 99999, 0, 828), (.if_icmp .le 7, 3, 0, 0, 0), (.iconst 2, 1, 0, 0, 0), (.goto 4, 3, 0, 0, 0)]
set_option maxRecDepth 20000 in
theorem o_Z_pass_16 : am_okB mt_Z_pass 16 k_Z_pass_16 = true := by decide +kernel
theorem g_Z_pass_16 {L : am_S} {n : Nat} {ls st : List Value} {M : am_M} {Q : am_Q} (h : am_B L mt_Z_pass k_Z_pass_16 n 16 ls st M Q) : am_R L mt_Z_pass n 16 ls st M Q := am_go L mt_Z_pass (fun h => by cases h) k_Z_pass_16 n 16 ls st M Q o_Z_pass_16 h
def k_Z_pass_33 : List am_I := [(.iconst 0, 1, 0, 0, 0)]
set_option maxRecDepth 20000 in
theorem o_Z_pass_33 : am_okB mt_Z_pass 33 k_Z_pass_33 = true := by decide +kernel
theorem g_Z_pass_33 {L : am_S} {n : Nat} {ls st : List Value} {M : am_M} {Q : am_Q} (h : am_B L mt_Z_pass k_Z_pass_33 n 33 ls st M Q) : am_R L mt_Z_pass n 33 ls st M Q := am_go L mt_Z_pass (fun h => by cases h) k_Z_pass_33 n 33 ls st M Q o_Z_pass_33 h
def k_Z_pass_34 : List am_I := [(.putfield 39, 3, 4, 0, 727), (.aload_n 0, 1, 0, 0, 0), (.getfield 39, 3, 4, 0, 727), (.ifCond .le 5, 3, 0, 0, 0), (.iconst 0, 1, 0, 0, 0), (.ireturn, 1, 0, 0, 0)]
set_option maxRecDepth 20000 in
theorem o_Z_pass_34 : am_okB mt_Z_pass 34 k_Z_pass_34 = true := by decide +kernel
theorem g_Z_pass_34 {L : am_S} {n : Nat} {ls st : List Value} {M : am_M} {Q : am_Q} (h : am_B L mt_Z_pass k_Z_pass_34 n 34 ls st M Q) : am_R L mt_Z_pass n 34 ls st M Q := am_go L mt_Z_pass (fun h => by cases h) k_Z_pass_34 n 34 ls st M Q o_Z_pass_34 h
def k_Z_pass_46 : List am_I := [(.aload_n 0, 1, 0, 0, 0), (.invokevirtual 61, 3, 87, 1, 802), (.aload_n 0, 1, 0, 0, 0), (.getfield 7, 3, 4, 1, 728), (.iconst 2, 1, 0, 0, 0), (.iaload, 1, 0, 0, 0), (.istore_n 2, 1, 0, 0, 0), (.aload_n 0, 1, 0, 0, 0), (.iload_n 1, 1, 0, 0, 0), (.invokevirtual 114, 3, 108, 2, 880), (.aload_n 0, 1, 0, 0, 0), (.getfield 7, 3, 4, 1, 728), (.iconst 2, 1, 0, 0, 0), (.iaload, 1, 0, 0, 0), (.iload_n 2, 1, 0, 0, 0), (.isub, 1, 0, 0, 0), (.ireturn, 1, 0, 0, 0)]
set_option maxRecDepth 20000 in
theorem o_Z_pass_46 : am_okB mt_Z_pass 46 k_Z_pass_46 = true := by decide +kernel
theorem g_Z_pass_46 {L : am_S} {n : Nat} {ls st : List Value} {M : am_M} {Q : am_Q} (h : am_B L mt_Z_pass k_Z_pass_46 n 46 ls st M Q) : am_R L mt_Z_pass n 46 ls st M Q := am_go L mt_Z_pass (fun h => by cases h) k_Z_pass_46 n 46 ls st M Q o_Z_pass_46 h
def k_Z_append_0 : List am_I := [(.aload_n 0, 1, 0, 0, 0), (.iload_n 1, 1, 0, 0, 0), (.bipush 33, 2, 0, 0, 0), (.bipush 126, 2, 0, 0, 0), (.invokestatic 43, 3, 75, 3, 791), (.ifCond .ne 7, 3, 0, 0, 0), (.iconst 1, 1, 0, 0, 0), (.goto 17, 3, 0, 0, 0)]
set_option maxRecDepth 20000 in
theorem o_Z_append_0 : am_okB mt_Z_append 0 k_Z_append_0 = true := by decide +kernel
theorem g_Z_append_0 {L : am_S} {n : Nat} {ls st : List Value} {M : am_M} {Q : am_Q} (h : am_B L mt_Z_append k_Z_append_0 n 0 ls st M Q) : am_R L mt_Z_append n 0 ls st M Q := am_go L mt_Z_append (fun h => by cases h) k_Z_append_0 n 0 ls st M Q o_Z_append_0 h
def k_Z_append_16 : List am_I := [(.aload_n 0, 1, 0, 0, 0), (.getfield 117, 3, 4, 8, 735), (.bipush 60, 2, 0, 0, 0), (.if_icmp .ne 7, 3, 0, 0, 0), (.iconst 2, 1, 0, 0, 0), (.goto 4, 3, 0, 0, 0)]
set_option maxRecDepth 20000 in
theorem o_Z_append_16 : am_okB mt_Z_append 16 k_Z_append_16 = true := by decide +kernel
theorem g_Z_append_16 {L : am_S} {n : Nat} {ls st : List Value} {M : am_M} {Q : am_Q} (h : am_B L mt_Z_append k_Z_append_16 n 16 ls st M Q) : am_R L mt_Z_append n 16 ls st M Q := am_go L mt_Z_append (fun h => by cases h) k_Z_append_16 n 16 ls st M Q o_Z_append_16 h
def k_Z_append_29 : List am_I := [(.iconst 0, 1, 0, 0, 0)]
set_option maxRecDepth 20000 in
theorem o_Z_append_29 : am_okB mt_Z_append 29 k_Z_append_29 = true := by decide +kernel
theorem g_Z_append_29 {L : am_S} {n : Nat} {ls st : List Value} {M : am_M} {Q : am_Q} (h : am_B L mt_Z_append k_Z_append_29 n 29 ls st M Q) : am_R L mt_Z_append n 29 ls st M Q := am_go L mt_Z_append (fun h => by cases h) k_Z_append_29 n 29 ls st M Q o_Z_append_29 h
def k_Z_append_30 : List am_I := [(.putfield 39, 3, 4, 0, 727), (.aload_n 0, 1, 0, 0, 0), (.getfield 39, 3, 4, 0, 727), (.ifCond .le 5, 3, 0, 0, 0), (.iconst 0, 1, 0, 0, 0), (.ireturn, 1, 0, 0, 0)]
set_option maxRecDepth 20000 in
theorem o_Z_append_30 : am_okB mt_Z_append 30 k_Z_append_30 = true := by decide +kernel
theorem g_Z_append_30 {L : am_S} {n : Nat} {ls st : List Value} {M : am_M} {Q : am_Q} (h : am_B L mt_Z_append k_Z_append_30 n 30 ls st M Q) : am_R L mt_Z_append n 30 ls st M Q := am_go L mt_Z_append (fun h => by cases h) k_Z_append_30 n 30 ls st M Q o_Z_append_30 h
def k_Z_append_42 : List am_I := [(.aload_n 0, 1, 0, 0, 0), (.getfield 26, 3, 4, 7, 734), (.aload_n 0, 1, 0, 0, 0), (.getfield 117, 3, 4, 8, 735), (.iload_n 1, 1, 0, 0, 0), (.iastore, 1, 0, 0, 0), (.aload_n 0, 1, 0, 0, 0), (.dup, 1, 0, 0, 0), (.getfield 117, 3, 4, 8, 735), (.iconst 1, 1, 0, 0, 0), (.iadd, 1, 0, 0, 0), (.putfield 117, 3, 4, 8, 735), (.aload_n 0, 1, 0, 0, 0), (.getfield 117, 3, 4, 8, 735), (.ireturn, 1, 0, 0, 0)]
set_option maxRecDepth 20000 in
theorem o_Z_append_42 : am_okB mt_Z_append 42 k_Z_append_42 = true := by decide +kernel
theorem g_Z_append_42 {L : am_S} {n : Nat} {ls st : List Value} {M : am_M} {Q : am_Q} (h : am_B L mt_Z_append k_Z_append_42 n 42 ls st M Q) : am_R L mt_Z_append n 42 ls st M Q := am_go L mt_Z_append (fun h => by cases h) k_Z_append_42 n 42 ls st M Q o_Z_append_42 h
def k_Z_clearBuffer_0 : List am_I := [(.aload_n 0, 1, 0, 0, 0), (.iconst 0, 1, 0, 0, 0), (.putfield 39, 3, 4, 0, 727), (.aload_n 0, 1, 0, 0, 0), (.getfield 117, 3, 4, 8, 735), (.istore_n 1, 1, 0, 0, 0), (.aload_n 0, 1, 0, 0, 0), (.iconst 0, 1, 0, 0, 0), (.putfield 117, 3, 4, 8, 735), (.iload_n 1, 1, 0, 0, 0), (.ireturn, 1, 0, 0, 0)]
set_option maxRecDepth 20000 in
theorem o_Z_clearBuffer_0 : am_okB mt_Z_clearBuffer 0 k_Z_clearBuffer_0 = true := by decide +kernel
theorem g_Z_clearBuffer_0 {L : am_S} {n : Nat} {ls st : List Value} {M : am_M} {Q : am_Q} (h : am_B L mt_Z_clearBuffer k_Z_clearBuffer_0 n 0 ls st M Q) : am_R L mt_Z_clearBuffer n 0 ls st M Q := am_go L mt_Z_clearBuffer (fun h => by cases h) k_Z_clearBuffer_0 n 0 ls st M Q o_Z_clearBuffer_0 h
def k_Z_sign_0 : List am_I := [(.aload_n 0, 1, 0, 0, 0), (.getfield 120, 3, 4, 14, 741), (.aload_n 0, 1, 0, 0, 0), (.getfield 117, 3, 4, 8, 735), (.if_icmp .ge 15, 3, 0, 0, 0), (.aload_n 0, 1, 0, 0, 0), (.getfield 26, 3, 4, 7, 734), (.aload_n 0, 1, 0, 0, 0), (.getfield 120, 3, 4, 14, 741), (.iaload, 1, 0, 0, 0), (.goto 4, 3, 0, 0, 0)]
set_option maxRecDepth 20000 in
theorem o_Z_sign_0 : am_okB mt_Z_sign 0 k_Z_sign_0 = true := by decide +kernel
theorem g_Z_sign_0 {L : am_S} {n : Nat} {ls st : List Value} {M : am_M} {Q : am_Q} (h : am_B L mt_Z_sign k_Z_sign_0 n 0 ls st M Q) : am_R L mt_Z_sign n 0 ls st M Q := am_go L mt_Z_sign (fun h => by cases h) k_Z_sign_0 n 0 ls st M Q o_Z_sign_0 h
def k_Z_sign_23 : List am_I := [(.iconst 0, 1, 0, 0, 0)]
set_option maxRecDepth 20000 in
theorem o_Z_sign_23 : am_okB mt_Z_sign 23 k_Z_sign_23 = true := by decide +kernel
theorem g_Z_sign_23 {L : am_S} {n : Nat} {ls st : List Value} {M : am_M} {Q : am_Q} (h : am_B L mt_Z_sign k_Z_sign_23 n 23 ls st M Q) : am_R L mt_Z_sign n 23 ls st M Q := am_go L mt_Z_sign (fun h => by cases h) k_Z_sign_23 n 23 ls st M Q o_Z_sign_23 h
def k_Z_sign_24 : List am_I := [(.ireturn, 1, 0, 0, 0)]
set_option maxRecDepth 20000 in
theorem o_Z_sign_24 : am_okB mt_Z_sign 24 k_Z_sign_24 = true := by decide +kernel
theorem g_Z_sign_24 {L : am_S} {n : Nat} {ls st : List Value} {M : am_M} {Q : am_Q} (h : am_B L mt_Z_sign k_Z_sign_24 n 24 ls st M Q) : am_R L mt_Z_sign n 24 ls st M Q := am_go L mt_Z_sign (fun h => by cases h) k_Z_sign_24 n 24 ls st M Q o_Z_sign_24 h
def k_Z_take_0 : List am_I := [(.aload_n 0, 1, 0, 0, 0), (.aload_n 0, 1, 0, 0, 0), (.getfield 123, 3, 4, 15, 742), (.ifCond .ne 7, 3, 0, 0, 0), (.iload_n 1, 1, 0, 0, 0), (.ifCond .ne 7, 3, 0, 0, 0)]
set_option maxRecDepth 20000 in
theorem o_Z_take_0 : am_okB mt_Z_take 0 k_Z_take_0 = true := by decide +kernel
theorem g_Z_take_0 {L : am_S} {n : Nat} {ls st : List Value} {M : am_M} {Q : am_Q} (h : am_B L mt_Z_take k_Z_take_0 n 0 ls st M Q) : am_R L mt_Z_take n 0 ls st M Q := am_go L mt_Z_take (fun h => by cases h) k_Z_take_0 n 0 ls st M Q o_Z_take_0 h
def k_Z_take_12 : List am_I := [(.iconst 1, 1, 0, 0, 0), (.goto 4, 3, 0, 0, 0)]
set_option maxRecDepth 20000 in
theorem o_Z_take_12 : am_okB mt_Z_take 12 k_Z_take_12 = true := by decide +kernel
theorem g_Z_take_12 {L : am_S} {n : Nat} {ls st : List Value} {M : am_M} {Q : am_Q} (h : am_B L mt_Z_take k_Z_take_12 n 12 ls st M Q) : am_R L mt_Z_take n 12 ls st M Q := am_go L mt_Z_take (fun h => by cases h) k_Z_take_12 n 12 ls st M Q o_Z_take_12 h
def k_Z_take_16 : List am_I := [(.iconst 0, 1, 0, 0, 0)]
set_option maxRecDepth 20000 in
theorem o_Z_take_16 : am_okB mt_Z_take 16 k_Z_take_16 = true := by decide +kernel
theorem g_Z_take_16 {L : am_S} {n : Nat} {ls st : List Value} {M : am_M} {Q : am_Q} (h : am_B L mt_Z_take k_Z_take_16 n 16 ls st M Q) : am_R L mt_Z_take n 16 ls st M Q := am_go L mt_Z_take (fun h => by cases h) k_Z_take_16 n 16 ls st M Q o_Z_take_16 h
def k_Z_take_17 : List am_I := [(.putfield 123, 3, 4, 15, 742), (.aload_n 0, 1, 0, 0, 0), (.dup, 1, 0, 0, 0), (.getfield 120, 3, 4, 14, 741), (.aload_n 0, 1, 0, 0, 0), (.getfield 123, 3, 4, 15, 742), (.ifCond .eq 7, 3, 0, 0, 0), (.iconst 0, 1, 0, 0, 0), (.goto 4, 3, 0, 0, 0)]
set_option maxRecDepth 20000 in
theorem o_Z_take_17 : am_okB mt_Z_take 17 k_Z_take_17 = true := by decide +kernel
theorem g_Z_take_17 {L : am_S} {n : Nat} {ls st : List Value} {M : am_M} {Q : am_Q} (h : am_B L mt_Z_take k_Z_take_17 n 17 ls st M Q) : am_R L mt_Z_take n 17 ls st M Q := am_go L mt_Z_take (fun h => by cases h) k_Z_take_17 n 17 ls st M Q o_Z_take_17 h
def k_Z_take_36 : List am_I := [(.iconst 1, 1, 0, 0, 0)]
set_option maxRecDepth 20000 in
theorem o_Z_take_36 : am_okB mt_Z_take 36 k_Z_take_36 = true := by decide +kernel
theorem g_Z_take_36 {L : am_S} {n : Nat} {ls st : List Value} {M : am_M} {Q : am_Q} (h : am_B L mt_Z_take k_Z_take_36 n 36 ls st M Q) : am_R L mt_Z_take n 36 ls st M Q := am_go L mt_Z_take (fun h => by cases h) k_Z_take_36 n 36 ls st M Q o_Z_take_36 h
def k_Z_take_37 : List am_I := [(.iadd, 1, 0, 0, 0), (.putfield 120, 3, 4, 14, 741), (.return_, 1, 0, 0, 0)]
set_option maxRecDepth 20000 in
theorem o_Z_take_37 : am_okB mt_Z_take 37 k_Z_take_37 = true := by decide +kernel
theorem g_Z_take_37 {L : am_S} {n : Nat} {ls st : List Value} {M : am_M} {Q : am_Q} (h : am_B L mt_Z_take k_Z_take_37 n 37 ls st M Q) : am_R L mt_Z_take n 37 ls st M Q := am_go L mt_Z_take (fun h => by cases h) k_Z_take_37 n 37 ls st M Q o_Z_take_37 h
def k_Z_takeSign_0 : List am_I := [(.aload_n 0, 1, 0, 0, 0), (.aload_n 0, 1, 0, 0, 0), (.invokevirtual 127, 3, 112, 1, 932), (.iload_n 1, 1, 0, 0, 0), (.if_icmp .ne 7, 3, 0, 0, 0), (.iconst 1, 1, 0, 0, 0), (.goto 4, 3, 0, 0, 0)]
set_option maxRecDepth 20000 in
theorem o_Z_takeSign_0 : am_okB mt_Z_takeSign 0 k_Z_takeSign_0 = true := by decide +kernel
theorem g_Z_takeSign_0 {L : am_S} {n : Nat} {ls st : List Value} {M : am_M} {Q : am_Q} (h : am_B L mt_Z_takeSign k_Z_takeSign_0 n 0 ls st M Q) : am_R L mt_Z_takeSign n 0 ls st M Q := am_go L mt_Z_takeSign (fun h => by cases h) k_Z_takeSign_0 n 0 ls st M Q o_Z_takeSign_0 h
def k_Z_takeSign_13 : List am_I := [(.iconst 0, 1, 0, 0, 0)]
set_option maxRecDepth 20000 in
theorem o_Z_takeSign_13 : am_okB mt_Z_takeSign 13 k_Z_takeSign_13 = true := by decide +kernel
theorem g_Z_takeSign_13 {L : am_S} {n : Nat} {ls st : List Value} {M : am_M} {Q : am_Q} (h : am_B L mt_Z_takeSign k_Z_takeSign_13 n 13 ls st M Q) : am_R L mt_Z_takeSign n 13 ls st M Q := am_go L mt_Z_takeSign (fun h => by cases h) k_Z_takeSign_13 n 13 ls st M Q o_Z_takeSign_13 h
def k_Z_takeSign_14 : List am_I := [(.invokevirtual 130, 3, 113, 2, 936), (.return_, 1, 0, 0, 0)]
set_option maxRecDepth 20000 in
theorem o_Z_takeSign_14 : am_okB mt_Z_takeSign 14 k_Z_takeSign_14 = true := by decide +kernel
theorem g_Z_takeSign_14 {L : am_S} {n : Nat} {ls st : List Value} {M : am_M} {Q : am_Q} (h : am_B L mt_Z_takeSign k_Z_takeSign_14 n 14 ls st M Q) : am_R L mt_Z_takeSign n 14 ls st M Q := am_go L mt_Z_takeSign (fun h => by cases h) k_Z_takeSign_14 n 14 ls st M Q o_Z_takeSign_14 h
def k_Z_takeVat_0 : List am_I := [(.aload_n 0, 1, 0, 0, 0), (.aload_n 0, 1, 0, 0, 0), (.invokevirtual 127, 3, 112, 1, 932), (.bipush 48, 2, 0, 0, 0), (.isub, 1, 0, 0, 0), (.putfield 134, 3, 4, 16, 743), (.aload_n 0, 1, 0, 0, 0), (.aload_n 0, 1, 0, 0, 0), (.getfield 134, 3, 4, 16, 743), (.iconst 0, 1, 0, 0, 0), (.iload_n 1, 1, 0, 0, 0), (.invokestatic 43, 3, 75, 3, 791), (.ifCond .eq 15, 3, 0, 0, 0), (.aload_n 0, 1, 0, 0, 0), (.getfield 134, 3, 4, 16, 743), (.iload_n 2, 1, 0, 0, 0), (.if_icmp .eq 7, 3, 0, 0, 0), (.iconst 1, 1, 0, 0, 0), (.goto 4, 3, 0, 0, 0)]
set_option maxRecDepth 20000 in
theorem o_Z_takeVat_0 : am_okB mt_Z_takeVat 0 k_Z_takeVat_0 = true := by decide +kernel
theorem g_Z_takeVat_0 {L : am_S} {n : Nat} {ls st : List Value} {M : am_M} {Q : am_Q} (h : am_B L mt_Z_takeVat k_Z_takeVat_0 n 0 ls st M Q) : am_R L mt_Z_takeVat n 0 ls st M Q := am_go L mt_Z_takeVat (fun h => by cases h) k_Z_takeVat_0 n 0 ls st M Q o_Z_takeVat_0 h
def k_Z_takeVat_36 : List am_I := [(.iconst 0, 1, 0, 0, 0)]
set_option maxRecDepth 20000 in
theorem o_Z_takeVat_36 : am_okB mt_Z_takeVat 36 k_Z_takeVat_36 = true := by decide +kernel
theorem g_Z_takeVat_36 {L : am_S} {n : Nat} {ls st : List Value} {M : am_M} {Q : am_Q} (h : am_B L mt_Z_takeVat k_Z_takeVat_36 n 36 ls st M Q) : am_R L mt_Z_takeVat n 36 ls st M Q := am_go L mt_Z_takeVat (fun h => by cases h) k_Z_takeVat_36 n 36 ls st M Q o_Z_takeVat_36 h
def k_Z_takeVat_37 : List am_I := [(.invokevirtual 130, 3, 113, 2, 936), (.return_, 1, 0, 0, 0)]
set_option maxRecDepth 20000 in
theorem o_Z_takeVat_37 : am_okB mt_Z_takeVat 37 k_Z_takeVat_37 = true := by decide +kernel
theorem g_Z_takeVat_37 {L : am_S} {n : Nat} {ls st : List Value} {M : am_M} {Q : am_Q} (h : am_B L mt_Z_takeVat k_Z_takeVat_37 n 37 ls st M Q) : am_R L mt_Z_takeVat n 37 ls st M Q := am_go L mt_Z_takeVat (fun h => by cases h) k_Z_takeVat_37 n 37 ls st M Q o_Z_takeVat_37 h
def k_Z_canGoOn_0 : List am_I := [(.iload_n 0, 1, 0, 0, 0), (.ifCond .le 26, 3, 0, 0, 0), (.bipush 10, 2, 0, 0, 0), (.iload_n 0, 1, 0, 0, 0), (.imul, 1, 0, 0, 0), (.iload_n 2, 1, 0, 0, 0), (.if_icmp .gt 18, 3, 0, 0, 0), (.bipush 10, 2, 0, 0, 0), (.iload_n 0, 1, 0, 0, 0), (.imul, 1, 0, 0, 0), (.bipush 9, 2, 0, 0, 0), (.iadd, 1, 0, 0, 0), (.iload_n 1, 1, 0, 0, 0), (.if_icmp .lt 7, 3, 0, 0, 0), (.iconst 1, 1, 0, 0, 0), (.goto 4, 3, 0, 0, 0)]
set_option maxRecDepth 20000 in
theorem o_Z_canGoOn_0 : am_okB mt_Z_canGoOn 0 k_Z_canGoOn_0 = true := by decide +kernel
theorem g_Z_canGoOn_0 {L : am_S} {n : Nat} {ls st : List Value} {M : am_M} {Q : am_Q} (h : am_B L mt_Z_canGoOn k_Z_canGoOn_0 n 0 ls st M Q) : am_R L mt_Z_canGoOn n 0 ls st M Q := am_go L mt_Z_canGoOn (fun h => by cases h) k_Z_canGoOn_0 n 0 ls st M Q o_Z_canGoOn_0 h
def k_Z_canGoOn_27 : List am_I := [(.iconst 0, 1, 0, 0, 0)]
set_option maxRecDepth 20000 in
theorem o_Z_canGoOn_27 : am_okB mt_Z_canGoOn 27 k_Z_canGoOn_27 = true := by decide +kernel
theorem g_Z_canGoOn_27 {L : am_S} {n : Nat} {ls st : List Value} {M : am_M} {Q : am_Q} (h : am_B L mt_Z_canGoOn k_Z_canGoOn_27 n 27 ls st M Q) : am_R L mt_Z_canGoOn n 27 ls st M Q := am_go L mt_Z_canGoOn (fun h => by cases h) k_Z_canGoOn_27 n 27 ls st M Q o_Z_canGoOn_27 h
def k_Z_canGoOn_28 : List am_I := [(.ireturn, 1, 0, 0, 0)]
set_option maxRecDepth 20000 in
theorem o_Z_canGoOn_28 : am_okB mt_Z_canGoOn 28 k_Z_canGoOn_28 = true := by decide +kernel
theorem g_Z_canGoOn_28 {L : am_S} {n : Nat} {ls st : List Value} {M : am_M} {Q : am_Q} (h : am_B L mt_Z_canGoOn k_Z_canGoOn_28 n 28 ls st M Q) : am_R L mt_Z_canGoOn n 28 ls st M Q := am_go L mt_Z_canGoOn (fun h => by cases h) k_Z_canGoOn_28 n 28 ls st M Q o_Z_canGoOn_28 h
def k_Z_takeRate_0 : List am_I := [(.aload_n 0, 1, 0, 0, 0), (.aload_n 0, 1, 0, 0, 0), (.invokevirtual 127, 3, 112, 1, 932), (.bipush 48, 2, 0, 0, 0), (.isub, 1, 0, 0, 0), (.putfield 134, 3, 4, 16, 743), (.aload_n 0, 1, 0, 0, 0), (.aload_n 0, 1, 0, 0, 0), (.getfield 134, 3, 4, 16, 743), (.iconst 1, 1, 0, 0, 0), (.bipush 9, 2, 0, 0, 0), (.invokestatic 43, 3, 75, 3, 791), (.invokevirtual 130, 3, 113, 2, 936)]
set_option maxRecDepth 20000 in
theorem o_Z_takeRate_0 : am_okB mt_Z_takeRate 0 k_Z_takeRate_0 = true := by decide +kernel
theorem g_Z_takeRate_0 {L : am_S} {n : Nat} {ls st : List Value} {M : am_M} {Q : am_Q} (h : am_B L mt_Z_takeRate k_Z_takeRate_0 n 0 ls st M Q) : am_R L mt_Z_takeRate n 0 ls st M Q := am_go L mt_Z_takeRate (fun h => by cases h) k_Z_takeRate_0 n 0 ls st M Q o_Z_takeRate_0 h
def k_Z_takeRate_25 : List am_I := [(.aload_n 0, 1, 0, 0, 0), (.getfield 123, 3, 4, 15, 742), (.ifCond .ne 70, 3, 0, 0, 0), (.aload_n 0, 1, 0, 0, 0), (.invokevirtual 127, 3, 112, 1, 932), (.bipush 48, 2, 0, 0, 0), (.bipush 57, 2, 0, 0, 0), (.invokestatic 43, 3, 75, 3, 791), (.ifCond .eq 56, 3, 0, 0, 0), (.bipush 10, 2, 0, 0, 0), (.aload_n 0, 1, 0, 0, 0), (.getfield 134, 3, 4, 16, 743), (.imul, 1, 0, 0, 0), (.aload_n 0, 1, 0, 0, 0), (.invokevirtual 127, 3, 112, 1, 932), (.iadd, 1, 0, 0, 0), (.bipush 48, 2, 0, 0, 0), (.isub, 1, 0, 0, 0), (.sipush 500, 3, 0, 0, 0), (.if_icmp .gt 35, 3, 0, 0, 0), (.aload_n 0, 1, 0, 0, 0), (.bipush 10, 2, 0, 0, 0), (.aload_n 0, 1, 0, 0, 0), (.getfield 134, 3, 4, 16, 743), (.imul, 1, 0, 0, 0), (.aload_n 0, 1, 0, 0, 0), (.invokevirtual 127, 3, 112, 1, 932), (.iadd, 1, 0, 0, 0), (.bipush 48, 2, 0, 0, 0), (.isub, 1, 0, 0, 0), (.putfield 134, 3, 4, 16, 743), (.aload_n 0, 1, 0, 0, 0), (.dup, 1, 0, 0, 0), (.getfield 120, 3, 4, 14, 741), (.iconst 1, 1, 0, 0, 0), (.iadd, 1, 0, 0, 0), (.putfield 120, 3, 4, 14, 741), (.goto (-71), 3, 0, 0, 0)]
set_option maxRecDepth 20000 in
theorem o_Z_takeRate_25 : am_okB mt_Z_takeRate 25 k_Z_takeRate_25 = true := by decide +kernel
theorem g_Z_takeRate_25 {L : am_S} {n : Nat} {ls st : List Value} {M : am_M} {Q : am_Q} (h : am_B L mt_Z_takeRate k_Z_takeRate_25 n 25 ls st M Q) : am_R L mt_Z_takeRate n 25 ls st M Q := am_go L mt_Z_takeRate (fun h => by cases h) k_Z_takeRate_25 n 25 ls st M Q o_Z_takeRate_25 h
def k_Z_takeRate_99 : List am_I := [(.return_, 1, 0, 0, 0)]
set_option maxRecDepth 20000 in
theorem o_Z_takeRate_99 : am_okB mt_Z_takeRate 99 k_Z_takeRate_99 = true := by decide +kernel
theorem g_Z_takeRate_99 {L : am_S} {n : Nat} {ls st : List Value} {M : am_M} {Q : am_Q} (h : am_B L mt_Z_takeRate k_Z_takeRate_99 n 99 ls st M Q) : am_R L mt_Z_takeRate n 99 ls st M Q := am_go L mt_Z_takeRate (fun h => by cases h) k_Z_takeRate_99 n 99 ls st M Q o_Z_takeRate_99 h
def k_Z_takeHour_0 : List am_I := [(.bipush 23, 2, 0, 0, 0), (.istore_n 2, 1, 0, 0, 0), (.aload_n 0, 1, 0, 0, 0), (.invokevirtual 127, 3, 112, 1, 932), (.bipush 48, 2, 0, 0, 0), (.isub, 1, 0, 0, 0), (.istore_n 3, 1, 0, 0, 0), (.iload_n 3, 1, 0, 0, 0), (.iload_n 1, 1, 0, 0, 0), (.iload_n 2, 1, 0, 0, 0), (.invokestatic 43, 3, 75, 3, 791), (.ifCond .eq 13, 3, 0, 0, 0), (.iload_n 3, 1, 0, 0, 0), (.bipush 10, 2, 0, 0, 0), (.if_icmp .ge 7, 3, 0, 0, 0), (.iconst 1, 1, 0, 0, 0), (.goto 4, 3, 0, 0, 0)]
set_option maxRecDepth 20000 in
theorem o_Z_takeHour_0 : am_okB mt_Z_takeHour 0 k_Z_takeHour_0 = true := by decide +kernel
theorem g_Z_takeHour_0 {L : am_S} {n : Nat} {ls st : List Value} {M : am_M} {Q : am_Q} (h : am_B L mt_Z_takeHour k_Z_takeHour_0 n 0 ls st M Q) : am_R L mt_Z_takeHour n 0 ls st M Q := am_go L mt_Z_takeHour (fun h => by cases h) k_Z_takeHour_0 n 0 ls st M Q o_Z_takeHour_0 h
def k_Z_takeHour_30 : List am_I := [(.iconst 0, 1, 0, 0, 0)]
set_option maxRecDepth 20000 in
theorem o_Z_takeHour_30 : am_okB mt_Z_takeHour 30 k_Z_takeHour_30 = true := by decide +kernel
theorem g_Z_takeHour_30 {L : am_S} {n : Nat} {ls st : List Value} {M : am_M} {Q : am_Q} (h : am_B L mt_Z_takeHour k_Z_takeHour_30 n 30 ls st M Q) : am_R L mt_Z_takeHour n 30 ls st M Q := am_go L mt_Z_takeHour (fun h => by cases h) k_Z_takeHour_30 n 30 ls st M Q o_Z_takeHour_30 h
def k_Z_takeHour_31 : List am_I := [(.istore 4, 2, 0, 0, 0), (.aload_n 0, 1, 0, 0, 0), (.iload_n 3, 1, 0, 0, 0), (.putfield 134, 3, 4, 16, 743), (.aload_n 0, 1, 0, 0, 0), (.iload_n 3, 1, 0, 0, 0), (.iconst 0, 1, 0, 0, 0), (.bipush 9, 2, 0, 0, 0), (.invokestatic 43, 3, 75, 3, 791), (.ifCond .eq 21, 3, 0, 0, 0), (.iload 4, 2, 0, 0, 0), (.ifCond .ne 12, 3, 0, 0, 0), (.iload_n 3, 1, 0, 0, 0), (.iload_n 1, 1, 0, 0, 0), (.iload_n 2, 1, 0, 0, 0), (.invokestatic 137, 3, 116, 3, 952), (.ifCond .eq 7, 3, 0, 0, 0)]
set_option maxRecDepth 20000 in
theorem o_Z_takeHour_31 : am_okB mt_Z_takeHour 31 k_Z_takeHour_31 = true := by decide +kernel
theorem g_Z_takeHour_31 {L : am_S} {n : Nat} {ls st : List Value} {M : am_M} {Q : am_Q} (h : am_B L mt_Z_takeHour k_Z_takeHour_31 n 31 ls st M Q) : am_R L mt_Z_takeHour n 31 ls st M Q := am_go L mt_Z_takeHour (fun h => by cases h) k_Z_takeHour_31 n 31 ls st M Q o_Z_takeHour_31 h
def k_Z_takeHour_63 : List am_I := [(.iconst 1, 1, 0, 0, 0), (.goto 4, 3, 0, 0, 0)]
set_option maxRecDepth 20000 in
theorem o_Z_takeHour_63 : am_okB mt_Z_takeHour 63 k_Z_takeHour_63 = true := by decide +kernel
theorem g_Z_takeHour_63 {L : am_S} {n : Nat} {ls st : List Value} {M : am_M} {Q : am_Q} (h : am_B L mt_Z_takeHour k_Z_takeHour_63 n 63 ls st M Q) : am_R L mt_Z_takeHour n 63 ls st M Q := am_go L mt_Z_takeHour (fun h => by cases h) k_Z_takeHour_63 n 63 ls st M Q o_Z_takeHour_63 h
def k_Z_takeHour_67 : List am_I := [(.iconst 0, 1, 0, 0, 0)]
set_option maxRecDepth 20000 in
theorem o_Z_takeHour_67 : am_okB mt_Z_takeHour 67 k_Z_takeHour_67 = true := by decide +kernel
theorem g_Z_takeHour_67 {L : am_S} {n : Nat} {ls st : List Value} {M : am_M} {Q : am_Q} (h : am_B L mt_Z_takeHour k_Z_takeHour_67 n 67 ls st M Q) : am_R L mt_Z_takeHour n 67 ls st M Q := am_go L mt_Z_takeHour (fun h => by cases h) k_Z_takeHour_67 n 67 ls st M Q o_Z_takeHour_67 h
def k_Z_takeHour_68 : List am_I := [(.invokevirtual 130, 3, 113, 2, 936), (.aload_n 0, 1, 0, 0, 0), (.invokevirtual 127, 3, 112, 1, 932), (.bipush 48, 2, 0, 0, 0), (.isub, 1, 0, 0, 0), (.istore 5, 2, 0, 0, 0), (.aload_n 0, 1, 0, 0, 0), (.getfield 123, 3, 4, 15, 742), (.ifCond .ne 57, 3, 0, 0, 0), (.iload_n 3, 1, 0, 0, 0), (.ifCond .le 53, 3, 0, 0, 0), (.iload 5, 2, 0, 0, 0), (.iconst 0, 1, 0, 0, 0), (.bipush 9, 2, 0, 0, 0), (.invokestatic 43, 3, 75, 3, 791), (.ifCond .eq 42, 3, 0, 0, 0), (.bipush 10, 2, 0, 0, 0), (.iload_n 3, 1, 0, 0, 0), (.imul, 1, 0, 0, 0), (.iload 5, 2, 0, 0, 0), (.iadd, 1, 0, 0, 0), (.iload_n 1, 1, 0, 0, 0), (.iload_n 2, 1, 0, 0, 0), (.invokestatic 43, 3, 75, 3, 791), (.ifCond .eq 27, 3, 0, 0, 0), (.aload_n 0, 1, 0, 0, 0), (.bipush 10, 2, 0, 0, 0), (.iload_n 3, 1, 0, 0, 0), (.imul, 1, 0, 0, 0), (.iload 5, 2, 0, 0, 0), (.iadd, 1, 0, 0, 0), (.putfield 134, 3, 4, 16, 743), (.aload_n 0, 1, 0, 0, 0), (.dup, 1, 0, 0, 0), (.getfield 120, 3, 4, 14, 741), (.iconst 1, 1, 0, 0, 0), (.iadd, 1, 0, 0, 0), (.putfield 120, 3, 4, 14, 741), (.goto 24, 3, 0, 0, 0)]
set_option maxRecDepth 20000 in
theorem o_Z_takeHour_68 : am_okB mt_Z_takeHour 68 k_Z_takeHour_68 = true := by decide +kernel
theorem g_Z_takeHour_68 {L : am_S} {n : Nat} {ls st : List Value} {M : am_M} {Q : am_Q} (h : am_B L mt_Z_takeHour k_Z_takeHour_68 n 68 ls st M Q) : am_R L mt_Z_takeHour n 68 ls st M Q := am_go L mt_Z_takeHour (fun h => by cases h) k_Z_takeHour_68 n 68 ls st M Q o_Z_takeHour_68 h
def k_Z_takeHour_141 : List am_I := [(.aload_n 0, 1, 0, 0, 0), (.aload_n 0, 1, 0, 0, 0), (.getfield 123, 3, 4, 15, 742), (.ifCond .ne 8, 3, 0, 0, 0), (.iload 4, 2, 0, 0, 0), (.ifCond .ne 7, 3, 0, 0, 0)]
set_option maxRecDepth 20000 in
theorem o_Z_takeHour_141 : am_okB mt_Z_takeHour 141 k_Z_takeHour_141 = true := by decide +kernel
theorem g_Z_takeHour_141 {L : am_S} {n : Nat} {ls st : List Value} {M : am_M} {Q : am_Q} (h : am_B L mt_Z_takeHour k_Z_takeHour_141 n 141 ls st M Q) : am_R L mt_Z_takeHour n 141 ls st M Q := am_go L mt_Z_takeHour (fun h => by cases h) k_Z_takeHour_141 n 141 ls st M Q o_Z_takeHour_141 h
def k_Z_takeHour_154 : List am_I := [(.iconst 1, 1, 0, 0, 0), (.goto 4, 3, 0, 0, 0)]
set_option maxRecDepth 20000 in
theorem o_Z_takeHour_154 : am_okB mt_Z_takeHour 154 k_Z_takeHour_154 = true := by decide +kernel
theorem g_Z_takeHour_154 {L : am_S} {n : Nat} {ls st : List Value} {M : am_M} {Q : am_Q} (h : am_B L mt_Z_takeHour k_Z_takeHour_154 n 154 ls st M Q) : am_R L mt_Z_takeHour n 154 ls st M Q := am_go L mt_Z_takeHour (fun h => by cases h) k_Z_takeHour_154 n 154 ls st M Q o_Z_takeHour_154 h
def k_Z_takeHour_158 : List am_I := [(.iconst 0, 1, 0, 0, 0)]
set_option maxRecDepth 20000 in
theorem o_Z_takeHour_158 : am_okB mt_Z_takeHour 158 k_Z_takeHour_158 = true := by decide +kernel
theorem g_Z_takeHour_158 {L : am_S} {n : Nat} {ls st : List Value} {M : am_M} {Q : am_Q} (h : am_B L mt_Z_takeHour k_Z_takeHour_158 n 158 ls st M Q) : am_R L mt_Z_takeHour n 158 ls st M Q := am_go L mt_Z_takeHour (fun h => by cases h) k_Z_takeHour_158 n 158 ls st M Q o_Z_takeHour_158 h
def k_Z_takeHour_159 : List am_I := [(.putfield 123, 3, 4, 15, 742)]
set_option maxRecDepth 20000 in
theorem o_Z_takeHour_159 : am_okB mt_Z_takeHour 159 k_Z_takeHour_159 = true := by decide +kernel
theorem g_Z_takeHour_159 {L : am_S} {n : Nat} {ls st : List Value} {M : am_M} {Q : am_Q} (h : am_B L mt_Z_takeHour k_Z_takeHour_159 n 159 ls st M Q) : am_R L mt_Z_takeHour n 159 ls st M Q := am_go L mt_Z_takeHour (fun h => by cases h) k_Z_takeHour_159 n 159 ls st M Q o_Z_takeHour_159 h
def k_Z_takeHour_162 : List am_I := [(.return_, 1, 0, 0, 0)]
set_option maxRecDepth 20000 in
theorem o_Z_takeHour_162 : am_okB mt_Z_takeHour 162 k_Z_takeHour_162 = true := by decide +kernel
theorem g_Z_takeHour_162 {L : am_S} {n : Nat} {ls st : List Value} {M : am_M} {Q : am_Q} (h : am_B L mt_Z_takeHour k_Z_takeHour_162 n 162 ls st M Q) : am_R L mt_Z_takeHour n 162 ls st M Q := am_go L mt_Z_takeHour (fun h => by cases h) k_Z_takeHour_162 n 162 ls st M Q o_Z_takeHour_162 h
def k_Z_readValve_0 : List am_I := [(.iconst 5, 1, 0, 0, 0), (.aload_n 0, 1, 0, 0, 0), (.getfield 140, 3, 4, 13, 740), (.bipush 7, 2, 0, 0, 0), (.invokestatic 79, 3, 76, 2, 837), (.imul, 1, 0, 0, 0), (.istore_n 1, 1, 0, 0, 0), (.aload_n 0, 1, 0, 0, 0), (.iconst 4, 1, 0, 0, 0), (.iconst (-1), 1, 0, 0, 0), (.invokevirtual 143, 3, 115, 3, 928), (.aload_n 0, 1, 0, 0, 0), (.getfield 32, 3, 4, 12, 739), (.iload_n 1, 1, 0, 0, 0), (.aload_n 0, 1, 0, 0, 0), (.getfield 134, 3, 4, 16, 743), (.iastore, 1, 0, 0, 0), (.aload_n 0, 1, 0, 0, 0), (.bipush 62, 2, 0, 0, 0), (.invokevirtual 146, 3, 114, 2, 940), (.aload_n 0, 1, 0, 0, 0), (.getfield 123, 3, 4, 15, 742), (.ifCond .ne 26, 3, 0, 0, 0), (.aload_n 0, 1, 0, 0, 0), (.iconst 5, 1, 0, 0, 0), (.aload_n 0, 1, 0, 0, 0), (.getfield 32, 3, 4, 12, 739), (.iload_n 1, 1, 0, 0, 0), (.iaload, 1, 0, 0, 0), (.invokevirtual 143, 3, 115, 3, 928), (.aload_n 0, 1, 0, 0, 0), (.getfield 32, 3, 4, 12, 739), (.iload_n 1, 1, 0, 0, 0), (.iconst 1, 1, 0, 0, 0), (.iadd, 1, 0, 0, 0), (.aload_n 0, 1, 0, 0, 0), (.getfield 134, 3, 4, 16, 743), (.iastore, 1, 0, 0, 0)]
set_option maxRecDepth 20000 in
theorem o_Z_readValve_0 : am_okB mt_Z_readValve 0 k_Z_readValve_0 = true := by decide +kernel
theorem g_Z_readValve_0 {L : am_S} {n : Nat} {ls st : List Value} {M : am_M} {Q : am_Q} (h : am_B L mt_Z_readValve k_Z_readValve_0 n 0 ls st M Q) : am_R L mt_Z_readValve n 0 ls st M Q := am_go L mt_Z_readValve (fun h => by cases h) k_Z_readValve_0 n 0 ls st M Q o_Z_readValve_0 h
def k_Z_readValve_64 : List am_I := [(.aload_n 0, 1, 0, 0, 0), (.bipush 42, 2, 0, 0, 0), (.invokevirtual 146, 3, 114, 2, 940), (.aload_n 0, 1, 0, 0, 0), (.getfield 123, 3, 4, 15, 742), (.ifCond .ne 19, 3, 0, 0, 0), (.aload_n 0, 1, 0, 0, 0), (.invokevirtual 149, 3, 117, 1, 944), (.aload_n 0, 1, 0, 0, 0), (.getfield 32, 3, 4, 12, 739), (.iload_n 1, 1, 0, 0, 0), (.iconst 2, 1, 0, 0, 0), (.iadd, 1, 0, 0, 0), (.aload_n 0, 1, 0, 0, 0), (.getfield 134, 3, 4, 16, 743), (.iastore, 1, 0, 0, 0)]
set_option maxRecDepth 20000 in
theorem o_Z_readValve_64 : am_okB mt_Z_readValve 64 k_Z_readValve_64 = true := by decide +kernel
theorem g_Z_readValve_64 {L : am_S} {n : Nat} {ls st : List Value} {M : am_M} {Q : am_Q} (h : am_B L mt_Z_readValve k_Z_readValve_64 n 64 ls st M Q) : am_R L mt_Z_readValve n 64 ls st M Q := am_go L mt_Z_readValve (fun h => by cases h) k_Z_readValve_64 n 64 ls st M Q o_Z_readValve_64 h
def k_Z_readValve_93 : List am_I := [(.aload_n 0, 1, 0, 0, 0), (.bipush 64, 2, 0, 0, 0), (.invokevirtual 146, 3, 114, 2, 940), (.aload_n 0, 1, 0, 0, 0), (.getfield 123, 3, 4, 15, 742), (.ifCond .ne 20, 3, 0, 0, 0), (.aload_n 0, 1, 0, 0, 0), (.iconst 0, 1, 0, 0, 0), (.invokevirtual 152, 3, 118, 2, 948), (.aload_n 0, 1, 0, 0, 0), (.getfield 32, 3, 4, 12, 739), (.iload_n 1, 1, 0, 0, 0), (.iconst 3, 1, 0, 0, 0), (.iadd, 1, 0, 0, 0), (.aload_n 0, 1, 0, 0, 0), (.getfield 134, 3, 4, 16, 743), (.iastore, 1, 0, 0, 0)]
set_option maxRecDepth 20000 in
theorem o_Z_readValve_93 : am_okB mt_Z_readValve 93 k_Z_readValve_93 = true := by decide +kernel
theorem g_Z_readValve_93 {L : am_S} {n : Nat} {ls st : List Value} {M : am_M} {Q : am_Q} (h : am_B L mt_Z_readValve k_Z_readValve_93 n 93 ls st M Q) : am_R L mt_Z_readValve n 93 ls st M Q := am_go L mt_Z_readValve (fun h => by cases h) k_Z_readValve_93 n 93 ls st M Q o_Z_readValve_93 h
def k_Z_readValve_123 : List am_I := [(.aload_n 0, 1, 0, 0, 0), (.bipush 45, 2, 0, 0, 0), (.invokevirtual 146, 3, 114, 2, 940), (.aload_n 0, 1, 0, 0, 0), (.getfield 123, 3, 4, 15, 742), (.ifCond .ne 27, 3, 0, 0, 0), (.aload_n 0, 1, 0, 0, 0), (.aload_n 0, 1, 0, 0, 0), (.getfield 32, 3, 4, 12, 739), (.iload_n 1, 1, 0, 0, 0), (.iconst 3, 1, 0, 0, 0), (.iadd, 1, 0, 0, 0), (.iaload, 1, 0, 0, 0), (.invokevirtual 152, 3, 118, 2, 948), (.aload_n 0, 1, 0, 0, 0), (.getfield 32, 3, 4, 12, 739), (.iload_n 1, 1, 0, 0, 0), (.iconst 4, 1, 0, 0, 0), (.iadd, 1, 0, 0, 0), (.aload_n 0, 1, 0, 0, 0), (.getfield 134, 3, 4, 16, 743), (.iastore, 1, 0, 0, 0)]
set_option maxRecDepth 20000 in
theorem o_Z_readValve_123 : am_okB mt_Z_readValve 123 k_Z_readValve_123 = true := by decide +kernel
theorem g_Z_readValve_123 {L : am_S} {n : Nat} {ls st : List Value} {M : am_M} {Q : am_Q} (h : am_B L mt_Z_readValve k_Z_readValve_123 n 123 ls st M Q) : am_R L mt_Z_readValve n 123 ls st M Q := am_go L mt_Z_readValve (fun h => by cases h) k_Z_readValve_123 n 123 ls st M Q o_Z_readValve_123 h
def k_Z_readValve_160 : List am_I := [(.aload_n 0, 1, 0, 0, 0), (.dup, 1, 0, 0, 0), (.getfield 140, 3, 4, 13, 740), (.iconst 1, 1, 0, 0, 0), (.iadd, 1, 0, 0, 0), (.putfield 140, 3, 4, 13, 740), (.return_, 1, 0, 0, 0)]
set_option maxRecDepth 20000 in
theorem o_Z_readValve_160 : am_okB mt_Z_readValve 160 k_Z_readValve_160 = true := by decide +kernel
theorem g_Z_readValve_160 {L : am_S} {n : Nat} {ls st : List Value} {M : am_M} {Q : am_Q} (h : am_B L mt_Z_readValve k_Z_readValve_160 n 160 ls st M Q) : am_R L mt_Z_readValve n 160 ls st M Q := am_go L mt_Z_readValve (fun h => by cases h) k_Z_readValve_160 n 160 ls st M Q o_Z_readValve_160 h
def k_Z_readPlan_0 : List am_I := [(.aload_n 0, 1, 0, 0, 0), (.iconst 0, 1, 0, 0, 0), (.putfield 120, 3, 4, 14, 741), (.aload_n 0, 1, 0, 0, 0), (.iconst 0, 1, 0, 0, 0), (.putfield 123, 3, 4, 15, 742), (.aload_n 0, 1, 0, 0, 0), (.iconst 0, 1, 0, 0, 0), (.putfield 140, 3, 4, 13, 740), (.iconst 1, 1, 0, 0, 0), (.istore_n 1, 1, 0, 0, 0)]
set_option maxRecDepth 20000 in
theorem o_Z_readPlan_0 : am_okB mt_Z_readPlan 0 k_Z_readPlan_0 = true := by decide +kernel
theorem g_Z_readPlan_0 {L : am_S} {n : Nat} {ls st : List Value} {M : am_M} {Q : am_Q} (h : am_B L mt_Z_readPlan k_Z_readPlan_0 n 0 ls st M Q) : am_R L mt_Z_readPlan n 0 ls st M Q := am_go L mt_Z_readPlan (fun h => by cases h) k_Z_readPlan_0 n 0 ls st M Q o_Z_readPlan_0 h
def k_Z_readPlan_17 : List am_I := [(.iload_n 1, 1, 0, 0, 0), (.ifCond .eq 57, 3, 0, 0, 0), (.aload_n 0, 1, 0, 0, 0), (.invokevirtual 155, 3, 119, 1, 924), (.aload_n 0, 1, 0, 0, 0), (.getfield 123, 3, 4, 15, 742), (.ifCond .ne 18, 3, 0, 0, 0), (.aload_n 0, 1, 0, 0, 0), (.getfield 120, 3, 4, 14, 741), (.aload_n 0, 1, 0, 0, 0), (.getfield 117, 3, 4, 8, 735), (.if_icmp .ge 7, 3, 0, 0, 0), (.iconst 1, 1, 0, 0, 0), (.goto 4, 3, 0, 0, 0)]
set_option maxRecDepth 20000 in
theorem o_Z_readPlan_17 : am_okB mt_Z_readPlan 17 k_Z_readPlan_17 = true := by decide +kernel
theorem g_Z_readPlan_17 {L : am_S} {n : Nat} {ls st : List Value} {M : am_M} {Q : am_Q} (h : am_B L mt_Z_readPlan k_Z_readPlan_17 n 17 ls st M Q) : am_R L mt_Z_readPlan n 17 ls st M Q := am_go L mt_Z_readPlan (fun h => by cases h) k_Z_readPlan_17 n 17 ls st M Q o_Z_readPlan_17 h
def k_Z_readPlan_47 : List am_I := [(.iconst 0, 1, 0, 0, 0)]
set_option maxRecDepth 20000 in
theorem o_Z_readPlan_47 : am_okB mt_Z_readPlan 47 k_Z_readPlan_47 = true := by decide +kernel
theorem g_Z_readPlan_47 {L : am_S} {n : Nat} {ls st : List Value} {M : am_M} {Q : am_Q} (h : am_B L mt_Z_readPlan k_Z_readPlan_47 n 47 ls st M Q) : am_R L mt_Z_readPlan n 47 ls st M Q := am_go L mt_Z_readPlan (fun h => by cases h) k_Z_readPlan_47 n 47 ls st M Q o_Z_readPlan_47 h
def k_Z_readPlan_48 : List am_I := [(.istore_n 1, 1, 0, 0, 0), (.iload_n 1, 1, 0, 0, 0), (.ifCond .eq (-33), 3, 0, 0, 0), (.aload_n 0, 1, 0, 0, 0), (.bipush 59, 2, 0, 0, 0), (.invokevirtual 146, 3, 114, 2, 940), (.aload_n 0, 1, 0, 0, 0), (.getfield 123, 3, 4, 15, 742), (.ifCond .ne 7, 3, 0, 0, 0), (.iconst 1, 1, 0, 0, 0), (.goto 4, 3, 0, 0, 0)]
set_option maxRecDepth 20000 in
theorem o_Z_readPlan_48 : am_okB mt_Z_readPlan 48 k_Z_readPlan_48 = true := by decide +kernel
theorem g_Z_readPlan_48 {L : am_S} {n : Nat} {ls st : List Value} {M : am_M} {Q : am_Q} (h : am_B L mt_Z_readPlan k_Z_readPlan_48 n 48 ls st M Q) : am_R L mt_Z_readPlan n 48 ls st M Q := am_go L mt_Z_readPlan (fun h => by cases h) k_Z_readPlan_48 n 48 ls st M Q o_Z_readPlan_48 h
def k_Z_readPlan_70 : List am_I := [(.iconst 0, 1, 0, 0, 0)]
set_option maxRecDepth 20000 in
theorem o_Z_readPlan_70 : am_okB mt_Z_readPlan 70 k_Z_readPlan_70 = true := by decide +kernel
theorem g_Z_readPlan_70 {L : am_S} {n : Nat} {ls st : List Value} {M : am_M} {Q : am_Q} (h : am_B L mt_Z_readPlan k_Z_readPlan_70 n 70 ls st M Q) : am_R L mt_Z_readPlan n 70 ls st M Q := am_go L mt_Z_readPlan (fun h => by cases h) k_Z_readPlan_70 n 70 ls st M Q o_Z_readPlan_70 h
def k_Z_readPlan_71 : List am_I := [(.istore_n 1, 1, 0, 0, 0), (.goto (-55), 3, 0, 0, 0)]
set_option maxRecDepth 20000 in
theorem o_Z_readPlan_71 : am_okB mt_Z_readPlan 71 k_Z_readPlan_71 = true := by decide +kernel
theorem g_Z_readPlan_71 {L : am_S} {n : Nat} {ls st : List Value} {M : am_M} {Q : am_Q} (h : am_B L mt_Z_readPlan k_Z_readPlan_71 n 71 ls st M Q) : am_R L mt_Z_readPlan n 71 ls st M Q := am_go L mt_Z_readPlan (fun h => by cases h) k_Z_readPlan_71 n 71 ls st M Q o_Z_readPlan_71 h
def k_Z_readPlan_75 : List am_I := [(.aload_n 0, 1, 0, 0, 0), (.getfield 120, 3, 4, 14, 741), (.ireturn, 1, 0, 0, 0)]
set_option maxRecDepth 20000 in
theorem o_Z_readPlan_75 : am_okB mt_Z_readPlan 75 k_Z_readPlan_75 = true := by decide +kernel
theorem g_Z_readPlan_75 {L : am_S} {n : Nat} {ls st : List Value} {M : am_M} {Q : am_Q} (h : am_B L mt_Z_readPlan k_Z_readPlan_75 n 75 ls st M Q) : am_R L mt_Z_readPlan n 75 ls st M Q := am_go L mt_Z_readPlan (fun h => by cases h) k_Z_readPlan_75 n 75 ls st M Q o_Z_readPlan_75 h
def k_Z_firstError_0 : List am_I := [(.aload_n 0, 1, 0, 0, 0), (.iconst 0, 1, 0, 0, 0), (.putfield 39, 3, 4, 0, 727), (.aload_n 0, 1, 0, 0, 0), (.invokevirtual 158, 3, 120, 1, 920), (.ireturn, 1, 0, 0, 0)]
set_option maxRecDepth 20000 in
theorem o_Z_firstError_0 : am_okB mt_Z_firstError 0 k_Z_firstError_0 = true := by decide +kernel
theorem g_Z_firstError_0 {L : am_S} {n : Nat} {ls st : List Value} {M : am_M} {Q : am_Q} (h : am_B L mt_Z_firstError k_Z_firstError_0 n 0 ls st M Q) : am_R L mt_Z_firstError n 0 ls st M Q := am_go L mt_Z_firstError (fun h => by cases h) k_Z_firstError_0 n 0 ls st M Q o_Z_firstError_0 h
def k_Z_load_0 : List am_I := [(.aload_n 0, 1, 0, 0, 0), (.invokevirtual 158, 3, 120, 1, 920), (.pop, 1, 0, 0, 0), (.aload_n 0, 1, 0, 0, 0), (.aload_n 0, 1, 0, 0, 0), (.getfield 123, 3, 4, 15, 742), (.ifCond .eq 7, 3, 0, 0, 0), (.iconst 1, 1, 0, 0, 0), (.goto 17, 3, 0, 0, 0)]
set_option maxRecDepth 20000 in
theorem o_Z_load_0 : am_okB mt_Z_load 0 k_Z_load_0 = true := by decide +kernel
theorem g_Z_load_0 {L : am_S} {n : Nat} {ls st : List Value} {M : am_M} {Q : am_Q} (h : am_B L mt_Z_load k_Z_load_0 n 0 ls st M Q) : am_R L mt_Z_load n 0 ls st M Q := am_go L mt_Z_load (fun h => by cases h) k_Z_load_0 n 0 ls st M Q o_Z_load_0 h
def k_Z_load_17 : List am_I := [(.aload_n 0, 1, 0, 0, 0), (.getfield 140, 3, 4, 13, 740), (.bipush 8, 2, 0, 0, 0), (.if_icmp .le 7, 3, 0, 0, 0), (.iconst 2, 1, 0, 0, 0), (.goto 4, 3, 0, 0, 0)]
set_option maxRecDepth 20000 in
theorem o_Z_load_17 : am_okB mt_Z_load 17 k_Z_load_17 = true := by decide +kernel
theorem g_Z_load_17 {L : am_S} {n : Nat} {ls st : List Value} {M : am_M} {Q : am_Q} (h : am_B L mt_Z_load k_Z_load_17 n 17 ls st M Q) : am_R L mt_Z_load n 17 ls st M Q := am_go L mt_Z_load (fun h => by cases h) k_Z_load_17 n 17 ls st M Q o_Z_load_17 h
def k_Z_load_30 : List am_I := [(.iconst 0, 1, 0, 0, 0)]
set_option maxRecDepth 20000 in
theorem o_Z_load_30 : am_okB mt_Z_load 30 k_Z_load_30 = true := by decide +kernel
theorem g_Z_load_30 {L : am_S} {n : Nat} {ls st : List Value} {M : am_M} {Q : am_Q} (h : am_B L mt_Z_load k_Z_load_30 n 30 ls st M Q) : am_R L mt_Z_load n 30 ls st M Q := am_go L mt_Z_load (fun h => by cases h) k_Z_load_30 n 30 ls st M Q o_Z_load_30 h
def k_Z_load_31 : List am_I := [(.putfield 39, 3, 4, 0, 727), (.aload_n 0, 1, 0, 0, 0), (.getfield 39, 3, 4, 0, 727), (.ifCond .le 5, 3, 0, 0, 0), (.iconst 0, 1, 0, 0, 0), (.ireturn, 1, 0, 0, 0)]
set_option maxRecDepth 20000 in
theorem o_Z_load_31 : am_okB mt_Z_load 31 k_Z_load_31 = true := by decide +kernel
theorem g_Z_load_31 {L : am_S} {n : Nat} {ls st : List Value} {M : am_M} {Q : am_Q} (h : am_B L mt_Z_load k_Z_load_31 n 31 ls st M Q) : am_R L mt_Z_load n 31 ls st M Q := am_go L mt_Z_load (fun h => by cases h) k_Z_load_31 n 31 ls st M Q o_Z_load_31 h
def k_Z_load_43 : List am_I := [(.aload_n 0, 1, 0, 0, 0), (.invokevirtual 61, 3, 87, 1, 802), (.aload_n 0, 1, 0, 0, 0), (.getfield 7, 3, 4, 1, 728), (.iconst 5, 1, 0, 0, 0), (.iconst 0, 1, 0, 0, 0), (.iastore, 1, 0, 0, 0), (.iconst 0, 1, 0, 0, 0), (.istore_n 1, 1, 0, 0, 0)]
set_option maxRecDepth 20000 in
theorem o_Z_load_43 : am_okB mt_Z_load 43 k_Z_load_43 = true := by decide +kernel
theorem g_Z_load_43 {L : am_S} {n : Nat} {ls st : List Value} {M : am_M} {Q : am_Q} (h : am_B L mt_Z_load k_Z_load_43 n 43 ls st M Q) : am_R L mt_Z_load n 43 ls st M Q := am_go L mt_Z_load (fun h => by cases h) k_Z_load_43 n 43 ls st M Q o_Z_load_43 h
def k_Z_load_56 : List am_I := [(.iload_n 1, 1, 0, 0, 0), (.aload_n 0, 1, 0, 0, 0), (.getfield 140, 3, 4, 13, 740), (.if_icmp .ge 61, 3, 0, 0, 0), (.aload_n 0, 1, 0, 0, 0), (.aload_n 0, 1, 0, 0, 0), (.getfield 32, 3, 4, 12, 739), (.iconst 5, 1, 0, 0, 0), (.iload_n 1, 1, 0, 0, 0), (.imul, 1, 0, 0, 0), (.iaload, 1, 0, 0, 0), (.aload_n 0, 1, 0, 0, 0), (.getfield 32, 3, 4, 12, 739), (.iconst 5, 1, 0, 0, 0), (.iload_n 1, 1, 0, 0, 0), (.imul, 1, 0, 0, 0), (.iconst 1, 1, 0, 0, 0), (.iadd, 1, 0, 0, 0), (.iaload, 1, 0, 0, 0), (.aload_n 0, 1, 0, 0, 0), (.getfield 32, 3, 4, 12, 739), (.iconst 5, 1, 0, 0, 0), (.iload_n 1, 1, 0, 0, 0), (.imul, 1, 0, 0, 0), (.iconst 2, 1, 0, 0, 0), (.iadd, 1, 0, 0, 0), (.iaload, 1, 0, 0, 0), (.aload_n 0, 1, 0, 0, 0), (.getfield 32, 3, 4, 12, 739), (.iconst 5, 1, 0, 0, 0), (.iload_n 1, 1, 0, 0, 0), (.imul, 1, 0, 0, 0), (.iconst 3, 1, 0, 0, 0), (.iadd, 1, 0, 0, 0), (.iaload, 1, 0, 0, 0), (.aload_n 0, 1, 0, 0, 0), (.getfield 32, 3, 4, 12, 739), (.iconst 5, 1, 0, 0, 0), (.iload_n 1, 1, 0, 0, 0), (.imul, 1, 0, 0, 0), (.iconst 4, 1, 0, 0, 0), (.iadd, 1, 0, 0, 0), (.iaload, 1, 0, 0, 0), (.invokevirtual 82, 3, 97, 6, 848), (.iinc 1 1, 3, 0, 0, 0), (.goto (-63), 3, 0, 0, 0)]
set_option maxRecDepth 20000 in
theorem o_Z_load_56 : am_okB mt_Z_load 56 k_Z_load_56 = true := by decide +kernel
theorem g_Z_load_56 {L : am_S} {n : Nat} {ls st : List Value} {M : am_M} {Q : am_Q} (h : am_B L mt_Z_load k_Z_load_56 n 56 ls st M Q) : am_R L mt_Z_load n 56 ls st M Q := am_go L mt_Z_load (fun h => by cases h) k_Z_load_56 n 56 ls st M Q o_Z_load_56 h
def k_Z_load_122 : List am_I := [(.aload_n 0, 1, 0, 0, 0), (.iconst 0, 1, 0, 0, 0), (.putfield 117, 3, 4, 8, 735), (.aload_n 0, 1, 0, 0, 0), (.getfield 7, 3, 4, 1, 728), (.iconst 5, 1, 0, 0, 0), (.iaload, 1, 0, 0, 0), (.ireturn, 1, 0, 0, 0)]
set_option maxRecDepth 20000 in
theorem o_Z_load_122 : am_okB mt_Z_load 122 k_Z_load_122 = true := by decide +kernel
theorem g_Z_load_122 {L : am_S} {n : Nat} {ls st : List Value} {M : am_M} {Q : am_Q} (h : am_B L mt_Z_load k_Z_load_122 n 122 ls st M Q) : am_R L mt_Z_load n 122 ls st M Q := am_go L mt_Z_load (fun h => by cases h) k_Z_load_122 n 122 ls st M Q o_Z_load_122 h
def k_Z_vatNow_0 : List am_I := [(.iload_n 2, 1, 0, 0, 0), (.bipush 8, 2, 0, 0, 0), (.if_icmp .ne 13, 3, 0, 0, 0), (.aload_n 0, 1, 0, 0, 0), (.getfield 7, 3, 4, 1, 728), (.bipush 6, 2, 0, 0, 0), (.iload_n 1, 1, 0, 0, 0), (.iadd, 1, 0, 0, 0), (.iaload, 1, 0, 0, 0), (.ireturn, 1, 0, 0, 0)]
set_option maxRecDepth 20000 in
theorem o_Z_vatNow_0 : am_okB mt_Z_vatNow 0 k_Z_vatNow_0 = true := by decide +kernel
theorem g_Z_vatNow_0 {L : am_S} {n : Nat} {ls st : List Value} {M : am_M} {Q : am_Q} (h : am_B L mt_Z_vatNow k_Z_vatNow_0 n 0 ls st M Q) : am_R L mt_Z_vatNow n 0 ls st M Q := am_go L mt_Z_vatNow (fun h => by cases h) k_Z_vatNow_0 n 0 ls st M Q o_Z_vatNow_0 h
def k_Z_vatNow_16 : List am_I := [(.iload_n 2, 1, 0, 0, 0), (.bipush 9, 2, 0, 0, 0), (.if_icmp .ne 11, 3, 0, 0, 0), (.aload_n 0, 1, 0, 0, 0), (.iload_n 1, 1, 0, 0, 0), (.invokevirtual 75, 3, 85, 2, 833), (.goto 9, 3, 0, 0, 0)]
set_option maxRecDepth 20000 in
theorem o_Z_vatNow_16 : am_okB mt_Z_vatNow 16 k_Z_vatNow_16 = true := by decide +kernel
theorem g_Z_vatNow_16 {L : am_S} {n : Nat} {ls st : List Value} {M : am_M} {Q : am_Q} (h : am_B L mt_Z_vatNow k_Z_vatNow_16 n 16 ls st M Q) : am_R L mt_Z_vatNow n 16 ls st M Q := am_go L mt_Z_vatNow (fun h => by cases h) k_Z_vatNow_16 n 16 ls st M Q o_Z_vatNow_16 h
def k_Z_vatNow_30 : List am_I := [(.aload_n 0, 1, 0, 0, 0), (.iload_n 1, 1, 0, 0, 0), (.iload_n 2, 1, 0, 0, 0), (.invokevirtual 47, 3, 77, 3, 813)]
set_option maxRecDepth 20000 in
theorem o_Z_vatNow_30 : am_okB mt_Z_vatNow 30 k_Z_vatNow_30 = true := by decide +kernel
theorem g_Z_vatNow_30 {L : am_S} {n : Nat} {ls st : List Value} {M : am_M} {Q : am_Q} (h : am_B L mt_Z_vatNow k_Z_vatNow_30 n 30 ls st M Q) : am_R L mt_Z_vatNow n 30 ls st M Q := am_go L mt_Z_vatNow (fun h => by cases h) k_Z_vatNow_30 n 30 ls st M Q o_Z_vatNow_30 h
def k_Z_vatNow_36 : List am_I := [(.ireturn, 1, 0, 0, 0)]
set_option maxRecDepth 20000 in
theorem o_Z_vatNow_36 : am_okB mt_Z_vatNow 36 k_Z_vatNow_36 = true := by decide +kernel
theorem g_Z_vatNow_36 {L : am_S} {n : Nat} {ls st : List Value} {M : am_M} {Q : am_Q} (h : am_B L mt_Z_vatNow k_Z_vatNow_36 n 36 ls st M Q) : am_R L mt_Z_vatNow n 36 ls st M Q := am_go L mt_Z_vatNow (fun h => by cases h) k_Z_vatNow_36 n 36 ls st M Q o_Z_vatNow_36 h
def k_Z_vatOf_0 : List am_I := [(.aload_n 0, 1, 0, 0, 0), (.iload_n 1, 1, 0, 0, 0), (.invokestatic 64, 3, 81, 1, 810), (.ifCond .ne 7, 3, 0, 0, 0), (.iconst 1, 1, 0, 0, 0), (.goto 18, 3, 0, 0, 0)]
set_option maxRecDepth 20000 in
theorem o_Z_vatOf_0 : am_okB mt_Z_vatOf 0 k_Z_vatOf_0 = true := by decide +kernel
theorem g_Z_vatOf_0 {L : am_S} {n : Nat} {ls st : List Value} {M : am_M} {Q : am_Q} (h : am_B L mt_Z_vatOf k_Z_vatOf_0 n 0 ls st M Q) : am_R L mt_Z_vatOf n 0 ls st M Q := am_go L mt_Z_vatOf (fun h => by cases h) k_Z_vatOf_0 n 0 ls st M Q o_Z_vatOf_0 h
def k_Z_vatOf_12 : List am_I := [(.iload_n 2, 1, 0, 0, 0), (.iconst 0, 1, 0, 0, 0), (.bipush 9, 2, 0, 0, 0), (.invokestatic 43, 3, 75, 3, 791), (.ifCond .eq 7, 3, 0, 0, 0), (.iconst 0, 1, 0, 0, 0), (.goto 4, 3, 0, 0, 0)]
set_option maxRecDepth 20000 in
theorem o_Z_vatOf_12 : am_okB mt_Z_vatOf 12 k_Z_vatOf_12 = true := by decide +kernel
theorem g_Z_vatOf_12 {L : am_S} {n : Nat} {ls st : List Value} {M : am_M} {Q : am_Q} (h : am_B L mt_Z_vatOf k_Z_vatOf_12 n 12 ls st M Q) : am_R L mt_Z_vatOf n 12 ls st M Q := am_go L mt_Z_vatOf (fun h => by cases h) k_Z_vatOf_12 n 12 ls st M Q o_Z_vatOf_12 h
def k_Z_vatOf_26 : List am_I := [(.iconst 2, 1, 0, 0, 0)]
set_option maxRecDepth 20000 in
theorem o_Z_vatOf_26 : am_okB mt_Z_vatOf 26 k_Z_vatOf_26 = true := by decide +kernel
theorem g_Z_vatOf_26 {L : am_S} {n : Nat} {ls st : List Value} {M : am_M} {Q : am_Q} (h : am_B L mt_Z_vatOf k_Z_vatOf_26 n 26 ls st M Q) : am_R L mt_Z_vatOf n 26 ls st M Q := am_go L mt_Z_vatOf (fun h => by cases h) k_Z_vatOf_26 n 26 ls st M Q o_Z_vatOf_26 h
def k_Z_vatOf_27 : List am_I := [(.putfield 39, 3, 4, 0, 727), (.aload_n 0, 1, 0, 0, 0), (.getfield 39, 3, 4, 0, 727), (.ifCond .le 7, 3, 0, 0, 0), (.iconst 0, 1, 0, 0, 0), (.goto 9, 3, 0, 0, 0)]
set_option maxRecDepth 20000 in
theorem o_Z_vatOf_27 : am_okB mt_Z_vatOf 27 k_Z_vatOf_27 = true := by decide +kernel
theorem g_Z_vatOf_27 {L : am_S} {n : Nat} {ls st : List Value} {M : am_M} {Q : am_Q} (h : am_B L mt_Z_vatOf k_Z_vatOf_27 n 27 ls st M Q) : am_R L mt_Z_vatOf n 27 ls st M Q := am_go L mt_Z_vatOf (fun h => by cases h) k_Z_vatOf_27 n 27 ls st M Q o_Z_vatOf_27 h
def k_Z_vatOf_41 : List am_I := [(.aload_n 0, 1, 0, 0, 0), (.iload_n 1, 1, 0, 0, 0), (.iload_n 2, 1, 0, 0, 0), (.invokevirtual 161, 3, 123, 3, 963)]
set_option maxRecDepth 20000 in
theorem o_Z_vatOf_41 : am_okB mt_Z_vatOf 41 k_Z_vatOf_41 = true := by decide +kernel
theorem g_Z_vatOf_41 {L : am_S} {n : Nat} {ls st : List Value} {M : am_M} {Q : am_Q} (h : am_B L mt_Z_vatOf k_Z_vatOf_41 n 41 ls st M Q) : am_R L mt_Z_vatOf n 41 ls st M Q := am_go L mt_Z_vatOf (fun h => by cases h) k_Z_vatOf_41 n 41 ls st M Q o_Z_vatOf_41 h
def k_Z_vatOf_47 : List am_I := [(.ireturn, 1, 0, 0, 0)]
set_option maxRecDepth 20000 in
theorem o_Z_vatOf_47 : am_okB mt_Z_vatOf 47 k_Z_vatOf_47 = true := by decide +kernel
theorem g_Z_vatOf_47 {L : am_S} {n : Nat} {ls st : List Value} {M : am_M} {Q : am_Q} (h : am_B L mt_Z_vatOf k_Z_vatOf_47 n 47 ls st M Q) : am_R L mt_Z_vatOf n 47 ls st M Q := am_go L mt_Z_vatOf (fun h => by cases h) k_Z_vatOf_47 n 47 ls st M Q o_Z_vatOf_47 h
def k_Z_toldOfValve_0 : List am_I := [(.iload_n 2, 1, 0, 0, 0), (.iconst 5, 1, 0, 0, 0), (.if_icmp .ge 12, 3, 0, 0, 0), (.aload_n 0, 1, 0, 0, 0), (.iload_n 1, 1, 0, 0, 0), (.iload_n 2, 1, 0, 0, 0), (.invokevirtual 55, 3, 80, 3, 892), (.goto 31, 3, 0, 0, 0)]
set_option maxRecDepth 20000 in
theorem o_Z_toldOfValve_0 : am_okB mt_Z_toldOfValve 0 k_Z_toldOfValve_0 = true := by decide +kernel
theorem g_Z_toldOfValve_0 {L : am_S} {n : Nat} {ls st : List Value} {M : am_M} {Q : am_Q} (h : am_B L mt_Z_toldOfValve k_Z_toldOfValve_0 n 0 ls st M Q) : am_R L mt_Z_toldOfValve n 0 ls st M Q := am_go L mt_Z_toldOfValve (fun h => by cases h) k_Z_toldOfValve_0 n 0 ls st M Q o_Z_toldOfValve_0 h
def k_Z_toldOfValve_14 : List am_I := [(.iload_n 2, 1, 0, 0, 0), (.bipush 6, 2, 0, 0, 0), (.if_icmp .ne 12, 3, 0, 0, 0), (.aload_n 0, 1, 0, 0, 0), (.iload_n 1, 1, 0, 0, 0), (.iconst 5, 1, 0, 0, 0), (.invokevirtual 55, 3, 80, 3, 892), (.goto 16, 3, 0, 0, 0)]
set_option maxRecDepth 20000 in
theorem o_Z_toldOfValve_14 : am_okB mt_Z_toldOfValve 14 k_Z_toldOfValve_14 = true := by decide +kernel
theorem g_Z_toldOfValve_14 {L : am_S} {n : Nat} {ls st : List Value} {M : am_M} {Q : am_Q} (h : am_B L mt_Z_toldOfValve k_Z_toldOfValve_14 n 14 ls st M Q) : am_R L mt_Z_toldOfValve n 14 ls st M Q := am_go L mt_Z_toldOfValve (fun h => by cases h) k_Z_toldOfValve_14 n 14 ls st M Q o_Z_toldOfValve_14 h
def k_Z_toldOfValve_29 : List am_I := [(.aload_n 0, 1, 0, 0, 0), (.iload_n 1, 1, 0, 0, 0), (.invokevirtual 101, 3, 86, 2, 888), (.ifCond .eq 7, 3, 0, 0, 0), (.iconst 1, 1, 0, 0, 0), (.goto 4, 3, 0, 0, 0)]
set_option maxRecDepth 20000 in
theorem o_Z_toldOfValve_29 : am_okB mt_Z_toldOfValve 29 k_Z_toldOfValve_29 = true := by decide +kernel
theorem g_Z_toldOfValve_29 {L : am_S} {n : Nat} {ls st : List Value} {M : am_M} {Q : am_Q} (h : am_B L mt_Z_toldOfValve k_Z_toldOfValve_29 n 29 ls st M Q) : am_R L mt_Z_toldOfValve n 29 ls st M Q := am_go L mt_Z_toldOfValve (fun h => by cases h) k_Z_toldOfValve_29 n 29 ls st M Q o_Z_toldOfValve_29 h
def k_Z_toldOfValve_41 : List am_I := [(.iconst 0, 1, 0, 0, 0)]
set_option maxRecDepth 20000 in
theorem o_Z_toldOfValve_41 : am_okB mt_Z_toldOfValve 41 k_Z_toldOfValve_41 = true := by decide +kernel
theorem g_Z_toldOfValve_41 {L : am_S} {n : Nat} {ls st : List Value} {M : am_M} {Q : am_Q} (h : am_B L mt_Z_toldOfValve k_Z_toldOfValve_41 n 41 ls st M Q) : am_R L mt_Z_toldOfValve n 41 ls st M Q := am_go L mt_Z_toldOfValve (fun h => by cases h) k_Z_toldOfValve_41 n 41 ls st M Q o_Z_toldOfValve_41 h
def k_Z_toldOfValve_42 : List am_I := [(.ireturn, 1, 0, 0, 0)]
set_option maxRecDepth 20000 in
theorem o_Z_toldOfValve_42 : am_okB mt_Z_toldOfValve 42 k_Z_toldOfValve_42 = true := by decide +kernel
theorem g_Z_toldOfValve_42 {L : am_S} {n : Nat} {ls st : List Value} {M : am_M} {Q : am_Q} (h : am_B L mt_Z_toldOfValve k_Z_toldOfValve_42 n 42 ls st M Q) : am_R L mt_Z_toldOfValve n 42 ls st M Q := am_go L mt_Z_toldOfValve (fun h => by cases h) k_Z_toldOfValve_42 n 42 ls st M Q o_Z_toldOfValve_42 h
def k_Z_valveOf_0 : List am_I := [(.aload_n 0, 1, 0, 0, 0), (.aload_n 0, 1, 0, 0, 0), (.iload_n 1, 1, 0, 0, 0), (.invokevirtual 86, 3, 83, 2, 856), (.ifCond .ne 7, 3, 0, 0, 0), (.iconst 1, 1, 0, 0, 0), (.goto 18, 3, 0, 0, 0)]
set_option maxRecDepth 20000 in
theorem o_Z_valveOf_0 : am_okB mt_Z_valveOf 0 k_Z_valveOf_0 = true := by decide +kernel
theorem g_Z_valveOf_0 {L : am_S} {n : Nat} {ls st : List Value} {M : am_M} {Q : am_Q} (h : am_B L mt_Z_valveOf k_Z_valveOf_0 n 0 ls st M Q) : am_R L mt_Z_valveOf n 0 ls st M Q := am_go L mt_Z_valveOf (fun h => by cases h) k_Z_valveOf_0 n 0 ls st M Q o_Z_valveOf_0 h
def k_Z_valveOf_13 : List am_I := [(.iload_n 2, 1, 0, 0, 0), (.iconst 0, 1, 0, 0, 0), (.bipush 6, 2, 0, 0, 0), (.invokestatic 43, 3, 75, 3, 791), (.ifCond .eq 7, 3, 0, 0, 0), (.iconst 0, 1, 0, 0, 0), (.goto 4, 3, 0, 0, 0)]
set_option maxRecDepth 20000 in
theorem o_Z_valveOf_13 : am_okB mt_Z_valveOf 13 k_Z_valveOf_13 = true := by decide +kernel
theorem g_Z_valveOf_13 {L : am_S} {n : Nat} {ls st : List Value} {M : am_M} {Q : am_Q} (h : am_B L mt_Z_valveOf k_Z_valveOf_13 n 13 ls st M Q) : am_R L mt_Z_valveOf n 13 ls st M Q := am_go L mt_Z_valveOf (fun h => by cases h) k_Z_valveOf_13 n 13 ls st M Q o_Z_valveOf_13 h
def k_Z_valveOf_27 : List am_I := [(.iconst 2, 1, 0, 0, 0)]
set_option maxRecDepth 20000 in
theorem o_Z_valveOf_27 : am_okB mt_Z_valveOf 27 k_Z_valveOf_27 = true := by decide +kernel
theorem g_Z_valveOf_27 {L : am_S} {n : Nat} {ls st : List Value} {M : am_M} {Q : am_Q} (h : am_B L mt_Z_valveOf k_Z_valveOf_27 n 27 ls st M Q) : am_R L mt_Z_valveOf n 27 ls st M Q := am_go L mt_Z_valveOf (fun h => by cases h) k_Z_valveOf_27 n 27 ls st M Q o_Z_valveOf_27 h
def k_Z_valveOf_28 : List am_I := [(.putfield 39, 3, 4, 0, 727), (.aload_n 0, 1, 0, 0, 0), (.getfield 39, 3, 4, 0, 727), (.ifCond .le 7, 3, 0, 0, 0), (.iconst 0, 1, 0, 0, 0), (.goto 9, 3, 0, 0, 0)]
set_option maxRecDepth 20000 in
theorem o_Z_valveOf_28 : am_okB mt_Z_valveOf 28 k_Z_valveOf_28 = true := by decide +kernel
theorem g_Z_valveOf_28 {L : am_S} {n : Nat} {ls st : List Value} {M : am_M} {Q : am_Q} (h : am_B L mt_Z_valveOf k_Z_valveOf_28 n 28 ls st M Q) : am_R L mt_Z_valveOf n 28 ls st M Q := am_go L mt_Z_valveOf (fun h => by cases h) k_Z_valveOf_28 n 28 ls st M Q o_Z_valveOf_28 h
def k_Z_valveOf_42 : List am_I := [(.aload_n 0, 1, 0, 0, 0), (.iload_n 1, 1, 0, 0, 0), (.iload_n 2, 1, 0, 0, 0), (.invokevirtual 164, 3, 125, 3, 971)]
set_option maxRecDepth 20000 in
theorem o_Z_valveOf_42 : am_okB mt_Z_valveOf 42 k_Z_valveOf_42 = true := by decide +kernel
theorem g_Z_valveOf_42 {L : am_S} {n : Nat} {ls st : List Value} {M : am_M} {Q : am_Q} (h : am_B L mt_Z_valveOf k_Z_valveOf_42 n 42 ls st M Q) : am_R L mt_Z_valveOf n 42 ls st M Q := am_go L mt_Z_valveOf (fun h => by cases h) k_Z_valveOf_42 n 42 ls st M Q o_Z_valveOf_42 h
def k_Z_valveOf_48 : List am_I := [(.ireturn, 1, 0, 0, 0)]
set_option maxRecDepth 20000 in
theorem o_Z_valveOf_48 : am_okB mt_Z_valveOf 48 k_Z_valveOf_48 = true := by decide +kernel
theorem g_Z_valveOf_48 {L : am_S} {n : Nat} {ls st : List Value} {M : am_M} {Q : am_Q} (h : am_B L mt_Z_valveOf k_Z_valveOf_48 n 48 ls st M Q) : am_R L mt_Z_valveOf n 48 ls st M Q := am_go L mt_Z_valveOf (fun h => by cases h) k_Z_valveOf_48 n 48 ls st M Q o_Z_valveOf_48 h
def k_Z_inVats_0 : List am_I := [(.iconst 0, 1, 0, 0, 0), (.istore_n 2, 1, 0, 0, 0), (.iconst 0, 1, 0, 0, 0), (.istore_n 3, 1, 0, 0, 0)]
set_option maxRecDepth 20000 in
theorem o_Z_inVats_0 : am_okB mt_Z_inVats 0 k_Z_inVats_0 = true := by decide +kernel
theorem g_Z_inVats_0 {L : am_S} {n : Nat} {ls st : List Value} {M : am_M} {Q : am_Q} (h : am_B L mt_Z_inVats k_Z_inVats_0 n 0 ls st M Q) : am_R L mt_Z_inVats n 0 ls st M Q := am_go L mt_Z_inVats (fun h => by cases h) k_Z_inVats_0 n 0 ls st M Q o_Z_inVats_0 h
def k_Z_inVats_4 : List am_I := [(.iload_n 3, 1, 0, 0, 0), (.iconst 5, 1, 0, 0, 0), (.if_icmp .ge 18, 3, 0, 0, 0), (.iload_n 2, 1, 0, 0, 0), (.aload_n 0, 1, 0, 0, 0), (.iload_n 3, 1, 0, 0, 0), (.iload_n 1, 1, 0, 0, 0), (.invokevirtual 47, 3, 77, 3, 813), (.iadd, 1, 0, 0, 0), (.istore_n 2, 1, 0, 0, 0), (.iinc 3 1, 3, 0, 0, 0), (.goto (-17), 3, 0, 0, 0)]
set_option maxRecDepth 20000 in
theorem o_Z_inVats_4 : am_okB mt_Z_inVats 4 k_Z_inVats_4 = true := by decide +kernel
theorem g_Z_inVats_4 {L : am_S} {n : Nat} {ls st : List Value} {M : am_M} {Q : am_Q} (h : am_B L mt_Z_inVats k_Z_inVats_4 n 4 ls st M Q) : am_R L mt_Z_inVats n 4 ls st M Q := am_go L mt_Z_inVats (fun h => by cases h) k_Z_inVats_4 n 4 ls st M Q o_Z_inVats_4 h
def k_Z_inVats_24 : List am_I := [(.iload_n 2, 1, 0, 0, 0), (.ireturn, 1, 0, 0, 0)]
set_option maxRecDepth 20000 in
theorem o_Z_inVats_24 : am_okB mt_Z_inVats 24 k_Z_inVats_24 = true := by decide +kernel
theorem g_Z_inVats_24 {L : am_S} {n : Nat} {ls st : List Value} {M : am_M} {Q : am_Q} (h : am_B L mt_Z_inVats k_Z_inVats_24 n 24 ls st M Q) : am_R L mt_Z_inVats n 24 ls st M Q := am_go L mt_Z_inVats (fun h => by cases h) k_Z_inVats_24 n 24 ls st M Q o_Z_inVats_24 h
def k_Z_strongest_0 : List am_I := [(.iconst (-1), 1, 0, 0, 0), (.istore_n 2, 1, 0, 0, 0), (.iconst 0, 1, 0, 0, 0), (.istore_n 3, 1, 0, 0, 0)]
set_option maxRecDepth 20000 in
theorem o_Z_strongest_0 : am_okB mt_Z_strongest 0 k_Z_strongest_0 = true := by decide +kernel
theorem g_Z_strongest_0 {L : am_S} {n : Nat} {ls st : List Value} {M : am_M} {Q : am_Q} (h : am_B L mt_Z_strongest k_Z_strongest_0 n 0 ls st M Q) : am_R L mt_Z_strongest n 0 ls st M Q := am_go L mt_Z_strongest (fun h => by cases h) k_Z_strongest_0 n 0 ls st M Q o_Z_strongest_0 h
def k_Z_strongest_4 : List am_I := [(.iload_n 3, 1, 0, 0, 0), (.iconst 5, 1, 0, 0, 0), (.if_icmp .ge 85, 3, 0, 0, 0), (.aload_n 0, 1, 0, 0, 0), (.iload_n 3, 1, 0, 0, 0), (.iconst 1, 1, 0, 0, 0), (.invokevirtual 47, 3, 77, 3, 813), (.ifCond .le 7, 3, 0, 0, 0), (.iconst 1, 1, 0, 0, 0), (.goto 4, 3, 0, 0, 0)]
set_option maxRecDepth 20000 in
theorem o_Z_strongest_4 : am_okB mt_Z_strongest 4 k_Z_strongest_4 = true := by decide +kernel
theorem g_Z_strongest_4 {L : am_S} {n : Nat} {ls st : List Value} {M : am_M} {Q : am_Q} (h : am_B L mt_Z_strongest k_Z_strongest_4 n 4 ls st M Q) : am_R L mt_Z_strongest n 4 ls st M Q := am_go L mt_Z_strongest (fun h => by cases h) k_Z_strongest_4 n 4 ls st M Q o_Z_strongest_4 h
def k_Z_strongest_22 : List am_I := [(.iconst 0, 1, 0, 0, 0)]
set_option maxRecDepth 20000 in
theorem o_Z_strongest_22 : am_okB mt_Z_strongest 22 k_Z_strongest_22 = true := by decide +kernel
theorem g_Z_strongest_22 {L : am_S} {n : Nat} {ls st : List Value} {M : am_M} {Q : am_Q} (h : am_B L mt_Z_strongest k_Z_strongest_22 n 22 ls st M Q) : am_R L mt_Z_strongest n 22 ls st M Q := am_go L mt_Z_strongest (fun h => by cases h) k_Z_strongest_22 n 22 ls st M Q o_Z_strongest_22 h
def k_Z_strongest_23 : List am_I := [(.istore 4, 2, 0, 0, 0), (.iload 4, 2, 0, 0, 0), (.ifCond .eq 44, 3, 0, 0, 0), (.iload_n 2, 1, 0, 0, 0), (.ifCond .lt 36, 3, 0, 0, 0), (.aload_n 0, 1, 0, 0, 0), (.iload_n 3, 1, 0, 0, 0), (.iconst 2, 1, 0, 0, 0), (.iload_n 1, 1, 0, 0, 0), (.iadd, 1, 0, 0, 0), (.invokevirtual 47, 3, 77, 3, 813), (.aload_n 0, 1, 0, 0, 0), (.iload_n 2, 1, 0, 0, 0), (.iconst 1, 1, 0, 0, 0), (.invokevirtual 47, 3, 77, 3, 813), (.imul, 1, 0, 0, 0), (.aload_n 0, 1, 0, 0, 0), (.iload_n 2, 1, 0, 0, 0), (.iconst 2, 1, 0, 0, 0), (.iload_n 1, 1, 0, 0, 0), (.iadd, 1, 0, 0, 0), (.invokevirtual 47, 3, 77, 3, 813), (.aload_n 0, 1, 0, 0, 0), (.iload_n 3, 1, 0, 0, 0), (.iconst 1, 1, 0, 0, 0), (.invokevirtual 47, 3, 77, 3, 813), (.imul, 1, 0, 0, 0), (.if_icmp .le 7, 3, 0, 0, 0)]
set_option maxRecDepth 20000 in
theorem o_Z_strongest_23 : am_okB mt_Z_strongest 23 k_Z_strongest_23 = true := by decide +kernel
theorem g_Z_strongest_23 {L : am_S} {n : Nat} {ls st : List Value} {M : am_M} {Q : am_Q} (h : am_B L mt_Z_strongest k_Z_strongest_23 n 23 ls st M Q) : am_R L mt_Z_strongest n 23 ls st M Q := am_go L mt_Z_strongest (fun h => by cases h) k_Z_strongest_23 n 23 ls st M Q o_Z_strongest_23 h
def k_Z_strongest_67 : List am_I := [(.iconst 1, 1, 0, 0, 0), (.goto 4, 3, 0, 0, 0)]
set_option maxRecDepth 20000 in
theorem o_Z_strongest_67 : am_okB mt_Z_strongest 67 k_Z_strongest_67 = true := by decide +kernel
theorem g_Z_strongest_67 {L : am_S} {n : Nat} {ls st : List Value} {M : am_M} {Q : am_Q} (h : am_B L mt_Z_strongest k_Z_strongest_67 n 67 ls st M Q) : am_R L mt_Z_strongest n 67 ls st M Q := am_go L mt_Z_strongest (fun h => by cases h) k_Z_strongest_67 n 67 ls st M Q o_Z_strongest_67 h
def k_Z_strongest_71 : List am_I := [(.iconst 0, 1, 0, 0, 0)]
set_option maxRecDepth 20000 in
theorem o_Z_strongest_71 : am_okB mt_Z_strongest 71 k_Z_strongest_71 = true := by decide +kernel
theorem g_Z_strongest_71 {L : am_S} {n : Nat} {ls st : List Value} {M : am_M} {Q : am_Q} (h : am_B L mt_Z_strongest k_Z_strongest_71 n 71 ls st M Q) : am_R L mt_Z_strongest n 71 ls st M Q := am_go L mt_Z_strongest (fun h => by cases h) k_Z_strongest_71 n 71 ls st M Q o_Z_strongest_71 h
def k_Z_strongest_72 : List am_I := [(.istore 5, 2, 0, 0, 0), (.iload 5, 2, 0, 0, 0), (.ifCond .eq 7, 3, 0, 0, 0), (.iload_n 3, 1, 0, 0, 0), (.goto 4, 3, 0, 0, 0)]
set_option maxRecDepth 20000 in
theorem o_Z_strongest_72 : am_okB mt_Z_strongest 72 k_Z_strongest_72 = true := by decide +kernel
theorem g_Z_strongest_72 {L : am_S} {n : Nat} {ls st : List Value} {M : am_M} {Q : am_Q} (h : am_B L mt_Z_strongest k_Z_strongest_72 n 72 ls st M Q) : am_R L mt_Z_strongest n 72 ls st M Q := am_go L mt_Z_strongest (fun h => by cases h) k_Z_strongest_72 n 72 ls st M Q o_Z_strongest_72 h
def k_Z_strongest_83 : List am_I := [(.iload_n 2, 1, 0, 0, 0)]
set_option maxRecDepth 20000 in
theorem o_Z_strongest_83 : am_okB mt_Z_strongest 83 k_Z_strongest_83 = true := by decide +kernel
theorem g_Z_strongest_83 {L : am_S} {n : Nat} {ls st : List Value} {M : am_M} {Q : am_Q} (h : am_B L mt_Z_strongest k_Z_strongest_83 n 83 ls st M Q) : am_R L mt_Z_strongest n 83 ls st M Q := am_go L mt_Z_strongest (fun h => by cases h) k_Z_strongest_83 n 83 ls st M Q o_Z_strongest_83 h
def k_Z_strongest_84 : List am_I := [(.istore_n 2, 1, 0, 0, 0), (.iinc 3 1, 3, 0, 0, 0), (.goto (-84), 3, 0, 0, 0)]
set_option maxRecDepth 20000 in
theorem o_Z_strongest_84 : am_okB mt_Z_strongest 84 k_Z_strongest_84 = true := by decide +kernel
theorem g_Z_strongest_84 {L : am_S} {n : Nat} {ls st : List Value} {M : am_M} {Q : am_Q} (h : am_B L mt_Z_strongest k_Z_strongest_84 n 84 ls st M Q) : am_R L mt_Z_strongest n 84 ls st M Q := am_go L mt_Z_strongest (fun h => by cases h) k_Z_strongest_84 n 84 ls st M Q o_Z_strongest_84 h
def k_Z_strongest_91 : List am_I := [(.iload_n 2, 1, 0, 0, 0), (.ireturn, 1, 0, 0, 0)]
set_option maxRecDepth 20000 in
theorem o_Z_strongest_91 : am_okB mt_Z_strongest 91 k_Z_strongest_91 = true := by decide +kernel
theorem g_Z_strongest_91 {L : am_S} {n : Nat} {ls st : List Value} {M : am_M} {Q : am_Q} (h : am_B L mt_Z_strongest k_Z_strongest_91 n 91 ls st M Q) : am_R L mt_Z_strongest n 91 ls st M Q := am_go L mt_Z_strongest (fun h => by cases h) k_Z_strongest_91 n 91 ls st M Q o_Z_strongest_91 h
def k_Z_dyeNow_0 : List am_I := [(.iload_n 2, 1, 0, 0, 0), (.tableswitch 67 0 3 #[31, 41, 49, 57], 31, 0, 0, 0)]
set_option maxRecDepth 20000 in
theorem o_Z_dyeNow_0 : am_okB mt_Z_dyeNow 0 k_Z_dyeNow_0 = true := by decide +kernel
theorem g_Z_dyeNow_0 {L : am_S} {n : Nat} {ls st : List Value} {M : am_M} {Q : am_Q} (h : am_B L mt_Z_dyeNow k_Z_dyeNow_0 n 0 ls st M Q) : am_R L mt_Z_dyeNow n 0 ls st M Q := am_go L mt_Z_dyeNow (fun h => by cases h) k_Z_dyeNow_0 n 0 ls st M Q o_Z_dyeNow_0 h
def k_Z_dyeNow_32 : List am_I := [(.aload_n 0, 1, 0, 0, 0), (.getfield 7, 3, 4, 1, 728), (.bipush 11, 2, 0, 0, 0), (.iload_n 1, 1, 0, 0, 0), (.iadd, 1, 0, 0, 0), (.iaload, 1, 0, 0, 0), (.ireturn, 1, 0, 0, 0)]
set_option maxRecDepth 20000 in
theorem o_Z_dyeNow_32 : am_okB mt_Z_dyeNow 32 k_Z_dyeNow_32 = true := by decide +kernel
theorem g_Z_dyeNow_32 {L : am_S} {n : Nat} {ls st : List Value} {M : am_M} {Q : am_Q} (h : am_B L mt_Z_dyeNow k_Z_dyeNow_32 n 32 ls st M Q) : am_R L mt_Z_dyeNow n 32 ls st M Q := am_go L mt_Z_dyeNow (fun h => by cases h) k_Z_dyeNow_32 n 32 ls st M Q o_Z_dyeNow_32 h
def k_Z_dyeNow_42 : List am_I := [(.aload_n 0, 1, 0, 0, 0), (.iconst 2, 1, 0, 0, 0), (.iload_n 1, 1, 0, 0, 0), (.iadd, 1, 0, 0, 0), (.invokevirtual 167, 3, 127, 2, 983), (.ireturn, 1, 0, 0, 0)]
set_option maxRecDepth 20000 in
theorem o_Z_dyeNow_42 : am_okB mt_Z_dyeNow 42 k_Z_dyeNow_42 = true := by decide +kernel
theorem g_Z_dyeNow_42 {L : am_S} {n : Nat} {ls st : List Value} {M : am_M} {Q : am_Q} (h : am_B L mt_Z_dyeNow k_Z_dyeNow_42 n 42 ls st M Q) : am_R L mt_Z_dyeNow n 42 ls st M Q := am_go L mt_Z_dyeNow (fun h => by cases h) k_Z_dyeNow_42 n 42 ls st M Q o_Z_dyeNow_42 h
def k_Z_dyeNow_50 : List am_I := [(.aload_n 0, 1, 0, 0, 0), (.iconst 5, 1, 0, 0, 0), (.iload_n 1, 1, 0, 0, 0), (.iadd, 1, 0, 0, 0), (.invokevirtual 167, 3, 127, 2, 983), (.ireturn, 1, 0, 0, 0)]
set_option maxRecDepth 20000 in
theorem o_Z_dyeNow_50 : am_okB mt_Z_dyeNow 50 k_Z_dyeNow_50 = true := by decide +kernel
theorem g_Z_dyeNow_50 {L : am_S} {n : Nat} {ls st : List Value} {M : am_M} {Q : am_Q} (h : am_B L mt_Z_dyeNow k_Z_dyeNow_50 n 50 ls st M Q) : am_R L mt_Z_dyeNow n 50 ls st M Q := am_go L mt_Z_dyeNow (fun h => by cases h) k_Z_dyeNow_50 n 50 ls st M Q o_Z_dyeNow_50 h
def k_Z_dyeNow_58 : List am_I := [(.aload_n 0, 1, 0, 0, 0), (.getfield 7, 3, 4, 1, 728), (.bipush 14, 2, 0, 0, 0), (.iload_n 1, 1, 0, 0, 0), (.iadd, 1, 0, 0, 0), (.iaload, 1, 0, 0, 0), (.ireturn, 1, 0, 0, 0)]
set_option maxRecDepth 20000 in
theorem o_Z_dyeNow_58 : am_okB mt_Z_dyeNow 58 k_Z_dyeNow_58 = true := by decide +kernel
theorem g_Z_dyeNow_58 {L : am_S} {n : Nat} {ls st : List Value} {M : am_M} {Q : am_Q} (h : am_B L mt_Z_dyeNow k_Z_dyeNow_58 n 58 ls st M Q) : am_R L mt_Z_dyeNow n 58 ls st M Q := am_go L mt_Z_dyeNow (fun h => by cases h) k_Z_dyeNow_58 n 58 ls st M Q o_Z_dyeNow_58 h
def k_Z_dyeNow_68 : List am_I := [(.aload_n 0, 1, 0, 0, 0), (.iload_n 1, 1, 0, 0, 0), (.invokevirtual 170, 3, 128, 2, 987), (.ireturn, 1, 0, 0, 0)]
set_option maxRecDepth 20000 in
theorem o_Z_dyeNow_68 : am_okB mt_Z_dyeNow 68 k_Z_dyeNow_68 = true := by decide +kernel
theorem g_Z_dyeNow_68 {L : am_S} {n : Nat} {ls st : List Value} {M : am_M} {Q : am_Q} (h : am_B L mt_Z_dyeNow k_Z_dyeNow_68 n 68 ls st M Q) : am_R L mt_Z_dyeNow n 68 ls st M Q := am_go L mt_Z_dyeNow (fun h => by cases h) k_Z_dyeNow_68 n 68 ls st M Q o_Z_dyeNow_68 h
def k_Z_dyeOf_0 : List am_I := [(.aload_n 0, 1, 0, 0, 0), (.iload_n 1, 1, 0, 0, 0), (.invokestatic 71, 3, 82, 1, 825), (.ifCond .ne 7, 3, 0, 0, 0), (.iconst 1, 1, 0, 0, 0), (.goto 17, 3, 0, 0, 0)]
set_option maxRecDepth 20000 in
theorem o_Z_dyeOf_0 : am_okB mt_Z_dyeOf 0 k_Z_dyeOf_0 = true := by decide +kernel
theorem g_Z_dyeOf_0 {L : am_S} {n : Nat} {ls st : List Value} {M : am_M} {Q : am_Q} (h : am_B L mt_Z_dyeOf k_Z_dyeOf_0 n 0 ls st M Q) : am_R L mt_Z_dyeOf n 0 ls st M Q := am_go L mt_Z_dyeOf (fun h => by cases h) k_Z_dyeOf_0 n 0 ls st M Q o_Z_dyeOf_0 h
def k_Z_dyeOf_12 : List am_I := [(.iload_n 2, 1, 0, 0, 0), (.iconst 0, 1, 0, 0, 0), (.iconst 4, 1, 0, 0, 0), (.invokestatic 43, 3, 75, 3, 791), (.ifCond .eq 7, 3, 0, 0, 0), (.iconst 0, 1, 0, 0, 0), (.goto 4, 3, 0, 0, 0)]
set_option maxRecDepth 20000 in
theorem o_Z_dyeOf_12 : am_okB mt_Z_dyeOf 12 k_Z_dyeOf_12 = true := by decide +kernel
theorem g_Z_dyeOf_12 {L : am_S} {n : Nat} {ls st : List Value} {M : am_M} {Q : am_Q} (h : am_B L mt_Z_dyeOf k_Z_dyeOf_12 n 12 ls st M Q) : am_R L mt_Z_dyeOf n 12 ls st M Q := am_go L mt_Z_dyeOf (fun h => by cases h) k_Z_dyeOf_12 n 12 ls st M Q o_Z_dyeOf_12 h
def k_Z_dyeOf_25 : List am_I := [(.iconst 2, 1, 0, 0, 0)]
set_option maxRecDepth 20000 in
theorem o_Z_dyeOf_25 : am_okB mt_Z_dyeOf 25 k_Z_dyeOf_25 = true := by decide +kernel
theorem g_Z_dyeOf_25 {L : am_S} {n : Nat} {ls st : List Value} {M : am_M} {Q : am_Q} (h : am_B L mt_Z_dyeOf k_Z_dyeOf_25 n 25 ls st M Q) : am_R L mt_Z_dyeOf n 25 ls st M Q := am_go L mt_Z_dyeOf (fun h => by cases h) k_Z_dyeOf_25 n 25 ls st M Q o_Z_dyeOf_25 h
def k_Z_dyeOf_26 : List am_I := [(.putfield 39, 3, 4, 0, 727), (.aload_n 0, 1, 0, 0, 0), (.getfield 39, 3, 4, 0, 727), (.ifCond .le 7, 3, 0, 0, 0), (.iconst 0, 1, 0, 0, 0), (.goto 9, 3, 0, 0, 0)]
set_option maxRecDepth 20000 in
theorem o_Z_dyeOf_26 : am_okB mt_Z_dyeOf 26 k_Z_dyeOf_26 = true := by decide +kernel
theorem g_Z_dyeOf_26 {L : am_S} {n : Nat} {ls st : List Value} {M : am_M} {Q : am_Q} (h : am_B L mt_Z_dyeOf k_Z_dyeOf_26 n 26 ls st M Q) : am_R L mt_Z_dyeOf n 26 ls st M Q := am_go L mt_Z_dyeOf (fun h => by cases h) k_Z_dyeOf_26 n 26 ls st M Q o_Z_dyeOf_26 h
def k_Z_dyeOf_40 : List am_I := [(.aload_n 0, 1, 0, 0, 0), (.iload_n 1, 1, 0, 0, 0), (.iload_n 2, 1, 0, 0, 0), (.invokevirtual 173, 3, 129, 3, 979)]
set_option maxRecDepth 20000 in
theorem o_Z_dyeOf_40 : am_okB mt_Z_dyeOf 40 k_Z_dyeOf_40 = true := by decide +kernel
theorem g_Z_dyeOf_40 {L : am_S} {n : Nat} {ls st : List Value} {M : am_M} {Q : am_Q} (h : am_B L mt_Z_dyeOf k_Z_dyeOf_40 n 40 ls st M Q) : am_R L mt_Z_dyeOf n 40 ls st M Q := am_go L mt_Z_dyeOf (fun h => by cases h) k_Z_dyeOf_40 n 40 ls st M Q o_Z_dyeOf_40 h
def k_Z_dyeOf_46 : List am_I := [(.ireturn, 1, 0, 0, 0)]
set_option maxRecDepth 20000 in
theorem o_Z_dyeOf_46 : am_okB mt_Z_dyeOf 46 k_Z_dyeOf_46 = true := by decide +kernel
theorem g_Z_dyeOf_46 {L : am_S} {n : Nat} {ls st : List Value} {M : am_M} {Q : am_Q} (h : am_B L mt_Z_dyeOf k_Z_dyeOf_46 n 46 ls st M Q) : am_R L mt_Z_dyeOf n 46 ls st M Q := am_go L mt_Z_dyeOf (fun h => by cases h) k_Z_dyeOf_46 n 46 ls st M Q o_Z_dyeOf_46 h
def k_Z_pipes_0 : List am_I := [(.iconst 0, 1, 0, 0, 0), (.istore_n 1, 1, 0, 0, 0), (.iconst 0, 1, 0, 0, 0), (.istore_n 2, 1, 0, 0, 0)]
set_option maxRecDepth 20000 in
theorem o_Z_pipes_0 : am_okB mt_Z_pipes 0 k_Z_pipes_0 = true := by decide +kernel
theorem g_Z_pipes_0 {L : am_S} {n : Nat} {ls st : List Value} {M : am_M} {Q : am_Q} (h : am_B L mt_Z_pipes k_Z_pipes_0 n 0 ls st M Q) : am_R L mt_Z_pipes n 0 ls st M Q := am_go L mt_Z_pipes (fun h => by cases h) k_Z_pipes_0 n 0 ls st M Q o_Z_pipes_0 h
def k_Z_pipes_4 : List am_I := [(.iload_n 2, 1, 0, 0, 0), (.iconst 5, 1, 0, 0, 0), (.if_icmp .ge 41, 3, 0, 0, 0), (.iload_n 2, 1, 0, 0, 0), (.iconst 1, 1, 0, 0, 0), (.iadd, 1, 0, 0, 0), (.istore_n 3, 1, 0, 0, 0)]
set_option maxRecDepth 20000 in
theorem o_Z_pipes_4 : am_okB mt_Z_pipes 4 k_Z_pipes_4 = true := by decide +kernel
theorem g_Z_pipes_4 {L : am_S} {n : Nat} {ls st : List Value} {M : am_M} {Q : am_Q} (h : am_B L mt_Z_pipes k_Z_pipes_4 n 4 ls st M Q) : am_R L mt_Z_pipes n 4 ls st M Q := am_go L mt_Z_pipes (fun h => by cases h) k_Z_pipes_4 n 4 ls st M Q o_Z_pipes_4 h
def k_Z_pipes_13 : List am_I := [(.iload_n 3, 1, 0, 0, 0), (.iconst 5, 1, 0, 0, 0), (.if_icmp .ge 26, 3, 0, 0, 0), (.iload_n 1, 1, 0, 0, 0), (.aload_n 0, 1, 0, 0, 0), (.iload_n 2, 1, 0, 0, 0), (.iload_n 3, 1, 0, 0, 0), (.invokevirtual 93, 3, 101, 3, 868), (.ifCond .eq 7, 3, 0, 0, 0), (.iconst 1, 1, 0, 0, 0), (.goto 4, 3, 0, 0, 0)]
set_option maxRecDepth 20000 in
theorem o_Z_pipes_13 : am_okB mt_Z_pipes 13 k_Z_pipes_13 = true := by decide +kernel
theorem g_Z_pipes_13 {L : am_S} {n : Nat} {ls st : List Value} {M : am_M} {Q : am_Q} (h : am_B L mt_Z_pipes k_Z_pipes_13 n 13 ls st M Q) : am_R L mt_Z_pipes n 13 ls st M Q := am_go L mt_Z_pipes (fun h => by cases h) k_Z_pipes_13 n 13 ls st M Q o_Z_pipes_13 h
def k_Z_pipes_32 : List am_I := [(.iconst 0, 1, 0, 0, 0)]
set_option maxRecDepth 20000 in
theorem o_Z_pipes_32 : am_okB mt_Z_pipes 32 k_Z_pipes_32 = true := by decide +kernel
theorem g_Z_pipes_32 {L : am_S} {n : Nat} {ls st : List Value} {M : am_M} {Q : am_Q} (h : am_B L mt_Z_pipes k_Z_pipes_32 n 32 ls st M Q) : am_R L mt_Z_pipes n 32 ls st M Q := am_go L mt_Z_pipes (fun h => by cases h) k_Z_pipes_32 n 32 ls st M Q o_Z_pipes_32 h
def k_Z_pipes_33 : List am_I := [(.iadd, 1, 0, 0, 0), (.istore_n 1, 1, 0, 0, 0), (.iinc 3 1, 3, 0, 0, 0), (.goto (-25), 3, 0, 0, 0)]
set_option maxRecDepth 20000 in
theorem o_Z_pipes_33 : am_okB mt_Z_pipes 33 k_Z_pipes_33 = true := by decide +kernel
theorem g_Z_pipes_33 {L : am_S} {n : Nat} {ls st : List Value} {M : am_M} {Q : am_Q} (h : am_B L mt_Z_pipes k_Z_pipes_33 n 33 ls st M Q) : am_R L mt_Z_pipes n 33 ls st M Q := am_go L mt_Z_pipes (fun h => by cases h) k_Z_pipes_33 n 33 ls st M Q o_Z_pipes_33 h
def k_Z_pipes_41 : List am_I := [(.iinc 2 1, 3, 0, 0, 0), (.goto (-40), 3, 0, 0, 0)]
set_option maxRecDepth 20000 in
theorem o_Z_pipes_41 : am_okB mt_Z_pipes 41 k_Z_pipes_41 = true := by decide +kernel
theorem g_Z_pipes_41 {L : am_S} {n : Nat} {ls st : List Value} {M : am_M} {Q : am_Q} (h : am_B L mt_Z_pipes k_Z_pipes_41 n 41 ls st M Q) : am_R L mt_Z_pipes n 41 ls st M Q := am_go L mt_Z_pipes (fun h => by cases h) k_Z_pipes_41 n 41 ls st M Q o_Z_pipes_41 h
def k_Z_pipes_47 : List am_I := [(.iload_n 1, 1, 0, 0, 0), (.ireturn, 1, 0, 0, 0)]
set_option maxRecDepth 20000 in
theorem o_Z_pipes_47 : am_okB mt_Z_pipes 47 k_Z_pipes_47 = true := by decide +kernel
theorem g_Z_pipes_47 {L : am_S} {n : Nat} {ls st : List Value} {M : am_M} {Q : am_Q} (h : am_B L mt_Z_pipes k_Z_pipes_47 n 47 ls st M Q) : am_R L mt_Z_pipes n 47 ls st M Q := am_go L mt_Z_pipes (fun h => by cases h) k_Z_pipes_47 n 47 ls st M Q o_Z_pipes_47 h
def k_Z_countNow_0 : List am_I := [(.iload_n 1, 1, 0, 0, 0), (.tableswitch 109 0 8 #[51, 56, 63, 70, 75, 81, 88, 95, 102], 51, 0, 0, 0)]
set_option maxRecDepth 20000 in
theorem o_Z_countNow_0 : am_okB mt_Z_countNow 0 k_Z_countNow_0 = true := by decide +kernel
theorem g_Z_countNow_0 {L : am_S} {n : Nat} {ls st : List Value} {M : am_M} {Q : am_Q} (h : am_B L mt_Z_countNow k_Z_countNow_0 n 0 ls st M Q) : am_R L mt_Z_countNow n 0 ls st M Q := am_go L mt_Z_countNow (fun h => by cases h) k_Z_countNow_0 n 0 ls st M Q o_Z_countNow_0 h
def k_Z_countNow_52 : List am_I := [(.aload_n 0, 1, 0, 0, 0), (.invokevirtual 51, 3, 84, 1, 794), (.ireturn, 1, 0, 0, 0)]
set_option maxRecDepth 20000 in
theorem o_Z_countNow_52 : am_okB mt_Z_countNow 52 k_Z_countNow_52 = true := by decide +kernel
theorem g_Z_countNow_52 {L : am_S} {n : Nat} {ls st : List Value} {M : am_M} {Q : am_Q} (h : am_B L mt_Z_countNow k_Z_countNow_52 n 52 ls st M Q) : am_R L mt_Z_countNow n 52 ls st M Q := am_go L mt_Z_countNow (fun h => by cases h) k_Z_countNow_52 n 52 ls st M Q o_Z_countNow_52 h
def k_Z_countNow_57 : List am_I := [(.aload_n 0, 1, 0, 0, 0), (.getfield 7, 3, 4, 1, 728), (.iconst 0, 1, 0, 0, 0), (.iaload, 1, 0, 0, 0), (.ireturn, 1, 0, 0, 0)]
set_option maxRecDepth 20000 in
theorem o_Z_countNow_57 : am_okB mt_Z_countNow 57 k_Z_countNow_57 = true := by decide +kernel
theorem g_Z_countNow_57 {L : am_S} {n : Nat} {ls st : List Value} {M : am_M} {Q : am_Q} (h : am_B L mt_Z_countNow k_Z_countNow_57 n 57 ls st M Q) : am_R L mt_Z_countNow n 57 ls st M Q := am_go L mt_Z_countNow (fun h => by cases h) k_Z_countNow_57 n 57 ls st M Q o_Z_countNow_57 h
def k_Z_countNow_64 : List am_I := [(.aload_n 0, 1, 0, 0, 0), (.getfield 7, 3, 4, 1, 728), (.iconst 5, 1, 0, 0, 0), (.iaload, 1, 0, 0, 0), (.ireturn, 1, 0, 0, 0)]
set_option maxRecDepth 20000 in
theorem o_Z_countNow_64 : am_okB mt_Z_countNow 64 k_Z_countNow_64 = true := by decide +kernel
theorem g_Z_countNow_64 {L : am_S} {n : Nat} {ls st : List Value} {M : am_M} {Q : am_Q} (h : am_B L mt_Z_countNow k_Z_countNow_64 n 64 ls st M Q) : am_R L mt_Z_countNow n 64 ls st M Q := am_go L mt_Z_countNow (fun h => by cases h) k_Z_countNow_64 n 64 ls st M Q o_Z_countNow_64 h
def k_Z_countNow_71 : List am_I := [(.aload_n 0, 1, 0, 0, 0), (.invokevirtual 176, 3, 131, 1, 999), (.ireturn, 1, 0, 0, 0)]
set_option maxRecDepth 20000 in
theorem o_Z_countNow_71 : am_okB mt_Z_countNow 71 k_Z_countNow_71 = true := by decide +kernel
theorem g_Z_countNow_71 {L : am_S} {n : Nat} {ls st : List Value} {M : am_M} {Q : am_Q} (h : am_B L mt_Z_countNow k_Z_countNow_71 n 71 ls st M Q) : am_R L mt_Z_countNow n 71 ls st M Q := am_go L mt_Z_countNow (fun h => by cases h) k_Z_countNow_71 n 71 ls st M Q o_Z_countNow_71 h
def k_Z_countNow_76 : List am_I := [(.aload_n 0, 1, 0, 0, 0), (.iconst 1, 1, 0, 0, 0), (.invokevirtual 167, 3, 127, 2, 983), (.ireturn, 1, 0, 0, 0)]
set_option maxRecDepth 20000 in
theorem o_Z_countNow_76 : am_okB mt_Z_countNow 76 k_Z_countNow_76 = true := by decide +kernel
theorem g_Z_countNow_76 {L : am_S} {n : Nat} {ls st : List Value} {M : am_M} {Q : am_Q} (h : am_B L mt_Z_countNow k_Z_countNow_76 n 76 ls st M Q) : am_R L mt_Z_countNow n 76 ls st M Q := am_go L mt_Z_countNow (fun h => by cases h) k_Z_countNow_76 n 76 ls st M Q o_Z_countNow_76 h
def k_Z_countNow_82 : List am_I := [(.aload_n 0, 1, 0, 0, 0), (.getfield 7, 3, 4, 1, 728), (.iconst 2, 1, 0, 0, 0), (.iaload, 1, 0, 0, 0), (.ireturn, 1, 0, 0, 0)]
set_option maxRecDepth 20000 in
theorem o_Z_countNow_82 : am_okB mt_Z_countNow 82 k_Z_countNow_82 = true := by decide +kernel
theorem g_Z_countNow_82 {L : am_S} {n : Nat} {ls st : List Value} {M : am_M} {Q : am_Q} (h : am_B L mt_Z_countNow k_Z_countNow_82 n 82 ls st M Q) : am_R L mt_Z_countNow n 82 ls st M Q := am_go L mt_Z_countNow (fun h => by cases h) k_Z_countNow_82 n 82 ls st M Q o_Z_countNow_82 h
def k_Z_countNow_89 : List am_I := [(.aload_n 0, 1, 0, 0, 0), (.getfield 7, 3, 4, 1, 728), (.iconst 3, 1, 0, 0, 0), (.iaload, 1, 0, 0, 0), (.ireturn, 1, 0, 0, 0)]
set_option maxRecDepth 20000 in
theorem o_Z_countNow_89 : am_okB mt_Z_countNow 89 k_Z_countNow_89 = true := by decide +kernel
theorem g_Z_countNow_89 {L : am_S} {n : Nat} {ls st : List Value} {M : am_M} {Q : am_Q} (h : am_B L mt_Z_countNow k_Z_countNow_89 n 89 ls st M Q) : am_R L mt_Z_countNow n 89 ls st M Q := am_go L mt_Z_countNow (fun h => by cases h) k_Z_countNow_89 n 89 ls st M Q o_Z_countNow_89 h
def k_Z_countNow_96 : List am_I := [(.aload_n 0, 1, 0, 0, 0), (.getfield 7, 3, 4, 1, 728), (.iconst 4, 1, 0, 0, 0), (.iaload, 1, 0, 0, 0), (.ireturn, 1, 0, 0, 0)]
set_option maxRecDepth 20000 in
theorem o_Z_countNow_96 : am_okB mt_Z_countNow 96 k_Z_countNow_96 = true := by decide +kernel
theorem g_Z_countNow_96 {L : am_S} {n : Nat} {ls st : List Value} {M : am_M} {Q : am_Q} (h : am_B L mt_Z_countNow k_Z_countNow_96 n 96 ls st M Q) : am_R L mt_Z_countNow n 96 ls st M Q := am_go L mt_Z_countNow (fun h => by cases h) k_Z_countNow_96 n 96 ls st M Q o_Z_countNow_96 h
def k_Z_countNow_103 : List am_I := [(.aload_n 0, 1, 0, 0, 0), (.getfield 7, 3, 4, 1, 728), (.iconst 1, 1, 0, 0, 0), (.iaload, 1, 0, 0, 0), (.ireturn, 1, 0, 0, 0)]
set_option maxRecDepth 20000 in
theorem o_Z_countNow_103 : am_okB mt_Z_countNow 103 k_Z_countNow_103 = true := by decide +kernel
theorem g_Z_countNow_103 {L : am_S} {n : Nat} {ls st : List Value} {M : am_M} {Q : am_Q} (h : am_B L mt_Z_countNow k_Z_countNow_103 n 103 ls st M Q) : am_R L mt_Z_countNow n 103 ls st M Q := am_go L mt_Z_countNow (fun h => by cases h) k_Z_countNow_103 n 103 ls st M Q o_Z_countNow_103 h
def k_Z_countNow_110 : List am_I := [(.aload_n 0, 1, 0, 0, 0), (.getfield 58, 3, 4, 4, 731), (.ireturn, 1, 0, 0, 0)]
set_option maxRecDepth 20000 in
theorem o_Z_countNow_110 : am_okB mt_Z_countNow 110 k_Z_countNow_110 = true := by decide +kernel
theorem g_Z_countNow_110 {L : am_S} {n : Nat} {ls st : List Value} {M : am_M} {Q : am_Q} (h : am_B L mt_Z_countNow k_Z_countNow_110 n 110 ls st M Q) : am_R L mt_Z_countNow n 110 ls st M Q := am_go L mt_Z_countNow (fun h => by cases h) k_Z_countNow_110 n 110 ls st M Q o_Z_countNow_110 h
def k_Z_count_0 : List am_I := [(.aload_n 0, 1, 0, 0, 0), (.iload_n 1, 1, 0, 0, 0), (.iconst 0, 1, 0, 0, 0), (.bipush 9, 2, 0, 0, 0), (.invokestatic 43, 3, 75, 3, 791), (.ifCond .eq 7, 3, 0, 0, 0), (.iconst 0, 1, 0, 0, 0), (.goto 4, 3, 0, 0, 0)]
set_option maxRecDepth 20000 in
theorem o_Z_count_0 : am_okB mt_Z_count 0 k_Z_count_0 = true := by decide +kernel
theorem g_Z_count_0 {L : am_S} {n : Nat} {ls st : List Value} {M : am_M} {Q : am_Q} (h : am_B L mt_Z_count k_Z_count_0 n 0 ls st M Q) : am_R L mt_Z_count n 0 ls st M Q := am_go L mt_Z_count (fun h => by cases h) k_Z_count_0 n 0 ls st M Q o_Z_count_0 h
def k_Z_count_15 : List am_I := [(.iconst 1, 1, 0, 0, 0)]
set_option maxRecDepth 20000 in
theorem o_Z_count_15 : am_okB mt_Z_count 15 k_Z_count_15 = true := by decide +kernel
theorem g_Z_count_15 {L : am_S} {n : Nat} {ls st : List Value} {M : am_M} {Q : am_Q} (h : am_B L mt_Z_count k_Z_count_15 n 15 ls st M Q) : am_R L mt_Z_count n 15 ls st M Q := am_go L mt_Z_count (fun h => by cases h) k_Z_count_15 n 15 ls st M Q o_Z_count_15 h
def k_Z_count_16 : List am_I := [(.putfield 39, 3, 4, 0, 727), (.aload_n 0, 1, 0, 0, 0), (.getfield 39, 3, 4, 0, 727), (.ifCond .le 7, 3, 0, 0, 0), (.iconst 0, 1, 0, 0, 0), (.goto 8, 3, 0, 0, 0)]
set_option maxRecDepth 20000 in
theorem o_Z_count_16 : am_okB mt_Z_count 16 k_Z_count_16 = true := by decide +kernel
theorem g_Z_count_16 {L : am_S} {n : Nat} {ls st : List Value} {M : am_M} {Q : am_Q} (h : am_B L mt_Z_count k_Z_count_16 n 16 ls st M Q) : am_R L mt_Z_count n 16 ls st M Q := am_go L mt_Z_count (fun h => by cases h) k_Z_count_16 n 16 ls st M Q o_Z_count_16 h
def k_Z_count_30 : List am_I := [(.aload_n 0, 1, 0, 0, 0), (.iload_n 1, 1, 0, 0, 0), (.invokevirtual 179, 3, 132, 2, 995)]
set_option maxRecDepth 20000 in
theorem o_Z_count_30 : am_okB mt_Z_count 30 k_Z_count_30 = true := by decide +kernel
theorem g_Z_count_30 {L : am_S} {n : Nat} {ls st : List Value} {M : am_M} {Q : am_Q} (h : am_B L mt_Z_count k_Z_count_30 n 30 ls st M Q) : am_R L mt_Z_count n 30 ls st M Q := am_go L mt_Z_count (fun h => by cases h) k_Z_count_30 n 30 ls st M Q o_Z_count_30 h
def k_Z_count_35 : List am_I := [(.ireturn, 1, 0, 0, 0)]
set_option maxRecDepth 20000 in
theorem o_Z_count_35 : am_okB mt_Z_count 35 k_Z_count_35 = true := by decide +kernel
theorem g_Z_count_35 {L : am_S} {n : Nat} {ls st : List Value} {M : am_M} {Q : am_Q} (h : am_B L mt_Z_count k_Z_count_35 n 35 ls st M Q) : am_R L mt_Z_count n 35 ls st M Q := am_go L mt_Z_count (fun h => by cases h) k_Z_count_35 n 35 ls st M Q o_Z_count_35 h
def k_Z_leftBehind_0 : List am_I := [(.aload_n 0, 1, 0, 0, 0), (.invokevirtual 182, 3, 91, 1, 1011), (.aload_n 0, 1, 0, 0, 0), (.iload_n 1, 1, 0, 0, 0), (.invokevirtual 114, 3, 108, 2, 880), (.aload_n 0, 1, 0, 0, 0), (.iload_n 2, 1, 0, 0, 0), (.iload_n 3, 1, 0, 0, 0), (.invokevirtual 47, 3, 77, 3, 813), (.istore 4, 2, 0, 0, 0), (.aload_n 0, 1, 0, 0, 0), (.invokevirtual 185, 3, 92, 1, 1015), (.iload 4, 2, 0, 0, 0), (.ireturn, 1, 0, 0, 0)]
set_option maxRecDepth 20000 in
theorem o_Z_leftBehind_0 : am_okB mt_Z_leftBehind 0 k_Z_leftBehind_0 = true := by decide +kernel
theorem g_Z_leftBehind_0 {L : am_S} {n : Nat} {ls st : List Value} {M : am_M} {Q : am_Q} (h : am_B L mt_Z_leftBehind k_Z_leftBehind_0 n 0 ls st M Q) : am_R L mt_Z_leftBehind n 0 ls st M Q := am_go L mt_Z_leftBehind (fun h => by cases h) k_Z_leftBehind_0 n 0 ls st M Q o_Z_leftBehind_0 h
def k_Z_ifPassed_0 : List am_I := [(.aload_n 0, 1, 0, 0, 0), (.iload_n 2, 1, 0, 0, 0), (.invokestatic 64, 3, 81, 1, 810), (.ifCond .ne 7, 3, 0, 0, 0), (.iconst 1, 1, 0, 0, 0), (.goto 29, 3, 0, 0, 0)]
set_option maxRecDepth 20000 in
theorem o_Z_ifPassed_0 : am_okB mt_Z_ifPassed 0 k_Z_ifPassed_0 = true := by decide +kernel
theorem g_Z_ifPassed_0 {L : am_S} {n : Nat} {ls st : List Value} {M : am_M} {Q : am_Q} (h : am_B L mt_Z_ifPassed k_Z_ifPassed_0 n 0 ls st M Q) : am_R L mt_Z_ifPassed n 0 ls st M Q := am_go L mt_Z_ifPassed (fun h => by cases h) k_Z_ifPassed_0 n 0 ls st M Q o_Z_ifPassed_0 h
def k_Z_ifPassed_12 : List am_I := [(.iload_n 1, 1, 0, 0, 0), (.iconst 1, 1, 0, 0, 0), (.sipush 240, 3, 0, 0, 0), (.invokestatic 43, 3, 75, 3, 791), (.ifCond .eq 17, 3, 0, 0, 0), (.iload_n 3, 1, 0, 0, 0), (.iconst 1, 1, 0, 0, 0), (.bipush 7, 2, 0, 0, 0), (.invokestatic 43, 3, 75, 3, 791), (.ifCond .eq 7, 3, 0, 0, 0), (.iconst 0, 1, 0, 0, 0), (.goto 4, 3, 0, 0, 0)]
set_option maxRecDepth 20000 in
theorem o_Z_ifPassed_12 : am_okB mt_Z_ifPassed 12 k_Z_ifPassed_12 = true := by decide +kernel
theorem g_Z_ifPassed_12 {L : am_S} {n : Nat} {ls st : List Value} {M : am_M} {Q : am_Q} (h : am_B L mt_Z_ifPassed k_Z_ifPassed_12 n 12 ls st M Q) : am_R L mt_Z_ifPassed n 12 ls st M Q := am_go L mt_Z_ifPassed (fun h => by cases h) k_Z_ifPassed_12 n 12 ls st M Q o_Z_ifPassed_12 h
def k_Z_ifPassed_37 : List am_I := [(.iconst 2, 1, 0, 0, 0)]
set_option maxRecDepth 20000 in
theorem o_Z_ifPassed_37 : am_okB mt_Z_ifPassed 37 k_Z_ifPassed_37 = true := by decide +kernel
theorem g_Z_ifPassed_37 {L : am_S} {n : Nat} {ls st : List Value} {M : am_M} {Q : am_Q} (h : am_B L mt_Z_ifPassed k_Z_ifPassed_37 n 37 ls st M Q) : am_R L mt_Z_ifPassed n 37 ls st M Q := am_go L mt_Z_ifPassed (fun h => by cases h) k_Z_ifPassed_37 n 37 ls st M Q o_Z_ifPassed_37 h
def k_Z_ifPassed_38 : List am_I := [(.putfield 39, 3, 4, 0, 727), (.aload_n 0, 1, 0, 0, 0), (.getfield 39, 3, 4, 0, 727), (.ifCond .le 7, 3, 0, 0, 0), (.iconst 0, 1, 0, 0, 0), (.goto 10, 3, 0, 0, 0)]
set_option maxRecDepth 20000 in
theorem o_Z_ifPassed_38 : am_okB mt_Z_ifPassed 38 k_Z_ifPassed_38 = true := by decide +kernel
theorem g_Z_ifPassed_38 {L : am_S} {n : Nat} {ls st : List Value} {M : am_M} {Q : am_Q} (h : am_B L mt_Z_ifPassed k_Z_ifPassed_38 n 38 ls st M Q) : am_R L mt_Z_ifPassed n 38 ls st M Q := am_go L mt_Z_ifPassed (fun h => by cases h) k_Z_ifPassed_38 n 38 ls st M Q o_Z_ifPassed_38 h
def k_Z_ifPassed_52 : List am_I := [(.aload_n 0, 1, 0, 0, 0), (.iload_n 1, 1, 0, 0, 0), (.iload_n 2, 1, 0, 0, 0), (.iload_n 3, 1, 0, 0, 0), (.invokevirtual 188, 3, 134, 4, 1007)]
set_option maxRecDepth 20000 in
theorem o_Z_ifPassed_52 : am_okB mt_Z_ifPassed 52 k_Z_ifPassed_52 = true := by decide +kernel
theorem g_Z_ifPassed_52 {L : am_S} {n : Nat} {ls st : List Value} {M : am_M} {Q : am_Q} (h : am_B L mt_Z_ifPassed k_Z_ifPassed_52 n 52 ls st M Q) : am_R L mt_Z_ifPassed n 52 ls st M Q := am_go L mt_Z_ifPassed (fun h => by cases h) k_Z_ifPassed_52 n 52 ls st M Q o_Z_ifPassed_52 h
def k_Z_ifPassed_59 : List am_I := [(.ireturn, 1, 0, 0, 0)]
set_option maxRecDepth 20000 in
theorem o_Z_ifPassed_59 : am_okB mt_Z_ifPassed 59 k_Z_ifPassed_59 = true := by decide +kernel
theorem g_Z_ifPassed_59 {L : am_S} {n : Nat} {ls st : List Value} {M : am_M} {Q : am_Q} (h : am_B L mt_Z_ifPassed k_Z_ifPassed_59 n 59 ls st M Q) : am_R L mt_Z_ifPassed n 59 ls st M Q := am_go L mt_Z_ifPassed (fun h => by cases h) k_Z_ifPassed_59 n 59 ls st M Q o_Z_ifPassed_59 h
def k_Z_hoursToEmpty_0 : List am_I := [(.aload_n 0, 1, 0, 0, 0), (.invokevirtual 182, 3, 91, 1, 1011), (.iconst 0, 1, 0, 0, 0), (.istore_n 2, 1, 0, 0, 0)]
set_option maxRecDepth 20000 in
theorem o_Z_hoursToEmpty_0 : am_okB mt_Z_hoursToEmpty 0 k_Z_hoursToEmpty_0 = true := by decide +kernel
theorem g_Z_hoursToEmpty_0 {L : am_S} {n : Nat} {ls st : List Value} {M : am_M} {Q : am_Q} (h : am_B L mt_Z_hoursToEmpty k_Z_hoursToEmpty_0 n 0 ls st M Q) : am_R L mt_Z_hoursToEmpty n 0 ls st M Q := am_go L mt_Z_hoursToEmpty (fun h => by cases h) k_Z_hoursToEmpty_0 n 0 ls st M Q o_Z_hoursToEmpty_0 h
def k_Z_hoursToEmpty_6 : List am_I := [(.aload_n 0, 1, 0, 0, 0), (.iload_n 1, 1, 0, 0, 0), (.iconst 1, 1, 0, 0, 0), (.invokevirtual 47, 3, 77, 3, 813), (.ifCond .le 20, 3, 0, 0, 0), (.iload_n 2, 1, 0, 0, 0), (.sipush 240, 3, 0, 0, 0), (.if_icmp .gt 13, 3, 0, 0, 0), (.aload_n 0, 1, 0, 0, 0), (.invokevirtual 111, 3, 107, 1, 884), (.iinc 2 1, 3, 0, 0, 0), (.goto (-23), 3, 0, 0, 0)]
set_option maxRecDepth 20000 in
theorem o_Z_hoursToEmpty_6 : am_okB mt_Z_hoursToEmpty 6 k_Z_hoursToEmpty_6 = true := by decide +kernel
theorem g_Z_hoursToEmpty_6 {L : am_S} {n : Nat} {ls st : List Value} {M : am_M} {Q : am_Q} (h : am_B L mt_Z_hoursToEmpty k_Z_hoursToEmpty_6 n 6 ls st M Q) : am_R L mt_Z_hoursToEmpty n 6 ls st M Q := am_go L mt_Z_hoursToEmpty (fun h => by cases h) k_Z_hoursToEmpty_6 n 6 ls st M Q o_Z_hoursToEmpty_6 h
def k_Z_hoursToEmpty_32 : List am_I := [(.aload_n 0, 1, 0, 0, 0), (.invokevirtual 185, 3, 92, 1, 1015), (.iload_n 2, 1, 0, 0, 0), (.sipush 240, 3, 0, 0, 0), (.if_icmp .gt 7, 3, 0, 0, 0), (.iload_n 2, 1, 0, 0, 0), (.goto 4, 3, 0, 0, 0)]
set_option maxRecDepth 20000 in
theorem o_Z_hoursToEmpty_32 : am_okB mt_Z_hoursToEmpty 32 k_Z_hoursToEmpty_32 = true := by decide +kernel
theorem g_Z_hoursToEmpty_32 {L : am_S} {n : Nat} {ls st : List Value} {M : am_M} {Q : am_Q} (h : am_B L mt_Z_hoursToEmpty k_Z_hoursToEmpty_32 n 32 ls st M Q) : am_R L mt_Z_hoursToEmpty n 32 ls st M Q := am_go L mt_Z_hoursToEmpty (fun h => by cases h) k_Z_hoursToEmpty_32 n 32 ls st M Q o_Z_hoursToEmpty_32 h
def k_Z_hoursToEmpty_47 : List am_I := [(.iconst (-1), 1, 0, 0, 0)]
set_option maxRecDepth 20000 in
theorem o_Z_hoursToEmpty_47 : am_okB mt_Z_hoursToEmpty 47 k_Z_hoursToEmpty_47 = true := by decide +kernel
theorem g_Z_hoursToEmpty_47 {L : am_S} {n : Nat} {ls st : List Value} {M : am_M} {Q : am_Q} (h : am_B L mt_Z_hoursToEmpty k_Z_hoursToEmpty_47 n 47 ls st M Q) : am_R L mt_Z_hoursToEmpty n 47 ls st M Q := am_go L mt_Z_hoursToEmpty (fun h => by cases h) k_Z_hoursToEmpty_47 n 47 ls st M Q o_Z_hoursToEmpty_47 h
def k_Z_hoursToEmpty_48 : List am_I := [(.ireturn, 1, 0, 0, 0)]
set_option maxRecDepth 20000 in
theorem o_Z_hoursToEmpty_48 : am_okB mt_Z_hoursToEmpty 48 k_Z_hoursToEmpty_48 = true := by decide +kernel
theorem g_Z_hoursToEmpty_48 {L : am_S} {n : Nat} {ls st : List Value} {M : am_M} {Q : am_Q} (h : am_B L mt_Z_hoursToEmpty k_Z_hoursToEmpty_48 n 48 ls st M Q) : am_R L mt_Z_hoursToEmpty n 48 ls st M Q := am_go L mt_Z_hoursToEmpty (fun h => by cases h) k_Z_hoursToEmpty_48 n 48 ls st M Q o_Z_hoursToEmpty_48 h
def k_Z_emptyIn_0 : List am_I := [(.aload_n 0, 1, 0, 0, 0), (.iload_n 1, 1, 0, 0, 0), (.invokestatic 64, 3, 81, 1, 810), (.ifCond .eq 7, 3, 0, 0, 0), (.iconst 0, 1, 0, 0, 0), (.goto 4, 3, 0, 0, 0)]
set_option maxRecDepth 20000 in
theorem o_Z_emptyIn_0 : am_okB mt_Z_emptyIn 0 k_Z_emptyIn_0 = true := by decide +kernel
theorem g_Z_emptyIn_0 {L : am_S} {n : Nat} {ls st : List Value} {M : am_M} {Q : am_Q} (h : am_B L mt_Z_emptyIn k_Z_emptyIn_0 n 0 ls st M Q) : am_R L mt_Z_emptyIn n 0 ls st M Q := am_go L mt_Z_emptyIn (fun h => by cases h) k_Z_emptyIn_0 n 0 ls st M Q o_Z_emptyIn_0 h
def k_Z_emptyIn_12 : List am_I := [(.iconst 1, 1, 0, 0, 0)]
set_option maxRecDepth 20000 in
theorem o_Z_emptyIn_12 : am_okB mt_Z_emptyIn 12 k_Z_emptyIn_12 = true := by decide +kernel
theorem g_Z_emptyIn_12 {L : am_S} {n : Nat} {ls st : List Value} {M : am_M} {Q : am_Q} (h : am_B L mt_Z_emptyIn k_Z_emptyIn_12 n 12 ls st M Q) : am_R L mt_Z_emptyIn n 12 ls st M Q := am_go L mt_Z_emptyIn (fun h => by cases h) k_Z_emptyIn_12 n 12 ls st M Q o_Z_emptyIn_12 h
def k_Z_emptyIn_13 : List am_I := [(.putfield 39, 3, 4, 0, 727), (.aload_n 0, 1, 0, 0, 0), (.getfield 39, 3, 4, 0, 727), (.ifCond .le 7, 3, 0, 0, 0), (.iconst 0, 1, 0, 0, 0), (.goto 8, 3, 0, 0, 0)]
set_option maxRecDepth 20000 in
theorem o_Z_emptyIn_13 : am_okB mt_Z_emptyIn 13 k_Z_emptyIn_13 = true := by decide +kernel
theorem g_Z_emptyIn_13 {L : am_S} {n : Nat} {ls st : List Value} {M : am_M} {Q : am_Q} (h : am_B L mt_Z_emptyIn k_Z_emptyIn_13 n 13 ls st M Q) : am_R L mt_Z_emptyIn n 13 ls st M Q := am_go L mt_Z_emptyIn (fun h => by cases h) k_Z_emptyIn_13 n 13 ls st M Q o_Z_emptyIn_13 h
def k_Z_emptyIn_27 : List am_I := [(.aload_n 0, 1, 0, 0, 0), (.iload_n 1, 1, 0, 0, 0), (.invokevirtual 191, 3, 136, 2, 1023)]
set_option maxRecDepth 20000 in
theorem o_Z_emptyIn_27 : am_okB mt_Z_emptyIn 27 k_Z_emptyIn_27 = true := by decide +kernel
theorem g_Z_emptyIn_27 {L : am_S} {n : Nat} {ls st : List Value} {M : am_M} {Q : am_Q} (h : am_B L mt_Z_emptyIn k_Z_emptyIn_27 n 27 ls st M Q) : am_R L mt_Z_emptyIn n 27 ls st M Q := am_go L mt_Z_emptyIn (fun h => by cases h) k_Z_emptyIn_27 n 27 ls st M Q o_Z_emptyIn_27 h
def k_Z_emptyIn_32 : List am_I := [(.ireturn, 1, 0, 0, 0)]
set_option maxRecDepth 20000 in
theorem o_Z_emptyIn_32 : am_okB mt_Z_emptyIn 32 k_Z_emptyIn_32 = true := by decide +kernel
theorem g_Z_emptyIn_32 {L : am_S} {n : Nat} {ls st : List Value} {M : am_M} {Q : am_Q} (h : am_B L mt_Z_emptyIn k_Z_emptyIn_32 n 32 ls st M Q) : am_R L mt_Z_emptyIn n 32 ls st M Q := am_go L mt_Z_emptyIn (fun h => by cases h) k_Z_emptyIn_32 n 32 ls st M Q o_Z_emptyIn_32 h
def k_Z_isSameLook_0 : List am_I := [(.iconst 1, 1, 0, 0, 0), (.istore_n 3, 1, 0, 0, 0), (.iconst 0, 1, 0, 0, 0), (.istore 4, 2, 0, 0, 0)]
set_option maxRecDepth 20000 in
theorem o_Z_isSameLook_0 : am_okB mt_Z_isSameLook 0 k_Z_isSameLook_0 = true := by decide +kernel
theorem g_Z_isSameLook_0 {L : am_S} {n : Nat} {ls st : List Value} {M : am_M} {Q : am_Q} (h : am_B L mt_Z_isSameLook k_Z_isSameLook_0 n 0 ls st M Q) : am_R L mt_Z_isSameLook n 0 ls st M Q := am_go L mt_Z_isSameLook (fun h => by cases h) k_Z_isSameLook_0 n 0 ls st M Q o_Z_isSameLook_0 h
def k_Z_isSameLook_5 : List am_I := [(.iload 4, 2, 0, 0, 0), (.bipush 35, 2, 0, 0, 0), (.if_icmp .ge 46, 3, 0, 0, 0), (.iload_n 3, 1, 0, 0, 0), (.ifCond .eq 42, 3, 0, 0, 0), (.aload_n 0, 1, 0, 0, 0), (.getfield 29, 3, 4, 9, 736), (.bipush 35, 2, 0, 0, 0), (.iload_n 1, 1, 0, 0, 0), (.imul, 1, 0, 0, 0), (.iload 4, 2, 0, 0, 0), (.iadd, 1, 0, 0, 0), (.iaload, 1, 0, 0, 0), (.aload_n 0, 1, 0, 0, 0), (.getfield 29, 3, 4, 9, 736), (.bipush 35, 2, 0, 0, 0), (.iload_n 2, 1, 0, 0, 0), (.imul, 1, 0, 0, 0), (.iload 4, 2, 0, 0, 0), (.iadd, 1, 0, 0, 0), (.iaload, 1, 0, 0, 0), (.if_icmp .ne 7, 3, 0, 0, 0), (.iconst 1, 1, 0, 0, 0), (.goto 4, 3, 0, 0, 0)]
set_option maxRecDepth 20000 in
theorem o_Z_isSameLook_5 : am_okB mt_Z_isSameLook 5 k_Z_isSameLook_5 = true := by decide +kernel
theorem g_Z_isSameLook_5 {L : am_S} {n : Nat} {ls st : List Value} {M : am_M} {Q : am_Q} (h : am_B L mt_Z_isSameLook k_Z_isSameLook_5 n 5 ls st M Q) : am_R L mt_Z_isSameLook n 5 ls st M Q := am_go L mt_Z_isSameLook (fun h => by cases h) k_Z_isSameLook_5 n 5 ls st M Q o_Z_isSameLook_5 h
def k_Z_isSameLook_47 : List am_I := [(.iconst 0, 1, 0, 0, 0)]
set_option maxRecDepth 20000 in
theorem o_Z_isSameLook_47 : am_okB mt_Z_isSameLook 47 k_Z_isSameLook_47 = true := by decide +kernel
theorem g_Z_isSameLook_47 {L : am_S} {n : Nat} {ls st : List Value} {M : am_M} {Q : am_Q} (h : am_B L mt_Z_isSameLook k_Z_isSameLook_47 n 47 ls st M Q) : am_R L mt_Z_isSameLook n 47 ls st M Q := am_go L mt_Z_isSameLook (fun h => by cases h) k_Z_isSameLook_47 n 47 ls st M Q o_Z_isSameLook_47 h
def k_Z_isSameLook_48 : List am_I := [(.istore_n 3, 1, 0, 0, 0), (.iinc 4 1, 3, 0, 0, 0), (.goto (-47), 3, 0, 0, 0)]
set_option maxRecDepth 20000 in
theorem o_Z_isSameLook_48 : am_okB mt_Z_isSameLook 48 k_Z_isSameLook_48 = true := by decide +kernel
theorem g_Z_isSameLook_48 {L : am_S} {n : Nat} {ls st : List Value} {M : am_M} {Q : am_Q} (h : am_B L mt_Z_isSameLook k_Z_isSameLook_48 n 48 ls st M Q) : am_R L mt_Z_isSameLook n 48 ls st M Q := am_go L mt_Z_isSameLook (fun h => by cases h) k_Z_isSameLook_48 n 48 ls st M Q o_Z_isSameLook_48 h
def k_Z_isSameLook_55 : List am_I := [(.iload_n 3, 1, 0, 0, 0), (.ireturn, 1, 0, 0, 0)]
set_option maxRecDepth 20000 in
theorem o_Z_isSameLook_55 : am_okB mt_Z_isSameLook 55 k_Z_isSameLook_55 = true := by decide +kernel
theorem g_Z_isSameLook_55 {L : am_S} {n : Nat} {ls st : List Value} {M : am_M} {Q : am_Q} (h : am_B L mt_Z_isSameLook k_Z_isSameLook_55 n 55 ls st M Q) : am_R L mt_Z_isSameLook n 55 ls st M Q := am_go L mt_Z_isSameLook (fun h => by cases h) k_Z_isSameLook_55 n 55 ls st M Q o_Z_isSameLook_55 h
def k_Z_findRound_0 : List am_I := [(.aload_n 0, 1, 0, 0, 0), (.invokevirtual 182, 3, 91, 1, 1011), (.iconst 0, 1, 0, 0, 0), (.istore_n 1, 1, 0, 0, 0)]
set_option maxRecDepth 20000 in
theorem o_Z_findRound_0 : am_okB mt_Z_findRound 0 k_Z_findRound_0 = true := by decide +kernel
theorem g_Z_findRound_0 {L : am_S} {n : Nat} {ls st : List Value} {M : am_M} {Q : am_Q} (h : am_B L mt_Z_findRound k_Z_findRound_0 n 0 ls st M Q) : am_R L mt_Z_findRound n 0 ls st M Q := am_go L mt_Z_findRound (fun h => by cases h) k_Z_findRound_0 n 0 ls st M Q o_Z_findRound_0 h
def k_Z_findRound_6 : List am_I := [(.iload_n 1, 1, 0, 0, 0), (.bipush 60, 2, 0, 0, 0), (.if_icmp .gt 54, 3, 0, 0, 0), (.iconst 0, 1, 0, 0, 0), (.istore_n 2, 1, 0, 0, 0)]
set_option maxRecDepth 20000 in
theorem o_Z_findRound_6 : am_okB mt_Z_findRound 6 k_Z_findRound_6 = true := by decide +kernel
theorem g_Z_findRound_6 {L : am_S} {n : Nat} {ls st : List Value} {M : am_M} {Q : am_Q} (h : am_B L mt_Z_findRound k_Z_findRound_6 n 6 ls st M Q) : am_R L mt_Z_findRound n 6 ls st M Q := am_go L mt_Z_findRound (fun h => by cases h) k_Z_findRound_6 n 6 ls st M Q o_Z_findRound_6 h
def k_Z_findRound_14 : List am_I := [(.iload_n 2, 1, 0, 0, 0), (.bipush 35, 2, 0, 0, 0), (.if_icmp .ge 34, 3, 0, 0, 0), (.aload_n 0, 1, 0, 0, 0), (.getfield 29, 3, 4, 9, 736), (.bipush 35, 2, 0, 0, 0), (.iload_n 1, 1, 0, 0, 0), (.imul, 1, 0, 0, 0), (.iload_n 2, 1, 0, 0, 0), (.iadd, 1, 0, 0, 0), (.aload_n 0, 1, 0, 0, 0), (.iload_n 2, 1, 0, 0, 0), (.bipush 7, 2, 0, 0, 0), (.idiv, 1, 0, 0, 0), (.iconst 1, 1, 0, 0, 0), (.iload_n 2, 1, 0, 0, 0), (.bipush 7, 2, 0, 0, 0), (.irem, 1, 0, 0, 0), (.iadd, 1, 0, 0, 0), (.invokevirtual 47, 3, 77, 3, 813), (.iastore, 1, 0, 0, 0), (.iinc 2 1, 3, 0, 0, 0), (.goto (-34), 3, 0, 0, 0)]
set_option maxRecDepth 20000 in
theorem o_Z_findRound_14 : am_okB mt_Z_findRound 14 k_Z_findRound_14 = true := by decide +kernel
theorem g_Z_findRound_14 {L : am_S} {n : Nat} {ls st : List Value} {M : am_M} {Q : am_Q} (h : am_B L mt_Z_findRound k_Z_findRound_14 n 14 ls st M Q) : am_R L mt_Z_findRound n 14 ls st M Q := am_go L mt_Z_findRound (fun h => by cases h) k_Z_findRound_14 n 14 ls st M Q o_Z_findRound_14 h
def k_Z_findRound_51 : List am_I := [(.aload_n 0, 1, 0, 0, 0), (.bipush 24, 2, 0, 0, 0), (.invokevirtual 114, 3, 108, 2, 880), (.iinc 1 1, 3, 0, 0, 0), (.goto (-54), 3, 0, 0, 0)]
set_option maxRecDepth 20000 in
theorem o_Z_findRound_51 : am_okB mt_Z_findRound 51 k_Z_findRound_51 = true := by decide +kernel
theorem g_Z_findRound_51 {L : am_S} {n : Nat} {ls st : List Value} {M : am_M} {Q : am_Q} (h : am_B L mt_Z_findRound k_Z_findRound_51 n 51 ls st M Q) : am_R L mt_Z_findRound n 51 ls st M Q := am_go L mt_Z_findRound (fun h => by cases h) k_Z_findRound_51 n 51 ls st M Q o_Z_findRound_51 h
def k_Z_findRound_63 : List am_I := [(.aload_n 0, 1, 0, 0, 0), (.invokevirtual 185, 3, 92, 1, 1015), (.aload_n 0, 1, 0, 0, 0), (.iconst (-1), 1, 0, 0, 0), (.putfield 194, 3, 4, 10, 737), (.aload_n 0, 1, 0, 0, 0), (.iconst (-1), 1, 0, 0, 0), (.putfield 197, 3, 4, 11, 738), (.bipush 60, 2, 0, 0, 0), (.istore_n 1, 1, 0, 0, 0)]
set_option maxRecDepth 20000 in
theorem o_Z_findRound_63 : am_okB mt_Z_findRound 63 k_Z_findRound_63 = true := by decide +kernel
theorem g_Z_findRound_63 {L : am_S} {n : Nat} {ls st : List Value} {M : am_M} {Q : am_Q} (h : am_B L mt_Z_findRound k_Z_findRound_63 n 63 ls st M Q) : am_R L mt_Z_findRound n 63 ls st M Q := am_go L mt_Z_findRound (fun h => by cases h) k_Z_findRound_63 n 63 ls st M Q o_Z_findRound_63 h
def k_Z_findRound_80 : List am_I := [(.iload_n 1, 1, 0, 0, 0), (.ifCond .lt 68, 3, 0, 0, 0), (.bipush 60, 2, 0, 0, 0), (.istore_n 2, 1, 0, 0, 0)]
set_option maxRecDepth 20000 in
theorem o_Z_findRound_80 : am_okB mt_Z_findRound 80 k_Z_findRound_80 = true := by decide +kernel
theorem g_Z_findRound_80 {L : am_S} {n : Nat} {ls st : List Value} {M : am_M} {Q : am_Q} (h : am_B L mt_Z_findRound k_Z_findRound_80 n 80 ls st M Q) : am_R L mt_Z_findRound n 80 ls st M Q := am_go L mt_Z_findRound (fun h => by cases h) k_Z_findRound_80 n 80 ls st M Q o_Z_findRound_80 h
def k_Z_findRound_87 : List am_I := [(.iload_n 2, 1, 0, 0, 0), (.iload_n 1, 1, 0, 0, 0), (.if_icmp .le 54, 3, 0, 0, 0), (.aload_n 0, 1, 0, 0, 0), (.iload_n 1, 1, 0, 0, 0), (.iload_n 2, 1, 0, 0, 0), (.invokevirtual 200, 3, 138, 3, 1035), (.ifCond .eq 39, 3, 0, 0, 0), (.aload_n 0, 1, 0, 0, 0), (.iload_n 1, 1, 0, 0, 0), (.putfield 197, 3, 4, 11, 738), (.aload_n 0, 1, 0, 0, 0), (.aload_n 0, 1, 0, 0, 0), (.getfield 194, 3, 4, 10, 737), (.ifCond .lt 13, 3, 0, 0, 0), (.iload_n 2, 1, 0, 0, 0), (.iload_n 1, 1, 0, 0, 0), (.isub, 1, 0, 0, 0), (.aload_n 0, 1, 0, 0, 0), (.getfield 194, 3, 4, 10, 737), (.if_icmp .ge 9, 3, 0, 0, 0)]
set_option maxRecDepth 20000 in
theorem o_Z_findRound_87 : am_okB mt_Z_findRound 87 k_Z_findRound_87 = true := by decide +kernel
theorem g_Z_findRound_87 {L : am_S} {n : Nat} {ls st : List Value} {M : am_M} {Q : am_Q} (h : am_B L mt_Z_findRound k_Z_findRound_87 n 87 ls st M Q) : am_R L mt_Z_findRound n 87 ls st M Q := am_go L mt_Z_findRound (fun h => by cases h) k_Z_findRound_87 n 87 ls st M Q o_Z_findRound_87 h
def k_Z_findRound_124 : List am_I := [(.iload_n 2, 1, 0, 0, 0), (.iload_n 1, 1, 0, 0, 0), (.isub, 1, 0, 0, 0), (.goto 7, 3, 0, 0, 0)]
set_option maxRecDepth 20000 in
theorem o_Z_findRound_124 : am_okB mt_Z_findRound 124 k_Z_findRound_124 = true := by decide +kernel
theorem g_Z_findRound_124 {L : am_S} {n : Nat} {ls st : List Value} {M : am_M} {Q : am_Q} (h : am_B L mt_Z_findRound k_Z_findRound_124 n 124 ls st M Q) : am_R L mt_Z_findRound n 124 ls st M Q := am_go L mt_Z_findRound (fun h => by cases h) k_Z_findRound_124 n 124 ls st M Q o_Z_findRound_124 h
def k_Z_findRound_130 : List am_I := [(.aload_n 0, 1, 0, 0, 0), (.getfield 194, 3, 4, 10, 737)]
set_option maxRecDepth 20000 in
theorem o_Z_findRound_130 : am_okB mt_Z_findRound 130 k_Z_findRound_130 = true := by decide +kernel
theorem g_Z_findRound_130 {L : am_S} {n : Nat} {ls st : List Value} {M : am_M} {Q : am_Q} (h : am_B L mt_Z_findRound k_Z_findRound_130 n 130 ls st M Q) : am_R L mt_Z_findRound n 130 ls st M Q := am_go L mt_Z_findRound (fun h => by cases h) k_Z_findRound_130 n 130 ls st M Q o_Z_findRound_130 h
def k_Z_findRound_134 : List am_I := [(.putfield 194, 3, 4, 10, 737)]
set_option maxRecDepth 20000 in
theorem o_Z_findRound_134 : am_okB mt_Z_findRound 134 k_Z_findRound_134 = true := by decide +kernel
theorem g_Z_findRound_134 {L : am_S} {n : Nat} {ls st : List Value} {M : am_M} {Q : am_Q} (h : am_B L mt_Z_findRound k_Z_findRound_134 n 134 ls st M Q) : am_R L mt_Z_findRound n 134 ls st M Q := am_go L mt_Z_findRound (fun h => by cases h) k_Z_findRound_134 n 134 ls st M Q o_Z_findRound_134 h
def k_Z_findRound_137 : List am_I := [(.iinc 2 (-1), 3, 0, 0, 0), (.goto (-53), 3, 0, 0, 0)]
set_option maxRecDepth 20000 in
theorem o_Z_findRound_137 : am_okB mt_Z_findRound 137 k_Z_findRound_137 = true := by decide +kernel
theorem g_Z_findRound_137 {L : am_S} {n : Nat} {ls st : List Value} {M : am_M} {Q : am_Q} (h : am_B L mt_Z_findRound k_Z_findRound_137 n 137 ls st M Q) : am_R L mt_Z_findRound n 137 ls st M Q := am_go L mt_Z_findRound (fun h => by cases h) k_Z_findRound_137 n 137 ls st M Q o_Z_findRound_137 h
def k_Z_findRound_143 : List am_I := [(.iinc 1 (-1), 3, 0, 0, 0), (.goto (-66), 3, 0, 0, 0)]
set_option maxRecDepth 20000 in
theorem o_Z_findRound_143 : am_okB mt_Z_findRound 143 k_Z_findRound_143 = true := by decide +kernel
theorem g_Z_findRound_143 {L : am_S} {n : Nat} {ls st : List Value} {M : am_M} {Q : am_Q} (h : am_B L mt_Z_findRound k_Z_findRound_143 n 143 ls st M Q) : am_R L mt_Z_findRound n 143 ls st M Q := am_go L mt_Z_findRound (fun h => by cases h) k_Z_findRound_143 n 143 ls st M Q o_Z_findRound_143 h
def k_Z_findRound_149 : List am_I := [(.return_, 1, 0, 0, 0)]
set_option maxRecDepth 20000 in
theorem o_Z_findRound_149 : am_okB mt_Z_findRound 149 k_Z_findRound_149 = true := by decide +kernel
theorem g_Z_findRound_149 {L : am_S} {n : Nat} {ls st : List Value} {M : am_M} {Q : am_Q} (h : am_B L mt_Z_findRound k_Z_findRound_149 n 149 ls st M Q) : am_R L mt_Z_findRound n 149 ls st M Q := am_go L mt_Z_findRound (fun h => by cases h) k_Z_findRound_149 n 149 ls st M Q o_Z_findRound_149 h
def k_Z_round_0 : List am_I := [(.aload_n 0, 1, 0, 0, 0), (.iload_n 1, 1, 0, 0, 0), (.iconst 0, 1, 0, 0, 0), (.iconst 3, 1, 0, 0, 0), (.invokestatic 43, 3, 75, 3, 791), (.ifCond .eq 7, 3, 0, 0, 0), (.iconst 0, 1, 0, 0, 0), (.goto 4, 3, 0, 0, 0)]
set_option maxRecDepth 20000 in
theorem o_Z_round_0 : am_okB mt_Z_round 0 k_Z_round_0 = true := by decide +kernel
theorem g_Z_round_0 {L : am_S} {n : Nat} {ls st : List Value} {M : am_M} {Q : am_Q} (h : am_B L mt_Z_round k_Z_round_0 n 0 ls st M Q) : am_R L mt_Z_round n 0 ls st M Q := am_go L mt_Z_round (fun h => by cases h) k_Z_round_0 n 0 ls st M Q o_Z_round_0 h
def k_Z_round_14 : List am_I := [(.iconst 1, 1, 0, 0, 0)]
set_option maxRecDepth 20000 in
theorem o_Z_round_14 : am_okB mt_Z_round 14 k_Z_round_14 = true := by decide +kernel
theorem g_Z_round_14 {L : am_S} {n : Nat} {ls st : List Value} {M : am_M} {Q : am_Q} (h : am_B L mt_Z_round k_Z_round_14 n 14 ls st M Q) : am_R L mt_Z_round n 14 ls st M Q := am_go L mt_Z_round (fun h => by cases h) k_Z_round_14 n 14 ls st M Q o_Z_round_14 h
def k_Z_round_15 : List am_I := [(.putfield 39, 3, 4, 0, 727), (.aload_n 0, 1, 0, 0, 0), (.getfield 39, 3, 4, 0, 727), (.ifCond .le 5, 3, 0, 0, 0), (.iconst 0, 1, 0, 0, 0), (.ireturn, 1, 0, 0, 0)]
set_option maxRecDepth 20000 in
theorem o_Z_round_15 : am_okB mt_Z_round 15 k_Z_round_15 = true := by decide +kernel
theorem g_Z_round_15 {L : am_S} {n : Nat} {ls st : List Value} {M : am_M} {Q : am_Q} (h : am_B L mt_Z_round k_Z_round_15 n 15 ls st M Q) : am_R L mt_Z_round n 15 ls st M Q := am_go L mt_Z_round (fun h => by cases h) k_Z_round_15 n 15 ls st M Q o_Z_round_15 h
def k_Z_round_27 : List am_I := [(.aload_n 0, 1, 0, 0, 0), (.invokevirtual 203, 3, 139, 1, 1031), (.iload_n 1, 1, 0, 0, 0), (.iconst 2, 1, 0, 0, 0), (.irem, 1, 0, 0, 0), (.ifCond .ne 10, 3, 0, 0, 0), (.aload_n 0, 1, 0, 0, 0), (.getfield 194, 3, 4, 10, 737), (.goto 7, 3, 0, 0, 0)]
set_option maxRecDepth 20000 in
theorem o_Z_round_27 : am_okB mt_Z_round 27 k_Z_round_27 = true := by decide +kernel
theorem g_Z_round_27 {L : am_S} {n : Nat} {ls st : List Value} {M : am_M} {Q : am_Q} (h : am_B L mt_Z_round k_Z_round_27 n 27 ls st M Q) : am_R L mt_Z_round n 27 ls st M Q := am_go L mt_Z_round (fun h => by cases h) k_Z_round_27 n 27 ls st M Q o_Z_round_27 h
def k_Z_round_44 : List am_I := [(.aload_n 0, 1, 0, 0, 0), (.getfield 197, 3, 4, 11, 738)]
set_option maxRecDepth 20000 in
theorem o_Z_round_44 : am_okB mt_Z_round 44 k_Z_round_44 = true := by decide +kernel
theorem g_Z_round_44 {L : am_S} {n : Nat} {ls st : List Value} {M : am_M} {Q : am_Q} (h : am_B L mt_Z_round k_Z_round_44 n 44 ls st M Q) : am_R L mt_Z_round n 44 ls st M Q := am_go L mt_Z_round (fun h => by cases h) k_Z_round_44 n 44 ls st M Q o_Z_round_44 h
def k_Z_round_48 : List am_I := [(.ireturn, 1, 0, 0, 0)]
set_option maxRecDepth 20000 in
theorem o_Z_round_48 : am_okB mt_Z_round 48 k_Z_round_48 = true := by decide +kernel
theorem g_Z_round_48 {L : am_S} {n : Nat} {ls st : List Value} {M : am_M} {Q : am_Q} (h : am_B L mt_Z_round k_Z_round_48 n 48 ls st M Q) : am_R L mt_Z_round n 48 ls st M Q := am_go L mt_Z_round (fun h => by cases h) k_Z_round_48 n 48 ls st M Q o_Z_round_48 h
def k_Z_findMainValve_0 : List am_I := [(.iconst (-1), 1, 0, 0, 0), (.istore_n 1, 1, 0, 0, 0), (.iconst 0, 1, 0, 0, 0), (.istore_n 2, 1, 0, 0, 0), (.aload_n 0, 1, 0, 0, 0), (.getfield 7, 3, 4, 1, 728), (.iconst 2, 1, 0, 0, 0), (.iaload, 1, 0, 0, 0), (.istore_n 3, 1, 0, 0, 0), (.aload_n 0, 1, 0, 0, 0), (.invokevirtual 182, 3, 91, 1, 1011), (.iconst 0, 1, 0, 0, 0), (.istore 4, 2, 0, 0, 0)]
set_option maxRecDepth 20000 in
theorem o_Z_findMainValve_0 : am_okB mt_Z_findMainValve 0 k_Z_findMainValve_0 = true := by decide +kernel
theorem g_Z_findMainValve_0 {L : am_S} {n : Nat} {ls st : List Value} {M : am_M} {Q : am_Q} (h : am_B L mt_Z_findMainValve k_Z_findMainValve_0 n 0 ls st M Q) : am_R L mt_Z_findMainValve n 0 ls st M Q := am_go L mt_Z_findMainValve (fun h => by cases h) k_Z_findMainValve_0 n 0 ls st M Q o_Z_findMainValve_0 h
def k_Z_findMainValve_18 : List am_I := [(.iload 4, 2, 0, 0, 0), (.aload_n 0, 1, 0, 0, 0), (.getfield 13, 3, 4, 2, 729), (.iconst 5, 1, 0, 0, 0), (.iaload, 1, 0, 0, 0), (.if_icmp .ge 65, 3, 0, 0, 0), (.aload_n 0, 1, 0, 0, 0), (.iload 4, 2, 0, 0, 0), (.invokevirtual 89, 3, 99, 2, 860), (.aload_n 0, 1, 0, 0, 0), (.bipush 24, 2, 0, 0, 0), (.invokevirtual 114, 3, 108, 2, 880), (.aload_n 0, 1, 0, 0, 0), (.getfield 7, 3, 4, 1, 728), (.iconst 2, 1, 0, 0, 0), (.iaload, 1, 0, 0, 0), (.iload_n 3, 1, 0, 0, 0), (.isub, 1, 0, 0, 0), (.istore 5, 2, 0, 0, 0), (.iload_n 1, 1, 0, 0, 0), (.ifCond .lt 9, 3, 0, 0, 0), (.iload 5, 2, 0, 0, 0), (.iload_n 2, 1, 0, 0, 0), (.if_icmp .ge 8, 3, 0, 0, 0)]
set_option maxRecDepth 20000 in
theorem o_Z_findMainValve_18 : am_okB mt_Z_findMainValve 18 k_Z_findMainValve_18 = true := by decide +kernel
theorem g_Z_findMainValve_18 {L : am_S} {n : Nat} {ls st : List Value} {M : am_M} {Q : am_Q} (h : am_B L mt_Z_findMainValve k_Z_findMainValve_18 n 18 ls st M Q) : am_R L mt_Z_findMainValve n 18 ls st M Q := am_go L mt_Z_findMainValve (fun h => by cases h) k_Z_findMainValve_18 n 18 ls st M Q o_Z_findMainValve_18 h
def k_Z_findMainValve_61 : List am_I := [(.iload 4, 2, 0, 0, 0), (.goto 4, 3, 0, 0, 0)]
set_option maxRecDepth 20000 in
theorem o_Z_findMainValve_61 : am_okB mt_Z_findMainValve 61 k_Z_findMainValve_61 = true := by decide +kernel
theorem g_Z_findMainValve_61 {L : am_S} {n : Nat} {ls st : List Value} {M : am_M} {Q : am_Q} (h : am_B L mt_Z_findMainValve k_Z_findMainValve_61 n 61 ls st M Q) : am_R L mt_Z_findMainValve n 61 ls st M Q := am_go L mt_Z_findMainValve (fun h => by cases h) k_Z_findMainValve_61 n 61 ls st M Q o_Z_findMainValve_61 h
def k_Z_findMainValve_66 : List am_I := [(.iload_n 1, 1, 0, 0, 0)]
set_option maxRecDepth 20000 in
theorem o_Z_findMainValve_66 : am_okB mt_Z_findMainValve 66 k_Z_findMainValve_66 = true := by decide +kernel
theorem g_Z_findMainValve_66 {L : am_S} {n : Nat} {ls st : List Value} {M : am_M} {Q : am_Q} (h : am_B L mt_Z_findMainValve k_Z_findMainValve_66 n 66 ls st M Q) : am_R L mt_Z_findMainValve n 66 ls st M Q := am_go L mt_Z_findMainValve (fun h => by cases h) k_Z_findMainValve_66 n 66 ls st M Q o_Z_findMainValve_66 h
def k_Z_findMainValve_67 : List am_I := [(.istore_n 1, 1, 0, 0, 0), (.iload_n 1, 1, 0, 0, 0), (.iload 4, 2, 0, 0, 0), (.if_icmp .ne 8, 3, 0, 0, 0), (.iload 5, 2, 0, 0, 0), (.goto 4, 3, 0, 0, 0)]
set_option maxRecDepth 20000 in
theorem o_Z_findMainValve_67 : am_okB mt_Z_findMainValve 67 k_Z_findMainValve_67 = true := by decide +kernel
theorem g_Z_findMainValve_67 {L : am_S} {n : Nat} {ls st : List Value} {M : am_M} {Q : am_Q} (h : am_B L mt_Z_findMainValve k_Z_findMainValve_67 n 67 ls st M Q) : am_R L mt_Z_findMainValve n 67 ls st M Q := am_go L mt_Z_findMainValve (fun h => by cases h) k_Z_findMainValve_67 n 67 ls st M Q o_Z_findMainValve_67 h
def k_Z_findMainValve_79 : List am_I := [(.iload_n 2, 1, 0, 0, 0)]
set_option maxRecDepth 20000 in
theorem o_Z_findMainValve_79 : am_okB mt_Z_findMainValve 79 k_Z_findMainValve_79 = true := by decide +kernel
theorem g_Z_findMainValve_79 {L : am_S} {n : Nat} {ls st : List Value} {M : am_M} {Q : am_Q} (h : am_B L mt_Z_findMainValve k_Z_findMainValve_79 n 79 ls st M Q) : am_R L mt_Z_findMainValve n 79 ls st M Q := am_go L mt_Z_findMainValve (fun h => by cases h) k_Z_findMainValve_79 n 79 ls st M Q o_Z_findMainValve_79 h
def k_Z_findMainValve_80 : List am_I := [(.istore_n 2, 1, 0, 0, 0), (.aload_n 0, 1, 0, 0, 0), (.invokevirtual 185, 3, 92, 1, 1015), (.iinc 4 1, 3, 0, 0, 0), (.goto (-70), 3, 0, 0, 0)]
set_option maxRecDepth 20000 in
theorem o_Z_findMainValve_80 : am_okB mt_Z_findMainValve 80 k_Z_findMainValve_80 = true := by decide +kernel
theorem g_Z_findMainValve_80 {L : am_S} {n : Nat} {ls st : List Value} {M : am_M} {Q : am_Q} (h : am_B L mt_Z_findMainValve k_Z_findMainValve_80 n 80 ls st M Q) : am_R L mt_Z_findMainValve n 80 ls st M Q := am_go L mt_Z_findMainValve (fun h => by cases h) k_Z_findMainValve_80 n 80 ls st M Q o_Z_findMainValve_80 h
def k_Z_findMainValve_91 : List am_I := [(.iload_n 1, 1, 0, 0, 0), (.ireturn, 1, 0, 0, 0)]
set_option maxRecDepth 20000 in
theorem o_Z_findMainValve_91 : am_okB mt_Z_findMainValve 91 k_Z_findMainValve_91 = true := by decide +kernel
theorem g_Z_findMainValve_91 {L : am_S} {n : Nat} {ls st : List Value} {M : am_M} {Q : am_Q} (h : am_B L mt_Z_findMainValve k_Z_findMainValve_91 n 91 ls st M Q) : am_R L mt_Z_findMainValve n 91 ls st M Q := am_go L mt_Z_findMainValve (fun h => by cases h) k_Z_findMainValve_91 n 91 ls st M Q o_Z_findMainValve_91 h
def k_Z_mainValve_0 : List am_I := [(.aload_n 0, 1, 0, 0, 0), (.iconst 0, 1, 0, 0, 0), (.putfield 39, 3, 4, 0, 727), (.aload_n 0, 1, 0, 0, 0), (.invokevirtual 206, 3, 141, 1, 1043), (.ireturn, 1, 0, 0, 0)]
set_option maxRecDepth 20000 in
theorem o_Z_mainValve_0 : am_okB mt_Z_mainValve 0 k_Z_mainValve_0 = true := by decide +kernel
theorem g_Z_mainValve_0 {L : am_S} {n : Nat} {ls st : List Value} {M : am_M} {Q : am_Q} (h : am_B L mt_Z_mainValve k_Z_mainValve_0 n 0 ls st M Q) : am_R L mt_Z_mainValve n 0 ls st M Q := am_go L mt_Z_mainValve (fun h => by cases h) k_Z_mainValve_0 n 0 ls st M Q o_Z_mainValve_0 h
def k_Z_shareGone_0 : List am_I := [(.aload_n 0, 1, 0, 0, 0), (.getfield 7, 3, 4, 1, 728), (.bipush 14, 2, 0, 0, 0), (.iaload, 1, 0, 0, 0), (.aload_n 0, 1, 0, 0, 0), (.getfield 7, 3, 4, 1, 728), (.bipush 15, 2, 0, 0, 0), (.iaload, 1, 0, 0, 0), (.iadd, 1, 0, 0, 0), (.aload_n 0, 1, 0, 0, 0), (.getfield 7, 3, 4, 1, 728), (.bipush 16, 2, 0, 0, 0), (.iaload, 1, 0, 0, 0), (.iadd, 1, 0, 0, 0), (.istore_n 1, 1, 0, 0, 0), (.aload_n 0, 1, 0, 0, 0), (.getfield 7, 3, 4, 1, 728), (.bipush 11, 2, 0, 0, 0), (.iaload, 1, 0, 0, 0), (.aload_n 0, 1, 0, 0, 0), (.getfield 7, 3, 4, 1, 728), (.bipush 12, 2, 0, 0, 0), (.iaload, 1, 0, 0, 0), (.iadd, 1, 0, 0, 0), (.aload_n 0, 1, 0, 0, 0), (.getfield 7, 3, 4, 1, 728), (.bipush 13, 2, 0, 0, 0), (.iaload, 1, 0, 0, 0), (.iadd, 1, 0, 0, 0), (.istore_n 2, 1, 0, 0, 0), (.iload_n 2, 1, 0, 0, 0), (.ifCond .ne 7, 3, 0, 0, 0), (.dconst 0, 1, 0, 0, 0), (.goto 8, 3, 0, 0, 0)]
set_option maxRecDepth 20000 in
theorem o_Z_shareGone_0 : am_okB mt_Z_shareGone 0 k_Z_shareGone_0 = true := by decide +kernel
theorem g_Z_shareGone_0 {L : am_S} {n : Nat} {ls st : List Value} {M : am_M} {Q : am_Q} (h : am_B L mt_Z_shareGone k_Z_shareGone_0 n 0 ls st M Q) : am_R L mt_Z_shareGone n 0 ls st M Q := am_go L mt_Z_shareGone (fun h => by cases h) k_Z_shareGone_0 n 0 ls st M Q o_Z_shareGone_0 h
def k_Z_shareGone_56 : List am_I := [(.iload_n 1, 1, 0, 0, 0), (.i2d, 1, 0, 0, 0), (.iload_n 2, 1, 0, 0, 0), (.i2d, 1, 0, 0, 0), (.ddiv, 1, 0, 0, 0)]
set_option maxRecDepth 20000 in
theorem o_Z_shareGone_56 : am_okB mt_Z_shareGone 56 k_Z_shareGone_56 = true := by decide +kernel
theorem g_Z_shareGone_56 {L : am_S} {n : Nat} {ls st : List Value} {M : am_M} {Q : am_Q} (h : am_B L mt_Z_shareGone k_Z_shareGone_56 n 56 ls st M Q) : am_R L mt_Z_shareGone n 56 ls st M Q := am_go L mt_Z_shareGone (fun h => by cases h) k_Z_shareGone_56 n 56 ls st M Q o_Z_shareGone_56 h
def k_Z_shareGone_61 : List am_I := [(.dreturn, 1, 0, 0, 0)]
set_option maxRecDepth 20000 in
theorem o_Z_shareGone_61 : am_okB mt_Z_shareGone 61 k_Z_shareGone_61 = true := by decide +kernel
theorem g_Z_shareGone_61 {L : am_S} {n : Nat} {ls st : List Value} {M : am_M} {Q : am_Q} (h : am_B L mt_Z_shareGone k_Z_shareGone_61 n 61 ls st M Q) : am_R L mt_Z_shareGone n 61 ls st M Q := am_go L mt_Z_shareGone (fun h => by cases h) k_Z_shareGone_61 n 61 ls st M Q o_Z_shareGone_61 h
def k_Z_goneShare_0 : List am_I := [(.aload_n 0, 1, 0, 0, 0), (.iconst 0, 1, 0, 0, 0), (.putfield 39, 3, 4, 0, 727), (.aload_n 0, 1, 0, 0, 0), (.invokevirtual 209, 3, 143, 1, 1051), (.dreturn, 1, 0, 0, 0)]
set_option maxRecDepth 20000 in
theorem o_Z_goneShare_0 : am_okB mt_Z_goneShare 0 k_Z_goneShare_0 = true := by decide +kernel
theorem g_Z_goneShare_0 {L : am_S} {n : Nat} {ls st : List Value} {M : am_M} {Q : am_Q} (h : am_B L mt_Z_goneShare k_Z_goneShare_0 n 0 ls st M Q) : am_R L mt_Z_goneShare n 0 ls st M Q := am_go L mt_Z_goneShare (fun h => by cases h) k_Z_goneShare_0 n 0 ls st M Q o_Z_goneShare_0 h
def k_Z_digest_0 : List am_I := [(.aload_n 0, 1, 0, 0, 0), (.iconst 0, 1, 0, 0, 0), (.putfield 39, 3, 4, 0, 727), (.ldc2_w 213, 3, 3461, 0, 1059), (.lstore_n 1, 1, 0, 0, 0), (.iconst 0, 1, 0, 0, 0), (.istore_n 3, 1, 0, 0, 0)]
set_option maxRecDepth 20000 in
theorem o_Z_digest_0 : am_okB mt_Z_digest 0 k_Z_digest_0 = true := by decide +kernel
theorem g_Z_digest_0 {L : am_S} {n : Nat} {ls st : List Value} {M : am_M} {Q : am_Q} (h : am_B L mt_Z_digest k_Z_digest_0 n 0 ls st M Q) : am_R L mt_Z_digest n 0 ls st M Q := am_go L mt_Z_digest (fun h => by cases h) k_Z_digest_0 n 0 ls st M Q o_Z_digest_0 h
def k_Z_digest_11 : List am_I := [(.iload_n 3, 1, 0, 0, 0), (.bipush 10, 2, 0, 0, 0), (.if_icmp .ge 22, 3, 0, 0, 0), (.ldc2_w 215, 3, 31, 0, 1060), (.lload_n 1, 1, 0, 0, 0), (.lmul, 1, 0, 0, 0), (.aload_n 0, 1, 0, 0, 0), (.iload_n 3, 1, 0, 0, 0), (.invokevirtual 179, 3, 132, 2, 995), (.i2l, 1, 0, 0, 0), (.ladd, 1, 0, 0, 0), (.lstore_n 1, 1, 0, 0, 0), (.iinc 3 1, 3, 0, 0, 0), (.goto (-22), 3, 0, 0, 0)]
set_option maxRecDepth 20000 in
theorem o_Z_digest_11 : am_okB mt_Z_digest 11 k_Z_digest_11 = true := by decide +kernel
theorem g_Z_digest_11 {L : am_S} {n : Nat} {ls st : List Value} {M : am_M} {Q : am_Q} (h : am_B L mt_Z_digest k_Z_digest_11 n 11 ls st M Q) : am_R L mt_Z_digest n 11 ls st M Q := am_go L mt_Z_digest (fun h => by cases h) k_Z_digest_11 n 11 ls st M Q o_Z_digest_11 h
def k_Z_digest_36 : List am_I := [(.iconst 0, 1, 0, 0, 0), (.istore_n 3, 1, 0, 0, 0)]
set_option maxRecDepth 20000 in
theorem o_Z_digest_36 : am_okB mt_Z_digest 36 k_Z_digest_36 = true := by decide +kernel
theorem g_Z_digest_36 {L : am_S} {n : Nat} {ls st : List Value} {M : am_M} {Q : am_Q} (h : am_B L mt_Z_digest k_Z_digest_36 n 36 ls st M Q) : am_R L mt_Z_digest n 36 ls st M Q := am_go L mt_Z_digest (fun h => by cases h) k_Z_digest_36 n 36 ls st M Q o_Z_digest_36 h
def k_Z_digest_38 : List am_I := [(.iload_n 3, 1, 0, 0, 0), (.iconst 5, 1, 0, 0, 0), (.if_icmp .ge 101, 3, 0, 0, 0), (.iconst 0, 1, 0, 0, 0), (.istore 4, 2, 0, 0, 0)]
set_option maxRecDepth 20000 in
theorem o_Z_digest_38 : am_okB mt_Z_digest 38 k_Z_digest_38 = true := by decide +kernel
theorem g_Z_digest_38 {L : am_S} {n : Nat} {ls st : List Value} {M : am_M} {Q : am_Q} (h : am_B L mt_Z_digest k_Z_digest_38 n 38 ls st M Q) : am_R L mt_Z_digest n 38 ls st M Q := am_go L mt_Z_digest (fun h => by cases h) k_Z_digest_38 n 38 ls st M Q o_Z_digest_38 h
def k_Z_digest_46 : List am_I := [(.iload 4, 2, 0, 0, 0), (.bipush 10, 2, 0, 0, 0), (.if_icmp .ge 24, 3, 0, 0, 0), (.ldc2_w 215, 3, 31, 0, 1060), (.lload_n 1, 1, 0, 0, 0), (.lmul, 1, 0, 0, 0), (.aload_n 0, 1, 0, 0, 0), (.iload_n 3, 1, 0, 0, 0), (.iload 4, 2, 0, 0, 0), (.invokevirtual 161, 3, 123, 3, 963), (.i2l, 1, 0, 0, 0), (.ladd, 1, 0, 0, 0), (.lstore_n 1, 1, 0, 0, 0), (.iinc 4 1, 3, 0, 0, 0), (.goto (-25), 3, 0, 0, 0)]
set_option maxRecDepth 20000 in
theorem o_Z_digest_46 : am_okB mt_Z_digest 46 k_Z_digest_46 = true := by decide +kernel
theorem g_Z_digest_46 {L : am_S} {n : Nat} {ls st : List Value} {M : am_M} {Q : am_Q} (h : am_B L mt_Z_digest k_Z_digest_46 n 46 ls st M Q) : am_R L mt_Z_digest n 46 ls st M Q := am_go L mt_Z_digest (fun h => by cases h) k_Z_digest_46 n 46 ls st M Q o_Z_digest_46 h
def k_Z_digest_74 : List am_I := [(.ldc2_w 215, 3, 31, 0, 1060), (.lload_n 1, 1, 0, 0, 0), (.lmul, 1, 0, 0, 0), (.aload_n 0, 1, 0, 0, 0), (.iload_n 3, 1, 0, 0, 0), (.invokevirtual 191, 3, 136, 2, 1023), (.i2l, 1, 0, 0, 0), (.ladd, 1, 0, 0, 0), (.lstore_n 1, 1, 0, 0, 0), (.ldc2_w 215, 3, 31, 0, 1060), (.lload_n 1, 1, 0, 0, 0), (.lmul, 1, 0, 0, 0), (.aload_n 0, 1, 0, 0, 0), (.bipush 24, 2, 0, 0, 0), (.iload_n 3, 1, 0, 0, 0), (.iconst 1, 1, 0, 0, 0), (.invokevirtual 188, 3, 134, 4, 1007), (.i2l, 1, 0, 0, 0), (.ladd, 1, 0, 0, 0), (.lstore_n 1, 1, 0, 0, 0), (.ldc2_w 215, 3, 31, 0, 1060), (.lload_n 1, 1, 0, 0, 0), (.lmul, 1, 0, 0, 0), (.aload_n 0, 1, 0, 0, 0), (.bipush 24, 2, 0, 0, 0), (.iload_n 3, 1, 0, 0, 0), (.iconst 2, 1, 0, 0, 0), (.invokevirtual 188, 3, 134, 4, 1007), (.i2l, 1, 0, 0, 0), (.ladd, 1, 0, 0, 0), (.lstore_n 1, 1, 0, 0, 0), (.ldc2_w 215, 3, 31, 0, 1060), (.lload_n 1, 1, 0, 0, 0), (.lmul, 1, 0, 0, 0), (.aload_n 0, 1, 0, 0, 0), (.bipush 24, 2, 0, 0, 0), (.iload_n 3, 1, 0, 0, 0), (.iconst 5, 1, 0, 0, 0), (.invokevirtual 188, 3, 134, 4, 1007), (.i2l, 1, 0, 0, 0), (.ladd, 1, 0, 0, 0), (.lstore_n 1, 1, 0, 0, 0), (.iinc 3 1, 3, 0, 0, 0), (.goto (-100), 3, 0, 0, 0)]
set_option maxRecDepth 20000 in
theorem o_Z_digest_74 : am_okB mt_Z_digest 74 k_Z_digest_74 = true := by decide +kernel
theorem g_Z_digest_74 {L : am_S} {n : Nat} {ls st : List Value} {M : am_M} {Q : am_Q} (h : am_B L mt_Z_digest k_Z_digest_74 n 74 ls st M Q) : am_R L mt_Z_digest n 74 ls st M Q := am_go L mt_Z_digest (fun h => by cases h) k_Z_digest_74 n 74 ls st M Q o_Z_digest_74 h
def k_Z_digest_141 : List am_I := [(.iconst 0, 1, 0, 0, 0), (.istore_n 3, 1, 0, 0, 0)]
set_option maxRecDepth 20000 in
theorem o_Z_digest_141 : am_okB mt_Z_digest 141 k_Z_digest_141 = true := by decide +kernel
theorem g_Z_digest_141 {L : am_S} {n : Nat} {ls st : List Value} {M : am_M} {Q : am_Q} (h : am_B L mt_Z_digest k_Z_digest_141 n 141 ls st M Q) : am_R L mt_Z_digest n 141 ls st M Q := am_go L mt_Z_digest (fun h => by cases h) k_Z_digest_141 n 141 ls st M Q o_Z_digest_141 h
def k_Z_digest_143 : List am_I := [(.iload_n 3, 1, 0, 0, 0), (.aload_n 0, 1, 0, 0, 0), (.getfield 7, 3, 4, 1, 728), (.iconst 5, 1, 0, 0, 0), (.iaload, 1, 0, 0, 0), (.if_icmp .ge 40, 3, 0, 0, 0), (.iconst 0, 1, 0, 0, 0), (.istore 4, 2, 0, 0, 0)]
set_option maxRecDepth 20000 in
theorem o_Z_digest_143 : am_okB mt_Z_digest 143 k_Z_digest_143 = true := by decide +kernel
theorem g_Z_digest_143 {L : am_S} {n : Nat} {ls st : List Value} {M : am_M} {Q : am_Q} (h : am_B L mt_Z_digest k_Z_digest_143 n 143 ls st M Q) : am_R L mt_Z_digest n 143 ls st M Q := am_go L mt_Z_digest (fun h => by cases h) k_Z_digest_143 n 143 ls st M Q o_Z_digest_143 h
def k_Z_digest_156 : List am_I := [(.iload 4, 2, 0, 0, 0), (.bipush 7, 2, 0, 0, 0), (.if_icmp .ge 24, 3, 0, 0, 0), (.ldc2_w 215, 3, 31, 0, 1060), (.lload_n 1, 1, 0, 0, 0), (.lmul, 1, 0, 0, 0), (.aload_n 0, 1, 0, 0, 0), (.iload_n 3, 1, 0, 0, 0), (.iload 4, 2, 0, 0, 0), (.invokevirtual 164, 3, 125, 3, 971), (.i2l, 1, 0, 0, 0), (.ladd, 1, 0, 0, 0), (.lstore_n 1, 1, 0, 0, 0), (.iinc 4 1, 3, 0, 0, 0), (.goto (-25), 3, 0, 0, 0)]
set_option maxRecDepth 20000 in
theorem o_Z_digest_156 : am_okB mt_Z_digest 156 k_Z_digest_156 = true := by decide +kernel
theorem g_Z_digest_156 {L : am_S} {n : Nat} {ls st : List Value} {M : am_M} {Q : am_Q} (h : am_B L mt_Z_digest k_Z_digest_156 n 156 ls st M Q) : am_R L mt_Z_digest n 156 ls st M Q := am_go L mt_Z_digest (fun h => by cases h) k_Z_digest_156 n 156 ls st M Q o_Z_digest_156 h
def k_Z_digest_184 : List am_I := [(.iinc 3 1, 3, 0, 0, 0), (.goto (-44), 3, 0, 0, 0)]
set_option maxRecDepth 20000 in
theorem o_Z_digest_184 : am_okB mt_Z_digest 184 k_Z_digest_184 = true := by decide +kernel
theorem g_Z_digest_184 {L : am_S} {n : Nat} {ls st : List Value} {M : am_M} {Q : am_Q} (h : am_B L mt_Z_digest k_Z_digest_184 n 184 ls st M Q) : am_R L mt_Z_digest n 184 ls st M Q := am_go L mt_Z_digest (fun h => by cases h) k_Z_digest_184 n 184 ls st M Q o_Z_digest_184 h
def k_Z_digest_190 : List am_I := [(.iconst 0, 1, 0, 0, 0), (.istore_n 3, 1, 0, 0, 0)]
set_option maxRecDepth 20000 in
theorem o_Z_digest_190 : am_okB mt_Z_digest 190 k_Z_digest_190 = true := by decide +kernel
theorem g_Z_digest_190 {L : am_S} {n : Nat} {ls st : List Value} {M : am_M} {Q : am_Q} (h : am_B L mt_Z_digest k_Z_digest_190 n 190 ls st M Q) : am_R L mt_Z_digest n 190 ls st M Q := am_go L mt_Z_digest (fun h => by cases h) k_Z_digest_190 n 190 ls st M Q o_Z_digest_190 h
def k_Z_digest_192 : List am_I := [(.iload_n 3, 1, 0, 0, 0), (.iconst 3, 1, 0, 0, 0), (.if_icmp .ge 39, 3, 0, 0, 0), (.iconst 0, 1, 0, 0, 0), (.istore 4, 2, 0, 0, 0)]
set_option maxRecDepth 20000 in
theorem o_Z_digest_192 : am_okB mt_Z_digest 192 k_Z_digest_192 = true := by decide +kernel
theorem g_Z_digest_192 {L : am_S} {n : Nat} {ls st : List Value} {M : am_M} {Q : am_Q} (h : am_B L mt_Z_digest k_Z_digest_192 n 192 ls st M Q) : am_R L mt_Z_digest n 192 ls st M Q := am_go L mt_Z_digest (fun h => by cases h) k_Z_digest_192 n 192 ls st M Q o_Z_digest_192 h
def k_Z_digest_200 : List am_I := [(.iload 4, 2, 0, 0, 0), (.iconst 5, 1, 0, 0, 0), (.if_icmp .ge 24, 3, 0, 0, 0), (.ldc2_w 215, 3, 31, 0, 1060), (.lload_n 1, 1, 0, 0, 0), (.lmul, 1, 0, 0, 0), (.aload_n 0, 1, 0, 0, 0), (.iload_n 3, 1, 0, 0, 0), (.iload 4, 2, 0, 0, 0), (.invokevirtual 173, 3, 129, 3, 979), (.i2l, 1, 0, 0, 0), (.ladd, 1, 0, 0, 0), (.lstore_n 1, 1, 0, 0, 0), (.iinc 4 1, 3, 0, 0, 0), (.goto (-24), 3, 0, 0, 0)]
set_option maxRecDepth 20000 in
theorem o_Z_digest_200 : am_okB mt_Z_digest 200 k_Z_digest_200 = true := by decide +kernel
theorem g_Z_digest_200 {L : am_S} {n : Nat} {ls st : List Value} {M : am_M} {Q : am_Q} (h : am_B L mt_Z_digest k_Z_digest_200 n 200 ls st M Q) : am_R L mt_Z_digest n 200 ls st M Q := am_go L mt_Z_digest (fun h => by cases h) k_Z_digest_200 n 200 ls st M Q o_Z_digest_200 h
def k_Z_digest_227 : List am_I := [(.iinc 3 1, 3, 0, 0, 0), (.goto (-38), 3, 0, 0, 0)]
set_option maxRecDepth 20000 in
theorem o_Z_digest_227 : am_okB mt_Z_digest 227 k_Z_digest_227 = true := by decide +kernel
theorem g_Z_digest_227 {L : am_S} {n : Nat} {ls st : List Value} {M : am_M} {Q : am_Q} (h : am_B L mt_Z_digest k_Z_digest_227 n 227 ls st M Q) : am_R L mt_Z_digest n 227 ls st M Q := am_go L mt_Z_digest (fun h => by cases h) k_Z_digest_227 n 227 ls st M Q o_Z_digest_227 h
def k_Z_digest_233 : List am_I := [(.aload_n 0, 1, 0, 0, 0), (.invokevirtual 203, 3, 139, 1, 1031), (.ldc2_w 215, 3, 31, 0, 1060), (.ldc2_w 215, 3, 31, 0, 1060), (.lload_n 1, 1, 0, 0, 0), (.lmul, 1, 0, 0, 0), (.aload_n 0, 1, 0, 0, 0), (.getfield 194, 3, 4, 10, 737), (.i2l, 1, 0, 0, 0), (.ladd, 1, 0, 0, 0), (.lmul, 1, 0, 0, 0), (.aload_n 0, 1, 0, 0, 0), (.getfield 197, 3, 4, 11, 738), (.i2l, 1, 0, 0, 0), (.ladd, 1, 0, 0, 0), (.lstore_n 1, 1, 0, 0, 0), (.ldc2_w 215, 3, 31, 0, 1060), (.ldc2_w 215, 3, 31, 0, 1060), (.lload_n 1, 1, 0, 0, 0), (.lmul, 1, 0, 0, 0), (.aload_n 0, 1, 0, 0, 0), (.getfield 194, 3, 4, 10, 737), (.i2l, 1, 0, 0, 0), (.ladd, 1, 0, 0, 0), (.lmul, 1, 0, 0, 0), (.aload_n 0, 1, 0, 0, 0), (.getfield 197, 3, 4, 11, 738), (.i2l, 1, 0, 0, 0), (.ladd, 1, 0, 0, 0), (.lstore_n 1, 1, 0, 0, 0), (.ldc2_w 215, 3, 31, 0, 1060), (.lload_n 1, 1, 0, 0, 0), (.lmul, 1, 0, 0, 0), (.aload_n 0, 1, 0, 0, 0), (.invokevirtual 206, 3, 141, 1, 1043), (.i2l, 1, 0, 0, 0), (.ladd, 1, 0, 0, 0), (.lstore_n 1, 1, 0, 0, 0), (.ldc2_w 215, 3, 31, 0, 1060), (.lload_n 1, 1, 0, 0, 0), (.lmul, 1, 0, 0, 0), (.aload_n 0, 1, 0, 0, 0), (.invokevirtual 209, 3, 143, 1, 1051), (.invokestatic 217, 3, 1, 1, 1061), (.ladd, 1, 0, 0, 0), (.lstore_n 1, 1, 0, 0, 0), (.ldc2_w 215, 3, 31, 0, 1060), (.lload_n 1, 1, 0, 0, 0), (.lmul, 1, 0, 0, 0), (.aload_n 0, 1, 0, 0, 0), (.getfield 22, 3, 4, 6, 733), (.iconst 0, 1, 0, 0, 0), (.baload, 1, 0, 0, 0), (.ifCond .eq 7, 3, 0, 0, 0), (.iconst 1, 1, 0, 0, 0), (.goto 4, 3, 0, 0, 0)]
set_option maxRecDepth 20000 in
theorem o_Z_digest_233 : am_okB mt_Z_digest 233 k_Z_digest_233 = true := by decide +kernel
theorem g_Z_digest_233 {L : am_S} {n : Nat} {ls st : List Value} {M : am_M} {Q : am_Q} (h : am_B L mt_Z_digest k_Z_digest_233 n 233 ls st M Q) : am_R L mt_Z_digest n 233 ls st M Q := am_go L mt_Z_digest (fun h => by cases h) k_Z_digest_233 n 233 ls st M Q o_Z_digest_233 h
def k_Z_digest_325 : List am_I := [(.iconst 0, 1, 0, 0, 0)]
set_option maxRecDepth 20000 in
theorem o_Z_digest_325 : am_okB mt_Z_digest 325 k_Z_digest_325 = true := by decide +kernel
theorem g_Z_digest_325 {L : am_S} {n : Nat} {ls st : List Value} {M : am_M} {Q : am_Q} (h : am_B L mt_Z_digest k_Z_digest_325 n 325 ls st M Q) : am_R L mt_Z_digest n 325 ls st M Q := am_go L mt_Z_digest (fun h => by cases h) k_Z_digest_325 n 325 ls st M Q o_Z_digest_325 h
def k_Z_digest_326 : List am_I := [(.i2l, 1, 0, 0, 0), (.ladd, 1, 0, 0, 0), (.lstore_n 1, 1, 0, 0, 0), (.ldc2_w 215, 3, 31, 0, 1060), (.lload_n 1, 1, 0, 0, 0), (.lmul, 1, 0, 0, 0), (.aload_n 0, 1, 0, 0, 0), (.getfield 22, 3, 4, 6, 733), (.iconst 1, 1, 0, 0, 0), (.baload, 1, 0, 0, 0), (.ifCond .eq 7, 3, 0, 0, 0), (.iconst 1, 1, 0, 0, 0), (.goto 4, 3, 0, 0, 0)]
set_option maxRecDepth 20000 in
theorem o_Z_digest_326 : am_okB mt_Z_digest 326 k_Z_digest_326 = true := by decide +kernel
theorem g_Z_digest_326 {L : am_S} {n : Nat} {ls st : List Value} {M : am_M} {Q : am_Q} (h : am_B L mt_Z_digest k_Z_digest_326 n 326 ls st M Q) : am_R L mt_Z_digest n 326 ls st M Q := am_go L mt_Z_digest (fun h => by cases h) k_Z_digest_326 n 326 ls st M Q o_Z_digest_326 h
def k_Z_digest_347 : List am_I := [(.iconst 0, 1, 0, 0, 0)]
set_option maxRecDepth 20000 in
theorem o_Z_digest_347 : am_okB mt_Z_digest 347 k_Z_digest_347 = true := by decide +kernel
theorem g_Z_digest_347 {L : am_S} {n : Nat} {ls st : List Value} {M : am_M} {Q : am_Q} (h : am_B L mt_Z_digest k_Z_digest_347 n 347 ls st M Q) : am_R L mt_Z_digest n 347 ls st M Q := am_go L mt_Z_digest (fun h => by cases h) k_Z_digest_347 n 347 ls st M Q o_Z_digest_347 h
def k_Z_digest_348 : List am_I := [(.i2l, 1, 0, 0, 0), (.ladd, 1, 0, 0, 0), (.lstore_n 1, 1, 0, 0, 0), (.ldc2_w 215, 3, 31, 0, 1060), (.lload_n 1, 1, 0, 0, 0), (.lmul, 1, 0, 0, 0), (.aload_n 0, 1, 0, 0, 0), (.getfield 117, 3, 4, 8, 735), (.i2l, 1, 0, 0, 0), (.ladd, 1, 0, 0, 0), (.lstore_n 1, 1, 0, 0, 0), (.iconst 0, 1, 0, 0, 0), (.istore_n 3, 1, 0, 0, 0)]
set_option maxRecDepth 20000 in
theorem o_Z_digest_348 : am_okB mt_Z_digest 348 k_Z_digest_348 = true := by decide +kernel
theorem g_Z_digest_348 {L : am_S} {n : Nat} {ls st : List Value} {M : am_M} {Q : am_Q} (h : am_B L mt_Z_digest k_Z_digest_348 n 348 ls st M Q) : am_R L mt_Z_digest n 348 ls st M Q := am_go L mt_Z_digest (fun h => by cases h) k_Z_digest_348 n 348 ls st M Q o_Z_digest_348 h
def k_Z_digest_365 : List am_I := [(.iload_n 3, 1, 0, 0, 0), (.aload_n 0, 1, 0, 0, 0), (.getfield 117, 3, 4, 8, 735), (.if_icmp .ge 23, 3, 0, 0, 0), (.ldc2_w 215, 3, 31, 0, 1060), (.lload_n 1, 1, 0, 0, 0), (.lmul, 1, 0, 0, 0), (.aload_n 0, 1, 0, 0, 0), (.getfield 26, 3, 4, 7, 734), (.iload_n 3, 1, 0, 0, 0), (.iaload, 1, 0, 0, 0), (.i2l, 1, 0, 0, 0), (.ladd, 1, 0, 0, 0), (.lstore_n 1, 1, 0, 0, 0), (.iinc 3 1, 3, 0, 0, 0), (.goto (-25), 3, 0, 0, 0)]
set_option maxRecDepth 20000 in
theorem o_Z_digest_365 : am_okB mt_Z_digest 365 k_Z_digest_365 = true := by decide +kernel
theorem g_Z_digest_365 {L : am_S} {n : Nat} {ls st : List Value} {M : am_M} {Q : am_Q} (h : am_B L mt_Z_digest k_Z_digest_365 n 365 ls st M Q) : am_R L mt_Z_digest n 365 ls st M Q := am_go L mt_Z_digest (fun h => by cases h) k_Z_digest_365 n 365 ls st M Q o_Z_digest_365 h
def k_Z_digest_393 : List am_I := [(.lload_n 1, 1, 0, 0, 0), (.lreturn, 1, 0, 0, 0)]
set_option maxRecDepth 20000 in
theorem o_Z_digest_393 : am_okB mt_Z_digest 393 k_Z_digest_393 = true := by decide +kernel
theorem g_Z_digest_393 {L : am_S} {n : Nat} {ls st : List Value} {M : am_M} {Q : am_Q} (h : am_B L mt_Z_digest k_Z_digest_393 n 393 ls st M Q) : am_R L mt_Z_digest n 393 ls st M Q := am_go L mt_Z_digest (fun h => by cases h) k_Z_digest_393 n 393 ls st M Q o_Z_digest_393 h
