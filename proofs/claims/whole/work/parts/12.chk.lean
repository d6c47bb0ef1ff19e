/-! charAt of the constant of signs; the check of a stretch of code; the rule of a stretch: written by wip/whole/mk12.py -/
theorem am_C_mono {t : am_MT} {av : List Value} {M : am_M} {K K' : am_Q} (h : am_C t av M K) (hK : ∀ (o : am_O) (M' : am_M), K o M' → K' o M') : am_C t av M K' := by
  intro l a D g sz hst
  have h1 := h l a D g sz hst
  intro p e ha hc hk s m args below hf happ hP hT
  obtain ⟨k, oc, q1, q2, q3, hQ⟩ := h1 p e ha hc hk s m args below hf happ hP hT
  refine ⟨k, oc, q1, q2, q3, ?_⟩
  rcases hQ with ⟨⟨⟨v, M', e1, e2, e3⟩, e4, e5⟩, e6⟩ | ⟨q, e1, E, ce, Lc, ⟨⟨M', f1, f2⟩, f3⟩, e3⟩
  · exact Or.inl ⟨⟨⟨v, M', e1, hK _ _ e2, e3⟩, e4, e5⟩, e6⟩
  · exact Or.inr ⟨q, e1, E, ce, Lc, ⟨⟨M', hK _ _ f1, f2⟩, f3⟩, e3⟩
def am_pls : List (Nat × Nat) := [(1065, 0), (1062, 0), (343, 0), (275, 276), (294, 295), (320, 321), (339, 340), (349, 350), (361, 362), (369, 370), (377, 378), (282, 283), (642, 643), (563, 564), (286, 287), (291, 6), (313, 9), (317, 10), (303, 8), (299, 7), (382, 16), (386, 17), (306, 0), (201, 202), (636, 637), (206, 0), (210, 1), (267, 5), (214, 2), (218, 3), (222, 4), (389, 390), (395, 396), (408, 409), (400, 18), (405, 19), (425, 426), (531, 532), (559, 560), (573, 574), (580, 581), (589, 590), (601, 602), (609, 610), (616, 617), (624, 625), (193, 194), (197, 198), (632, 633), (649, 650), (656, 657), (664, 665), (672, 673), (679, 680), (686, 687), (693, 694), (700, 701), (707, 708), (714, 715), (271, 272), (324, 325), (328, 329), (354, 12), (366, 14), (374, 15), (414, 0), (335, 11), (358, 13), (519, 21), (524, 22), (429, 0), (535, 0), (594, 23), (499, 0), (780, 781), (792, 0), (838, 0), (815, 27), (725, 24), (819, 28), (894, 37), (811, 0), (826, 0), (858, 31), (796, 25), (835, 29), (890, 36), (804, 26), (784, 785), (788, 789), (799, 800), (1013, 57), (1017, 58), (807, 808), (822, 823), (830, 831), (841, 842), (850, 30), (845, 846), (862, 32), (853, 854), (870, 33), (865, 866), (873, 874), (898, 38), (902, 39), (906, 40), (886, 35), (882, 34), (877, 878), (909, 910), (913, 914), (934, 44), (938, 45), (942, 46), (930, 43), (953, 0), (946, 47), (950, 48), (926, 42), (922, 41), (917, 918), (956, 957), (965, 49), (960, 961), (973, 50), (968, 969), (985, 52), (989, 53), (981, 51), (976, 977), (1001, 55), (997, 54), (992, 993), (1009, 56), (1004, 1005), (1025, 59), (1020, 1021), (1037, 61), (1033, 60), (1028, 1029), (1045, 62), (1040, 1041), (1053, 63), (1048, 1049), (1056, 1057), (420, 0), (527, 0), (556, 0), (570, 0), (577, 0), (586, 0), (598, 0), (606, 0), (613, 0), (621, 0), (629, 0), (646, 0), (653, 0), (661, 0), (669, 0), (676, 0), (683, 0), (690, 0), (697, 0), (704, 0), (711, 0), (0, 0)]
def am_pl (k : Nat) : Nat × Nat := am_pls.getD k (0, 0)
def am_isp : Instr → Bool
  | .iconst _ => true | .bipush _ => true | .sipush _ => true | .lconst _ => true | .dconst _ => true | .iload_n _ => true | .iload _ => true | .aload_n _ => true | .aload _ => true | .lload_n _ => true | .lload _ => true | .dload_n _ => true | .dload _ => true
  | .iadd => true | .isub => true | .imul => true | .iand => true | .ixor => true | .ishl => true | .ishr => true | .iushr => true | .ladd => true | .lsub => true | .lmul => true | .ineg => true | .lshl => true | .lcmp => true | .dcmp _ => true | .i2l => true | .i2d => true | .d2l => true | .dup => true | .dup2 => true | .pop => true
  | _ => false
def am_iss : Instr → Bool
  | .istore_n _ => true | .istore _ => true | .astore_n _ => true | .astore _ => true | .lstore_n _ => true | .lstore _ => true | .dstore_n _ => true | .dstore _ => true | .iinc _ _ => true
  | _ => false
theorem am_isp_of {i : Instr} {ls st st' : List Value} (h : am_pu i ls st = some st') : am_isp i = true := by
  cases i <;> first | rfl | (exact absurd h (by simp [am_pu]))
theorem am_iss_of {i : Instr} {ls st : List Value} {q : List Value × List Value} (h : am_sto i ls st = some q) : am_iss i = true := by
  cases i <;> first | rfl | (exact absurd h (by simp [am_sto]))
def am_fty (x y : Nat) : FieldType := match Nat.beq (17 * x + y) 83 with
  | true => .boolean
  | false => .int
/-- what a program checks of a call of a method of ours -/
def am_ckc (t u : am_MT) (pc na : Nat) : Bool := decide ((parseMethodDescriptor (mt_y u).desc).map (fun d => d.parameters.length) = some na) && (decide (mt_rf u + 1 ≤ mt_rf t) && (decide (8 + (mt_l u + 11) + mt_rl u ≤ mt_rl t) && ((!mt_g u || mt_g t) && (decide (mt_h t = []) || (mt_g t && (decide ((mt_y t).cls = "DyeVatsLaw") && am_cov pc (mt_h t)))))))
def am_ck (t : am_MT) (pc : Nat) (i : Instr) (w x y z : Nat) : Bool := match i with
  | .ifCond _ o => decide (w = 3) && decide (0 ≤ (pc : Int) + o)
  | .if_icmp _ o => decide (w = 3) && decide (0 ≤ (pc : Int) + o)
  | .goto o => decide (w = 3) && decide (0 ≤ (pc : Int) + o)
  | .tableswitch d lo hi os => decide (0 ≤ (pc : Int) + d) && (os.toList.all (fun o => decide (0 ≤ (pc : Int) + o)) && decide (hi < lo + os.size))
  | .lookupswitch d ps => decide (0 ≤ (pc : Int) + d) && (ps.toList.all (fun q => decide (0 ≤ (pc : Int) + q.2)) && (ps.toList.zip (ps.toList.drop 1)).all (fun (a, next) => a.1 < next.1))
  | .ldc idx => decide (w = 2) && (match y with
    | 0 => decide (lw_tbl[z]? = some (.constant (mt_y t).cls idx (nI x)))
    | _ => decide ((mt_y t).cls = RX2) && decide (idx = 45))
  | .ldc_w idx => decide (w = 3) && decide (lw_tbl[z]? = some (.constant (mt_y t).cls idx (nI x)))
  | .ldc2_w idx => decide (w = 3) && (match y with
    | 0 => decide (lw_tbl[z]? = some (.constantLong (mt_y t).cls idx (lN x)))
    | _ => decide (lw_tbl[z]? = some (.constantDouble (mt_y t).cls idx (UInt64.ofNat x))))
  | .getfield idx => decide (w = 3) && (decide (lw_tbl[z]? = some (.fieldLink (mt_y t).cls idx (am_T x y).1 (am_T x y).2.1 (am_T x y).2.2.1)) && (decide (x < 5) && decide (y < am_nf x)))
  | .putfield idx => decide (w = 3) && (decide (lw_tbl[z]? = some (.fieldLink (mt_y t).cls idx (am_T x y).1 (am_T x y).2.1 (am_T x y).2.2.1)) && (decide (x < 5) && (decide (y < am_nf x) && (decide ((am_T x y).2.2.2 = false) && (decide (parseFieldDescriptor (am_T x y).2.2.1 = some (am_fty x y)) && (decide (am_fr x y = 0) && decide (x ≠ 1)))))))
  | .invokestatic idx => decide (w = 3) && (match x with
    | 200 => decide (lw_tbl[z]? = some (.methodLink (mt_y t).cls idx Lib.Math.min.name)) && (decide (1 ≤ mt_rf t) && decide (21 ≤ mt_rl t))
    | 201 => decide (lw_tbl[z]? = some (.methodLink (mt_y t).cls idx Lib.Math.max.name)) && (decide (1 ≤ mt_rf t) && decide (21 ≤ mt_rl t))
    | 202 => decide (lw_tbl[z]? = some (.methodLink (mt_y t).cls idx arraycopyName)) && (decide (1 ≤ mt_rf t) && decide (40 ≤ mt_rl t))
    | 203 => decide (lw_tbl[z]? = some (.methodLink (mt_y t).cls idx ⟨"java/lang/Double", "doubleToRawLongBits", "(D)J"⟩)) && (decide (1 ≤ mt_rf t) && decide (23 ≤ mt_rl t))
    | _ => decide (x < 167) && (decide (lw_tbl[z]? = some (.methodLink (mt_y t).cls idx (mt_y (am_mt x)))) && (decide (lw_tbl[(am_pl x).1]? = some (.static (mt_y (am_mt x)))) && am_ckc t (am_mt x) pc y)))
  | .invokevirtual idx => decide (w = 3) && (match x with
    | 204 => decide (lw_tbl[z]? = some (.methodLink (mt_y t).cls idx ⟨"java/lang/String", "charAt", "(I)C"⟩)) && (decide (4 ≤ mt_rf t) && decide (85 ≤ mt_rl t))
    | _ => decide (x < 167) && (decide (1 ≤ y) && (decide (lw_tbl[z]? = some (.methodLink (mt_y t).cls idx (mt_y (am_mt x)))) && (decide (lw_tbl[(am_pl x).1]? = some (.instanceMethod (mt_y (am_mt x)))) && (decide (lw_tbl[(am_pl x).2]? = some (.selects (mt_y (am_mt x)).cls (mt_y (am_mt x)) (mt_y (am_mt x)))) && (decide (am_cx x < 5) && (decide ((mt_y (am_mt x)).cls = am_Rn (am_cx x)) && (decide (mt_h (am_mt x) = []) && (decide (mt_g (am_mt x) = false) && am_ckc t (am_mt x) pc (y - 1))))))))))
  | .new idx => decide (x < 3) && (decide (idx = am_kx x) && (decide (w = 3) && (decide (mt_h t = []) && (decide ((mt_y t).cls = RX3) && (decide (6 ≤ mt_rf t) && (decide (90 ≤ mt_rl t) && (am_tx.any (fun q => decide (q.1 = y)) && (decide (decode (mt_b t) (pc + 3) = .ok (.dup, 1)) && (decide (decode (mt_b t) (pc + 4) = .ok (.ldc y, 2)) && (decide (decode (mt_b t) (pc + 6) = .ok (.invokespecial (am_ix x), 3)) && decide (decode (mt_b t) (pc + 9) = .ok (.athrow, 1))))))))))))
  | i => decide (w = 1) || (am_isp i || am_iss i)
def am_okB (t : am_MT) : Nat → List am_I → Bool
  | _, [] => true
  | pc, (i, w, x, y, z) :: is => decide (decode (mt_b t) pc = .ok (i, w)) && ((!am_isp i || am_ckp i w) && ((!am_iss i || am_cks (mt_l t) i w) && (am_ck t pc i w x y z && am_okB t (pc + w) is)))
theorem am_wmin : Jvm.Cond.static Lib.Math.min.name ∈ am_good ∧ Jvm.Cond.initialized "java/lang/Math" ∈ am_good ∧ Jvm.Cond.code Lib.Math.min.name Lib.Math.min.code 2 (some .int) ∈ am_good := by decide +kernel
theorem am_wmax : Jvm.Cond.static Lib.Math.max.name ∈ am_good ∧ Jvm.Cond.initialized "java/lang/Math" ∈ am_good ∧ Jvm.Cond.code Lib.Math.max.name Lib.Math.max.code 2 (some .int) ∈ am_good := by decide +kernel
theorem am_wcpy : Jvm.Cond.native arraycopyName ∈ am_good ∧ Jvm.Cond.static arraycopyName ∈ am_good ∧ Jvm.Cond.initialized "java/lang/System" ∈ am_good := by decide +kernel
theorem am_wd2l : Jvm.Cond.native ⟨"java/lang/Double", "doubleToRawLongBits", "(D)J"⟩ ∈ am_good ∧ Jvm.Cond.static ⟨"java/lang/Double", "doubleToRawLongBits", "(D)J"⟩ ∈ am_good ∧ Jvm.Cond.initialized "java/lang/Double" ∈ am_good := by decide +kernel
set_option maxRecDepth 20000 in
theorem om_J_isNaN : am_okM mt_J_isNaN := ⟨am_good_of (k := 1066) rfl rfl, am_good_of (k := 83) rfl rfl, by decide, by decide, by decide⟩
set_option maxRecDepth 20000 in
theorem om_J_doubleToLongBits : am_okM mt_J_doubleToLongBits := ⟨am_good_of (k := 1063) rfl rfl, am_good_of (k := 83) rfl rfl, by decide, by decide, by decide⟩
set_option maxRecDepth 20000 in
theorem om_J_bitCount : am_okM mt_J_bitCount := ⟨am_good_of (k := 344) rfl rfl, am_good_of (k := 82) rfl rfl, by decide, by decide, by decide⟩
set_option maxRecDepth 20000 in
theorem om_S_takeFrom : am_okM mt_S_takeFrom := ⟨am_good_of (k := 277) rfl rfl, am_good_of (k := 66) rfl rfl, by decide, by decide, by decide⟩
set_option maxRecDepth 20000 in
theorem om_S_hourOfDay : am_okM mt_S_hourOfDay := ⟨am_good_of (k := 296) rfl rfl, am_good_of (k := 66) rfl rfl, by decide, by decide, by decide⟩
set_option maxRecDepth 20000 in
theorem om_S_limitIn : am_okM mt_S_limitIn := ⟨am_good_of (k := 322) rfl rfl, am_good_of (k := 66) rfl rfl, by decide, by decide, by decide⟩
set_option maxRecDepth 20000 in
theorem om_S_pipesLaid : am_okM mt_S_pipesLaid := ⟨am_good_of (k := 341) rfl rfl, am_good_of (k := 66) rfl rfl, by decide, by decide, by decide⟩
set_option maxRecDepth 20000 in
theorem om_S_waterInAll : am_okM mt_S_waterInAll := ⟨am_good_of (k := 351) rfl rfl, am_good_of (k := 66) rfl rfl, by decide, by decide, by decide⟩
set_option maxRecDepth 20000 in
theorem om_S_vatProperty : am_okM mt_S_vatProperty := ⟨am_good_of (k := 363) rfl rfl, am_good_of (k := 66) rfl rfl, by decide, by decide, by decide⟩
set_option maxRecDepth 20000 in
theorem om_S_valveProperty : am_okM mt_S_valveProperty := ⟨am_good_of (k := 371) rfl rfl, am_good_of (k := 66) rfl rfl, by decide, by decide, by decide⟩
set_option maxRecDepth 20000 in
theorem om_S_dyeProperty : am_okM mt_S_dyeProperty := ⟨am_good_of (k := 379) rfl rfl, am_good_of (k := 66) rfl rfl, by decide, by decide, by decide⟩
set_option maxRecDepth 20000 in
theorem om_S_removeValve : am_okM mt_S_removeValve := ⟨am_good_of (k := 284) rfl rfl, am_good_of (k := 66) rfl rfl, by decide, by decide, by decide⟩
set_option maxRecDepth 20000 in
theorem om_S_takeValves : am_okM mt_S_takeValves := ⟨am_good_of (k := 644) rfl rfl, am_good_of (k := 66) rfl rfl, by decide, by decide, by decide⟩
set_option maxRecDepth 20000 in
theorem om_S_dissolveSettled : am_okM mt_S_dissolveSettled := ⟨am_good_of (k := 565) rfl rfl, am_good_of (k := 66) rfl rfl, by decide, by decide, by decide⟩
set_option maxRecDepth 20000 in
theorem om_S_runHours : am_okM mt_S_runHours := ⟨am_good_of (k := 288) rfl rfl, am_good_of (k := 66) rfl rfl, by decide, by decide, by decide⟩
set_option maxRecDepth 20000 in
theorem om_S_runValves : am_okM mt_S_runValves := ⟨am_good_of (k := 292) rfl rfl, am_good_of (k := 66) rfl rfl, by decide, by decide, by decide⟩
set_option maxRecDepth 20000 in
theorem om_S_levelPipes : am_okM mt_S_levelPipes := ⟨am_good_of (k := 314) rfl rfl, am_good_of (k := 66) rfl rfl, by decide, by decide, by decide⟩
set_option maxRecDepth 20000 in
theorem om_S_settleGrains : am_okM mt_S_settleGrains := ⟨am_good_of (k := 318) rfl rfl, am_good_of (k := 66) rfl rfl, by decide, by decide, by decide⟩
set_option maxRecDepth 20000 in
theorem om_S_moveWater : am_okM mt_S_moveWater := ⟨am_good_of (k := 304) rfl rfl, am_good_of (k := 66) rfl rfl, by decide, by decide, by decide⟩
set_option maxRecDepth 20000 in
theorem om_S_isOpen : am_okM mt_S_isOpen := ⟨am_good_of (k := 300) rfl rfl, am_good_of (k := 66) rfl rfl, by decide, by decide, by decide⟩
set_option maxRecDepth 20000 in
theorem om_S_grainsInAll : am_okM mt_S_grainsInAll := ⟨am_good_of (k := 383) rfl rfl, am_good_of (k := 66) rfl rfl, by decide, by decide, by decide⟩
set_option maxRecDepth 20000 in
theorem om_S_strongestVat : am_okM mt_S_strongestVat := ⟨am_good_of (k := 387) rfl rfl, am_good_of (k := 66) rfl rfl, by decide, by decide, by decide⟩
set_option maxRecDepth 20000 in
theorem om_S_isVat : am_okM mt_S_isVat := ⟨am_good_of (k := 307) rfl rfl, am_good_of (k := 66) rfl rfl, by decide, by decide, by decide⟩
set_option maxRecDepth 20000 in
theorem om_T_readCodes : am_okM mt_T_readCodes := ⟨am_good_of (k := 203) rfl rfl, am_good_of (k := 68) rfl rfl, by decide, by decide, by decide⟩
set_option maxRecDepth 20000 in
theorem om_T_endsWell : am_okM mt_T_endsWell := ⟨am_good_of (k := 638) rfl rfl, am_good_of (k := 68) rfl rfl, by decide, by decide, by decide⟩
set_option maxRecDepth 20000 in
theorem om_T_takesCode : am_okM mt_T_takesCode := ⟨am_good_of (k := 207) rfl rfl, am_good_of (k := 68) rfl rfl, by decide, by decide, by decide⟩
set_option maxRecDepth 20000 in
theorem om_T_takesDigit : am_okM mt_T_takesDigit := ⟨am_good_of (k := 211) rfl rfl, am_good_of (k := 68) rfl rfl, by decide, by decide, by decide⟩
set_option maxRecDepth 20000 in
theorem om_T_isWholeNumber : am_okM mt_T_isWholeNumber := ⟨am_good_of (k := 268) rfl rfl, am_good_of (k := 68) rfl rfl, by decide, by decide, by decide⟩
set_option maxRecDepth 20000 in
theorem om_T_canBecomeWhole : am_okM mt_T_canBecomeWhole := ⟨am_good_of (k := 215) rfl rfl, am_good_of (k := 68) rfl rfl, by decide, by decide, by decide⟩
set_option maxRecDepth 20000 in
theorem om_T_leastOfPart : am_okM mt_T_leastOfPart := ⟨am_good_of (k := 219) rfl rfl, am_good_of (k := 68) rfl rfl, by decide, by decide, by decide⟩
set_option maxRecDepth 20000 in
theorem om_T_mostOfPart : am_okM mt_T_mostOfPart := ⟨am_good_of (k := 223) rfl rfl, am_good_of (k := 68) rfl rfl, by decide, by decide, by decide⟩
set_option maxRecDepth 20000 in
theorem om_D_beginWith : am_okM mt_D_beginWith := ⟨am_good_of (k := 391) rfl rfl, am_good_of (k := 67) rfl rfl, by decide, by decide, by decide⟩
set_option maxRecDepth 20000 in
theorem om_D_findByRunners : am_okM mt_D_findByRunners := ⟨am_good_of (k := 397) rfl rfl, am_good_of (k := 67) rfl rfl, by decide, by decide, by decide⟩
set_option maxRecDepth 20000 in
theorem om_D_findByLookingBack : am_okM mt_D_findByLookingBack := ⟨am_good_of (k := 410) rfl rfl, am_good_of (k := 67) rfl rfl, by decide, by decide, by decide⟩
set_option maxRecDepth 20000 in
theorem om_D_reachDay : am_okM mt_D_reachDay := ⟨am_good_of (k := 401) rfl rfl, am_good_of (k := 67) rfl rfl, by decide, by decide, by decide⟩
set_option maxRecDepth 20000 in
theorem om_D_isSameLook : am_okM mt_D_isSameLook := ⟨am_good_of (k := 406) rfl rfl, am_good_of (k := 67) rfl rfl, by decide, by decide, by decide⟩
set_option maxRecDepth 20000 in
theorem om_V_fill : am_okM mt_V_fill := ⟨am_good_of (k := 427) rfl rfl, am_good_of (k := 65) rfl rfl, by decide, by decide, by decide⟩
set_option maxRecDepth 20000 in
theorem om_V_dye : am_okM mt_V_dye := ⟨am_good_of (k := 533) rfl rfl, am_good_of (k := 65) rfl rfl, by decide, by decide, by decide⟩
set_option maxRecDepth 20000 in
theorem om_V_stir : am_okM mt_V_stir := ⟨am_good_of (k := 561) rfl rfl, am_good_of (k := 65) rfl rfl, by decide, by decide, by decide⟩
set_option maxRecDepth 20000 in
theorem om_V_capacity : am_okM mt_V_capacity := ⟨am_good_of (k := 575) rfl rfl, am_good_of (k := 65) rfl rfl, by decide, by decide, by decide⟩
set_option maxRecDepth 20000 in
theorem om_V_valve : am_okM mt_V_valve := ⟨am_good_of (k := 582) rfl rfl, am_good_of (k := 65) rfl rfl, by decide, by decide, by decide⟩
set_option maxRecDepth 20000 in
theorem om_V_close : am_okM mt_V_close := ⟨am_good_of (k := 591) rfl rfl, am_good_of (k := 65) rfl rfl, by decide, by decide, by decide⟩
set_option maxRecDepth 20000 in
theorem om_V_pipe : am_okM mt_V_pipe := ⟨am_good_of (k := 603) rfl rfl, am_good_of (k := 65) rfl rfl, by decide, by decide, by decide⟩
set_option maxRecDepth 20000 in
theorem om_V_set : am_okM mt_V_set := ⟨am_good_of (k := 611) rfl rfl, am_good_of (k := 65) rfl rfl, by decide, by decide, by decide⟩
set_option maxRecDepth 20000 in
theorem om_V_pass : am_okM mt_V_pass := ⟨am_good_of (k := 618) rfl rfl, am_good_of (k := 65) rfl rfl, by decide, by decide, by decide⟩
set_option maxRecDepth 20000 in
theorem om_V_append : am_okM mt_V_append := ⟨am_good_of (k := 626) rfl rfl, am_good_of (k := 65) rfl rfl, by decide, by decide, by decide⟩
set_option maxRecDepth 20000 in
theorem om_V_clearBuffer : am_okM mt_V_clearBuffer := ⟨am_good_of (k := 195) rfl rfl, am_good_of (k := 65) rfl rfl, by decide, by decide, by decide⟩
set_option maxRecDepth 20000 in
theorem om_V_firstError : am_okM mt_V_firstError := ⟨am_good_of (k := 199) rfl rfl, am_good_of (k := 65) rfl rfl, by decide, by decide, by decide⟩
set_option maxRecDepth 20000 in
theorem om_V_load : am_okM mt_V_load := ⟨am_good_of (k := 634) rfl rfl, am_good_of (k := 65) rfl rfl, by decide, by decide, by decide⟩
set_option maxRecDepth 20000 in
theorem om_V_keep : am_okM mt_V_keep := ⟨am_good_of (k := 651) rfl rfl, am_good_of (k := 65) rfl rfl, by decide, by decide, by decide⟩
set_option maxRecDepth 20000 in
theorem om_V_goBack : am_okM mt_V_goBack := ⟨am_good_of (k := 658) rfl rfl, am_good_of (k := 65) rfl rfl, by decide, by decide, by decide⟩
set_option maxRecDepth 20000 in
theorem om_V_undo : am_okM mt_V_undo := ⟨am_good_of (k := 666) rfl rfl, am_good_of (k := 65) rfl rfl, by decide, by decide, by decide⟩
set_option maxRecDepth 20000 in
theorem om_V_vatOf : am_okM mt_V_vatOf := ⟨am_good_of (k := 674) rfl rfl, am_good_of (k := 65) rfl rfl, by decide, by decide, by decide⟩
set_option maxRecDepth 20000 in
theorem om_V_valveOf : am_okM mt_V_valveOf := ⟨am_good_of (k := 681) rfl rfl, am_good_of (k := 65) rfl rfl, by decide, by decide, by decide⟩
set_option maxRecDepth 20000 in
theorem om_V_dyeOf : am_okM mt_V_dyeOf := ⟨am_good_of (k := 688) rfl rfl, am_good_of (k := 65) rfl rfl, by decide, by decide, by decide⟩
set_option maxRecDepth 20000 in
theorem om_V_count : am_okM mt_V_count := ⟨am_good_of (k := 695) rfl rfl, am_good_of (k := 65) rfl rfl, by decide, by decide, by decide⟩
set_option maxRecDepth 20000 in
theorem om_V_ifPassed : am_okM mt_V_ifPassed := ⟨am_good_of (k := 702) rfl rfl, am_good_of (k := 65) rfl rfl, by decide, by decide, by decide⟩
set_option maxRecDepth 20000 in
theorem om_V_emptyIn : am_okM mt_V_emptyIn := ⟨am_good_of (k := 709) rfl rfl, am_good_of (k := 65) rfl rfl, by decide, by decide, by decide⟩
set_option maxRecDepth 20000 in
theorem om_V_round : am_okM mt_V_round := ⟨am_good_of (k := 716) rfl rfl, am_good_of (k := 65) rfl rfl, by decide, by decide, by decide⟩
set_option maxRecDepth 20000 in
theorem om_V_mainValve : am_okM mt_V_mainValve := ⟨am_good_of (k := 273) rfl rfl, am_good_of (k := 65) rfl rfl, by decide, by decide, by decide⟩
set_option maxRecDepth 20000 in
theorem om_V_goneShare : am_okM mt_V_goneShare := ⟨am_good_of (k := 326) rfl rfl, am_good_of (k := 65) rfl rfl, by decide, by decide, by decide⟩
set_option maxRecDepth 20000 in
theorem om_V_digest : am_okM mt_V_digest := ⟨am_good_of (k := 330) rfl rfl, am_good_of (k := 65) rfl rfl, by decide, by decide, by decide⟩
set_option maxRecDepth 20000 in
theorem om_V_hashVats : am_okM mt_V_hashVats := ⟨am_good_of (k := 355) rfl rfl, am_good_of (k := 65) rfl rfl, by decide, by decide, by decide⟩
set_option maxRecDepth 20000 in
theorem om_V_hashValves : am_okM mt_V_hashValves := ⟨am_good_of (k := 367) rfl rfl, am_good_of (k := 65) rfl rfl, by decide, by decide, by decide⟩
set_option maxRecDepth 20000 in
theorem om_V_hashDyes : am_okM mt_V_hashDyes := ⟨am_good_of (k := 375) rfl rfl, am_good_of (k := 65) rfl rfl, by decide, by decide, by decide⟩
set_option maxRecDepth 20000 in
theorem om_V_bitsOfShare : am_okM mt_V_bitsOfShare := ⟨am_good_of (k := 415) rfl rfl, am_good_of (k := 65) rfl rfl, by decide, by decide, by decide⟩
set_option maxRecDepth 20000 in
theorem om_V_numberOf : am_okM mt_V_numberOf := ⟨am_good_of (k := 336) rfl rfl, am_good_of (k := 65) rfl rfl, by decide, by decide, by decide⟩
set_option maxRecDepth 20000 in
theorem om_V_findEmptyHours : am_okM mt_V_findEmptyHours := ⟨am_good_of (k := 359) rfl rfl, am_good_of (k := 65) rfl rfl, by decide, by decide, by decide⟩
set_option maxRecDepth 20000 in
theorem om_V_saveState : am_okM mt_V_saveState := ⟨am_good_of (k := 520) rfl rfl, am_good_of (k := 65) rfl rfl, by decide, by decide, by decide⟩
set_option maxRecDepth 20000 in
theorem om_V_refuse : am_okM mt_V_refuse := ⟨am_good_of (k := 525) rfl rfl, am_good_of (k := 65) rfl rfl, by decide, by decide, by decide⟩
set_option maxRecDepth 20000 in
theorem om_V_requireVat : am_okM mt_V_requireVat := ⟨am_good_of (k := 430) rfl rfl, am_good_of (k := 65) rfl rfl, by decide, by decide, by decide⟩
set_option maxRecDepth 20000 in
theorem om_V_requireDye : am_okM mt_V_requireDye := ⟨am_good_of (k := 536) rfl rfl, am_good_of (k := 65) rfl rfl, by decide, by decide, by decide⟩
set_option maxRecDepth 20000 in
theorem om_V_requireValve : am_okM mt_V_requireValve := ⟨am_good_of (k := 595) rfl rfl, am_good_of (k := 65) rfl rfl, by decide, by decide, by decide⟩
set_option maxRecDepth 20000 in
theorem om_V_requireRange : am_okM mt_V_requireRange := ⟨am_good_of (k := 500) rfl rfl, am_good_of (k := 65) rfl rfl, by decide, by decide, by decide⟩
set_option maxRecDepth 20000 in
theorem om_Z_thrown : am_okM mt_Z_thrown := ⟨am_good_of (k := 782) rfl rfl, am_good_of (k := 69) rfl rfl, by decide, by decide, by decide⟩
set_option maxRecDepth 20000 in
theorem om_Z_in : am_okM mt_Z_in := ⟨am_good_of (k := 793) rfl rfl, am_good_of (k := 69) rfl rfl, by decide, by decide, by decide⟩
set_option maxRecDepth 20000 in
theorem om_Z_least : am_okM mt_Z_least := ⟨am_good_of (k := 839) rfl rfl, am_good_of (k := 69) rfl rfl, by decide, by decide, by decide⟩
set_option maxRecDepth 20000 in
theorem om_Z_of : am_okM mt_Z_of := ⟨am_good_of (k := 816) rfl rfl, am_good_of (k := 69) rfl rfl, by decide, by decide, by decide⟩
set_option maxRecDepth 20000 in
theorem om_Z_setVat : am_okM mt_Z_setVat := ⟨am_good_of (k := 726) rfl rfl, am_good_of (k := 69) rfl rfl, by decide, by decide, by decide⟩
set_option maxRecDepth 20000 in
theorem om_Z_add : am_okM mt_Z_add := ⟨am_good_of (k := 820) rfl rfl, am_good_of (k := 69) rfl rfl, by decide, by decide, by decide⟩
set_option maxRecDepth 20000 in
theorem om_Z_valveNow : am_okM mt_Z_valveNow := ⟨am_good_of (k := 895) rfl rfl, am_good_of (k := 69) rfl rfl, by decide, by decide, by decide⟩
set_option maxRecDepth 20000 in
theorem om_Z_isVat : am_okM mt_Z_isVat := ⟨am_good_of (k := 812) rfl rfl, am_good_of (k := 69) rfl rfl, by decide, by decide, by decide⟩
set_option maxRecDepth 20000 in
theorem om_Z_isDye : am_okM mt_Z_isDye := ⟨am_good_of (k := 827) rfl rfl, am_good_of (k := 69) rfl rfl, by decide, by decide, by decide⟩
set_option maxRecDepth 20000 in
theorem om_Z_isValve : am_okM mt_Z_isValve := ⟨am_good_of (k := 859) rfl rfl, am_good_of (k := 69) rfl rfl, by decide, by decide, by decide⟩
set_option maxRecDepth 20000 in
theorem om_Z_hourOfDay : am_okM mt_Z_hourOfDay := ⟨am_good_of (k := 797) rfl rfl, am_good_of (k := 69) rfl rfl, by decide, by decide, by decide⟩
set_option maxRecDepth 20000 in
theorem om_Z_holds : am_okM mt_Z_holds := ⟨am_good_of (k := 836) rfl rfl, am_good_of (k := 69) rfl rfl, by decide, by decide, by decide⟩
set_option maxRecDepth 20000 in
theorem om_Z_isOpen : am_okM mt_Z_isOpen := ⟨am_good_of (k := 891) rfl rfl, am_good_of (k := 69) rfl rfl, by decide, by decide, by decide⟩
set_option maxRecDepth 20000 in
theorem om_Z_record : am_okM mt_Z_record := ⟨am_good_of (k := 805) rfl rfl, am_good_of (k := 69) rfl rfl, by decide, by decide, by decide⟩
set_option maxRecDepth 20000 in
theorem om_Z_undo : am_okM mt_Z_undo := ⟨am_good_of (k := 786) rfl rfl, am_good_of (k := 69) rfl rfl, by decide, by decide, by decide⟩
set_option maxRecDepth 20000 in
theorem om_Z_keep : am_okM mt_Z_keep := ⟨am_good_of (k := 790) rfl rfl, am_good_of (k := 69) rfl rfl, by decide, by decide, by decide⟩
set_option maxRecDepth 20000 in
theorem om_Z_goBack : am_okM mt_Z_goBack := ⟨am_good_of (k := 801) rfl rfl, am_good_of (k := 69) rfl rfl, by decide, by decide, by decide⟩
set_option maxRecDepth 20000 in
theorem om_Z_putAside : am_okM mt_Z_putAside := ⟨am_good_of (k := 1014) rfl rfl, am_good_of (k := 69) rfl rfl, by decide, by decide, by decide⟩
set_option maxRecDepth 20000 in
theorem om_Z_putBack : am_okM mt_Z_putBack := ⟨am_good_of (k := 1018) rfl rfl, am_good_of (k := 69) rfl rfl, by decide, by decide, by decide⟩
set_option maxRecDepth 20000 in
theorem om_Z_fill : am_okM mt_Z_fill := ⟨am_good_of (k := 809) rfl rfl, am_good_of (k := 69) rfl rfl, by decide, by decide, by decide⟩
set_option maxRecDepth 20000 in
theorem om_Z_dye : am_okM mt_Z_dye := ⟨am_good_of (k := 824) rfl rfl, am_good_of (k := 69) rfl rfl, by decide, by decide, by decide⟩
set_option maxRecDepth 20000 in
theorem om_Z_stir : am_okM mt_Z_stir := ⟨am_good_of (k := 832) rfl rfl, am_good_of (k := 69) rfl rfl, by decide, by decide, by decide⟩
set_option maxRecDepth 20000 in
theorem om_Z_capacity : am_okM mt_Z_capacity := ⟨am_good_of (k := 843) rfl rfl, am_good_of (k := 69) rfl rfl, by decide, by decide, by decide⟩
set_option maxRecDepth 20000 in
theorem om_Z_putValve : am_okM mt_Z_putValve := ⟨am_good_of (k := 851) rfl rfl, am_good_of (k := 69) rfl rfl, by decide, by decide, by decide⟩
set_option maxRecDepth 20000 in
theorem om_Z_valve : am_okM mt_Z_valve := ⟨am_good_of (k := 847) rfl rfl, am_good_of (k := 69) rfl rfl, by decide, by decide, by decide⟩
set_option maxRecDepth 20000 in
theorem om_Z_dropValve : am_okM mt_Z_dropValve := ⟨am_good_of (k := 863) rfl rfl, am_good_of (k := 69) rfl rfl, by decide, by decide, by decide⟩
set_option maxRecDepth 20000 in
theorem om_Z_close : am_okM mt_Z_close := ⟨am_good_of (k := 855) rfl rfl, am_good_of (k := 69) rfl rfl, by decide, by decide, by decide⟩
set_option maxRecDepth 20000 in
theorem om_Z_isPipe : am_okM mt_Z_isPipe := ⟨am_good_of (k := 871) rfl rfl, am_good_of (k := 69) rfl rfl, by decide, by decide, by decide⟩
set_option maxRecDepth 20000 in
theorem om_Z_pipe : am_okM mt_Z_pipe := ⟨am_good_of (k := 867) rfl rfl, am_good_of (k := 69) rfl rfl, by decide, by decide, by decide⟩
set_option maxRecDepth 20000 in
theorem om_Z_set : am_okM mt_Z_set := ⟨am_good_of (k := 875) rfl rfl, am_good_of (k := 69) rfl rfl, by decide, by decide, by decide⟩
set_option maxRecDepth 20000 in
theorem om_Z_move : am_okM mt_Z_move := ⟨am_good_of (k := 899) rfl rfl, am_good_of (k := 69) rfl rfl, by decide, by decide, by decide⟩
set_option maxRecDepth 20000 in
theorem om_Z_level : am_okM mt_Z_level := ⟨am_good_of (k := 903) rfl rfl, am_good_of (k := 69) rfl rfl, by decide, by decide, by decide⟩
set_option maxRecDepth 20000 in
theorem om_Z_settle : am_okM mt_Z_settle := ⟨am_good_of (k := 907) rfl rfl, am_good_of (k := 69) rfl rfl, by decide, by decide, by decide⟩
set_option maxRecDepth 20000 in
theorem om_Z_hour : am_okM mt_Z_hour := ⟨am_good_of (k := 887) rfl rfl, am_good_of (k := 69) rfl rfl, by decide, by decide, by decide⟩
set_option maxRecDepth 20000 in
theorem om_Z_hours : am_okM mt_Z_hours := ⟨am_good_of (k := 883) rfl rfl, am_good_of (k := 69) rfl rfl, by decide, by decide, by decide⟩
set_option maxRecDepth 20000 in
theorem om_Z_pass : am_okM mt_Z_pass := ⟨am_good_of (k := 879) rfl rfl, am_good_of (k := 69) rfl rfl, by decide, by decide, by decide⟩
set_option maxRecDepth 20000 in
theorem om_Z_append : am_okM mt_Z_append := ⟨am_good_of (k := 911) rfl rfl, am_good_of (k := 69) rfl rfl, by decide, by decide, by decide⟩
set_option maxRecDepth 20000 in
theorem om_Z_clearBuffer : am_okM mt_Z_clearBuffer := ⟨am_good_of (k := 915) rfl rfl, am_good_of (k := 69) rfl rfl, by decide, by decide, by decide⟩
set_option maxRecDepth 20000 in
theorem om_Z_sign : am_okM mt_Z_sign := ⟨am_good_of (k := 935) rfl rfl, am_good_of (k := 69) rfl rfl, by decide, by decide, by decide⟩
set_option maxRecDepth 20000 in
theorem om_Z_take : am_okM mt_Z_take := ⟨am_good_of (k := 939) rfl rfl, am_good_of (k := 69) rfl rfl, by decide, by decide, by decide⟩
set_option maxRecDepth 20000 in
theorem om_Z_takeSign : am_okM mt_Z_takeSign := ⟨am_good_of (k := 943) rfl rfl, am_good_of (k := 69) rfl rfl, by decide, by decide, by decide⟩
set_option maxRecDepth 20000 in
theorem om_Z_takeVat : am_okM mt_Z_takeVat := ⟨am_good_of (k := 931) rfl rfl, am_good_of (k := 69) rfl rfl, by decide, by decide, by decide⟩
set_option maxRecDepth 20000 in
theorem om_Z_canGoOn : am_okM mt_Z_canGoOn := ⟨am_good_of (k := 954) rfl rfl, am_good_of (k := 69) rfl rfl, by decide, by decide, by decide⟩
set_option maxRecDepth 20000 in
theorem om_Z_takeRate : am_okM mt_Z_takeRate := ⟨am_good_of (k := 947) rfl rfl, am_good_of (k := 69) rfl rfl, by decide, by decide, by decide⟩
set_option maxRecDepth 20000 in
theorem om_Z_takeHour : am_okM mt_Z_takeHour := ⟨am_good_of (k := 951) rfl rfl, am_good_of (k := 69) rfl rfl, by decide, by decide, by decide⟩
set_option maxRecDepth 20000 in
theorem om_Z_readValve : am_okM mt_Z_readValve := ⟨am_good_of (k := 927) rfl rfl, am_good_of (k := 69) rfl rfl, by decide, by decide, by decide⟩
set_option maxRecDepth 20000 in
theorem om_Z_readPlan : am_okM mt_Z_readPlan := ⟨am_good_of (k := 923) rfl rfl, am_good_of (k := 69) rfl rfl, by decide, by decide, by decide⟩
set_option maxRecDepth 20000 in
theorem om_Z_firstError : am_okM mt_Z_firstError := ⟨am_good_of (k := 919) rfl rfl, am_good_of (k := 69) rfl rfl, by decide, by decide, by decide⟩
set_option maxRecDepth 20000 in
theorem om_Z_load : am_okM mt_Z_load := ⟨am_good_of (k := 958) rfl rfl, am_good_of (k := 69) rfl rfl, by decide, by decide, by decide⟩
set_option maxRecDepth 20000 in
theorem om_Z_vatNow : am_okM mt_Z_vatNow := ⟨am_good_of (k := 966) rfl rfl, am_good_of (k := 69) rfl rfl, by decide, by decide, by decide⟩
set_option maxRecDepth 20000 in
theorem om_Z_vatOf : am_okM mt_Z_vatOf := ⟨am_good_of (k := 962) rfl rfl, am_good_of (k := 69) rfl rfl, by decide, by decide, by decide⟩
set_option maxRecDepth 20000 in
theorem om_Z_toldOfValve : am_okM mt_Z_toldOfValve := ⟨am_good_of (k := 974) rfl rfl, am_good_of (k := 69) rfl rfl, by decide, by decide, by decide⟩
set_option maxRecDepth 20000 in
theorem om_Z_valveOf : am_okM mt_Z_valveOf := ⟨am_good_of (k := 970) rfl rfl, am_good_of (k := 69) rfl rfl, by decide, by decide, by decide⟩
set_option maxRecDepth 20000 in
theorem om_Z_inVats : am_okM mt_Z_inVats := ⟨am_good_of (k := 986) rfl rfl, am_good_of (k := 69) rfl rfl, by decide, by decide, by decide⟩
set_option maxRecDepth 20000 in
theorem om_Z_strongest : am_okM mt_Z_strongest := ⟨am_good_of (k := 990) rfl rfl, am_good_of (k := 69) rfl rfl, by decide, by decide, by decide⟩
set_option maxRecDepth 20000 in
theorem om_Z_dyeNow : am_okM mt_Z_dyeNow := ⟨am_good_of (k := 982) rfl rfl, am_good_of (k := 69) rfl rfl, by decide, by decide, by decide⟩
set_option maxRecDepth 20000 in
theorem om_Z_dyeOf : am_okM mt_Z_dyeOf := ⟨am_good_of (k := 978) rfl rfl, am_good_of (k := 69) rfl rfl, by decide, by decide, by decide⟩
set_option maxRecDepth 20000 in
theorem om_Z_pipes : am_okM mt_Z_pipes := ⟨am_good_of (k := 1002) rfl rfl, am_good_of (k := 69) rfl rfl, by decide, by decide, by decide⟩
set_option maxRecDepth 20000 in
theorem om_Z_countNow : am_okM mt_Z_countNow := ⟨am_good_of (k := 998) rfl rfl, am_good_of (k := 69) rfl rfl, by decide, by decide, by decide⟩
set_option maxRecDepth 20000 in
theorem om_Z_count : am_okM mt_Z_count := ⟨am_good_of (k := 994) rfl rfl, am_good_of (k := 69) rfl rfl, by decide, by decide, by decide⟩
set_option maxRecDepth 20000 in
theorem om_Z_leftBehind : am_okM mt_Z_leftBehind := ⟨am_good_of (k := 1010) rfl rfl, am_good_of (k := 69) rfl rfl, by decide, by decide, by decide⟩
set_option maxRecDepth 20000 in
theorem om_Z_ifPassed : am_okM mt_Z_ifPassed := ⟨am_good_of (k := 1006) rfl rfl, am_good_of (k := 69) rfl rfl, by decide, by decide, by decide⟩
set_option maxRecDepth 20000 in
theorem om_Z_hoursToEmpty : am_okM mt_Z_hoursToEmpty := ⟨am_good_of (k := 1026) rfl rfl, am_good_of (k := 69) rfl rfl, by decide, by decide, by decide⟩
set_option maxRecDepth 20000 in
theorem om_Z_emptyIn : am_okM mt_Z_emptyIn := ⟨am_good_of (k := 1022) rfl rfl, am_good_of (k := 69) rfl rfl, by decide, by decide, by decide⟩
set_option maxRecDepth 20000 in
theorem om_Z_isSameLook : am_okM mt_Z_isSameLook := ⟨am_good_of (k := 1038) rfl rfl, am_good_of (k := 69) rfl rfl, by decide, by decide, by decide⟩
set_option maxRecDepth 20000 in
theorem om_Z_findRound : am_okM mt_Z_findRound := ⟨am_good_of (k := 1034) rfl rfl, am_good_of (k := 69) rfl rfl, by decide, by decide, by decide⟩
set_option maxRecDepth 20000 in
theorem om_Z_round : am_okM mt_Z_round := ⟨am_good_of (k := 1030) rfl rfl, am_good_of (k := 69) rfl rfl, by decide, by decide, by decide⟩
set_option maxRecDepth 20000 in
theorem om_Z_findMainValve : am_okM mt_Z_findMainValve := ⟨am_good_of (k := 1046) rfl rfl, am_good_of (k := 69) rfl rfl, by decide, by decide, by decide⟩
set_option maxRecDepth 20000 in
theorem om_Z_mainValve : am_okM mt_Z_mainValve := ⟨am_good_of (k := 1042) rfl rfl, am_good_of (k := 69) rfl rfl, by decide, by decide, by decide⟩
set_option maxRecDepth 20000 in
theorem om_Z_shareGone : am_okM mt_Z_shareGone := ⟨am_good_of (k := 1054) rfl rfl, am_good_of (k := 69) rfl rfl, by decide, by decide, by decide⟩
set_option maxRecDepth 20000 in
theorem om_Z_goneShare : am_okM mt_Z_goneShare := ⟨am_good_of (k := 1050) rfl rfl, am_good_of (k := 69) rfl rfl, by decide, by decide, by decide⟩
set_option maxRecDepth 20000 in
theorem om_Z_digest : am_okM mt_Z_digest := ⟨am_good_of (k := 1058) rfl rfl, am_good_of (k := 69) rfl rfl, by decide, by decide, by decide⟩
set_option maxRecDepth 20000 in
theorem om_L_fill : am_okM mt_L_fill := ⟨am_good_of (k := 421) rfl rfl, am_good_of (k := 64) rfl rfl, by decide, by decide, by decide⟩
set_option maxRecDepth 20000 in
theorem om_L_dye : am_okM mt_L_dye := ⟨am_good_of (k := 528) rfl rfl, am_good_of (k := 64) rfl rfl, by decide, by decide, by decide⟩
set_option maxRecDepth 20000 in
theorem om_L_stir : am_okM mt_L_stir := ⟨am_good_of (k := 557) rfl rfl, am_good_of (k := 64) rfl rfl, by decide, by decide, by decide⟩
set_option maxRecDepth 20000 in
theorem om_L_capacity : am_okM mt_L_capacity := ⟨am_good_of (k := 571) rfl rfl, am_good_of (k := 64) rfl rfl, by decide, by decide, by decide⟩
set_option maxRecDepth 20000 in
theorem om_L_valve : am_okM mt_L_valve := ⟨am_good_of (k := 578) rfl rfl, am_good_of (k := 64) rfl rfl, by decide, by decide, by decide⟩
set_option maxRecDepth 20000 in
theorem om_L_close : am_okM mt_L_close := ⟨am_good_of (k := 587) rfl rfl, am_good_of (k := 64) rfl rfl, by decide, by decide, by decide⟩
set_option maxRecDepth 20000 in
theorem om_L_pipe : am_okM mt_L_pipe := ⟨am_good_of (k := 599) rfl rfl, am_good_of (k := 64) rfl rfl, by decide, by decide, by decide⟩
set_option maxRecDepth 20000 in
theorem om_L_set : am_okM mt_L_set := ⟨am_good_of (k := 607) rfl rfl, am_good_of (k := 64) rfl rfl, by decide, by decide, by decide⟩
set_option maxRecDepth 20000 in
theorem om_L_pass : am_okM mt_L_pass := ⟨am_good_of (k := 614) rfl rfl, am_good_of (k := 64) rfl rfl, by decide, by decide, by decide⟩
set_option maxRecDepth 20000 in
theorem om_L_append : am_okM mt_L_append := ⟨am_good_of (k := 622) rfl rfl, am_good_of (k := 64) rfl rfl, by decide, by decide, by decide⟩
set_option maxRecDepth 20000 in
theorem om_L_load : am_okM mt_L_load := ⟨am_good_of (k := 630) rfl rfl, am_good_of (k := 64) rfl rfl, by decide, by decide, by decide⟩
set_option maxRecDepth 20000 in
theorem om_L_keep : am_okM mt_L_keep := ⟨am_good_of (k := 647) rfl rfl, am_good_of (k := 64) rfl rfl, by decide, by decide, by decide⟩
set_option maxRecDepth 20000 in
theorem om_L_goBack : am_okM mt_L_goBack := ⟨am_good_of (k := 654) rfl rfl, am_good_of (k := 64) rfl rfl, by decide, by decide, by decide⟩
set_option maxRecDepth 20000 in
theorem om_L_undo : am_okM mt_L_undo := ⟨am_good_of (k := 662) rfl rfl, am_good_of (k := 64) rfl rfl, by decide, by decide, by decide⟩
set_option maxRecDepth 20000 in
theorem om_L_vatOf : am_okM mt_L_vatOf := ⟨am_good_of (k := 670) rfl rfl, am_good_of (k := 64) rfl rfl, by decide, by decide, by decide⟩
set_option maxRecDepth 20000 in
theorem om_L_valveOf : am_okM mt_L_valveOf := ⟨am_good_of (k := 677) rfl rfl, am_good_of (k := 64) rfl rfl, by decide, by decide, by decide⟩
set_option maxRecDepth 20000 in
theorem om_L_dyeOf : am_okM mt_L_dyeOf := ⟨am_good_of (k := 684) rfl rfl, am_good_of (k := 64) rfl rfl, by decide, by decide, by decide⟩
set_option maxRecDepth 20000 in
theorem om_L_count : am_okM mt_L_count := ⟨am_good_of (k := 691) rfl rfl, am_good_of (k := 64) rfl rfl, by decide, by decide, by decide⟩
set_option maxRecDepth 20000 in
theorem om_L_ifPassed : am_okM mt_L_ifPassed := ⟨am_good_of (k := 698) rfl rfl, am_good_of (k := 64) rfl rfl, by decide, by decide, by decide⟩
set_option maxRecDepth 20000 in
theorem om_L_emptyIn : am_okM mt_L_emptyIn := ⟨am_good_of (k := 705) rfl rfl, am_good_of (k := 64) rfl rfl, by decide, by decide, by decide⟩
set_option maxRecDepth 20000 in
theorem om_L_round : am_okM mt_L_round := ⟨am_good_of (k := 712) rfl rfl, am_good_of (k := 64) rfl rfl, by decide, by decide, by decide⟩
def am_okL : List am_MT → Prop
  | [] => True
  | t :: r => am_okM t ∧ am_okL r
theorem am_okL_nth : ∀ (l : List am_MT) (k : Nat), am_okL l → am_okM (am_nth l k)
  | [], _, _ => om_J_isNaN
  | _ :: _, 0, h => h.1
  | _ :: r, k + 1, h => am_okL_nth r k h.2
theorem am_okL_all : am_okL am_mts := ⟨om_J_isNaN, om_J_doubleToLongBits, om_J_bitCount, om_S_takeFrom, om_S_hourOfDay, om_S_limitIn, om_S_pipesLaid, om_S_waterInAll, om_S_vatProperty, om_S_valveProperty, om_S_dyeProperty, om_S_removeValve, om_S_takeValves, om_S_dissolveSettled, om_S_runHours, om_S_runValves, om_S_levelPipes, om_S_settleGrains, om_S_moveWater, om_S_isOpen, om_S_grainsInAll, om_S_strongestVat, om_S_isVat, om_T_readCodes, om_T_endsWell, om_T_takesCode, om_T_takesDigit, om_T_isWholeNumber, om_T_canBecomeWhole, om_T_leastOfPart, om_T_mostOfPart, om_D_beginWith, om_D_findByRunners, om_D_findByLookingBack, om_D_reachDay, om_D_isSameLook, om_V_fill, om_V_dye, om_V_stir, om_V_capacity, om_V_valve, om_V_close, om_V_pipe, om_V_set, om_V_pass, om_V_append, om_V_clearBuffer, om_V_firstError, om_V_load, om_V_keep, om_V_goBack, om_V_undo, om_V_vatOf, om_V_valveOf, om_V_dyeOf, om_V_count, om_V_ifPassed, om_V_emptyIn, om_V_round, om_V_mainValve, om_V_goneShare, om_V_digest, om_V_hashVats, om_V_hashValves, om_V_hashDyes, om_V_bitsOfShare, om_V_numberOf, om_V_findEmptyHours, om_V_saveState, om_V_refuse, om_V_requireVat, om_V_requireDye, om_V_requireValve, om_V_requireRange, om_Z_thrown, om_Z_in, om_Z_least, om_Z_of, om_Z_setVat, om_Z_add, om_Z_valveNow, om_Z_isVat, om_Z_isDye, om_Z_isValve, om_Z_hourOfDay, om_Z_holds, om_Z_isOpen, om_Z_record, om_Z_undo, om_Z_keep, om_Z_goBack, om_Z_putAside, om_Z_putBack, om_Z_fill, om_Z_dye, om_Z_stir, om_Z_capacity, om_Z_putValve, om_Z_valve, om_Z_dropValve, om_Z_close, om_Z_isPipe, om_Z_pipe, om_Z_set, om_Z_move, om_Z_level, om_Z_settle, om_Z_hour, om_Z_hours, om_Z_pass, om_Z_append, om_Z_clearBuffer, om_Z_sign, om_Z_take, om_Z_takeSign, om_Z_takeVat, om_Z_canGoOn, om_Z_takeRate, om_Z_takeHour, om_Z_readValve, om_Z_readPlan, om_Z_firstError, om_Z_load, om_Z_vatNow, om_Z_vatOf, om_Z_toldOfValve, om_Z_valveOf, om_Z_inVats, om_Z_strongest, om_Z_dyeNow, om_Z_dyeOf, om_Z_pipes, om_Z_countNow, om_Z_count, om_Z_leftBehind, om_Z_ifPassed, om_Z_hoursToEmpty, om_Z_emptyIn, om_Z_isSameLook, om_Z_findRound, om_Z_round, om_Z_findMainValve, om_Z_mainValve, om_Z_shareGone, om_Z_goneShare, om_Z_digest, om_L_fill, om_L_dye, om_L_stir, om_L_capacity, om_L_valve, om_L_close, om_L_pipe, om_L_set, om_L_pass, om_L_append, om_L_load, om_L_keep, om_L_goBack, om_L_undo, om_L_vatOf, om_L_valveOf, om_L_dyeOf, om_L_count, om_L_ifPassed, om_L_emptyIn, om_L_round, trivial⟩
theorem am_okM_all : ∀ k, k < 167 → am_okM (am_mt k) := fun k _ => am_okL_nth am_mts k am_okL_all
