/-! charAt of the constant of signs; the check of a stretch of code; the rule of a stretch: written by wip/p29/mk12.py -/
theorem am_C_mono {t : am_MT} {av : List Value} {M : am_M} {K K' : am_Q} (h : am_C t av M K) (hK : ∀ (o : am_O) (M' : am_M), K o M' → K' o M') : am_C t av M K' := by
  intro l a D g sz hst hgx
  have h1 := h l a D g sz hst hgx
  intro p e ha hc hk s m args below hf happ hP hT
  obtain ⟨k, oc, q1, q2, q3, hQ⟩ := h1 p e ha hc hk s m args below hf happ hP hT
  refine ⟨k, oc, q1, q2, q3, ?_⟩
  rcases hQ with ⟨⟨⟨v, M', e1, e2, e3⟩, e4, e5⟩, e6⟩ | ⟨q, e1, E, ce, Lc, ⟨⟨M', f1, f2⟩, f3⟩, e3⟩
  · exact Or.inl ⟨⟨⟨v, M', e1, hK _ _ e2, e3⟩, e4, e5⟩, e6⟩
  · exact Or.inr ⟨q, e1, E, ce, Lc, ⟨⟨M', hK _ _ f1, f2⟩, f3⟩, e3⟩
def am_pls : List (Nat × Nat) := [(376, 0), (213, 214), (228, 229), (254, 255), (372, 373), (382, 383), (391, 392), (405, 406), (418, 419), (308, 309), (461, 462), (220, 221), (225, 2), (247, 5), (251, 6), (237, 4), (233, 3), (423, 12), (427, 13), (240, 0), (281, 282), (287, 288), (300, 301), (292, 7), (297, 8), (437, 438), (448, 449), (457, 458), (471, 472), (478, 479), (487, 488), (494, 495), (502, 503), (509, 510), (531, 532), (325, 326), (354, 355), (387, 388), (396, 397), (410, 411), (364, 365), (524, 525), (134, 135), (258, 259), (304, 305), (517, 518), (369, 10), (210, 1), (346, 9), (442, 14), (138, 0), (414, 0), (401, 11), (262, 0), (0, 0), (316, 0), (433, 0), (445, 0), (454, 0), (468, 0), (475, 0), (484, 0), (491, 0), (499, 0), (506, 0), (320, 0), (351, 0), (528, 0), (359, 0), (430, 0), (514, 0), (521, 0), (541, 0), (544, 0), (538, 0), (535, 0), (547, 0), (0, 0)]
def am_pl (k : Nat) : Nat × Nat := am_pls.getD k (0, 0)
def am_isp : Instr → Bool
  | .iconst _ => true | .bipush _ => true | .sipush _ => true | .lconst _ => true | .dconst _ => true | .iload_n _ => true | .iload _ => true | .aload_n _ => true | .aload _ => true | .lload_n _ => true | .lload _ => true | .dload_n _ => true | .dload _ => true
  | .iadd => true | .isub => true | .imul => true | .iand => true | .ixor => true | .ishl => true | .ishr => true | .iushr => true | .ladd => true | .lsub => true | .lmul => true | .ineg => true | .lshl => true | .lcmp => true | .dcmp _ => true | .i2l => true | .i2d => true | .d2l => true | .dup => true | .dup2 => true | .pop => true
  | _ => false
def am_iss : Instr → Bool
  | .istore_n _ => true | .istore _ => true | .astore_n _ => true | .astore _ => true | .lstore_n _ => true | .lstore _ => true | .dstore_n _ => true | .dstore _ => true | .iinc _ _ => true
  | _ => false
theorem am_isp_of {i : Instr} {ls st st' : List Value} (h : am_pu i ls st = some st') : am_isp i = true := by
  cases i <;> first | rfl | (exact absurd h (by simp [am_pu]))
theorem am_iss_of {i : Instr} {ls st : List Value} {q : List Value × List Value} (h : am_sto i ls st = some q) : am_iss i = true := by
  cases i <;> first | rfl | (exact absurd h (by simp [am_sto]))
/-- what a program checks of a call of a method of ours -/
def am_ckc (t u : am_MT) (pc na : Nat) : Bool := decide ((parseMethodDescriptor (mt_y u).desc).map (fun d => d.parameters.length) = some na) && (decide (mt_rf u + 1 ≤ mt_rf t) && (decide (8 + (mt_l u + 11) + mt_rl u ≤ mt_rl t) && ((!mt_g u || mt_g t) && (decide (mt_h t = []) || (mt_g t && (decide ((mt_y t).cls = "DyeVatsLaw") && am_cov pc (mt_h t)))))))
def am_ck (t : am_MT) (pc : Nat) (i : Instr) (w x y z : Nat) : Bool := match i with
  | .ifCond _ o => decide (w = 3) && decide (0 ≤ (pc : Int) + o)
  | .if_icmp _ o => decide (w = 3) && decide (0 ≤ (pc : Int) + o)
  | .goto o => decide (w = 3) && decide (0 ≤ (pc : Int) + o)
  | .tableswitch d lo hi os => decide (0 ≤ (pc : Int) + d) && (os.toList.all (fun o => decide (0 ≤ (pc : Int) + o)) && decide (hi < lo + os.size))
  | .lookupswitch d ps => decide (0 ≤ (pc : Int) + d) && (ps.toList.all (fun q => decide (0 ≤ (pc : Int) + q.2)) && (ps.toList.zip (ps.toList.drop 1)).all (fun (a, next) => a.1 < next.1))
  | .ldc idx => decide (w = 2) && (match y with
    | 0 => decide (lw_tbl[z]? = some (.constant (mt_y t).cls idx (nI x)))
    | _ => false)
  | .ldc_w idx => decide (w = 3) && decide (lw_tbl[z]? = some (.constant (mt_y t).cls idx (nI x)))
  | .ldc2_w idx => decide (w = 3) && (match y with
    | 0 => decide (lw_tbl[z]? = some (.constantLong (mt_y t).cls idx (lN x)))
    | _ => decide (lw_tbl[z]? = some (.constantDouble (mt_y t).cls idx (UInt64.ofNat x))))
  | .getfield idx => decide (w = 3) && (decide (lw_tbl[z]? = some (.fieldLink (mt_y t).cls idx (am_T x y).1 (am_T x y).2.1 (am_T x y).2.2.1)) && (decide (x < 4) && decide (y < am_nf x)))
  | .putfield idx => decide (w = 3) && (decide (lw_tbl[z]? = some (.fieldLink (mt_y t).cls idx (am_T x y).1 (am_T x y).2.1 (am_T x y).2.2.1)) && (decide (x < 4) && (decide (y < am_nf x) && (decide ((am_T x y).2.2.2 = false) && (decide (parseFieldDescriptor (am_T x y).2.2.1 = some .int) && (decide (am_fr x y = 0) && decide (x ≠ 1)))))))
  | .invokestatic idx => decide (w = 3) && (match x with
    | 200 => decide (lw_tbl[z]? = some (.methodLink (mt_y t).cls idx Lib.Math.min.name)) && (decide (1 ≤ mt_rf t) && decide (21 ≤ mt_rl t))
    | 201 => decide (lw_tbl[z]? = some (.methodLink (mt_y t).cls idx Lib.Math.max.name)) && (decide (1 ≤ mt_rf t) && decide (21 ≤ mt_rl t))
    | 202 => decide (lw_tbl[z]? = some (.methodLink (mt_y t).cls idx arraycopyName)) && (decide (1 ≤ mt_rf t) && decide (40 ≤ mt_rl t))
    | _ => decide (x < 77) && (decide (mt_c (am_mt x) = 1) && (decide (mt_w (am_mt x) = false) && (decide (lw_tbl[z]? = some (.methodLink (mt_y t).cls idx (mt_y (am_mt x)))) && (decide (lw_tbl[(am_pl x).1]? = some (.static (mt_y (am_mt x)))) && am_ckc t (am_mt x) pc y)))))
  | .invokevirtual idx => decide (w = 3) && (decide (x < 77) && (decide (mt_c (am_mt x) = 1) && (decide (mt_w (am_mt x) = false) && (decide (1 ≤ y) && (decide (lw_tbl[z]? = some (.methodLink (mt_y t).cls idx (mt_y (am_mt x)))) && (decide (lw_tbl[(am_pl x).1]? = some (.instanceMethod (mt_y (am_mt x)))) && (decide (lw_tbl[(am_pl x).2]? = some (.selects (mt_y (am_mt x)).cls (mt_y (am_mt x)) (mt_y (am_mt x)))) && (decide (am_cx x < 4) && (decide ((mt_y (am_mt x)).cls = am_Rn (am_cx x)) && (decide (mt_h (am_mt x) = []) && (decide (mt_g (am_mt x) = false) && am_ckc t (am_mt x) pc (y - 1))))))))))))
  | .new idx => decide (x < 3) && (decide (idx = am_kx x) && (decide (w = 3) && (decide (mt_h t = []) && (decide ((mt_y t).cls = RX3) && (decide (6 ≤ mt_rf t) && (decide (90 ≤ mt_rl t) && (am_tx.any (fun q => decide (q.1 = y)) && (decide (decode (mt_b t) (pc + 3) = .ok (.dup, 1)) && (decide (decode (mt_b t) (pc + 4) = .ok (.ldc y, 2)) && (decide (decode (mt_b t) (pc + 6) = .ok (.invokespecial (am_ix x), 3)) && decide (decode (mt_b t) (pc + 9) = .ok (.athrow, 1))))))))))))
  | i => decide (w = 1) || (am_isp i || am_iss i)
def am_okB (t : am_MT) : Nat → List am_I → Bool
  | _, [] => true
  | pc, (i, w, x, y, z) :: is => decide (decode (mt_b t) pc = .ok (i, w)) && ((!am_isp i || am_ckp i w) && ((!am_iss i || am_cks (mt_l t) i w) && (am_ck t pc i w x y z && am_okB t (pc + w) is)))
theorem am_wmin : Jvm.Cond.static Lib.Math.min.name ∈ am_good ∧ Jvm.Cond.initialized "java/lang/Math" ∈ am_good ∧ Jvm.Cond.code Lib.Math.min.name Lib.Math.min.code 2 (some .int) ∈ am_good := by decide +kernel
theorem am_wmax : Jvm.Cond.static Lib.Math.max.name ∈ am_good ∧ Jvm.Cond.initialized "java/lang/Math" ∈ am_good ∧ Jvm.Cond.code Lib.Math.max.name Lib.Math.max.code 2 (some .int) ∈ am_good := by decide +kernel
theorem am_wcpy : Jvm.Cond.native arraycopyName ∈ am_good ∧ Jvm.Cond.static arraycopyName ∈ am_good ∧ Jvm.Cond.initialized "java/lang/System" ∈ am_good := by decide +kernel
set_option maxRecDepth 20000 in
theorem om_J_bitCount : am_okM mt_J_bitCount := ⟨am_good_of (k := 377) rfl rfl, am_good_of (k := 28) rfl rfl, by decide, by decide, by decide⟩
set_option maxRecDepth 20000 in
theorem om_S_takeFrom : am_okM mt_S_takeFrom := ⟨am_good_of (k := 215) rfl rfl, am_good_of (k := 17) rfl rfl, by decide, by decide, by decide⟩
set_option maxRecDepth 20000 in
theorem om_S_hourOfDay : am_okM mt_S_hourOfDay := ⟨am_good_of (k := 230) rfl rfl, am_good_of (k := 17) rfl rfl, by decide, by decide, by decide⟩
set_option maxRecDepth 20000 in
theorem om_S_limitIn : am_okM mt_S_limitIn := ⟨am_good_of (k := 256) rfl rfl, am_good_of (k := 17) rfl rfl, by decide, by decide, by decide⟩
set_option maxRecDepth 20000 in
theorem om_S_pipesLaid : am_okM mt_S_pipesLaid := ⟨am_good_of (k := 374) rfl rfl, am_good_of (k := 17) rfl rfl, by decide, by decide, by decide⟩
set_option maxRecDepth 20000 in
theorem om_S_waterInAll : am_okM mt_S_waterInAll := ⟨am_good_of (k := 384) rfl rfl, am_good_of (k := 17) rfl rfl, by decide, by decide, by decide⟩
set_option maxRecDepth 20000 in
theorem om_S_vatProperty : am_okM mt_S_vatProperty := ⟨am_good_of (k := 393) rfl rfl, am_good_of (k := 17) rfl rfl, by decide, by decide, by decide⟩
set_option maxRecDepth 20000 in
theorem om_S_valveProperty : am_okM mt_S_valveProperty := ⟨am_good_of (k := 407) rfl rfl, am_good_of (k := 17) rfl rfl, by decide, by decide, by decide⟩
set_option maxRecDepth 20000 in
theorem om_S_dyeProperty : am_okM mt_S_dyeProperty := ⟨am_good_of (k := 420) rfl rfl, am_good_of (k := 17) rfl rfl, by decide, by decide, by decide⟩
set_option maxRecDepth 20000 in
theorem om_S_removeValve : am_okM mt_S_removeValve := ⟨am_good_of (k := 310) rfl rfl, am_good_of (k := 17) rfl rfl, by decide, by decide, by decide⟩
set_option maxRecDepth 20000 in
theorem om_S_dissolveSettled : am_okM mt_S_dissolveSettled := ⟨am_good_of (k := 463) rfl rfl, am_good_of (k := 17) rfl rfl, by decide, by decide, by decide⟩
set_option maxRecDepth 20000 in
theorem om_S_runHours : am_okM mt_S_runHours := ⟨am_good_of (k := 222) rfl rfl, am_good_of (k := 17) rfl rfl, by decide, by decide, by decide⟩
set_option maxRecDepth 20000 in
theorem om_S_runValves : am_okM mt_S_runValves := ⟨am_good_of (k := 226) rfl rfl, am_good_of (k := 17) rfl rfl, by decide, by decide, by decide⟩
set_option maxRecDepth 20000 in
theorem om_S_levelPipes : am_okM mt_S_levelPipes := ⟨am_good_of (k := 248) rfl rfl, am_good_of (k := 17) rfl rfl, by decide, by decide, by decide⟩
set_option maxRecDepth 20000 in
theorem om_S_settleGrains : am_okM mt_S_settleGrains := ⟨am_good_of (k := 252) rfl rfl, am_good_of (k := 17) rfl rfl, by decide, by decide, by decide⟩
set_option maxRecDepth 20000 in
theorem om_S_moveWater : am_okM mt_S_moveWater := ⟨am_good_of (k := 238) rfl rfl, am_good_of (k := 17) rfl rfl, by decide, by decide, by decide⟩
set_option maxRecDepth 20000 in
theorem om_S_isOpen : am_okM mt_S_isOpen := ⟨am_good_of (k := 234) rfl rfl, am_good_of (k := 17) rfl rfl, by decide, by decide, by decide⟩
set_option maxRecDepth 20000 in
theorem om_S_grainsInAll : am_okM mt_S_grainsInAll := ⟨am_good_of (k := 424) rfl rfl, am_good_of (k := 17) rfl rfl, by decide, by decide, by decide⟩
set_option maxRecDepth 20000 in
theorem om_S_strongestVat : am_okM mt_S_strongestVat := ⟨am_good_of (k := 428) rfl rfl, am_good_of (k := 17) rfl rfl, by decide, by decide, by decide⟩
set_option maxRecDepth 20000 in
theorem om_S_isVat : am_okM mt_S_isVat := ⟨am_good_of (k := 241) rfl rfl, am_good_of (k := 17) rfl rfl, by decide, by decide, by decide⟩
set_option maxRecDepth 20000 in
theorem om_D_beginWith : am_okM mt_D_beginWith := ⟨am_good_of (k := 283) rfl rfl, am_good_of (k := 18) rfl rfl, by decide, by decide, by decide⟩
set_option maxRecDepth 20000 in
theorem om_D_findByRunners : am_okM mt_D_findByRunners := ⟨am_good_of (k := 289) rfl rfl, am_good_of (k := 18) rfl rfl, by decide, by decide, by decide⟩
set_option maxRecDepth 20000 in
theorem om_D_findByLookingBack : am_okM mt_D_findByLookingBack := ⟨am_good_of (k := 302) rfl rfl, am_good_of (k := 18) rfl rfl, by decide, by decide, by decide⟩
set_option maxRecDepth 20000 in
theorem om_D_reachDay : am_okM mt_D_reachDay := ⟨am_good_of (k := 293) rfl rfl, am_good_of (k := 18) rfl rfl, by decide, by decide, by decide⟩
set_option maxRecDepth 20000 in
theorem om_D_isSameLook : am_okM mt_D_isSameLook := ⟨am_good_of (k := 298) rfl rfl, am_good_of (k := 18) rfl rfl, by decide, by decide, by decide⟩
set_option maxRecDepth 20000 in
theorem om_V_fill : am_okM mt_V_fill := ⟨am_good_of (k := 439) rfl rfl, am_good_of (k := 16) rfl rfl, by decide, by decide, by decide⟩
set_option maxRecDepth 20000 in
theorem om_V_dye : am_okM mt_V_dye := ⟨am_good_of (k := 450) rfl rfl, am_good_of (k := 16) rfl rfl, by decide, by decide, by decide⟩
set_option maxRecDepth 20000 in
theorem om_V_stir : am_okM mt_V_stir := ⟨am_good_of (k := 459) rfl rfl, am_good_of (k := 16) rfl rfl, by decide, by decide, by decide⟩
set_option maxRecDepth 20000 in
theorem om_V_capacity : am_okM mt_V_capacity := ⟨am_good_of (k := 473) rfl rfl, am_good_of (k := 16) rfl rfl, by decide, by decide, by decide⟩
set_option maxRecDepth 20000 in
theorem om_V_valve : am_okM mt_V_valve := ⟨am_good_of (k := 480) rfl rfl, am_good_of (k := 16) rfl rfl, by decide, by decide, by decide⟩
set_option maxRecDepth 20000 in
theorem om_V_close : am_okM mt_V_close := ⟨am_good_of (k := 489) rfl rfl, am_good_of (k := 16) rfl rfl, by decide, by decide, by decide⟩
set_option maxRecDepth 20000 in
theorem om_V_pipe : am_okM mt_V_pipe := ⟨am_good_of (k := 496) rfl rfl, am_good_of (k := 16) rfl rfl, by decide, by decide, by decide⟩
set_option maxRecDepth 20000 in
theorem om_V_set : am_okM mt_V_set := ⟨am_good_of (k := 504) rfl rfl, am_good_of (k := 16) rfl rfl, by decide, by decide, by decide⟩
set_option maxRecDepth 20000 in
theorem om_V_pass : am_okM mt_V_pass := ⟨am_good_of (k := 511) rfl rfl, am_good_of (k := 16) rfl rfl, by decide, by decide, by decide⟩
set_option maxRecDepth 20000 in
theorem om_V_keep : am_okM mt_V_keep := ⟨am_good_of (k := 533) rfl rfl, am_good_of (k := 16) rfl rfl, by decide, by decide, by decide⟩
set_option maxRecDepth 20000 in
theorem om_V_goBack : am_okM mt_V_goBack := ⟨am_good_of (k := 327) rfl rfl, am_good_of (k := 16) rfl rfl, by decide, by decide, by decide⟩
set_option maxRecDepth 20000 in
theorem om_V_undo : am_okM mt_V_undo := ⟨am_good_of (k := 356) rfl rfl, am_good_of (k := 16) rfl rfl, by decide, by decide, by decide⟩
set_option maxRecDepth 20000 in
theorem om_V_vatOf : am_okM mt_V_vatOf := ⟨am_good_of (k := 389) rfl rfl, am_good_of (k := 16) rfl rfl, by decide, by decide, by decide⟩
set_option maxRecDepth 20000 in
theorem om_V_valveOf : am_okM mt_V_valveOf := ⟨am_good_of (k := 398) rfl rfl, am_good_of (k := 16) rfl rfl, by decide, by decide, by decide⟩
set_option maxRecDepth 20000 in
theorem om_V_dyeOf : am_okM mt_V_dyeOf := ⟨am_good_of (k := 412) rfl rfl, am_good_of (k := 16) rfl rfl, by decide, by decide, by decide⟩
set_option maxRecDepth 20000 in
theorem om_V_count : am_okM mt_V_count := ⟨am_good_of (k := 366) rfl rfl, am_good_of (k := 16) rfl rfl, by decide, by decide, by decide⟩
set_option maxRecDepth 20000 in
theorem om_V_ifPassed : am_okM mt_V_ifPassed := ⟨am_good_of (k := 526) rfl rfl, am_good_of (k := 16) rfl rfl, by decide, by decide, by decide⟩
set_option maxRecDepth 20000 in
theorem om_V_emptyIn : am_okM mt_V_emptyIn := ⟨am_good_of (k := 136) rfl rfl, am_good_of (k := 16) rfl rfl, by decide, by decide, by decide⟩
set_option maxRecDepth 20000 in
theorem om_V_round : am_okM mt_V_round := ⟨am_good_of (k := 260) rfl rfl, am_good_of (k := 16) rfl rfl, by decide, by decide, by decide⟩
set_option maxRecDepth 20000 in
theorem om_V_mainValve : am_okM mt_V_mainValve := ⟨am_good_of (k := 306) rfl rfl, am_good_of (k := 16) rfl rfl, by decide, by decide, by decide⟩
set_option maxRecDepth 20000 in
theorem om_V_goneShare : am_okM mt_V_goneShare := ⟨am_good_of (k := 519) rfl rfl, am_good_of (k := 16) rfl rfl, by decide, by decide, by decide⟩
set_option maxRecDepth 20000 in
theorem om_V_numberOf : am_okM mt_V_numberOf := ⟨am_good_of (k := 370) rfl rfl, am_good_of (k := 16) rfl rfl, by decide, by decide, by decide⟩
set_option maxRecDepth 20000 in
theorem om_V_findEmptyHours : am_okM mt_V_findEmptyHours := ⟨am_good_of (k := 211) rfl rfl, am_good_of (k := 16) rfl rfl, by decide, by decide, by decide⟩
set_option maxRecDepth 20000 in
theorem om_V_saveState : am_okM mt_V_saveState := ⟨am_good_of (k := 347) rfl rfl, am_good_of (k := 16) rfl rfl, by decide, by decide, by decide⟩
set_option maxRecDepth 20000 in
theorem om_V_refuse : am_okM mt_V_refuse := ⟨am_good_of (k := 443) rfl rfl, am_good_of (k := 16) rfl rfl, by decide, by decide, by decide⟩
set_option maxRecDepth 20000 in
theorem om_V_requireVat : am_okM mt_V_requireVat := ⟨am_good_of (k := 139) rfl rfl, am_good_of (k := 16) rfl rfl, by decide, by decide, by decide⟩
set_option maxRecDepth 20000 in
theorem om_V_requireDye : am_okM mt_V_requireDye := ⟨am_good_of (k := 415) rfl rfl, am_good_of (k := 16) rfl rfl, by decide, by decide, by decide⟩
set_option maxRecDepth 20000 in
theorem om_V_requireValve : am_okM mt_V_requireValve := ⟨am_good_of (k := 402) rfl rfl, am_good_of (k := 16) rfl rfl, by decide, by decide, by decide⟩
set_option maxRecDepth 20000 in
theorem om_V_requireRange : am_okM mt_V_requireRange := ⟨am_good_of (k := 263) rfl rfl, am_good_of (k := 16) rfl rfl, by decide, by decide, by decide⟩
set_option maxRecDepth 20000 in
theorem om_L_cell : am_okM mt_L_cell := ⟨am_good_of (k := 313) rfl rfl, am_good_of (k := 15) rfl rfl, by decide, by decide, by decide⟩
set_option maxRecDepth 20000 in
theorem om_L_low : am_okM mt_L_low := ⟨am_good_of (k := 317) rfl rfl, am_good_of (k := 15) rfl rfl, by decide, by decide, by decide⟩
set_option maxRecDepth 20000 in
theorem om_L_fill : am_okM mt_L_fill := ⟨am_good_of (k := 434) rfl rfl, am_good_of (k := 15) rfl rfl, by decide, by decide, by decide⟩
set_option maxRecDepth 20000 in
theorem om_L_dye : am_okM mt_L_dye := ⟨am_good_of (k := 446) rfl rfl, am_good_of (k := 15) rfl rfl, by decide, by decide, by decide⟩
set_option maxRecDepth 20000 in
theorem om_L_stir : am_okM mt_L_stir := ⟨am_good_of (k := 455) rfl rfl, am_good_of (k := 15) rfl rfl, by decide, by decide, by decide⟩
set_option maxRecDepth 20000 in
theorem om_L_capacity : am_okM mt_L_capacity := ⟨am_good_of (k := 469) rfl rfl, am_good_of (k := 15) rfl rfl, by decide, by decide, by decide⟩
set_option maxRecDepth 20000 in
theorem om_L_valve : am_okM mt_L_valve := ⟨am_good_of (k := 476) rfl rfl, am_good_of (k := 15) rfl rfl, by decide, by decide, by decide⟩
set_option maxRecDepth 20000 in
theorem om_L_close : am_okM mt_L_close := ⟨am_good_of (k := 485) rfl rfl, am_good_of (k := 15) rfl rfl, by decide, by decide, by decide⟩
set_option maxRecDepth 20000 in
theorem om_L_pipe : am_okM mt_L_pipe := ⟨am_good_of (k := 492) rfl rfl, am_good_of (k := 15) rfl rfl, by decide, by decide, by decide⟩
set_option maxRecDepth 20000 in
theorem om_L_set : am_okM mt_L_set := ⟨am_good_of (k := 500) rfl rfl, am_good_of (k := 15) rfl rfl, by decide, by decide, by decide⟩
set_option maxRecDepth 20000 in
theorem om_L_pass : am_okM mt_L_pass := ⟨am_good_of (k := 507) rfl rfl, am_good_of (k := 15) rfl rfl, by decide, by decide, by decide⟩
set_option maxRecDepth 20000 in
theorem om_L_goBack : am_okM mt_L_goBack := ⟨am_good_of (k := 321) rfl rfl, am_good_of (k := 15) rfl rfl, by decide, by decide, by decide⟩
set_option maxRecDepth 20000 in
theorem om_L_undo : am_okM mt_L_undo := ⟨am_good_of (k := 352) rfl rfl, am_good_of (k := 15) rfl rfl, by decide, by decide, by decide⟩
set_option maxRecDepth 20000 in
theorem om_L_keep : am_okM mt_L_keep := ⟨am_good_of (k := 529) rfl rfl, am_good_of (k := 15) rfl rfl, by decide, by decide, by decide⟩
set_option maxRecDepth 20000 in
theorem om_L_tale : am_okM mt_L_tale := ⟨am_good_of (k := 360) rfl rfl, am_good_of (k := 15) rfl rfl, by decide, by decide, by decide⟩
set_option maxRecDepth 20000 in
theorem om_L_act : am_okM mt_L_act := ⟨am_good_of (k := 431) rfl rfl, am_good_of (k := 15) rfl rfl, by decide, by decide, by decide⟩
set_option maxRecDepth 20000 in
theorem om_L_addsUp : am_okM mt_L_addsUp := ⟨am_good_of (k := 515) rfl rfl, am_good_of (k := 15) rfl rfl, by decide, by decide, by decide⟩
set_option maxRecDepth 20000 in
theorem om_L_isAhead : am_okM mt_L_isAhead := ⟨am_good_of (k := 522) rfl rfl, am_good_of (k := 15) rfl rfl, by decide, by decide, by decide⟩
set_option maxRecDepth 20000 in
theorem om_L_look : am_okM mt_L_look := ⟨am_good_of (k := 542) rfl rfl, am_good_of (k := 15) rfl rfl, by decide, by decide, by decide⟩
set_option maxRecDepth 20000 in
theorem om_L_isLook : am_okM mt_L_isLook := ⟨am_good_of (k := 545) rfl rfl, am_good_of (k := 15) rfl rfl, by decide, by decide, by decide⟩
set_option maxRecDepth 20000 in
theorem om_L_days : am_okM mt_L_days := ⟨am_good_of (k := 539) rfl rfl, am_good_of (k := 15) rfl rfl, by decide, by decide, by decide⟩
set_option maxRecDepth 20000 in
theorem om_L_isRound : am_okM mt_L_isRound := ⟨am_good_of (k := 536) rfl rfl, am_good_of (k := 15) rfl rfl, by decide, by decide, by decide⟩
set_option maxRecDepth 20000 in
theorem om_L_isMain : am_okM mt_L_isMain := ⟨am_good_of (k := 548) rfl rfl, am_good_of (k := 15) rfl rfl, by decide, by decide, by decide⟩
def am_okL : List am_MT → Prop
  | [] => True
  | t :: r => am_okM t ∧ am_okL r
theorem am_okL_nth : ∀ (l : List am_MT) (k : Nat), am_okL l → am_okM (am_nth l k)
  | [], _, _ => om_J_bitCount
  | _ :: _, 0, h => h.1
  | _ :: r, k + 1, h => am_okL_nth r k h.2
theorem am_okL_all : am_okL am_mts := ⟨om_J_bitCount, om_S_takeFrom, om_S_hourOfDay, om_S_limitIn, om_S_pipesLaid, om_S_waterInAll, om_S_vatProperty, om_S_valveProperty, om_S_dyeProperty, om_S_removeValve, om_S_dissolveSettled, om_S_runHours, om_S_runValves, om_S_levelPipes, om_S_settleGrains, om_S_moveWater, om_S_isOpen, om_S_grainsInAll, om_S_strongestVat, om_S_isVat, om_D_beginWith, om_D_findByRunners, om_D_findByLookingBack, om_D_reachDay, om_D_isSameLook, om_V_fill, om_V_dye, om_V_stir, om_V_capacity, om_V_valve, om_V_close, om_V_pipe, om_V_set, om_V_pass, om_V_keep, om_V_goBack, om_V_undo, om_V_vatOf, om_V_valveOf, om_V_dyeOf, om_V_count, om_V_ifPassed, om_V_emptyIn, om_V_round, om_V_mainValve, om_V_goneShare, om_V_numberOf, om_V_findEmptyHours, om_V_saveState, om_V_refuse, om_V_requireVat, om_V_requireDye, om_V_requireValve, om_V_requireRange, om_L_cell, om_L_low, om_L_fill, om_L_dye, om_L_stir, om_L_capacity, om_L_valve, om_L_close, om_L_pipe, om_L_set, om_L_pass, om_L_goBack, om_L_undo, om_L_keep, om_L_tale, om_L_act, om_L_addsUp, om_L_isAhead, om_L_look, om_L_isLook, om_L_days, om_L_isRound, om_L_isMain, trivial⟩
theorem am_okM_all : ∀ k, k < 77 → am_okM (am_mt k) := fun k _ => am_okL_nth am_mts k am_okL_all
