/-! contracts of State's methods: valves, pipes, settling, hours -/
theorem nI100_ne : ¬ nI 100 = 0 := by decide +kernel
theorem c_S_levelPipes_1 {z : dz} {M : am_M} {K : am_Q} (hM : M 2 = zp z) (hz : zok z) (h : K (.inl none) (am_set M 2 (zp (zpipes z 5)))) : am_C mt_S_levelPipes [.ref 1] M K := by
  have h0 : M = am_set M 2 (zp z) := by rw [← hM, am_set_self]
  refine am_C_of_R am_S0 om_S_levelPipes rfl [.ref 1, .null, .null, .null, .null] rfl rfl (g_S_levelPipes_0 ?_)
  refine am_R_le (xs := [.ref 1, .int (nI 0), .null, .null, .null]) (by repeat' (first | exact trivial | exact Or.inr rfl | exact Or.inl rfl | exact Or.inr (congrArg Value.int (nI_succ _)) | refine ⟨?_, ?_⟩)) ?_
  rw [h0]
  refine lu (P := fun i => am_R am_S0 mt_S_levelPipes 1 2 [.ref 1, .int (nI i), .null, .null, .null] [] (am_set M 2 (zp (zpipes z i))) K) 5 ?_ ?_
  · exact g_S_levelPipes_2 ⟨fun c => g_S_levelPipes_98 h, fun c => absurd (i_le (Nat.le_refl 5) (by decide)) c⟩
  · intro one ho ih
    have hzp := zok_pipes hz one (by omega)
    have hfx : ∀ i, zfix i → zpipes z one i = z i := fun i hi => zpipes_fix hi one (by omega)
    have eih : zpipes z (one + 1) = zlevs one (zpipes z one) (4 - one) := rfl
    rw [eih] at ih
    generalize zpipes z one = zz at hzp ih hfx ⊢
    refine g_S_levelPipes_2 ⟨fun c => absurd c (i_nge ho (by decide)), fun c => ⟨5 + one, ix2 5 one, by show _ < 105; omega, ?_⟩⟩
    have ep : zp zz (5 + one) = zz (6 + one) := by unfold zp; rw [pz_p ho]
    refine am_R_le (xs := [.ref 1, .int (nI one), .int (zp zz (5 + one)), .int (nI (one + 1 + 0)), .null]) (by repeat' (first | exact trivial | exact Or.inr rfl | exact Or.inl rfl | exact Or.inr (congrArg Value.int (nI_succ _)) | refine ⟨?_, ?_⟩)) ?_
    rw [ep]
    refine lu (P := fun k => am_R am_S0 mt_S_levelPipes 1 20 [.ref 1, .int (nI one), .int (zz (6 + one)), .int (nI (one + 1 + k)), .null] [] (am_set M 2 (zp (zlevs one zz k))) K) (4 - one) ?_ ?_
    · refine g_S_levelPipes_20 ⟨fun c => ?_, fun c => absurd (i_le (show 5 ≤ one + 1 + (4 - one) by omega) (by omega)) c⟩
      exact g_S_levelPipes_92 (am_R_le (by repeat' (first | exact trivial | exact Or.inr rfl | exact Or.inl rfl | exact Or.inr (congrArg Value.int (nI_succ _)) | refine ⟨?_, ?_⟩)) ih)
    · intro k hk ihk
      have hzk := zok_levs hzp ho k (by omega)
      have hfk : zlevs one zz k (6 + one) = zz (6 + one) := zlevs_fix ho (by unfold zfix; omega) k (by omega)
      have ek : zlevs one zz (k + 1) = zlev1 one (one + 1 + k) (zlevs one zz k) := rfl
      rw [ek] at ihk
      rw [← hfk] at ihk ⊢
      generalize zlevs one zz k = zy at hzk ihk ⊢
      have ho2 : one + 1 + k < 5 := by omega
      refine g_S_levelPipes_20 ⟨fun c => absurd c (i_nge ho2 (by decide)), fun c => ⟨fun c => ?_, fun c => ?_⟩⟩
      · have c' : ¬ zpipe one (one + 1 + k) zy := c
        unfold zlev1 at ihk
        rw [if_neg c'] at ihk
        exact g_S_levelPipes_86 (am_R_le (by repeat' (first | exact trivial | exact Or.inr rfl | exact Or.inl rfl | exact Or.inr (congrArg Value.int (nI_succ _)) | refine ⟨?_, ?_⟩)) ihk)
      · have c' : zpipe one (one + 1 + k) zy := Classical.not_not.mp c
        unfold zlev1 at ihk
        rw [if_pos c'] at ihk
        have e1 : zp zy (10 + one) = zy (18 + 8 * one) := by unfold zp; rw [pz_w ho]
        have e2 : zp zy (10 + (one + 1 + k)) = zy (18 + 8 * (one + 1 + k)) := by unfold zp; rw [pz_w ho2]
        obtain ⟨q1, q2⟩ := zok_half hzk ho ho2
        refine ⟨10 + one, ix2 10 one, by show _ < 105; omega, 10 + (one + 1 + k), ix2 10 _, by show _ < 105; omega, ?_⟩
        generalize ho2e : one + 1 + k = other at ihk e2 q1 q2 ho2 c' ⊢
        rw [show one + 1 + (k + 1) = other + 1 by omega] at ihk
        have hno : one ≠ other := by omega
        refine ⟨fun c3 => ?_, fun c3 => ⟨nI2_ne, ?_⟩⟩
        · have c3' : ¬ 0 < zy (18 + 8 * one) - zy (18 + 8 * other) := by
            rw [← e1, ← e2]
            exact fun q => Int32.lt_irrefl (Int32.lt_trans c3 q)
          have ez : zlevel one other zy = zmove other one (-(zp zy (10 + one) - zp zy (10 + other)) / nI 2) zy := by
            unfold zlevel
            rw [if_neg c3', e1, e2]
          have q2' := q2 c3'
          rw [← e1, ← e2] at q2'
          rw [ez] at ihk
          refine g_S_levelPipes_74 ⟨nI2_ne, c_S_moveWater_1 (z := zy) (fr := other) (to := one) (by rw [am_set_eq]) hzk ho2 (by omega) q2' (g_S_levelPipes_86 ?_)⟩
          simp only [am_set_set]
          exact am_R_le (by repeat' (first | exact trivial | exact Or.inr rfl | exact Or.inl rfl | exact Or.inr (congrArg Value.int (nI_succ _)) | refine ⟨?_, ?_⟩)) ihk
        · by_cases c4 : 0 < zy (18 + 8 * one) - zy (18 + 8 * other)
          · have ez : zlevel one other zy = zmove one other ((zp zy (10 + one) - zp zy (10 + other)) / nI 2) zy := by
              unfold zlevel
              rw [if_pos c4, e1, e2]
            have q1' := q1 c4
            rw [← e1, ← e2] at q1'
            rw [ez] at ihk
            refine c_S_moveWater_1 (z := zy) (fr := one) (to := other) (by rw [am_set_eq]) hzk ho (by omega) q1' (g_S_levelPipes_86 ?_)
            simp only [am_set_set]
            exact am_R_le (by repeat' (first | exact trivial | exact Or.inr rfl | exact Or.inl rfl | exact Or.inr (congrArg Value.int (nI_succ _)) | refine ⟨?_, ?_⟩)) ihk
          · have ed : zp zy (10 + one) - zp zy (10 + other) = 0 := by
              rw [e1, e2]
              refine Int32.le_antisymm (Int32.not_lt.mp c4) ?_
              have c3'' : ¬ zp zy (10 + one) - zp zy (10 + other) < 0 := c3
              rw [e1, e2] at c3''
              exact Int32.not_lt.mp c3''
            have ez : zlevel one other zy = zmove one other ((zp zy (10 + one) - zp zy (10 + other)) / nI 2) zy := by
              have c3'' : ¬ 0 < zy (18 + 8 * one) - zy (18 + 8 * other) := c4
              unfold zlevel
              rw [if_neg c4, ← e1, ← e2, ed, zmove_0 hzk ho2 (by omega) (by decide +kernel), zmove_0 hzk ho (by omega) (by decide +kernel)]
            have q1' : 0 ≤ ((zp zy (10 + one) - zp zy (10 + other)) / nI 2).toInt := by
              rw [ed]
              decide +kernel
            rw [ez] at ihk
            refine c_S_moveWater_1 (z := zy) (fr := one) (to := other) (by rw [am_set_eq]) hzk ho (by omega) q1' (g_S_levelPipes_86 ?_)
            simp only [am_set_set]
            exact am_R_le (by repeat' (first | exact trivial | exact Or.inr rfl | exact Or.inl rfl | exact Or.inr (congrArg Value.int (nI_succ _)) | refine ⟨?_, ?_⟩)) ihk
theorem c_S_settleGrains_1 {z : dz} {M : am_M} {K : am_Q} (hM : M 2 = zp z) (h : K (.inl none) (am_set M 2 (zp (zsettles z 5)))) : am_C mt_S_settleGrains [.ref 1] M K := by
  have h0 : M = am_set M 2 (zp z) := by rw [← hM, am_set_self]
  refine am_C_of_R am_S0 om_S_settleGrains rfl [.ref 1, .null, .null, .null, .null, .null] rfl rfl (g_S_settleGrains_0 ?_)
  refine am_R_le (xs := [.ref 1, .int (nI 0), .null, .null, .null, .null]) (by repeat' (first | exact trivial | exact Or.inr rfl | exact Or.inl rfl | exact Or.inr (congrArg Value.int (nI_succ _)) | refine ⟨?_, ?_⟩)) ?_
  rw [h0]
  refine lu (P := fun i => am_R am_S0 mt_S_settleGrains 1 2 [.ref 1, .int (nI i), .null, .null, .null, .null] [] (am_set M 2 (zp (zsettles z i))) K) 5 ?_ ?_
  · exact g_S_settleGrains_2 ⟨fun c => g_S_settleGrains_88 h, fun c => absurd (i_le (Nat.le_refl 5) (by decide)) c⟩
  · intro v hv ih
    have eih : zsettles z (v + 1) = zsettle v (zsettles z v) 3 := rfl
    rw [eih] at ih
    generalize zsettles z v = zz at ih ⊢
    refine g_S_settleGrains_2 ⟨fun c => absurd c (i_nge hv (by decide)), fun c => c_S_limitIn_1 (z := zz) (v := v) (by rw [am_set_eq]) hv ?_⟩
    refine am_R_le (xs := [.ref 1, .int (nI v), .int (zholds v zz), .int (nI 0), .null, .null]) (by repeat' (first | exact trivial | exact Or.inr rfl | exact Or.inl rfl | exact Or.inr (congrArg Value.int (nI_succ _)) | refine ⟨?_, ?_⟩)) ?_
    refine lu (P := fun d => am_R am_S0 mt_S_settleGrains 1 15 [.ref 1, .int (nI v), .int (zholds v zz), .int (nI d), .null, .null] [] (am_set M 2 (zp (zsettle v zz d))) K) 3 ?_ ?_
    · exact g_S_settleGrains_15 ⟨fun c => g_S_settleGrains_82 (am_R_le (by repeat' (first | exact trivial | exact Or.inr rfl | exact Or.inl rfl | exact Or.inr (congrArg Value.int (nI_succ _)) | refine ⟨?_, ?_⟩)) ih), fun c => absurd (i_le (Nat.le_refl 3) (by decide)) c⟩
    · intro d hd ihd
      have eh : zholds v zz = zholds v (zsettle v zz d) := (zholds_keep (by omega)).symm
      have ed : zsettle v zz (d + 1) = zset1 v d (zsettle v zz d) := rfl
      rw [ed] at ihd
      rw [eh] at ihd ⊢
      generalize zsettle v zz d = zy at ihd ⊢
      have e1 : zp zy (15 + v * 3 + d) = zy (19 + 8 * v + d) := by unfold zp; rw [pz_d hv hd]
      refine g_S_settleGrains_15 ⟨fun c => absurd c (i_nge hd (by decide)), fun c => ⟨15 + v * 3 + d, ix4' 15 3 v d, by show _ < 105; omega, fun c2 => ?_, fun c2 => ?_⟩⟩
      · have c' : ¬ 0 < zy (19 + 8 * v + d) - zholds v zy := by
          rw [← e1]
          exact Int32.not_lt.mpr c2
        unfold zset1 at ihd
        rw [if_neg c'] at ihd
        exact g_S_settleGrains_76 (am_R_le (by repeat' (first | exact trivial | exact Or.inr rfl | exact Or.inl rfl | exact Or.inr (congrArg Value.int (nI_succ _)) | refine ⟨?_, ?_⟩)) ihd)
      · have c' : 0 < zy (19 + 8 * v + d) - zholds v zy := by
          rw [← e1]
          exact Int32.not_le.mp c2
        unfold zset1 at ihd
        rw [if_pos c'] at ihd
        refine ⟨15 + v * 3 + d, ix4' 15 3 v d, by show _ < 105; omega, 15 + v * 3 + d, ix4' 15 3 v d, by show _ < 105; omega, 30 + v * 3 + d, ix4' 30 3 v d, by show _ < 105; omega, 30 + v * 3 + d, ix4' 30 3 v d, by show _ < 105; omega, g_S_settleGrains_76 ?_⟩
        simp only [am_set_set]
        have e : upd (upd (zp zy) (15 + v * 3 + d) (zp zy (15 + v * 3 + d) - (zp zy (15 + v * 3 + d) - zholds v zy))) (30 + v * 3 + d) (upd (zp zy) (15 + v * 3 + d) (zp zy (15 + v * 3 + d) - (zp zy (15 + v * 3 + d) - zholds v zy)) (30 + v * 3 + d) + (zp zy (15 + v * 3 + d) - zholds v zy)) = zp (zadd (zadd zy (19 + 8 * v + d) (-(zy (19 + 8 * v + d) - zholds v zy))) (22 + 8 * v + d) (zy (19 + 8 * v + d) - zholds v zy)) := by
          rw [zp_sub, zp_add, pz_d hv hd, pz_s hv hd, e1]
        rw [← e] at ihd
        exact am_R_le (by repeat' (first | exact trivial | exact Or.inr rfl | exact Or.inl rfl | exact Or.inr (congrArg Value.int (nI_succ _)) | refine ⟨?_, ?_⟩)) ihd
theorem c_S_runValves_1 {z : dz} {M : am_M} {K : am_Q} (hM : M 2 = zp z) (hz : zok z) (h : K (.inl none) (am_set M 2 (zp (zvalves z (zn (z 5)))))) : am_C mt_S_runValves [.ref 1] M K := by
  obtain ⟨m, hm8, hm, hvs⟩ := hz.2.2.2.2.2
  have em : zn (z 5) = m := by rw [hm]; exact zn_nI (by omega)
  rw [em] at h
  obtain ⟨hv1, hv2⟩ := zok_valves hz hm hm8 m (Nat.le_refl _)
  have h0 : M = am_set M 2 (zp z) := by rw [← hM, am_set_self]
  refine am_C_of_R am_S0 om_S_runValves rfl [.ref 1, .null, .null, .null] rfl rfl (g_S_runValves_0 (c_S_hourOfDay_1 hM ?_))
  refine am_R_le (xs := [.ref 1, .int (zhod z), .int (nI 0), .null]) (by repeat' (first | exact trivial | exact Or.inr rfl | exact Or.inl rfl | exact Or.inr (congrArg Value.int (nI_succ _)) | refine ⟨?_, ?_⟩)) ?_
  rw [h0]
  refine lu (P := fun i => am_R am_S0 mt_S_runValves 1 7 [.ref 1, .int (zhod z), .int (nI i), .null] [] (am_set M 2 (zp (zvalves z i))) K) m ?_ ?_
  · have e5 : zvalves z m 5 = nI m := by rw [hv2 5 (by unfold zfix; omega), hm]
    refine g_S_runValves_7 ⟨56, rfl, by decide, fun c => g_S_runValves_86 h, fun c => absurd ?_ c⟩
    show zvalves z m 5 ≤ nI m
    rw [e5]
    exact i_le (Nat.le_refl m) (by omega)
  · intro k hk ih
    obtain ⟨hk1, hk2⟩ := zok_valves hz hm hm8 k (by omega)
    have e5 : zvalves z k 5 = nI m := by rw [hk2 5 (by unfold zfix; omega), hm]
    have eh : zhod z = zhod (zvalves z k) := by unfold zhod; rw [zvalves_keep0 hz hm hm8 k (by omega)]
    obtain ⟨m', hm', e5', hvk⟩ := hk1.2.2.2.2.2
    have hmm : m' = m := (nI_eq (by omega) (by omega)).mp (e5'.symm.trans e5)
    obtain ⟨w1, w2, w3, w4, w5, w6⟩ := zvok_use (hvk k (by omega))
    have ek : zvalves z (k + 1) = zvalve k (zvalves z k) := rfl
    rw [ek] at ih
    rw [eh] at ih ⊢
    generalize zvalves z k = zz at ih hk1 hk2 e5 w1 w2 w3 w4 w5 w6 ⊢
    refine g_S_runValves_7 ⟨56, rfl, by decide, fun c => absurd c ?_, fun c => ⟨fun c => absurd c (i_nge (show k < 8 by omega) (by decide)), fun c => ?_⟩⟩
    · show ¬ zz 5 ≤ nI k
      rw [e5]
      exact i_nge hk (by omega)
    have ei : nI 57 + nI k * nI 6 = nI (57 + 6 * k) := by rw [ix3', Nat.mul_comm]
    show am_C mt_S_isOpen [.ref 1, .int (nI 57 + nI k * nI 6), .int (zhod zz)] _ _
    rw [ei]
    refine c_S_isOpen_1 (z := zz) (k := k) (by rw [am_set_eq]) (by omega) ⟨fun c => ?_, fun c => ?_⟩
    · have c1 : ¬ (zz (57 + 6 * k + 3) ≤ zhod zz ∧ zhod zz ≤ zz (57 + 6 * k + 4)) := ib_eq0.mp c
      have c' : ¬ zopen k zz := c1
      unfold zvalve at ih
      rw [if_neg c'] at ih
      exact g_S_runValves_80 (am_R_le (by repeat' (first | exact trivial | exact Or.inr rfl | exact Or.inl rfl | exact Or.inr (congrArg Value.int (nI_succ _)) | refine ⟨?_, ?_⟩)) ih)
    · have c1 : zz (57 + 6 * k + 3) ≤ zhod zz ∧ zhod zz ≤ zz (57 + 6 * k + 4) := Classical.not_not.mp (fun z => c (ib_eq0.mpr z))
      have c' : zopen k zz := c1
      unfold zvalve at ih
      rw [if_pos c'] at ih
      have j5 : (nI 57 + nI k * nI 6) + nI 5 = nI (57 + 6 * k + 5) := by rw [ei, ix2]
      have j0 : (nI 57 + nI k * nI 6) + nI 0 = nI (57 + 6 * k) := by rw [ei, ix2]; rfl
      have j1 : (nI 57 + nI k * nI 6) + nI 1 = nI (57 + 6 * k + 1) := by rw [ei, ix2]
      have j2 : (nI 57 + nI k * nI 6) + nI 2 = nI (57 + 6 * k + 2) := by rw [ei, ix2]
      refine ⟨57 + 6 * k + 5, j5, by show _ < 105; omega, 57 + 6 * k, j0, by show _ < 105; omega, 57 + 6 * k + 1, j1, by show _ < 105; omega, 57 + 6 * k + 2, j2, by show _ < 105; omega, ?_⟩
      have f0 : zp zz (57 + 6 * k) = zz (57 + 6 * k) := by unfold zp; rw [pz_hi (by omega)]
      have f1 : zp zz (57 + 6 * k + 1) = zz (57 + 6 * k + 1) := by unfold zp; rw [pz_hi (by omega)]
      have f2 : zp zz (57 + 6 * k + 2) = zz (57 + 6 * k + 2) := by unfold zp; rw [pz_hi (by omega)]
      have f5 : zp zz (57 + 6 * k + 5) = zz (57 + 6 * k + 5) := by unfold zp; rw [pz_hi (by omega)]
      show am_C mt_S_moveWater [.ref 1, .int (zp zz (57 + 6 * k)), .int (zp zz (57 + 6 * k + 1)), .int (zp zz (57 + 6 * k + 2))] (am_set M 2 (zp zz)) _
      rw [f0, f1, f2, w1, w2]
      refine c_S_moveWater_1 (z := zz) (fr := zn (zz (57 + 6 * k))) (to := zn (zz (57 + 6 * k + 1))) (by rw [am_set_eq]) hk1 w3 w4 w6 ⟨57 + 6 * k + 5, j5, by show _ < 105; omega, g_S_runValves_80 ?_⟩
      simp only [am_set_set, am_set_eq]
      rw [zp_upd, pz_hi (by omega)]
      have ih' := ih
      rw [← f5] at ih'
      exact am_R_le (by repeat' (first | exact trivial | exact Or.inr rfl | exact Or.inl rfl | exact Or.inr (congrArg Value.int (nI_succ _)) | refine ⟨?_, ?_⟩)) ih'
theorem c_S_runHours_1 {z : dz} {n : Nat} {M : am_M} {K : am_Q} (hM : M 2 = zp z) (hz : zok z) (hn : n < 2 ^ 31) (h : K (.inl none) (am_set M 2 (zp (zhours z n)))) : am_C mt_S_runHours [.ref 1, .int (nI n)] M K := by
  have h0 : M = am_set M 2 (zp z) := by rw [← hM, am_set_self]
  refine am_C_of_R am_S0 om_S_runHours rfl [.ref 1, .int (nI n), .null] rfl rfl (g_S_runHours_0 ?_)
  refine am_R_le (xs := [.ref 1, .int (nI n), .int (nI 0)]) (by repeat' (first | exact trivial | exact Or.inr rfl | exact Or.inl rfl | exact Or.inr (congrArg Value.int (nI_succ _)) | refine ⟨?_, ?_⟩)) ?_
  rw [h0]
  refine lu (P := fun i => am_R am_S0 mt_S_runHours 1 2 [.ref 1, .int (nI n), .int (nI i)] [] (am_set M 2 (zp (zhours z i))) K) n ?_ ?_
  · exact g_S_runHours_2 ⟨fun c => g_S_runHours_36 h, fun c => absurd (i_le (Nat.le_refl n) hn) c⟩
  · intro i hi ih
    obtain ⟨hk, -⟩ := zok_hours hz i
    have eih : zhours z (i + 1) = zhour (zhours z i) := rfl
    rw [eih] at ih
    generalize zhours z i = zz at ih hk ⊢
    obtain ⟨m, hm8, hm, hvs⟩ := hk.2.2.2.2.2
    have em : zn (zz 5) = m := by rw [hm]; exact zn_nI (by omega)
    obtain ⟨hv1, hv2⟩ := zok_valves hk hm hm8 m (Nat.le_refl _)
    unfold zhour at ih
    rw [em] at ih
    refine g_S_runHours_2 ⟨fun c => absurd c (i_nge hi hn), fun c => c_S_runValves_1 (z := zz) (by rw [am_set_eq]) hk ?_⟩
    rw [am_set_set, em]
    refine c_S_levelPipes_1 (z := zvalves zz m) (by rw [am_set_eq]) hv1 (c_S_settleGrains_1 (z := zpipes (zvalves zz m) 5) (by rw [am_set_eq]) ⟨52, rfl, by decide, 52, rfl, by decide, ?_⟩)
    simp only [am_set_set]
    generalize zsettles (zpipes (zvalves zz m) 5) 5 = zs at ih ⊢
    have e : upd (zp zs) 52 (zp zs 52 + nI 1) = zp (zadd zs 0 (nI 1)) := zp_add zs 52 (nI 1)
    rw [← e] at ih
    exact am_R_le (by repeat' (first | exact trivial | exact Or.inr rfl | exact Or.inl rfl | exact Or.inr (congrArg Value.int (nI_succ _)) | refine ⟨?_, ?_⟩)) ih
theorem c_S_levelPipes_3 {z : dz} {M : am_M} {K : am_Q} (hM : M 4 = zp z) (hz : zok z) (h : K (.inl none) (am_set M 4 (zp (zpipes z 5)))) : am_C mt_S_levelPipes [.ref 3] M K := by
  have h0 : M = am_set M 4 (zp z) := by rw [← hM, am_set_self]
  refine am_C_of_R am_S0 om_S_levelPipes rfl [.ref 3, .null, .null, .null, .null] rfl rfl (g_S_levelPipes_0 ?_)
  refine am_R_le (xs := [.ref 3, .int (nI 0), .null, .null, .null]) (by repeat' (first | exact trivial | exact Or.inr rfl | exact Or.inl rfl | exact Or.inr (congrArg Value.int (nI_succ _)) | refine ⟨?_, ?_⟩)) ?_
  rw [h0]
  refine lu (P := fun i => am_R am_S0 mt_S_levelPipes 1 2 [.ref 3, .int (nI i), .null, .null, .null] [] (am_set M 4 (zp (zpipes z i))) K) 5 ?_ ?_
  · exact g_S_levelPipes_2 ⟨fun c => g_S_levelPipes_98 h, fun c => absurd (i_le (Nat.le_refl 5) (by decide)) c⟩
  · intro one ho ih
    have hzp := zok_pipes hz one (by omega)
    have hfx : ∀ i, zfix i → zpipes z one i = z i := fun i hi => zpipes_fix hi one (by omega)
    have eih : zpipes z (one + 1) = zlevs one (zpipes z one) (4 - one) := rfl
    rw [eih] at ih
    generalize zpipes z one = zz at hzp ih hfx ⊢
    refine g_S_levelPipes_2 ⟨fun c => absurd c (i_nge ho (by decide)), fun c => ⟨5 + one, ix2 5 one, by show _ < 105; omega, ?_⟩⟩
    have ep : zp zz (5 + one) = zz (6 + one) := by unfold zp; rw [pz_p ho]
    refine am_R_le (xs := [.ref 3, .int (nI one), .int (zp zz (5 + one)), .int (nI (one + 1 + 0)), .null]) (by repeat' (first | exact trivial | exact Or.inr rfl | exact Or.inl rfl | exact Or.inr (congrArg Value.int (nI_succ _)) | refine ⟨?_, ?_⟩)) ?_
    rw [ep]
    refine lu (P := fun k => am_R am_S0 mt_S_levelPipes 1 20 [.ref 3, .int (nI one), .int (zz (6 + one)), .int (nI (one + 1 + k)), .null] [] (am_set M 4 (zp (zlevs one zz k))) K) (4 - one) ?_ ?_
    · refine g_S_levelPipes_20 ⟨fun c => ?_, fun c => absurd (i_le (show 5 ≤ one + 1 + (4 - one) by omega) (by omega)) c⟩
      exact g_S_levelPipes_92 (am_R_le (by repeat' (first | exact trivial | exact Or.inr rfl | exact Or.inl rfl | exact Or.inr (congrArg Value.int (nI_succ _)) | refine ⟨?_, ?_⟩)) ih)
    · intro k hk ihk
      have hzk := zok_levs hzp ho k (by omega)
      have hfk : zlevs one zz k (6 + one) = zz (6 + one) := zlevs_fix ho (by unfold zfix; omega) k (by omega)
      have ek : zlevs one zz (k + 1) = zlev1 one (one + 1 + k) (zlevs one zz k) := rfl
      rw [ek] at ihk
      rw [← hfk] at ihk ⊢
      generalize zlevs one zz k = zy at hzk ihk ⊢
      have ho2 : one + 1 + k < 5 := by omega
      refine g_S_levelPipes_20 ⟨fun c => absurd c (i_nge ho2 (by decide)), fun c => ⟨fun c => ?_, fun c => ?_⟩⟩
      · have c' : ¬ zpipe one (one + 1 + k) zy := c
        unfold zlev1 at ihk
        rw [if_neg c'] at ihk
        exact g_S_levelPipes_86 (am_R_le (by repeat' (first | exact trivial | exact Or.inr rfl | exact Or.inl rfl | exact Or.inr (congrArg Value.int (nI_succ _)) | refine ⟨?_, ?_⟩)) ihk)
      · have c' : zpipe one (one + 1 + k) zy := Classical.not_not.mp c
        unfold zlev1 at ihk
        rw [if_pos c'] at ihk
        have e1 : zp zy (10 + one) = zy (18 + 8 * one) := by unfold zp; rw [pz_w ho]
        have e2 : zp zy (10 + (one + 1 + k)) = zy (18 + 8 * (one + 1 + k)) := by unfold zp; rw [pz_w ho2]
        obtain ⟨q1, q2⟩ := zok_half hzk ho ho2
        refine ⟨10 + one, ix2 10 one, by show _ < 105; omega, 10 + (one + 1 + k), ix2 10 _, by show _ < 105; omega, ?_⟩
        generalize ho2e : one + 1 + k = other at ihk e2 q1 q2 ho2 c' ⊢
        rw [show one + 1 + (k + 1) = other + 1 by omega] at ihk
        have hno : one ≠ other := by omega
        refine ⟨fun c3 => ?_, fun c3 => ⟨nI2_ne, ?_⟩⟩
        · have c3' : ¬ 0 < zy (18 + 8 * one) - zy (18 + 8 * other) := by
            rw [← e1, ← e2]
            exact fun q => Int32.lt_irrefl (Int32.lt_trans c3 q)
          have ez : zlevel one other zy = zmove other one (-(zp zy (10 + one) - zp zy (10 + other)) / nI 2) zy := by
            unfold zlevel
            rw [if_neg c3', e1, e2]
          have q2' := q2 c3'
          rw [← e1, ← e2] at q2'
          rw [ez] at ihk
          refine g_S_levelPipes_74 ⟨nI2_ne, c_S_moveWater_3 (z := zy) (fr := other) (to := one) (by rw [am_set_eq]) hzk ho2 (by omega) q2' (g_S_levelPipes_86 ?_)⟩
          simp only [am_set_set]
          exact am_R_le (by repeat' (first | exact trivial | exact Or.inr rfl | exact Or.inl rfl | exact Or.inr (congrArg Value.int (nI_succ _)) | refine ⟨?_, ?_⟩)) ihk
        · by_cases c4 : 0 < zy (18 + 8 * one) - zy (18 + 8 * other)
          · have ez : zlevel one other zy = zmove one other ((zp zy (10 + one) - zp zy (10 + other)) / nI 2) zy := by
              unfold zlevel
              rw [if_pos c4, e1, e2]
            have q1' := q1 c4
            rw [← e1, ← e2] at q1'
            rw [ez] at ihk
            refine c_S_moveWater_3 (z := zy) (fr := one) (to := other) (by rw [am_set_eq]) hzk ho (by omega) q1' (g_S_levelPipes_86 ?_)
            simp only [am_set_set]
            exact am_R_le (by repeat' (first | exact trivial | exact Or.inr rfl | exact Or.inl rfl | exact Or.inr (congrArg Value.int (nI_succ _)) | refine ⟨?_, ?_⟩)) ihk
          · have ed : zp zy (10 + one) - zp zy (10 + other) = 0 := by
              rw [e1, e2]
              refine Int32.le_antisymm (Int32.not_lt.mp c4) ?_
              have c3'' : ¬ zp zy (10 + one) - zp zy (10 + other) < 0 := c3
              rw [e1, e2] at c3''
              exact Int32.not_lt.mp c3''
            have ez : zlevel one other zy = zmove one other ((zp zy (10 + one) - zp zy (10 + other)) / nI 2) zy := by
              have c3'' : ¬ 0 < zy (18 + 8 * one) - zy (18 + 8 * other) := c4
              unfold zlevel
              rw [if_neg c4, ← e1, ← e2, ed, zmove_0 hzk ho2 (by omega) (by decide +kernel), zmove_0 hzk ho (by omega) (by decide +kernel)]
            have q1' : 0 ≤ ((zp zy (10 + one) - zp zy (10 + other)) / nI 2).toInt := by
              rw [ed]
              decide +kernel
            rw [ez] at ihk
            refine c_S_moveWater_3 (z := zy) (fr := one) (to := other) (by rw [am_set_eq]) hzk ho (by omega) q1' (g_S_levelPipes_86 ?_)
            simp only [am_set_set]
            exact am_R_le (by repeat' (first | exact trivial | exact Or.inr rfl | exact Or.inl rfl | exact Or.inr (congrArg Value.int (nI_succ _)) | refine ⟨?_, ?_⟩)) ihk
theorem c_S_settleGrains_3 {z : dz} {M : am_M} {K : am_Q} (hM : M 4 = zp z) (h : K (.inl none) (am_set M 4 (zp (zsettles z 5)))) : am_C mt_S_settleGrains [.ref 3] M K := by
  have h0 : M = am_set M 4 (zp z) := by rw [← hM, am_set_self]
  refine am_C_of_R am_S0 om_S_settleGrains rfl [.ref 3, .null, .null, .null, .null, .null] rfl rfl (g_S_settleGrains_0 ?_)
  refine am_R_le (xs := [.ref 3, .int (nI 0), .null, .null, .null, .null]) (by repeat' (first | exact trivial | exact Or.inr rfl | exact Or.inl rfl | exact Or.inr (congrArg Value.int (nI_succ _)) | refine ⟨?_, ?_⟩)) ?_
  rw [h0]
  refine lu (P := fun i => am_R am_S0 mt_S_settleGrains 1 2 [.ref 3, .int (nI i), .null, .null, .null, .null] [] (am_set M 4 (zp (zsettles z i))) K) 5 ?_ ?_
  · exact g_S_settleGrains_2 ⟨fun c => g_S_settleGrains_88 h, fun c => absurd (i_le (Nat.le_refl 5) (by decide)) c⟩
  · intro v hv ih
    have eih : zsettles z (v + 1) = zsettle v (zsettles z v) 3 := rfl
    rw [eih] at ih
    generalize zsettles z v = zz at ih ⊢
    refine g_S_settleGrains_2 ⟨fun c => absurd c (i_nge hv (by decide)), fun c => c_S_limitIn_3 (z := zz) (v := v) (by rw [am_set_eq]) hv ?_⟩
    refine am_R_le (xs := [.ref 3, .int (nI v), .int (zholds v zz), .int (nI 0), .null, .null]) (by repeat' (first | exact trivial | exact Or.inr rfl | exact Or.inl rfl | exact Or.inr (congrArg Value.int (nI_succ _)) | refine ⟨?_, ?_⟩)) ?_
    refine lu (P := fun d => am_R am_S0 mt_S_settleGrains 1 15 [.ref 3, .int (nI v), .int (zholds v zz), .int (nI d), .null, .null] [] (am_set M 4 (zp (zsettle v zz d))) K) 3 ?_ ?_
    · exact g_S_settleGrains_15 ⟨fun c => g_S_settleGrains_82 (am_R_le (by repeat' (first | exact trivial | exact Or.inr rfl | exact Or.inl rfl | exact Or.inr (congrArg Value.int (nI_succ _)) | refine ⟨?_, ?_⟩)) ih), fun c => absurd (i_le (Nat.le_refl 3) (by decide)) c⟩
    · intro d hd ihd
      have eh : zholds v zz = zholds v (zsettle v zz d) := (zholds_keep (by omega)).symm
      have ed : zsettle v zz (d + 1) = zset1 v d (zsettle v zz d) := rfl
      rw [ed] at ihd
      rw [eh] at ihd ⊢
      generalize zsettle v zz d = zy at ihd ⊢
      have e1 : zp zy (15 + v * 3 + d) = zy (19 + 8 * v + d) := by unfold zp; rw [pz_d hv hd]
      refine g_S_settleGrains_15 ⟨fun c => absurd c (i_nge hd (by decide)), fun c => ⟨15 + v * 3 + d, ix4' 15 3 v d, by show _ < 105; omega, fun c2 => ?_, fun c2 => ?_⟩⟩
      · have c' : ¬ 0 < zy (19 + 8 * v + d) - zholds v zy := by
          rw [← e1]
          exact Int32.not_lt.mpr c2
        unfold zset1 at ihd
        rw [if_neg c'] at ihd
        exact g_S_settleGrains_76 (am_R_le (by repeat' (first | exact trivial | exact Or.inr rfl | exact Or.inl rfl | exact Or.inr (congrArg Value.int (nI_succ _)) | refine ⟨?_, ?_⟩)) ihd)
      · have c' : 0 < zy (19 + 8 * v + d) - zholds v zy := by
          rw [← e1]
          exact Int32.not_le.mp c2
        unfold zset1 at ihd
        rw [if_pos c'] at ihd
        refine ⟨15 + v * 3 + d, ix4' 15 3 v d, by show _ < 105; omega, 15 + v * 3 + d, ix4' 15 3 v d, by show _ < 105; omega, 30 + v * 3 + d, ix4' 30 3 v d, by show _ < 105; omega, 30 + v * 3 + d, ix4' 30 3 v d, by show _ < 105; omega, g_S_settleGrains_76 ?_⟩
        simp only [am_set_set]
        have e : upd (upd (zp zy) (15 + v * 3 + d) (zp zy (15 + v * 3 + d) - (zp zy (15 + v * 3 + d) - zholds v zy))) (30 + v * 3 + d) (upd (zp zy) (15 + v * 3 + d) (zp zy (15 + v * 3 + d) - (zp zy (15 + v * 3 + d) - zholds v zy)) (30 + v * 3 + d) + (zp zy (15 + v * 3 + d) - zholds v zy)) = zp (zadd (zadd zy (19 + 8 * v + d) (-(zy (19 + 8 * v + d) - zholds v zy))) (22 + 8 * v + d) (zy (19 + 8 * v + d) - zholds v zy)) := by
          rw [zp_sub, zp_add, pz_d hv hd, pz_s hv hd, e1]
        rw [← e] at ihd
        exact am_R_le (by repeat' (first | exact trivial | exact Or.inr rfl | exact Or.inl rfl | exact Or.inr (congrArg Value.int (nI_succ _)) | refine ⟨?_, ?_⟩)) ihd
theorem c_S_runValves_3 {z : dz} {M : am_M} {K : am_Q} (hM : M 4 = zp z) (hz : zok z) (h : K (.inl none) (am_set M 4 (zp (zvalves z (zn (z 5)))))) : am_C mt_S_runValves [.ref 3] M K := by
  obtain ⟨m, hm8, hm, hvs⟩ := hz.2.2.2.2.2
  have em : zn (z 5) = m := by rw [hm]; exact zn_nI (by omega)
  rw [em] at h
  obtain ⟨hv1, hv2⟩ := zok_valves hz hm hm8 m (Nat.le_refl _)
  have h0 : M = am_set M 4 (zp z) := by rw [← hM, am_set_self]
  refine am_C_of_R am_S0 om_S_runValves rfl [.ref 3, .null, .null, .null] rfl rfl (g_S_runValves_0 (c_S_hourOfDay_3 hM ?_))
  refine am_R_le (xs := [.ref 3, .int (zhod z), .int (nI 0), .null]) (by repeat' (first | exact trivial | exact Or.inr rfl | exact Or.inl rfl | exact Or.inr (congrArg Value.int (nI_succ _)) | refine ⟨?_, ?_⟩)) ?_
  rw [h0]
  refine lu (P := fun i => am_R am_S0 mt_S_runValves 1 7 [.ref 3, .int (zhod z), .int (nI i), .null] [] (am_set M 4 (zp (zvalves z i))) K) m ?_ ?_
  · have e5 : zvalves z m 5 = nI m := by rw [hv2 5 (by unfold zfix; omega), hm]
    refine g_S_runValves_7 ⟨56, rfl, by decide, fun c => g_S_runValves_86 h, fun c => absurd ?_ c⟩
    show zvalves z m 5 ≤ nI m
    rw [e5]
    exact i_le (Nat.le_refl m) (by omega)
  · intro k hk ih
    obtain ⟨hk1, hk2⟩ := zok_valves hz hm hm8 k (by omega)
    have e5 : zvalves z k 5 = nI m := by rw [hk2 5 (by unfold zfix; omega), hm]
    have eh : zhod z = zhod (zvalves z k) := by unfold zhod; rw [zvalves_keep0 hz hm hm8 k (by omega)]
    obtain ⟨m', hm', e5', hvk⟩ := hk1.2.2.2.2.2
    have hmm : m' = m := (nI_eq (by omega) (by omega)).mp (e5'.symm.trans e5)
    obtain ⟨w1, w2, w3, w4, w5, w6⟩ := zvok_use (hvk k (by omega))
    have ek : zvalves z (k + 1) = zvalve k (zvalves z k) := rfl
    rw [ek] at ih
    rw [eh] at ih ⊢
    generalize zvalves z k = zz at ih hk1 hk2 e5 w1 w2 w3 w4 w5 w6 ⊢
    refine g_S_runValves_7 ⟨56, rfl, by decide, fun c => absurd c ?_, fun c => ⟨fun c => absurd c (i_nge (show k < 8 by omega) (by decide)), fun c => ?_⟩⟩
    · show ¬ zz 5 ≤ nI k
      rw [e5]
      exact i_nge hk (by omega)
    have ei : nI 57 + nI k * nI 6 = nI (57 + 6 * k) := by rw [ix3', Nat.mul_comm]
    show am_C mt_S_isOpen [.ref 3, .int (nI 57 + nI k * nI 6), .int (zhod zz)] _ _
    rw [ei]
    refine c_S_isOpen_3 (z := zz) (k := k) (by rw [am_set_eq]) (by omega) ⟨fun c => ?_, fun c => ?_⟩
    · have c1 : ¬ (zz (57 + 6 * k + 3) ≤ zhod zz ∧ zhod zz ≤ zz (57 + 6 * k + 4)) := ib_eq0.mp c
      have c' : ¬ zopen k zz := c1
      unfold zvalve at ih
      rw [if_neg c'] at ih
      exact g_S_runValves_80 (am_R_le (by repeat' (first | exact trivial | exact Or.inr rfl | exact Or.inl rfl | exact Or.inr (congrArg Value.int (nI_succ _)) | refine ⟨?_, ?_⟩)) ih)
    · have c1 : zz (57 + 6 * k + 3) ≤ zhod zz ∧ zhod zz ≤ zz (57 + 6 * k + 4) := Classical.not_not.mp (fun z => c (ib_eq0.mpr z))
      have c' : zopen k zz := c1
      unfold zvalve at ih
      rw [if_pos c'] at ih
      have j5 : (nI 57 + nI k * nI 6) + nI 5 = nI (57 + 6 * k + 5) := by rw [ei, ix2]
      have j0 : (nI 57 + nI k * nI 6) + nI 0 = nI (57 + 6 * k) := by rw [ei, ix2]; rfl
      have j1 : (nI 57 + nI k * nI 6) + nI 1 = nI (57 + 6 * k + 1) := by rw [ei, ix2]
      have j2 : (nI 57 + nI k * nI 6) + nI 2 = nI (57 + 6 * k + 2) := by rw [ei, ix2]
      refine ⟨57 + 6 * k + 5, j5, by show _ < 105; omega, 57 + 6 * k, j0, by show _ < 105; omega, 57 + 6 * k + 1, j1, by show _ < 105; omega, 57 + 6 * k + 2, j2, by show _ < 105; omega, ?_⟩
      have f0 : zp zz (57 + 6 * k) = zz (57 + 6 * k) := by unfold zp; rw [pz_hi (by omega)]
      have f1 : zp zz (57 + 6 * k + 1) = zz (57 + 6 * k + 1) := by unfold zp; rw [pz_hi (by omega)]
      have f2 : zp zz (57 + 6 * k + 2) = zz (57 + 6 * k + 2) := by unfold zp; rw [pz_hi (by omega)]
      have f5 : zp zz (57 + 6 * k + 5) = zz (57 + 6 * k + 5) := by unfold zp; rw [pz_hi (by omega)]
      show am_C mt_S_moveWater [.ref 3, .int (zp zz (57 + 6 * k)), .int (zp zz (57 + 6 * k + 1)), .int (zp zz (57 + 6 * k + 2))] (am_set M 4 (zp zz)) _
      rw [f0, f1, f2, w1, w2]
      refine c_S_moveWater_3 (z := zz) (fr := zn (zz (57 + 6 * k))) (to := zn (zz (57 + 6 * k + 1))) (by rw [am_set_eq]) hk1 w3 w4 w6 ⟨57 + 6 * k + 5, j5, by show _ < 105; omega, g_S_runValves_80 ?_⟩
      simp only [am_set_set, am_set_eq]
      rw [zp_upd, pz_hi (by omega)]
      have ih' := ih
      rw [← f5] at ih'
      exact am_R_le (by repeat' (first | exact trivial | exact Or.inr rfl | exact Or.inl rfl | exact Or.inr (congrArg Value.int (nI_succ _)) | refine ⟨?_, ?_⟩)) ih'
theorem c_S_runHours_3 {z : dz} {n : Nat} {M : am_M} {K : am_Q} (hM : M 4 = zp z) (hz : zok z) (hn : n < 2 ^ 31) (h : K (.inl none) (am_set M 4 (zp (zhours z n)))) : am_C mt_S_runHours [.ref 3, .int (nI n)] M K := by
  have h0 : M = am_set M 4 (zp z) := by rw [← hM, am_set_self]
  refine am_C_of_R am_S0 om_S_runHours rfl [.ref 3, .int (nI n), .null] rfl rfl (g_S_runHours_0 ?_)
  refine am_R_le (xs := [.ref 3, .int (nI n), .int (nI 0)]) (by repeat' (first | exact trivial | exact Or.inr rfl | exact Or.inl rfl | exact Or.inr (congrArg Value.int (nI_succ _)) | refine ⟨?_, ?_⟩)) ?_
  rw [h0]
  refine lu (P := fun i => am_R am_S0 mt_S_runHours 1 2 [.ref 3, .int (nI n), .int (nI i)] [] (am_set M 4 (zp (zhours z i))) K) n ?_ ?_
  · exact g_S_runHours_2 ⟨fun c => g_S_runHours_36 h, fun c => absurd (i_le (Nat.le_refl n) hn) c⟩
  · intro i hi ih
    obtain ⟨hk, -⟩ := zok_hours hz i
    have eih : zhours z (i + 1) = zhour (zhours z i) := rfl
    rw [eih] at ih
    generalize zhours z i = zz at ih hk ⊢
    obtain ⟨m, hm8, hm, hvs⟩ := hk.2.2.2.2.2
    have em : zn (zz 5) = m := by rw [hm]; exact zn_nI (by omega)
    obtain ⟨hv1, hv2⟩ := zok_valves hk hm hm8 m (Nat.le_refl _)
    unfold zhour at ih
    rw [em] at ih
    refine g_S_runHours_2 ⟨fun c => absurd c (i_nge hi hn), fun c => c_S_runValves_3 (z := zz) (by rw [am_set_eq]) hk ?_⟩
    rw [am_set_set, em]
    refine c_S_levelPipes_3 (z := zvalves zz m) (by rw [am_set_eq]) hv1 (c_S_settleGrains_3 (z := zpipes (zvalves zz m) 5) (by rw [am_set_eq]) ⟨52, rfl, by decide, 52, rfl, by decide, ?_⟩)
    simp only [am_set_set]
    generalize zsettles (zpipes (zvalves zz m) 5) 5 = zs at ih ⊢
    have e : upd (zp zs) 52 (zp zs 52 + nI 1) = zp (zadd zs 0 (nI 1)) := zp_add zs 52 (nI 1)
    rw [← e] at ih
    exact am_R_le (by repeat' (first | exact trivial | exact Or.inr rfl | exact Or.inl rfl | exact Or.inr (congrArg Value.int (nI_succ _)) | refine ⟨?_, ?_⟩)) ih
theorem c_S_levelPipes_6 {z : dz} {M : am_M} {K : am_Q} (hM : M 7 = zp z) (hz : zok z) (h : K (.inl none) (am_set M 7 (zp (zpipes z 5)))) : am_C mt_S_levelPipes [.ref 6] M K := by
  have h0 : M = am_set M 7 (zp z) := by rw [← hM, am_set_self]
  refine am_C_of_R am_S0 om_S_levelPipes rfl [.ref 6, .null, .null, .null, .null] rfl rfl (g_S_levelPipes_0 ?_)
  refine am_R_le (xs := [.ref 6, .int (nI 0), .null, .null, .null]) (by repeat' (first | exact trivial | exact Or.inr rfl | exact Or.inl rfl | exact Or.inr (congrArg Value.int (nI_succ _)) | refine ⟨?_, ?_⟩)) ?_
  rw [h0]
  refine lu (P := fun i => am_R am_S0 mt_S_levelPipes 1 2 [.ref 6, .int (nI i), .null, .null, .null] [] (am_set M 7 (zp (zpipes z i))) K) 5 ?_ ?_
  · exact g_S_levelPipes_2 ⟨fun c => g_S_levelPipes_98 h, fun c => absurd (i_le (Nat.le_refl 5) (by decide)) c⟩
  · intro one ho ih
    have hzp := zok_pipes hz one (by omega)
    have hfx : ∀ i, zfix i → zpipes z one i = z i := fun i hi => zpipes_fix hi one (by omega)
    have eih : zpipes z (one + 1) = zlevs one (zpipes z one) (4 - one) := rfl
    rw [eih] at ih
    generalize zpipes z one = zz at hzp ih hfx ⊢
    refine g_S_levelPipes_2 ⟨fun c => absurd c (i_nge ho (by decide)), fun c => ⟨5 + one, ix2 5 one, by show _ < 105; omega, ?_⟩⟩
    have ep : zp zz (5 + one) = zz (6 + one) := by unfold zp; rw [pz_p ho]
    refine am_R_le (xs := [.ref 6, .int (nI one), .int (zp zz (5 + one)), .int (nI (one + 1 + 0)), .null]) (by repeat' (first | exact trivial | exact Or.inr rfl | exact Or.inl rfl | exact Or.inr (congrArg Value.int (nI_succ _)) | refine ⟨?_, ?_⟩)) ?_
    rw [ep]
    refine lu (P := fun k => am_R am_S0 mt_S_levelPipes 1 20 [.ref 6, .int (nI one), .int (zz (6 + one)), .int (nI (one + 1 + k)), .null] [] (am_set M 7 (zp (zlevs one zz k))) K) (4 - one) ?_ ?_
    · refine g_S_levelPipes_20 ⟨fun c => ?_, fun c => absurd (i_le (show 5 ≤ one + 1 + (4 - one) by omega) (by omega)) c⟩
      exact g_S_levelPipes_92 (am_R_le (by repeat' (first | exact trivial | exact Or.inr rfl | exact Or.inl rfl | exact Or.inr (congrArg Value.int (nI_succ _)) | refine ⟨?_, ?_⟩)) ih)
    · intro k hk ihk
      have hzk := zok_levs hzp ho k (by omega)
      have hfk : zlevs one zz k (6 + one) = zz (6 + one) := zlevs_fix ho (by unfold zfix; omega) k (by omega)
      have ek : zlevs one zz (k + 1) = zlev1 one (one + 1 + k) (zlevs one zz k) := rfl
      rw [ek] at ihk
      rw [← hfk] at ihk ⊢
      generalize zlevs one zz k = zy at hzk ihk ⊢
      have ho2 : one + 1 + k < 5 := by omega
      refine g_S_levelPipes_20 ⟨fun c => absurd c (i_nge ho2 (by decide)), fun c => ⟨fun c => ?_, fun c => ?_⟩⟩
      · have c' : ¬ zpipe one (one + 1 + k) zy := c
        unfold zlev1 at ihk
        rw [if_neg c'] at ihk
        exact g_S_levelPipes_86 (am_R_le (by repeat' (first | exact trivial | exact Or.inr rfl | exact Or.inl rfl | exact Or.inr (congrArg Value.int (nI_succ _)) | refine ⟨?_, ?_⟩)) ihk)
      · have c' : zpipe one (one + 1 + k) zy := Classical.not_not.mp c
        unfold zlev1 at ihk
        rw [if_pos c'] at ihk
        have e1 : zp zy (10 + one) = zy (18 + 8 * one) := by unfold zp; rw [pz_w ho]
        have e2 : zp zy (10 + (one + 1 + k)) = zy (18 + 8 * (one + 1 + k)) := by unfold zp; rw [pz_w ho2]
        obtain ⟨q1, q2⟩ := zok_half hzk ho ho2
        refine ⟨10 + one, ix2 10 one, by show _ < 105; omega, 10 + (one + 1 + k), ix2 10 _, by show _ < 105; omega, ?_⟩
        generalize ho2e : one + 1 + k = other at ihk e2 q1 q2 ho2 c' ⊢
        rw [show one + 1 + (k + 1) = other + 1 by omega] at ihk
        have hno : one ≠ other := by omega
        refine ⟨fun c3 => ?_, fun c3 => ⟨nI2_ne, ?_⟩⟩
        · have c3' : ¬ 0 < zy (18 + 8 * one) - zy (18 + 8 * other) := by
            rw [← e1, ← e2]
            exact fun q => Int32.lt_irrefl (Int32.lt_trans c3 q)
          have ez : zlevel one other zy = zmove other one (-(zp zy (10 + one) - zp zy (10 + other)) / nI 2) zy := by
            unfold zlevel
            rw [if_neg c3', e1, e2]
          have q2' := q2 c3'
          rw [← e1, ← e2] at q2'
          rw [ez] at ihk
          refine g_S_levelPipes_74 ⟨nI2_ne, c_S_moveWater_6 (z := zy) (fr := other) (to := one) (by rw [am_set_eq]) hzk ho2 (by omega) q2' (g_S_levelPipes_86 ?_)⟩
          simp only [am_set_set]
          exact am_R_le (by repeat' (first | exact trivial | exact Or.inr rfl | exact Or.inl rfl | exact Or.inr (congrArg Value.int (nI_succ _)) | refine ⟨?_, ?_⟩)) ihk
        · by_cases c4 : 0 < zy (18 + 8 * one) - zy (18 + 8 * other)
          · have ez : zlevel one other zy = zmove one other ((zp zy (10 + one) - zp zy (10 + other)) / nI 2) zy := by
              unfold zlevel
              rw [if_pos c4, e1, e2]
            have q1' := q1 c4
            rw [← e1, ← e2] at q1'
            rw [ez] at ihk
            refine c_S_moveWater_6 (z := zy) (fr := one) (to := other) (by rw [am_set_eq]) hzk ho (by omega) q1' (g_S_levelPipes_86 ?_)
            simp only [am_set_set]
            exact am_R_le (by repeat' (first | exact trivial | exact Or.inr rfl | exact Or.inl rfl | exact Or.inr (congrArg Value.int (nI_succ _)) | refine ⟨?_, ?_⟩)) ihk
          · have ed : zp zy (10 + one) - zp zy (10 + other) = 0 := by
              rw [e1, e2]
              refine Int32.le_antisymm (Int32.not_lt.mp c4) ?_
              have c3'' : ¬ zp zy (10 + one) - zp zy (10 + other) < 0 := c3
              rw [e1, e2] at c3''
              exact Int32.not_lt.mp c3''
            have ez : zlevel one other zy = zmove one other ((zp zy (10 + one) - zp zy (10 + other)) / nI 2) zy := by
              have c3'' : ¬ 0 < zy (18 + 8 * one) - zy (18 + 8 * other) := c4
              unfold zlevel
              rw [if_neg c4, ← e1, ← e2, ed, zmove_0 hzk ho2 (by omega) (by decide +kernel), zmove_0 hzk ho (by omega) (by decide +kernel)]
            have q1' : 0 ≤ ((zp zy (10 + one) - zp zy (10 + other)) / nI 2).toInt := by
              rw [ed]
              decide +kernel
            rw [ez] at ihk
            refine c_S_moveWater_6 (z := zy) (fr := one) (to := other) (by rw [am_set_eq]) hzk ho (by omega) q1' (g_S_levelPipes_86 ?_)
            simp only [am_set_set]
            exact am_R_le (by repeat' (first | exact trivial | exact Or.inr rfl | exact Or.inl rfl | exact Or.inr (congrArg Value.int (nI_succ _)) | refine ⟨?_, ?_⟩)) ihk
theorem c_S_settleGrains_6 {z : dz} {M : am_M} {K : am_Q} (hM : M 7 = zp z) (h : K (.inl none) (am_set M 7 (zp (zsettles z 5)))) : am_C mt_S_settleGrains [.ref 6] M K := by
  have h0 : M = am_set M 7 (zp z) := by rw [← hM, am_set_self]
  refine am_C_of_R am_S0 om_S_settleGrains rfl [.ref 6, .null, .null, .null, .null, .null] rfl rfl (g_S_settleGrains_0 ?_)
  refine am_R_le (xs := [.ref 6, .int (nI 0), .null, .null, .null, .null]) (by repeat' (first | exact trivial | exact Or.inr rfl | exact Or.inl rfl | exact Or.inr (congrArg Value.int (nI_succ _)) | refine ⟨?_, ?_⟩)) ?_
  rw [h0]
  refine lu (P := fun i => am_R am_S0 mt_S_settleGrains 1 2 [.ref 6, .int (nI i), .null, .null, .null, .null] [] (am_set M 7 (zp (zsettles z i))) K) 5 ?_ ?_
  · exact g_S_settleGrains_2 ⟨fun c => g_S_settleGrains_88 h, fun c => absurd (i_le (Nat.le_refl 5) (by decide)) c⟩
  · intro v hv ih
    have eih : zsettles z (v + 1) = zsettle v (zsettles z v) 3 := rfl
    rw [eih] at ih
    generalize zsettles z v = zz at ih ⊢
    refine g_S_settleGrains_2 ⟨fun c => absurd c (i_nge hv (by decide)), fun c => c_S_limitIn_6 (z := zz) (v := v) (by rw [am_set_eq]) hv ?_⟩
    refine am_R_le (xs := [.ref 6, .int (nI v), .int (zholds v zz), .int (nI 0), .null, .null]) (by repeat' (first | exact trivial | exact Or.inr rfl | exact Or.inl rfl | exact Or.inr (congrArg Value.int (nI_succ _)) | refine ⟨?_, ?_⟩)) ?_
    refine lu (P := fun d => am_R am_S0 mt_S_settleGrains 1 15 [.ref 6, .int (nI v), .int (zholds v zz), .int (nI d), .null, .null] [] (am_set M 7 (zp (zsettle v zz d))) K) 3 ?_ ?_
    · exact g_S_settleGrains_15 ⟨fun c => g_S_settleGrains_82 (am_R_le (by repeat' (first | exact trivial | exact Or.inr rfl | exact Or.inl rfl | exact Or.inr (congrArg Value.int (nI_succ _)) | refine ⟨?_, ?_⟩)) ih), fun c => absurd (i_le (Nat.le_refl 3) (by decide)) c⟩
    · intro d hd ihd
      have eh : zholds v zz = zholds v (zsettle v zz d) := (zholds_keep (by omega)).symm
      have ed : zsettle v zz (d + 1) = zset1 v d (zsettle v zz d) := rfl
      rw [ed] at ihd
      rw [eh] at ihd ⊢
      generalize zsettle v zz d = zy at ihd ⊢
      have e1 : zp zy (15 + v * 3 + d) = zy (19 + 8 * v + d) := by unfold zp; rw [pz_d hv hd]
      refine g_S_settleGrains_15 ⟨fun c => absurd c (i_nge hd (by decide)), fun c => ⟨15 + v * 3 + d, ix4' 15 3 v d, by show _ < 105; omega, fun c2 => ?_, fun c2 => ?_⟩⟩
      · have c' : ¬ 0 < zy (19 + 8 * v + d) - zholds v zy := by
          rw [← e1]
          exact Int32.not_lt.mpr c2
        unfold zset1 at ihd
        rw [if_neg c'] at ihd
        exact g_S_settleGrains_76 (am_R_le (by repeat' (first | exact trivial | exact Or.inr rfl | exact Or.inl rfl | exact Or.inr (congrArg Value.int (nI_succ _)) | refine ⟨?_, ?_⟩)) ihd)
      · have c' : 0 < zy (19 + 8 * v + d) - zholds v zy := by
          rw [← e1]
          exact Int32.not_le.mp c2
        unfold zset1 at ihd
        rw [if_pos c'] at ihd
        refine ⟨15 + v * 3 + d, ix4' 15 3 v d, by show _ < 105; omega, 15 + v * 3 + d, ix4' 15 3 v d, by show _ < 105; omega, 30 + v * 3 + d, ix4' 30 3 v d, by show _ < 105; omega, 30 + v * 3 + d, ix4' 30 3 v d, by show _ < 105; omega, g_S_settleGrains_76 ?_⟩
        simp only [am_set_set]
        have e : upd (upd (zp zy) (15 + v * 3 + d) (zp zy (15 + v * 3 + d) - (zp zy (15 + v * 3 + d) - zholds v zy))) (30 + v * 3 + d) (upd (zp zy) (15 + v * 3 + d) (zp zy (15 + v * 3 + d) - (zp zy (15 + v * 3 + d) - zholds v zy)) (30 + v * 3 + d) + (zp zy (15 + v * 3 + d) - zholds v zy)) = zp (zadd (zadd zy (19 + 8 * v + d) (-(zy (19 + 8 * v + d) - zholds v zy))) (22 + 8 * v + d) (zy (19 + 8 * v + d) - zholds v zy)) := by
          rw [zp_sub, zp_add, pz_d hv hd, pz_s hv hd, e1]
        rw [← e] at ihd
        exact am_R_le (by repeat' (first | exact trivial | exact Or.inr rfl | exact Or.inl rfl | exact Or.inr (congrArg Value.int (nI_succ _)) | refine ⟨?_, ?_⟩)) ihd
theorem c_S_runValves_6 {z : dz} {M : am_M} {K : am_Q} (hM : M 7 = zp z) (hz : zok z) (h : K (.inl none) (am_set M 7 (zp (zvalves z (zn (z 5)))))) : am_C mt_S_runValves [.ref 6] M K := by
  obtain ⟨m, hm8, hm, hvs⟩ := hz.2.2.2.2.2
  have em : zn (z 5) = m := by rw [hm]; exact zn_nI (by omega)
  rw [em] at h
  obtain ⟨hv1, hv2⟩ := zok_valves hz hm hm8 m (Nat.le_refl _)
  have h0 : M = am_set M 7 (zp z) := by rw [← hM, am_set_self]
  refine am_C_of_R am_S0 om_S_runValves rfl [.ref 6, .null, .null, .null] rfl rfl (g_S_runValves_0 (c_S_hourOfDay_6 hM ?_))
  refine am_R_le (xs := [.ref 6, .int (zhod z), .int (nI 0), .null]) (by repeat' (first | exact trivial | exact Or.inr rfl | exact Or.inl rfl | exact Or.inr (congrArg Value.int (nI_succ _)) | refine ⟨?_, ?_⟩)) ?_
  rw [h0]
  refine lu (P := fun i => am_R am_S0 mt_S_runValves 1 7 [.ref 6, .int (zhod z), .int (nI i), .null] [] (am_set M 7 (zp (zvalves z i))) K) m ?_ ?_
  · have e5 : zvalves z m 5 = nI m := by rw [hv2 5 (by unfold zfix; omega), hm]
    refine g_S_runValves_7 ⟨56, rfl, by decide, fun c => g_S_runValves_86 h, fun c => absurd ?_ c⟩
    show zvalves z m 5 ≤ nI m
    rw [e5]
    exact i_le (Nat.le_refl m) (by omega)
  · intro k hk ih
    obtain ⟨hk1, hk2⟩ := zok_valves hz hm hm8 k (by omega)
    have e5 : zvalves z k 5 = nI m := by rw [hk2 5 (by unfold zfix; omega), hm]
    have eh : zhod z = zhod (zvalves z k) := by unfold zhod; rw [zvalves_keep0 hz hm hm8 k (by omega)]
    obtain ⟨m', hm', e5', hvk⟩ := hk1.2.2.2.2.2
    have hmm : m' = m := (nI_eq (by omega) (by omega)).mp (e5'.symm.trans e5)
    obtain ⟨w1, w2, w3, w4, w5, w6⟩ := zvok_use (hvk k (by omega))
    have ek : zvalves z (k + 1) = zvalve k (zvalves z k) := rfl
    rw [ek] at ih
    rw [eh] at ih ⊢
    generalize zvalves z k = zz at ih hk1 hk2 e5 w1 w2 w3 w4 w5 w6 ⊢
    refine g_S_runValves_7 ⟨56, rfl, by decide, fun c => absurd c ?_, fun c => ⟨fun c => absurd c (i_nge (show k < 8 by omega) (by decide)), fun c => ?_⟩⟩
    · show ¬ zz 5 ≤ nI k
      rw [e5]
      exact i_nge hk (by omega)
    have ei : nI 57 + nI k * nI 6 = nI (57 + 6 * k) := by rw [ix3', Nat.mul_comm]
    show am_C mt_S_isOpen [.ref 6, .int (nI 57 + nI k * nI 6), .int (zhod zz)] _ _
    rw [ei]
    refine c_S_isOpen_6 (z := zz) (k := k) (by rw [am_set_eq]) (by omega) ⟨fun c => ?_, fun c => ?_⟩
    · have c1 : ¬ (zz (57 + 6 * k + 3) ≤ zhod zz ∧ zhod zz ≤ zz (57 + 6 * k + 4)) := ib_eq0.mp c
      have c' : ¬ zopen k zz := c1
      unfold zvalve at ih
      rw [if_neg c'] at ih
      exact g_S_runValves_80 (am_R_le (by repeat' (first | exact trivial | exact Or.inr rfl | exact Or.inl rfl | exact Or.inr (congrArg Value.int (nI_succ _)) | refine ⟨?_, ?_⟩)) ih)
    · have c1 : zz (57 + 6 * k + 3) ≤ zhod zz ∧ zhod zz ≤ zz (57 + 6 * k + 4) := Classical.not_not.mp (fun z => c (ib_eq0.mpr z))
      have c' : zopen k zz := c1
      unfold zvalve at ih
      rw [if_pos c'] at ih
      have j5 : (nI 57 + nI k * nI 6) + nI 5 = nI (57 + 6 * k + 5) := by rw [ei, ix2]
      have j0 : (nI 57 + nI k * nI 6) + nI 0 = nI (57 + 6 * k) := by rw [ei, ix2]; rfl
      have j1 : (nI 57 + nI k * nI 6) + nI 1 = nI (57 + 6 * k + 1) := by rw [ei, ix2]
      have j2 : (nI 57 + nI k * nI 6) + nI 2 = nI (57 + 6 * k + 2) := by rw [ei, ix2]
      refine ⟨57 + 6 * k + 5, j5, by show _ < 105; omega, 57 + 6 * k, j0, by show _ < 105; omega, 57 + 6 * k + 1, j1, by show _ < 105; omega, 57 + 6 * k + 2, j2, by show _ < 105; omega, ?_⟩
      have f0 : zp zz (57 + 6 * k) = zz (57 + 6 * k) := by unfold zp; rw [pz_hi (by omega)]
      have f1 : zp zz (57 + 6 * k + 1) = zz (57 + 6 * k + 1) := by unfold zp; rw [pz_hi (by omega)]
      have f2 : zp zz (57 + 6 * k + 2) = zz (57 + 6 * k + 2) := by unfold zp; rw [pz_hi (by omega)]
      have f5 : zp zz (57 + 6 * k + 5) = zz (57 + 6 * k + 5) := by unfold zp; rw [pz_hi (by omega)]
      show am_C mt_S_moveWater [.ref 6, .int (zp zz (57 + 6 * k)), .int (zp zz (57 + 6 * k + 1)), .int (zp zz (57 + 6 * k + 2))] (am_set M 7 (zp zz)) _
      rw [f0, f1, f2, w1, w2]
      refine c_S_moveWater_6 (z := zz) (fr := zn (zz (57 + 6 * k))) (to := zn (zz (57 + 6 * k + 1))) (by rw [am_set_eq]) hk1 w3 w4 w6 ⟨57 + 6 * k + 5, j5, by show _ < 105; omega, g_S_runValves_80 ?_⟩
      simp only [am_set_set, am_set_eq]
      rw [zp_upd, pz_hi (by omega)]
      have ih' := ih
      rw [← f5] at ih'
      exact am_R_le (by repeat' (first | exact trivial | exact Or.inr rfl | exact Or.inl rfl | exact Or.inr (congrArg Value.int (nI_succ _)) | refine ⟨?_, ?_⟩)) ih'
theorem c_S_runHours_6 {z : dz} {n : Nat} {M : am_M} {K : am_Q} (hM : M 7 = zp z) (hz : zok z) (hn : n < 2 ^ 31) (h : K (.inl none) (am_set M 7 (zp (zhours z n)))) : am_C mt_S_runHours [.ref 6, .int (nI n)] M K := by
  have h0 : M = am_set M 7 (zp z) := by rw [← hM, am_set_self]
  refine am_C_of_R am_S0 om_S_runHours rfl [.ref 6, .int (nI n), .null] rfl rfl (g_S_runHours_0 ?_)
  refine am_R_le (xs := [.ref 6, .int (nI n), .int (nI 0)]) (by repeat' (first | exact trivial | exact Or.inr rfl | exact Or.inl rfl | exact Or.inr (congrArg Value.int (nI_succ _)) | refine ⟨?_, ?_⟩)) ?_
  rw [h0]
  refine lu (P := fun i => am_R am_S0 mt_S_runHours 1 2 [.ref 6, .int (nI n), .int (nI i)] [] (am_set M 7 (zp (zhours z i))) K) n ?_ ?_
  · exact g_S_runHours_2 ⟨fun c => g_S_runHours_36 h, fun c => absurd (i_le (Nat.le_refl n) hn) c⟩
  · intro i hi ih
    obtain ⟨hk, -⟩ := zok_hours hz i
    have eih : zhours z (i + 1) = zhour (zhours z i) := rfl
    rw [eih] at ih
    generalize zhours z i = zz at ih hk ⊢
    obtain ⟨m, hm8, hm, hvs⟩ := hk.2.2.2.2.2
    have em : zn (zz 5) = m := by rw [hm]; exact zn_nI (by omega)
    obtain ⟨hv1, hv2⟩ := zok_valves hk hm hm8 m (Nat.le_refl _)
    unfold zhour at ih
    rw [em] at ih
    refine g_S_runHours_2 ⟨fun c => absurd c (i_nge hi hn), fun c => c_S_runValves_6 (z := zz) (by rw [am_set_eq]) hk ?_⟩
    rw [am_set_set, em]
    refine c_S_levelPipes_6 (z := zvalves zz m) (by rw [am_set_eq]) hv1 (c_S_settleGrains_6 (z := zpipes (zvalves zz m) 5) (by rw [am_set_eq]) ⟨52, rfl, by decide, 52, rfl, by decide, ?_⟩)
    simp only [am_set_set]
    generalize zsettles (zpipes (zvalves zz m) 5) 5 = zs at ih ⊢
    have e : upd (zp zs) 52 (zp zs 52 + nI 1) = zp (zadd zs 0 (nI 1)) := zp_add zs 52 (nI 1)
    rw [← e] at ih
    exact am_R_le (by repeat' (first | exact trivial | exact Or.inr rfl | exact Or.inl rfl | exact Or.inr (congrArg Value.int (nI_succ _)) | refine ⟨?_, ?_⟩)) ih
