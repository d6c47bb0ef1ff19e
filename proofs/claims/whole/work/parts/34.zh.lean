/-! contracts of the reference's methods: level, settle, hour, hours -/
theorem nI2_ne : ¬ nI 2 = 0 := by decide +kernel
theorem c_Z_level {one other : Nat} {M : am_M} {K : am_Q} (hz : zok (M 18)) (h1 : one < 5) (h2 : other < 5) (h : K (.inl none) (am_set M 18 (zlevel one other (M 18)))) : am_C mt_Z_level [.ref 17, .int (nI one), .int (nI other)] M K := by
  obtain ⟨q1, q2⟩ := zok_half hz h1 h2
  have e1 : 17 + 8 * one + 1 = 18 + 8 * one := by omega
  have e2 : 17 + 8 * other + 1 = 18 + 8 * other := by omega
  have e10 : M 18 (17 + 8 * one + 1) = M 18 (18 + 8 * one) := by rw [e1]
  have e20 : M 18 (17 + 8 * other + 1) = M 18 (18 + 8 * other) := by rw [e2]
  refine am_C_of_R am_S0 om_Z_level rfl [.ref 17, .int (nI one), .int (nI other), .null] rfl rfl (g_Z_level_0 (c_Z_of (v := one) (w := 1) (by omega) (c_Z_of (v := other) (w := 1) (by omega) ⟨fun c => ?_, fun c => ⟨nI2_ne, ?_⟩⟩)))
  · have c' : ¬ 0 < M 18 (18 + 8 * one) - M 18 (18 + 8 * other) := by
      rw [← e10, ← e20]
      exact Int32.not_lt.mpr c
    refine g_Z_level_31 ⟨nI2_ne, ?_⟩
    refine c_Z_move (fr := other) (to := one) h2 (by omega) (zok_moved0 hz h2 (by omega) ?_) (g_Z_level_42 ?_)
    · rw [e10, e20]
      exact q2 c'
    · rw [e10, e20]
      have e : zlevel one other (M 18) = zmove other one (-(M 18 (18 + 8 * one) - M 18 (18 + 8 * other)) / nI 2) (M 18) := by unfold zlevel; rw [if_neg c']
      rw [e] at h
      exact h
  · have c' : 0 < M 18 (18 + 8 * one) - M 18 (18 + 8 * other) := by
      rw [← e10, ← e20]
      exact Int32.not_le.mp c
    refine c_Z_move (fr := one) (to := other) h1 (by omega) (zok_moved0 hz h1 (by omega) ?_) (g_Z_level_42 ?_)
    · rw [e10, e20]
      exact q1 c'
    · rw [e10, e20]
      have e : zlevel one other (M 18) = zmove one other ((M 18 (18 + 8 * one) - M 18 (18 + 8 * other)) / nI 2) (M 18) := by unfold zlevel; rw [if_pos c']
      rw [e] at h
      exact h
theorem c_Z_settle {v : Nat} {M : am_M} {K : am_Q} (hv : v < 5) (h : K (.inl none) (am_set M 18 (zsettle v (M 18) 3))) : am_C mt_Z_settle [.ref 17, .int (nI v)] M K := by
  refine am_C_of_R am_S0 om_Z_settle rfl [.ref 17, .int (nI v), .null, .null] rfl rfl (g_Z_settle_0 ?_)
  refine am_R_le (xs := [.ref 17, .int (nI v), .int (nI 0), .null]) (by repeat' (first | exact trivial | exact Or.inr rfl | exact Or.inl rfl | exact Or.inr (congrArg Value.int (nI_succ _)) | refine ⟨?_, ?_⟩)) ?_
  have h0 : M = am_set M 18 (zsettle v (M 18) 0) := (am_set_self M 18).symm
  rw [h0]
  refine lu (P := fun i => am_R am_S0 mt_Z_settle 1 2 [.ref 17, .int (nI v), .int (nI i), .null] [] (am_set M 18 (zsettle v (M 18) i)) K) 3 ?_ ?_
  · refine g_Z_settle_2 ⟨fun c => ?_, fun c => absurd (i_le (Nat.le_refl 3) (by decide)) c⟩
    exact g_Z_settle_51 h
  · intro i hi ih
    refine g_Z_settle_2 ⟨fun c => absurd c (i_nge hi (by decide)), fun c => ?_⟩
    have hidx : nI 2 + nI i = nI (2 + i) := ix2 2 i
    have hidx5 : nI 5 + nI i = nI (5 + i) := ix2 5 i
    have e2 : 17 + 8 * v + (2 + i) = 19 + 8 * v + i := by omega
    have e5 : 17 + 8 * v + (5 + i) = 22 + 8 * v + i := by omega
    show am_C mt_Z_of [.ref 17, .int (nI v), .int (nI 2 + nI i)] _ _
    rw [hidx]
    refine c_Z_of (v := v) (w := 2 + i) (by omega) (c_Z_holds hv ⟨fun c => ?_, fun c => ?_⟩)
    · have c' : ¬ 0 < zsettle v (M 18) i (19 + 8 * v + i) - zholds v (zsettle v (M 18) i) := by
        rw [← e2]
        exact Int32.not_lt.mpr c
      have e : zsettle v (M 18) (i + 1) = zsettle v (M 18) i := by
        show zset1 v i _ = _
        unfold zset1
        rw [if_neg c']
      rw [e] at ih
      exact g_Z_settle_45 (am_R_le (by repeat' (first | exact trivial | exact Or.inr rfl | exact Or.inl rfl | exact Or.inr (congrArg Value.int (nI_succ _)) | refine ⟨?_, ?_⟩)) ih)
    · have c' : 0 < zsettle v (M 18) i (19 + 8 * v + i) - zholds v (zsettle v (M 18) i) := by
        rw [← e2]
        exact Int32.not_le.mp c
      show am_C mt_Z_add [.ref 17, .int (nI v), .int (nI 2 + nI i), _] _ _
      rw [hidx]
      refine c_Z_add (v := v) (w := 2 + i) (by omega) ?_
      show am_C mt_Z_add [.ref 17, .int (nI v), .int (nI 5 + nI i), _] _ _
      rw [hidx5]
      refine c_Z_add (v := v) (w := 5 + i) (by omega) (g_Z_settle_45 ?_)
      simp only [am_set_set, am_set_eq, e2, e5]
      have e : zsettle v (M 18) (i + 1) = zadd (zadd (zsettle v (M 18) i) (19 + 8 * v + i) (-(zsettle v (M 18) i (19 + 8 * v + i) - zholds v (zsettle v (M 18) i)))) (22 + 8 * v + i) (zsettle v (M 18) i (19 + 8 * v + i) - zholds v (zsettle v (M 18) i)) := by
        show zset1 v i _ = _
        unfold zset1
        rw [if_pos c']
      rw [e] at ih
      exact am_R_le (by repeat' (first | exact trivial | exact Or.inr rfl | exact Or.inl rfl | exact Or.inr (congrArg Value.int (nI_succ _)) | refine ⟨?_, ?_⟩)) ih
theorem c_Z_hour {M : am_M} {K : am_Q} (hz : zok (M 18)) (h : K (.inl none) (am_set M 18 (zhour (M 18)))) : am_C mt_Z_hour [.ref 17] M K := by
  obtain ⟨m, hm8, hm, hvs⟩ := hz.2.2.2.2.2
  have em : zn (M 18 5) = m := by rw [hm]; exact zn_nI (by omega)
  unfold zhour at h
  rw [em] at h
  obtain ⟨hv1, hv2⟩ := zok_valves hz hm hm8 m (Nat.le_refl _)
  -- settle, and the hour
  have tail3 : am_R am_S0 mt_Z_hour 1 108 [.ref 17, .null, .null] [] (am_set M 18 (zpipes (zvalves (M 18) m) 5)) K := by
    generalize zpipes (zvalves (M 18) m) 5 = zp at h ⊢
    refine g_Z_hour_108 ?_
    refine am_R_le (xs := [.ref 17, .int (nI 0), .null]) (by repeat' (first | exact trivial | exact Or.inr rfl | exact Or.inl rfl | exact Or.inr (congrArg Value.int (nI_succ _)) | refine ⟨?_, ?_⟩)) ?_
    refine lu (P := fun i => am_R am_S0 mt_Z_hour 1 110 [.ref 17, .int (nI i), .null] [] (am_set M 18 (zsettles zp i)) K) 5 ?_ ?_
    · refine g_Z_hour_110 ⟨fun c => ?_, fun c => absurd (i_le (Nat.le_refl 5) (by decide)) c⟩
      refine g_Z_hour_126 ⟨0, rfl, by decide, 0, rfl, by decide, ?_⟩
      simp only [am_set_set, am_set_eq]
      generalize zsettles zp 5 = zs at h ⊢
      have e : zadd zs 0 (nI 1) = upd zs 0 (zs 0 + nI 1) := rfl
      rw [e] at h
      exact h
    · intro i hi ih
      refine g_Z_hour_110 ⟨fun c => absurd c (i_nge hi (by decide)), fun c => ?_⟩
      refine c_Z_settle (v := i) hi ?_
      simp only [am_set_set, am_set_eq]
      exact am_R_le (by repeat' (first | exact trivial | exact Or.inr rfl | exact Or.inl rfl | exact Or.inr (congrArg Value.int (nI_succ _)) | refine ⟨?_, ?_⟩)) ih
  have tail2 : am_R am_S0 mt_Z_hour 1 65 [.ref 17, .null, .null] [] (am_set M 18 (zvalves (M 18) m)) K := by
    generalize hzv : zvalves (M 18) m = zv at h hv1 hv2 tail3 ⊢
    refine g_Z_hour_65 ?_
    refine am_R_le (xs := [.ref 17, .int (nI 0), .null]) (by repeat' (first | exact trivial | exact Or.inr rfl | exact Or.inl rfl | exact Or.inr (congrArg Value.int (nI_succ _)) | refine ⟨?_, ?_⟩)) ?_
    refine lu (P := fun i => am_R am_S0 mt_Z_hour 1 67 [.ref 17, .int (nI i), .null] [] (am_set M 18 (zpipes zv i)) K) 5 ?_ ?_
    · refine g_Z_hour_67 ⟨fun c => ?_, fun c => absurd (i_le (Nat.le_refl 5) (by decide)) c⟩
      exact am_R_le (by repeat' (first | exact trivial | exact Or.inr rfl | exact Or.inl rfl | exact Or.inr (congrArg Value.int (nI_succ _)) | refine ⟨?_, ?_⟩)) tail3
    · intro one ho ih
      have hzp := zok_pipes hv1 one (by omega)
      generalize hzz : zpipes zv one = zz at hzp
      have eih : zpipes zv (one + 1) = zlevs one zz (4 - one) := by rw [← hzz]; rfl
      rw [eih] at ih
      refine g_Z_hour_67 ⟨fun c => absurd c (i_nge ho (by decide)), fun c => ?_⟩
      refine am_R_le (xs := [.ref 17, .int (nI one), .int (nI (one + 1 + 0))]) (by repeat' (first | exact trivial | exact Or.inr rfl | exact Or.inl rfl | exact Or.inr (congrArg Value.int (nI_succ _)) | refine ⟨?_, ?_⟩)) ?_
      refine lu (P := fun k => am_R am_S0 mt_Z_hour 1 76 [.ref 17, .int (nI one), .int (nI (one + 1 + k))] [] (am_set M 18 (zlevs one zz k)) K) (4 - one) ?_ ?_
      · refine g_Z_hour_76 ⟨fun c => ?_, fun c => absurd (i_le (show 5 ≤ one + 1 + (4 - one) by omega) (by omega)) c⟩
        exact g_Z_hour_102 (am_R_le (by repeat' (first | exact trivial | exact Or.inr rfl | exact Or.inl rfl | exact Or.inr (congrArg Value.int (nI_succ _)) | refine ⟨?_, ?_⟩)) ih)
      · intro k hk ihk
        have hzk := zok_levs hzp ho k (by omega)
        generalize hzy : zlevs one zz k = zy at hzk
        have ek : zlevs one zz (k + 1) = zlev1 one (one + 1 + k) zy := by rw [← hzy]; rfl
        rw [ek] at ihk
        refine g_Z_hour_76 ⟨fun c => absurd c (i_nge (show one + 1 + k < 5 by omega) (by decide)), fun c => ?_⟩
        refine c_Z_isPipe (one := one) (other := one + 1 + k) ho ⟨fun c => ?_, fun c => ?_⟩
        · have c1 : ¬ (zy (6 + one) >>> (nI (one + 1 + k) &&& 31) &&& nI 1 = nI 1) := ib_eq0.mp c
          have c' : ¬ zpipe one (one + 1 + k) zy := c1
          unfold zlev1 at ihk
          rw [if_neg c'] at ihk
          exact g_Z_hour_96 (am_R_le (by repeat' (first | exact trivial | exact Or.inr rfl | exact Or.inl rfl | exact Or.inr (congrArg Value.int (nI_succ _)) | refine ⟨?_, ?_⟩)) ihk)
        · have c1 : zy (6 + one) >>> (nI (one + 1 + k) &&& 31) &&& nI 1 = nI 1 := Classical.not_not.mp (fun z => c (ib_eq0.mpr z))
          have c' : zpipe one (one + 1 + k) zy := c1
          unfold zlev1 at ihk
          rw [if_pos c'] at ihk
          refine c_Z_level (one := one) (other := one + 1 + k) hzk ho (by omega) (g_Z_hour_96 ?_)
          simp only [am_set_set, am_set_eq]
          exact am_R_le (by repeat' (first | exact trivial | exact Or.inr rfl | exact Or.inl rfl | exact Or.inr (congrArg Value.int (nI_succ _)) | refine ⟨?_, ?_⟩)) ihk
  refine am_C_of_R am_S0 om_Z_hour rfl [.ref 17, .null, .null] rfl rfl (g_Z_hour_0 ?_)
  refine am_R_le (xs := [.ref 17, .int (nI 0), .null]) (by repeat' (first | exact trivial | exact Or.inr rfl | exact Or.inl rfl | exact Or.inr (congrArg Value.int (nI_succ _)) | refine ⟨?_, ?_⟩)) ?_
  have h0 : M = am_set M 18 (zvalves (M 18) 0) := (am_set_self M 18).symm
  rw [h0]
  refine lu (P := fun i => am_R am_S0 mt_Z_hour 1 2 [.ref 17, .int (nI i), .null] [] (am_set M 18 (zvalves (M 18) i)) K) m ?_ ?_
  · have e5 : zvalves (M 18) m 5 = nI m := by rw [hv2 5 (by unfold zfix; omega), hm]
    refine g_Z_hour_2 ⟨5, rfl, by decide, fun c => ?_, fun c => absurd ?_ c⟩
    · exact am_R_le (by repeat' (first | exact trivial | exact Or.inr rfl | exact Or.inl rfl | exact Or.inr (congrArg Value.int (nI_succ _)) | refine ⟨?_, ?_⟩)) tail2
    · show zvalves (M 18) m 5 ≤ nI m
      rw [e5]
      exact i_le (Nat.le_refl m) (by omega)
  · intro k hk ih
    obtain ⟨hk1, hk2⟩ := zok_valves hz hm hm8 k (by omega)
    have e5 : zvalves (M 18) k 5 = nI m := by rw [hk2 5 (by unfold zfix; omega), hm]
    obtain ⟨m', hm', e5', hvk⟩ := hk1.2.2.2.2.2
    have hmm : m' = m := (nI_eq (by omega) (by omega)).mp (e5'.symm.trans e5)
    obtain ⟨w1, w2, w3, w4, w5, w6⟩ := zvok_use (hvk k (by omega))
    have ek : zvalves (M 18) (k + 1) = zvalve k (zvalves (M 18) k) := rfl
    rw [ek] at ih
    generalize zvalves (M 18) k = zz at ih hk1 hk2 e5 w1 w2 w3 w4 w5 w6 ⊢
    refine g_Z_hour_2 ⟨5, rfl, by decide, fun c => absurd c ?_, fun c => ?_⟩
    · show ¬ zz 5 ≤ nI k
      rw [e5]
      exact i_nge hk (by omega)
    refine c_Z_isOpen (k := k) (by omega) ⟨fun c => ?_, fun c => ?_⟩
    · have c1 : ¬ (zz (57 + 6 * k + 3) ≤ zhod zz ∧ zhod zz ≤ zz (57 + 6 * k + 4)) := ib_eq0.mp c
      have c' : ¬ zopen k zz := c1
      unfold zvalve at ih
      rw [if_neg c'] at ih
      exact g_Z_hour_59 (am_R_le (by repeat' (first | exact trivial | exact Or.inr rfl | exact Or.inl rfl | exact Or.inr (congrArg Value.int (nI_succ _)) | refine ⟨?_, ?_⟩)) ih)
    · have c1 : zz (57 + 6 * k + 3) ≤ zhod zz ∧ zhod zz ≤ zz (57 + 6 * k + 4) := Classical.not_not.mp (fun z => c (ib_eq0.mpr z))
      have c' : zopen k zz := c1
      unfold zvalve at ih
      rw [if_pos c'] at ih
      refine ⟨57 + 6 * k + 5, ix4 57 6 k 5, by show _ < 105; omega, ?_⟩
      refine c_Z_valveNow (v := k) (w := 0) (by omega) (c_Z_valveNow (v := k) (w := 1) (by omega) (c_Z_valveNow (v := k) (w := 2) (by omega) ?_))
      show am_C mt_Z_move [.ref 17, .int (zz (57 + 6 * k)), .int (zz (57 + 6 * k + 1)), .int (zz (57 + 6 * k + 2))] (am_set M 18 zz) _
      rw [w1, w2]
      refine c_Z_move (fr := zn (zz (57 + 6 * k))) (to := zn (zz (57 + 6 * k + 1))) w3 w4 (zok_moved0 hk1 w3 w4 w6) ⟨57 + 6 * k + 5, ix4 57 6 k 5, by show _ < 105; omega, g_Z_hour_59 ?_⟩
      simp only [am_set_set, am_set_eq]
      exact am_R_le (by repeat' (first | exact trivial | exact Or.inr rfl | exact Or.inl rfl | exact Or.inr (congrArg Value.int (nI_succ _)) | refine ⟨?_, ?_⟩)) ih
theorem c_Z_hours {n : Nat} {M : am_M} {K : am_Q} (hz : zok (M 18)) (hn : n < 2 ^ 31) (h : K (.inl none) (am_set M 18 (zhours (M 18) n))) : am_C mt_Z_hours [.ref 17, .int (nI n)] M K := by
  refine am_C_of_R am_S0 om_Z_hours rfl [.ref 17, .int (nI n), .null] rfl rfl (g_Z_hours_0 ?_)
  refine am_R_le (xs := [.ref 17, .int (nI n), .int (nI 0)]) (by repeat' (first | exact trivial | exact Or.inr rfl | exact Or.inl rfl | exact Or.inr (congrArg Value.int (nI_succ _)) | refine ⟨?_, ?_⟩)) ?_
  have h0 : M = am_set M 18 (zhours (M 18) 0) := (am_set_self M 18).symm
  rw [h0]
  refine lu (P := fun i => am_R am_S0 mt_Z_hours 1 2 [.ref 17, .int (nI n), .int (nI i)] [] (am_set M 18 (zhours (M 18) i)) K) n ?_ ?_
  · exact g_Z_hours_2 ⟨fun c => g_Z_hours_17 h, fun c => absurd (i_le (Nat.le_refl n) hn) c⟩
  · intro i hi ih
    refine g_Z_hours_2 ⟨fun c => absurd c (i_nge hi hn), fun c => ?_⟩
    refine c_Z_hour (by rw [am_set_eq]; exact (zok_hours hz i).1) ?_
    simp only [am_set_set, am_set_eq]
    exact am_R_le (by repeat' (first | exact trivial | exact Or.inr rfl | exact Or.inl rfl | exact Or.inr (congrArg Value.int (nI_succ _)) | refine ⟨?_, ?_⟩)) ih
