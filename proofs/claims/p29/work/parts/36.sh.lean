/-! contracts of State's methods: an hour -/
theorem c_S_hourOfDay_1 {z : dz} {M : am_M} {K : am_Q} (hM : M 2 = zp z) (h : K (.inl (some (.int (zhod z)))) M) : am_C mt_S_hourOfDay [.ref 1] M K := by
  have e : zhod z = M 2 52 - M 2 52 / nI 24 * nI 24 := by rw [hM]; rfl
  rw [e] at h
  exact am_C_of_R am_S0 om_S_hourOfDay rfl [.ref 1] rfl rfl (g_S_hourOfDay_0 ⟨52, rfl, by decide, by decide, h⟩)
theorem c_S_limitIn_1 {z : dz} {v : Nat} {M : am_M} {K : am_Q} (hM : M 2 = zp z) (hv : v < 5) (h : K (.inl (some (.int (zholds v z)))) M) : am_C mt_S_limitIn [.ref 1, .int (nI v)] M K := by
  have e : zholds v z = M 2 (10 + v) * M 2 51 / nI 100 := by
    rw [hM]
    unfold zholds zp
    rw [pz_w hv]
    rfl
  rw [e] at h
  refine am_C_of_R am_S0 om_S_limitIn rfl [.ref 1, .int (nI v)] rfl rfl (g_S_limitIn_0 (c_S_isVat hv ⟨fun c => absurd c nI1_ne, fun c => ⟨10 + v, ix2 10 v, by show _ < 105; omega, 51, rfl, by decide, by decide, g_S_limitIn_31 h⟩⟩))
theorem c_S_isOpen_1 {z : dz} {k : Nat} {hr : Int32} {M : am_M} {K : am_Q} (hM : M 2 = zp z) (hk : k < 8) (h : K (.inl (some (.int (ib (z (57 + 6 * k + 3) ≤ hr ∧ hr ≤ z (57 + 6 * k + 4)))))) M) : am_C mt_S_isOpen [.ref 1, .int (nI (57 + 6 * k)), .int hr] M K := by
  have e3 : z (57 + 6 * k + 3) = M 2 (57 + 6 * k + 3) := by rw [hM]; unfold zp; rw [pz_hi (by omega)]
  have e4 : z (57 + 6 * k + 4) = M 2 (57 + 6 * k + 4) := by rw [hM]; unfold zp; rw [pz_hi (by omega)]
  rw [e3, e4] at h
  refine am_C_of_R am_S0 om_S_isOpen rfl [.ref 1, .int (nI (57 + 6 * k)), .int hr] rfl rfl (g_S_isOpen_0 ⟨fun c => absurd c (nI_nlt (a := 57 + 6 * k) (b := 57) (by omega) (by omega)), fun c => ⟨fun c => absurd c ?_, fun c => ⟨57 + 6 * k + 3, ix2 _ 3, by show _ < 105; omega, fun c => g_S_isOpen_42 (g_S_isOpen_43 ⟨Or.inl rfl, ?_⟩), fun c => ⟨57 + 6 * k + 4, ix2 _ 4, by show _ < 105; omega, fun c2 => g_S_isOpen_42 (g_S_isOpen_43 ⟨Or.inl rfl, ?_⟩), fun c2 => g_S_isOpen_43 ⟨Or.inr rfl, ?_⟩⟩⟩⟩⟩)
  · show ¬ nI 105 ≤ nI (57 + 6 * k) + nI 4
    rw [ix2]
    exact i_nge (by omega) (by decide)
  · have c' : ¬ (M 2 (57 + 6 * k + 3) ≤ hr ∧ hr ≤ M 2 (57 + 6 * k + 4)) := fun q => Int32.not_le.mpr c q.1
    rw [ib_f c'] at h
    exact h
  · have c' : ¬ (M 2 (57 + 6 * k + 3) ≤ hr ∧ hr ≤ M 2 (57 + 6 * k + 4)) := fun q => Int32.not_le.mpr c2 q.2
    rw [ib_f c'] at h
    exact h
  · have c' : M 2 (57 + 6 * k + 3) ≤ hr ∧ hr ≤ M 2 (57 + 6 * k + 4) := ⟨Int32.not_lt.mp c, Int32.not_lt.mp c2⟩
    rw [ib_t c'] at h
    exact h
theorem c_S_moveWater_1 {z : dz} {fr to : Nat} {much : Int32} {M : am_M} {K : am_Q} (hM : M 2 = zp z) (hz : zok z) (hf : fr < 5) (ht : to ≤ 5) (hm : 0 ≤ much.toInt)
    (h : K (.inl (some (.int (zmoved fr to much z)))) (am_set M 2 (zp (zmove fr to much z)))) : am_C mt_S_moveWater [.ref 1, .int (nI fr), .int (nI to), .int much] M K := by
  have hx := zok_moved0 hz hf ht hm
  have hpos := zok_moved_pos hz hf ht hm
  have hwp := zok_water_pos hz hf
  have h0 : M = am_set M 2 (zp z) := by rw [← hM, am_set_self]
  have ew : M 2 (10 + fr) = z (18 + 8 * fr) := by rw [hM]; unfold zp; rw [pz_w hf]
  have tail : am_R am_S0 mt_S_moveWater 1 70 [.ref 1, .int (nI fr), .int (nI to), .int much, .int (z (18 + 8 * fr)), .int (zmoved fr to much z), .null, .null] [] M K := by
    unfold zmove at h
    generalize hmv : zmoved fr to much z = mv at h hx hpos ⊢
    generalize hh : z (18 + 8 * fr) = had at h hx hwp ⊢
    have stop : mv = 0 → am_R am_S0 mt_S_moveWater 1 80 [.ref 1, .int (nI fr), .int (nI to), .int much, .int had, .int mv, .null, .null] [] M K := by
      intro c
      rw [if_pos c, ← hM, am_set_self, c] at h
      exact g_S_moveWater_80 h
    refine g_S_moveWater_70 ⟨fun c => stop ?_, fun c => ⟨fun c2 => ?_, fun c2 => stop ?_⟩⟩
    · exact Classical.byContradiction fun q => hx q (i_eq0 c hwp)
    · have c' : ¬ mv = 0 := fun q => by rw [q] at c2; exact Int32.lt_irrefl c2
      have hne := hx c'
      rw [if_neg c'] at h
      refine g_S_moveWater_82 ?_
      refine am_R_le (xs := [.ref 1, .int (nI fr), .int (nI to), .int much, .int had, .int mv, .int (nI 0), .null]) (by repeat' (first | exact trivial | exact Or.inr rfl | exact Or.inl rfl | exact Or.inr (congrArg Value.int (nI_succ _)) | refine ⟨?_, ?_⟩)) ?_
      rw [h0]
      refine lu (P := fun i => am_R am_S0 mt_S_moveWater 1 85 [.ref 1, .int (nI fr), .int (nI to), .int much, .int had, .int mv, .int (nI i), .null] [] (am_set M 2 (zp (zdyes fr to mv had z i))) K) 3 ?_ ?_
      · refine g_S_moveWater_85 ⟨fun c => ?_, fun c => absurd (i_le (Nat.le_refl 3) (by decide)) c⟩
        generalize hzd : zdyes fr to mv had z 3 = zd
        refine g_S_moveWater_170 ⟨10 + fr, ix2 10 fr, by show _ < 105; omega, 10 + fr, ix2 10 fr, by show _ < 105; omega, fun c => ?_, fun c => ?_⟩
        · have c5 : ¬ to = 5 := fun q => c (by rw [q]; rfl)
          refine g_S_moveWater_198 (g_S_moveWater_202 ⟨10 + to, ix2 10 to, by show _ < 105; omega, 10 + to, ix2 10 to, by show _ < 105; omega, ?_⟩)
          simp only [am_set_set]
          have e : upd (upd (zp zd) (10 + fr) (zp zd (10 + fr) - mv)) (10 + to) (upd (zp zd) (10 + fr) (zp zd (10 + fr) - mv) (10 + to) + mv) = zp (zmv fr to mv had z) := by
            rw [zp_sub, zp_add, pz_w hf, pz_w (by omega)]
            unfold zmv zwst
            rw [if_neg c5, hzd]
          rw [← e] at h
          exact h
        · have c5 : to = 5 := (nI_eq (a := to) (b := 5) (by omega) (by decide)).mp (Classical.not_not.mp c)
          refine g_S_moveWater_202 ⟨54, rfl, by decide, 54, rfl, by decide, ?_⟩
          simp only [am_set_set]
          have e : upd (upd (zp zd) (10 + fr) (zp zd (10 + fr) - mv)) 54 (upd (zp zd) (10 + fr) (zp zd (10 + fr) - mv) 54 + mv) = zp (zmv fr to mv had z) := by
            rw [zp_sub, zp_add, pz_w hf]
            unfold zmv zwst
            rw [if_pos c5, hzd]
            rfl
          rw [← e] at h
          exact h
      · intro i hi ih
        have eih : zdyes fr to mv had z (i + 1) = zdye fr to mv had i (zdyes fr to mv had z i) := rfl
        rw [eih] at ih
        generalize zdyes fr to mv had z i = zi at ih ⊢
        refine g_S_moveWater_85 ⟨fun c => absurd c (i_nge hi (by decide)), fun c => ?_⟩
        refine ⟨15 + fr * 3 + i, ix4' 15 3 fr i, by show _ < 105; omega, hne, 15 + fr * 3 + i, ix4' 15 3 fr i, by show _ < 105; omega, 15 + fr * 3 + i, ix4' 15 3 fr i, by show _ < 105; omega, fun c => ?_, fun c => ?_⟩
        · have c5 : ¬ to = 5 := fun q => c (by rw [q]; rfl)
          refine g_S_moveWater_149 (g_S_moveWater_158 ⟨15 + to * 3 + i, ix4' 15 3 to i, by show _ < 105; omega, 15 + to * 3 + i, ix4' 15 3 to i, by show _ < 105; omega, ?_⟩)
          simp only [am_set_set]
          have e : upd (upd (zp zi) (15 + fr * 3 + i) (zp zi (15 + fr * 3 + i) - zp zi (15 + fr * 3 + i) * mv / had)) (15 + to * 3 + i) (upd (zp zi) (15 + fr * 3 + i) (zp zi (15 + fr * 3 + i) - zp zi (15 + fr * 3 + i) * mv / had) (15 + to * 3 + i) + zp zi (15 + fr * 3 + i) * mv / had) = zp (zdye fr to mv had i zi) := by
            rw [zp_sub, zp_add, pz_d hf hi, pz_d (by omega) hi]
            unfold zdye zdst zgr zp
            rw [if_neg c5, pz_d hf hi]
          rw [← e] at ih
          exact am_R_le (by repeat' (first | exact trivial | exact Or.inr rfl | exact Or.inl rfl | exact Or.inr (congrArg Value.int (nI_succ _)) | refine ⟨?_, ?_⟩)) ih
        · have c5 : to = 5 := (nI_eq (a := to) (b := 5) (by omega) (by decide)).mp (Classical.not_not.mp c)
          refine g_S_moveWater_158 ⟨48 + i, ix2 48 i, by show _ < 105; omega, 48 + i, ix2 48 i, by show _ < 105; omega, ?_⟩
          simp only [am_set_set]
          have e : upd (upd (zp zi) (15 + fr * 3 + i) (zp zi (15 + fr * 3 + i) - zp zi (15 + fr * 3 + i) * mv / had)) (48 + i) (upd (zp zi) (15 + fr * 3 + i) (zp zi (15 + fr * 3 + i) - zp zi (15 + fr * 3 + i) * mv / had) (48 + i) + zp zi (15 + fr * 3 + i) * mv / had) = zp (zdye fr to mv had i zi) := by
            rw [zp_sub, zp_add, pz_d hf hi, pz_o hi]
            unfold zdye zdst zgr zp
            rw [if_pos c5, pz_d hf hi]
          rw [← e] at ih
          exact am_R_le (by repeat' (first | exact trivial | exact Or.inr rfl | exact Or.inl rfl | exact Or.inr (congrArg Value.int (nI_succ _)) | refine ⟨?_, ?_⟩)) ih
    · exact i_eq0 (Int32.not_lt.mp c2) hpos
  have mid : am_R am_S0 mt_S_moveWater 1 21 [.ref 1, .int (nI fr), .int (nI to), .int much, .null, .null, .null, .null] [] M K := by
    refine g_S_moveWater_21 ⟨10 + fr, ix2 10 fr, by show _ < 105; omega, fun c => ?_, fun c => ?_⟩
    · have c5 : to = 5 := (nI_eq (a := to) (b := 5) (by omega) (by decide)).mp c
      have e : zmoved fr to much z = (if z (18 + 8 * fr) < much then z (18 + 8 * fr) else much) := by unfold zmoved; rw [if_pos c5, imin_eq]
      rw [e, ← ew] at tail
      exact tail
    · have c5 : ¬ to = 5 := fun q => c (by rw [q]; rfl)
      refine ⟨0 + to, ix2 0 to, by show _ < 105; omega, 10 + to, ix2 10 to, by show _ < 105; omega, ?_⟩
      have ec : M 2 (0 + to) = z (17 + 8 * to) := by rw [hM]; unfold zp; rw [Nat.zero_add, pz_c (by omega)]
      have et : M 2 (10 + to) = z (18 + 8 * to) := by rw [hM]; unfold zp; rw [pz_w (by omega)]
      have e : zmoved fr to much z = (if z (17 + 8 * to) - z (18 + 8 * to) < (if z (18 + 8 * fr) < much then z (18 + 8 * fr) else much) then z (17 + 8 * to) - z (18 + 8 * to) else (if z (18 + 8 * fr) < much then z (18 + 8 * fr) else much)) := by
        unfold zmoved
        rw [if_neg c5, imin_eq, imin_eq]
      rw [e, ← ew, ← ec, ← et] at tail
      exact tail
  refine am_C_of_R am_S0 om_S_moveWater rfl [.ref 1, .int (nI fr), .int (nI to), .int much, .null, .null, .null, .null] rfl rfl (g_S_moveWater_0 (c_S_isVat hf ⟨fun c => absurd c nI1_ne, fun c => ⟨fun c => mid, fun c => ?_⟩⟩))
  have c5 : ¬ to = 5 := fun q => c (by rw [q]; rfl)
  exact c_S_isVat (by omega) ⟨fun c => mid, fun c => absurd nI1_ne c⟩
theorem c_S_hourOfDay_3 {z : dz} {M : am_M} {K : am_Q} (hM : M 4 = zp z) (h : K (.inl (some (.int (zhod z)))) M) : am_C mt_S_hourOfDay [.ref 3] M K := by
  have e : zhod z = M 4 52 - M 4 52 / nI 24 * nI 24 := by rw [hM]; rfl
  rw [e] at h
  exact am_C_of_R am_S0 om_S_hourOfDay rfl [.ref 3] rfl rfl (g_S_hourOfDay_0 ⟨52, rfl, by decide, by decide, h⟩)
theorem c_S_limitIn_3 {z : dz} {v : Nat} {M : am_M} {K : am_Q} (hM : M 4 = zp z) (hv : v < 5) (h : K (.inl (some (.int (zholds v z)))) M) : am_C mt_S_limitIn [.ref 3, .int (nI v)] M K := by
  have e : zholds v z = M 4 (10 + v) * M 4 51 / nI 100 := by
    rw [hM]
    unfold zholds zp
    rw [pz_w hv]
    rfl
  rw [e] at h
  refine am_C_of_R am_S0 om_S_limitIn rfl [.ref 3, .int (nI v)] rfl rfl (g_S_limitIn_0 (c_S_isVat hv ⟨fun c => absurd c nI1_ne, fun c => ⟨10 + v, ix2 10 v, by show _ < 105; omega, 51, rfl, by decide, by decide, g_S_limitIn_31 h⟩⟩))
theorem c_S_isOpen_3 {z : dz} {k : Nat} {hr : Int32} {M : am_M} {K : am_Q} (hM : M 4 = zp z) (hk : k < 8) (h : K (.inl (some (.int (ib (z (57 + 6 * k + 3) ≤ hr ∧ hr ≤ z (57 + 6 * k + 4)))))) M) : am_C mt_S_isOpen [.ref 3, .int (nI (57 + 6 * k)), .int hr] M K := by
  have e3 : z (57 + 6 * k + 3) = M 4 (57 + 6 * k + 3) := by rw [hM]; unfold zp; rw [pz_hi (by omega)]
  have e4 : z (57 + 6 * k + 4) = M 4 (57 + 6 * k + 4) := by rw [hM]; unfold zp; rw [pz_hi (by omega)]
  rw [e3, e4] at h
  refine am_C_of_R am_S0 om_S_isOpen rfl [.ref 3, .int (nI (57 + 6 * k)), .int hr] rfl rfl (g_S_isOpen_0 ⟨fun c => absurd c (nI_nlt (a := 57 + 6 * k) (b := 57) (by omega) (by omega)), fun c => ⟨fun c => absurd c ?_, fun c => ⟨57 + 6 * k + 3, ix2 _ 3, by show _ < 105; omega, fun c => g_S_isOpen_42 (g_S_isOpen_43 ⟨Or.inl rfl, ?_⟩), fun c => ⟨57 + 6 * k + 4, ix2 _ 4, by show _ < 105; omega, fun c2 => g_S_isOpen_42 (g_S_isOpen_43 ⟨Or.inl rfl, ?_⟩), fun c2 => g_S_isOpen_43 ⟨Or.inr rfl, ?_⟩⟩⟩⟩⟩)
  · show ¬ nI 105 ≤ nI (57 + 6 * k) + nI 4
    rw [ix2]
    exact i_nge (by omega) (by decide)
  · have c' : ¬ (M 4 (57 + 6 * k + 3) ≤ hr ∧ hr ≤ M 4 (57 + 6 * k + 4)) := fun q => Int32.not_le.mpr c q.1
    rw [ib_f c'] at h
    exact h
  · have c' : ¬ (M 4 (57 + 6 * k + 3) ≤ hr ∧ hr ≤ M 4 (57 + 6 * k + 4)) := fun q => Int32.not_le.mpr c2 q.2
    rw [ib_f c'] at h
    exact h
  · have c' : M 4 (57 + 6 * k + 3) ≤ hr ∧ hr ≤ M 4 (57 + 6 * k + 4) := ⟨Int32.not_lt.mp c, Int32.not_lt.mp c2⟩
    rw [ib_t c'] at h
    exact h
theorem c_S_moveWater_3 {z : dz} {fr to : Nat} {much : Int32} {M : am_M} {K : am_Q} (hM : M 4 = zp z) (hz : zok z) (hf : fr < 5) (ht : to ≤ 5) (hm : 0 ≤ much.toInt)
    (h : K (.inl (some (.int (zmoved fr to much z)))) (am_set M 4 (zp (zmove fr to much z)))) : am_C mt_S_moveWater [.ref 3, .int (nI fr), .int (nI to), .int much] M K := by
  have hx := zok_moved0 hz hf ht hm
  have hpos := zok_moved_pos hz hf ht hm
  have hwp := zok_water_pos hz hf
  have h0 : M = am_set M 4 (zp z) := by rw [← hM, am_set_self]
  have ew : M 4 (10 + fr) = z (18 + 8 * fr) := by rw [hM]; unfold zp; rw [pz_w hf]
  have tail : am_R am_S0 mt_S_moveWater 1 70 [.ref 3, .int (nI fr), .int (nI to), .int much, .int (z (18 + 8 * fr)), .int (zmoved fr to much z), .null, .null] [] M K := by
    unfold zmove at h
    generalize hmv : zmoved fr to much z = mv at h hx hpos ⊢
    generalize hh : z (18 + 8 * fr) = had at h hx hwp ⊢
    have stop : mv = 0 → am_R am_S0 mt_S_moveWater 1 80 [.ref 3, .int (nI fr), .int (nI to), .int much, .int had, .int mv, .null, .null] [] M K := by
      intro c
      rw [if_pos c, ← hM, am_set_self, c] at h
      exact g_S_moveWater_80 h
    refine g_S_moveWater_70 ⟨fun c => stop ?_, fun c => ⟨fun c2 => ?_, fun c2 => stop ?_⟩⟩
    · exact Classical.byContradiction fun q => hx q (i_eq0 c hwp)
    · have c' : ¬ mv = 0 := fun q => by rw [q] at c2; exact Int32.lt_irrefl c2
      have hne := hx c'
      rw [if_neg c'] at h
      refine g_S_moveWater_82 ?_
      refine am_R_le (xs := [.ref 3, .int (nI fr), .int (nI to), .int much, .int had, .int mv, .int (nI 0), .null]) (by repeat' (first | exact trivial | exact Or.inr rfl | exact Or.inl rfl | exact Or.inr (congrArg Value.int (nI_succ _)) | refine ⟨?_, ?_⟩)) ?_
      rw [h0]
      refine lu (P := fun i => am_R am_S0 mt_S_moveWater 1 85 [.ref 3, .int (nI fr), .int (nI to), .int much, .int had, .int mv, .int (nI i), .null] [] (am_set M 4 (zp (zdyes fr to mv had z i))) K) 3 ?_ ?_
      · refine g_S_moveWater_85 ⟨fun c => ?_, fun c => absurd (i_le (Nat.le_refl 3) (by decide)) c⟩
        generalize hzd : zdyes fr to mv had z 3 = zd
        refine g_S_moveWater_170 ⟨10 + fr, ix2 10 fr, by show _ < 105; omega, 10 + fr, ix2 10 fr, by show _ < 105; omega, fun c => ?_, fun c => ?_⟩
        · have c5 : ¬ to = 5 := fun q => c (by rw [q]; rfl)
          refine g_S_moveWater_198 (g_S_moveWater_202 ⟨10 + to, ix2 10 to, by show _ < 105; omega, 10 + to, ix2 10 to, by show _ < 105; omega, ?_⟩)
          simp only [am_set_set]
          have e : upd (upd (zp zd) (10 + fr) (zp zd (10 + fr) - mv)) (10 + to) (upd (zp zd) (10 + fr) (zp zd (10 + fr) - mv) (10 + to) + mv) = zp (zmv fr to mv had z) := by
            rw [zp_sub, zp_add, pz_w hf, pz_w (by omega)]
            unfold zmv zwst
            rw [if_neg c5, hzd]
          rw [← e] at h
          exact h
        · have c5 : to = 5 := (nI_eq (a := to) (b := 5) (by omega) (by decide)).mp (Classical.not_not.mp c)
          refine g_S_moveWater_202 ⟨54, rfl, by decide, 54, rfl, by decide, ?_⟩
          simp only [am_set_set]
          have e : upd (upd (zp zd) (10 + fr) (zp zd (10 + fr) - mv)) 54 (upd (zp zd) (10 + fr) (zp zd (10 + fr) - mv) 54 + mv) = zp (zmv fr to mv had z) := by
            rw [zp_sub, zp_add, pz_w hf]
            unfold zmv zwst
            rw [if_pos c5, hzd]
            rfl
          rw [← e] at h
          exact h
      · intro i hi ih
        have eih : zdyes fr to mv had z (i + 1) = zdye fr to mv had i (zdyes fr to mv had z i) := rfl
        rw [eih] at ih
        generalize zdyes fr to mv had z i = zi at ih ⊢
        refine g_S_moveWater_85 ⟨fun c => absurd c (i_nge hi (by decide)), fun c => ?_⟩
        refine ⟨15 + fr * 3 + i, ix4' 15 3 fr i, by show _ < 105; omega, hne, 15 + fr * 3 + i, ix4' 15 3 fr i, by show _ < 105; omega, 15 + fr * 3 + i, ix4' 15 3 fr i, by show _ < 105; omega, fun c => ?_, fun c => ?_⟩
        · have c5 : ¬ to = 5 := fun q => c (by rw [q]; rfl)
          refine g_S_moveWater_149 (g_S_moveWater_158 ⟨15 + to * 3 + i, ix4' 15 3 to i, by show _ < 105; omega, 15 + to * 3 + i, ix4' 15 3 to i, by show _ < 105; omega, ?_⟩)
          simp only [am_set_set]
          have e : upd (upd (zp zi) (15 + fr * 3 + i) (zp zi (15 + fr * 3 + i) - zp zi (15 + fr * 3 + i) * mv / had)) (15 + to * 3 + i) (upd (zp zi) (15 + fr * 3 + i) (zp zi (15 + fr * 3 + i) - zp zi (15 + fr * 3 + i) * mv / had) (15 + to * 3 + i) + zp zi (15 + fr * 3 + i) * mv / had) = zp (zdye fr to mv had i zi) := by
            rw [zp_sub, zp_add, pz_d hf hi, pz_d (by omega) hi]
            unfold zdye zdst zgr zp
            rw [if_neg c5, pz_d hf hi]
          rw [← e] at ih
          exact am_R_le (by repeat' (first | exact trivial | exact Or.inr rfl | exact Or.inl rfl | exact Or.inr (congrArg Value.int (nI_succ _)) | refine ⟨?_, ?_⟩)) ih
        · have c5 : to = 5 := (nI_eq (a := to) (b := 5) (by omega) (by decide)).mp (Classical.not_not.mp c)
          refine g_S_moveWater_158 ⟨48 + i, ix2 48 i, by show _ < 105; omega, 48 + i, ix2 48 i, by show _ < 105; omega, ?_⟩
          simp only [am_set_set]
          have e : upd (upd (zp zi) (15 + fr * 3 + i) (zp zi (15 + fr * 3 + i) - zp zi (15 + fr * 3 + i) * mv / had)) (48 + i) (upd (zp zi) (15 + fr * 3 + i) (zp zi (15 + fr * 3 + i) - zp zi (15 + fr * 3 + i) * mv / had) (48 + i) + zp zi (15 + fr * 3 + i) * mv / had) = zp (zdye fr to mv had i zi) := by
            rw [zp_sub, zp_add, pz_d hf hi, pz_o hi]
            unfold zdye zdst zgr zp
            rw [if_pos c5, pz_d hf hi]
          rw [← e] at ih
          exact am_R_le (by repeat' (first | exact trivial | exact Or.inr rfl | exact Or.inl rfl | exact Or.inr (congrArg Value.int (nI_succ _)) | refine ⟨?_, ?_⟩)) ih
    · exact i_eq0 (Int32.not_lt.mp c2) hpos
  have mid : am_R am_S0 mt_S_moveWater 1 21 [.ref 3, .int (nI fr), .int (nI to), .int much, .null, .null, .null, .null] [] M K := by
    refine g_S_moveWater_21 ⟨10 + fr, ix2 10 fr, by show _ < 105; omega, fun c => ?_, fun c => ?_⟩
    · have c5 : to = 5 := (nI_eq (a := to) (b := 5) (by omega) (by decide)).mp c
      have e : zmoved fr to much z = (if z (18 + 8 * fr) < much then z (18 + 8 * fr) else much) := by unfold zmoved; rw [if_pos c5, imin_eq]
      rw [e, ← ew] at tail
      exact tail
    · have c5 : ¬ to = 5 := fun q => c (by rw [q]; rfl)
      refine ⟨0 + to, ix2 0 to, by show _ < 105; omega, 10 + to, ix2 10 to, by show _ < 105; omega, ?_⟩
      have ec : M 4 (0 + to) = z (17 + 8 * to) := by rw [hM]; unfold zp; rw [Nat.zero_add, pz_c (by omega)]
      have et : M 4 (10 + to) = z (18 + 8 * to) := by rw [hM]; unfold zp; rw [pz_w (by omega)]
      have e : zmoved fr to much z = (if z (17 + 8 * to) - z (18 + 8 * to) < (if z (18 + 8 * fr) < much then z (18 + 8 * fr) else much) then z (17 + 8 * to) - z (18 + 8 * to) else (if z (18 + 8 * fr) < much then z (18 + 8 * fr) else much)) := by
        unfold zmoved
        rw [if_neg c5, imin_eq, imin_eq]
      rw [e, ← ew, ← ec, ← et] at tail
      exact tail
  refine am_C_of_R am_S0 om_S_moveWater rfl [.ref 3, .int (nI fr), .int (nI to), .int much, .null, .null, .null, .null] rfl rfl (g_S_moveWater_0 (c_S_isVat hf ⟨fun c => absurd c nI1_ne, fun c => ⟨fun c => mid, fun c => ?_⟩⟩))
  have c5 : ¬ to = 5 := fun q => c (by rw [q]; rfl)
  exact c_S_isVat (by omega) ⟨fun c => mid, fun c => absurd nI1_ne c⟩
theorem c_S_hourOfDay_6 {z : dz} {M : am_M} {K : am_Q} (hM : M 7 = zp z) (h : K (.inl (some (.int (zhod z)))) M) : am_C mt_S_hourOfDay [.ref 6] M K := by
  have e : zhod z = M 7 52 - M 7 52 / nI 24 * nI 24 := by rw [hM]; rfl
  rw [e] at h
  exact am_C_of_R am_S0 om_S_hourOfDay rfl [.ref 6] rfl rfl (g_S_hourOfDay_0 ⟨52, rfl, by decide, by decide, h⟩)
theorem c_S_limitIn_6 {z : dz} {v : Nat} {M : am_M} {K : am_Q} (hM : M 7 = zp z) (hv : v < 5) (h : K (.inl (some (.int (zholds v z)))) M) : am_C mt_S_limitIn [.ref 6, .int (nI v)] M K := by
  have e : zholds v z = M 7 (10 + v) * M 7 51 / nI 100 := by
    rw [hM]
    unfold zholds zp
    rw [pz_w hv]
    rfl
  rw [e] at h
  refine am_C_of_R am_S0 om_S_limitIn rfl [.ref 6, .int (nI v)] rfl rfl (g_S_limitIn_0 (c_S_isVat hv ⟨fun c => absurd c nI1_ne, fun c => ⟨10 + v, ix2 10 v, by show _ < 105; omega, 51, rfl, by decide, by decide, g_S_limitIn_31 h⟩⟩))
theorem c_S_isOpen_6 {z : dz} {k : Nat} {hr : Int32} {M : am_M} {K : am_Q} (hM : M 7 = zp z) (hk : k < 8) (h : K (.inl (some (.int (ib (z (57 + 6 * k + 3) ≤ hr ∧ hr ≤ z (57 + 6 * k + 4)))))) M) : am_C mt_S_isOpen [.ref 6, .int (nI (57 + 6 * k)), .int hr] M K := by
  have e3 : z (57 + 6 * k + 3) = M 7 (57 + 6 * k + 3) := by rw [hM]; unfold zp; rw [pz_hi (by omega)]
  have e4 : z (57 + 6 * k + 4) = M 7 (57 + 6 * k + 4) := by rw [hM]; unfold zp; rw [pz_hi (by omega)]
  rw [e3, e4] at h
  refine am_C_of_R am_S0 om_S_isOpen rfl [.ref 6, .int (nI (57 + 6 * k)), .int hr] rfl rfl (g_S_isOpen_0 ⟨fun c => absurd c (nI_nlt (a := 57 + 6 * k) (b := 57) (by omega) (by omega)), fun c => ⟨fun c => absurd c ?_, fun c => ⟨57 + 6 * k + 3, ix2 _ 3, by show _ < 105; omega, fun c => g_S_isOpen_42 (g_S_isOpen_43 ⟨Or.inl rfl, ?_⟩), fun c => ⟨57 + 6 * k + 4, ix2 _ 4, by show _ < 105; omega, fun c2 => g_S_isOpen_42 (g_S_isOpen_43 ⟨Or.inl rfl, ?_⟩), fun c2 => g_S_isOpen_43 ⟨Or.inr rfl, ?_⟩⟩⟩⟩⟩)
  · show ¬ nI 105 ≤ nI (57 + 6 * k) + nI 4
    rw [ix2]
    exact i_nge (by omega) (by decide)
  · have c' : ¬ (M 7 (57 + 6 * k + 3) ≤ hr ∧ hr ≤ M 7 (57 + 6 * k + 4)) := fun q => Int32.not_le.mpr c q.1
    rw [ib_f c'] at h
    exact h
  · have c' : ¬ (M 7 (57 + 6 * k + 3) ≤ hr ∧ hr ≤ M 7 (57 + 6 * k + 4)) := fun q => Int32.not_le.mpr c2 q.2
    rw [ib_f c'] at h
    exact h
  · have c' : M 7 (57 + 6 * k + 3) ≤ hr ∧ hr ≤ M 7 (57 + 6 * k + 4) := ⟨Int32.not_lt.mp c, Int32.not_lt.mp c2⟩
    rw [ib_t c'] at h
    exact h
theorem c_S_moveWater_6 {z : dz} {fr to : Nat} {much : Int32} {M : am_M} {K : am_Q} (hM : M 7 = zp z) (hz : zok z) (hf : fr < 5) (ht : to ≤ 5) (hm : 0 ≤ much.toInt)
    (h : K (.inl (some (.int (zmoved fr to much z)))) (am_set M 7 (zp (zmove fr to much z)))) : am_C mt_S_moveWater [.ref 6, .int (nI fr), .int (nI to), .int much] M K := by
  have hx := zok_moved0 hz hf ht hm
  have hpos := zok_moved_pos hz hf ht hm
  have hwp := zok_water_pos hz hf
  have h0 : M = am_set M 7 (zp z) := by rw [← hM, am_set_self]
  have ew : M 7 (10 + fr) = z (18 + 8 * fr) := by rw [hM]; unfold zp; rw [pz_w hf]
  have tail : am_R am_S0 mt_S_moveWater 1 70 [.ref 6, .int (nI fr), .int (nI to), .int much, .int (z (18 + 8 * fr)), .int (zmoved fr to much z), .null, .null] [] M K := by
    unfold zmove at h
    generalize hmv : zmoved fr to much z = mv at h hx hpos ⊢
    generalize hh : z (18 + 8 * fr) = had at h hx hwp ⊢
    have stop : mv = 0 → am_R am_S0 mt_S_moveWater 1 80 [.ref 6, .int (nI fr), .int (nI to), .int much, .int had, .int mv, .null, .null] [] M K := by
      intro c
      rw [if_pos c, ← hM, am_set_self, c] at h
      exact g_S_moveWater_80 h
    refine g_S_moveWater_70 ⟨fun c => stop ?_, fun c => ⟨fun c2 => ?_, fun c2 => stop ?_⟩⟩
    · exact Classical.byContradiction fun q => hx q (i_eq0 c hwp)
    · have c' : ¬ mv = 0 := fun q => by rw [q] at c2; exact Int32.lt_irrefl c2
      have hne := hx c'
      rw [if_neg c'] at h
      refine g_S_moveWater_82 ?_
      refine am_R_le (xs := [.ref 6, .int (nI fr), .int (nI to), .int much, .int had, .int mv, .int (nI 0), .null]) (by repeat' (first | exact trivial | exact Or.inr rfl | exact Or.inl rfl | exact Or.inr (congrArg Value.int (nI_succ _)) | refine ⟨?_, ?_⟩)) ?_
      rw [h0]
      refine lu (P := fun i => am_R am_S0 mt_S_moveWater 1 85 [.ref 6, .int (nI fr), .int (nI to), .int much, .int had, .int mv, .int (nI i), .null] [] (am_set M 7 (zp (zdyes fr to mv had z i))) K) 3 ?_ ?_
      · refine g_S_moveWater_85 ⟨fun c => ?_, fun c => absurd (i_le (Nat.le_refl 3) (by decide)) c⟩
        generalize hzd : zdyes fr to mv had z 3 = zd
        refine g_S_moveWater_170 ⟨10 + fr, ix2 10 fr, by show _ < 105; omega, 10 + fr, ix2 10 fr, by show _ < 105; omega, fun c => ?_, fun c => ?_⟩
        · have c5 : ¬ to = 5 := fun q => c (by rw [q]; rfl)
          refine g_S_moveWater_198 (g_S_moveWater_202 ⟨10 + to, ix2 10 to, by show _ < 105; omega, 10 + to, ix2 10 to, by show _ < 105; omega, ?_⟩)
          simp only [am_set_set]
          have e : upd (upd (zp zd) (10 + fr) (zp zd (10 + fr) - mv)) (10 + to) (upd (zp zd) (10 + fr) (zp zd (10 + fr) - mv) (10 + to) + mv) = zp (zmv fr to mv had z) := by
            rw [zp_sub, zp_add, pz_w hf, pz_w (by omega)]
            unfold zmv zwst
            rw [if_neg c5, hzd]
          rw [← e] at h
          exact h
        · have c5 : to = 5 := (nI_eq (a := to) (b := 5) (by omega) (by decide)).mp (Classical.not_not.mp c)
          refine g_S_moveWater_202 ⟨54, rfl, by decide, 54, rfl, by decide, ?_⟩
          simp only [am_set_set]
          have e : upd (upd (zp zd) (10 + fr) (zp zd (10 + fr) - mv)) 54 (upd (zp zd) (10 + fr) (zp zd (10 + fr) - mv) 54 + mv) = zp (zmv fr to mv had z) := by
            rw [zp_sub, zp_add, pz_w hf]
            unfold zmv zwst
            rw [if_pos c5, hzd]
            rfl
          rw [← e] at h
          exact h
      · intro i hi ih
        have eih : zdyes fr to mv had z (i + 1) = zdye fr to mv had i (zdyes fr to mv had z i) := rfl
        rw [eih] at ih
        generalize zdyes fr to mv had z i = zi at ih ⊢
        refine g_S_moveWater_85 ⟨fun c => absurd c (i_nge hi (by decide)), fun c => ?_⟩
        refine ⟨15 + fr * 3 + i, ix4' 15 3 fr i, by show _ < 105; omega, hne, 15 + fr * 3 + i, ix4' 15 3 fr i, by show _ < 105; omega, 15 + fr * 3 + i, ix4' 15 3 fr i, by show _ < 105; omega, fun c => ?_, fun c => ?_⟩
        · have c5 : ¬ to = 5 := fun q => c (by rw [q]; rfl)
          refine g_S_moveWater_149 (g_S_moveWater_158 ⟨15 + to * 3 + i, ix4' 15 3 to i, by show _ < 105; omega, 15 + to * 3 + i, ix4' 15 3 to i, by show _ < 105; omega, ?_⟩)
          simp only [am_set_set]
          have e : upd (upd (zp zi) (15 + fr * 3 + i) (zp zi (15 + fr * 3 + i) - zp zi (15 + fr * 3 + i) * mv / had)) (15 + to * 3 + i) (upd (zp zi) (15 + fr * 3 + i) (zp zi (15 + fr * 3 + i) - zp zi (15 + fr * 3 + i) * mv / had) (15 + to * 3 + i) + zp zi (15 + fr * 3 + i) * mv / had) = zp (zdye fr to mv had i zi) := by
            rw [zp_sub, zp_add, pz_d hf hi, pz_d (by omega) hi]
            unfold zdye zdst zgr zp
            rw [if_neg c5, pz_d hf hi]
          rw [← e] at ih
          exact am_R_le (by repeat' (first | exact trivial | exact Or.inr rfl | exact Or.inl rfl | exact Or.inr (congrArg Value.int (nI_succ _)) | refine ⟨?_, ?_⟩)) ih
        · have c5 : to = 5 := (nI_eq (a := to) (b := 5) (by omega) (by decide)).mp (Classical.not_not.mp c)
          refine g_S_moveWater_158 ⟨48 + i, ix2 48 i, by show _ < 105; omega, 48 + i, ix2 48 i, by show _ < 105; omega, ?_⟩
          simp only [am_set_set]
          have e : upd (upd (zp zi) (15 + fr * 3 + i) (zp zi (15 + fr * 3 + i) - zp zi (15 + fr * 3 + i) * mv / had)) (48 + i) (upd (zp zi) (15 + fr * 3 + i) (zp zi (15 + fr * 3 + i) - zp zi (15 + fr * 3 + i) * mv / had) (48 + i) + zp zi (15 + fr * 3 + i) * mv / had) = zp (zdye fr to mv had i zi) := by
            rw [zp_sub, zp_add, pz_d hf hi, pz_o hi]
            unfold zdye zdst zgr zp
            rw [if_pos c5, pz_d hf hi]
          rw [← e] at ih
          exact am_R_le (by repeat' (first | exact trivial | exact Or.inr rfl | exact Or.inl rfl | exact Or.inr (congrArg Value.int (nI_succ _)) | refine ⟨?_, ?_⟩)) ih
    · exact i_eq0 (Int32.not_lt.mp c2) hpos
  have mid : am_R am_S0 mt_S_moveWater 1 21 [.ref 6, .int (nI fr), .int (nI to), .int much, .null, .null, .null, .null] [] M K := by
    refine g_S_moveWater_21 ⟨10 + fr, ix2 10 fr, by show _ < 105; omega, fun c => ?_, fun c => ?_⟩
    · have c5 : to = 5 := (nI_eq (a := to) (b := 5) (by omega) (by decide)).mp c
      have e : zmoved fr to much z = (if z (18 + 8 * fr) < much then z (18 + 8 * fr) else much) := by unfold zmoved; rw [if_pos c5, imin_eq]
      rw [e, ← ew] at tail
      exact tail
    · have c5 : ¬ to = 5 := fun q => c (by rw [q]; rfl)
      refine ⟨0 + to, ix2 0 to, by show _ < 105; omega, 10 + to, ix2 10 to, by show _ < 105; omega, ?_⟩
      have ec : M 7 (0 + to) = z (17 + 8 * to) := by rw [hM]; unfold zp; rw [Nat.zero_add, pz_c (by omega)]
      have et : M 7 (10 + to) = z (18 + 8 * to) := by rw [hM]; unfold zp; rw [pz_w (by omega)]
      have e : zmoved fr to much z = (if z (17 + 8 * to) - z (18 + 8 * to) < (if z (18 + 8 * fr) < much then z (18 + 8 * fr) else much) then z (17 + 8 * to) - z (18 + 8 * to) else (if z (18 + 8 * fr) < much then z (18 + 8 * fr) else much)) := by
        unfold zmoved
        rw [if_neg c5, imin_eq, imin_eq]
      rw [e, ← ew, ← ec, ← et] at tail
      exact tail
  refine am_C_of_R am_S0 om_S_moveWater rfl [.ref 6, .int (nI fr), .int (nI to), .int much, .null, .null, .null, .null] rfl rfl (g_S_moveWater_0 (c_S_isVat hf ⟨fun c => absurd c nI1_ne, fun c => ⟨fun c => mid, fun c => ?_⟩⟩))
  have c5 : ¬ to = 5 := fun q => c (by rw [q]; rfl)
  exact c_S_isVat (by omega) ⟨fun c => mid, fun c => absurd nI1_ne c⟩
