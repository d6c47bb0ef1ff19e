/-! calls: stir -/
def zstm (v d : Nat) (z : dz) : Int32 := if 0 < ileast (z (22 + 8 * v + d)) (zholds v z - z (19 + 8 * v + d)) then ileast (z (22 + 8 * v + d)) (zholds v z - z (19 + 8 * v + d)) else nI 0
def zst1 (v d : Nat) (z : dz) : dz := zadd (zadd z (22 + 8 * v + d) (-zstm v d z)) (19 + 8 * v + d) (zstm v d z)
def zst (v : Nat) (z : dz) : Nat → dz
  | 0 => z
  | d + 1 => zst1 v d (zst v z d)
def zsts (v : Nat) (z : dz) : Nat → Int32
  | 0 => nI 0
  | d + 1 => zsts v z d + zstm v d (zst v z d)
theorem zstm_ti {v d : Nat} {z : dz} (h : zok z) (hv : v < 5) (hd : d < 3) : 0 ≤ (zstm v d z).toInt ∧ (zstm v d z).toInt ≤ (z (22 + 8 * v + d)).toInt := by
  have hg := h.2.1 v d hv hd
  unfold zstm
  split
  · rename_i c
    have c' := ti_lt.mp c
    rw [ti_0] at c'
    exact ⟨by omega, (ileast_ti _ _).1⟩
  · rw [nI_toInt (by decide)]
    exact ⟨by omega, hg.2⟩
theorem zst1_fix {v d i : Nat} {z : dz} (hv : v < 5) (hd : d < 3) (hi : zfix i) : zst1 v d z i = z i := by
  unfold zst1
  rw [zadd_ne _ _ (by unfold zfix at hi; omega), zadd_ne _ _ (by unfold zfix at hi; omega)]
theorem zok_st1 {v d : Nat} {z : dz} (h : zok z) (hv : v < 5) (hd : d < 3) : zok (zst1 v d z) := by
  have hfix : ∀ i, zfix i → zst1 v d z i = z i := fun i hi => zst1_fix hv hd hi
  obtain ⟨m1, m2⟩ := zstm_ti h hv hd
  obtain ⟨hvt, hg, ha, hs, ⟨hw0, hw⟩, m', hm', e5, hvs⟩ := h
  obtain ⟨l1, l2, l3, l4⟩ := zgr_le hg ha hv hd
  obtain ⟨g1, g2⟩ := hg v d hv hd
  refine ⟨?_, ?_, ?_, ?_, ?_, m', hm', ?_, ?_⟩
  rotate_right
  · exact fun k hk => zvok_fix (by omega) hfix (hvs k hk)
  rotate_right
  · rw [hfix 5 (by unfold zfix; omega)]; exact e5
  rotate_right 2
  · rw [hfix 1 (by unfold zfix; omega)]; exact hs
  rotate_left
  all_goals
    unfold zst1
    generalize zstm v d z = mv at m1 m2 ⊢
    have nq := ti_neg (a := mv) (by omega)
    have e1 := ti_add (a := z (22 + 8 * v + d)) (b := -mv) (by omega) (by omega)
    unfold zadd
    generalize hx : z (22 + 8 * v + d) + -mv = x at e1 ⊢
    rw [upd_ne _ (j := 19 + 8 * v + d) _ (by omega)]
    have e2 := ti_add (a := z (19 + 8 * v + d)) (b := mv) (by omega) (by omega)
    generalize hy : z (19 + 8 * v + d) + mv = y at e2 ⊢
  · intro w hw5
    rw [upd_ne _ (j := 18 + 8 * w) _ (by omega), upd_ne _ (j := 18 + 8 * w) _ (by omega), upd_ne _ (j := 17 + 8 * w) _ (by omega), upd_ne _ (j := 17 + 8 * w) _ (by omega)]
    exact hvt w hw5
  · intro w d' hw5 hd'
    obtain ⟨w1, w2⟩ := hg w d' hw5 hd'
    rw [upd_ne _ (k := 19 + 8 * v + d) (j := 22 + 8 * w + d') _ (by omega)]
    refine ⟨?_, ?_⟩
    · by_cases c2 : 19 + 8 * w + d' = 19 + 8 * v + d
      · rw [upd_eq' _ _ c2]; omega
      · rw [upd_ne _ _ c2, upd_ne _ _ (by omega)]; exact w1
    · by_cases c2 : 22 + 8 * w + d' = 22 + 8 * v + d
      · rw [upd_eq' _ _ c2]; omega
      · rw [upd_ne _ _ c2]; exact w2
  · intro d' hd'
    obtain ⟨b1, b2, b3⟩ := ha d' hd'
    rw [upd_ne _ (j := 14 + d') _ (by omega), upd_ne _ (j := 14 + d') _ (by omega), upd_ne _ (j := 11 + d') _ (by omega), upd_ne _ (j := 11 + d') _ (by omega)]
    by_cases c3 : d' = d
    · subst c3
      have r1 := zall_d (z := upd z (22 + 8 * v + d') x) (d := d') (x := y) hv
      have r2 := zall_s (z := z) (d := d') (x := x) hv
      rw [upd_ne _ _ (by omega)] at r1
      rw [r1, r2]
      exact ⟨b1, by omega, b3⟩
    · rw [zall_ne (by omega) (fun v hv => ⟨by omega, by omega⟩), zall_ne (by omega) (fun v hv => ⟨by omega, by omega⟩)]
      exact ⟨b1, b2, b3⟩
  · rw [zwat_ne (by omega), zwat_ne (by omega), upd_ne _ (j := 2) _ (by omega), upd_ne _ (j := 2) _ (by omega), upd_ne _ (j := 3) _ (by omega), upd_ne _ (j := 3) _ (by omega)]
    exact ⟨hw0, hw⟩
theorem zok_st {v : Nat} {z : dz} (h : zok z) (hv : v < 5) : ∀ d, d ≤ 3 → zok (zst v z d)
  | 0, _ => h
  | d + 1, hd => zok_st1 (zok_st h hv d (by omega)) hv (by omega)
theorem upd_add0 (z : dz) (k : Nat) : zadd z k (nI 0) = z := by
  funext j
  unfold zadd
  by_cases c : j = k
  · rw [upd_eq' _ _ c, c]
    exact Int32.add_zero _
  · rw [upd_ne _ _ c]
def m_stir (p : Int32) (w : wS) : mS := if isv p then (0, zsts (zn p) (w_z w) 3, w_setz (w_rec w) (zst (zn p) (w_z w) 3)) else (1, nI 0, w)
theorem stir_g {a b : Int32} (ha : 0 ≤ a.toInt) : (if (if nI 0 < b then b else nI 0) < a then (if nI 0 < b then b else nI 0) else a) = if 0 < ileast a b then ileast a b else nI 0 := by
  by_cases c : nI 0 < b
  · rw [if_pos c, imin_eq]
    split
    · rfl
    · rename_i c2
      have hb := ti_lt.mp c
      rw [nI_toInt (by decide)] at hb
      have h3 := ileast_ti a b
      refine ti_ext ?_
      have c3 : ¬ (0 : Int32).toInt < (ileast a b).toInt := fun q => c2 (ti_lt.mpr q)
      rw [ti_0] at c3
      rw [nI_toInt (by decide)]
      omega
  · rw [if_neg c, imin_eq]
    have hb : ¬ (nI 0).toInt < b.toInt := fun q => c (ti_lt.mpr q)
    rw [nI_toInt (by decide)] at hb
    have h3 := ileast_ti a b
    have h4 := ileast_ti a (nI 0)
    rw [nI_toInt (by decide)] at h4
    have c3 : ¬ 0 < ileast a b := fun q => by
      have := ti_lt.mp q
      rw [ti_0] at this
      omega
    rw [if_neg c3]
    refine ti_ext ?_
    rw [nI_toInt (by decide)]
    omega
theorem c_S_dissolveSettled_1 {v : Nat} {z : dz} {M : am_M} {K : am_Q} (hM : M 2 = zp z) (hz : zok z) (hv : v < 5) (h : K (.inl (some (.int (zsts v z 3)))) (am_set M 2 (zp (zst v z 3)))) : am_C mt_S_dissolveSettled [.ref 1, .int (nI v)] M K := by
  refine am_C_of_R am_S0 om_S_dissolveSettled rfl [.ref 1, .int (nI v), .null, .null, .null, .null, .null] rfl rfl (g_S_dissolveSettled_0 (c_S_isVat hv ⟨fun c => g_S_dissolveSettled_9 ?_, fun c => absurd nI1_ne c⟩))
  have h0 : M = am_set M 2 (zp z) := by rw [← hM, am_set_self]
  refine am_R_le (xs := [.ref 1, .int (nI v), .int (zsts v z 0), .int (nI 0), .null, .null, .null]) (by repeat' (first | exact trivial | exact Or.inr rfl | exact Or.inl rfl | exact Or.inr (congrArg Value.int (nI_succ _)) | refine ⟨?_, ?_⟩)) ?_
  rw [h0]
  refine lu (P := fun i => am_R am_S0 mt_S_dissolveSettled 1 13 [.ref 1, .int (nI v), .int (zsts v z i), .int (nI i), .null, .null, .null] [] (am_set M 2 (zp (zst v z i))) K) 3 ?_ ?_
  · exact g_S_dissolveSettled_13 ⟨fun c => g_S_dissolveSettled_102 h, fun c => absurd (i_le (Nat.le_refl 3) (by decide)) c⟩
  · intro d hd ih
    have hzz := zok_st hz hv d (by omega)
    have e1 : zst v z (d + 1) = zst1 v d (zst v z d) := rfl
    have e2 : zsts v z (d + 1) = zsts v z d + zstm v d (zst v z d) := rfl
    rw [e1, e2] at ih
    generalize zsts v z d = sum at ih ⊢
    generalize zst v z d = zz at ih hzz ⊢
    have es : zp zz (30 + v * 3 + d) = zz (22 + 8 * v + d) := by unfold zp; rw [pz_s hv hd]
    have ed : zp zz (15 + v * 3 + d) = zz (19 + 8 * v + d) := by unfold zp; rw [pz_d hv hd]
    have em : zstm v d zz = (if (if nI 0 < (zholds v zz - zp zz (15 + v * 3 + d)) then (zholds v zz - zp zz (15 + v * 3 + d)) else nI 0) < zp zz (30 + v * 3 + d) then (if nI 0 < (zholds v zz - zp zz (15 + v * 3 + d)) then (zholds v zz - zp zz (15 + v * 3 + d)) else nI 0) else zp zz (30 + v * 3 + d)) := by
      rw [es, ed, stir_g (hzz.2.1 v d hv hd).2]
      rfl
    refine g_S_dissolveSettled_13 ⟨fun c => absurd c (i_nge hd (by decide)), fun c => ⟨30 + v * 3 + d, ix4' 30 3 v d, by show _ < 105; omega, c_S_limitIn_1 (z := zz) (v := v) (by rw [am_set_eq]) hv ⟨15 + v * 3 + d, ix4' 15 3 v d, by show _ < 105; omega, ?_⟩⟩⟩
    refine ⟨30 + v * 3 + d, ix4' 30 3 v d, by show _ < 105; omega, 30 + v * 3 + d, ix4' 30 3 v d, by show _ < 105; omega, 15 + v * 3 + d, ix4' 15 3 v d, by show _ < 105; omega, 15 + v * 3 + d, ix4' 15 3 v d, by show _ < 105; omega, ?_⟩
    unfold zst1 at ih
    rw [em] at ih
    simp only [am_set_set]
    have eq1 : ∀ g : Int32, upd (upd (zp zz) (30 + v * 3 + d) (zp zz (30 + v * 3 + d) - g)) (15 + v * 3 + d) (upd (zp zz) (30 + v * 3 + d) (zp zz (30 + v * 3 + d) - g) (15 + v * 3 + d) + g) = zp (zadd (zadd zz (22 + 8 * v + d) (-g)) (19 + 8 * v + d) g) := by
      intro g
      rw [zp_sub, zp_add, pz_d hv hd, pz_s hv hd]
    rw [← eq1] at ih
    exact am_R_le (by repeat' (first | exact trivial | exact Or.inr rfl | exact Or.inl rfl | exact Or.inr (congrArg Value.int (nI_succ _)) | refine ⟨?_, ?_⟩)) ih
theorem c_S_dissolveSettled_3 {v : Nat} {z : dz} {M : am_M} {K : am_Q} (hM : M 4 = zp z) (hz : zok z) (hv : v < 5) (h : K (.inl (some (.int (zsts v z 3)))) (am_set M 4 (zp (zst v z 3)))) : am_C mt_S_dissolveSettled [.ref 3, .int (nI v)] M K := by
  refine am_C_of_R am_S0 om_S_dissolveSettled rfl [.ref 3, .int (nI v), .null, .null, .null, .null, .null] rfl rfl (g_S_dissolveSettled_0 (c_S_isVat hv ⟨fun c => g_S_dissolveSettled_9 ?_, fun c => absurd nI1_ne c⟩))
  have h0 : M = am_set M 4 (zp z) := by rw [← hM, am_set_self]
  refine am_R_le (xs := [.ref 3, .int (nI v), .int (zsts v z 0), .int (nI 0), .null, .null, .null]) (by repeat' (first | exact trivial | exact Or.inr rfl | exact Or.inl rfl | exact Or.inr (congrArg Value.int (nI_succ _)) | refine ⟨?_, ?_⟩)) ?_
  rw [h0]
  refine lu (P := fun i => am_R am_S0 mt_S_dissolveSettled 1 13 [.ref 3, .int (nI v), .int (zsts v z i), .int (nI i), .null, .null, .null] [] (am_set M 4 (zp (zst v z i))) K) 3 ?_ ?_
  · exact g_S_dissolveSettled_13 ⟨fun c => g_S_dissolveSettled_102 h, fun c => absurd (i_le (Nat.le_refl 3) (by decide)) c⟩
  · intro d hd ih
    have hzz := zok_st hz hv d (by omega)
    have e1 : zst v z (d + 1) = zst1 v d (zst v z d) := rfl
    have e2 : zsts v z (d + 1) = zsts v z d + zstm v d (zst v z d) := rfl
    rw [e1, e2] at ih
    generalize zsts v z d = sum at ih ⊢
    generalize zst v z d = zz at ih hzz ⊢
    have es : zp zz (30 + v * 3 + d) = zz (22 + 8 * v + d) := by unfold zp; rw [pz_s hv hd]
    have ed : zp zz (15 + v * 3 + d) = zz (19 + 8 * v + d) := by unfold zp; rw [pz_d hv hd]
    have em : zstm v d zz = (if (if nI 0 < (zholds v zz - zp zz (15 + v * 3 + d)) then (zholds v zz - zp zz (15 + v * 3 + d)) else nI 0) < zp zz (30 + v * 3 + d) then (if nI 0 < (zholds v zz - zp zz (15 + v * 3 + d)) then (zholds v zz - zp zz (15 + v * 3 + d)) else nI 0) else zp zz (30 + v * 3 + d)) := by
      rw [es, ed, stir_g (hzz.2.1 v d hv hd).2]
      rfl
    refine g_S_dissolveSettled_13 ⟨fun c => absurd c (i_nge hd (by decide)), fun c => ⟨30 + v * 3 + d, ix4' 30 3 v d, by show _ < 105; omega, c_S_limitIn_3 (z := zz) (v := v) (by rw [am_set_eq]) hv ⟨15 + v * 3 + d, ix4' 15 3 v d, by show _ < 105; omega, ?_⟩⟩⟩
    refine ⟨30 + v * 3 + d, ix4' 30 3 v d, by show _ < 105; omega, 30 + v * 3 + d, ix4' 30 3 v d, by show _ < 105; omega, 15 + v * 3 + d, ix4' 15 3 v d, by show _ < 105; omega, 15 + v * 3 + d, ix4' 15 3 v d, by show _ < 105; omega, ?_⟩
    unfold zst1 at ih
    rw [em] at ih
    simp only [am_set_set]
    have eq1 : ∀ g : Int32, upd (upd (zp zz) (30 + v * 3 + d) (zp zz (30 + v * 3 + d) - g)) (15 + v * 3 + d) (upd (zp zz) (30 + v * 3 + d) (zp zz (30 + v * 3 + d) - g) (15 + v * 3 + d) + g) = zp (zadd (zadd zz (22 + 8 * v + d) (-g)) (19 + 8 * v + d) g) := by
      intro g
      rw [zp_sub, zp_add, pz_d hv hd, pz_s hv hd]
    rw [← eq1] at ih
    exact am_R_le (by repeat' (first | exact trivial | exact Or.inr rfl | exact Or.inl rfl | exact Or.inr (congrArg Value.int (nI_succ _)) | refine ⟨?_, ?_⟩)) ih
theorem c_S_dissolveSettled_6 {v : Nat} {z : dz} {M : am_M} {K : am_Q} (hM : M 7 = zp z) (hz : zok z) (hv : v < 5) (h : K (.inl (some (.int (zsts v z 3)))) (am_set M 7 (zp (zst v z 3)))) : am_C mt_S_dissolveSettled [.ref 6, .int (nI v)] M K := by
  refine am_C_of_R am_S0 om_S_dissolveSettled rfl [.ref 6, .int (nI v), .null, .null, .null, .null, .null] rfl rfl (g_S_dissolveSettled_0 (c_S_isVat hv ⟨fun c => g_S_dissolveSettled_9 ?_, fun c => absurd nI1_ne c⟩))
  have h0 : M = am_set M 7 (zp z) := by rw [← hM, am_set_self]
  refine am_R_le (xs := [.ref 6, .int (nI v), .int (zsts v z 0), .int (nI 0), .null, .null, .null]) (by repeat' (first | exact trivial | exact Or.inr rfl | exact Or.inl rfl | exact Or.inr (congrArg Value.int (nI_succ _)) | refine ⟨?_, ?_⟩)) ?_
  rw [h0]
  refine lu (P := fun i => am_R am_S0 mt_S_dissolveSettled 1 13 [.ref 6, .int (nI v), .int (zsts v z i), .int (nI i), .null, .null, .null] [] (am_set M 7 (zp (zst v z i))) K) 3 ?_ ?_
  · exact g_S_dissolveSettled_13 ⟨fun c => g_S_dissolveSettled_102 h, fun c => absurd (i_le (Nat.le_refl 3) (by decide)) c⟩
  · intro d hd ih
    have hzz := zok_st hz hv d (by omega)
    have e1 : zst v z (d + 1) = zst1 v d (zst v z d) := rfl
    have e2 : zsts v z (d + 1) = zsts v z d + zstm v d (zst v z d) := rfl
    rw [e1, e2] at ih
    generalize zsts v z d = sum at ih ⊢
    generalize zst v z d = zz at ih hzz ⊢
    have es : zp zz (30 + v * 3 + d) = zz (22 + 8 * v + d) := by unfold zp; rw [pz_s hv hd]
    have ed : zp zz (15 + v * 3 + d) = zz (19 + 8 * v + d) := by unfold zp; rw [pz_d hv hd]
    have em : zstm v d zz = (if (if nI 0 < (zholds v zz - zp zz (15 + v * 3 + d)) then (zholds v zz - zp zz (15 + v * 3 + d)) else nI 0) < zp zz (30 + v * 3 + d) then (if nI 0 < (zholds v zz - zp zz (15 + v * 3 + d)) then (zholds v zz - zp zz (15 + v * 3 + d)) else nI 0) else zp zz (30 + v * 3 + d)) := by
      rw [es, ed, stir_g (hzz.2.1 v d hv hd).2]
      rfl
    refine g_S_dissolveSettled_13 ⟨fun c => absurd c (i_nge hd (by decide)), fun c => ⟨30 + v * 3 + d, ix4' 30 3 v d, by show _ < 105; omega, c_S_limitIn_6 (z := zz) (v := v) (by rw [am_set_eq]) hv ⟨15 + v * 3 + d, ix4' 15 3 v d, by show _ < 105; omega, ?_⟩⟩⟩
    refine ⟨30 + v * 3 + d, ix4' 30 3 v d, by show _ < 105; omega, 30 + v * 3 + d, ix4' 30 3 v d, by show _ < 105; omega, 15 + v * 3 + d, ix4' 15 3 v d, by show _ < 105; omega, 15 + v * 3 + d, ix4' 15 3 v d, by show _ < 105; omega, ?_⟩
    unfold zst1 at ih
    rw [em] at ih
    simp only [am_set_set]
    have eq1 : ∀ g : Int32, upd (upd (zp zz) (30 + v * 3 + d) (zp zz (30 + v * 3 + d) - g)) (15 + v * 3 + d) (upd (zp zz) (30 + v * 3 + d) (zp zz (30 + v * 3 + d) - g) (15 + v * 3 + d) + g) = zp (zadd (zadd zz (22 + 8 * v + d) (-g)) (19 + 8 * v + d) g) := by
      intro g
      rw [zp_sub, zp_add, pz_d hv hd, pz_s hv hd]
    rw [← eq1] at ih
    exact am_R_le (by repeat' (first | exact trivial | exact Or.inr rfl | exact Or.inl rfl | exact Or.inr (congrArg Value.int (nI_succ _)) | refine ⟨?_, ?_⟩)) ih
theorem c_V_stir {n : Nat} {p : Int32} {w : wS} {M : am_M} {K : am_Q} (hr : vr M w) (hk : wk n w) (h : ∀ M', vr M' (m_stir p w).2.2 → vf M M' → K (oV 0 (m_stir p w).1 (m_stir p w).2.1) M') : am_C mt_V_stir [.ref 0, .int p] M K := by
  unfold m_stir at h
  refine am_C_of_R am_S0 om_V_stir rfl [.ref 0, .int p] rfl rfl (g_V_stir_0 (c_V_requireVat (fun hv => ?_) (fun hv => ?_)))
  · rw [if_pos hv] at h
    obtain ⟨v, -, hv4, rfl⟩ := isr_nat (a := 0) (b := 4) hv (by decide) (by decide)
    rw [zn_nI (by omega)] at h
    refine c_V_saveState hr (fun M' r1 r2 r3 _ => ?_)
    exact c_S_dissolveSettled_1 (z := w_z w) r1.1 hk.1.1 (by omega) (h _ (vr_setz r1) (vf_set r2 (by decide)))
  · rw [if_neg hv] at h
    exact h M hr (vf_refl M)
