/-! firstError, load -/
theorem c_Z_recordF {w : wS} {M : am_M} {K : am_Q} (hr : zr M w) (h : ∀ M', zr M' (w_rec w) → zf M M' → (∀ k, k ≠ 4 → M' 17 k = M 17 k) → (∀ o, o ≠ 17 → o ≠ 20 → M' o = M o) → K (.inl none) M') : am_C mt_Z_record [.ref 17] M K := by
  obtain ⟨r1, ⟨r2, r2'⟩, r3, r4, r5, r6, r7⟩ := hr
  have tail : ∀ (f : dz) (s : Nat) (M1 : am_M), M1 17 4 = nI s → s < 6 → M1 20 = f → M1 18 = M 18 → (∀ M', M' 18 = M 18 → M' 17 = upd (M1 17) 4 (nI (s + 1)) → M' 20 = va_cpy (M 18) f 0 (105 * s) 105 → (∀ o, o ≠ 17 → o ≠ 20 → M' o = M1 o) → K (.inl none) M') → am_R am_S0 mt_Z_record 1 49 [.ref 17, .null] [] M1 K := by
    intro f s M1 e1 hs e2 e3 hh
    refine g_Z_record_49 ?_
    refine am_R_le (xs := [.ref 17, .int (nI 0)]) (by repeat' (first | exact trivial | exact Or.inr rfl | exact Or.inl rfl | exact Or.inr (congrArg Value.int (nI_succ _)) | refine ⟨?_, ?_⟩)) ?_
    have h0 : M1 = am_set M1 20 (va_cpy (M 18) f 0 (105 * s) 0) := by rw [cpy_0, ← e2, am_set_self]
    rw [h0]
    refine lu (P := fun i => am_R am_S0 mt_Z_record 1 51 [.ref 17, .int (nI i)] [] (am_set M1 20 (va_cpy (M 18) f 0 (105 * s) i)) K) 105 ?_ ?_
    · refine g_Z_record_51 ⟨fun c => g_Z_record_83 (hh _ ?_ ?_ ?_ ?_), fun c => absurd (i_le (Nat.le_refl 105) (by decide)) c⟩
      · exact e3
      · show upd (M1 17) 4 (M1 17 4 + nI 1) = _
        rw [e1, nI_add]
      · rfl
      · intro o h1 h2
        rw [am_so _ _ h1, am_so _ _ h2]
    · intro i hi ih
      refine g_Z_record_51 ⟨fun c => absurd c (i_nge hi (by decide)), fun c => ⟨i, rfl, by show _ < 105; omega, 105 * s + i, ?_, by show _ < 630; omega, ?_⟩⟩
      · show nI 105 * M1 17 4 + nI i = _
        rw [e1, ix5]
      · simp only [am_set_set]
        have e := cpy_step (M 18) f 0 (105 * s) i
        rw [← e, Nat.zero_add, ← e3] at ih
        rw [← e3]
        exact am_R_le (by repeat' (first | exact trivial | exact Or.inr rfl | exact Or.inl rfl | exact Or.inr (congrArg Value.int (nI_succ _)) | refine ⟨?_, ?_⟩)) ih
  have fin : ∀ (f : dz) (M' : am_M), (w_s w = 6 → ∀ k, k < 525 → f k = M 20 (105 + k)) → (w_s w ≠ 6 → f = M 20) → M' 18 = M 18 → (∀ k, k ≠ 4 → M' 17 k = M 17 k) → M' 17 4 = nI (w_at w + 1) → M' 20 = va_cpy (M 18) f 0 (105 * w_at w) 105 → (∀ o, o ≠ 17 → o ≠ 20 → M' o = M o) → K (.inl none) M' := by
    intro f M' f1 f2 g1 g2 g3 g4 g5
    refine h M' ⟨?_, ⟨g3, ?_⟩, ?_, ?_, ?_, ⟨?_, r6.2⟩, ?_⟩ (fun o ho => g5 o (by omega) (by omega)) g2 g5
    · rw [g1]; exact r1
    · show w_at w + 1 ≤ 6
      unfold w_at
      split <;> omega
    · intro j hj k hk
      have hj' : j < w_at w + 1 := hj
      show M' 20 (105 * j + k) = (if j = w_at w then w_z w else if w_s w = 6 then w_sv w (j + 1) else w_sv w j) k
      rw [g4]
      by_cases c : j = w_at w
      · rw [if_pos c, cpy_in (by rw [c]; omega), r1]
        congr 1
        omega
      · rw [if_neg c, cpy_out (by omega)]
        unfold w_at at hj' c
        by_cases c6 : w_s w = 6
        · rw [if_pos c6] at hj' c
          rw [if_pos c6, f1 c6 _ (by omega), ← r3 (j + 1) (by omega) k hk]
          congr 1
          omega
        · rw [if_neg c6] at hj' c
          rw [if_neg c6, f2 c6, r3 j (by omega) k hk]
    · rw [g5 22 (by decide) (by decide)]; exact r4
    · rw [g5 21 (by decide) (by decide)]; exact r5
    · rw [g2 8 (by decide)]; exact r6.1
    · rw [g5 23 (by decide) (by decide)]; exact r7
  refine am_C_of_R am_S0 om_Z_record rfl [.ref 17, .null] rfl rfl (g_Z_record_0 ⟨fun c => ?_, fun c => ?_⟩)
  · have c6 : w_s w ≠ 6 := fun q => c (by rw [r2, q]; rfl)
    have ea : w_at w = w_s w := by unfold w_at; rw [if_neg c6]
    refine tail (M 20) (w_at w) M (by rw [ea]; exact r2) (by omega) rfl rfl (fun M' a1 a2 a3 a4 => fin (M 20) M' (fun q => absurd q c6) (fun _ => rfl) a1 ?_ ?_ a3 a4)
    · intro k hk; rw [a2, upd_ne _ _ hk]
    · rw [a2, upd_eq]
  · have c6 : w_s w = 6 := (nI_eq (a := w_s w) (b := 6) (by omega) (by decide)).mp (r2.symm.trans (Classical.not_not.mp c))
    have ea : w_at w = 5 := by unfold w_at; rw [if_pos c6]
    refine am_R_le (xs := [.ref 17, .int (nI 0)]) (by repeat' (first | exact trivial | exact Or.inr rfl | exact Or.inl rfl | exact Or.inr (congrArg Value.int (nI_succ _)) | refine ⟨?_, ?_⟩)) ?_
    have h0 : M = am_set M 20 (va_cpy (M 20) (M 20) 105 0 0) := by rw [cpy_0, am_set_self]
    rw [h0]
    refine lu (P := fun i => am_R am_S0 mt_Z_record 1 11 [.ref 17, .int (nI i)] [] (am_set M 20 (va_cpy (M 20) (M 20) 105 0 i)) K) 525 ?_ ?_
    · refine g_Z_record_11 ⟨fun c => g_Z_record_39 ?_, fun c => absurd (i_le (Nat.le_refl 525) (by decide)) c⟩
      refine am_R_le (xs := [.ref 17, .null]) (by repeat' (first | exact trivial | exact Or.inr rfl | exact Or.inl rfl | exact Or.inr (congrArg Value.int (nI_succ _)) | refine ⟨?_, ?_⟩)) (tail (va_cpy (M 20) (M 20) 105 0 525) 5 (am_set (am_set M 20 (va_cpy (M 20) (M 20) 105 0 525)) 17 (upd (M 17) 4 (M 17 4 - nI 1))) ?_ (by decide) rfl rfl (fun M' a1 a2 a3 a4 => fin (va_cpy (M 20) (M 20) 105 0 525) M' (fun _ k hk => ?_) (fun q => absurd c6 q) a1 ?_ ?_ ?_ ?_))
      · show upd (M 17) 4 (M 17 4 - nI 1) 4 = nI 5
        rw [upd_eq, r2, c6, nI_sub1 (by decide)]
      · rw [cpy_in (by omega)]; rfl
      · intro k hk
        rw [a2, upd_ne _ _ hk]
        show upd (M 17) 4 _ k = _
        rw [upd_ne _ _ hk]
      · rw [a2, upd_eq, ea]
      · rw [ea]; exact a3
      · intro o h1 h2
        rw [a4 o h1 h2, am_so _ _ h1, am_so _ _ h2]
    · intro i hi ih
      refine g_Z_record_11 ⟨fun c => absurd c (i_nge hi (by decide)), fun c => ⟨105 + i, ix2 105 i, by show _ < 630; omega, i, rfl, by show _ < 630; omega, ?_⟩⟩
      simp only [am_set_set]
      have e := cpy_step (M 20) (M 20) 105 0 i
      have e2 : va_cpy (M 20) (M 20) 105 0 i (105 + i) = M 20 (105 + i) := cpy_out (by omega)
      rw [← e, Nat.zero_add, ← e2] at ih
      exact am_R_le (by repeat' (first | exact trivial | exact Or.inr rfl | exact Or.inl rfl | exact Or.inr (congrArg Value.int (nI_succ _)) | refine ⟨?_, ?_⟩)) ih
theorem zr_rF {M M' : am_M} {w : wS} (h : zr M w) (f : rF M M') : zr M' w := by
  obtain ⟨r1, r2, r3, r4, r5, r6, r7⟩ := h
  refine ⟨?_, ⟨?_, r2.2⟩, ?_, ?_, ?_, ⟨?_, r6.2⟩, ?_⟩
  · rw [f.1 18 (by decide) (by decide)]; exact r1
  · rw [f.2 4 (by decide) (by decide) (by decide) (by decide)]; exact r2.1
  · rw [f.1 20 (by decide) (by decide)]; exact r3
  · rw [f.1 22 (by decide) (by decide)]; exact r4
  · rw [f.1 21 (by decide) (by decide)]; exact r5
  · rw [f.2 8 (by decide) (by decide) (by decide) (by decide)]; exact r6.1
  · rw [f.1 23 (by decide) (by decide)]; exact r7
theorem zf_rF {M M' : am_M} (f : rF M M') : zf M M' := fun o ho => f.1 o (by omega) (by omega)
theorem vr_tF {M M' : am_M} {w : wS} (h : vr M w) (f : tF M M') : vr M' w := by
  obtain ⟨r1, r2, r3, r4, r5, r6, r7⟩ := h
  refine ⟨?_, ⟨?_, r2.2⟩, ?_, ?_, ?_, ⟨?_, r6.2⟩, ?_⟩
  · rw [f.1 2 (by decide) (by decide) (by decide)]; exact r1
  · rw [f.1 0 (by decide) (by decide) (by decide)]; exact r2.1
  · rw [f.1 16 (by decide) (by decide) (by decide)]; exact r3
  · rw [f.1 15 (by decide) (by decide) (by decide)]; exact r4
  · rw [f.1 14 (by decide) (by decide) (by decide)]; exact r5
  · rw [f.2]; exact r6.1
  · rw [f.1 10 (by decide) (by decide) (by decide)]; exact r7
theorem vf_tF {M M' : am_M} (f : tF M M') : vf M M' := fun o ho => f.1 o (by omega) (by omega) (by omega)
def tcw (w : wS) : Nat → Nat := fun k => zn (w_tx w k)
theorem tcw_ok {n : Nat} {w : wS} (hk : wk n w) : ∀ k, k < w_ln w → w_tx w k = nI (tcw w k) ∧ tcw w k ≤ 126 := by
  intro k h
  obtain ⟨c, c1, c2, c3⟩ := hk.2.2.2.2.2 k h
  unfold tcw
  rw [c3, zn_nI (by omega)]
  exact ⟨rfl, c2⟩
theorem tH_zr {n : Nat} {w : wS} {M : am_M} (hr : zr M w) (hk : wk n w) : tH M (tcw w) (w_ln w) := by
  obtain ⟨r1, r2, r3, r4, r5, r6, r7⟩ := hr
  refine ⟨r6.1, r6.2, fun k h => ?_⟩
  obtain ⟨a, b⟩ := tcw_ok hk k h
  exact ⟨by rw [r7 k h]; exact a, b⟩
def m_err (w : wS) : Int32 := nI (tgo (tcw w) (w_ln w)).1
theorem c_Z_firstError {n : Nat} {w : wS} {M : am_M} {K : am_Q} (hr : zr M w) (hk : wk n w) (h : ∀ M', zr M' w → zf M M' → K (.inl (some (.int (m_err w)))) M') : am_C mt_Z_firstError [.ref 17] M K := by
  have hr1 : zr (am_set M 17 (upd (M 17) 0 (nI 0))) w := zr_17 hr (by decide) (by decide)
  have hf1 : zf M (am_set M 17 (upd (M 17) 0 (nI 0))) := zf_set (zf_refl M) (by decide)
  exact am_C_of_R am_S0 om_Z_firstError rfl [.ref 17] rfl rfl (g_Z_firstError_0 (c_Z_readPlan (tH_zr hr1 hk) (fun _ M' f _ _ _ => h M' (zr_rF hr1 f) (zf_trans hf1 (zf_rF f))) (fun _ M' f _ => h M' (zr_rF hr1 f) (zf_trans hf1 (zf_rF f)))))
theorem c_V_firstError {n : Nat} {w : wS} {M : am_M} {K : am_Q} (hr : vr M w) (hk : wk n w) (h : ∀ M', vr M' w → vf M M' → K (.inl (some (.int (m_err w)))) M') : am_C mt_V_firstError [.ref 0] M K := by
  have hr' := hr
  obtain ⟨r1, r2, r3, r4, r5, r6, r7⟩ := hr'
  refine am_C_of_R am_S0 om_V_firstError rfl [.ref 0] rfl rfl (g_V_firstError_0 (c_T_readCodes r6.1 r6.2 (fun k hlt => ?_) (fun M' _ f => h M' (vr_tF hr f) (vf_tF f))))
  obtain ⟨a, b⟩ := tcw_ok hk k hlt
  exact ⟨by rw [r7 k hlt]; exact a, b⟩
/-- the valves of a text -/
def zlo (r : Nat → Nat) (z : dz) : Nat → dz
  | 0 => upd z 5 (nI 0)
  | k + 1 => zput k (nI (r (5 * k))) (nI (r (5 * k + 1))) (nI (r (5 * k + 2))) (nI (r (5 * k + 3))) (nI (r (5 * k + 4))) (zlo r z k)
theorem zlo_5 (r : Nat → Nat) (z : dz) : ∀ k, zlo r z k 5 = nI k
  | 0 => upd_eq z 5 (nI 0)
  | k + 1 => by
    show zput k _ _ _ _ _ _ 5 = _
    unfold zput
    rw [upd_eq]
theorem zlo_lo (r : Nat → Nat) (z : dz) {i : Nat} (hi : i < 57) (h5 : i ≠ 5) : ∀ k, zlo r z k i = z i
  | 0 => upd_ne z (nI 0) h5
  | k + 1 => (zput_lo (by omega) h5).trans (zlo_lo r z hi h5 k)
theorem zok_lo {r : Nat → Nat} {z : dz} (h : zok z) : ∀ k, k ≤ 8 → (∀ v, v < k → tvk r v) → zok (zlo r z k)
  | 0, _, _ => zok_of (m := 0) h (fun i _ h5 => upd_ne z _ h5) (upd_eq z 5 _) (by decide) (fun k hk => absurd hk (Nat.not_lt_zero k))
  | k + 1, hk, hv => by
    obtain ⟨v1, v2, v3, v4, v5, v6, v7⟩ := hv k (by omega)
    exact zok_put (zok_lo h k (by omega) (fun v q => hv v (by omega))) (zlo_5 r z k) (by omega) (by omega) v2 v3 v4 v5 v6 v7
noncomputable def m_load (w : wS) : mS := by
  classical
  exact if tOK (tcw w) (w_ln w) then (0, nI ((tgo (tcw w) (w_ln w)).2.1 + 1), w_clr (w_setz (w_rec w) (zlo (tgo (tcw w) (w_ln w)).2.2.2.2 (w_z w) ((tgo (tcw w) (w_ln w)).2.1 + 1)))) else (1, nI 0, w)
theorem m_load_y {w : wS} (h : tOK (tcw w) (w_ln w)) : m_load w = (0, nI ((tgo (tcw w) (w_ln w)).2.1 + 1), w_clr (w_setz (w_rec w) (zlo (tgo (tcw w) (w_ln w)).2.2.2.2 (w_z w) ((tgo (tcw w) (w_ln w)).2.1 + 1)))) := by
  unfold m_load
  rw [if_pos h]
theorem m_load_n {w : wS} (h : ¬ tOK (tcw w) (w_ln w)) : m_load w = (1, nI 0, w) := by
  unfold m_load
  rw [if_neg h]
theorem tgo_e {tx : Nat → Nat} {ln : Nat} (hl : ln ≤ 60) : (tgo tx ln).2.1 ≤ 6 := by
  obtain ⟨a, b⟩ := tgo_I tx ln
  have := b.2.1
  omega
theorem tgo_vk {tx : Nat → Nat} {ln : Nat} (h : tOK tx ln) : ∀ v, v < (tgo tx ln).2.1 + 1 → tvk (tgo tx ln).2.2.2.2 v := by
  obtain ⟨a, b⟩ := tgo_I tx ln
  obtain ⟨_, c⟩ := h
  generalize (tgo tx ln).1 = i at a b
  generalize (tgo tx ln).2 = t at b c ⊢
  obtain ⟨e, p, n, r⟩ := t
  obtain ⟨c1, m, c2, c3, c4⟩ := c
  simp only at c1 c2 c3
  subst c1
  subst c2
  exact tI_vk b ⟨c3, c4⟩
theorem k_load {n : Nat} {w : wS} (hk : wk n w) : wk (n + 1) (m_load w).2.2 := by
  by_cases c : tOK (tcw w) (w_ln w)
  · rw [m_load_y c]
    have h1 := wk_le (wk_rec hk) (Nat.le_succ n)
    have he := tgo_e (tx := tcw w) hk.2.2.2.2.1
    have h2 : wk (n + 1) (w_setz (w_rec w) (zlo (tgo (tcw w) (w_ln w)).2.2.2.2 (w_z w) ((tgo (tcw w) (w_ln w)).2.1 + 1))) := wk_setz h1 (zko_upd (zko_le hk.1 (Nat.le_succ n)) (zok_lo hk.1.1 _ (by omega) (tgo_vk c)) (zlo_lo _ _ (by decide) (by decide) _) (zlo_lo _ _ (by decide) (by decide) _) (fun v hv => zlo_lo _ _ (by omega) (by omega) _))
    obtain ⟨a1, a2, a3, a4, a5, a6⟩ := h2
    exact ⟨a1, a2, a3, a4, Nat.zero_le _, fun k hk => absurd hk (Nat.not_lt_zero k)⟩
  · rw [m_load_n c]
    exact wk_le hk (Nat.le_succ n)
theorem c_Z_load {n : Nat} {w : wS} {M : am_M} {K : am_Q} (hr : zr M w) (hk : wk n w) (h : ∀ M', zr M' (m_load w).2.2 → zf M M' → M' 17 0 = nI (m_load w).1 → K (.inl (some (.int (m_load w).2.1))) M') : am_C mt_Z_load [.ref 17] M K := by
  have he := tgo_e (tx := tcw w) hk.2.2.2.2.1
  refine am_C_of_R am_S0 om_Z_load rfl [.ref 17, .null] rfl rfl (g_Z_load_0 (c_Z_readPlan (tH_zr hr hk) (fun hOK M1 f1 x1 x2 x3 => ⟨fun _ => g_Z_load_17 ⟨fun _ => g_Z_load_30 (g_Z_load_31 ⟨fun _ => g_Z_load_43 ?_, fun c => absurd (thr_0 M1) c⟩), fun c => ?_⟩, fun c => absurd x1 c⟩) (fun hOK M1 f1 x1 => ⟨fun c => absurd (x1.symm.trans c) nI1_ne, fun _ => g_Z_load_31 ⟨fun c => absurd c (thr_pos M1 (by decide) (by decide)), fun _ => ?_⟩⟩)))
  · rw [m_load_y hOK] at h
    have hr1 : zr (am_set M1 17 (upd (M1 17) 0 (nI 0))) w := zr_17 (zr_rF hr f1) (by decide) (by decide)
    have hf1 : zf M (am_set M1 17 (upd (M1 17) 0 (nI 0))) := zf_set (zf_rF f1) (by decide)
    refine c_Z_recordF hr1 (fun M2 r2 f2 k2 o2 => ?_)
    have e25 : ∀ k, k < 5 * (tgo (tcw w) (w_ln w)).2.1 + 5 → M2 25 k = nI ((tgo (tcw w) (w_ln w)).2.2.2.2 k) := fun k hk => by rw [o2 25 (by decide) (by decide)]; exact x3 k hk
    have e13 : M2 17 13 = nI ((tgo (tcw w) (w_ln w)).2.1 + 1) := by
      rw [k2 13 (by decide)]
      show upd (M1 17) 0 (nI 0) 13 = _
      rw [upd_ne _ _ (by decide)]; exact x2
    have e0 : M2 17 0 = nI 0 := by rw [k2 0 (by decide)]; exact upd_eq (M1 17) 0 (nI 0)
    have ez : M2 18 = w_z w := r2.1
    have fz := zf_trans hf1 f2
    generalize (tgo (tcw w) (w_ln w)).2.1 = e at he h e25 e13 x2 x3
    generalize (tgo (tcw w) (w_ln w)).2.2.2.2 = r at h e25 x3
    refine ⟨5, rfl, by decide, ?_⟩
    refine am_R_le (xs := [.ref 17, .int (nI 0)]) (by repeat' (first | exact trivial | exact Or.inr rfl | exact Or.inl rfl | exact Or.inr (congrArg Value.int (nI_succ _)) | refine ⟨?_, ?_⟩)) ?_
    show am_R am_S0 mt_Z_load 1 56 [.ref 17, .int (nI 0)] [] (am_set M2 18 (upd (M2 18) 5 (nI 0))) K
    rw [ez]
    show am_R am_S0 mt_Z_load 1 56 [.ref 17, .int (nI 0)] [] (am_set M2 18 (zlo r (w_z w) 0)) K
    refine lu (P := fun k => am_R am_S0 mt_Z_load 1 56 [.ref 17, .int (nI k)] [] (am_set M2 18 (zlo r (w_z w) k)) K) (e + 1) ?_ ?_
    · refine g_Z_load_56 ⟨fun _ => g_Z_load_122 ⟨5, rfl, by decide, ?_⟩, fun c => ?_⟩
      · show K (.inl (some (.int (zlo r (w_z w) (e + 1) 5)))) (am_set (am_set M2 18 (zlo r (w_z w) (e + 1))) 17 (upd (M2 17) 8 (nI 0)))
        rw [zlo_5]
        obtain ⟨q1, q2, q3, q4, q5, q6, q7⟩ := r2
        refine h _ ⟨rfl, ⟨?_, q2.2⟩, q3, q4, q5, ⟨upd_eq (M2 17) 8 (nI 0), by show 0 ≤ 60; omega⟩, fun k hk => absurd hk (Nat.not_lt_zero k)⟩ (zf_set (zf_set fz (by decide)) (by decide)) ?_
        · show upd (M2 17) 8 (nI 0) 4 = _
          rw [upd_ne _ _ (by decide)]; exact q2.1
        · show upd (M2 17) 8 (nI 0) 0 = _
          rw [upd_ne _ _ (by decide)]; exact e0
      · have c' : ¬ M2 17 13 ≤ nI (e + 1) := c
        rw [e13] at c'
        exact absurd (i_le (Nat.le_refl _) (by omega)) c'
    · intro k hk' ih
      have ixk : ∀ j, nI 5 * nI k + nI j = nI (5 * k + j) := fun j => by rw [pk_mul, nI_add]
      refine g_Z_load_56 ⟨fun c => ?_, fun _ => ⟨5 * k, pk_mul 5 k, by show _ < 40; omega, 5 * k + 1, ixk 1, by show _ < 40; omega, 5 * k + 2, ixk 2, by show _ < 40; omega, 5 * k + 3, ixk 3, by show _ < 40; omega, 5 * k + 4, ixk 4, by show _ < 40; omega, ?_⟩⟩
      · have c' : M2 17 13 ≤ nI k := c
        rw [e13] at c'
        exact absurd c' (i_nge hk' (by omega))
      · show am_C mt_Z_putValve [.ref 17, .int (M2 25 (5 * k)), .int (M2 25 (5 * k + 1)), .int (M2 25 (5 * k + 2)), .int (M2 25 (5 * k + 3)), .int (M2 25 (5 * k + 4))] (am_set M2 18 (zlo r (w_z w) k)) _
        rw [e25 _ (by omega), e25 _ (by omega), e25 _ (by omega), e25 _ (by omega), e25 _ (by omega)]
        refine c_Z_putValve (m := k) (zlo_5 r (w_z w) k) (by omega) ?_
        simp only [am_set_set]
        exact am_R_le (by repeat' (first | exact trivial | exact Or.inr rfl | exact Or.inl rfl | exact Or.inr (congrArg Value.int (nI_succ _)) | refine ⟨?_, ?_⟩)) ih
  · have c' : ¬ M1 17 13 ≤ nI 8 := c
    rw [x2] at c'
    exact absurd (i_le (by omega) (by decide)) c'
  · rw [m_load_n hOK] at h
    exact h _ (zr_17 (zr_rF hr f1) (by decide) (by decide)) (zf_set (zf_rF f1) (by decide)) (upd_eq (M1 17) 0 (nI 1))
