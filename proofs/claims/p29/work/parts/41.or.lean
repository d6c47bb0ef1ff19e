/-! calls: pass, undo, keep, goBack, append, clearBuffer -/
theorem thr_pos (M : am_M) {t : Nat} (h1 : 1 ≤ t) (h2 : t ≤ 3) : ¬ upd (M 17) 0 (nI t) 0 ≤ nI 0 := by
  rw [upd_eq]
  exact i_nge (by omega) (by omega)
theorem thr_0 (M : am_M) : upd (M 17) 0 (nI 0) 0 ≤ nI 0 := by rw [upd_eq]; decide +kernel
theorem pz_lt_iff {k : Nat} : pz k < 105 ↔ k < 105 := by
  refine ⟨fun h => ?_, pz_lt⟩
  by_cases c : k < 105
  · exact c
  · rw [pz_hi (by omega)] at h
    exact h
theorem cpy_zcp {f x z : dz} {a : Nat} (h : ∀ k, k < 105 → f (a + k) = x k) : va_cpy f z a 0 105 = zcp x z := by
  funext k
  unfold zcp
  by_cases c : k < 105
  · rw [cpy_in (by omega), if_pos c, Nat.sub_zero, h k c]
  · rw [cpy_out (by omega), if_neg c]
theorem cpy_zp {f x z : dz} {a : Nat} (h : ∀ k, k < 105 → f (a + k) = x (pz k)) : va_cpy f (zp z) a 0 105 = zp (zcp x z) := by
  funext k
  show _ = zcp x z (pz k)
  unfold zcp
  by_cases c : k < 105
  · rw [cpy_in (by omega), if_pos (pz_lt c), Nat.sub_zero, h k c]
  · rw [cpy_out (by omega), if_neg (fun q => c (pz_lt_iff.mp q))]
    rfl
noncomputable def m_pass (p : Int32) (w : wS) : mS :=
  if isr p 1 240 then (if nI 99999 < w_z w 0 + p then (2, nI 0, w) else (0, zhours (w_z w) (zn p) 2 - w_z w 2, w_setz (w_rec w) (zhours (w_z w) (zn p)))) else (1, nI 0, w)
theorem c_V_pass {n : Nat} {p : Int32} {w : wS} {M : am_M} {K : am_Q} (hr : vr M w) (hk : wk n w) (h : ∀ M', vr M' (m_pass p w).2.2 → vf M M' → K (oV 1 (m_pass p w).1 (m_pass p w).2.1) M') : am_C mt_V_pass [.ref 0, .int p] M K := by
  unfold m_pass at h
  have e0 : M 2 52 = w_z w 0 := by rw [hr.1]; rfl
  refine am_C_of_R am_S0 om_V_pass rfl [.ref 0, .int p, .null] rfl rfl (g_V_pass_0 (c_V_requireRange (fun hq => ?_) (fun hq => ?_)))
  · have hq' : isr p 1 240 := hq
    rw [if_pos hq'] at h
    refine ⟨52, rfl, by decide, fun c => ?_, fun c => ?_⟩
    · have hq2 : ¬ nI 99999 < w_z w 0 + p := by rw [← e0]; exact Int32.not_lt.mpr c
      obtain ⟨v, hv1, hv2, rfl⟩ := isr_nat hq' (by decide) (by decide)
      rw [if_neg hq2, zn_nI (by omega)] at h
      refine g_V_pass_35 (c_V_saveState hr (fun M' r1 r2 r3 _ => ?_))
      have ez : M' 2 = zp (w_z w) := r1.1
      have e2 : M' 2 54 = w_z w 2 := by rw [ez]; rfl
      refine ⟨54, rfl, by decide, c_S_runHours_1 ez hk.1.1 (by omega) ⟨54, rfl, by decide, ?_⟩⟩
      rw [← e2] at h
      exact h _ (vr_setz r1) (vf_set r2 (by decide))
    · have hq2 : nI 99999 < w_z w 0 + p := by rw [← e0]; exact Int32.not_le.mp c
      rw [if_pos hq2] at h
      exact h M hr (vf_refl M)
  · have hq' : ¬ isr p 1 240 := hq
    rw [if_neg hq'] at h
    exact h M hr (vf_refl M)
def m_undo (w : wS) : mS := if w_s w = 0 then (1, nI 0, w) else (0, nI (w_s w - 1), (zcp (w_sv w (w_s w - 1)) (w_z w), w_s w - 1, w.2.2))
theorem c_V_undo {w : wS} {M : am_M} {K : am_Q} (hr : vr M w) (h : ∀ M', vr M' (m_undo w).2.2 → vf M M' → K (oV 2 (m_undo w).1 (m_undo w).2.1) M') : am_C mt_V_undo [.ref 0] M K := by
  obtain ⟨r1, ⟨r2, r2'⟩, r3, r4, r5, r6, r7⟩ := hr
  unfold m_undo at h
  have bad : ¬ (w_s w ≠ 0) → am_R am_S0 mt_V_undo 1 16 [.ref 0] [] M K := by
    intro hs
    rw [if_pos (Classical.not_not.mp hs)] at h
    exact g_V_undo_16 (h M ⟨r1, ⟨r2, r2'⟩, r3, r4, r5, r6, r7⟩ (vf_refl M))
  refine am_C_of_R am_S0 om_V_undo rfl [.ref 0] rfl rfl (g_V_undo_0 ⟨fun c => bad ?_, fun c => ⟨fun c2 => ?_, fun c2 => ?_⟩⟩)
  · have c' : M 0 8 ≤ nI 0 := c
    intro hs
    rw [r2] at c'
    exact absurd c' (i_nge (by omega) (by omega))
  · have c' : ¬ M 0 8 ≤ nI 0 := c
    have hs : w_s w ≠ 0 := fun q => c' (by rw [r2, q]; decide +kernel)
    rw [if_neg hs] at h
    obtain ⟨s, hs1, hs2⟩ : ∃ s, w_s w = s + 1 ∧ s < 6 := ⟨w_s w - 1, by omega, by omega⟩
    rw [hs1, Nat.add_sub_cancel] at h
    have e8 : M 0 8 - nI 1 = nI s := by rw [r2, hs1, nI_sub1 (by omega), Nat.add_sub_cancel]
    refine g_V_undo_26 ⟨s * 105, 0, 105, ?_, rfl, rfl, by show _ ≤ 630; omega, by decide, ?_⟩
    · show upd (M 0) 8 (M 0 8 - nI 1) 8 * nI 105 = _
      rw [upd_eq, e8, pk_mul]
    · have e9 : upd (M 0) 8 (M 0 8 - nI 1) 8 = nI s := by rw [upd_eq, e8]
      rw [← e9] at h
      refine h _ ⟨?_, ⟨e9, ?_⟩, ?_, r4, r5, r6, r7⟩ ?_
      · show va_cpy (M 16) (M 2) (s * 105) 0 105 = zp (zcp _ _)
        rw [r1, cpy_zp (x := w_sv w s) (fun k hk => by rw [Nat.mul_comm]; exact r3 s (by omega) k hk)]
      · show s ≤ 6
        omega
      · intro j hj k hk
        have hj' : j < s := hj
        exact r3 j (by omega) k hk
      · intro o ho
        rw [am_so _ _ (show o ≠ 2 by omega), am_so _ _ (show o ≠ 0 by omega)]
  · have c' : ¬ M 0 8 ≤ nI 6 := c2
    rw [r2] at c'
    exact absurd (i_le r2' (by decide)) c'
def m_keep (p : Int32) (w : wS) : mS :=
  if isr p 0 1 then (0, zhod (w_z w), (w_z w, w_s w, w_sv w, (fun j => if j = zn p then w_z w else w_sl w j), (fun j => if j = zn p then true else w_kp w j), w_tx w, w_ln w)) else (1, nI 0, w)
theorem c_V_keep {p : Int32} {w : wS} {M : am_M} {K : am_Q} (hr : vr M w) (h : ∀ M', vr M' (m_keep p w).2.2 → vf M M' → K (oV 1 (m_keep p w).1 (m_keep p w).2.1) M') : am_C mt_V_keep [.ref 0, .int p] M K := by
  unfold m_keep at h
  refine am_C_of_R am_S0 om_V_keep rfl [.ref 0, .int p] rfl rfl (g_V_keep_0 (c_V_requireRange (fun hq => ?_) (fun hq => ?_)))
  · have hq' : isr p 0 1 := hq
    rw [if_pos hq'] at h
    obtain ⟨s, -, hs, rfl⟩ := isr_nat hq' (by decide) (by decide)
    rw [zn_nI (by omega)] at h
    obtain ⟨r1, r2, r3, r4, r5, r6, r7⟩ := hr
    refine ⟨0, s * 105, 105, rfl, pk_mul s 105, rfl, by decide, by show _ ≤ 210; omega, Or.inr rfl, s, rfl, by show _ < 2; omega, c_S_hourOfDay_1 (z := w_z w) r1 ?_⟩
    refine h _ ⟨r1, r2, r3, ?_, ?_, r6, r7⟩ (vf_set (vf_set (vf_refl M) (by decide)) (by decide))
    · intro j hj
      show upd (M 15) s (nI 1) j = ib ((if j = s then true else w_kp w j) = true)
      by_cases c3 : j = s
      · rw [upd_eq' _ _ c3, ib_t (by rw [if_pos c3])]
      · rw [upd_ne _ _ c3, r4 j hj]
        exact ib_cond (by rw [if_neg c3])
    · intro j hj hkp k hk
      have hkp' : (if j = s then true else w_kp w j) = true := hkp
      show va_cpy (M 2) (M 14) 0 (s * 105) 105 (105 * j + k) = (if j = s then w_z w else w_sl w j) (pz k)
      by_cases c3 : j = s
      · rw [if_pos c3, cpy_in (by rw [c3]; omega), r1]
        show w_z w (pz _) = _
        congr 2
        rw [c3]
        omega
      · rw [if_neg c3] at hkp' ⊢
        rw [cpy_out (by omega)]
        exact r5 j hj hkp' k hk
  · have hq' : ¬ isr p 0 1 := hq
    rw [if_neg hq'] at h
    exact h M hr (vf_refl M)
def m_back (p : Int32) (w : wS) : mS :=
  if isr p 0 1 then (if w_kp w (zn p) = true then (0, zhod (zcp (w_sl w (zn p)) (w_z w)), w_setz (w_rec w) (zcp (w_sl w (zn p)) (w_z w))) else (2, nI 0, w)) else (1, nI 0, w)
theorem c_V_goBack {p : Int32} {w : wS} {M : am_M} {K : am_Q} (hr : vr M w) (h : ∀ M', vr M' (m_back p w).2.2 → vf M M' → K (oV 1 (m_back p w).1 (m_back p w).2.1) M') : am_C mt_V_goBack [.ref 0, .int p] M K := by
  unfold m_back at h
  refine am_C_of_R am_S0 om_V_goBack rfl [.ref 0, .int p] rfl rfl (g_V_goBack_0 (c_V_requireRange (fun hq => ?_) (fun hq => ?_)))
  · have hq' : isr p 0 1 := hq
    rw [if_pos hq'] at h
    obtain ⟨s, -, hs, rfl⟩ := isr_nat hq' (by decide) (by decide)
    rw [zn_nI (by omega)] at h
    have e22 : M 15 s = ib (w_kp w s = true) := hr.2.2.2.1 s (by omega)
    refine ⟨s, rfl, by show _ < 2; omega, fun c2 => ?_, fun c2 => ?_⟩
    · have hk : w_kp w s = true := by
        have c3 : ¬ M 15 s = 0 := c2
        rw [e22] at c3
        exact ib_y c3
      rw [if_pos hk] at h
      refine g_V_goBack_25 (c_V_saveState hr (fun M' r1 r2 r3 _ => ?_))
      have f4 : ∀ k, k < 105 → M' 14 (s * 105 + k) = w_sl w s (pz k) := fun k hk' => by rw [Nat.mul_comm]; exact r1.2.2.2.2.1 s (by omega) hk k hk'
      have f3 : M' 2 = zp (w_z w) := r1.1
      refine ⟨s * 105, 0, 105, pk_mul s 105, rfl, rfl, by show _ ≤ 210; omega, by decide, ?_⟩
      rw [f3, cpy_zp f4]
      exact c_S_hourOfDay_1 (z := zcp (w_sl w s) (w_z w)) (am_set_eq ..) (h _ (vr_setz r1) (vf_set r2 (by decide)))
    · have hk : ¬ w_kp w s = true := by
        have c3 : ¬ ¬ M 15 s = 0 := c2
        rw [e22] at c3
        exact ib_nn c3
      rw [if_neg hk] at h
      exact h M hr (vf_refl M)
  · have hq' : ¬ isr p 0 1 := hq
    rw [if_neg hq'] at h
    exact h M hr (vf_refl M)
