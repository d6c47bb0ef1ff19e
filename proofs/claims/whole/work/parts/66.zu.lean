/-! round in the reference -/
theorem c_Z_findRoundR {n : Nat} {w : wS} {M : am_M} {K : am_Q} (hr : zr M w) (hk : wk n w) (h : ∀ M', zr M' w → zf M M' → M' 17 0 = M 17 0 → M' 17 10 = (rdL (zE (w_z w))).1 → M' 17 11 = (rdL (zE (w_z w))).2 → K (.inl none) M') : am_C mt_Z_findRound [.ref 17] M K := by
  refine c_Z_findRound hr.1 hk.1 (fun M' hR ho hk' => ?_)
  obtain ⟨u1, u2⟩ := rdR_uni hR (rdL_R (zE_rd hk.1))
  obtain ⟨r1, r2, r3, r4, r5, r6, r7⟩ := hr
  refine h M' ⟨?_, ⟨?_, r2.2⟩, ?_, ?_, ?_, ⟨?_, r6.2⟩, ?_⟩ (fun o q => ho o (by omega) (by omega) (by omega)) (hk' 0 (by decide) (by decide)) u1 u2
  · rw [ho 18 (by decide) (by decide) (by decide)]; exact r1
  · rw [hk' 4 (by decide) (by decide)]; exact r2.1
  · rw [ho 20 (by decide) (by decide) (by decide)]; exact r3
  · rw [ho 22 (by decide) (by decide) (by decide)]; exact r4
  · rw [ho 21 (by decide) (by decide) (by decide)]; exact r5
  · rw [hk' 8 (by decide) (by decide)]; exact r6.1
  · rw [ho 23 (by decide) (by decide) (by decide)]; exact r7
theorem c_Z_round {n : Nat} {p : Int32} {w : wS} {M : am_M} {K : am_Q} (hr : zr M w) (hk : wk n w) (h : ∀ M', zr M' (m_round p w).2.2 → zf M M' → M' 17 0 = nI (m_round p w).1 → K (.inl (some (.int (m_round p w).2.1))) M') : am_C mt_Z_round [.ref 17, .int p] M K := by
  unfold m_round at h
  refine am_C_of_R am_S0 om_Z_round rfl [.ref 17, .int p] rfl rfl (g_Z_round_0 (c_Z_in ⟨fun c => ?_, fun c => ?_⟩))
  · rw [if_neg (show ¬ isr p 0 3 from ib_n c)] at h
    exact g_Z_round_14 (g_Z_round_15 ⟨fun c => absurd c (thr_pos M (by decide) (by decide)), fun c => h _ (zr_17 hr (by decide) (by decide)) (zf_set (zf_refl M) (by decide)) (upd_eq (M 17) 0 (nI 1))⟩)
  · have hq : isr p 0 3 := ib_y c
    rw [if_pos hq] at h
    obtain ⟨k, -, hk3, rfl⟩ := isr_nat hq (by decide) (by decide)
    rw [zn_nI (by omega)] at h
    refine g_Z_round_15 ⟨fun c3 => g_Z_round_27 (c_Z_findRoundR (zr_17 hr (by decide) (by decide)) hk (fun M' a1 a2 a3 a4 a5 => ⟨nI2_ne, fun c4 => g_Z_round_44 (g_Z_round_48 ?_), fun c4 => g_Z_round_48 ?_⟩)), fun c3 => absurd (thr_0 M) c3⟩
    all_goals
      have hh : K (.inl (some (.int (m_rnd k (w_z w))))) M' := h M' a1 (zf_trans (zf_set (zf_refl M) (by decide)) a2) (a3.trans (upd_eq (M 17) 0 (nI 0)))
      have er := rem2 k (by omega)
      unfold m_rnd at hh
    · have c2 : ¬ (nI k - nI k / nI 2 * nI 2 = 0) := c4
      rw [er] at c2
      have : ¬ k % 2 = 0 := fun q => c2 (by rw [q]; rfl)
      rw [if_neg this, ← a5] at hh
      exact hh
    · have c2 : nI k - nI k / nI 2 * nI 2 = 0 := Classical.not_not.mp c4
      rw [er] at c2
      have : k % 2 = 0 := (nI_eq (a := k % 2) (b := 0) (by omega) (by decide)).mp c2
      rw [if_pos this, ← a4] at hh
      exact hh
