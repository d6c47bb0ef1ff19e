/-! round in the class -/
noncomputable def rdL (E : Nat → Nat → Prop) : Int32 × Int32 := by
  classical exact if h : ∃ q : Nat × Nat, q.2 ≤ 60 ∧ rd1 E q.1 q.2 then (nI (h.choose.2 - h.choose.1), nI h.choose.1) else (-nI 1, -nI 1)
theorem rdL_R {E : Nat → Nat → Prop} (hE : rdE E) : rdR E (rdL E).1 (rdL E).2 := by
  unfold rdL
  split
  · rename_i h
    exact rdR_some hE h.choose_spec.1 h.choose_spec.2
  · rename_i h
    rcases rd_or E 60 with c | ⟨a, d, hd, c⟩
    · exact rdR_none c
    · exact absurd ⟨(a, d), hd, c⟩ h
noncomputable def m_rnd (k : Nat) (z : dz) : Int32 := if k % 2 = 0 then (rdL (zE z)).1 else (rdL (zE z)).2
noncomputable def m_round (p : Int32) (w : wS) : mS := if isr p 0 3 then (0, m_rnd (zn p) (w_z w), w) else (1, nI 0, w)
theorem rem2 : ∀ k, k < 4 → nI k - nI k / nI 2 * nI 2 = nI (k % 2) := by decide +kernel
theorem c_V_round {n : Nat} {p : Int32} {w : wS} {M : am_M} {K : am_Q} (hr : vr M w) (hk : wk n w) (h : ∀ M', vr M' (m_round p w).2.2 → vf M M' → K (oV 1 (m_round p w).1 (m_round p w).2.1) M') : am_C mt_V_round [.ref 0, .int p] M K := by
  unfold m_round at h
  refine am_C_of_R am_S0 om_V_round rfl [.ref 0, .int p] rfl rfl (g_V_round_0 (c_V_requireRange (fun hq => ?_) (fun hq => ?_)))
  · have hq' : isr p 0 3 := hq
    rw [if_pos hq'] at h
    obtain ⟨k, -, hk3, rfl⟩ := isr_nat hq' (by decide) (by decide)
    rw [zn_nI (by omega)] at h
    have tail : ∀ M1, rdR (zE (w_z w)) (M1 5 3) (M1 5 4) → dG M M1 → am_R am_S0 mt_V_round 1 39 [.ref 0, .int (nI k)] [] M1 K := by
      intro M1 hR hG
      obtain ⟨u1, u2⟩ := rdR_uni hR (rdL_R (zE_rd hk.1))
      have hh : K (.inl (some (.int (m_rnd k (w_z w))))) M1 := h M1 (vr_keep hr (fun o ho => hG o (by omega) (by omega) (by omega))) (fun o ho => hG o (by omega) (by omega) (by omega))
      have er := rem2 k (by omega)
      unfold m_rnd at hh
      refine g_V_round_39 ⟨nI2_ne, fun c => g_V_round_55 (g_V_round_62 ?_), fun c => g_V_round_62 ?_⟩
      · have c2 : ¬ (nI k - nI k / nI 2 * nI 2 = 0) := c
        rw [er] at c2
        have : ¬ k % 2 = 0 := fun q => c2 (by rw [q]; rfl)
        rw [if_neg this, ← u2] at hh
        exact hh
      · have c2 : nI k - nI k / nI 2 * nI 2 = 0 := Classical.not_not.mp c
        rw [er] at c2
        have : k % 2 = 0 := (nI_eq (a := k % 2) (b := 0) (by omega) (by decide)).mp c2
        rw [if_pos this, ← u1] at hh
        exact hh
    refine c_D_beginWith (z := w_z w) hr.1 (fun M1 hI hF => ⟨fun c => g_V_round_32 (c_D_findByLookingBack hk.1 hI (fun M2 r2 hI2 hR hG => tail M2 hR (dG_trans hF.1 hG))), fun c => c_D_findByRunners hk.1 hI (fun M2 r2 hI2 hR hG => tail M2 hR (dG_trans hF.1 hG))⟩)
  · have hq' : ¬ isr p 0 3 := hq
    rw [if_neg hq'] at h
    exact h M hr (vf_refl M)
