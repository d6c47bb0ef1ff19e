/-! calls: valve, stir -/
def zput (m : Nat) (f t r a b : Int32) (z : dz) : dz := upd (upd (upd (upd (upd (upd (upd z (57 + 6 * m) f) (57 + 6 * m + 1) t) (57 + 6 * m + 2) r) (57 + 6 * m + 3) a) (57 + 6 * m + 4) b) (57 + 6 * m + 5) (nI 0)) 5 (nI (m + 1))
theorem c_Z_putValve {m : Nat} {f t r a b : Int32} {M : am_M} {K : am_Q} (hm : M 18 5 = nI m) (hm8 : m < 8) (h : K (.inl none) (am_set M 18 (zput m f t r a b (M 18)))) : am_C mt_Z_putValve [.ref 17, .int f, .int t, .int r, .int a, .int b] M K := by
  have ev : nI 57 + nI 6 * M 18 5 = nI (57 + 6 * m) := by rw [hm, ix3]
  refine am_C_of_R am_S0 om_Z_putValve rfl [.ref 17, .int f, .int t, .int r, .int a, .int b, .null] rfl rfl (g_Z_putValve_0 ⟨5, rfl, by decide, ?_⟩)
  have j : ∀ k, (nI 57 + nI 6 * M 18 5) + nI k = nI (57 + 6 * m + k) := fun k => by rw [ev, ix2]
  refine ⟨57 + 6 * m + 0, j 0, by show _ < 105; omega, 57 + 6 * m + 1, j 1, by show _ < 105; omega, 57 + 6 * m + 2, j 2, by show _ < 105; omega, 57 + 6 * m + 3, j 3, by show _ < 105; omega, 57 + 6 * m + 4, j 4, by show _ < 105; omega, 57 + 6 * m + 5, j 5, by show _ < 105; omega, 5, rfl, by decide, 5, rfl, by decide, ?_⟩
  simp only [am_set_set]
  have e5 : upd (upd (upd (upd (upd (upd (M 18) (57 + 6 * m) f) (57 + 6 * m + 1) t) (57 + 6 * m + 2) r) (57 + 6 * m + 3) a) (57 + 6 * m + 4) b) (57 + 6 * m + 5) (nI 0) 5 + nI 1 = nI (m + 1) := by
    rw [upd_ne _ _ (by omega), upd_ne _ _ (by omega), upd_ne _ _ (by omega), upd_ne _ _ (by omega), upd_ne _ _ (by omega), upd_ne _ _ (by omega), hm, nI_add]
  unfold zput at h
  rw [← e5] at h
  exact h
def m_valve (f t r a b : Int32) (w : wS) : mS :=
  if isv f ∧ isr t 0 5 then (if f ≠ t ∧ isr r 1 500 ∧ isr a 0 23 ∧ (a ≤ b ∧ b ≤ nI 23) then (if w_z w 5 = nI 8 then (3, nI 0, w) else (0, w_z w 5, w_setz (w_rec w) (zput (zn (w_z w 5)) f t r a b (w_z w)))) else (2, nI 0, w)) else (1, nI 0, w)
theorem c_Z_valve {n : Nat} {f t r a b : Int32} {w : wS} {M : am_M} {K : am_Q} (hr : zr M w) (hk : wk n w) (h : ∀ M', zr M' (m_valve f t r a b w).2.2 → zf M M' → M' 17 0 = nI (m_valve f t r a b w).1 → K (.inl (some (.int (m_valve f t r a b w).2.1))) M') : am_C mt_Z_valve [.ref 17, .int f, .int t, .int r, .int a, .int b] M K := by
  obtain ⟨m, hm8, hm, -⟩ := hk.1.1.2.2.2.2.2
  have em : M 18 5 = nI m := by rw [hr.1]; exact hm
  have bad : ∀ x t', 1 ≤ t' → t' ≤ 3 → m_valve f t r a b w = (t', nI 0, w) → am_R am_S0 mt_Z_valve 1 92 [.ref 17, .int f, .int t, .int r, .int a, .int b, .int x] [.int (nI t'), .ref 17] M K := by
    intro x t' ht1 ht e
    rw [e] at h
    exact g_Z_valve_92 ⟨fun c => absurd c (thr_pos M ht1 ht), fun c => h _ (zr_17 hr (by decide) (by decide)) (zf_set (zf_refl M) (by decide)) (upd_eq (M 17) 0 (nI t'))⟩
  have mid : am_R am_S0 mt_Z_valve 1 44 [.ref 17, .int f, .int t, .int r, .int a, .int b, .null] [.int (ib (f ≠ t ∧ isr r 1 500 ∧ isr a 0 23 ∧ (a ≤ b ∧ b ≤ nI 23)))] M K := by
    refine g_Z_valve_44 (c_Z_isVat ⟨fun c => ?_, fun c => c_Z_in ⟨fun c2 => ?_, fun c2 => ?_⟩⟩)
    · exact g_Z_valve_63 (bad _ 1 (by decide) (by decide) (by unfold m_valve; rw [if_neg (fun q => ib_n c q.1)]))
    · have hv : isv f := ib_y c
      have ht : isr t 0 5 := ib_y c2
      refine g_Z_valve_67 ⟨fun c3 => ?_, fun c3 => ?_⟩
      · have hq : f ≠ t ∧ isr r 1 500 ∧ isr a 0 23 ∧ (a ≤ b ∧ b ≤ nI 23) := ib_y c3
        refine g_Z_valve_76 ⟨5, rfl, by decide, fun c4 => ?_, fun c4 => ?_⟩
        · have h8 : ¬ w_z w 5 = nI 8 := by
            have c5 : ¬ M 18 5 = nI 8 := c4
            rw [hr.1] at c5; exact c5
          unfold m_valve at h
          rw [if_pos ⟨hv, ht⟩, if_pos hq, if_neg h8, hm, zn_nI (by omega)] at h
          have hm7 : m < 8 := by
            have : m ≠ 8 := fun q => h8 (by rw [hm, q])
            omega
          refine g_Z_valve_91 (g_Z_valve_92 ⟨fun c5 => g_Z_valve_104 ?_, fun c5 => absurd (thr_0 M) c5⟩)
          refine c_Z_record (zr_17 hr (by decide) (by decide)) (fun M' r1 r2 r3 => ?_)
          have f1 : zf M M' := zf_trans (zf_set (zf_refl M) (by decide)) r2
          have f2 : M' 17 0 = nI 0 := by rw [r3 0 (by decide)]; exact upd_eq (M 17) 0 (nI 0)
          have f3 : M' 18 = w_z w := r1.1
          rw [← f3] at h
          refine c_Z_putValve (m := m) (by rw [f3]; exact hm) hm7 ⟨5, rfl, by decide, ?_⟩
          have e : zput m f t r a b (M' 18) 5 - nI 1 = nI m := by
            unfold zput
            rw [upd_eq, nI_sub1 (by omega), Nat.add_sub_cancel]
          rw [← e] at h
          exact h _ (zr_setz r1) (zf_set f1 (by decide)) f2
        · have h8 : w_z w 5 = nI 8 := by
            have c5 : M 18 5 = nI 8 := Classical.not_not.mp c4
            rw [hr.1] at c5; exact c5
          exact bad _ 3 (by decide) (by decide) (by unfold m_valve; rw [if_pos ⟨hv, ht⟩, if_pos hq, if_pos h8])
      · have hq : ¬ (f ≠ t ∧ isr r 1 500 ∧ isr a 0 23 ∧ (a ≤ b ∧ b ≤ nI 23)) := ib_nn c3
        exact bad _ 2 (by decide) (by decide) (by unfold m_valve; rw [if_pos ⟨hv, ht⟩, if_neg hq])
    · exact g_Z_valve_63 (bad _ 1 (by decide) (by decide) (by unfold m_valve; rw [if_neg (fun q => (show ¬ isr t 0 5 from ib_nn c2) q.2)]))
  have no : ¬ (f ≠ t ∧ isr r 1 500 ∧ isr a 0 23 ∧ (a ≤ b ∧ b ≤ nI 23)) → am_R am_S0 mt_Z_valve 1 43 [.ref 17, .int f, .int t, .int r, .int a, .int b, .null] [] M K := by
    intro hq
    rw [ib_f hq] at mid
    exact g_Z_valve_43 mid
  refine am_C_of_R am_S0 om_Z_valve rfl [.ref 17, .int f, .int t, .int r, .int a, .int b, .null] rfl rfl (g_Z_valve_0 ⟨fun c => no fun q => q.1 c, fun c => c_Z_in ⟨fun c2 => no fun q => ib_n c2 q.2.1, fun c2 => c_Z_in ⟨fun c3 => no fun q => ib_n c3 q.2.2.1, fun c3 => c_Z_in ⟨fun c4 => no fun q => ib_n c4 q.2.2.2, fun c4 => ?_⟩⟩⟩⟩)
  have hq : f ≠ t ∧ isr r 1 500 ∧ isr a 0 23 ∧ (a ≤ b ∧ b ≤ nI 23) := ⟨c, ib_y c2, ib_y c3, ib_y c4⟩
  rw [ib_t hq] at mid
  exact mid
theorem c_V_valve {n : Nat} {f t r a b : Int32} {w : wS} {M : am_M} {K : am_Q} (hr : vr M w) (hk : wk n w) (h : ∀ M', vr M' (m_valve f t r a b w).2.2 → vf M M' → K (oV 0 (m_valve f t r a b w).1 (m_valve f t r a b w).2.1) M') : am_C mt_V_valve [.ref 0, .int f, .int t, .int r, .int a, .int b] M K := by
  obtain ⟨m, hm8, hm, -⟩ := hk.1.1.2.2.2.2.2
  have em : M 2 56 = nI m := by rw [hr.1]; exact hm
  unfold m_valve at h
  have bad1 : ¬ (isv f ∧ isr t 0 5) → K (.inr (am_ex 0)) M := by
    intro hq
    rw [if_neg hq] at h
    exact h M hr (vf_refl M)
  have bad2 : isv f → isr t 0 5 → ¬ (f ≠ t ∧ isr r 1 500 ∧ isr a 0 23 ∧ (a ≤ b ∧ b ≤ nI 23)) → K (.inr (am_ex 1)) M := by
    intro hv ht hq
    rw [if_pos ⟨hv, ht⟩, if_neg hq] at h
    exact h M hr (vf_refl M)
  have mid : isv f → isr t 0 5 → am_R am_S0 mt_V_valve 1 13 [.ref 0, .int f, .int t, .int r, .int a, .int b, .null, .null] [] M K := by
    intro hv ht
    refine g_V_valve_13 ⟨fun c => g_V_valve_28 (c_V_requireRange (fun hr1 => c_V_requireRange (fun hr2 => c_V_requireRange (fun hr3 => ?_) (fun q => bad2 hv ht fun z => q z.2.2.2)) (fun q => bad2 hv ht fun z => q z.2.2.1)) (fun q => bad2 hv ht fun z => q z.2.1)), fun c => bad2 hv ht fun z => c z.1⟩
    rw [if_pos ⟨hv, ht⟩, if_pos ⟨c, hr1, hr2, hr3⟩, hm] at h
    have bad3 : ¬ m < 8 → am_R am_S0 mt_V_valve 1 77 [.ref 0, .int f, .int t, .int r, .int a, .int b, .int (M 2 56), .null] [] M K := by
      intro h8
      rw [if_pos (show nI m = nI 8 by rw [show m = 8 by omega])] at h
      exact g_V_valve_77 (h M hr (vf_refl M))
    refine ⟨56, rfl, by decide, fun c2 => absurd ?_ (nI_pos (show m < 2 ^ 31 by omega)), fun c2 => ⟨fun c3 => g_V_valve_87 ?_, fun c3 => bad3 ?_⟩⟩
    · have c4 : M 2 56 < 0 := c2
      rw [em] at c4
      exact c4
    · have c4 : M 2 56 < nI 8 := c3
      rw [em] at c4
      have hm7 : m < 8 := (nI_lti (by omega) (by decide)).mp c4
      have h8 : ¬ nI m = nI 8 := fun q => by
        have := (nI_eq (a := m) (b := 8) (by omega) (by decide)).mp q
        omega
      rw [if_neg h8, zn_nI (by omega)] at h
      refine c_V_saveState hr (fun M' r1 r2 r3 _ => ?_)
      have ez : M' 2 = zp (w_z w) := r1.1
      have ev : nI 57 + M 2 56 * nI 6 = nI (57 + 6 * m) := by rw [em, ix3', Nat.mul_comm]
      have j : ∀ k, (nI 57 + M 2 56 * nI 6) + nI k = nI (57 + 6 * m + k) := fun k => by rw [ev, ix2]
      refine ⟨57 + 6 * m + 0, j 0, by show _ < 105; omega, 57 + 6 * m + 1, j 1, by show _ < 105; omega, 57 + 6 * m + 2, j 2, by show _ < 105; omega, 57 + 6 * m + 3, j 3, by show _ < 105; omega, 57 + 6 * m + 4, j 4, by show _ < 105; omega, 57 + 6 * m + 5, j 5, by show _ < 105; omega, 56, rfl, by decide, ?_⟩
      simp only [am_set_set]
      have e : upd (upd (upd (upd (upd (upd (upd (M' 2) (57 + 6 * m + 0) f) (57 + 6 * m + 1) t) (57 + 6 * m + 2) r) (57 + 6 * m + 3) a) (57 + 6 * m + 4) b) (57 + 6 * m + 5) (nI 0)) 56 (M 2 56 + nI 1) = zp (zput m f t r a b (w_z w)) := by
        rw [ez, em, nI_add, zp_upd, zp_upd, zp_upd, zp_upd, zp_upd, zp_upd, zp_upd, pz_hi (by omega), pz_hi (by omega), pz_hi (by omega), pz_hi (by omega), pz_hi (by omega), pz_hi (by omega)]
        rfl
      have hh := h (am_set M' 2 (zp (zput m f t r a b (w_z w)))) (vr_setz r1) (vf_set r2 (by decide))
      rw [← e, ← em] at hh
      exact hh
    · have c4 : ¬ M 2 56 < nI 8 := c3
      rw [em] at c4
      exact fun q => c4 ((nI_lti (by omega) (by decide)).mpr q)
  refine am_C_of_R am_S0 om_V_valve rfl [.ref 0, .int f, .int t, .int r, .int a, .int b, .null, .null] rfl rfl (g_V_valve_0 (c_V_requireVat (fun hv => ⟨fun c => mid hv ?_, fun c => c_V_requireVat (fun ht => mid hv ?_) (fun ht => bad1 fun q => ?_)⟩) (fun hv => bad1 fun q => hv q.1)))
  · have c' : t = nI 5 := c
    rw [c']
    exact ⟨by decide +kernel, by decide +kernel⟩
  · exact ⟨ht.1, Int32.le_trans ht.2 (by decide +kernel)⟩
  · have c' : ¬ t = nI 5 := c
    obtain ⟨u, -, hu, rfl⟩ := isr_nat q.2 (by decide) (by decide)
    have : u ≠ 5 := fun z => c' (by rw [z])
    exact ht ⟨i_le (by omega) (by omega), i_le (by omega) (by omega)⟩
