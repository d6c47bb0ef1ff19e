/-! calls: close, valve -/
def zdrop (v m : Nat) (z : dz) : dz := va_cpy (upd z 5 (nI (m - 1))) (upd z 5 (nI (m - 1))) (57 + 6 * v + 6) (57 + 6 * v) (6 * (m - 1 - v))
theorem c_S_removeValve_1 {v m : Nat} {z : dz} {M : am_M} {K : am_Q} (hM : M 2 = zp z) (hm : z 5 = nI m) (hm8 : m ≤ 8) (hv : v < m) (h : K (.inl none) (am_set M 2 (zp (zdrop v m z)))) : am_C mt_S_removeValve [.ref 1, .int (nI v)] M K := by
  have e5 : M 2 56 = nI m := by rw [hM]; exact hm
  have e5' : M 2 56 - nI 1 = nI (m - 1) := by rw [e5, nI_sub1 (by omega)]
  have key : am_R am_S0 mt_S_removeValve 1 26 [.ref 1, .int (nI v), .int (nI (m - 1)), .null] [] M K := by
    refine g_S_removeValve_26 ⟨57 + 6 * v + 6, 57 + 6 * v, 6 * (m - 1 - v), ?_, ?_, ?_, by show _ ≤ 105; omega, by show _ ≤ 105; omega, 56, rfl, by decide, ?_⟩
    · show nI 57 + nI v * nI 6 + nI 6 = _
      rw [ix4', Nat.mul_comm]
    · show nI 57 + nI v * nI 6 = _
      rw [ix3', Nat.mul_comm]
    · show (nI (m - 1) - nI v) * nI 6 = _
      have e : nI (m - 1) = nI (m - 1 - v) + nI v := by rw [nI_add]; congr 1; omega
      rw [e, Int32.add_sub_cancel, pk_mul, Nat.mul_comm]
    · simp only [am_set_set]
      have e : upd (va_cpy (M 2) (M 2) (57 + 6 * v + 6) (57 + 6 * v) (6 * (m - 1 - v))) 56 (nI (m - 1)) = zp (zdrop v m z) := by
        funext k
        show _ = zdrop v m z (pz k)
        unfold zdrop
        by_cases c1 : 57 + 6 * v ≤ k ∧ k < 57 + 6 * v + 6 * (m - 1 - v)
        · rw [upd_ne _ _ (by omega), cpy_in c1, pz_hi (by omega), cpy_in c1, upd_ne _ _ (by omega), hM]
          show z (pz _) = _
          rw [pz_hi (by omega)]
        · by_cases c2 : k = 56
          · subst c2
            rw [upd_eq, cpy_out (by show ¬ (_ ≤ 5 ∧ _); omega)]
            exact (upd_eq z 5 _).symm
          · rw [upd_ne _ _ c2, cpy_out c1]
            have c3 : ¬ (57 + 6 * v ≤ pz k ∧ pz k < 57 + 6 * v + 6 * (m - 1 - v)) := by
              by_cases c4 : k < 57
              · have := pz_lt57 k c4
                omega
              · rw [pz_hi (by omega)]; exact c1
            have c5 : pz k ≠ 5 := fun q => c2 (pz_inj (q.trans (show 5 = pz 56 from rfl)))
            rw [cpy_out c3, upd_ne _ _ c5, hM]
            rfl
      rw [← e] at h
      exact h
  have key2 : am_R am_S0 mt_S_removeValve 1 26 [.ref 1, .int (nI v), .int (M 2 56 - nI 1), .null] [] M K := by rw [e5']; exact key
  refine am_C_of_R am_S0 om_S_removeValve rfl [.ref 1, .int (nI v), .null, .null] rfl rfl (g_S_removeValve_0 ⟨56, rfl, by decide, fun c => absurd c (nI_pos (by omega)), fun c => ⟨fun c2 => absurd c2 ?_, fun c2 => ⟨fun c3 => key2, fun c3 => absurd ?_ c3⟩⟩⟩)
  · show ¬ M 2 56 - nI 1 < nI v
    rw [e5']
    exact nI_nlt (by omega) (by omega)
  · show M 2 56 - nI 1 < nI 8
    rw [e5']
    exact (nI_lti (by omega) (by decide)).mpr (by omega)
theorem c_S_removeValve_3 {v m : Nat} {z : dz} {M : am_M} {K : am_Q} (hM : M 4 = zp z) (hm : z 5 = nI m) (hm8 : m ≤ 8) (hv : v < m) (h : K (.inl none) (am_set M 4 (zp (zdrop v m z)))) : am_C mt_S_removeValve [.ref 3, .int (nI v)] M K := by
  have e5 : M 4 56 = nI m := by rw [hM]; exact hm
  have e5' : M 4 56 - nI 1 = nI (m - 1) := by rw [e5, nI_sub1 (by omega)]
  have key : am_R am_S0 mt_S_removeValve 1 26 [.ref 3, .int (nI v), .int (nI (m - 1)), .null] [] M K := by
    refine g_S_removeValve_26 ⟨57 + 6 * v + 6, 57 + 6 * v, 6 * (m - 1 - v), ?_, ?_, ?_, by show _ ≤ 105; omega, by show _ ≤ 105; omega, 56, rfl, by decide, ?_⟩
    · show nI 57 + nI v * nI 6 + nI 6 = _
      rw [ix4', Nat.mul_comm]
    · show nI 57 + nI v * nI 6 = _
      rw [ix3', Nat.mul_comm]
    · show (nI (m - 1) - nI v) * nI 6 = _
      have e : nI (m - 1) = nI (m - 1 - v) + nI v := by rw [nI_add]; congr 1; omega
      rw [e, Int32.add_sub_cancel, pk_mul, Nat.mul_comm]
    · simp only [am_set_set]
      have e : upd (va_cpy (M 4) (M 4) (57 + 6 * v + 6) (57 + 6 * v) (6 * (m - 1 - v))) 56 (nI (m - 1)) = zp (zdrop v m z) := by
        funext k
        show _ = zdrop v m z (pz k)
        unfold zdrop
        by_cases c1 : 57 + 6 * v ≤ k ∧ k < 57 + 6 * v + 6 * (m - 1 - v)
        · rw [upd_ne _ _ (by omega), cpy_in c1, pz_hi (by omega), cpy_in c1, upd_ne _ _ (by omega), hM]
          show z (pz _) = _
          rw [pz_hi (by omega)]
        · by_cases c2 : k = 56
          · subst c2
            rw [upd_eq, cpy_out (by show ¬ (_ ≤ 5 ∧ _); omega)]
            exact (upd_eq z 5 _).symm
          · rw [upd_ne _ _ c2, cpy_out c1]
            have c3 : ¬ (57 + 6 * v ≤ pz k ∧ pz k < 57 + 6 * v + 6 * (m - 1 - v)) := by
              by_cases c4 : k < 57
              · have := pz_lt57 k c4
                omega
              · rw [pz_hi (by omega)]; exact c1
            have c5 : pz k ≠ 5 := fun q => c2 (pz_inj (q.trans (show 5 = pz 56 from rfl)))
            rw [cpy_out c3, upd_ne _ _ c5, hM]
            rfl
      rw [← e] at h
      exact h
  have key2 : am_R am_S0 mt_S_removeValve 1 26 [.ref 3, .int (nI v), .int (M 4 56 - nI 1), .null] [] M K := by rw [e5']; exact key
  refine am_C_of_R am_S0 om_S_removeValve rfl [.ref 3, .int (nI v), .null, .null] rfl rfl (g_S_removeValve_0 ⟨56, rfl, by decide, fun c => absurd c (nI_pos (by omega)), fun c => ⟨fun c2 => absurd c2 ?_, fun c2 => ⟨fun c3 => key2, fun c3 => absurd ?_ c3⟩⟩⟩)
  · show ¬ M 4 56 - nI 1 < nI v
    rw [e5']
    exact nI_nlt (by omega) (by omega)
  · show M 4 56 - nI 1 < nI 8
    rw [e5']
    exact (nI_lti (by omega) (by decide)).mpr (by omega)
theorem c_S_removeValve_6 {v m : Nat} {z : dz} {M : am_M} {K : am_Q} (hM : M 7 = zp z) (hm : z 5 = nI m) (hm8 : m ≤ 8) (hv : v < m) (h : K (.inl none) (am_set M 7 (zp (zdrop v m z)))) : am_C mt_S_removeValve [.ref 6, .int (nI v)] M K := by
  have e5 : M 7 56 = nI m := by rw [hM]; exact hm
  have e5' : M 7 56 - nI 1 = nI (m - 1) := by rw [e5, nI_sub1 (by omega)]
  have key : am_R am_S0 mt_S_removeValve 1 26 [.ref 6, .int (nI v), .int (nI (m - 1)), .null] [] M K := by
    refine g_S_removeValve_26 ⟨57 + 6 * v + 6, 57 + 6 * v, 6 * (m - 1 - v), ?_, ?_, ?_, by show _ ≤ 105; omega, by show _ ≤ 105; omega, 56, rfl, by decide, ?_⟩
    · show nI 57 + nI v * nI 6 + nI 6 = _
      rw [ix4', Nat.mul_comm]
    · show nI 57 + nI v * nI 6 = _
      rw [ix3', Nat.mul_comm]
    · show (nI (m - 1) - nI v) * nI 6 = _
      have e : nI (m - 1) = nI (m - 1 - v) + nI v := by rw [nI_add]; congr 1; omega
      rw [e, Int32.add_sub_cancel, pk_mul, Nat.mul_comm]
    · simp only [am_set_set]
      have e : upd (va_cpy (M 7) (M 7) (57 + 6 * v + 6) (57 + 6 * v) (6 * (m - 1 - v))) 56 (nI (m - 1)) = zp (zdrop v m z) := by
        funext k
        show _ = zdrop v m z (pz k)
        unfold zdrop
        by_cases c1 : 57 + 6 * v ≤ k ∧ k < 57 + 6 * v + 6 * (m - 1 - v)
        · rw [upd_ne _ _ (by omega), cpy_in c1, pz_hi (by omega), cpy_in c1, upd_ne _ _ (by omega), hM]
          show z (pz _) = _
          rw [pz_hi (by omega)]
        · by_cases c2 : k = 56
          · subst c2
            rw [upd_eq, cpy_out (by show ¬ (_ ≤ 5 ∧ _); omega)]
            exact (upd_eq z 5 _).symm
          · rw [upd_ne _ _ c2, cpy_out c1]
            have c3 : ¬ (57 + 6 * v ≤ pz k ∧ pz k < 57 + 6 * v + 6 * (m - 1 - v)) := by
              by_cases c4 : k < 57
              · have := pz_lt57 k c4
                omega
              · rw [pz_hi (by omega)]; exact c1
            have c5 : pz k ≠ 5 := fun q => c2 (pz_inj (q.trans (show 5 = pz 56 from rfl)))
            rw [cpy_out c3, upd_ne _ _ c5, hM]
            rfl
      rw [← e] at h
      exact h
  have key2 : am_R am_S0 mt_S_removeValve 1 26 [.ref 6, .int (nI v), .int (M 7 56 - nI 1), .null] [] M K := by rw [e5']; exact key
  refine am_C_of_R am_S0 om_S_removeValve rfl [.ref 6, .int (nI v), .null, .null] rfl rfl (g_S_removeValve_0 ⟨56, rfl, by decide, fun c => absurd c (nI_pos (by omega)), fun c => ⟨fun c2 => absurd c2 ?_, fun c2 => ⟨fun c3 => key2, fun c3 => absurd ?_ c3⟩⟩⟩)
  · show ¬ M 7 56 - nI 1 < nI v
    rw [e5']
    exact nI_nlt (by omega) (by omega)
  · show M 7 56 - nI 1 < nI 8
    rw [e5']
    exact (nI_lti (by omega) (by decide)).mpr (by omega)
theorem isl_nat {p : Int32} {m : Nat} (hm : m ≤ 8) (h : nI 0 ≤ p ∧ p ≤ nI m - nI 1) : ∃ v, v < m ∧ p = nI v := by
  by_cases c : m = 0
  · subst c
    exact absurd (Int32.le_trans h.1 h.2) (by decide +kernel)
  · rw [nI_sub1 (by omega)] at h
    obtain ⟨v, -, h2, h3⟩ := isr_nat (a := 0) (b := m - 1) h (by decide) (by omega)
    exact ⟨v, by omega, h3⟩
theorem isl_of {v m : Nat} (hm : m ≤ 8) (hv : v < m) : nI 0 ≤ nI v ∧ nI v ≤ nI m - nI 1 := by
  rw [nI_sub1 (by omega)]
  exact ⟨i_le (Nat.zero_le v) (by omega), i_le (by omega) (by omega)⟩
theorem c_V_requireValve {m : Nat} {p : Int32} {w : wS} {M : am_M} {K : am_Q} (hr : vr M w) (hm : w_z w 5 = nI m) (hm8 : m ≤ 8) (h1 : (nI 0 ≤ p ∧ p ≤ nI m - nI 1) → K (.inl none) M) (h2 : ¬ (nI 0 ≤ p ∧ p ≤ nI m - nI 1) → K (.inr (am_ex 0)) M) : am_C mt_V_requireValve [.ref 0, .int p] M K := by
  have e5 : M 2 56 = nI m := by rw [hr.1]; exact hm
  refine am_C_of_R am_S0 om_V_requireValve rfl [.ref 0, .int p] rfl rfl (g_V_requireValve_0 ⟨fun c => g_V_requireValve_24 (h2 fun q => Int32.not_le.mpr c q.1), fun c => ⟨56, rfl, by decide, fun c2 => g_V_requireValve_24 (h2 fun q => ?_), fun c2 => ⟨fun c3 => g_V_requireValve_34 (h1 ?_), fun c3 => g_V_requireValve_24 (h2 fun q => ?_)⟩⟩⟩)
  · have c' : M 2 56 ≤ p := c2
    obtain ⟨v, hv, rfl⟩ := isl_nat hm8 q
    rw [e5] at c'
    exact i_nge hv (by omega) c'
  · have c' : ¬ M 2 56 ≤ p := c2
    have c0 : ¬ p < 0 := c
    rw [e5] at c'
    have hp : isr p 0 8 := ⟨Int32.not_lt.mp c0, Int32.le_trans (Int32.le_of_lt (Int32.not_le.mp c')) (i_le hm8 (by decide))⟩
    obtain ⟨v, -, hv, rfl⟩ := isr_nat hp (by decide) (by decide)
    exact isl_of hm8 ((nI_lti (by omega) (by omega)).mp (Int32.not_le.mp c'))
  · have c' : ¬ p < nI 8 := c3
    obtain ⟨v, hv, rfl⟩ := isl_nat hm8 q
    exact c' ((nI_lti (by omega) (by decide)).mpr (by omega))
def m_close (p : Int32) (w : wS) : mS :=
  if nI 0 ≤ p ∧ p ≤ w_z w 5 - nI 1 then (0, w_z w 5 - nI 1, w_setz (w_rec w) (zdrop (zn p) (zn (w_z w 5)) (w_z w))) else (1, nI 0, w)
theorem zdrop_5 {v m : Nat} {z : dz} : zdrop v m z 5 = nI (m - 1) := by
  unfold zdrop
  rw [cpy_out (by omega), upd_eq]
theorem c_V_close {n : Nat} {p : Int32} {w : wS} {M : am_M} {K : am_Q} (hr : vr M w) (hk : wk n w) (h : ∀ M', vr M' (m_close p w).2.2 → vf M M' → K (oV 0 (m_close p w).1 (m_close p w).2.1) M') : am_C mt_V_close [.ref 0, .int p] M K := by
  obtain ⟨m, hm8, hm, -⟩ := hk.1.1.2.2.2.2.2
  unfold m_close at h
  rw [hm] at h
  refine am_C_of_R am_S0 om_V_close rfl [.ref 0, .int p] rfl rfl (g_V_close_0 (c_V_requireValve hr hm hm8 (fun hq => ?_) (fun hq => ?_)))
  · rw [if_pos hq] at h
    obtain ⟨v, hv, rfl⟩ := isl_nat hm8 hq
    rw [zn_nI (show v < 2 ^ 31 by omega), zn_nI (show m < 2 ^ 31 by omega), nI_sub1 (by omega)] at h
    refine c_V_saveState hr (fun M' r1 r2 r3 _ => ?_)
    refine c_S_removeValve_1 (z := w_z w) r1.1 hm hm8 hv ⟨56, rfl, by decide, ?_⟩
    have e : zp (zdrop v m (w_z w)) 56 = nI (m - 1) := zdrop_5
    rw [← e] at h
    exact h _ (vr_setz r1) (vf_set r2 (by decide))
  · rw [if_neg hq] at h
    exact h M hr (vf_refl M)
