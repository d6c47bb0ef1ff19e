/-! calls: valve, stir -/
def zput (m : Nat) (f t r a b : Int32) (z : dz) : dz := upd (upd (upd (upd (upd (upd (upd z (57 + 6 * m) f) (57 + 6 * m + 1) t) (57 + 6 * m + 2) r) (57 + 6 * m + 3) a) (57 + 6 * m + 4) b) (57 + 6 * m + 5) (nI 0)) 5 (nI (m + 1))
def m_valve (f t r a b : Int32) (w : wS) : mS :=
  if isv f ∧ isr t 0 5 then (if f ≠ t ∧ isr r 1 500 ∧ isr a 0 23 ∧ (a ≤ b ∧ b ≤ nI 23) then (if w_z w 5 = nI 8 then (3, nI 0, w) else (0, w_z w 5, w_setz (w_rec w) (zput (zn (w_z w 5)) f t r a b (w_z w)))) else (2, nI 0, w)) else (1, nI 0, w)
theorem c_V_valve {n : Nat} {f t r a b : Int32} {w : wS} {M : am_M} {K : am_Q} (hr : vr M w) (hk : wk n w) (h : ∀ M', vr M' (m_valve f t r a b w).2.2 → vf M M' → K (oV 0 (m_valve f t r a b w).1 (m_valve f t r a b w).2.1) M') : am_C mt_V_valve [.ref 0, .int f, .int t, .int r, .int a, .int b] M K := by
  obtain ⟨m, hm8, hm, -⟩ := hk.1.1.2.2.2.2.2
  have em : M 2 56 = nI m := by rw [hr.1]; exact hm
  unfold m_valve at h
  have bad1 : ¬ (isv f ∧ isr t 0 5) → K (.inr (am_ex 0)) M := by
    intro hq
    rw [if_neg hq] at h
    exact h M hr (vf_refl M)
  have bad2 : isv f → isr t 0 5 → ¬ (f ≠ t ∧ isr r 1 500 ∧ isr a 0 23 ∧ (a ≤ b ∧ b ≤ nI 23)) → K (.inr (am_ex 1)) M := by
    intro hv ht hq
    rw [if_pos ⟨hv, ht⟩, if_neg hq] at h
    exact h M hr (vf_refl M)
  have mid : isv f → isr t 0 5 → am_R am_S0 mt_V_valve 1 13 [.ref 0, .int f, .int t, .int r, .int a, .int b, .null, .null] [] M K := by
    intro hv ht
    refine g_V_valve_13 ⟨fun c => g_V_valve_28 (c_V_requireRange (fun hr1 => c_V_requireRange (fun hr2 => c_V_requireRange (fun hr3 => ?_) (fun q => bad2 hv ht fun z => q z.2.2.2)) (fun q => bad2 hv ht fun z => q z.2.2.1)) (fun q => bad2 hv ht fun z => q z.2.1)), fun c => bad2 hv ht fun z => c z.1⟩
    rw [if_pos ⟨hv, ht⟩, if_pos ⟨c, hr1, hr2, hr3⟩, hm] at h
    have bad3 : ¬ m < 8 → am_R am_S0 mt_V_valve 1 77 [.ref 0, .int f, .int t, .int r, .int a, .int b, .int (M 2 56), .null] [] M K := by
      intro h8
      rw [if_pos (show nI m = nI 8 by rw [show m = 8 by omega])] at h
      exact g_V_valve_77 (h M hr (vf_refl M))
    refine ⟨56, rfl, by decide, fun c2 => absurd ?_ (nI_pos (show m < 2 ^ 31 by omega)), fun c2 => ⟨fun c3 => g_V_valve_87 ?_, fun c3 => bad3 ?_⟩⟩
    · have c4 : M 2 56 < 0 := c2
      rw [em] at c4
      exact c4
    · have c4 : M 2 56 < nI 8 := c3
      rw [em] at c4
      have hm7 : m < 8 := (nI_lti (by omega) (by decide)).mp c4
      have h8 : ¬ nI m = nI 8 := fun q => by
        have := (nI_eq (a := m) (b := 8) (by omega) (by decide)).mp q
        omega
      rw [if_neg h8, zn_nI (by omega)] at h
      refine c_V_saveState hr (fun M' r1 r2 r3 _ => ?_)
      have ez : M' 2 = zp (w_z w) := r1.1
      have ev : nI 57 + M 2 56 * nI 6 = nI (57 + 6 * m) := by rw [em, ix3', Nat.mul_comm]
      have j : ∀ k, (nI 57 + M 2 56 * nI 6) + nI k = nI (57 + 6 * m + k) := fun k => by rw [ev, ix2]
      refine ⟨57 + 6 * m + 0, j 0, by show _ < 105; omega, 57 + 6 * m + 1, j 1, by show _ < 105; omega, 57 + 6 * m + 2, j 2, by show _ < 105; omega, 57 + 6 * m + 3, j 3, by show _ < 105; omega, 57 + 6 * m + 4, j 4, by show _ < 105; omega, 57 + 6 * m + 5, j 5, by show _ < 105; omega, 56, rfl, by decide, ?_⟩
      simp only [am_set_set]
      have e : upd (upd (upd (upd (upd (upd (upd (M' 2) (57 + 6 * m + 0) f) (57 + 6 * m + 1) t) (57 + 6 * m + 2) r) (57 + 6 * m + 3) a) (57 + 6 * m + 4) b) (57 + 6 * m + 5) (nI 0)) 56 (M 2 56 + nI 1) = zp (zput m f t r a b (w_z w)) := by
        rw [ez, em, nI_add, zp_upd, zp_upd, zp_upd, zp_upd, zp_upd, zp_upd, zp_upd, pz_hi (by omega), pz_hi (by omega), pz_hi (by omega), pz_hi (by omega), pz_hi (by omega), pz_hi (by omega)]
        rfl
      have hh := h (am_set M' 2 (zp (zput m f t r a b (w_z w)))) (vr_setz r1) (vf_set r2 (by decide))
      rw [← e, ← em] at hh
      exact hh
    · have c4 : ¬ M 2 56 < nI 8 := c3
      rw [em] at c4
      exact fun q => c4 ((nI_lti (by omega) (by decide)).mpr q)
  refine am_C_of_R am_S0 om_V_valve rfl [.ref 0, .int f, .int t, .int r, .int a, .int b, .null, .null] rfl rfl (g_V_valve_0 (c_V_requireVat (fun hv => ⟨fun c => mid hv ?_, fun c => c_V_requireVat (fun ht => mid hv ?_) (fun ht => bad1 fun q => ?_)⟩) (fun hv => bad1 fun q => hv q.1)))
  · have c' : t = nI 5 := c
    rw [c']
    exact ⟨by decide +kernel, by decide +kernel⟩
  · exact ⟨ht.1, Int32.le_trans ht.2 (by decide +kernel)⟩
  · have c' : ¬ t = nI 5 := c
    obtain ⟨u, -, hu, rfl⟩ := isr_nat q.2 (by decide) (by decide)
    have : u ≠ 5 := fun z => c' (by rw [z])
    exact ht ⟨i_le (by omega) (by omega), i_le (by omega) (by omega)⟩
