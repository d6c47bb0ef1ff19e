/-! load in the class -/
theorem zlq_step {r : Nat → Nat} {z : dz} {x : Int32} {k : Nat} {f : Nat → Int32} (hk : k < 8) (hf : ∀ j, j < 5 → f (5 * k + j) = nI (r (5 * k + j))) : upd (va_cpy f (zp (upd (zlo r z k) 5 x)) (k * 5) (57 + k * 6) 5) (57 + k * 6 + 5) (nI 0) = zp (upd (zlo r z (k + 1)) 5 x) := by
  funext i
  show _ = upd (zput k (nI (r (5 * k))) (nI (r (5 * k + 1))) (nI (r (5 * k + 2))) (nI (r (5 * k + 3))) (nI (r (5 * k + 4))) (zlo r z k)) 5 x (pz i)
  by_cases c : 57 + k * 6 ≤ i ∧ i ≤ 57 + k * 6 + 5
  · rw [pz_hi (by omega), upd_ne _ _ (show i ≠ 5 by omega)]
    unfold zput
    rw [upd_ne _ _ (show i ≠ 5 by omega)]
    obtain ⟨j, hj, rfl⟩ : ∃ j, j ≤ 5 ∧ i = 57 + k * 6 + j := ⟨i - (57 + k * 6), by omega, by omega⟩
    have e6 : k * 6 = 6 * k := Nat.mul_comm k 6
    have e5 : k * 5 = 5 * k := Nat.mul_comm k 5
    rw [e6, e5]
    have h6 : j = 0 ∨ j = 1 ∨ j = 2 ∨ j = 3 ∨ j = 4 ∨ j = 5 := by omega
    rcases h6 with rfl | rfl | rfl | rfl | rfl | rfl
    · rw [upd_ne _ _ (by omega), cpy_in (by omega), upd_ne _ _ (by omega), upd_ne _ _ (by omega), upd_ne _ _ (by omega), upd_ne _ _ (by omega), upd_ne _ _ (by omega), upd_eq' _ _ (by omega), show 5 * k + (57 + 6 * k + 0 - (57 + 6 * k)) = 5 * k + 0 by omega, hf 0 (by decide), Nat.add_zero]
    · rw [upd_ne _ _ (by omega), cpy_in (by omega), upd_ne _ _ (by omega), upd_ne _ _ (by omega), upd_ne _ _ (by omega), upd_ne _ _ (by omega), upd_eq, show 5 * k + (57 + 6 * k + 1 - (57 + 6 * k)) = 5 * k + 1 by omega, hf 1 (by decide)]
    · rw [upd_ne _ _ (by omega), cpy_in (by omega), upd_ne _ _ (by omega), upd_ne _ _ (by omega), upd_ne _ _ (by omega), upd_eq, show 5 * k + (57 + 6 * k + 2 - (57 + 6 * k)) = 5 * k + 2 by omega, hf 2 (by decide)]
    · rw [upd_ne _ _ (by omega), cpy_in (by omega), upd_ne _ _ (by omega), upd_ne _ _ (by omega), upd_eq, show 5 * k + (57 + 6 * k + 3 - (57 + 6 * k)) = 5 * k + 3 by omega, hf 3 (by decide)]
    · rw [upd_ne _ _ (by omega), cpy_in (by omega), upd_ne _ _ (by omega), upd_eq, show 5 * k + (57 + 6 * k + 4 - (57 + 6 * k)) = 5 * k + 4 by omega, hf 4 (by decide)]
    · rw [upd_eq, upd_eq]
  · rw [upd_ne _ _ (by omega), cpy_out (by omega)]
    show upd (zlo r z k) 5 x (pz i) = _
    by_cases c5 : pz i = 5
    · rw [c5, upd_eq, upd_eq]
    · rw [upd_ne _ _ c5, upd_ne _ _ c5]
      have c3 : ¬ (57 + 6 * k ≤ pz i ∧ pz i ≤ 57 + 6 * k + 5) := by
        by_cases c4 : i < 57
        · have := pz_lt57 i c4
          omega
        · rw [pz_hi (by omega)]; omega
      unfold zput
      rw [upd_ne _ _ c5, upd_ne _ _ (by omega), upd_ne _ _ (by omega), upd_ne _ _ (by omega), upd_ne _ _ (by omega), upd_ne _ _ (by omega), upd_ne _ _ (by omega)]
theorem c_S_takeValves_1 {r : Nat → Nat} {z : dz} {n : Nat} {M : am_M} {K : am_Q} (hM : M 2 = zp z) (hn : n ≤ 8) (hr : ∀ k, k < 5 * n → M 11 k = nI (r k)) (h : K (.inl none) (am_set M 2 (zp (zlo r z n)))) : am_C mt_S_takeValves [.ref 1, .ref 11, .int (nI n)] M K := by
  refine am_C_of_R am_S0 om_S_takeValves rfl [.ref 1, .ref 11, .int (nI n), .null, .null] rfl rfl (g_S_takeValves_0 ?_)
  refine am_R_le (xs := [.ref 1, .ref 11, .int (nI n), .int (nI 0), .null]) (by repeat' (first | exact trivial | exact Or.inr rfl | exact Or.inl rfl | exact Or.inr (congrArg Value.int (nI_succ _)) | refine ⟨?_, ?_⟩)) ?_
  have h0 : M = am_set M 2 (zp (upd (zlo r z 0) 5 (z 5))) := by
    have e : zp (upd (zlo r z 0) 5 (z 5)) = M 2 := by
      rw [hM]
      congr 1
      funext k
      show upd (upd z 5 (nI 0)) 5 (z 5) k = z k
      by_cases c : k = 5
      · rw [c, upd_eq]
      · rw [upd_ne _ _ c, upd_ne _ _ c]
    rw [e, am_set_self]
  rw [h0]
  refine lu (P := fun i => am_R am_S0 mt_S_takeValves 1 2 [.ref 1, .ref 11, .int (nI n), .int (nI i), .null] [] (am_set M 2 (zp (upd (zlo r z i) 5 (z 5)))) K) n ?_ ?_
  · refine g_S_takeValves_2 ⟨fun _ => g_S_takeValves_62 ⟨56, rfl, by decide, ?_⟩, fun c => absurd (i_le (Nat.le_refl n) (by omega)) c⟩
    simp only [am_set_set]
    have e : upd (zp (upd (zlo r z n) 5 (z 5))) 56 (nI n) = zp (zlo r z n) := by
      rw [zp_upd]
      congr 1
      funext k
      show upd (upd (zlo r z n) 5 (z 5)) 5 (nI n) k = _
      by_cases c : k = 5
      · rw [c, upd_eq, zlo_5]
      · rw [upd_ne _ _ c, upd_ne _ _ c]
    rw [← e] at h
    exact h
  · intro i hi ih
    refine g_S_takeValves_2 ⟨fun c => absurd c (i_nge hi (by omega)), fun _ => ⟨fun c => absurd c (i_nge (show i < 8 by omega) (by decide)), fun _ => ⟨fun c => ?_, fun _ => ⟨i * 5, 57 + i * 6, 5, ?_, ?_, rfl, by show _ ≤ 40; omega, by show _ ≤ 105; omega, 57 + i * 6 + 5, ?_, by show _ < 105; omega, ?_⟩⟩⟩⟩
    · have c' : nI 40 < (nI i + nI 1) * nI 5 := c
      rw [nI_add, pk_mul] at c'
      have := (nI_lti (by decide) (by omega)).mp c'
      omega
    · exact pk_mul i 5
    · show nI 57 + nI i * nI 6 = _
      rw [pk_mul, nI_add]
    · show nI 57 + nI i * nI 6 + nI 5 = _
      rw [pk_mul, nI_add, nI_add]
    · simp only [am_set_set]
      have e := zlq_step (x := z 5) (z := z) (f := M 11) (r := r) (k := i) (by omega) (fun j hj => hr _ (by omega))
      rw [← e] at ih
      exact am_R_le (by repeat' (first | exact trivial | exact Or.inr rfl | exact Or.inl rfl | exact Or.inr (congrArg Value.int (nI_succ _)) | refine ⟨?_, ?_⟩)) ih
theorem c_V_load {n : Nat} {w : wS} {M : am_M} {K : am_Q} (hr : vr M w) (hk : wk n w) (h : ∀ M', vr M' (m_load w).2.2 → vf M M' → K (oV 1 (m_load w).1 (m_load w).2.1) M') : am_C mt_V_load [.ref 0] M K := by
  have he := tgo_e (tx := tcw w) hk.2.2.2.2.1
  have hr' := hr
  obtain ⟨r1, r2, r3, r4, r5, r6, r7⟩ := hr'
  obtain ⟨i1, i2⟩ := tgo_I (tcw w) (w_ln w)
  have l60 := r6.2
  have bad : ∀ M', tF M M' → ¬ tOK (tcw w) (w_ln w) → am_R am_S0 mt_V_load 1 27 [.ref 0, .null] [] M' K := by
    intro M' f hn
    rw [m_load_n hn] at h
    exact g_V_load_27 (h M' (vr_tF hr f) (vf_tF f))
  refine am_C_of_R am_S0 om_V_load rfl [.ref 0, .null] rfl rfl (g_V_load_0 (c_T_readCodes r6.1 r6.2 (fun k hlt => ?_) (fun M1 m1 f1 => ⟨fun c => bad M1 f1 ?_, fun c => c_T_endsWell m1 i2 (fun hf => ⟨fun _ => ?_, fun c2 => absurd nI1_ne c2⟩) (fun hf => ⟨fun c2 => absurd nI_0 c2, fun _ => bad M1 f1 (fun q => hf q.2)⟩)⟩)))
  · obtain ⟨a, b⟩ := tcw_ok hk k hlt
    exact ⟨by rw [r7 k hlt]; exact a, b⟩
  · have c' : nI (tgo (tcw w) (w_ln w)).1 < M1 9 1 := c
    rw [f1.2, r6.1] at c'
    have := (nI_lti (by omega) (by omega)).mp c'
    exact fun q => by have := q.1; omega
  · have c' : ¬ nI (tgo (tcw w) (w_ln w)).1 < M1 9 1 := c
    rw [f1.2, r6.1] at c'
    have hOK : tOK (tcw w) (w_ln w) := by
      refine ⟨?_, hf⟩
      have : ¬ (tgo (tcw w) (w_ln w)).1 < w_ln w := fun q => c' ((nI_lti (by omega) (by omega)).mpr q)
      omega
    rw [m_load_y hOK] at h
    obtain ⟨a1, a2, a3, a4, a5⟩ := m1
    have hp4 : (tgo (tcw w) (w_ln w)).2.2.1 = 4 := hf.1
    obtain ⟨m, hm, _⟩ := hf.2
    have hq : tq (tgo (tcw w) (w_ln w)).2.2.2.1 = 1 := by rw [hm]; rfl
    rw [hp4, hq] at a5
    generalize (tgo (tcw w) (w_ln w)).2.1 = e at he h a1 a5
    generalize (tgo (tcw w) (w_ln w)).2.2.2.2 = r at h a5
    have ev : M1 9 3 + nI 1 = nI (e + 1) := by rw [a1, nI_add]
    suffices key : ∀ v, v = nI (e + 1) → am_B am_S0 mt_V_load (List.drop 6 k_V_load_37) 1 47 [.ref 0, .int v] [] M1 K from g_V_load_37 (key _ ev)
    rintro _ rfl
    refine ⟨fun _ => g_V_load_63 (c_V_saveState (vr_tF hr f1) (fun M2 q2 v2 d2 o2 => ?_)), fun c => absurd (i_le (a := e + 1) (b := 8) (by omega) (by decide)) c⟩
    have e11 : ∀ k, k < 5 * (e + 1) → M2 11 k = nI (r k) := fun k hk => by rw [o2 11 (by decide) (by decide)]; exact a5 k (by omega)
    refine c_S_takeValves_1 (z := w_z w) q2.1 (by omega) e11 ?_
    obtain ⟨q1, q2, q3, q4, q5, q6, q7⟩ := q2
    exact h _ ⟨rfl, q2, q3, q4, q5, ⟨upd_eq (M2 9) 1 (nI 0), by show 0 ≤ 60; omega⟩, fun k hk => absurd hk (Nat.not_lt_zero k)⟩ (vf_set (vf_set (vf_trans (vf_tF f1) v2) (by decide)) (by decide))
