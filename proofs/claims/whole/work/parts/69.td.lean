/-! the class reads its text: a code, all codes, the end -/
theorem sg_nat : ∀ k, k < 5 → am_sg k = nI (tsig k) := by decide +kernel
theorem tsig_lt (p : Nat) : tsig p ≤ 64 := by
  unfold tsig
  split
  · omega
  · split
    · omega
    · split
      · omega
      · split <;> omega
theorem ib0_ne : ¬ ¬ nI 0 = 0 := fun c => c nI_0
theorem c_T_code {i c e p : Nat} {n : Option Nat} {r : Nat → Nat} {M : am_M} {K : am_Q} (hc : c ≤ 126) (hi : i ≤ 60) (hT : tM M (e, p, n, r)) (hI : tI i (e, p, n, r)) (h1 : ∀ t', tstep c (e, p, n, r) = some t' → ∀ M', tM M' t' → tF M M' → K (.inl (some (.int (nI 1)))) M') (h0 : tstep c (e, p, n, r) = none → K (.inl (some (.int (nI 0)))) M) : am_C mt_T_takesCode [.ref 9, .int (nI c)] M K := by
  have hr3 := tM_r3 hT
  have hlo := tlow_le hI
  have hT' := hT
  have hI' := hI
  obtain ⟨a1, a2, a3, a4, a5⟩ := hT
  obtain ⟨b1, b2, b3, b4, b5, b6, b7, b8⟩ := hI
  simp only at a1 a2 a3 a4 a5 b1 b2 b8
  have hmo := tmost_le p
  have b2' : 10 * e ≤ i := by omega
  have sgn : ¬ (48 ≤ c ∧ c ≤ 57) → am_R am_S0 mt_T_takesCode 1 38 [.ref 9, .int (nI c)] [] M K := by
    intro hnd
    refine g_T_takesCode_38 ⟨p, a2, b1, fun c1 => ?_, fun c1 => ?_⟩
    · have c1' : ¬ nI c = am_sg p := c1
      have hne : c ≠ tsig p := fun q => c1' (by rw [sg_nat p b1, q])
      refine g_T_takesCode_58 ⟨Or.inl rfl, h0 ?_⟩
      cases n with
      | none => exact ts_non hnd
      | some m => exact ts_sno hnd (fun q => hne q.1)
    · have c1' : nI c = am_sg p := Classical.not_not.mp c1
      rw [sg_nat p b1] at c1'
      have hl := tsig_lt p
      have he : c = tsig p := (nI_eq (by omega) (by omega)).mp c1'
      subst he
      cases n with
      | none => exact c_T_whole0 a3 ⟨fun c2 => absurd c2 ib0_ne, fun _ => g_T_takesCode_58 ⟨Or.inl rfl, h0 (ts_non hnd)⟩⟩
      | some m =>
        have hm := (b8 m rfl).2.1
        refine c_T_whole1 a3 (by omega) a2 b1 hr3 hlo (fun hw => ⟨fun c2 => ?_, fun c2 => absurd nI1_ne c2⟩) (fun hw => ⟨fun c2 => absurd c2 ib0_ne, fun _ => g_T_takesCode_58 ⟨Or.inl rfl, h0 (ts_sno hnd (fun q => hw q.2))⟩⟩)
        refine g_T_takesCode_60 ⟨fun c3 => ?_, fun c3 => ?_⟩
        · have c3' : ¬ upd (M 9) 6 (-nI 1) 5 = nI 4 := c3
          rw [upd_ne _ _ (by decide), a2] at c3'
          have h4 : p ≠ 4 := fun q => c3' (by rw [q])
          refine g_T_takesCode_91 (g_T_takesCode_101 ⟨Or.inr rfl, h1 _ (ts_sig h4 hw) _ ⟨?_, ?_, ?_, ?_, ?_⟩ ?_⟩)
          · show upd (upd (M 9) 6 (-nI 1)) 5 (upd (M 9) 6 (-nI 1) 5 + nI 1) 3 = _
            rw [upd_ne _ _ (by decide), upd_ne _ _ (by decide)]
            exact a1
          · show upd (upd (M 9) 6 (-nI 1)) 5 (upd (M 9) 6 (-nI 1) 5 + nI 1) 5 = _
            rw [upd_eq, upd_ne _ _ (by decide), a2, nI_add]
          · show upd (upd (M 9) 6 (-nI 1)) 5 (upd (M 9) 6 (-nI 1) 5 + nI 1) 6 = _
            rw [upd_ne _ _ (by decide), upd_eq]
            rfl
          · intro k hk
            have hk' : k < p + 1 + 0 := hk
            exact a4 k hk'
          · intro k hk
            have hk' : k < 5 * e + (p + 1) + 0 := hk
            exact a5 k (by show k < 5 * e + p + 1; omega)
          · exact tF_9 (tF_9 (tF_refl M) (by decide)) (by decide)
        · have c3' : upd (M 9) 6 (-nI 1) 5 = nI 4 := Classical.not_not.mp c3
          rw [upd_ne _ _ (by decide), a2] at c3'
          have h4 : p = 4 := (nI_eq (a := p) (b := 4) (by omega) (by decide)).mp c3'
          subst h4
          refine g_T_takesCode_101 ⟨Or.inr rfl, h1 _ (ts_end hw) _ ⟨?_, ?_, ?_, ?_, ?_⟩ ?_⟩
          · show upd (upd (upd (M 9) 6 (-nI 1)) 3 (upd (M 9) 6 (-nI 1) 3 + nI 1)) 5 (nI 0) 3 = _
            rw [upd_ne _ _ (by decide), upd_eq, upd_ne _ _ (by decide), a1, nI_add]
          · show upd (upd (upd (M 9) 6 (-nI 1)) 3 (upd (M 9) 6 (-nI 1) 3 + nI 1)) 5 (nI 0) 5 = _
            rw [upd_eq]
          · show upd (upd (upd (M 9) 6 (-nI 1)) 3 (upd (M 9) 6 (-nI 1) 3 + nI 1)) 5 (nI 0) 6 = _
            rw [upd_ne _ _ (by decide), upd_ne _ _ (by decide), upd_eq]
            rfl
          · intro k hk
            have hk' : k < 0 + 0 := hk
            omega
          · intro k hk
            have hk' : k < 5 * (e + 1) + 0 + 0 := hk
            exact a5 k (by show k < 5 * e + 4 + 1; omega)
          · exact tF_9 (tF_9 (tF_9 (tF_refl M) (by decide)) (by decide)) (by decide)
  refine am_C_of_R am_S0 om_T_takesCode rfl [.ref 9, .int (nI c)] rfl rfl (g_T_takesCode_0 ⟨fun c1 => ?_, fun c1 => ⟨fun c2 => g_T_takesCode_17 ⟨fun c3 => sgn ?_, fun c3 => ⟨fun c4 => sgn ?_, fun c4 => ?_⟩⟩, fun c2 => ?_⟩⟩)
  · have c' : M 9 5 < 0 := c1
    rw [a2] at c'
    exact absurd c' (nI_pos (by omega))
  · have c' : nI c < nI 48 := c3
    have := (nI_lti (by omega) (by decide)).mp c'
    omega
  · have c' : nI 57 < nI c := c4
    have := (nI_lti (by decide) (by omega)).mp c'
    omega
  · have c3' : ¬ nI c < nI 48 := c3
    have c4' : ¬ nI 57 < nI c := c4
    have k3 : ¬ c < 48 := fun q => c3' ((nI_lti (by omega) (by decide)).mpr q)
    have k4 : ¬ 57 < c := fun q => c4' ((nI_lti (by decide) (by omega)).mpr q)
    show am_C mt_T_takesDigit [.ref 9, .int (nI c - nI 48)] M _
    rw [nI_subk (by omega)]
    exact c_T_digit (by omega) hi hT' hI' (fun hd M' m1 m2 => ⟨Or.inr rfl, h1 _ (ts_dig (by omega) rfl hd.1 hd.2) M' m1 m2⟩) (fun hd => ⟨Or.inl rfl, h0 (ts_dno (by omega) hd)⟩)
  · have c' : ¬ M 9 5 < nI 5 := c2
    rw [a2] at c'
    exact absurd ((nI_lti (by omega) (by decide)).mpr b1) c'
theorem c_T_readCodes {ln : Nat} {tx : Nat → Nat} {M : am_M} {K : am_Q} (hl : M 9 1 = nI ln) (hl60 : ln ≤ 60) (ht : ∀ k, k < ln → M 10 k = nI (tx k) ∧ tx k ≤ 126) (h : ∀ M', tM M' (tgo tx ln).2 → tF M M' → K (.inl (some (.int (nI (tgo tx ln).1)))) M') : am_C mt_T_readCodes [.ref 9] M K := by
  have loop : ∀ M' t, tgo tx 0 = (0, t) → tM M' t → tF M M' → am_R am_S0 mt_T_readCodes 1 17 [.ref 9, .int (nI 0)] [] M' K := by
    refine lu (P := fun i => ∀ M' t, tgo tx i = (i, t) → tM M' t → tF M M' → am_R am_S0 mt_T_readCodes 1 17 [.ref 9, .int (nI i)] [] M' K) ln ?_ ?_
    · intro M' t e1 m1 f1
      have el : M' 9 1 = nI ln := f1.2.trans hl
      refine g_T_readCodes_17 ⟨fun c => g_T_readCodes_52 ?_, fun c => ?_⟩
      · have hh := h M' (by rw [e1]; exact m1) f1
        rw [e1] at hh
        show K (.inl (some (.int (M' 9 1)))) M'
        rw [el]
        exact hh
      · have c' : ¬ M' 9 1 ≤ nI ln := c
        rw [el] at c'
        exact absurd (i_le (Nat.le_refl ln) (by omega)) c'
    · intro i hi ih M' t e1 m1 f1
      have el : M' 9 1 = nI ln := f1.2.trans hl
      obtain ⟨e, p, n, r⟩ := t
      have hI := (tgo_I tx i).2
      rw [e1] at hI
      obtain ⟨t1, t2⟩ := ht i hi
      refine g_T_readCodes_17 ⟨fun c => ?_, fun c => ⟨fun c2 => ?_, fun c2 => ⟨i, rfl, by show _ < 60; omega, ?_⟩⟩⟩
      · have c' : M' 9 1 ≤ nI i := c
        rw [el] at c'
        exact absurd c' (i_nge hi (by omega))
      · exact absurd c2 (i_nge (show i < 60 by omega) (by decide))
      · show am_C mt_T_takesCode [.ref 9, .int (M' 10 i)] M' _
        rw [f1.1 10 (by decide) (by decide) (by decide), t1]
        refine c_T_code (i := i) t2 (by omega) m1 hI (fun t' hs M2 m2 f2 => ⟨fun c3 => g_T_readCodes_46 ?_, fun c3 => absurd nI1_ne c3⟩) (fun hs => ⟨fun c3 => absurd c3 ib0_ne, fun c3 => ?_⟩)
        · exact am_R_le (by repeat' (first | exact trivial | exact Or.inr rfl | exact Or.inl rfl | exact Or.inr (congrArg Value.int (nI_succ _)) | refine ⟨?_, ?_⟩)) (ih M2 t' (tgo_ok e1 hs) m2 (tF_trans f1 f2))
        · have e2 := tgo_no e1 hs (ln - i)
          rw [show i + (ln - i) = ln by omega] at e2
          have hh := h M' (by rw [e2]; exact m1) f1
          rw [e2] at hh
          exact hh
  refine am_C_of_R am_S0 om_T_readCodes rfl [.ref 9, .null] rfl rfl (g_T_readCodes_0 ?_)
  refine am_R_le (xs := [.ref 9, .int (nI 0)]) (by repeat' (first | exact trivial | exact Or.inr rfl | exact Or.inl rfl | exact Or.inr (congrArg Value.int (nI_succ _)) | refine ⟨?_, ?_⟩)) (loop _ _ rfl ⟨?_, ?_, ?_, ?_, ?_⟩ ?_)
  · show upd (upd (upd (M 9) 3 (nI 0)) 5 (nI 0)) 6 (-nI 1) 3 = nI 0
    rw [upd_ne _ _ (by decide), upd_ne _ _ (by decide), upd_eq]
  · show upd (upd (upd (M 9) 3 (nI 0)) 5 (nI 0)) 6 (-nI 1) 5 = nI 0
    rw [upd_ne _ _ (by decide), upd_eq]
  · show upd (upd (upd (M 9) 3 (nI 0)) 5 (nI 0)) 6 (-nI 1) 6 = -nI 1
    rw [upd_eq]
  · intro k hk
    have hk' : k < 0 + 0 := hk
    omega
  · intro k hk
    have hk' : k < 5 * 0 + 0 + 0 := hk
    omega
  · exact tF_9 (tF_9 (tF_9 (tF_refl M) (by decide)) (by decide)) (by decide)
theorem c_T_endsWell {i : Nat} {t : tS} {M : am_M} {K : am_Q} (hT : tM M t) (hI : tI i t) (h1 : tfull t → K (.inl (some (.int (nI 1)))) M) (h0 : ¬ tfull t → K (.inl (some (.int (nI 0)))) M) : am_C mt_T_endsWell [.ref 9] M K := by
  obtain ⟨e, p, n, r⟩ := t
  have hr3 := tM_r3 hT
  have hlo := tlow_le hI
  obtain ⟨a1, a2, a3, a4, a5⟩ := hT
  obtain ⟨b1, b2, b3, b4, b5, b6, b7, b8⟩ := hI
  simp only at a1 a2 a3 b1 b8
  have hmo := tmost_le p
  refine am_C_of_R am_S0 om_T_endsWell rfl [.ref 9] rfl rfl (g_T_endsWell_0 ⟨fun c => ?_, fun c => ?_⟩)
  · have c' : ¬ M 9 5 = nI 4 := c
    exact g_T_endsWell_19 (g_T_endsWell_20 ⟨Or.inl rfl, h0 (fun q => c' (by rw [a2, show p = 4 from q.1]))⟩)
  · have c' : M 9 5 = nI 4 := Classical.not_not.mp c
    rw [a2] at c'
    have h4 : p = 4 := (nI_eq (a := p) (b := 4) (by omega) (by decide)).mp c'
    subst h4
    cases n with
    | none => exact c_T_whole0 a3 ⟨fun _ => g_T_endsWell_19 (g_T_endsWell_20 ⟨Or.inl rfl, h0 (fun q => by obtain ⟨_, m, q, _⟩ := q; cases q)⟩), fun c2 => absurd nI_0 c2⟩
    | some m =>
      have hm := (b8 m rfl).2.1
      refine c_T_whole1 a3 (by omega) a2 b1 hr3 hlo (fun hw => ⟨fun c2 => absurd c2 nI1_ne, fun c2 => g_T_endsWell_20 ⟨Or.inr rfl, h1 ⟨rfl, m, rfl, hw⟩⟩⟩) (fun hw => ⟨fun c2 => g_T_endsWell_19 (g_T_endsWell_20 ⟨Or.inl rfl, h0 (fun q => ?_)⟩), fun c2 => absurd nI_0 c2⟩)
      obtain ⟨_, m', q1, q2⟩ := q
      cases q1
      exact hw q2
