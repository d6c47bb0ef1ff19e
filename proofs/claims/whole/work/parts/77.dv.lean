/-! digest in the class -/
theorem c_V_digest {n : Nat} {w : wS} {M : am_M} {K : am_Q} (hr : vr M w) (hk : wk n w) (h : ∀ M', vr M' w → vf M M' → K (.inl (some (.long (m_dig w)))) M') : am_C mt_V_digest [.ref 0] M K := by
  have l60 := hk.2.2.2.2.1
  have t208 : ∀ M1 a, vr M1 w → vf M M1 → hsn a (w_tx w) (w_ln w) = m_dig w → am_R am_S0 mt_V_digest 1 208 [.ref 0, .long a, .null, .int (nI 0)] [] M1 K := by
    intro M1 a r1 f1 e
    have hh := h M1 r1 f1
    rw [← e] at hh
    obtain ⟨-, -, -, -, -, ⟨q1, q2⟩, q3⟩ := r1
    refine lu (P := fun i => am_R am_S0 mt_V_digest 1 208 [.ref 0, .long (hsn a (w_tx w) i), .null, .int (nI i)] [] M1 K) (w_ln w) ?_ ?_
    · refine g_V_digest_208 ⟨fun _ => g_V_digest_248 hh, fun c => absurd ?_ c⟩
      show M1 9 1 ≤ nI (w_ln w)
      rw [q1]
      exact i_le (Nat.le_refl _) (by omega)
    · intro i hi ih
      refine g_V_digest_208 ⟨fun c => absurd c ?_, fun _ => ⟨fun c => absurd c (i_nge (show i < 60 by omega) (by decide)), fun _ => ⟨i, rfl, by show _ < 60; omega, ?_⟩⟩⟩
      · show ¬ M1 9 1 ≤ nI i
        rw [q1]
        exact i_nge hi (by omega)
      · have ih' : am_R am_S0 mt_V_digest 1 208 [.ref 0, .long (hs1 (hsn a (w_tx w) i) (w_tx w i)), .null, .int (nI (i + 1))] [] M1 K := ih
        rw [← q3 i hi] at ih'
        exact am_R_le (by repeat' (first | exact trivial | exact Or.inr rfl | exact Or.inl rfl | exact Or.inr (congrArg Value.int (nI_succ _)) | refine ⟨?_, ?_⟩)) ih'
  have t191 : ∀ M1 a, vr M1 w → vf M M1 → hF1 w a = m_dig w → am_R am_S0 mt_V_digest 1 191 [.ref 0, .long a, .null, .null] [] M1 K := by
    intro M1 a r1 f1 e
    have e1 : M1 9 1 = nI (w_ln w) := r1.2.2.2.2.2.1.1
    have tt := t208 M1 (hs1 a (nI (w_ln w))) r1 f1 e
    rw [← e1] at tt
    exact g_V_digest_191 tt
  have slot : ∀ M1 a j, j < 2 → vr M1 w → am_R am_S0 mt_V_digest 1 158 [.ref 0, .long (hs1 a (ib (w_kp w j = true))), .null, .int (nI (j + 1))] [] M1 K → am_R am_S0 mt_V_digest 1 158 [.ref 0, .long a, .null, .int (nI j)] [] M1 K := by
    intro M1 a j hj r1 ih
    have e1 := r1.2.2.2.1 j hj
    refine g_V_digest_158 ⟨fun c => absurd c (i_nge hj (by decide)), fun _ => ⟨j, rfl, by show _ < 2; omega, fun c => ?_, fun c => ?_⟩⟩
    · have c' : M1 15 j = 0 := c
      rw [e1] at c'
      have hq : ¬ w_kp w j = true := ib_n c'
      rw [ib_f hq] at ih
      exact g_V_digest_181 (g_V_digest_182 (am_R_le (by repeat' (first | exact trivial | exact Or.inr rfl | exact Or.inl rfl | exact Or.inr (congrArg Value.int (nI_succ _)) | refine ⟨?_, ?_⟩)) ih))
    · have c' : ¬ M1 15 j = 0 := c
      rw [e1] at c'
      have hq : w_kp w j = true := ib_y c'
      rw [ib_t hq] at ih
      exact g_V_digest_182 (am_R_le (by repeat' (first | exact trivial | exact Or.inr rfl | exact Or.inl rfl | exact Or.inr (congrArg Value.int (nI_succ _)) | refine ⟨?_, ?_⟩)) ih)
  have t158 : ∀ M1 a, vr M1 w → vf M M1 → hF2 w a = m_dig w → am_R am_S0 mt_V_digest 1 158 [.ref 0, .long a, .null, .int (nI 0)] [] M1 K := by
    intro M1 a r1 f1 e
    refine slot M1 a 0 (by decide) r1 (slot M1 _ 1 (by decide) r1 ?_)
    refine g_V_digest_158 ⟨fun _ => am_R_le (xs := [.ref 0, .long (hs1 (hs1 a (ib (w_kp w 0 = true))) (ib (w_kp w 1 = true))), .null, .null]) (by repeat' (first | exact trivial | exact Or.inr rfl | exact Or.inl rfl | exact Or.inr (congrArg Value.int (nI_succ _)) | refine ⟨?_, ?_⟩)) (t191 M1 _ r1 f1 e), fun c => absurd (i_le (Nat.le_refl 2) (by decide)) c⟩
  have hM : ∀ {M1}, vr M1 w → M1 2 = zp (w_z w) := fun r => r.1
  have hz := hk.1.1
  obtain ⟨m, hm8, hm, -⟩ := hz.2.2.2.2.2
  have hzn : zn (w_z w 5) = m := by rw [hm, zn_nI (by omega)]
  obtain ⟨zf, hf⟩ : ∃ zf, zhours (w_z w) 24 = zf := ⟨_, rfl⟩
  have q5 : ∀ M4 a, vr M4 w → vf M M4 → hF3 w a = m_dig w → am_B am_S0 mt_V_digest (List.drop 55 k_V_digest_31) 1 130 [.ref 0, .long a, .null, .null] [] M4 K := by
    intro M4 a r4 f4 e
    refine c_V_main r4 hk (fun M5 r5 f5 => c_V_goneShare (hM r5) hz (c_V_bits (zshare_D hz) ?_))
    exact t158 M5 (lN 31 * hs1 a (m_main w) + (zshare (w_z w)).toInt64) r5 (vf_trans f4 f5) e
  have q3 : ∀ M4 a, vr M4 w → vf M M4 → hF3 w (hs1 (hs1 a (M4 5 3)) (M4 5 4)) = m_dig w → am_B am_S0 mt_V_digest (List.drop 39 k_V_digest_31) 1 102 [.ref 0, .long a, .null, .null] [] M4 K := fun M4 a r4 f4 e => q5 M4 (hs1 (hs1 a (M4 5 3)) (M4 5 4)) r4 f4 e
  have q2 : ∀ M3 r a, dI (w_z w) M3 r → vr M3 w → vf M M3 → hF3 w (hs1 (hs1 a (rdL (zE (w_z w))).1) (rdL (zE (w_z w))).2) = m_dig w → am_B am_S0 mt_V_digest (List.drop 36 k_V_digest_31) 1 95 [.ref 0, .long a, .null, .null] [] M3 K := by
    intro M3 r a d3 r3 f3 e
    refine c_D_findByLookingBack hk.1 d3 (fun M4 _ d4 R4 g4 => ?_)
    obtain ⟨u3, u4⟩ := rdR_uni R4 (rdL_R (zE_rd hk.1))
    rw [← u3, ← u4] at e
    exact q3 M4 a (vr_kp7 r3 (fun o q => g4 o (by omega) (by omega) (by omega))) (vf_trans f3 (fun o q => g4 o (by omega) (by omega) (by omega))) e
  have q1 : ∀ M3 r a, dI (w_z w) M3 r → vr M3 w → vf M M3 → hF3 w (hs1 (hs1 (hs1 (hs1 a (M3 5 3)) (M3 5 4)) (rdL (zE (w_z w))).1) (rdL (zE (w_z w))).2) = m_dig w → am_B am_S0 mt_V_digest (List.drop 20 k_V_digest_31) 1 67 [.ref 0, .long a, .null, .null] [] M3 K := fun M3 r a d3 r3 f3 e => q2 M3 r (hs1 (hs1 a (M3 5 3)) (M3 5 4)) d3 r3 f3 e
  have q0 : ∀ M1 a, vr M1 w → vf M M1 → hF4 w a = m_dig w → am_B am_S0 mt_V_digest (List.drop 12 k_V_digest_31) 1 49 [.ref 0, .long a, .null, .null] [] M1 K := by
    intro M1 a r1 f1 e
    refine c_D_beginWith (hM r1) (fun M2 d2 f2 => c_D_findByRunners hk.1 d2 (fun M3 r d3 R3 g3 => ?_))
    obtain ⟨u1, u2⟩ := rdR_uni R3 (rdL_R (zE_rd hk.1))
    unfold hF4 at e
    rw [← u1, ← u2] at e
    have e' : hF3 w (hs1 (hs1 (hs1 (hs1 a (M3 5 3)) (M3 5 4)) (rdL (zE (w_z w))).1) (rdL (zE (w_z w))).2) = m_dig w := by
      rw [← u1, ← u2]
      exact e
    exact q1 M3 r a d3 (vr_kp7 r1 (fun o q => (g3 o (by omega) (by omega) (by omega)).trans (f2.1 o (by omega) (by omega) (by omega)))) (vf_trans f1 (fun o q => (g3 o (by omega) (by omega) (by omega)).trans (f2.1 o (by omega) (by omega) (by omega)))) e'
  have t31 : ∀ a, hF7 w a = m_dig w → am_R am_S0 mt_V_digest 1 31 [.ref 0, .long a, .null, .null] [] M K := by
    intro a e
    unfold hF7 hF6 hF5 at e
    rw [hf, hzn] at e
    refine g_V_digest_31 (c_V_hashVats (hM hr) hz hf (fun M1 o1 => ?_))
    have r1 : vr M1 w := vr_kp7 hr (fun o q => o1 o (by omega) (by omega))
    have f1 : vf M M1 := fun o q => o1 o (by omega) (by omega)
    exact c_V_hashValves (hM r1) hm hm8 (c_V_hashDyes (hM r1) (q0 M1 (hsdye (w_z w) (hsval (w_z w) (hsvats (w_z w) zf (fun v => zea v (w_z w) 241) a 5) m) 3) r1 f1 e))
  refine am_C_of_R am_S0 om_V_digest rfl [.ref 0, .null, .null, .null] rfl rfl (g_V_digest_0 ?_)
  refine am_R_le (xs := [.ref 0, .long (hsn (lN 3461) (fun k => zcn k w) 0), .null, .int (nI 0)]) (by repeat' (first | exact trivial | exact Or.inr rfl | exact Or.inl rfl | exact Or.inr (congrArg Value.int (nI_succ _)) | refine ⟨?_, ?_⟩)) ?_
  refine lu (P := fun i => am_R am_S0 mt_V_digest 1 6 [.ref 0, .long (hsn (lN 3461) (fun k => zcn k w) i), .null, .int (nI i)] [] M K) 10 ?_ ?_
  · refine g_V_digest_6 ⟨fun _ => am_R_le (xs := [.ref 0, .long (hsn (lN 3461) (fun k => zcn k w) 10), .null, .null]) (by repeat' (first | exact trivial | exact Or.inr rfl | exact Or.inl rfl | exact Or.inr (congrArg Value.int (nI_succ _)) | refine ⟨?_, ?_⟩)) (t31 (hsn (lN 3461) (fun k => zcn k w) 10) (by unfold m_dig; rfl)), fun c => absurd ((nI_lti (a := 9) (b := 10) (by decide) (by decide)).mpr (by decide)) c⟩
  · intro i hi ih
    refine g_V_digest_6 ⟨fun c => ?_, fun _ => c_V_numberOf (k := i) hr hk (by omega) (am_R_le (by repeat' (first | exact trivial | exact Or.inr rfl | exact Or.inl rfl | exact Or.inr (congrArg Value.int (nI_succ _)) | refine ⟨?_, ?_⟩)) ih)⟩
    have c' : nI 9 < nI i := c
    have := (nI_lti (by decide) (by omega)).mp c'
    omega
