/-! the class reads its text -/
def tnv (n : Option Nat) : Int32 := match n with
  | none => -nI 1
  | some m => nI m
def tM (M : am_M) (t : tS) : Prop := M 9 3 = nI t.1 ∧ M 9 5 = nI t.2.1 ∧ M 9 6 = tnv t.2.2.1 ∧ (∀ k, k < t.2.1 + tq t.2.2.1 → M 12 k = nI (t.2.2.2 (5 * t.1 + k))) ∧ ∀ k, k < 5 * t.1 + t.2.1 + tq t.2.2.1 → M 11 k = nI (t.2.2.2 k)
/-- what the reading leaves alone -/
def tF (M M' : am_M) : Prop := (∀ o, o ≠ 9 → o ≠ 11 → o ≠ 12 → M' o = M o) ∧ M' 9 1 = M 9 1
theorem tF_refl (M : am_M) : tF M M := ⟨fun _ _ _ _ => rfl, rfl⟩
theorem tF_trans {M M' M'' : am_M} (h : tF M M') (h' : tF M' M'') : tF M M'' := ⟨fun o a b c => (h'.1 o a b c).trans (h.1 o a b c), h'.2.trans h.2⟩
theorem tF_9 {M M' : am_M} {k : Nat} {x : Int32} (h : tF M M') (hk : k ≠ 1) : tF M (am_set M' 9 (upd (M' 9) k x)) := by
  refine ⟨fun o a b c => by rw [am_so _ _ a]; exact h.1 o a b c, ?_⟩
  rw [am_set_eq, upd_ne _ _ (Ne.symm hk)]
  exact h.2
theorem tF_o {M M' : am_M} {o : Nat} {f : Nat → Int32} (h : tF M M') (ho : o = 11 ∨ o = 12) : tF M (am_set M' o f) := by
  refine ⟨fun q a b c => by rw [am_so _ _ (by omega)]; exact h.1 q a b c, ?_⟩
  rw [am_so _ _ (by omega)]
  exact h.2
theorem tmost_le (p : Nat) : tmost p ≤ 500 := by
  unfold tmost
  split
  · omega
  · split
    · omega
    · split <;> omega
theorem m1_ne {m : Nat} (h : m < 2 ^ 31) : ¬ nI m = -nI 1 := by
  intro q
  have := congrArg Int32.toInt q
  rw [nI_toInt h, show (-nI 1).toInt = -1 by decide +kernel] at this
  omega
theorem c_T_least {p r3 : Nat} {M : am_M} {K : am_Q} (hp : M 9 5 = nI p) (hp5 : p < 5) (h3 : p = 4 → M 12 3 = nI r3) (h : K (.inl (some (.int (nI (tlow p r3))))) M) : am_C mt_T_leastOfPart [.ref 9] M K := by
  have e : (M 9 5).toInt = p := by rw [hp, nI_toInt (by omega)]
  refine am_C_of_R am_S0 om_T_leastOfPart rfl [.ref 9] rfl rfl (g_T_leastOfPart_0 ⟨fun c => ?_, fun c => ⟨fun c2 => ?_, fun c2 => ?_⟩⟩)
  · have c' : (M 9 5).toInt = 2 := c
    have e2 : p = 2 := by omega
    subst e2
    exact g_T_leastOfPart_32 h
  · have c' : (M 9 5).toInt = 4 := c2
    have e2 : p = 4 := by omega
    subst e2
    rw [show nI (tlow 4 r3) = M 12 3 from (h3 rfl).symm] at h
    exact g_T_leastOfPart_34 ⟨3, rfl, by decide, h⟩
  · have c1' : ¬ (M 9 5).toInt = 2 := c
    have c2' : ¬ (M 9 5).toInt = 4 := c2
    have e0 : tlow p r3 = 0 := by unfold tlow; rw [if_neg (by omega), if_neg (by omega)]
    rw [e0] at h
    exact g_T_leastOfPart_41 h
theorem c_T_most {p : Nat} {M : am_M} {K : am_Q} (hp : M 9 5 = nI p) (hp5 : p < 5) (h : K (.inl (some (.int (nI (tmost p))))) M) : am_C mt_T_mostOfPart [.ref 9] M K := by
  have e : (M 9 5).toInt = p := by rw [hp, nI_toInt (by omega)]
  refine am_C_of_R am_S0 om_T_mostOfPart rfl [.ref 9] rfl rfl (g_T_mostOfPart_0 ⟨fun c => ?_, fun c => ?_, fun c => ?_, fun c => ?_, trivial⟩)
  · have e0 : tmost p = 23 := by unfold tmost; rw [if_neg (by omega), if_neg (by omega), if_neg (by omega)]
    rw [e0] at h
    exact g_T_mostOfPart_40 h
  · have c' : (M 9 5).toInt = 0 := c
    have e2 : p = 0 := by omega
    subst e2
    exact g_T_mostOfPart_32 h
  · have c' : (M 9 5).toInt = 0 + 1 := c
    have e2 : p = 1 := by omega
    subst e2
    exact g_T_mostOfPart_34 h
  · have c' : (M 9 5).toInt = 0 + 1 + 1 := c
    have e2 : p = 2 := by omega
    subst e2
    exact g_T_mostOfPart_36 h
theorem c_T_whole0 {M : am_M} {K : am_Q} (hn : M 9 6 = -nI 1) (h : K (.inl (some (.int (nI 0)))) M) : am_C mt_T_isWholeNumber [.ref 9] M K :=
  am_C_of_R am_S0 om_T_isWholeNumber rfl [.ref 9] rfl rfl (g_T_isWholeNumber_0 ⟨fun _ => g_T_isWholeNumber_34 (g_T_isWholeNumber_35 ⟨Or.inl rfl, h⟩), fun c => absurd hn c⟩)
theorem c_T_whole1 {p r3 m : Nat} {M : am_M} {K : am_Q} (hn : M 9 6 = nI m) (hm : m < 2 ^ 31) (hp : M 9 5 = nI p) (hp5 : p < 5) (h3 : p = 4 → M 12 3 = nI r3) (hlo : tlow p r3 ≤ 23) (h1 : tlow p r3 ≤ m ∧ m ≤ tmost p → K (.inl (some (.int (nI 1)))) M) (h0 : ¬ (tlow p r3 ≤ m ∧ m ≤ tmost p) → K (.inl (some (.int (nI 0)))) M) : am_C mt_T_isWholeNumber [.ref 9] M K := by
  have hmo := tmost_le p
  refine am_C_of_R am_S0 om_T_isWholeNumber rfl [.ref 9] rfl rfl (g_T_isWholeNumber_0 ⟨fun c => ?_, fun c => c_T_least hp hp5 h3 ⟨fun c2 => ?_, fun c2 => c_T_most hp hp5 ⟨fun c3 => ?_, fun c3 => ?_⟩⟩⟩)
  · have c' : M 9 6 = -nI 1 := c
    rw [hn] at c'
    exact absurd c' (m1_ne hm)
  · have c' : M 9 6 < nI (tlow p r3) := c2
    rw [hn] at c'
    have := (nI_lti hm (by omega)).mp c'
    exact g_T_isWholeNumber_34 (g_T_isWholeNumber_35 ⟨Or.inl rfl, h0 (by omega)⟩)
  · have c' : nI (tmost p) < M 9 6 := c3
    rw [hn] at c'
    have := (nI_lti (by omega) hm).mp c'
    exact g_T_isWholeNumber_34 (g_T_isWholeNumber_35 ⟨Or.inl rfl, h0 (by omega)⟩)
  · have c2' : ¬ M 9 6 < nI (tlow p r3) := c2
    have c3' : ¬ nI (tmost p) < M 9 6 := c3
    rw [hn] at c2' c3'
    have a2 : ¬ m < tlow p r3 := fun q => c2' ((nI_lti hm (by omega)).mpr q)
    have a3 : ¬ tmost p < m := fun q => c3' ((nI_lti (by omega) hm).mpr q)
    exact g_T_isWholeNumber_35 ⟨Or.inr rfl, h1 (by omega)⟩
theorem c_T_can {p r0 r3 s : Nat} {M : am_M} {K : am_Q} (hs : s ≤ 6000) (hp : M 9 5 = nI p) (hp5 : p < 5) (hr0 : p = 1 → M 12 0 = nI r0 ∧ r0 < 2 ^ 31) (h3 : p = 4 → M 12 3 = nI r3) (hlo : tlow p r3 ≤ 23) (h1 : tcan p r0 r3 s → K (.inl (some (.int (nI 1)))) M) (h0 : ¬ tcan p r0 r3 s → K (.inl (some (.int (nI 0)))) M) : am_C mt_T_canBecomeWhole [.ref 9, .int (nI s)] M K := by
  have hmo := tmost_le p
  have st : ∀ q, 1 ≤ q → q ≤ 100 → (s * q ≤ tmost p ∧ tlow p r3 ≤ s * q + q - 1 → K (.inl (some (.int (nI 1)))) M) → (¬ (s * q ≤ tmost p ∧ tlow p r3 ≤ s * q + q - 1) → am_R am_S0 mt_T_canBecomeWhole 1 39 [.ref 9, .int (nI s), .int (nI (q * 10))] [] M K) → am_R am_S0 mt_T_canBecomeWhole 1 39 [.ref 9, .int (nI s), .int (nI q)] [] M K := by
    intro q q1 q2 a1 a0
    have hb : s * q ≤ 6000 * 100 := Nat.mul_le_mul hs q2
    refine g_T_canBecomeWhole_39 ⟨fun c => ?_, fun c => c_T_most hp hp5 ⟨fun c2 => ?_, fun c2 => c_T_least hp hp5 h3 ⟨fun c3 => ?_, fun c3 => ?_⟩⟩⟩
    · have c' : nI 100 < nI q := c
      have := (nI_lti (by decide) (by omega)).mp c'
      omega
    · have c' : nI (tmost p) < nI s * nI q := c2
      rw [pk_mul] at c'
      have := (nI_lti (by omega) (by omega)).mp c'
      refine g_T_canBecomeWhole_71 ?_
      show am_R am_S0 mt_T_canBecomeWhole 1 39 [.ref 9, .int (nI s), .int (nI q * nI 10)] [] M K
      rw [pk_mul]
      exact a0 (by omega)
    · have c' : nI s * nI q + nI q - nI 1 < nI (tlow p r3) := c3
      rw [pk_mul, nI_add, nI_subk (by omega)] at c'
      have := (nI_lti (by omega) (by omega)).mp c'
      refine g_T_canBecomeWhole_71 ?_
      show am_R am_S0 mt_T_canBecomeWhole 1 39 [.ref 9, .int (nI s), .int (nI q * nI 10)] [] M K
      rw [pk_mul]
      exact a0 (by omega)
    · have c2' : ¬ nI (tmost p) < nI s * nI q := c2
      have c3' : ¬ nI s * nI q + nI q - nI 1 < nI (tlow p r3) := c3
      rw [pk_mul] at c2' c3'
      rw [nI_add, nI_subk (by omega)] at c3'
      have b2 : ¬ tmost p < s * q := fun z => c2' ((nI_lti (by omega) (by omega)).mpr z)
      have b3 : ¬ s * q + q - 1 < tlow p r3 := fun z => c3' ((nI_lti (by omega) (by omega)).mpr z)
      exact ⟨Or.inr rfl, a1 (by omega)⟩
  have mid : ¬ (p = 1 ∧ s = r0) → am_R am_S0 mt_T_canBecomeWhole 1 20 [.ref 9, .int (nI s), .null] [] M K := by
    intro hA
    refine g_T_canBecomeWhole_20 ⟨fun c => ?_, fun c => c_T_least hp hp5 h3 ⟨fun c2 => ?_, fun c2 => ?_⟩⟩
    · have hs0 : s ≠ 0 := fun q => c (by rw [q]; rfl)
      refine g_T_canBecomeWhole_37 ?_
      refine am_R_le (xs := [.ref 9, .int (nI s), .int (nI 1)]) (by repeat' (first | exact trivial | exact Or.inr rfl | exact Or.inl rfl | exact Or.inr (congrArg Value.int (nI_succ _)) | refine ⟨?_, ?_⟩)) ?_
      refine st 1 (by omega) (by omega) (fun a => h1 ⟨hA, Or.inr ⟨hs0, Or.inl (by omega)⟩⟩) (fun a1 => ?_)
      refine st 10 (by omega) (by omega) (fun a => h1 ⟨hA, Or.inr ⟨hs0, Or.inr (Or.inl (by omega))⟩⟩) (fun a2 => ?_)
      refine st 100 (by omega) (by omega) (fun a => h1 ⟨hA, Or.inr ⟨hs0, Or.inr (Or.inr (by omega))⟩⟩) (fun a3 => ?_)
      refine g_T_canBecomeWhole_39 ⟨fun c => g_T_canBecomeWhole_79 ⟨Or.inl rfl, h0 (fun z => ?_)⟩, fun c => absurd ((nI_lti (a := 100) (b := 1000) (by decide) (by decide)).mpr (by decide)) c⟩
      rcases z.2 with z | ⟨_, z | z | z⟩ <;> omega
    · have c' : ¬ nI (tlow p r3) = 0 := c2
      have hs0 : s = 0 := (nI_eq (a := s) (b := 0) (by omega) (by decide)).mp (Classical.not_not.mp c)
      have hl : tlow p r3 ≠ 0 := fun q => c' (by rw [q]; rfl)
      refine g_T_canBecomeWhole_35 (g_T_canBecomeWhole_36 ⟨Or.inl rfl, h0 (fun z => ?_)⟩)
      rcases z.2 with z | ⟨z, _⟩
      · exact hl z.2
      · exact z hs0
    · have c' : nI (tlow p r3) = 0 := Classical.not_not.mp c2
      have hs0 : s = 0 := (nI_eq (a := s) (b := 0) (by omega) (by decide)).mp (Classical.not_not.mp c)
      have hl : tlow p r3 = 0 := (nI_eq (a := tlow p r3) (b := 0) (by omega) (by decide)).mp c'
      exact g_T_canBecomeWhole_36 ⟨Or.inr rfl, h1 ⟨hA, Or.inl ⟨hs0, hl⟩⟩⟩
  refine am_C_of_R am_S0 om_T_canBecomeWhole rfl [.ref 9, .int (nI s), .null] rfl rfl (g_T_canBecomeWhole_0 ⟨fun c => mid ?_, fun c => ⟨0, rfl, by decide, fun c2 => mid ?_, fun c2 => ⟨Or.inl rfl, h0 ?_⟩⟩⟩)
  · have c' : ¬ M 9 5 = nI 1 := c
    exact fun q => c' (by rw [hp, q.1])
  · have hp1 : p = 1 := (nI_eq (a := p) (b := 1) (by omega) (by decide)).mp (hp.symm.trans (Classical.not_not.mp c))
    have c' : ¬ nI s = M 12 0 := c2
    exact fun q => c' (by rw [(hr0 hp1).1, q.2])
  · have hp1 : p = 1 := (nI_eq (a := p) (b := 1) (by omega) (by decide)).mp (hp.symm.trans (Classical.not_not.mp c))
    have c' : nI s = M 12 0 := Classical.not_not.mp c2
    rw [(hr0 hp1).1] at c'
    have e : s = r0 := (nI_eq (by omega) (hr0 hp1).2).mp c'
    exact fun q => q.1 ⟨hp1, e⟩
theorem tlow_le {i e p : Nat} {n : Option Nat} {r : Nat → Nat} (h : tI i (e, p, n, r)) : tlow p (r (5 * e + 3)) ≤ 23 := by
  obtain ⟨h1, h2, h3, h4, h5, h6, h7, h8⟩ := h
  simp only at h7 h1
  unfold tlow
  split
  · omega
  · split
    · rename_i c
      exact h7 (by omega)
    · omega
theorem tM_r0 {i e p : Nat} {n : Option Nat} {r : Nat → Nat} {M : am_M} (hT : tM M (e, p, n, r)) (hI : tI i (e, p, n, r)) : p = 1 → M 12 0 = nI (r (5 * e)) ∧ r (5 * e) < 2 ^ 31 := by
  intro q
  obtain ⟨a1, a2, a3, a4, a5⟩ := hT
  obtain ⟨h1, h2, h3, h4, h5⟩ := hI
  simp only at a4 h4
  have k4 := h4 (by omega)
  have k5 := a4 0 (by omega)
  rw [Nat.add_zero] at k5
  exact ⟨k5, by omega⟩
theorem tM_r3 {e p : Nat} {n : Option Nat} {r : Nat → Nat} {M : am_M} (hT : tM M (e, p, n, r)) : p = 4 → M 12 3 = nI (r (5 * e + 3)) := by
  intro q
  obtain ⟨a1, a2, a3, a4, a5⟩ := hT
  simp only at a4
  exact a4 3 (by omega)
theorem c_T_digit {i d e p : Nat} {n : Option Nat} {r : Nat → Nat} {M : am_M} {K : am_Q} (hd : d ≤ 9) (hi : i ≤ 60) (hT : tM M (e, p, n, r)) (hI : tI i (e, p, n, r)) (h1 : n ≠ some 0 ∧ tcan p (r (5 * e)) (r (5 * e + 3)) (tlong n d) → ∀ M', tM M' (e, p, some (tlong n d), trw r (5 * e + p) (tlong n d)) → tF M M' → K (.inl (some (.int (nI 1)))) M') (h0 : ¬ (n ≠ some 0 ∧ tcan p (r (5 * e)) (r (5 * e + 3)) (tlong n d)) → K (.inl (some (.int (nI 0)))) M) : am_C mt_T_takesDigit [.ref 9, .int (nI d)] M K := by
  have hr0 := tM_r0 hT hI
  have hr3 := tM_r3 hT
  have hlo := tlow_le hI
  obtain ⟨a1, a2, a3, a4, a5⟩ := hT
  obtain ⟨b1, b2, b3, b4, b5, b6, b7, b8⟩ := hI
  simp only at a1 a2 a3 a4 a5 b1 b2 b8
  have hmo := tmost_le p
  have hs : tlong n d ≤ 6000 := by
    unfold tlong
    cases n with
    | none => show d ≤ 6000; omega
    | some m => have := (b8 m rfl).2.1; show m * 10 + d ≤ 6000; omega
  have tail : n ≠ some 0 → am_R am_S0 mt_T_takesDigit 1 45 [.ref 9, .int (nI d), .null] [.int (nI (tlong n d))] M K := by
    intro hn0
    refine g_T_takesDigit_45 (c_T_can hs a2 b1 hr0 hr3 hlo (fun hc => ⟨fun c => ?_, fun c => absurd nI1_ne c⟩) (fun hc => ⟨fun c => absurd nI_0 c, fun c => ⟨Or.inl rfl, h0 (fun q => hc q.2)⟩⟩))
    have hc2 := h1 ⟨hn0, hc⟩
    generalize hs' : tlong n d = s at hs hc hc2 ⊢
    refine g_T_takesDigit_56 ⟨p, ?_, by show p < 5; exact b1, ?_⟩
    · show upd (M 9) 6 (nI s) 5 = _
      rw [upd_ne _ _ (by decide)]
      exact a2
    · refine ⟨fun c => ?_, fun c => ⟨fun c2 => ?_, fun c2 => ⟨5 * e + p, ?_, by show _ < 40; omega, g_T_takesDigit_104 ⟨Or.inr rfl, hc2 _ ⟨?_, ?_, ?_, ?_, ?_⟩ ?_⟩⟩⟩⟩
      · have c' : upd (M 9) 6 (nI s) 3 < 0 := c
        rw [upd_ne _ _ (by decide), a1] at c'
        exact absurd c' (nI_pos (by omega))
      · have c' : nI 8 ≤ upd (M 9) 6 (nI s) 3 := c2
        rw [upd_ne _ _ (by decide), a1] at c'
        exact absurd c' (i_nge (by omega) (by decide))
      · show upd (M 9) 6 (nI s) 3 * nI 5 + upd (M 9) 6 (nI s) 5 = _
        rw [upd_ne _ _ (by decide), upd_ne _ _ (by decide), a1, a2, pk_mul, nI_add, Nat.mul_comm]
      · show upd (M 9) 6 (nI s) 3 = _
        rw [upd_ne _ _ (by decide)]
        exact a1
      · show upd (M 9) 6 (nI s) 5 = _
        rw [upd_ne _ _ (by decide)]
        exact a2
      · exact upd_eq (M 9) 6 (nI s)
      · intro k hk
        have hk' : k < p + 1 := hk
        show upd (M 12) p (nI s) k = nI (trw r (5 * e + p) s (5 * e + k))
        by_cases ck : k = p
        · rw [upd_eq' _ _ ck, ck, trw_eq]
        · rw [upd_ne _ _ ck, trw_ne _ _ (by omega)]
          exact a4 k (by omega)
      · intro k hk
        have hk' : k < 5 * e + p + 1 := hk
        show upd (M 11) (5 * e + p) (nI s) k = nI (trw r (5 * e + p) s k)
        by_cases ck : k = 5 * e + p
        · rw [upd_eq' _ _ ck, ck, trw_eq]
        · rw [upd_ne _ _ ck, trw_ne _ _ ck]
          exact a5 k (by omega)
      · exact tF_o (tF_o (tF_9 (tF_refl M) (by decide)) (Or.inr rfl)) (Or.inl rfl)
  refine am_C_of_R am_S0 om_T_takesDigit rfl [.ref 9, .int (nI d), .null] rfl rfl (g_T_takesDigit_0 ⟨fun c => ?_, fun c => ⟨fun c2 => ?_, fun c2 => ⟨fun c3 => g_T_takesDigit_24 ⟨fun c4 => g_T_takesDigit_36 ?_, fun c4 => ?_⟩, fun c3 => g_T_takesDigit_22 ⟨Or.inl rfl, h0 ?_⟩⟩⟩⟩)
  · have c' : M 9 5 < 0 := c
    rw [a2] at c'
    exact absurd c' (nI_pos (by omega))
  · have c' : nI 5 ≤ M 9 5 := c2
    rw [a2] at c'
    exact absurd c' (i_nge b1 (by decide))
  · have c' : ¬ M 9 6 = -nI 1 := c4
    have c3' : ¬ M 9 6 = 0 := c3
    cases n with
    | none => exact absurd a3 c'
    | some m =>
      have a3' : M 9 6 = nI m := a3
      have hm : m ≠ 0 := fun q => c3' (by rw [a3', q]; rfl)
      have := tail (fun q => hm (Option.some.inj q))
      show am_R am_S0 mt_T_takesDigit 1 45 [.ref 9, .int (nI d), .null] [.int (M 9 6 * nI 10 + nI d)] M K
      rw [a3', pk_mul, nI_add]
      exact this
  · have c' : M 9 6 = -nI 1 := Classical.not_not.mp c4
    cases n with
    | none => exact tail (fun q => by cases q)
    | some m =>
      have a3' : M 9 6 = nI m := a3
      rw [a3'] at c'
      have hm := (b8 m rfl).2.1
      exact absurd c' (m1_ne (by omega))
  · have c' : M 9 6 = 0 := Classical.not_not.mp c3
    intro q
    apply q.1
    cases n with
    | none =>
      have a3' : M 9 6 = -nI 1 := a3
      rw [a3'] at c'
      exact absurd c' (by decide +kernel)
    | some m =>
      have a3' : M 9 6 = nI m := a3
      have hm := (b8 m rfl).2.1
      rw [a3'] at c'
      rw [(nI_eq (a := m) (b := 0) (by omega) (by decide)).mp c']
