/-! the reference finds a round -/
theorem nI_dec (c : Nat) : nI (c + 1) - nI 1 = nI c := by rw [nI_sub1 (by omega), Nat.add_sub_cancel]
theorem c_Z_findRound {n : Nat} {z : dz} {M : am_M} {K : am_Q} (hM : M 18 = z) (hz : zko n z) (h : ∀ M', rdR (zE z) (M' 17 10) (M' 17 11) → (∀ o, o ≠ 17 → o ≠ 19 → o ≠ 24 → M' o = M o) → (∀ k, k ≠ 10 → k ≠ 11 → M' 17 k = M 17 k) → K (.inl none) M') : am_C mt_Z_findRound [.ref 17] M K := by
  have hE := zE_rd hz
  have same : ∀ f a b, zL z f 61 → a ≤ 60 → b ≤ 60 → ((∀ k, k < 35 → f (35 * a + k) = f (35 * b + k)) ↔ zE z a b) := by
    intro f a b hf ha hb
    have hl := ag_lookZ (a := zdy z a) (b := zdy z b) (fun i hi => ((zdy_ok hz.1 a).2 i hi).trans ((zdy_ok hz.1 b).2 i hi).symm)
    unfold zE
    rw [← hl]
    refine ⟨fun q k hk => ?_, fun q k hk => ?_⟩
    · have := q k hk
      rw [hf a (by omega) k hk, hf b (by omega) k hk] at this
      exact this
    · rw [hf a (by omega) k hk, hf b (by omega) k hk]; exact q k hk
  have loops : ∀ X : am_M, zL z (X 24) 61 → (∀ o, o ≠ 17 → o ≠ 19 → o ≠ 24 → X o = M o) → ∀ c, c ≤ 61 → ∀ M1, (∀ o, o ≠ 17 → M1 o = X o) → (∀ k, k ≠ 10 → k ≠ 11 → M1 17 k = M 17 k) → rI (zE z) (fun i j => i < j ∧ j ≤ 60 ∧ c ≤ i) (M1 17 10) (M1 17 11) → am_R am_S0 mt_Z_findRound 1 80 [.ref 17, .int (nI c - nI 1), .null] [] M1 K := by
    intro X hX hXo c
    induction c with
    | zero =>
      intro _ M1 h1 h2 h3
      refine g_Z_findRound_80 ⟨fun c => g_Z_findRound_149 (h M1 (rI_fin hE (rI_imp (fun i j => by omega) h3)) (fun o a b d => (h1 o a).trans (hXo o a b d)) h2), fun c => absurd (show nI 0 - nI 1 < 0 by decide +kernel) c⟩
    | succ c ihc =>
      intro hc M1 h1 h2 h3
      rw [nI_dec]
      refine g_Z_findRound_80 ⟨fun c2 => absurd c2 (nI_pos (by omega)), fun c2 => ?_⟩
      have inner : ∀ m o, c + m = o → o ≤ 60 → ∀ M2, (∀ q, q ≠ 17 → M2 q = X q) → (∀ k, k ≠ 10 → k ≠ 11 → M2 17 k = M 17 k) → rI (zE z) (fun i j => i < j ∧ j ≤ 60 ∧ (c < i ∨ (i = c ∧ o < j))) (M2 17 10) (M2 17 11) → am_R am_S0 mt_Z_findRound 1 87 [.ref 17, .int (nI c), .int (nI o)] [] M2 K := by
        intro m
        induction m with
        | zero =>
          intro o ho ho60 M2 k1 k2 k3
          have : o = c := by omega
          subst this
          refine g_Z_findRound_87 ⟨fun c3 => g_Z_findRound_143 ?_, fun c3 => absurd (i_le (Nat.le_refl o) (by omega)) c3⟩
          have next := ihc (by omega) M2 k1 k2 (rI_imp (fun i j => by omega) k3)
          rw [Int32.sub_eq_add_neg] at next
          exact am_R_le (by repeat' (first | exact trivial | exact Or.inr rfl | exact Or.inl rfl | exact Or.inr (congrArg Value.int (nI_succ _)) | refine ⟨?_, ?_⟩)) next
        | succ m ihm =>
          intro o ho ho60 M2 k1 k2 k3
          have e24 : M2 24 = X 24 := k1 24 (by decide)
          obtain ⟨o', rfl⟩ : ∃ o', o = o' + 1 := ⟨o - 1, by omega⟩
          have ed : nI (o' + 1) + -nI 1 = nI o' := by rw [← Int32.sub_eq_add_neg, nI_dec]
          have goon : ∀ M3, (∀ q, q ≠ 17 → M3 q = X q) → (∀ k, k ≠ 10 → k ≠ 11 → M3 17 k = M 17 k) → rI (zE z) (fun i j => (i < j ∧ j ≤ 60 ∧ (c < i ∨ (i = c ∧ o' + 1 < j))) ∨ (i = c ∧ j = o' + 1)) (M3 17 10) (M3 17 11) → am_R am_S0 mt_Z_findRound 1 137 [.ref 17, .int (nI c), .int (nI (o' + 1))] [] M3 K := by
            intro M3 a1 a2 a3
            have next := ihm o' (by omega) (by omega) M3 a1 a2 (rI_imp (fun i j => by omega) a3)
            rw [← ed] at next
            exact g_Z_findRound_137 (am_R_le (by repeat' (first | exact trivial | exact Or.inr rfl | exact Or.inl rfl | exact Or.inr (congrArg Value.int (nI_succ _)) | refine ⟨?_, ?_⟩)) next)
          have hs := same (M2 24) c (o' + 1) (by rw [e24]; exact hX) (by omega) ho60
          refine g_Z_findRound_87 ⟨fun c3 => absurd c3 (i_nge (show c < o' + 1 by omega) (by omega)), fun c3 => c_Z_isSameLook (by omega) (by omega) (fun q => ⟨fun c4 => absurd c4 nI1_ne, fun c4 => ?_⟩) (fun q => ⟨fun c4 => goon M2 k1 k2 (rI_no (fun e => q (hs.mpr e)) k3), fun c4 => absurd rfl c4⟩)⟩
          have hEE := hs.mp q
          have hy := rI_yes hEE (by omega) ho60 (fun i j p => by omega) k3
          have es : nI (o' + 1) - nI c = nI (o' + 1 - c) := nI_subk (by omega)
          have fin : ∀ v, v = (if M2 17 10 < 0 ∨ nI (o' + 1 - c) < M2 17 10 then nI (o' + 1 - c) else M2 17 10) → am_R am_S0 mt_Z_findRound 1 134 [.ref 17, .int (nI c), .int (nI (o' + 1))] [.int v, .ref 17] (am_set M2 17 (upd (M2 17) 11 (nI c))) K := by
            intro v ev
            refine g_Z_findRound_134 (goon (am_set (am_set M2 17 (upd (M2 17) 11 (nI c))) 17 (upd (upd (M2 17) 11 (nI c)) 10 v)) (fun q hq => by rw [am_so _ _ hq, am_so _ _ hq]; exact k1 q hq) (fun k h10 h11 => ?_) ?_)
            · rw [am_set_eq, upd_ne _ _ h10, upd_ne _ _ h11]; exact k2 k h10 h11
            · rw [am_set_eq, upd_eq, upd_ne _ _ (by decide), upd_eq, ev]
              exact hy
          refine ⟨fun c5 => g_Z_findRound_124 (fin (nI (o' + 1) - nI c) ?_), fun c5 => ⟨fun c6 => g_Z_findRound_130 (fin (M2 17 10) ?_), fun c6 => g_Z_findRound_124 (fin (nI (o' + 1) - nI c) ?_)⟩⟩
          · have c7 : M2 17 10 < 0 := c5
            rw [if_pos (Or.inl c7), es]
          · have c7 : ¬ M2 17 10 < 0 := c5
            have c8 : M2 17 10 ≤ nI (o' + 1) - nI c := c6
            rw [es] at c8
            rw [if_neg (fun q => q.elim c7 (fun q => Int32.not_le.mpr q c8))]
          · have c8 : ¬ M2 17 10 ≤ nI (o' + 1) - nI c := c6
            rw [es] at c8
            rw [if_pos (Or.inr (Int32.not_le.mp c8)), es]
      have i0 := inner (60 - c) 60 (by omega) (Nat.le_refl _) M1 h1 h2 (rI_imp (fun i j => by omega) h3)
      exact am_R_le (by repeat' (first | exact trivial | exact Or.inr rfl | exact Or.inl rfl | exact Or.inr (congrArg Value.int (nI_succ _)) | refine ⟨?_, ?_⟩)) i0
  refine am_C_of_R am_S0 om_Z_findRound rfl [.ref 17, .null, .null] rfl rfl (g_Z_findRound_0 (c_Z_putAside ?_))
  refine am_R_le (xs := [.ref 17, .int (nI 0), .null]) (by repeat' (first | exact trivial | exact Or.inr rfl | exact Or.inl rfl | exact Or.inr (congrArg Value.int (nI_succ _)) | refine ⟨?_, ?_⟩)) (c_Z_days (z := z) hM hz.1 (fun M' d1 d2 d3 => g_Z_findRound_63 (c_Z_putBack ?_)))
  have e19 : M' 19 = M 18 := d3 19 (by decide) (by decide)
  have eo : ∀ o, o ≠ 18 → o ≠ 19 → o ≠ 24 → M' o = M o := fun o a b d => (d3 o a d).trans (am_so _ _ b)
  have fin := loops (am_set M' 18 (M' 19)) d1 (fun o a b d => by
    by_cases c : o = 18
    · subst c; rw [am_set_eq]; exact e19
    · rw [am_so _ _ c]; exact eo o c b d) 61 (Nat.le_refl _) (am_set (am_set (am_set M' 18 (M' 19)) 17 (upd (M' 17) 10 (-nI 1))) 17 (upd (upd (M' 17) 10 (-nI 1)) 11 (-nI 1))) (fun q hq => by rw [am_so _ _ hq, am_so _ _ hq]) (fun k h10 h11 => by
    rw [am_set_eq, upd_ne _ _ h11, upd_ne _ _ h10, eo 17 (by decide) (by decide) (by decide)]) (Or.inl ⟨fun i j q => by omega, by rw [am_set_eq, upd_ne _ _ (by decide), upd_eq], by rw [am_set_eq, upd_eq]⟩)
  rw [nI_dec] at fin
  exact am_R_le (by repeat' (first | exact trivial | exact Or.inr rfl | exact Or.inl rfl | exact Or.inr (congrArg Value.int (nI_succ _)) | refine ⟨?_, ?_⟩)) fin
