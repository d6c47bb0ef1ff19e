/-! the class finds a round by two runners -/
theorem rd_meet {E : Nat → Nat → Prop} (hE : rdE E) (h : ∀ m, 1 ≤ m → m ≤ 60 → ¬ E m (2 * m)) : rd0 E 60 := by
  rcases rd_or E 60 with c | ⟨a, d, hd, c⟩
  · exact c
  · exfalso
    have hp : 0 < d - a := by have := c.1; omega
    have e1 := Nat.div_add_mod a (d - a)
    have e2 := Nat.mod_lt a hp
    have e3 : (d - a) * (a / (d - a) + 1) = (d - a) * (a / (d - a)) + (d - a) := Nat.mul_succ _ _
    refine h ((d - a) * (a / (d - a) + 1)) (by omega) (by omega) ?_
    refine (rd_iff hE c (by omega) (by omega)).mpr ⟨by omega, ?_⟩
    rw [show 2 * ((d - a) * (a / (d - a) + 1)) - (d - a) * (a / (d - a) + 1) = (d - a) * (a / (d - a) + 1) by omega]
    exact Nat.mul_mod_right _ _
theorem c_D_findByRunners {n r : Nat} {z : dz} {M : am_M} {K : am_Q} (hz : zko n z) (hI : dI z M r) (h : ∀ M' r', dI z M' r' → rdR (zE z) (M' 5 3) (M' 5 4) → dG M M' → K (.inl none) M') : am_C mt_D_findByRunners [.ref 5] M K := by
  have hE := zE_rd hz
  have two : ∀ m : Nat, nI 2 * nI m = nI (2 * m) := fun m => pk_mul 2 m
  -- behind a meeting
  have met : ∀ m M1 r1, 1 ≤ m → m ≤ 60 → 2 * m ≤ r1 → dI z M1 r1 → M1 5 3 = -nI 1 → M1 5 4 = -nI 1 → dG M M1 → zE z m (2 * m) → am_R am_S0 mt_D_findByRunners 1 51 [.ref 5, .int (nI m), .null, .null] [] M1 K := by
    intro m M1 r1 hm1 hm hr hI1 e3 e4 hG hs
    have hr1 := hI1.2.2.1
    rcases rd_or (zE z) 120 with c | ⟨a, d, hd, c⟩
    · exact absurd hs (c (2 * m) (by omega) m (by omega))
    have hp : 0 < d - a := by have := c.1; omega
    obtain ⟨ham, hmod⟩ := (rd_iff hE c (show m < 2 * m by omega) (by omega)).mp hs
    rw [show 2 * m - m = m by omega] at hmod
    have hpm : d - a ≤ m := Nat.le_of_dvd (by omega) (Nat.dvd_of_mod_eq_zero hmod)
    have fin : am_R am_S0 mt_D_findByRunners 1 99 [.ref 5, .int (nI m), .int (nI a), .int (nI (d - a))] [] M1 K := by
      refine g_D_findByRunners_99 ⟨fun c2 => g_D_findByRunners_117 (h M1 r1 hI1 ?_ hG), fun c2 => ?_⟩
      · have c3 : nI 60 < nI a + nI (d - a) := c2
        rw [nI_add] at c3
        have := (nI_lti (by decide) (by omega)).mp c3
        rw [e3, e4]
        exact rdR_none (fun j hj i hi => c.2.2 j (by omega) i hi)
      · have c3 : ¬ nI 60 < nI a + nI (d - a) := c2
        rw [nI_add] at c3
        have hd60 : d ≤ 60 := by
          have : ¬ 60 < a + (d - a) := fun q => c3 ((nI_lti (by decide) (by omega)).mpr q)
          omega
        have hh := h (am_set (am_set M1 5 (upd (M1 5) 3 (nI (d - a)))) 5 (upd (am_set M1 5 (upd (M1 5) 3 (nI (d - a))) 5) 4 (nI a))) r1 (dI_5 (dI_5 hI1 (by decide)) (by decide)) (by
          show rdR (zE z) (upd (upd (M1 5) 3 (nI (d - a))) 4 (nI a) 3) (upd (upd (M1 5) 3 (nI (d - a))) 4 (nI a) 4)
          rw [upd_eq, upd_ne _ _ (by decide), upd_eq]
          exact rdR_some hE hd60 c) (dG_trans hG (dG_trans dG_5 dG_5))
        exact g_D_findByRunners_117 hh
    have dist : ∀ k t, t + k = d - a → 1 ≤ t → am_R am_S0 mt_D_findByRunners 1 77 [.ref 5, .int (nI m), .int (nI a), .int (nI t)] [] M1 K := by
      intro k
      induction k with
      | zero =>
        intro t ht h1
        have : t = d - a := by omega
        subst this
        refine g_D_findByRunners_77 ⟨fun c2 => fin, fun c2 => ?_⟩
        have hlt : d - a < m := by
          have c3 : ¬ nI m ≤ nI (d - a) := c2
          exact (nI_lti (by omega) (by omega)).mp (Int32.not_le.mp c3)
        show am_C mt_D_isSameLook [.ref 5, .int (nI a), .int (nI a + nI (d - a))] _ _
        rw [nI_add]
        refine c_D_same hz.1 hI1 (by omega) (by omega) (fun hs => ⟨fun c3 => fin, fun c3 => absurd nI1_ne c3⟩) (fun hs => absurd ((rd_iff hE c (by omega) (by omega)).mpr ⟨Nat.le_refl a, ?_⟩) hs)
        rw [show a + (d - a) - a = d - a by omega, Nat.mod_self]
      | succ k ih =>
        intro t ht h1
        refine g_D_findByRunners_77 ⟨fun c2 => absurd c2 (i_nge (show t < m by omega) (by omega)), fun c2 => ?_⟩
        show am_C mt_D_isSameLook [.ref 5, .int (nI a), .int (nI a + nI t)] _ _
        rw [nI_add]
        refine c_D_same hz.1 hI1 (by omega) (by omega) (fun hs => ?_) (fun hs => ⟨fun c3 => absurd rfl c3, fun c3 => am_R_le (by repeat' (first | exact trivial | exact Or.inr rfl | exact Or.inl rfl | exact Or.inr (congrArg Value.int (nI_succ _)) | refine ⟨?_, ?_⟩)) (ih (t + 1) (by omega) (by omega))⟩)
        have q := ((rd_iff hE c (by omega) (by omega)).mp hs).2
        rw [show a + t - a = t by omega, Nat.mod_eq_of_lt (by omega)] at q
        omega
    have toDist : am_R am_S0 mt_D_findByRunners 1 75 [.ref 5, .int (nI m), .int (nI a), .null] [] M1 K :=
      g_D_findByRunners_75 (am_R_le (by repeat' (first | exact trivial | exact Or.inr rfl | exact Or.inl rfl | exact Or.inr (congrArg Value.int (nI_succ _)) | refine ⟨?_, ?_⟩)) (dist (d - a - 1) 1 (by omega) (Nat.le_refl _)))
    have start : ∀ k s, s + k = a → am_R am_S0 mt_D_findByRunners 1 53 [.ref 5, .int (nI m), .int (nI s), .null] [] M1 K := by
      intro k
      induction k with
      | zero =>
        intro s hs0
        have : s = a := by omega
        subst this
        refine g_D_findByRunners_53 ⟨fun c2 => toDist, fun c2 => ?_⟩
        have hlt : s < m := by
          have c3 : ¬ nI m ≤ nI s := c2
          exact (nI_lti (by omega) (by omega)).mp (Int32.not_le.mp c3)
        show am_C mt_D_isSameLook [.ref 5, .int (nI s), .int (nI m + nI s)] _ _
        rw [nI_add]
        refine c_D_same hz.1 hI1 (by omega) (by omega) (fun hs => ⟨fun c3 => toDist, fun c3 => absurd nI1_ne c3⟩) (fun hs => absurd ((rd_iff hE c (by omega) (by omega)).mpr ⟨Nat.le_refl s, ?_⟩) hs)
        rw [show m + s - s = m by omega]; exact hmod
      | succ k ih =>
        intro s hs0
        refine g_D_findByRunners_53 ⟨fun c2 => absurd c2 (i_nge (show s < m by omega) (by omega)), fun c2 => ?_⟩
        show am_C mt_D_isSameLook [.ref 5, .int (nI s), .int (nI m + nI s)] _ _
        rw [nI_add]
        refine c_D_same hz.1 hI1 (by omega) (by omega) (fun hs => ?_) (fun hs => ⟨fun c3 => absurd rfl c3, fun c3 => am_R_le (by repeat' (first | exact trivial | exact Or.inr rfl | exact Or.inl rfl | exact Or.inr (congrArg Value.int (nI_succ _)) | refine ⟨?_, ?_⟩)) (ih (s + 1) (by omega))⟩)
        have q := ((rd_iff hE c (by omega) (by omega)).mp hs).1
        omega
    exact g_D_findByRunners_51 (am_R_le (by repeat' (first | exact trivial | exact Or.inr rfl | exact Or.inl rfl | exact Or.inr (congrArg Value.int (nI_succ _)) | refine ⟨?_, ?_⟩)) (start a 0 (by omega)))
  have at39 : ∀ m M1 r1, 1 ≤ m → m ≤ 60 → 2 * m ≤ r1 → dI z M1 r1 → M1 5 3 = -nI 1 → M1 5 4 = -nI 1 → dG M M1 → (¬ zE z m (2 * m) → ∀ i, 1 ≤ i → i ≤ 60 → ¬ zE z i (2 * i)) → am_R am_S0 mt_D_findByRunners 1 39 [.ref 5, .int (nI m), .null, .null] [] M1 K := by
    intro m M1 r1 hm1 hm hr hI1 e3 e4 hG hno
    refine g_D_findByRunners_39 ?_
    show am_C mt_D_isSameLook [.ref 5, .int (nI m), .int (nI 2 * nI m)] _ _
    rw [two]
    exact c_D_same hz.1 hI1 (by omega) (by omega) (fun hs => ⟨fun c => met m M1 r1 hm1 hm hr hI1 e3 e4 hG hs, fun c => absurd nI1_ne c⟩) (fun hs => ⟨fun c => absurd rfl c, fun c => h M1 r1 hI1 (by rw [e3, e4]; exact rdR_none (rd_meet hE (hno hs))) hG⟩)
  have run : ∀ k m, m + k = 59 → (∀ i, 1 ≤ i → i ≤ m → ¬ zE z i (2 * i)) → ∀ M1 r1, dI z M1 r1 → M1 5 3 = -nI 1 → M1 5 4 = -nI 1 → dG M M1 → am_R am_S0 mt_D_findByRunners 1 12 [.ref 5, .int (nI m), .null, .null] [] M1 K := by
    intro k
    induction k with
    | zero =>
      intro m hm hno M1 r1 hI1 e3 e4 hG
      have : m = 59 := by omega
      subst this
      refine g_D_findByRunners_12 ?_
      show am_C mt_D_reachDay [.ref 5, .int (nI 2 * (nI 59 + nI 1))] _ _
      rw [nI_add, two]
      refine c_D_reachDay hz.1 hI1 (by decide) (fun M2 r2 hI2 hr2 hF => ⟨fun c => ?_, fun c => absurd (show nI 60 ≤ nI 59 + nI 1 by decide +kernel) c⟩)
      have q := at39 60 M2 r2 (by decide) (by decide) (by omega) hI2 (hF.2.1.trans e3) (hF.2.2.trans e4) (dG_trans hG hF.1) (fun q i h1 h2 => by
        by_cases c3 : i = 60
        · rw [c3]; exact q
        · exact hno i h1 (by omega))
      exact am_R_le (by repeat' (first | exact trivial | exact Or.inr rfl | exact Or.inl rfl | exact Or.inr (congrArg Value.int (nI_succ _)) | refine ⟨?_, ?_⟩)) q
    | succ k ih =>
      intro m hm hno M1 r1 hI1 e3 e4 hG
      refine g_D_findByRunners_12 ?_
      show am_C mt_D_reachDay [.ref 5, .int (nI 2 * (nI m + nI 1))] _ _
      rw [nI_add, two]
      refine c_D_reachDay hz.1 hI1 (by omega) (fun M2 r2 hI2 hr2 hF => ⟨fun c => ?_, fun c => ?_⟩)
      · have c2 : nI 60 ≤ nI m + nI 1 := c
        rw [nI_add] at c2
        exact absurd c2 (i_nge (by omega) (by decide))
      · show am_C mt_D_isSameLook [.ref 5, .int (nI m + nI 1), .int (nI 2 * (nI m + nI 1))] _ _
        rw [nI_add, two]
        refine c_D_same hz.1 hI2 (by omega) (by omega) (fun hs => ⟨fun c3 => absurd c3 nI1_ne, fun c3 => ?_⟩) (fun hs => ⟨fun c3 => ?_, fun c3 => absurd rfl c3⟩)
        · have q := at39 (m + 1) M2 r2 (by omega) (by omega) (by omega) hI2 (hF.2.1.trans e3) (hF.2.2.trans e4) (dG_trans hG hF.1) (fun q => absurd hs q)
          exact am_R_le (by repeat' (first | exact trivial | exact Or.inr rfl | exact Or.inl rfl | exact Or.inr (congrArg Value.int (nI_succ _)) | refine ⟨?_, ?_⟩)) q
        · have q := ih (m + 1) (by omega) (fun i h1 h2 => by
            by_cases c4 : i = m + 1
            · rw [c4]; exact hs
            · exact hno i h1 (by omega)) M2 r2 hI2 (hF.2.1.trans e3) (hF.2.2.trans e4) (dG_trans hG hF.1)
          exact am_R_le (by repeat' (first | exact trivial | exact Or.inr rfl | exact Or.inl rfl | exact Or.inr (congrArg Value.int (nI_succ _)) | refine ⟨?_, ?_⟩)) q
  have k0 := run 59 0 rfl (fun i h1 h2 => by omega) (am_set (am_set M 5 (upd (M 5) 3 (-nI 1))) 5 (upd (am_set M 5 (upd (M 5) 3 (-nI 1)) 5) 4 (-nI 1))) r (dI_5 (dI_5 hI (by decide)) (by decide)) (by
    show upd (upd (M 5) 3 (-nI 1)) 4 (-nI 1) 3 = _
    rw [upd_ne _ _ (by decide), upd_eq]) (upd_eq (upd (M 5) 3 (-nI 1)) 4 (-nI 1)) (dG_trans dG_5 dG_5)
  exact am_C_of_R am_S0 om_D_findByRunners rfl [.ref 5, .null, .null, .null] rfl rfl (g_D_findByRunners_0 (am_R_le (by repeat' (first | exact trivial | exact Or.inr rfl | exact Or.inl rfl | exact Or.inr (congrArg Value.int (nI_succ _)) | refine ⟨?_, ?_⟩)) k0))
