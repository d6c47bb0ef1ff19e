/-! what hours would leave is what they leave -/
def am_S8 : am_S := (8, 0, fun _ => 0)
theorem w_pass_z (w : wS) (k : Nat) : w_z (w_pass w k) = zhours (w_z w) k := rfl
theorem emp_0 {v : Nat} {z : dz} {e : Int32} (h : emp v z e) : (e = 0 ↔ z (18 + 8 * v) = 0) := by
  rcases h with ⟨rfl, h1⟩ | ⟨k, hk, rfl, h1, h2⟩
  · have h3 : 0 < z (18 + 8 * v) := h1 0 (by decide)
    refine ⟨fun q => absurd q (by decide +kernel), fun q => ?_⟩
    rw [q] at h3
    exact absurd h3 (by decide)
  · by_cases c : k = 0
    · subst c
      exact ⟨fun _ => h2, fun _ => rfl⟩
    · have h3 : 0 < z (18 + 8 * v) := h1 0 (by omega)
      refine ⟨fun q => absurd q (nI_ne0 (by omega) (by omega)), fun q => ?_⟩
      rw [q] at h3
      exact absurd h3 (by decide)
theorem n01 : ¬ nI 0 = nI 1 := by decide +kernel
theorem n10 : ¬ nI 1 = nI 0 := by decide +kernel
theorem m1_ne (k : Nat) (hk : k < 2 ^ 31) : ¬ nI k = -nI 1 := fun q => by
  have := congrArg Int32.toInt q
  rw [nI_toInt hk, m1_ti] at this
  omega
set_option maxHeartbeats 2000000 in
theorem ia_loop {n v : Nat} {w : wS} {f : dz} {T : Int64} {p e0 : Int32} {x6 x7 : Value} {K : am_Q} (hi : wi n w) (hT : T = tale w) (hv : v < 5) (h0 : (w_z w 0).toInt + 240 ≤ 99999) (he : emp v (w_z w) e0)
    (h : ∀ M' w', vq w' f M' → wi n w' → w_z w' = w_z w → hs w' 0 (w_z w) → K (.inl (some (.int (nI 1)))) M') :
    ∀ M' w', vq w' f M' → wi n w' → hs w' 0 (w_z w) → w_z w' = w_z w → am_R am_S8 mt_L_isAhead (60 - 1 + 2) 234 [.ref 0, .int p, .int (nI v), .long T, .null, .int e0, x6, x7, .int (nI 1), .null] [] M' K := by
  subst hT
  -- back
  have p308 : ∀ (M' : am_M) (w' : wS) (ls : List Value), am_le [.ref 0, .null, .null, .long (tale w), .null, .null, .null, .null, .null, .null] ls → vq w' f M' → wi n w' → hs w' 0 (w_z w) → am_R am_S8 mt_L_isAhead 2 308 ls [] M' K := by
    intro M' w' ls hl q i' s'
    have ib := wi_back (i := 0) i' (by decide) s'.1
    have ez : w_z (w_back w' 0) = w_z w := (w_back_z i' (by decide) s'.1).trans s'.2
    have hh := zhod_ti (z := w_z w) hi.1.1.2.2.1.1 (by omega)
    refine am_R_le hl (g_L_isAhead_308 (by decide) (c_back (j := 0) q i' (by decide) s'.1 (fun M1 q1 => ⟨fun c => absurd c (pos_nlt ?_), fun c => c_L_tale q1 ib (fun M2 q2 => ⟨fun c2 => absurd ?_ c2, fun c2 => g_L_isAhead_330 (by decide) ⟨Or.inr rfl, h M2 _ q2 ib ez (hs_back s' 0)⟩⟩)⟩)))
    · rw [s'.2, hh]
      omega
    · show lg_cmp (tale (w_back w' 0)) (tale w) = 0
      rw [lgc_0, tale_z ez]
  have key : ∀ M' w' e', vq w' f M' → wi n w' → hs w' 0 (w_z w) → (e' = nI 0 ∨ (w_z w' = zhours (w_z w) (1 - 1) ∧ e' = e0 ∧ ∀ i, i < 1 → 0 < zhours (w_z w) i (18 + 8 * v))) → am_R am_S8 mt_L_isAhead (60 - 1 + 2) 234 [.ref 0, .int p, .int (nI v), .long (tale w), .null, .int e', .null, .null, .int (nI 1), .null] [] M' K := by
    refine lu' (P := fun k => ∀ M' w' e', vq w' f M' → wi n w' → hs w' 0 (w_z w) → (e' = nI 0 ∨ (w_z w' = zhours (w_z w) (k - 1) ∧ e' = e0 ∧ ∀ i, i < k → 0 < zhours (w_z w) i (18 + 8 * v))) → am_R am_S8 mt_L_isAhead (60 - k + 2) 234 [.ref 0, .int p, .int (nI v), .long (tale w), .null, .int e', .null, .null, .int (nI k), .null] [] M' K) 1 60 (by decide) ?_ ?_
    · intro M' w' e' q i' s' _
      exact g_L_isAhead_234 (by decide) ⟨fun c => p308 M' w' _ (by repeat' (first | exact trivial | exact Or.inr rfl | exact Or.inl rfl | exact Or.inr (congrArg Value.int (nI_succ _)) | refine ⟨?_, ?_⟩)) q i' s', fun c => absurd (i_le (Nat.le_refl 60) (by decide)) c⟩
    · intro k hk1 hk ih M' w' e' q i' s' hd
      by_cases ce : e' = 0
      · subst ce
        exact am_R_nle (show 2 ≤ 60 - k + 2 by omega) (g_L_isAhead_234 (by decide) ⟨fun c => absurd c (i_nge hk (by decide)), fun c => ⟨fun c2 => p308 M' w' _ (by repeat' (first | exact trivial | exact Or.inr rfl | exact Or.inl rfl | exact Or.inr (congrArg Value.int (nI_succ _)) | refine ⟨?_, ?_⟩)) q i' s', fun c2 => absurd rfl c2⟩⟩)
      · rcases hd with rfl | ⟨ez, rfl, hpos⟩
        · exact absurd rfl ce
        · have e5 : 60 - k + 2 = 60 - (k + 1) + 2 + 1 := by omega
          rw [e5]
          have hz0 := zhours_0 hi.1.1.1 (k - 1)
          have ek : (nI (k - 1)).toInt = (k - 1 : Nat) := nI_toInt (by omega)
          have hz1 := hi.1.1.2.2.1
          have t0 : (w_z w' 0).toInt + 1 ≤ 99999 := by
            rw [ez, hz0, ti_add (by omega) (by omega)]
            omega
          have i2 := wi_pass (k := 1) i' (by decide) t0
          have ez2 : w_z (w_pass w' 1) = zhours (w_z w) k := by
            rw [w_pass_z, ez, ← zhours_add, Nat.sub_add_cancel hk1]
          have s2 : hs (w_pass w' 1) 0 (w_z w) := hs_pass s' 1
          have z283 : ∀ (M3 : am_M) (x : Int32), am_R am_S8 mt_L_isAhead (60 - (k + 1) + 2) 284 [.ref 0, .int p, .int (nI v), .long (tale w), .null, .int e', .null, .null, .int (nI k), .int x] [.int x, .int x] M3 K → am_R am_S8 mt_L_isAhead (60 - (k + 1) + 2) 284 [.ref 0, .int p, .int (nI v), .long (tale w), .null, .int e', .null, .null, .int (nI k), .int x] [.int x, .int x] M3 K := fun _ _ h => h
          -- not empty behind this hour
          have no : ∀ (M3 : am_M), vq (w_pass w' 1) f M3 → ¬ nI k = e' → (∀ i, i < k + 1 → 0 < zhours (w_z w) i (18 + 8 * v)) → am_R am_S8 mt_L_isAhead (60 - (k + 1) + 2) 267 [.ref 0, .int p, .int (nI v), .long (tale w), .null, .int e', .null, .null, .int (nI k), .null] [] M3 K := by
            intro M3 q3 hne hp
            refine g_L_isAhead_267 (by decide) (g_L_isAhead_268 (by decide) ⟨fun c => g_L_isAhead_283 (by decide) (g_L_isAhead_284 (by decide) ⟨fun c2 => g_L_isAhead_289 (by decide) ⟨fun c3 => g_L_isAhead_298 (by decide) (g_L_isAhead_300 (by decide) (am_R_le (by repeat' (first | exact trivial | exact Or.inr rfl | exact Or.inl rfl | exact Or.inr (congrArg Value.int (nI_succ _)) | refine ⟨?_, ?_⟩)) (ih M3 _ e' q3 i2 s2 (Or.inr ⟨ez2, rfl, hp⟩)))), fun c3 => absurd rfl c3⟩, fun c2 => absurd rfl c2⟩), fun c => absurd c (fun q9 => q9 hne)⟩)
          have hw0 := ((zok_hours hi.1.1.1 k).1.1 v hv).1
          refine g_L_isAhead_234 (by decide) ⟨fun c => absurd c (i_nge hk (by decide)), fun c => ⟨fun c2 => absurd c2 ce, fun c2 => c_pass (k := 1) q i' (by decide) (by decide) t0 (fun M1 q1 => ⟨fun c3 => absurd c3 (pos_nlt (out_pos i'.1.1.1 1)), fun c3 => c_vat (v := v) (k := 1) q1 hv (by decide) (fun M2 q2 => ⟨fun c4 => ?_, fun c4 => ?_⟩)⟩)⟩⟩
          · have c4' : ¬ zvat v 1 (w_z (w_pass w' 1)) = 0 := c4
            rw [zv1, ez2] at c4'
            have hp : 0 < zhours (w_z w) k (18 + 8 * v) := by
              refine ti_lt.mpr ?_
              have : (zhours (w_z w) k (18 + 8 * v)).toInt ≠ 0 := fun q0 => c4' (ti_ext (by rw [ti_0]; exact q0))
              rw [ti_0]
              omega
            refine no M2 q2 (fun q0 => ?_) (fun i hi9 => ?_)
            · rcases he with ⟨rfl, -⟩ | ⟨j, hj, rfl, -, hj2⟩
              · exact m1_ne k (by omega) q0
              · have : k = j := (nI_eq (by omega) (by omega)).mp q0
                subst this
                exact c4' hj2
            · by_cases ci : i = k
              · subst ci; exact hp
              · exact hpos i (by omega)
          · have c4' : zvat v 1 (w_z (w_pass w' 1)) = 0 := Classical.not_not.mp c4
            rw [zv1, ez2] at c4'
            have ek : nI k = e' := by
              rcases he with ⟨rfl, h1⟩ | ⟨j, hj, rfl, h1, hj2⟩
              · have h2 := h1 k (by omega)
                rw [c4'] at h2
                exact absurd h2 (by decide)
              · by_cases cj : j = k
                · rw [cj]
                · by_cases cj2 : k < j
                  · have h2 := h1 k cj2
                    rw [c4'] at h2
                    exact absurd h2 (by decide)
                  · have h2 := hpos j (by omega)
                    rw [hj2] at h2
                    exact absurd h2 (by decide)
            refine g_L_isAhead_268 (by decide) ⟨fun c5 => absurd ek c5, fun c5 => g_L_isAhead_284 (by decide) ⟨fun c6 => g_L_isAhead_289 (by decide) ⟨fun c7 => absurd c7 nI1_ne, fun c7 => g_L_isAhead_300 (by decide) (am_R_le (by repeat' (first | exact trivial | exact Or.inr rfl | exact Or.inl rfl | exact Or.inr (congrArg Value.int (nI_succ _)) | refine ⟨?_, ?_⟩)) (ih M2 _ (nI 0) q2 i2 s2 (Or.inl rfl)))⟩, fun c6 => absurd rfl c6⟩⟩
  intro M' w' q i' s' ez
  by_cases c0 : e0 = 0
  · refine am_R_le (by repeat' (first | exact trivial | exact Or.inr rfl | exact Or.inl rfl | exact Or.inr (congrArg Value.int (nI_succ _)) | refine ⟨?_, ?_⟩)) (key M' w' e0 q i' s' (Or.inl c0))
  · refine am_R_le (by repeat' (first | exact trivial | exact Or.inr rfl | exact Or.inl rfl | exact Or.inr (congrArg Value.int (nI_succ _)) | refine ⟨?_, ?_⟩)) (key M' w' e0 q i' s' (Or.inr ⟨ez, rfl, fun i hi9 => ?_⟩))
    have : i = 0 := by omega
    subst this
    have hw0 := (hi.1.1.1.1 v hv).1
    have : ¬ w_z w (18 + 8 * v) = 0 := fun q0 => c0 ((emp_0 he).mpr q0)
    refine ti_lt.mpr ?_
    rw [ti_0]
    show 0 < (w_z w (18 + 8 * v)).toInt
    have : (w_z w (18 + 8 * v)).toInt ≠ 0 := fun q0 => this (ti_ext (by rw [ti_0]; exact q0))
    omega
