/-! emptyIn: the first hour without water -/
noncomputable def zef (v : Nat) (z : dz) : Nat → Nat
  | 0 => 0
  | i + 1 => by classical exact if zef v z i = i ∧ 0 < zhours z i (18 + 8 * v) then i + 1 else zef v z i
theorem zef_le (v : Nat) (z : dz) : ∀ i, zef v z i ≤ i
  | 0 => Nat.le_refl 0
  | i + 1 => by
    unfold zef
    have := zef_le v z i
    split <;> omega
theorem zef_stop {v : Nat} {z : dz} {i : Nat} (h : zef v z (i + 1) = i) : ∀ k, zef v z (i + 1 + k) = i
  | 0 => h
  | k + 1 => by
    have := zef_stop h k
    show zef v z (i + 1 + k + 1) = i
    unfold zef
    rw [if_neg (by omega)]
    exact this
noncomputable def zea (v : Nat) (z : dz) (k : Nat) : Int32 := if zef v z k = k then -nI 1 else nI (zef v z k)
theorem c_Z_hoursToEmpty {v : Nat} {M : am_M} {K : am_Q} (hz : zok (M 18)) (hv : v < 5) (h : ∀ M', (∀ o, o ≠ 19 → M' o = M o) → K (.inl (some (.int (zea v (M 18) 241)))) M') : am_C mt_Z_hoursToEmpty [.ref 17, .int (nI v)] M K := by
  refine am_C_of_R am_S0 om_Z_hoursToEmpty rfl [.ref 17, .int (nI v), .null] rfl rfl (g_Z_hoursToEmpty_0 (c_Z_putAside ?_))
  have e1 : 17 + 8 * v + 1 = 18 + 8 * v := by omega
  -- behind the loop
  have out : ∀ i f, i ≤ 241 → zef v (M 18) 241 = i → am_R am_S0 mt_Z_hoursToEmpty 1 32 [.ref 17, .int (nI v), .int (nI i)] [] (am_set (am_set M 19 (M 18)) 18 f) K := by
    intro i f hi e
    refine g_Z_hoursToEmpty_32 (c_Z_putBack ⟨fun c => ?_, fun c => ?_⟩)
    · have hi2 : i = 241 := by
        have c2 : nI 240 < nI i := Int32.not_le.mp c
        have := (nI_lti (by decide) (by omega)).mp c2
        omega
      subst hi2
      unfold zea at h
      rw [if_pos e] at h
      refine g_Z_hoursToEmpty_47 (g_Z_hoursToEmpty_48 (h _ (fun o ho => ?_)))
      by_cases c : o = 18
      · subst c; rfl
      · rw [am_so _ _ c, am_so _ _ c, am_so _ _ ho]
    · have hi2 : i ≤ 240 := by
        have c2 : nI i ≤ nI 240 := Classical.not_not.mp (fun q => c q)
        exact Classical.not_not.mp (fun q => absurd c2 (i_nge (by omega) (by omega)))
      unfold zea at h
      rw [if_neg (by omega), e] at h
      refine g_Z_hoursToEmpty_48 (h _ (fun o ho => ?_))
      by_cases c : o = 18
      · subst c; rfl
      · rw [am_so _ _ c, am_so _ _ c, am_so _ _ ho]
  have h0 : am_set M 19 (M 18) = am_set (am_set M 19 (M 18)) 18 (zhours (M 18) 0) := by
    funext o
    by_cases c : o = 18
    · subst c; rfl
    · rw [am_so _ _ c]
  refine am_R_le (xs := [.ref 17, .int (nI v), .int (nI 0)]) (by repeat' (first | exact trivial | exact Or.inr rfl | exact Or.inl rfl | exact Or.inr (congrArg Value.int (nI_succ _)) | refine ⟨?_, ?_⟩)) ?_
  rw [h0]
  have key : ∀ i, i ≤ 241 → zef v (M 18) i = i → am_R am_S0 mt_Z_hoursToEmpty 1 6 [.ref 17, .int (nI v), .int (nI i)] [] (am_set (am_set M 19 (M 18)) 18 (zhours (M 18) i)) K := by
    intro i hi
    generalize hn : 241 - i = n
    induction n generalizing i with
    | zero =>
      intro e
      have : i = 241 := by omega
      subst this
      refine g_Z_hoursToEmpty_6 (c_Z_of (v := v) (w := 1) (by omega) ⟨fun c => out 241 _ (Nat.le_refl _) e, fun c => ⟨fun c2 => out 241 _ (Nat.le_refl _) e, fun c2 => absurd (show nI 241 ≤ nI 240 from Classical.not_not.mp fun q => c2 (Int32.not_le.mp q)) (i_nge (by decide) (by decide))⟩⟩)
    | succ n ih =>
      intro e
      have hz' := (zok_hours hz i).1
      refine g_Z_hoursToEmpty_6 (c_Z_of (v := v) (w := 1) (by omega) ⟨fun c => out i _ (by omega) ?_, fun c => ⟨fun c2 => absurd (show nI i ≤ nI 240 from i_le (by omega) (by decide)) (fun q => c2 q), fun c2 => c_Z_hour hz' ?_⟩⟩)
      · have c3 : zhours (M 18) i (17 + 8 * v + 1) ≤ 0 := c
        rw [e1] at c3
        have c4 : ¬ (zef v (M 18) i = i ∧ 0 < zhours (M 18) i (18 + 8 * v)) := fun q => Int32.not_le.mpr q.2 c3
        have e3 : zef v (M 18) (i + 1) = i := by
          unfold zef
          rw [if_neg c4, e]
        have := zef_stop e3 (240 - i)
        rw [show i + 1 + (240 - i) = 241 by omega] at this
        exact this
      · have c3 : ¬ zhours (M 18) i (17 + 8 * v + 1) ≤ 0 := c
        rw [e1] at c3
        have e3 : zef v (M 18) (i + 1) = i + 1 := by
          unfold zef
          rw [if_pos ⟨e, Int32.not_le.mp c3⟩]
        have := ih (i + 1) (by omega) (by omega) e3
        rw [am_set_set]
        exact am_R_le (by repeat' (first | exact trivial | exact Or.inr rfl | exact Or.inl rfl | exact Or.inr (congrArg Value.int (nI_succ _)) | refine ⟨?_, ?_⟩)) this
  exact key 0 (by decide) rfl
