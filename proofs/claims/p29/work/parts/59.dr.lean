/-! the class reaches days -/
def dI (z : dz) (M : am_M) (r : Nat) : Prop := M 5 2 = nI r ∧ M 7 = zp (zdy z r) ∧ r ≤ 120 ∧ ∀ d, d ≤ r → ∀ k, k < 35 → M 8 (d * 35 + k) = zp (zdy z d) (10 + k)
/-- what days leave -/
def dF (M M' : am_M) : Prop := (∀ o, o ≠ 5 → o ≠ 7 → o ≠ 8 → M' o = M o) ∧ M' 5 3 = M 5 3 ∧ M' 5 4 = M 5 4
theorem dF_refl (M : am_M) : dF M M := ⟨fun _ _ _ _ => rfl, rfl, rfl⟩
theorem dF_trans {M M' M'' : am_M} (h : dF M M') (h' : dF M' M'') : dF M M'' := ⟨fun o a b c => (h'.1 o a b c).trans (h.1 o a b c), h'.2.1.trans h.2.1, h'.2.2.trans h.2.2⟩
theorem c_D_beginWith {z : dz} {M : am_M} {K : am_Q} (hM : M 2 = zp z) (h : ∀ M', dI z M' 0 → dF M M' → K (.inl none) M') : am_C mt_D_beginWith [.ref 5, .ref 1] M K := by
  refine am_C_of_R am_S0 om_D_beginWith rfl [.ref 5, .ref 1] rfl rfl (g_D_beginWith_0 (c_S_takeFrom_6 ⟨10, 0, 35, rfl, rfl, rfl, by decide, by decide, h _ ⟨?_, ?_, by decide, ?_⟩ ⟨?_, ?_, ?_⟩⟩))
  · exact upd_eq (M 5) 2 (nI 0)
  · exact hM
  · intro d hd k hk
    have : d = 0 := by omega
    subst this
    show va_cpy (M 2) (M 8) 10 0 35 (0 * 35 + k) = zp z (10 + k)
    rw [cpy_in (by omega), hM]
    congr 1
    omega
  · intro o h5 h7 h8
    rw [am_so _ _ h8, am_so _ _ h5, am_so _ _ h7]
  · exact upd_ne (M 5) (k := 2) (j := 3) (nI 0) (by decide)
  · exact upd_ne (M 5) (k := 2) (j := 4) (nI 0) (by decide)
theorem c_D_reachDay {z : dz} {d r : Nat} {M : am_M} {K : am_Q} (hz : zok z) (hI : dI z M r) (hd : d ≤ 120) (h : ∀ M' r', dI z M' r' → d ≤ r' → dF M M' → K (.inl none) M') : am_C mt_D_reachDay [.ref 5, .int (nI d)] M K := by
  have key : ∀ n r M, d - r = n → dI z M r → (∀ M' r', dI z M' r' → d ≤ r' → dF M M' → K (.inl none) M') → am_R am_S0 mt_D_reachDay 1 0 [.ref 5, .int (nI d)] [] M K := by
    intro n
    induction n with
    | zero =>
      intro r M hn hI h
      refine g_D_reachDay_0 ⟨fun c => g_D_reachDay_64 (h M r hI (by omega) (dF_refl M)), fun c => absurd ?_ c⟩
      show nI d ≤ M 5 2
      rw [hI.1]
      exact i_le (by omega) (by have := hI.2.2.1; omega)
    | succ n ih =>
      intro r M hn hI h
      obtain ⟨i1, i2, i3, i4⟩ := hI
      have e1 : M 5 2 + nI 1 = nI (r + 1) := by rw [i1, nI_add]
      refine g_D_reachDay_0 ⟨fun c => absurd c ?_, fun c => ⟨fun c2 => absurd c2 ?_, fun c2 => c_S_runHours_6 (z := zdy z r) i2 (zdy_ok hz r).1 (n := 24) (by decide) ?_⟩⟩
      · show ¬ nI d ≤ M 5 2
        rw [i1]
        exact i_nge (by omega) (by omega)
      · show ¬ nI 120 ≤ M 5 2
        rw [i1]
        exact i_nge (by omega) (by decide)
      · rw [← zdy_next]
        generalize hF : zdy z (r + 1) = F
        refine ⟨10, (r + 1) * 35, 35, rfl, ?_, rfl, by decide, by show _ ≤ 4235; omega, ?_⟩
        · show upd (M 5) 2 (M 5 2 + nI 1) 2 * nI 35 = _
          rw [upd_eq, e1, pk_mul]
        · refine ih (r + 1) (am_set (am_set (am_set M 7 (zp F)) 5 (upd (M 5) 2 (M 5 2 + nI 1))) 8 (va_cpy (zp F) (M 8) 10 ((r + 1) * 35) 35)) (by omega) ⟨?_, ?_, by omega, ?_⟩ (fun M' r' a1 a2 a3 => h M' r' a1 a2 (dF_trans ⟨?_, ?_, ?_⟩ a3))
          · show upd (M 5) 2 (M 5 2 + nI 1) 2 = _
            rw [upd_eq, e1]
          · rw [hF]; rfl
          · intro x hx k hk
            show va_cpy (zp F) (M 8) 10 ((r + 1) * 35) 35 (x * 35 + k) = _
            by_cases c3 : x = r + 1
            · subst c3
              rw [cpy_in (by omega), hF]
              congr 1
              omega
            · rw [cpy_out (by omega)]
              exact i4 x (by omega) k hk
          · intro o h5 h7 h8
            rw [am_so _ _ h8, am_so _ _ h5, am_so _ _ h7]
          · exact upd_ne (M 5) (k := 2) (j := 3) (M 5 2 + nI 1) (by decide)
          · exact upd_ne (M 5) (k := 2) (j := 4) (M 5 2 + nI 1) (by decide)
  exact am_C_of_R am_S0 om_D_reachDay rfl [.ref 5, .int (nI d)] rfl rfl (key _ r M rfl hI h)
/-- two days that are reached look the same -/
theorem c_D_same {z : dz} {a b r : Nat} {M : am_M} {K : am_Q} (hz : zok z) (hI : dI z M r) (ha : a ≤ r) (hb : b ≤ r) (h1 : zE z a b → K (.inl (some (.int (nI 1)))) M) (h0 : ¬ zE z a b → K (.inl (some (.int (nI 0)))) M) : am_C mt_D_isSameLook [.ref 5, .int (nI a), .int (nI b)] M K := by
  have hr := hI.2.2.1
  have e : (∀ k, k < 35 → M 8 (a * 35 + k) = M 8 (b * 35 + k)) ↔ zE z a b := by
    have hl := ag_lookV (a := zdy z a) (b := zdy z b) (fun i hi => ((zdy_ok hz a).2 i hi).trans ((zdy_ok hz b).2 i hi).symm)
    unfold zE
    rw [← hl]
    refine ⟨fun q k hk => ?_, fun q k hk => ?_⟩
    · rw [← hI.2.2.2 a ha k hk, ← hI.2.2.2 b hb k hk]; exact q k hk
    · rw [hI.2.2.2 a ha k hk, hI.2.2.2 b hb k hk]; exact q k hk
  exact c_D_isSameLook (by omega) (by omega) (fun q => h1 (e.mp q)) (fun q => h0 fun c => q (e.mpr c))
