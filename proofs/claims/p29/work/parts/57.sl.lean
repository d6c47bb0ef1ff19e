/-! the same look: in the class and in the reference -/
theorem c_D_isSameLook {a b : Nat} {M : am_M} {K : am_Q} (ha : a ≤ 120) (hb : b ≤ 120) (h1 : (∀ k, k < 35 → M 8 (a * 35 + k) = M 8 (b * 35 + k)) → K (.inl (some (.int (nI 1)))) M) (h0 : ¬ (∀ k, k < 35 → M 8 (a * 35 + k) = M 8 (b * 35 + k)) → K (.inl (some (.int (nI 0)))) M) : am_C mt_D_isSameLook [.ref 5, .int (nI a), .int (nI b)] M K := by
  have key : ∀ n i, i + n = 35 → (∀ k, k < i → M 8 (a * 35 + k) = M 8 (b * 35 + k)) → am_R am_S0 mt_D_isSameLook 1 24 [.ref 5, .int (nI a), .int (nI b), .int (nI i)] [] M K := by
    intro n
    induction n with
    | zero =>
      intro i hi hall
      have : i = 35 := by omega
      subst this
      exact g_D_isSameLook_24 ⟨fun c => g_D_isSameLook_63 ⟨Or.inr rfl, h1 hall⟩, fun c => absurd (i_le (Nat.le_refl 35) (by decide)) c⟩
    | succ n ih =>
      intro i hi hall
      refine g_D_isSameLook_24 ⟨fun c => absurd c (i_nge (show i < 35 by omega) (by decide)), fun c => ⟨a * 35 + i, ix5 a 35 i, by show _ < 4235; omega, b * 35 + i, ix5 b 35 i, by show _ < 4235; omega, fun c3 => ?_, fun c3 => ?_⟩⟩
      · have c4 : M 8 (a * 35 + i) = M 8 (b * 35 + i) := c3
        have next := ih (i + 1) (by omega) (fun k hk => by
          by_cases c5 : k = i
          · rw [c5]; exact c4
          · exact hall k (by omega))
        exact g_D_isSameLook_57 (am_R_le (by repeat' (first | exact trivial | exact Or.inr rfl | exact Or.inl rfl | exact Or.inr (congrArg Value.int (nI_succ _)) | refine ⟨?_, ?_⟩)) next)
      · have c4 : ¬ M 8 (a * 35 + i) = M 8 (b * 35 + i) := c3
        exact ⟨Or.inl rfl, h0 fun q => c4 (q i (by omega))⟩
  have n0 : ∀ x, x ≤ 120 → ¬ nI x < 0 := fun x hx => nI_pos (by omega)
  have n1 : ∀ x, x ≤ 120 → ¬ nI 120 < nI x := fun x hx => Int32.not_lt.mpr (i_le hx (by decide))
  refine am_C_of_R am_S0 om_D_isSameLook rfl [.ref 5, .int (nI a), .int (nI b), .null] rfl rfl (g_D_isSameLook_0 ⟨fun c => absurd c (n0 a ha), fun c => ⟨fun c => absurd c (n0 b hb), fun c => ⟨fun c => absurd c (n1 a ha), fun c => ⟨fun c => g_D_isSameLook_22 ?_, fun c => absurd (i_le hb (by decide)) c⟩⟩⟩⟩)
  exact am_R_le (by repeat' (first | exact trivial | exact Or.inr rfl | exact Or.inl rfl | exact Or.inr (congrArg Value.int (nI_succ _)) | refine ⟨?_, ?_⟩)) (key 35 0 rfl (fun k hk => absurd hk (Nat.not_lt_zero k)))
