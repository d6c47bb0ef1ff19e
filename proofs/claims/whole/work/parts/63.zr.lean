/-! the reference's days and their looks -/
theorem div7 : ∀ k, k < 35 → nI k / nI 7 = nI (k / 7) := by decide +kernel
theorem mod7 : ∀ k, k < 35 → nI 1 + (nI k - nI k / nI 7 * nI 7) = nI (1 + k % 7) := by decide +kernel
theorem nI7_ne : ¬ nI 7 = 0 := by decide +kernel
def zlk (z : dz) (k : Nat) : Int32 := z (18 + 8 * (k / 7) + k % 7)
/-- the looks of the first days -/
def zL (z : dz) (f : dz) (n : Nat) : Prop := ∀ d, d < n → ∀ k, k < 35 → f (35 * d + k) = zlk (zdy z d) k
theorem c_Z_days {z : dz} {M : am_M} {K : am_Q} (hM : M 18 = z) (hz : zok z) (h : ∀ M', zL z (M' 24) 61 → M' 18 = zdy z 61 → (∀ o, o ≠ 18 → o ≠ 24 → M' o = M o) → am_R am_S0 mt_Z_findRound 1 63 [.ref 17, .null, .null] [] M' K) : am_R am_S0 mt_Z_findRound 1 6 [.ref 17, .int (nI 0), .null] [] M K := by
  have key : ∀ n d, d + n = 61 → ∀ M1, zL z (M1 24) d → M1 18 = zdy z d → (∀ o, o ≠ 18 → o ≠ 24 → M1 o = M o) → am_R am_S0 mt_Z_findRound 1 6 [.ref 17, .int (nI d), .null] [] M1 K := by
    intro n
    induction n with
    | zero =>
      intro d hd M1 h1 h2 h3
      have : d = 61 := by omega
      subst this
      exact g_Z_findRound_6 ⟨fun c => am_R_le (by repeat' (first | exact trivial | exact Or.inr rfl | exact Or.inl rfl | exact Or.inr (congrArg Value.int (nI_succ _)) | refine ⟨?_, ?_⟩)) (h M1 h1 h2 h3), fun c => absurd (show nI 60 < nI 61 by decide +kernel) c⟩
    | succ n ih =>
      intro d hd M1 h1 h2 h3
      have hzd := (zdy_ok hz d).1
      refine g_Z_findRound_6 ⟨fun c => absurd c (Int32.not_lt.mpr (i_le (show d ≤ 60 by omega) (by decide))), fun c => ?_⟩
      have inner : ∀ m k, k + m = 35 → ∀ f, zL z f d → (∀ j, j < k → f (35 * d + j) = zlk (zdy z d) j) → am_R am_S0 mt_Z_findRound 1 14 [.ref 17, .int (nI d), .int (nI k)] [] (am_set M1 24 f) K := by
        intro m
        induction m with
        | zero =>
          intro k hk f hf1 hf2
          have : k = 35 := by omega
          subst this
          refine g_Z_findRound_14 ⟨fun c => g_Z_findRound_51 (c_Z_hours (n := 24) (by show zok (M1 18); rw [h2]; exact hzd) (by decide) ?_), fun c => absurd (i_le (Nat.le_refl 35) (by decide)) c⟩
          have e : zhours (am_set M1 24 f 18) 24 = zdy z (d + 1) := by
            show zhours (M1 18) 24 = _
            rw [h2, zdy_next]
          rw [e]
          generalize hF : zdy z (d + 1) = F
          have next := ih (d + 1) (by omega) (am_set (am_set M1 24 f) 18 F) (fun x hx k hk => by
            show f (35 * x + k) = _
            by_cases c2 : x = d
            · rw [c2]; exact hf2 k hk
            · exact hf1 x (by omega) k hk) (by rw [hF]; exact am_set_eq ..) (fun o ho1 ho2 => by rw [am_so _ _ ho1, am_so _ _ ho2]; exact h3 o ho1 ho2)
          exact am_R_le (by repeat' (first | exact trivial | exact Or.inr rfl | exact Or.inl rfl | exact Or.inr (congrArg Value.int (nI_succ _)) | refine ⟨?_, ?_⟩)) next
        | succ m ihm =>
          intro k hk f hf1 hf2
          refine g_Z_findRound_14 ⟨fun c => absurd c (i_nge (show k < 35 by omega) (by decide)), fun c => ⟨nI7_ne, nI7_ne, ?_⟩⟩
          show am_C mt_Z_of [.ref 17, .int (nI k / nI 7), .int (nI 1 + (nI k - nI k / nI 7 * nI 7))] _ _
          rw [mod7 k (by omega), div7 k (by omega)]
          refine c_Z_of (v := k / 7) (w := 1 + k % 7) (by omega) ⟨35 * d + k, ix5 35 d k, by show _ < 2135; omega, ?_⟩
          have ev : am_set M1 24 f 18 (17 + 8 * (k / 7) + (1 + k % 7)) = zlk (zdy z d) k := by
            show M1 18 _ = _
            rw [h2]
            unfold zlk
            congr 1
            omega
          have next := ihm (k + 1) (by omega) (upd f (35 * d + k) (am_set M1 24 f 18 (17 + 8 * (k / 7) + (1 + k % 7)))) (fun x hx j hj => by
            rw [upd_ne _ _ (by omega)]; exact hf1 x hx j hj) (fun j hj => by
            by_cases c2 : j = k
            · rw [c2, upd_eq, ev]
            · rw [upd_ne _ _ (by omega)]; exact hf2 j (by omega))
          rw [← am_set_set M1 24 f] at next
          exact am_R_le (by repeat' (first | exact trivial | exact Or.inr rfl | exact Or.inl rfl | exact Or.inr (congrArg Value.int (nI_succ _)) | refine ⟨?_, ?_⟩)) next
      have i0 := inner 35 0 rfl (M1 24) h1 (fun j hj => absurd hj (Nat.not_lt_zero j))
      rw [am_set_self] at i0
      exact am_R_le (by repeat' (first | exact trivial | exact Or.inr rfl | exact Or.inl rfl | exact Or.inr (congrArg Value.int (nI_succ _)) | refine ⟨?_, ?_⟩)) i0
  exact key 61 0 rfl M (fun d hd => absurd hd (Nat.not_lt_zero d)) (hM.trans (zdy_0 z).symm) (fun o _ _ => rfl)
