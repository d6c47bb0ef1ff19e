/-! looks and days -/
def am_S35 : am_S := (35, 0, fun _ => 0)
theorem vq_set {w : wS} {f g : dz} {M : am_M} (h : vq w f M) : vq w g (am_set M 17 g) := ⟨vr_of h.1 (fun o ho => am_so _ _ (by omega)), am_set_eq ..⟩
/-- the look of a state -/
def lk (z : dz) (k : Nat) : Int32 := zvat (k / 7) (1 + k % 7) z
theorem lk_eq {z : dz} {k : Nat} : lk z k = z (18 + 8 * (k / 7) + k % 7) := by
  unfold lk zvat
  rw [if_neg (by omega), if_neg (by omega)]
  congr 1
  omega
theorem c_L_look {w : wS} {f : dz} {M : am_M} {K : am_Q} (hr : vq w f M) (h : ∀ M' f', vq w f' M' → (∀ k, k < 35 → f' k = lk (w_z w) k) → K (.inl none) M') : am_C mt_L_look [.ref 0, .ref 17] M K := by
  have key : ∀ N, N = 35 → ∀ M' f', vq w f' M' → (∀ k, k < 0 → f' k = lk (w_z w) k) → am_R am_S35 mt_L_look 1 2 [.ref 0, .ref 17, .int (nI 0)] [] M' K := by
    intro N hN
    refine lu (P := fun i => ∀ M' f', vq w f' M' → (∀ k, k < i → f' k = lk (w_z w) k) → am_R am_S35 mt_L_look 1 2 [.ref 0, .ref 17, .int (nI i)] [] M' K) N ?_ ?_
    · intro M' f' q hf
      exact g_L_look_2 (by decide) ⟨fun c => g_L_look_31 (by decide) (h M' f' q (fun k hk => hf k (by omega))), fun c => absurd (i_le (show 35 ≤ N by omega) (by omega)) c⟩
    · intro i hi9 ih M' f' q hf
      refine g_L_look_2 (by decide) ⟨fun c => absurd c (i_nge (show i < 35 by omega) (by decide)), fun c => ⟨nI_ne0 (by decide) (by decide), nI_ne0 (by decide) (by decide), c_vatE (v := i / 7) (k := 1 + i % 7) q (pk_div (d := 7) (by omega) (by decide) (by decide)) ?_ (by omega) (by omega) (fun M2 q2 => ⟨i, rfl, (by show i < 35; omega), am_R_le (by repeat' (first | exact trivial | exact Or.inr rfl | exact Or.inl rfl | exact Or.inr (congrArg Value.int (nI_succ _)) | refine ⟨?_, ?_⟩)) (ih _ _ (vq_set q2) (fun k hk => ?_))⟩)⟩⟩
      · show nI 1 + (nI i - nI i / nI 7 * nI 7) = nI (1 + i % 7)
        rw [pk_rem (d := 7) (by omega) (by decide) (by decide), ix2]
      · show upd (M2 17) i (zvat (i / 7) (1 + i % 7) (w_z w)) k = lk (w_z w) k
        by_cases ck : k = i
        · subst ck
          rw [upd_eq]
          rfl
        · rw [upd_ne _ _ ck, q2.2]
          exact hf k (by omega)
  exact am_C_of_R am_S35 om_L_look rfl [.ref 0, .ref 17, .null] rfl rfl (g_L_look_0 (by decide) (am_R_le (by repeat' (first | exact trivial | exact Or.inr rfl | exact Or.inl rfl | exact Or.inr (congrArg Value.int (nI_succ _)) | refine ⟨?_, ?_⟩)) (key 35 rfl M f hr (fun k hk => absurd hk (Nat.not_lt_zero k)))))
theorem c_L_isLook {w : wS} {f : dz} {M : am_M} {K : am_Q} (hr : vq w f M) (hy : (∀ k, k < 35 → f k = lk (w_z w) k) → ∀ M', vq w f M' → K (.inl (some (.int (nI 1)))) M') (hn : ¬ (∀ k, k < 35 → f k = lk (w_z w) k) → ∀ M', vq w f M' → K (.inl (some (.int (nI 0)))) M') : am_C mt_L_isLook [.ref 0, .ref 17] M K := by
  have key : ∀ N, N = 35 → ∀ M' b, vq w f M' → ((b = nI 1 ∧ ∀ k, k < 0 → f k = lk (w_z w) k) ∨ (b = nI 0 ∧ ¬ ∀ k, k < 0 → f k = lk (w_z w) k)) → am_R am_S35 mt_L_isLook 1 4 [.ref 0, .ref 17, .int b, .int (nI 0)] [] M' K := by
    intro N hN
    refine lu (P := fun i => ∀ M' b, vq w f M' → ((b = nI 1 ∧ ∀ k, k < i → f k = lk (w_z w) k) ∨ (b = nI 0 ∧ ¬ ∀ k, k < i → f k = lk (w_z w) k)) → am_R am_S35 mt_L_isLook 1 4 [.ref 0, .ref 17, .int b, .int (nI i)] [] M' K) N ?_ ?_
    · intro M' b q hb
      refine g_L_isLook_4 (by decide) ⟨fun c => g_L_isLook_46 (by decide) ?_, fun c => absurd (i_le (show 35 ≤ N by omega) (by omega)) c⟩
      rcases hb with ⟨rfl, hb⟩ | ⟨rfl, hb⟩
      · exact ⟨Or.inr rfl, hy (fun k hk => hb k (by omega)) M' q⟩
      · exact ⟨Or.inl rfl, hn (fun z => hb fun k hk => z k (by omega)) M' q⟩
    · intro i hi9 ih M' b q hb
      have no : ∀ M' b, vq w f M' → (¬ ∀ k, k < i + 1 → f k = lk (w_z w) k) → am_R am_S35 mt_L_isLook 1 38 [.ref 0, .ref 17, .int b, .int (nI i)] [] M' K := by
        intro M' b q hb
        exact g_L_isLook_38 (by decide) (g_L_isLook_39 (by decide) (am_R_le (by repeat' (first | exact trivial | exact Or.inr rfl | exact Or.inl rfl | exact Or.inr (congrArg Value.int (nI_succ _)) | refine ⟨?_, ?_⟩)) (ih M' (nI 0) q (Or.inr ⟨rfl, hb⟩))))
      refine g_L_isLook_4 (by decide) ⟨fun c => absurd c (i_nge (show i < 35 by omega) (by decide)), fun c => ⟨fun c2 => no M' b q (fun z => ?_), fun c2 => ⟨i, rfl, (by show i < 35; omega), nI_ne0 (by decide) (by decide), nI_ne0 (by decide) (by decide), c_vatE (v := i / 7) (k := 1 + i % 7) q (pk_div (d := 7) (by omega) (by decide) (by decide)) ?_ (by omega) (by omega) (fun M2 q2 => ⟨fun c3 => no M2 b q2 (fun z => ?_), fun c3 => g_L_isLook_39 (by decide) (am_R_le (by repeat' (first | exact trivial | exact Or.inr rfl | exact Or.inl rfl | exact Or.inr (congrArg Value.int (nI_succ _)) | refine ⟨?_, ?_⟩)) (ih M2 (nI 1) q2 (Or.inl ⟨rfl, fun k hk => ?_⟩)))⟩)⟩⟩⟩
      · have c2' : b = 0 := c2
        rcases hb with ⟨rfl, hb⟩ | ⟨rfl, hb⟩
        · exact nI1_ne c2'
        · exact hb fun k hk => z k (by omega)
      · show nI 1 + (nI i - nI i / nI 7 * nI 7) = nI (1 + i % 7)
        rw [pk_rem (d := 7) (by omega) (by decide) (by decide), ix2]
      · have c3' : ¬ M' 17 i = zvat (i / 7) (1 + i % 7) (w_z w) := c3
        rw [q.2] at c3'
        exact c3' (z i (by omega))
      · have c3' : M' 17 i = zvat (i / 7) (1 + i % 7) (w_z w) := Classical.not_not.mp c3
        rw [q.2] at c3'
        have c2' : ¬ b = 0 := c2
        by_cases ck : k = i
        · subst ck
          exact c3'
        · rcases hb with ⟨rfl, hb⟩ | ⟨rfl, hb⟩
          · exact hb k (by omega)
          · exact absurd rfl c2'
  exact am_C_of_R am_S35 om_L_isLook rfl [.ref 0, .ref 17, .null, .null] rfl rfl (g_L_isLook_0 (by decide) (am_R_le (by repeat' (first | exact trivial | exact Or.inr rfl | exact Or.inl rfl | exact Or.inr (congrArg Value.int (nI_succ _)) | refine ⟨?_, ?_⟩)) (key 35 rfl M (nI 1) hr (Or.inl ⟨rfl, fun k hk => absurd hk (Nat.not_lt_zero k)⟩))))
/-- the same slots -/
def hsl (w w' : wS) : Prop := ∀ i z, hs w i z → hs w' i z
theorem hsl_refl (w : wS) : hsl w w := fun _ _ h => h
theorem hsl_trans {a b c : wS} (h : hsl a b) (h' : hsl b c) : hsl a c := fun i z q => h' i z (h i z q)
theorem pos_nlt {x : Int32} (h : 0 ≤ x.toInt) : ¬ x < 0 := fun q => by
  have := ti_lt.mp q
  rw [ti_0] at this
  omega
theorem c_L_days {n k : Nat} {w : wS} {f : dz} {M : am_M} {K : am_Q} (hr : vq w f M) (hi : wi n w) (hk : k ≤ 60) (h0 : (w_z w 0).toInt + 24 * k ≤ 99999) (h : ∀ M' w', vq w' f M' → wi n w' → w_z w' = zdy (w_z w) k → hsl w w' → K (.inl (some (.int (nI 1)))) M') : am_C mt_L_days [.ref 0, .int (nI k)] M K := by
  have key : ∀ M' w', vq w' f M' → wi n w' → w_z w' = zdy (w_z w) 0 → hsl w w' → am_R am_S0 mt_L_days (k - 0 + 1) 4 [.ref 0, .int (nI k), .int (nI 1), .int (nI 0)] [] M' K := by
    refine lu (P := fun i => ∀ M' w', vq w' f M' → wi n w' → w_z w' = zdy (w_z w) i → hsl w w' → am_R am_S0 mt_L_days (k - i + 1) 4 [.ref 0, .int (nI k), .int (nI 1), .int (nI i)] [] M' K) k ?_ ?_
    · intro M' w' q i' ez hl
      exact g_L_days_4 ⟨fun c => g_L_days_34 ⟨Or.inr rfl, h M' w' q i' ez hl⟩, fun c => absurd (i_le (Nat.le_refl k) (by omega)) c⟩
    · intro i hi9 ih M' w' q i' ez hl
      have e : k - i + 1 = (k - (i + 1) + 1) + 1 := by omega
      rw [e]
      have hz0 : (w_z w' 0).toInt = (w_z w 0).toInt + 24 * i := by
        have ek : (nI (24 * i)).toInt = (24 * i : Nat) := nI_toInt (by omega)
        have := hi.1.1.2.2.1
        rw [ez]
        unfold zdy
        rw [zhours_0 hi.1.1.1, ti_add (by omega) (by omega)]
        omega
      have ez2 : zhours (w_z w') 24 = zdy (w_z w) (i + 1) := by rw [ez, zdy_next]
      refine g_L_days_4 ⟨fun c => absurd c (i_nge hi9 (by omega)), fun c => ⟨fun c2 => absurd c2 nI1_ne, fun c2 => c_pass (k := 24) q i' (by decide) (by decide) (by omega) (fun M2 q2 => ⟨fun c3 => absurd c3 (pos_nlt (out_pos i'.1.1.1 24)), fun c3 => g_L_days_27 (am_R_le (by repeat' (first | exact trivial | exact Or.inr rfl | exact Or.inl rfl | exact Or.inr (congrArg Value.int (nI_succ _)) | refine ⟨?_, ?_⟩)) (ih M2 _ q2 (wi_pass i' (by decide) (by omega)) ez2 (hsl_trans hl (fun i z h => hs_pass h 24))))⟩)⟩⟩
  exact am_C_of_Rn am_S0 om_L_days rfl [.ref 0, .int (nI k), .null, .null] rfl rfl (g_L_days_0 (am_R_le (by repeat' (first | exact trivial | exact Or.inr rfl | exact Or.inl rfl | exact Or.inr (congrArg Value.int (nI_succ _)) | refine ⟨?_, ?_⟩)) (am_R_nle (show k - 0 + 1 ≤ 64 by omega) (key M w hr hi rfl (hsl_refl w)))))
