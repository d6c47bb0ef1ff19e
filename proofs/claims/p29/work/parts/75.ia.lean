/-! isAhead, walked -/
set_option maxHeartbeats 4000000 in
theorem c_L_isAhead {n p v : Nat} {w : wS} {f : dz} {M : am_M} {K : am_Q} (hr : vq w f M) (hi : wi n w) (hp1 : 1 ≤ p) (hp : p ≤ 240) (hv : v < 5) (h0 : (w_z w 0).toInt + 240 ≤ 99999)
    (h : ∀ M' w' f', vq w' f' M' → wi n w' → w_z w' = w_z w → K (.inl (some (.int (nI 1)))) M') : am_C mt_L_isAhead [.ref 0, .int (nI p), .int (nI v)] M K := by
  have hz := hi.1.1.1
  have he := emp_zea (v := v) hz hv
  -- the snapshot, the hours, back again
  have hh := zhod_ti (z := w_z w) hi.1.1.2.2.1.1 (by omega)
  have ik := wi_keep hi 0
  have sk := hs_keep w 0
  have ip := wi_pass (k := p) ik hp (show (w_z w 0).toInt + p ≤ 99999 by omega)
  have sp : hs (w_pass (w_keep w 0) p) 0 (w_z w) := hs_pass sk p
  have ib := wi_back (i := 0) ip (by decide) sp.1
  have sb : hs (w_back (w_pass (w_keep w 0) p) 0) 0 (w_z w) := hs_back sp 0
  have ezb : w_z (w_back (w_pass (w_keep w 0) p) 0) = w_z w := (w_back_z ip (by decide) sp.1).trans sp.2
  have ezp : w_z (w_pass (w_keep w 0) p) = zhours (w_z w) p := rfl
  -- behind the snapshot
  have p180 : ∀ (e : Int32) (g : dz) (M' : am_M) (ls : List Value), emp v (w_z w) e → am_le [.ref 0, .int (nI p), .int (nI v), .long (tale w), .null, .int e, .null, .null, .null, .null] ls → vq (w_pass (w_keep w 0) p) g M' → am_R am_S8 mt_L_isAhead 70 180 ls [] M' K := by
    intro e g M' ls he hl q
    have e0 := emp_0 he
    have p231 : ∀ M2 : am_M, vq (w_back (w_pass (w_keep w 0) p) 0) g M2 → am_R am_S8 mt_L_isAhead 69 231 [.ref 0, .int (nI p), .int (nI v), .long (tale w), .null, .int e, .null, .null, .null, .null] [] M2 K := fun M2 q2 =>
      g_L_isAhead_231 (by decide) (am_R_nle (show 60 - 1 + 2 ≤ 69 by omega) (am_R_le (by repeat' (first | exact trivial | exact Or.inr rfl | exact Or.inl rfl | exact Or.inr (congrArg Value.int (nI_succ _)) | refine ⟨?_, ?_⟩)) (ia_loop (x6 := .null) (x7 := .null) hi rfl hv h0 he (fun M' w' q i' ez _ => h M' w' g q i' ez) M2 _ q2 ib sb ezb)))
    have p226 : ∀ (M2 : am_M) (x y : Int32), x = y → vq (w_back (w_pass (w_keep w 0) p) 0) g M2 → am_R am_S8 mt_L_isAhead 69 226 [.ref 0, .int (nI p), .int (nI v), .long (tale w), .null, .int e, .null, .null, .null, .null] [.int y, .int x] M2 K := fun M2 x y hxy q2 =>
      g_L_isAhead_226 (by decide) ⟨fun c => p231 M2 q2, fun c => absurd hxy c⟩
    have p212 : ∀ (M2 : am_M) (x : Int32), (x = nI 1 ↔ w_z w (18 + 8 * v) = 0) → (x = nI 0 ∨ x = nI 1) → vq (w_back (w_pass (w_keep w 0) p) 0) g M2 → am_R am_S8 mt_L_isAhead 69 212 [.ref 0, .int (nI p), .int (nI v), .long (tale w), .null, .int e, .null, .null, .null, .null] [.int x] M2 K := by
      intro M2 x hx hx2 q2
      refine g_L_isAhead_212 (by decide) (c_vat (v := v) (k := 1) q2 hv (by decide) (fun M3 q3 => ⟨fun c => g_L_isAhead_225 (by decide) (p226 M3 x (nI 0) ?_ q3), fun c => p226 M3 x (nI 1) ?_ q3⟩))
      · have c' : ¬ zvat v 1 (w_z (w_back (w_pass (w_keep w 0) p) 0)) = 0 := c
        rw [zv1, ezb] at c'
        rcases hx2 with e | e
        · exact e
        · exact absurd (hx.mp e) c'
      · have c' : zvat v 1 (w_z (w_back (w_pass (w_keep w 0) p) 0)) = 0 := Classical.not_not.mp c
        rw [zv1, ezb] at c'
        exact hx.mpr c'
    refine am_R_le hl (g_L_isAhead_180 (by decide) (c_back (j := 0) q ip (by decide) sp.1 (fun M1 q1 => c_cnt (k := 0) q1 ib (by decide) (fun M2 q2 => ⟨fun c => absurd ?_ c, fun c => c_L_tale q2 ib (fun M3 q3 => ⟨fun c2 => absurd ?_ c2, fun c2 => ⟨fun c3 => g_L_isAhead_211 (by decide) (p212 M3 (nI 0) ?_ (Or.inl rfl) q3), fun c3 => p212 M3 (nI 1) ?_ (Or.inr rfl) q3⟩⟩)⟩))))
    · show zhod (w_sl (w_pass (w_keep w 0) p) 0) = zcn 0 (w_back (w_pass (w_keep w 0) p) 0)
      rw [sp.2, show zcn 0 (w_back (w_pass (w_keep w 0) p) 0) = zhod (w_z (w_back (w_pass (w_keep w 0) p) 0)) from rfl, ezb]
    · show lg_cmp (tale (w_back (w_pass (w_keep w 0) p) 0)) (tale w) = 0
      rw [lgc_0, tale_z ezb]
    · have c3' : ¬ e = 0 := c3
      exact ⟨fun q => absurd q n01, fun q => absurd (e0.mpr q) c3'⟩
    · have c3' : e = 0 := Classical.not_not.mp c3
      exact ⟨fun _ => e0.mp c3', fun _ => rfl⟩
  -- nothing beyond the limits
  have p129 : ∀ (e : Int32) (g : dz) (M' : am_M) (ls : List Value), emp v (w_z w) e → am_le [.ref 0, .int (nI p), .int (nI v), .long (tale w), .null, .int e, .null, .null, .null, .null] ls → vq (w_pass (w_keep w 0) p) g M' → am_R am_S8 mt_L_isAhead 70 129 ls [] M' K := by
    intro e g M' ls he hl q
    have vats : ∀ M', vq (w_pass (w_keep w 0) p) g M' → am_R am_S8 mt_L_isAhead 70 132 [.ref 0, .int (nI p), .int (nI v), .long (tale w), .null, .int e, .null, .null, .int (nI 0), .null] [] M' K := by
      refine lu (P := fun u => ∀ M', vq (w_pass (w_keep w 0) p) g M' → am_R am_S8 mt_L_isAhead 70 132 [.ref 0, .int (nI p), .int (nI v), .long (tale w), .null, .int e, .null, .null, .int (nI u), .null] [] M' K) 5 ?_ ?_
      · intro M' q
        exact g_L_isAhead_132 (by decide) ⟨fun c => p180 e g M' _ he (by repeat' (first | exact trivial | exact Or.inr rfl | exact Or.inl rfl | exact Or.inr (congrArg Value.int (nI_succ _)) | refine ⟨?_, ?_⟩)) q, fun c => absurd (i_le (Nat.le_refl 5) (by decide)) c⟩
      · intro u hu ih M' q
        have dyes : ∀ M', vq (w_pass (w_keep w 0) p) g M' → am_R am_S8 mt_L_isAhead 70 141 [.ref 0, .int (nI p), .int (nI v), .long (tale w), .null, .int e, .null, .null, .int (nI u), .int (nI 2)] [] M' K := by
          refine lu' (P := fun d => ∀ M', vq (w_pass (w_keep w 0) p) g M' → am_R am_S8 mt_L_isAhead 70 141 [.ref 0, .int (nI p), .int (nI v), .long (tale w), .null, .int e, .null, .null, .int (nI u), .int (nI d)] [] M' K) 2 5 (by decide) ?_ ?_
          · intro M' q
            exact g_L_isAhead_141 (by decide) ⟨fun c => g_L_isAhead_174 (by decide) (am_R_le (by repeat' (first | exact trivial | exact Or.inr rfl | exact Or.inl rfl | exact Or.inr (congrArg Value.int (nI_succ _)) | refine ⟨?_, ?_⟩)) (ih M' q)), fun c => absurd (i_le (Nat.le_refl 5) (by decide)) c⟩
          · intro d hd2 hd ih2 M' q
            refine g_L_isAhead_141 (by decide) ⟨fun c => absurd c (i_nge hd (by decide)), fun c => c_vat (v := u) (k := d) q hu (by omega) (fun M1 q1 => c_vat (v := u) (k := 9) q1 hu (by decide) (fun M2 q2 => ⟨fun c2 => g_L_isAhead_168 (by decide) (am_R_le (by repeat' (first | exact trivial | exact Or.inr rfl | exact Or.inl rfl | exact Or.inr (congrArg Value.int (nI_succ _)) | refine ⟨?_, ?_⟩)) (ih2 M2 q2)), fun c2 => absurd ?_ c2⟩))⟩
            show zvat u d (w_z (w_pass (w_keep w 0) p)) ≤ zvat u 9 (w_z (w_pass (w_keep w 0) p))
            rw [zv (by omega), ezp, show zvat u 9 (zhours (w_z w) p) = zholds u (zhours (w_z w) p) from rfl, Int32.le_iff_toInt_le, show 17 + 8 * u + d = 19 + 8 * u + (d - 2) by omega]
            exact hours_le hz hp1 hu (by omega)
        exact g_L_isAhead_132 (by decide) ⟨fun c => absurd c (i_nge hu (by decide)), fun c => am_R_le (by repeat' (first | exact trivial | exact Or.inr rfl | exact Or.inl rfl | exact Or.inr (congrArg Value.int (nI_succ _)) | refine ⟨?_, ?_⟩)) (dyes M' q)⟩
    exact am_R_le hl (g_L_isAhead_129 (by decide) (am_R_le (by repeat' (first | exact trivial | exact Or.inr rfl | exact Or.inl rfl | exact Or.inr (congrArg Value.int (nI_succ _)) | refine ⟨?_, ?_⟩)) (vats M' q)))
  -- what was told
  have p96 : ∀ (e : Int32) (g : dz) (M' : am_M) (ls : List Value), emp v (w_z w) e → (∀ k, 1 ≤ k → k < 8 → g k = zhours (w_z w) p (17 + 8 * v + k)) → am_le [.ref 0, .int (nI p), .int (nI v), .long (tale w), .null, .int e, .ref 17, .null, .null, .null] ls → vq (w_pass (w_keep w 0) p) g M' → am_R am_S8 mt_L_isAhead 70 96 ls [] M' K := by
    intro e g M' ls he hg hl q
    have told : ∀ M', vq (w_pass (w_keep w 0) p) g M' → am_R am_S8 mt_L_isAhead 70 99 [.ref 0, .int (nI p), .int (nI v), .long (tale w), .null, .int e, .ref 17, .null, .int (nI 1), .null] [] M' K := by
      refine lu' (P := fun k => ∀ M', vq (w_pass (w_keep w 0) p) g M' → am_R am_S8 mt_L_isAhead 70 99 [.ref 0, .int (nI p), .int (nI v), .long (tale w), .null, .int e, .ref 17, .null, .int (nI k), .null] [] M' K) 1 8 (by decide) ?_ ?_
      · intro M' q
        exact g_L_isAhead_99 (by decide) ⟨fun c => p129 e g M' _ he (by repeat' (first | exact trivial | exact Or.inr rfl | exact Or.inl rfl | exact Or.inr (congrArg Value.int (nI_succ _)) | refine ⟨?_, ?_⟩)) q, fun c => absurd (i_le (Nat.le_refl 8) (by decide)) c⟩
      · intro k hk1 hk ih M' q
        refine g_L_isAhead_99 (by decide) ⟨fun c => absurd c (i_nge hk (by decide)), fun c => c_vat (v := v) (k := k) q hv (by omega) (fun M1 q1 => ⟨k, rfl, (by show k < 8; omega), fun c2 => g_L_isAhead_123 (by decide) (am_R_le (by repeat' (first | exact trivial | exact Or.inr rfl | exact Or.inl rfl | exact Or.inr (congrArg Value.int (nI_succ _)) | refine ⟨?_, ?_⟩)) (ih M1 q1)), fun c2 => absurd ?_ c2⟩)⟩
        show zvat v k (w_z (w_pass (w_keep w 0) p)) = M1 17 k
        rw [q1.2, hg k hk1 hk, zv (by omega), ezp]
    exact am_R_le hl (g_L_isAhead_96 (by decide) (am_R_le (by repeat' (first | exact trivial | exact Or.inr rfl | exact Or.inl rfl | exact Or.inr (congrArg Value.int (nI_succ _)) | refine ⟨?_, ?_⟩)) (told M' q)))
  have p47 : ∀ (e : Int32) (g : dz) (M' : am_M) (ls : List Value), emp v (w_z w) e → (∀ k, 1 ≤ k → k < 8 → g k = zhours (w_z w) p (17 + 8 * v + k)) → am_le [.ref 0, .int (nI p), .int (nI v), .long (tale w), .null, .int e, .ref 17, .null, .null, .null] ls → vq w g M' → am_R am_S8 mt_L_isAhead 78 47 ls [] M' K := by
    intro e g M' ls he hg hl q
    refine am_R_le hl (g_L_isAhead_47 (by decide) (c_L_tale q hi (fun M1 q1 => ⟨fun c => absurd ?_ c, fun c => c_keep (j := 0) q1 hi (by decide) (fun M2 q2 => c_cnt (k := 0) q2 ik (by decide) (fun M3 q3 => ⟨fun c2 => g_L_isAhead_71 (by decide) (c_cnt (k := 5) q3 ik (by decide) (fun M4 q4 => c_pass (k := p) q4 ik hp1 hp (show (w_z w 0).toInt + p ≤ 99999 by omega) (fun M5 q5 => c_cnt (k := 5) q5 ip (by decide) (fun M6 q6 => ⟨fun c3 => am_R_nle (show 70 ≤ 76 by omega) (p96 e g M6 _ he hg (by repeat' (first | exact trivial | exact Or.inr rfl | exact Or.inl rfl | exact Or.inr (congrArg Value.int (nI_succ _)) | refine ⟨?_, ?_⟩)) q6), fun c3 => absurd rfl c3⟩)))), fun c2 => absurd rfl c2⟩))⟩)))
    show lg_cmp (tale w) (tale w) = 0
    rw [lgc_0]
  have p21 : ∀ (e : Int32), emp v (w_z w) e → ∀ (g : dz) (M' : am_M), (∀ k, 1 ≤ k → k < 1 → g k = zhours (w_z w) p (17 + 8 * v + k)) → vq w g M' → am_R am_S8 mt_L_isAhead 78 21 [.ref 0, .int (nI p), .int (nI v), .long (tale w), .null, .int e, .ref 17, .int (nI 1), .null, .null] [] M' K := by
    intro e he
    refine lu' (P := fun j => ∀ (g : dz) (M' : am_M), (∀ k, 1 ≤ k → k < j → g k = zhours (w_z w) p (17 + 8 * v + k)) → vq w g M' → am_R am_S8 mt_L_isAhead 78 21 [.ref 0, .int (nI p), .int (nI v), .long (tale w), .null, .int e, .ref 17, .int (nI j), .null, .null] [] M' K) 1 8 (by decide) ?_ ?_
    · intro g M' hg q
      exact g_L_isAhead_21 (by decide) ⟨fun c => p47 e g M' _ he hg (by repeat' (first | exact trivial | exact Or.inr rfl | exact Or.inl rfl | exact Or.inr (congrArg Value.int (nI_succ _)) | refine ⟨?_, ?_⟩)) q, fun c => absurd (i_le (Nat.le_refl 8) (by decide)) c⟩
    · intro j hj1 hj ih g M' hg q
      refine g_L_isAhead_21 (by decide) ⟨fun c => absurd c (i_nge hj (by decide)), fun c => c_ifp (p := p) (v := v) (k := j) q hi hp1 hp hv hj1 (by omega) (fun M1 q1 => ⟨j, rfl, (by show j < 8; omega), am_R_le (by repeat' (first | exact trivial | exact Or.inr rfl | exact Or.inl rfl | exact Or.inr (congrArg Value.int (nI_succ _)) | refine ⟨?_, ?_⟩)) (ih _ _ (fun k hk1 hk => ?_) (vq_set q1))⟩)⟩
      show upd (M1 17) j (zhours (w_z w) p (17 + 8 * v + j)) k = _
      by_cases ck : k = j
      · subst ck
        rw [upd_eq]
      · rw [upd_ne _ _ ck, q1.2]
        exact hg k hk1 (by omega)
  refine am_C_of_Rn am_S0 om_L_isAhead rfl [.ref 0, .int (nI p), .int (nI v), .null, .null, .null, .null, .null, .null, .null] rfl rfl (g_L_isAhead_0 (by decide) (c_L_tale hr hi (fun M1 q1 => c_emp (v := v) q1 hi hv (fun M2 q2 => ?_))))
  generalize zea v (w_z w) 241 = e at he ⊢
  refine am_R_newarr (z := 49) (k := 8) (w := 2) (n := 78) (by decide +kernel) rfl rfl rfl (by decide) (by decide) (by decide) (by decide) rfl rfl rfl rfl rfl ?_
  exact g_L_isAhead_16 (by decide) (am_R_le (by repeat' (first | exact trivial | exact Or.inr rfl | exact Or.inl rfl | exact Or.inr (congrArg Value.int (nI_succ _)) | refine ⟨?_, ?_⟩)) (p21 e he (fun _ => 0) _ (fun k hk1 hk => by omega) (vq_set q2)))
