/-! the valve that matters the most, by closing each -/
theorem zmb_sub {F G : Nat → Int32} {m : Nat} (h : ∀ i j, i < m → j < m → (F i < F j ↔ G i < G j)) : ∀ k, k ≤ m → zmb F k = zmb G k
  | 0, _ => rfl
  | k + 1, hk => by
    have ih := zmb_sub h k (by omega)
    have hle := zmb_le G k
    unfold zmb
    rw [ih]
    by_cases c0 : zmb G k = 0
    · rw [if_pos (Or.inl c0), if_pos (Or.inl c0)]
    · by_cases c : G k < G (zmb G k - 1)
      · rw [if_pos (Or.inr ((h k (zmb G k - 1) (by omega) (by omega)).mpr c)), if_pos (Or.inr c)]
      · rw [if_neg (fun q => q.elim c0 (fun q => c ((h k (zmb G k - 1) (by omega) (by omega)).mp q))), if_neg (fun q => q.elim c0 c)]
/-- the least so far -/
def zlst (G : Nat → Int32) (k : Nat) : Int32 := if zmb G k = 0 then nI 0 else G (zmb G k - 1)
theorem zmb_y {G : Nat → Int32} {k : Nat} (h : zmb G k = 0 ∨ G k < G (zmb G k - 1)) : zmb G (k + 1) = k + 1 := by
  show (if zmb G k = 0 ∨ G k < G (zmb G k - 1) then k + 1 else zmb G k) = _
  rw [if_pos h]
theorem zmb_n {G : Nat → Int32} {k : Nat} (h : ¬ (zmb G k = 0 ∨ G k < G (zmb G k - 1))) : zmb G (k + 1) = zmb G k := by
  show (if zmb G k = 0 ∨ G k < G (zmb G k - 1) then k + 1 else zmb G k) = _
  rw [if_neg h]
theorem out_drop {z : dz} {m : Nat} (h : zok z) (hm : z 5 = nI m) (hm8 : m ≤ 8) : ∀ i j, i < m → j < m → (zmo z m i < zmo z m j ↔ zmo z m i - z 2 < zmo z m j - z 2) := by
  intro i j hi hj
  have a := zmo_ti h hm hm8 hi
  have b := zmo_ti h hm hm8 hj
  have c := zok_went h
  have d := ti_max (z 3)
  have e1 := ti_sub (a := zmo z m i) (b := z 2) (by omega) (by omega)
  have e2 := ti_sub (a := zmo z m j) (b := z 2) (by omega) (by omega)
  rw [ti_lt, ti_lt, e1, e2]
  omega
set_option maxHeartbeats 2000000 in
theorem c_L_isMain {n : Nat} {w : wS} {f : dz} {M : am_M} {K : am_Q} (hr : vq w f M) (hi : wi n w) (h0 : (w_z w 0).toInt + 24 ≤ 99999) (h : ∀ M' w', vq w' f M' → wi n w' → w_z w' = w_z w → hsl w w' → K (.inl (some (.int (nI 1)))) M') : am_C mt_L_isMain [.ref 0] M K := by
  obtain ⟨m, hm8, hm, -⟩ := hi.1.1.1.2.2.2.2.2
  have hz := hi.1.1.1
  have ew : m_main w = nI (zmb (zmo (w_z w) m) m) - nI 1 := by
    unfold m_main
    rw [hm, zn_nI (by omega)]
  have zG := zmb_sub (out_drop hz hm hm8) m (Nat.le_refl m)
  generalize eG : (fun k => zmo (w_z w) m k - w_z w 2) = G at zG
  have key : ∀ M' w', vq w' f M' → wi n w' → w_z w' = w_z w → hsl w w' → am_R am_S0 mt_L_isMain (4 * (m - 0) + 1) 26 [.ref 0, .long (tale w), .null, .int (m_main w), .int (nI (zmb G 0) - nI 1), .int (zlst G 0), .int (nI m), .int (nI 0), .null] [] M' K := by
    refine lu (P := fun k => ∀ M' w', vq w' f M' → wi n w' → w_z w' = w_z w → hsl w w' → am_R am_S0 mt_L_isMain (4 * (m - k) + 1) 26 [.ref 0, .long (tale w), .null, .int (m_main w), .int (nI (zmb G k) - nI 1), .int (zlst G k), .int (nI m), .int (nI k), .null] [] M' K) m ?_ ?_
    · intro M' w' q i' ez hl
      have eb : m_main w = nI (zmb G m) - nI 1 := by rw [ew, zG]
      refine am_R_nle (n := 1) (by omega) (g_L_isMain_26 ⟨fun c => g_L_isMain_120 ⟨fun c2 => absurd eb c2, fun c2 => c_L_tale q i' (fun M2 q2 => ⟨fun c3 => absurd ?_ c3, fun c3 => g_L_isMain_140 ⟨Or.inr rfl, h M2 w' q2 i' ez hl⟩⟩)⟩, fun c => absurd (i_le (Nat.le_refl m) (by omega)) c⟩)
      show lg_cmp (tale w') (tale w) = 0
      rw [lgc_0, tale_z ez]
    · intro k hk ih M' w' q i' ez hl
      have hm' : w_z w' 5 = nI m := by rw [ez]; exact hm
      have e5 : 4 * (m - k) + 1 = 4 * (m - (k + 1)) + 1 + 1 + 1 + 1 + 1 := by omega
      rw [e5]
      have i1 := wi_close i' hm' hm8 hk
      have ez1 : w_z (w_close w' k) = zdrop k m (w_z w) := by
        show zdrop k (zn (w_z w' 5)) (w_z w') = _
        rw [hm', zn_nI (by omega), ez]
      have z10 : w_z (w_close w' k) 0 = w_z w 0 := by rw [ez1, zdrop_lo (by omega) (by decide)]
      have z12 : w_z (w_close w' k) 2 = w_z w 2 := by rw [ez1, zdrop_lo (by omega) (by decide)]
      have i2 := wi_pass (k := 24) i1 (by decide) (by rw [z10]; omega)
      have tt1 : t1 (w_pass (w_close w' k) 24) (w_z (w_close w' k)) := t1_rec
      have tt2 : t2 (w_pass (w_close w' k) 24) (w_z w') := t2_rec i1.1.2.2.2.1 t1_rec
      have i3 := wi_undo i2 tt1.1
      have tt3 := t1_undo tt2
      have i4 := wi_undo i3 tt3.1
      have ez4 : w_z (w_undo (w_undo (w_pass (w_close w' k) 24))) = w_z w := (w_undo_z i3 tt3).trans ez
      have eo : zhours (w_z (w_close w' k)) 24 2 - w_z (w_close w' k) 2 = G k := by
        rw [z12, ez1, ← eG]
        rfl
      have np : ∀ a : Nat, a ≤ 6 → ¬ nI a < 0 := fun a ha => pos_nlt (by rw [nI_toInt (by omega)]; omega)
      have s2 := i2.1.2.2.2.1
      have s3 := i3.1.2.2.2.1
      refine g_L_isMain_26 ⟨fun c => absurd c (i_nge hk (by omega)), fun c => c_close q i' hm' hm8 hk (fun M1 q1 => ⟨fun c2 => g_L_isMain_48 (c_pass (k := 24) q1 i1 (by decide) (by decide) (by rw [z10]; omega) (fun M2 q2 => ?_)), fun c2 => absurd rfl c2⟩)⟩
      rw [eo]
      have hout : 0 ≤ (G k).toInt := by rw [← eo]; exact out_pos i1.1.1.1 24
      refine ⟨fun c3 => absurd c3 (pos_nlt hout), fun c3 => c_undo q2 i2 tt1.1 (fun M3 q3 => ⟨fun c4 => absurd c4 (np _ (by omega)), fun c4 => c_undo q3 i3 tt3.1 (fun M4 q4 => ⟨fun c5 => ?_, fun c5 => absurd (Int32.not_lt.mp (np (w_s (w_undo (w_pass (w_close w' k) 24)) - 1) (by omega))) c5⟩)⟩)⟩
      have hl4 : hsl w (w_undo (w_undo (w_pass (w_close w' k) 24))) := fun i z q => hl i z q
      have hle := zmb_le G k
      have nx := ih M4 _ q4 i4 ez4 hl4
      have upd_ : (zmb G k = 0 ∨ G k < G (zmb G k - 1)) → am_R am_S0 mt_L_isMain (4 * (m - (k + 1)) + 1) 89 [.ref 0, .long (tale w), .null, .int (m_main w), .int (nI (zmb G k) - nI 1), .int (zlst G k), .int (nI m), .int (nI k), .int (G k)] [] M4 K := by
        intro hy
        have e1 := zmb_y hy
        have e2 : nI (zmb G (k + 1)) - nI 1 = nI k := by rw [e1, nI_sub1 (by omega), Nat.add_sub_cancel]
        have e3 : zlst G (k + 1) = G k := by
          unfold zlst
          rw [e1, if_neg (by omega), Nat.add_sub_cancel]
        rw [e2, e3] at nx
        exact g_L_isMain_89 (g_L_isMain_96 ⟨fun c => absurd rfl c, fun c => g_L_isMain_112 (am_R_le (by repeat' (first | exact trivial | exact Or.inr rfl | exact Or.inl rfl | exact Or.inr (congrArg Value.int (nI_succ _)) | refine ⟨?_, ?_⟩)) nx)⟩)
      by_cases cb : zmb G k = 0
      · refine g_L_isMain_77 ⟨fun c6 => upd_ (Or.inl cb), fun c6 => absurd ?_ c6⟩
        show nI (zmb G k) - nI 1 < 0
        rw [cb]
        exact m1_lt
      · have eb : nI (zmb G k) - nI 1 = nI (zmb G k - 1) := nI_sub1 (by omega)
        have el : zlst G k = G (zmb G k - 1) := by unfold zlst; rw [if_neg cb]
        refine g_L_isMain_77 ⟨fun c6 => absurd ?_ (np (zmb G k - 1) (by omega)), fun c6 => ⟨fun c7 => ?_, fun c7 => upd_ (Or.inr ?_)⟩⟩
        · rw [← eb]
          exact c6
        · have c7' : zlst G k ≤ G k := c7
          rw [el] at c7'
          have e1 := zmb_n (G := G) (k := k) (fun q => q.elim cb (fun q => absurd c7' (Int32.not_le.mpr q)))
          have e3 : zlst G (k + 1) = zlst G k := by unfold zlst; rw [e1]
          rw [e1, e3] at nx
          refine g_L_isMain_94 (g_L_isMain_96 ⟨fun c => g_L_isMain_110 (g_L_isMain_112 (am_R_le (by repeat' (first | exact trivial | exact Or.inr rfl | exact Or.inl rfl | exact Or.inr (congrArg Value.int (nI_succ _)) | refine ⟨?_, ?_⟩)) nx)), fun c => ?_⟩)
          have c' : nI (zmb G k) - nI 1 = nI k := Classical.not_not.mp c
          rw [eb] at c'
          have := (nI_eq (by omega) (by omega)).mp c'
          omega
        · have c7' : ¬ zlst G k ≤ G k := c7
          rw [el] at c7'
          exact Int32.not_le.mp c7'
  have fin : ∀ M', vq w f M' → am_R am_S0 mt_L_isMain 40 26 [.ref 0, .long (tale w), .null, .int (m_main w), .int (-nI 1), .int (nI 0), .int (nI m), .int (nI 0), .null] [] M' K := fun M' q => am_R_nle (show 4 * (m - 0) + 1 ≤ 40 by omega) (key M' w q hi rfl (hsl_refl w))
  refine am_C_of_Rn am_S0 om_L_isMain rfl [.ref 0, .null, .null, .null, .null, .null, .null, .null, .null] rfl rfl (g_L_isMain_0 (c_L_tale hr hi (fun M1 q1 => c_mai q1 hi (fun M2 q2 => c_cnt (k := 2) q2 hi (by decide) (fun M3 q3 => ?_)))))
  rw [zcn_2, hm]
  exact am_R_le (by repeat' (first | exact trivial | exact Or.inr rfl | exact Or.inl rfl | exact Or.inr (congrArg Value.int (nI_succ _)) | refine ⟨?_, ?_⟩)) (fin M3 q3)
