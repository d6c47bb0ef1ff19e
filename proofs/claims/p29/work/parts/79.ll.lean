/-! the law's body -/
theorem cst_r {b : Nat} : (if mt_g mt_L_isRound then b + 6000 - mt_c mt_L_isRound else b + 6000) = b := by
  have e : mt_c mt_L_isRound = 6000 := rfl
  rw [e, if_pos (show mt_g mt_L_isRound = true from rfl), Nat.add_sub_cancel]
section LLW
variable {Ln : Nat} {xs : Nat → Int32} {n b : Nat} {w : wS} {f : dz} {ls : List Value} {M : am_M} {Q : am_Q}
theorem yl_189 {p v : Nat} (hr : vq w f M) (hi : wi n w) (hp1 : 1 ≤ p) (hp : p ≤ 240) (hv : v < 5) (h0 : (w_z w 0).toInt + 240 ≤ 99999) (h : ∀ M' w' f', vq w' f' M' → wi n w' → w_z w' = w_z w → am_R (0, Ln, xs) mt_L_law b 192 ls [.int (nI 1)] M' Q) : am_R (0, Ln, xs) mt_L_law (b + 80) 189 ls [.int (nI v), .int (nI p), .ref 0] M Q :=
  x_L_law_189 (p0 := [.int (nI v), .int (nI p), .ref 0]) (r := []) (av := [.ref 0, .int (nI p), .int (nI v)]) (Nat.le_add_left 80 b) (fun _ => rfl) rfl rfl rfl (by decide) (c_L_isAhead hr hi hp1 hp hv h0 (fun M' w' f' q i' ez => ⟨_, rfl, (by
    show am_R (0, Ln, xs) mt_L_law (b + 80 - 80) 192 ls [.int (nI 1)] M' Q
    rw [Nat.add_sub_cancel]
    exact h M' w' f' q i' ez)⟩))
theorem yl_205 (hr : vq w f M) (hi : wi n w) (h0 : (w_z w 0).toInt ≤ 2000) (h : ∀ M' w' f', vq w' f' M' → wi n w' → w_z w' = w_z w → am_R (0, Ln, xs) mt_L_law b 208 ls [.int (nI 1)] M' Q) : am_R (0, Ln, xs) mt_L_law (b + 6000) 205 ls [.ref 0] M Q :=
  x_L_law_205 (p0 := [.ref 0]) (r := []) (av := [.ref 0]) (Nat.le_add_left 6000 b) (fun _ => rfl) rfl rfl rfl (by decide) (c_L_isRound hr hi h0 (fun M' w' f' q i' ez => ⟨_, rfl, (by
    rw [cst_r]
    exact h M' w' f' q i' ez)⟩))
theorem yl_221 (hr : vq w f M) (hi : wi n w) (h0 : (w_z w 0).toInt + 24 ≤ 99999) (h : ∀ M' w', vq w' f M' → wi n w' → w_z w' = w_z w → am_R (0, Ln, xs) mt_L_law b 224 ls [.int (nI 1)] M' Q) : am_R (0, Ln, xs) mt_L_law (b + 40) 221 ls [.ref 0] M Q :=
  x_L_law_221 (p0 := [.ref 0]) (r := []) (av := [.ref 0]) (Nat.le_add_left 40 b) (fun h => by cases h) rfl rfl rfl (by decide) (c_L_isMain hr hi h0 (fun M' w' q i' ez _ => ⟨_, rfl, (by
    show am_R (0, Ln, xs) mt_L_law (b + 40 - 40) 224 ls [.int (nI 1)] M' Q
    rw [Nat.add_sub_cancel]
    exact h M' w' q i' ez)⟩))
end LLW
/-- what may still be made ahead of the turn t -/
def lb (t : Nat) : Nat := (30 - t) * 6200 + 10
set_option maxHeartbeats 4000000 in
theorem l_law {Ln : Nat} {xs : Nat → Int32} (hLn : Ln < 2 ^ 31) {f : dz} {M : am_M} {K : am_Q} (hr : vq st_ws f M) (h : ∀ M', K (.inl (some (.int (nI 1)))) M') : am_R (0, Ln, xs) mt_L_law 200000 8 [.ref 27, .ref 0, .null, .null, .null, .null, .null, .null] [] M K := by
  have hL : ((0, Ln, xs) : am_S).1 < 2 ^ 31 := Nat.two_pow_pos 31
  have loop : ∀ M' w' f', vq w' f' M' → wi 0 w' → (w_z w' 0).toInt ≤ 40 * (0 : Nat) → am_R (0, Ln, xs) mt_L_law (lb 0) 71 [.ref 27, .ref 0, .int (nI 0), .null, .null, .null, .null, .null] [] M' K := by
    refine lu (P := fun t => ∀ M' w' f', vq w' f' M' → wi t w' → (w_z w' 0).toInt ≤ 40 * t → am_R (0, Ln, xs) mt_L_law (lb t) 71 [.ref 27, .ref 0, .int (nI t), .null, .null, .null, .null, .null] [] M' K) 30 ?_ ?_
    · intro M' w' f' q i' z0
      exact g_L_law_71 hL ⟨fun c => g_L_law_235 hL ⟨Or.inr rfl, h M'⟩, fun c => absurd (i_le (Nat.le_refl 30) (by decide)) c⟩
    · intro t ht ih M' w' f' q i' z0
      have eb : lb t = lb (t + 1) + 6200 := by unfold lb; omega
      rw [eb]
      generalize lb (t + 1) = b at ih ⊢
      -- behind the checks
      have p229 : ∀ (M2 : am_M) (w2 : wS) (g : dz) (ls : List Value), am_le [.ref 27, .ref 0, .int (nI t), .null, .null, .null, .null, .null] ls → vq w2 g M2 → wi (t + 1) w2 → (w_z w2 0).toInt ≤ 40 * (t + 1 : Nat) → am_R (0, Ln, xs) mt_L_law b 229 ls [] M2 K := fun M2 w2 g ls hl q2 i2 z2 =>
        am_R_le hl (g_L_law_229 hL (am_R_le (by repeat' (first | exact trivial | exact Or.inr rfl | exact Or.inl rfl | exact Or.inr (congrArg Value.int (nI_succ _)) | refine ⟨?_, ?_⟩)) (ih M2 w2 g q2 i2 z2)))
      have p211 : ∀ (M2 : am_M) (w2 : wS) (g : dz) (ls : List Value), am_le [.ref 27, .ref 0, .int (nI t), .null, .null, .null, .null, .null] ls → vq w2 g M2 → wi (t + 1) w2 → (w_z w2 0).toInt ≤ 40 * (t + 1 : Nat) → am_R (0, Ln, xs) mt_L_law (b + 40) 211 ls [] M2 K := fun M2 w2 g ls hl q2 i2 z2 =>
        am_R_le hl (g_L_law_211 hL ⟨nI_ne0 (by decide) (by decide), fun c => am_R_nle (Nat.le_add_right b 40) (p229 M2 w2 g _ (by repeat' (first | exact trivial | exact Or.inr rfl | exact Or.inl rfl | exact Or.inr (congrArg Value.int (nI_succ _)) | refine ⟨?_, ?_⟩)) q2 i2 z2), fun c => yl_221 q2 i2 (by omega) (fun M3 w3 q3 i3 ez => g_L_law_224 hL ⟨fun _ => p229 M3 w3 g _ (by repeat' (first | exact trivial | exact Or.inr rfl | exact Or.inl rfl | exact Or.inr (congrArg Value.int (nI_succ _)) | refine ⟨?_, ?_⟩)) q3 i3 (by rw [ez]; exact z2), fun c2 => absurd nI1_ne c2⟩)⟩)
      have p195 : ∀ (M2 : am_M) (w2 : wS) (g : dz) (ls : List Value), am_le [.ref 27, .ref 0, .int (nI t), .null, .null, .null, .null, .null] ls → vq w2 g M2 → wi (t + 1) w2 → (w_z w2 0).toInt ≤ 40 * (t + 1 : Nat) → am_R (0, Ln, xs) mt_L_law (b + 40 + 6000) 195 ls [] M2 K := fun M2 w2 g ls hl q2 i2 z2 =>
        am_R_le hl (g_L_law_195 hL ⟨nI_ne0 (by decide) (by decide), fun c => am_R_nle (Nat.le_add_right (b + 40) 6000) (p211 M2 w2 g _ (by repeat' (first | exact trivial | exact Or.inr rfl | exact Or.inl rfl | exact Or.inr (congrArg Value.int (nI_succ _)) | refine ⟨?_, ?_⟩)) q2 i2 z2), fun c => yl_205 q2 i2 (by omega) (fun M3 w3 g3 q3 i3 ez => g_L_law_208 hL ⟨fun c2 => absurd c2 nI1_ne, fun _ => p211 M3 w3 g3 _ (by repeat' (first | exact trivial | exact Or.inr rfl | exact Or.inl rfl | exact Or.inr (congrArg Value.int (nI_succ _)) | refine ⟨?_, ?_⟩)) q3 i3 (by rw [ez]; exact z2)⟩)⟩)
      have p161 : ∀ (M2 : am_M) (w2 : wS) (g : dz) (x : Int32) (ls : List Value), am_le [.ref 27, .ref 0, .int (nI t), .int x, .null, .null, .null, .null] ls → vq w2 g M2 → wi (t + 1) w2 → (w_z w2 0).toInt ≤ 40 * (t + 1 : Nat) → am_R (0, Ln, xs) mt_L_law (b + 40 + 6000 + 80) 161 ls [] M2 K := by
        intro M2 w2 g x ls hl q2 i2 z2
        refine am_R_le hl (g_L_law_161 hL ⟨nI_ne0 (by decide) (by decide), fun c => am_R_nle (Nat.le_add_right (b + 40 + 6000) 80) (p195 M2 w2 g _ (by repeat' (first | exact trivial | exact Or.inr rfl | exact Or.inl rfl | exact Or.inr (congrArg Value.int (nI_succ _)) | refine ⟨?_, ?_⟩)) q2 i2 z2), fun c => c_L_low (d := 240) rfl (by decide) (by decide) (fun t1 ht1 => c_L_low (d := 5) rfl (by decide) (by decide) (fun t2 ht2 => ?_))⟩)
        show am_R (0, Ln, xs) mt_L_law (b + 40 + 6000 + 80) 189 [.ref 27, .ref 0, .int (nI t), .int x, .null, .null, .null, .null] [.int (nI t2), .int (nI 1 + nI t1), .ref 0] M2 K
        rw [ix2]
        exact yl_189 q2 i2 (by omega) (by omega) ht2 (by omega) (fun M3 w3 g3 q3 i3 ez => g_L_law_192 hL ⟨fun c2 => absurd c2 nI1_ne, fun _ => p195 M3 w3 g3 _ (by repeat' (first | exact trivial | exact Or.inr rfl | exact Or.inl rfl | exact Or.inr (congrArg Value.int (nI_succ _)) | refine ⟨?_, ?_⟩)) q3 i3 (by rw [ez]; exact z2)⟩)
      have p152 : ∀ (M2 : am_M) (w2 : wS) (g : dz) (x : Int32) (ls : List Value), am_le [.ref 27, .ref 0, .int (nI t), .int x, .null, .null, .null, .null] ls → vq w2 g M2 → wi (t + 1) w2 → (w_z w2 0).toInt ≤ 40 * (t + 1 : Nat) → am_R (0, Ln, xs) mt_L_law (b + 40 + 6000 + 80) 152 ls [] M2 K := fun M2 w2 g x ls hl q2 i2 z2 =>
        am_R_le hl (g_L_law_152 hL (c_L_addsUp q2 i2 (fun M3 q3 => ⟨fun _ => p161 M3 w2 g x _ (by repeat' (first | exact trivial | exact Or.inr rfl | exact Or.inl rfl | exact Or.inr (congrArg Value.int (nI_succ _)) | refine ⟨?_, ?_⟩)) q3 i2 z2, fun c => absurd nI1_ne c⟩)))
      -- the act
      have p123 : ∀ (M1 : am_M) (x x' y : Int32) (T : Int64), vq w' f' M1 → (nI t - nI t / nI 5 * nI 5 = 0 → T = tale w') → am_R (0, Ln, xs) mt_L_law (b + 6199 + 1) 123 [.ref 27, .ref 0, .int (nI t), .int x, .int y, .long T, .null, .null] [.int x', .ref 0] M1 K := by
        intro M1 x x' y T q1 hT
        refine g_L_law_123 hL (c_L_act (n := t) (by omega) q1 i' (fun v w2 M2 ha q2 => ⟨nI_ne0 (by decide) (by decide), fun c => ?_, fun c => ⟨fun c2 => ?_, fun c2 => ?_⟩⟩))
        all_goals
          obtain ⟨i2, hsame, hz2⟩ := ha
          have z2 : (w_z w2 0).toInt ≤ 40 * (t + 1 : Nat) := by omega
        · exact am_R_nle (show b + 40 + 6000 + 80 ≤ b + 6199 by omega) (p152 M2 w2 f' x _ (by repeat' (first | exact trivial | exact Or.inr rfl | exact Or.inl rfl | exact Or.inr (congrArg Value.int (nI_succ _)) | refine ⟨?_, ?_⟩)) q2 i2 z2)
        · exact am_R_nle (show b + 40 + 6000 + 80 ≤ b + 6199 by omega) (p152 M2 w2 f' x _ (by repeat' (first | exact trivial | exact Or.inr rfl | exact Or.inl rfl | exact Or.inr (congrArg Value.int (nI_succ _)) | refine ⟨?_, ?_⟩)) q2 i2 z2)
        · have c' : nI t - nI t / nI 5 * nI 5 = 0 := Classical.not_not.mp c
          have c2' : ¬ -nI 1 ≤ v := c2
          have ew := hsame (Int32.not_le.mp c2')
          refine c_L_tale q2 i2 (fun M3 q3 => ⟨fun c3 => absurd ?_ c3, fun c3 => am_R_nle (show b + 40 + 6000 + 80 ≤ b + 6199 by omega) (p152 M3 w2 f' x _ (by repeat' (first | exact trivial | exact Or.inr rfl | exact Or.inl rfl | exact Or.inr (congrArg Value.int (nI_succ _)) | refine ⟨?_, ?_⟩)) q3 i2 z2)⟩)
          show lg_cmp (tale w2) T = 0
          rw [lgc_0, hT c', ew]
      have p110 : ∀ (M1 : am_M) (x y : Int32) (T : Int64), vq w' f' M1 → (nI t - nI t / nI 5 * nI 5 = 0 → T = tale w') → am_R (0, Ln, xs) mt_L_law (b + 6199 + 1) 110 [.ref 27, .ref 0, .int (nI t), .int x, .int y, .null, .null, .null] [.long T] M1 K := fun M1 x y T q1 hT =>
        g_L_law_110 hL ⟨fun c => g_L_law_122 hL (p123 M1 x x y T q1 hT), fun c => p123 M1 x (nI 0) y T q1 hT⟩
      have p94 : ∀ (x y : Int32), am_R (0, Ln, xs) mt_L_law (b + 6199 + 1) 94 [.ref 27, .ref 0, .int (nI t), .int x, .null, .null, .null, .null] [.int y] M' K := fun x y =>
        g_L_law_94 hL ⟨nI_ne0 (by decide) (by decide), fun c => g_L_law_109 hL (p110 M' x y (lN 0) q (fun c2 => absurd c2 c)), fun c => c_L_tale q i' (fun M1 q1 => p110 M1 x y (tale w') q1 (fun _ => rfl))⟩
      refine g_L_law_71 hL ⟨fun c => absurd c (i_nge ht (by decide)), fun c => ?_⟩
      show am_R (0, Ln, xs) mt_L_law (b + 6200) 81 [.ref 27, .ref 0, .int (nI t), .null, .null, .null, .null, .null] [.int (nI 2 * nI t), .ref 27] M' K
      rw [pk_mul]
      refine am_R_cell (k := 2 * t) (idx := 151) (z := 311) (z2 := 312) rfl (by omega) (by decide +kernel) (by decide +kernel) (by decide +kernel) (by decide +kernel) (by decide) (by omega) hLn ?_
      refine g_L_law_84 hL ?_
      show am_R (0, Ln, xs) mt_L_law (b + 6200) 91 [.ref 27, .ref 0, .int (nI t), .int (lw_cell (Ln, xs) (2 * t)), .null, .null, .null, .null] [.int (nI 2 * nI t + nI 1), .ref 27] M' K
      rw [pk_mul, ix2]
      exact am_R_cell (k := 2 * t + 1) (idx := 151) (z := 311) (z2 := 312) rfl (by omega) (by decide +kernel) (by decide +kernel) (by decide +kernel) (by decide +kernel) (by decide) (by omega) hLn (p94 _ _)
  have ez : w_z st_ws = st_z := rfl
  obtain ⟨r0, r1⟩ := st_rnd
  have hze := st_zea
  refine g_L_law_8 hL (c_rnd (k := 0) hr st_wi (by decide) (fun M1 q1 => ?_))
  rw [ez, r0]
  refine ⟨fun c => absurd rfl c, fun c => c_rnd (k := 1) q1 st_wi (by decide) (fun M2 q2 => ?_)⟩
  rw [ez, r1]
  refine ⟨fun c => absurd rfl c, fun c => c_mai q2 st_wi (fun M3 q3 => ?_)⟩
  rw [st_main]
  refine ⟨fun c => absurd rfl c, fun c => c_emp (v := 0) q3 st_wi (by decide) (fun M4 q4 => ?_)⟩
  rw [ez]
  generalize zea 0 st_z 241 = e at hze ⊢
  subst hze
  refine ⟨fun c => absurd rfl c, fun c => c_L_undo q4.1 st_wi.1 (fun M5 r5 v5 => ⟨fun c2 => absurd rfl c2, fun c2 => c_L_goBack (p := nI 1) r5 st_wi.1 (fun M6 r6 v6 => ⟨fun c3 => absurd ?_ c3, fun c3 => ?_⟩)⟩)⟩
  · decide +kernel
  · have e6 : (m_back (nI 1) st_ws).2.2 = st_ws := by
      unfold m_back
      rw [if_pos (isr_n (a := 0) (b := 1) (by decide) (by decide) (by decide)), if_neg (by decide +kernel)]
    have r6' : vr M6 st_ws := by
      rw [← e6]
      exact r6
    have q6 : vq st_ws f M6 := vq_of (vq_of q4 r5 v5) r6' v6
    refine c_L_addsUp q6 st_wi (fun M7 q7 => ⟨fun _ => g_L_law_69 hL (am_R_nle (n := lb 0) (Nat.le_of_ble_eq_true rfl) (am_R_le (by repeat' (first | exact trivial | exact Or.inr rfl | exact Or.inl rfl | exact Or.inr (congrArg Value.int (nI_succ _)) | refine ⟨?_, ?_⟩)) (loop M7 st_ws f q7 st_wi (by decide +kernel)))), fun c4 => absurd nI1_ne c4⟩)
