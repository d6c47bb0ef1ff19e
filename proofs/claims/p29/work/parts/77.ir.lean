/-! isRound, walked -/
set_option maxHeartbeats 4000000 in
theorem ir_none {n : Nat} {w : wS} {z f : dz} {T : Int64} {r l : Int32} {x6 : Value} {K : am_Q} {M : am_M} (hr : vq w f M) (hi : wi n w) (hs1 : hs w 1 z) (ez : w_z w = z) (hT : ∀ w' : wS, w_z w' = z → tale w' = T) (h0 : (z 0).toInt ≤ 2000) (hE : rd0 (zE z) 60)
    (h : ∀ M' w' f', vq w' f' M' → wi n w' → w_z w' = z → K (.inl (some (.int (nI 1)))) M') : am_R am_S35 mt_L_isRound (60 * 64 + 70 + 64) 100 [.ref 0, .long T, .null, .int r, .int l, .ref 17, x6] [.int (nI 60), .ref 0] M K := by
  have hz : zko n z := ez ▸ hi.1.1
  have z00 := hz.2.2.1.1
  have ok := hz.1
  have hh := zhod_ti (z := z) z00 (by omega)
  have back : ∀ {w' : wS}, wi n w' → hs w' 1 z → wi n (w_back w' 1) ∧ w_z (w_back w' 1) = z := fun i' s' => ⟨wi_back i' (by decide) s'.1, (w_back_z i' (by decide) s'.1).trans s'.2⟩
  refine am_R_le (xs := [.ref 0, .long T, .null, .null, .null, .ref 17, .null]) (by repeat' (first | exact trivial | exact Or.inr rfl | exact Or.inl rfl | exact Or.inr (congrArg Value.int (nI_succ _)) | refine ⟨?_, ?_⟩)) (y_100 hr hi (by decide) (by rw [ez]; omega) (fun M2 w2 q2 i2 ez2 hl2 => g_L_isRound_103 (by decide) ⟨fun _ => g_L_isRound_108 (by decide) (y_111 (by omega) q2 (fun M3 g q3 hg => ?_)), fun c => absurd nI1_ne c⟩))
  have ez2' : w_z w2 = zdy z 60 := by rw [ez2, ez]
  rw [ez2'] at hg
  have s2 := hl2 1 z hs1
  obtain ⟨ib, ezb⟩ := back i2 s2
  have loop : ∀ M' w', vq w' g M' → wi n w' → w_z w' = zdy z 0 → hs w' 1 z → am_R am_S35 mt_L_isRound ((60 - 0) * 64 + 60) 127 [.ref 0, .long T, .null, .null, .null, .ref 17, .int (nI 0)] [] M' K := by
    refine lu (P := fun k => ∀ M' w', vq w' g M' → wi n w' → w_z w' = zdy z k → hs w' 1 z → am_R am_S35 mt_L_isRound ((60 - k) * 64 + 60) 127 [.ref 0, .long T, .null, .null, .null, .ref 17, .int (nI k)] [] M' K) 60 ?_ ?_
    · intro M' w' q i' ezk s'
      refine g_L_isRound_127 (by decide) ⟨fun c => g_L_isRound_159 (by decide) (y_162 (by omega) q (fun c2 M4 q4 => g_L_isRound_165 (by decide) ⟨fun c3 => absurd c3 nI1_ne, fun c3 => ?_⟩) (fun c2 => absurd ?_ c2)), fun c => absurd (i_le (Nat.le_refl 60) (by decide)) c⟩
      · obtain ⟨ib, ezb⟩ := back i' s'
        refine c_back (j := 1) q4 i' (by decide) s'.1 (fun M5 q5 => ⟨fun c4 => absurd c4 (pos_nlt ?_), fun c4 => c_L_tale q5 ib (fun M6 q6 => ⟨fun c5 => absurd ?_ c5, fun c5 => g_L_isRound_190 (by decide) ⟨Or.inr rfl, h M6 _ g q6 ib ezb⟩⟩)⟩)
        · rw [s'.2, hh]
          omega
        · show lg_cmp (tale (w_back w' 1)) T = 0
          rw [lgc_0, hT _ ezb]
      · rw [ezk]
        exact (look_iff ok hg).mpr (ag_refl _)
    · intro k hk ih M' w' q i' ezk s'
      have e5 : (60 - k) * 64 + 60 = ((60 - (k + 1)) * 64 + 60) + 64 := by omega
      rw [e5]
      have tk : (w_z w' 0).toInt + 24 * (1 : Nat) ≤ 99999 := by
        rw [ezk, zdy_t ok z00 (by omega) (by omega)]
        omega
      refine g_L_isRound_127 (by decide) ⟨fun c => absurd c (i_nge hk (by decide)), fun c => y_137 (by omega) q (fun c2 => absurd c2 ?_) (fun c2 M4 q4 => g_L_isRound_140 (by decide) ⟨fun c3 => absurd rfl c3, fun c3 => y_145 (k := 1) q4 i' (by decide) tk (fun M5 w5 q5 i5 ez5 hl5 => g_L_isRound_148 (by decide) ⟨fun _ => g_L_isRound_153 (by decide) (am_R_le (by repeat' (first | exact trivial | exact Or.inr rfl | exact Or.inl rfl | exact Or.inr (congrArg Value.int (nI_succ _)) | refine ⟨?_, ?_⟩)) (ih M5 w5 q5 i5 ?_ (hl5 1 z s'))), fun c4 => absurd nI1_ne c4⟩)⟩)⟩
      · rw [ezk, look_iff ok hg]
        exact fun q9 => hE 60 (Nat.le_refl 60) k hk (ag_symm q9)
      · rw [ez5, ezk, zdy_add]
  refine g_L_isRound_114 (by decide) (c_back (j := 1) q3 i2 (by decide) s2.1 (fun M4 q4 => ⟨fun c => g_L_isRound_124 (by decide) (am_R_nle (show (60 - 0) * 64 + 60 ≤ 60 * 64 + 69 by omega) (am_R_le (by repeat' (first | exact trivial | exact Or.inr rfl | exact Or.inl rfl | exact Or.inr (congrArg Value.int (nI_succ _)) | refine ⟨?_, ?_⟩)) (loop M4 _ q4 ib ezb (hs_back s2 1)))), fun c => absurd (i_pos ?_) c⟩))
  rw [s2.2, hh]
  omega
set_option maxHeartbeats 4000000 in
theorem ir_some {n a d : Nat} {w : wS} {z f : dz} {T : Int64} {x6 : Value} {K : am_Q} {M : am_M} (hr : vq w f M) (hi : wi n w) (hs1 : hs w 1 z) (ez : w_z w = z) (hT : ∀ w' : wS, w_z w' = z → tale w' = T) (h0 : (z 0).toInt ≤ 2000) (hd60 : d ≤ 60) (hE : rd1 (zE z) a d)
    (h : ∀ M' w' f', vq w' f' M' → wi n w' → w_z w' = z → K (.inl (some (.int (nI 1)))) M') : am_R am_S35 mt_L_isRound (60 * 64 + 300 + 64) 194 [.ref 0, .long T, .null, .int (nI (d - a)), .int (nI a), .ref 17, x6] [.int (nI a), .ref 0] M K := by
  obtain ⟨had, hEad, hmin⟩ := hE
  have hz : zko n z := ez ▸ hi.1.1
  have z00 := hz.2.2.1.1
  have ok := hz.1
  have hh := zhod_ti (z := z) z00 (by omega)
  have back : ∀ {w' : wS}, wi n w' → hs w' 1 z → wi n (w_back w' 1) ∧ w_z (w_back w' 1) = z := fun i' s' => ⟨wi_back i' (by decide) s'.1, (w_back_z i' (by decide) s'.1).trans s'.2⟩
  have hnn : ∀ {w' : wS}, hs w' 1 z → 0 ≤ (zhod (w_sl w' 1)).toInt := fun s' => by
    rw [s'.2, hh]
    omega
  -- the end
  have p314 : ∀ (M' : am_M) (w' : wS) (f' : dz) (ls : List Value), am_le [.ref 0, .long T, .null, .null, .null, .null, .null] ls → vq w' f' M' → wi n w' → w_z w' = z → am_R am_S35 mt_L_isRound 10 314 ls [] M' K := by
    intro M' w' f' ls hl q i' ez'
    refine am_R_le hl (g_L_isRound_314 (by decide) (c_L_tale q i' (fun M6 q6 => ⟨fun c5 => absurd ?_ c5, fun c5 => g_L_isRound_328 (by decide) ⟨Or.inr rfl, h M6 _ f' q6 i' ez'⟩⟩)))
    show lg_cmp (tale w') T = 0
    rw [lgc_0, hT _ ez']
  -- one day ahead of the lead
  have p263 : ∀ (M' : am_M) (w' : wS) (f' : dz) (ls : List Value), am_le [.ref 0, .long T, .null, .int (nI (d - a)), .int (nI a), .ref 17, .null] ls → vq w' f' M' → wi n w' → w_z w' = z → hs w' 1 z → am_R am_S35 mt_L_isRound (11 + 64 + 64) 263 ls [] M' K := by
    intro M' w' f' ls hl q i' ez' s'
    by_cases ca : a = 0
    · subst ca
      exact am_R_le hl (g_L_isRound_263 (by decide) ⟨fun c => am_R_nle (show 10 ≤ 11 + 64 + 64 by omega) (p314 M' w' f' _ (by repeat' (first | exact trivial | exact Or.inr rfl | exact Or.inl rfl | exact Or.inr (congrArg Value.int (nI_succ _)) | refine ⟨?_, ?_⟩)) q i' ez'), fun c => absurd (i_le (Nat.le_refl 0) (by decide)) c⟩)
    · refine am_R_le hl (g_L_isRound_263 (by decide) ⟨fun c => absurd c (i_nge (show 0 < a by omega) (by omega)), fun c => ?_⟩)
      show am_R am_S35 mt_L_isRound (11 + 64 + 64) 273 [.ref 0, .long T, .null, .int (nI (d - a)), .int (nI a), .ref 17, .null] [.int (nI a - nI 1), .ref 0] M' K
      rw [nI_sub1 (by omega)]
      refine y_273 (k := a - 1) q i' (by omega) (by rw [ez']; omega) (fun M2 w2 q2 i2 ez2 hl2 => g_L_isRound_276 (by decide) ⟨fun _ => g_L_isRound_281 (by decide) (y_284 (by omega) q2 (fun M3 g q3 hg => g_L_isRound_287 (by decide) (y_289 (k := d - a) q3 i2 (by omega) ?_ (fun M4 w4 q4 i4 ez4 hl4 => g_L_isRound_292 (by decide) ⟨fun c3 => absurd c3 nI1_ne, fun c3 => y_298 (by omega) q4 (fun c4 => absurd c4 ?_) (fun c4 M5 q5 => g_L_isRound_301 (by decide) ⟨fun c5 => absurd rfl c5, fun c5 => c_back (j := 1) q5 i4 (by decide) (hl4 1 z (hl2 1 z s')).1 (fun M6 q6 => ⟨fun c6 => ?_, fun c6 => absurd (i_pos (hnn (hl4 1 z (hl2 1 z s')))) c6⟩)⟩)⟩)))), fun c2 => absurd nI1_ne c2⟩)
      · rw [ez2, ez', zdy_t ok z00 (by omega) (by omega)]
        omega
      · rw [ez4, ez2, ez', zdy_add]
        rw [ez2, ez'] at hg
        rw [look_iff ok hg]
        exact hmin (a - 1 + (d - a)) (by omega) (a - 1) (by omega)
      · obtain ⟨ib, ezb⟩ := back i4 (hl4 1 z (hl2 1 z s'))
        exact p314 M6 _ g _ (by repeat' (first | exact trivial | exact Or.inr rfl | exact Or.inl rfl | exact Or.inr (congrArg Value.int (nI_succ _)) | refine ⟨?_, ?_⟩)) q6 ib ezb
  refine am_R_le (xs := [.ref 0, .long T, .null, .int (nI (d - a)), .int (nI a), .ref 17, .null]) (by repeat' (first | exact trivial | exact Or.inr rfl | exact Or.inl rfl | exact Or.inr (congrArg Value.int (nI_succ _)) | refine ⟨?_, ?_⟩)) (y_194 hr hi (by omega) (by rw [ez]; omega) (fun M2 w2 q2 i2 ez2 hl2 => g_L_isRound_197 (by decide) ⟨fun _ => g_L_isRound_202 (by decide) (y_205 (by omega) q2 (fun M3 g q3 hg => ?_)), fun c => absurd nI1_ne c⟩))
  have ez2' : w_z w2 = zdy z a := by rw [ez2, ez]
  rw [ez2'] at hg
  have s2 := hl2 1 z hs1
  have loop : ∀ M' w', vq w' g M' → wi n w' → w_z w' = zdy z (a + (1 - 1)) → hs w' 1 z → am_R am_S35 mt_L_isRound ((d - a + 1 - 1) * 64 + 150) 211 [.ref 0, .long T, .null, .int (nI (d - a)), .int (nI a), .ref 17, .int (nI 1)] [] M' K := by
    refine lu' (P := fun k => ∀ M' w', vq w' g M' → wi n w' → w_z w' = zdy z (a + (k - 1)) → hs w' 1 z → am_R am_S35 mt_L_isRound ((d - a + 1 - k) * 64 + 150) 211 [.ref 0, .long T, .null, .int (nI (d - a)), .int (nI a), .ref 17, .int (nI k)] [] M' K) 1 (d - a + 1) (by omega) ?_ ?_
    · intro M' w' q i' ezk s'
      obtain ⟨ib, ezb⟩ := back i' s'
      refine am_R_nle (n := 11 + 64 + 64 + 1) (by omega) (g_L_isRound_211 (by decide) ⟨fun c => g_L_isRound_253 (by decide) (c_back (j := 1) q i' (by decide) s'.1 (fun M5 q5 => ⟨fun c4 => p263 M5 _ g _ (by repeat' (first | exact trivial | exact Or.inr rfl | exact Or.inl rfl | exact Or.inr (congrArg Value.int (nI_succ _)) | refine ⟨?_, ?_⟩)) q5 ib ezb (hs_back s' 1), fun c4 => absurd (i_pos (hnn s')) c4⟩)), fun c => absurd ?_ c⟩)
      show nI (d - a) < nI (d - a + 1)
      exact (nI_lti (by omega) (by omega)).mpr (by omega)
    · intro k hk1 hk ih M' w' q i' ezk s'
      have e5 : (d - a + 1 - k) * 64 + 150 = ((d - a + 1 - (k + 1)) * 64 + 150) + 64 := by omega
      rw [e5]
      have tk : (w_z w' 0).toInt + 24 * (1 : Nat) ≤ 99999 := by
        rw [ezk, zdy_t ok z00 (by omega) (by omega)]
        omega
      have nlt : ¬ nI (d - a) < nI k := fun q9 => by
        have := (nI_lti (by omega) (by omega)).mp q9
        omega
      have fin : ∀ (M9 : am_M) (w9 : wS) (x : Int32), vq w9 g M9 → wi n w9 → w_z w9 = zdy z (a + k) → hs w9 1 z → (x = nI 1 ↔ k = d - a) → (x = nI 0 ∨ x = nI 1) → am_R am_S35 mt_L_isRound ((d - a + 1 - (k + 1)) * 64 + 150) 231 [.ref 0, .long T, .null, .int (nI (d - a)), .int (nI a), .ref 17, .int (nI k)] [.int x] M9 K := by
        intro M9 w9 x q9 i9 ez9 s9 hx hx2
        have p242 : ∀ y : Int32, x = y → am_R am_S35 mt_L_isRound ((d - a + 1 - (k + 1)) * 64 + 150) 242 [.ref 0, .long T, .null, .int (nI (d - a)), .int (nI a), .ref 17, .int (nI k)] [.int y, .int x] M9 K := fun y hy =>
          g_L_isRound_242 (by decide) ⟨fun c => g_L_isRound_247 (by decide) (am_R_le (by repeat' (first | exact trivial | exact Or.inr rfl | exact Or.inl rfl | exact Or.inr (congrArg Value.int (nI_succ _)) | refine ⟨?_, ?_⟩)) (ih M9 w9 q9 i9 ez9 s9)), fun c => absurd hy c⟩
        refine g_L_isRound_231 (by decide) ⟨fun c => g_L_isRound_241 (by decide) (p242 (nI 0) ?_), fun c => p242 (nI 1) ?_⟩
        · have c' : ¬ nI k = nI (d - a) := c
          rcases hx2 with e | e
          · exact e
          · exact absurd (congrArg nI (hx.mp e)) c'
        · have c' : nI k = nI (d - a) := Classical.not_not.mp c
          exact hx.mpr ((nI_eq (by omega) (by omega)).mp c')
      refine g_L_isRound_211 (by decide) ⟨fun c => absurd c nlt, fun c => y_219 (k := 1) q i' (by decide) tk (fun M5 w5 q5 i5 ez5 hl5 => g_L_isRound_222 (by decide) ⟨fun c3 => absurd c3 nI1_ne, fun c3 => ?_⟩)⟩
      have ez5' : w_z w5 = zdy z (a + k) := by rw [ez5, ezk, zdy_add, show a + (k - 1) + 1 = a + k by omega]
      refine y_228 (by omega) q5 (fun c4 M6 q6 => fin M6 w5 _ q6 i5 ez5' (hl5 1 z s') ⟨fun _ => ?_, fun _ => rfl⟩ (Or.inr rfl)) (fun c4 M6 q6 => fin M6 w5 _ q6 i5 ez5' (hl5 1 z s') ⟨fun q9 => absurd q9 n01, fun q9 => absurd ?_ c4⟩ (Or.inl rfl))
      · rw [ez5', look_iff ok hg] at c4
        by_cases ck : k = d - a
        · exact ck
        · exact absurd c4 (hmin (a + k) (by omega) a (by omega))
      · rw [ez5', look_iff ok hg, q9, show a + (d - a) = d by omega]
        exact hEad
  exact g_L_isRound_208 (by decide) (am_R_nle (show (d - a + 1 - 1) * 64 + 150 ≤ 60 * 64 + 300 by omega) (am_R_le (by repeat' (first | exact trivial | exact Or.inr rfl | exact Or.inl rfl | exact Or.inr (congrArg Value.int (nI_succ _)) | refine ⟨?_, ?_⟩)) (loop M3 w2 q3 i2 (by rw [ez2']; rfl) s2)))
set_option maxHeartbeats 4000000 in
theorem c_L_isRound {n : Nat} {w : wS} {f : dz} {M : am_M} {K : am_Q} (hr : vq w f M) (hi : wi n w) (h0 : (w_z w 0).toInt ≤ 2000)
    (h : ∀ M' w' f', vq w' f' M' → wi n w' → w_z w' = w_z w → K (.inl (some (.int (nI 1)))) M') : am_C mt_L_isRound [.ref 0] M K := by
  have hrl := rl_rnd hi.1.1
  have ik := wi_keep hi 1
  have sk := hs_keep w 1
  have hT : ∀ w' : wS, w_z w' = w_z w → tale w' = tale w := fun w' e => tale_z e
  have e2 : m_rnd 2 (w_z w) = m_rnd 0 (w_z w) := rfl
  have e3 : m_rnd 3 (w_z w) = m_rnd 1 (w_z w) := rfl
  refine am_C_of_Rn am_S0 om_L_isRound rfl [.ref 0, .null, .null, .null, .null, .null, .null] rfl rfl (g_L_isRound_0 (by decide) (c_L_tale hr hi (fun M1 q1 => c_rnd (k := 0) q1 hi (by decide) (fun M2 q2 => c_rnd (k := 1) q2 hi (by decide) (fun M3 q3 => ?_)))))
  refine am_R_newarr (z := 49) (k := 35) (w := 6) (n := 5994) (by decide +kernel) rfl rfl rfl (by decide) (by decide) (by decide) (by decide) rfl rfl rfl rfl rfl ?_
  refine g_L_isRound_22 (by decide) (c_rnd (k := 2) (vq_set q3) hi (by decide) (fun M4 q4 => ?_))
  rw [e2]
  refine ⟨fun c => absurd rfl c, fun c => c_rnd (k := 3) q4 hi (by decide) (fun M5 q5 => ?_)⟩
  rw [e3]
  refine ⟨fun c => absurd rfl c, fun c => ?_⟩
  generalize m_rnd 0 (w_z w) = r at hrl ⊢
  generalize m_rnd 1 (w_z w) = l at hrl ⊢
  -- the numbers are as they can be: the snapshot
  have p71 : ∀ (x y : Int32) (ls : List Value), x = y → ¬ r = 0 → ¬ nI 60 < r + l → ls = [.ref 0, .long (tale w), .null, .int r, .int l, .ref 17, .null] → am_R am_S35 mt_L_isRound 5994 62 ls [.int y, .int x] M5 K := by
    intro x y ls hxy hr0 hsum hl
    subst hl
    refine g_L_isRound_62 (by decide) ⟨fun c => absurd hxy c, fun c => ⟨fun c2 => absurd c2 hr0, fun c2 => ⟨fun c3 => absurd c3 hsum, fun c3 => c_keep (j := 1) q5 hi (by decide) (fun M6 q6 => c_cnt (k := 0) q6 ik (by decide) (fun M7 q7 => ⟨fun c4 => g_L_isRound_93 (by decide) ⟨fun c5 => g_L_isRound_191 (by decide) ?_, fun c5 => ?_⟩, fun c4 => absurd rfl c4⟩))⟩⟩⟩
    · have c5' : 0 ≤ r := c5
      rcases hrl with ⟨rfl, rfl, hE⟩ | ⟨a, d, hd, hE, rfl, rfl⟩
      · exact absurd m1_lt (Int32.not_lt.mpr c5')
      · exact am_R_nle (show 60 * 64 + 300 + 64 ≤ 5993 by omega) (ir_some q7 ik sk rfl hT h0 hd hE h)
    · have c5' : ¬ 0 ≤ r := c5
      rcases hrl with ⟨rfl, rfl, hE⟩ | ⟨a, d, hd, hE, rfl, rfl⟩
      · exact am_R_nle (show 60 * 64 + 70 + 64 ≤ 5993 by omega) (ir_none q7 ik sk rfl hT h0 hE h)
      · exact absurd (i_pos (by rw [nI_toInt (by omega)]; omega)) c5'
  have s60 : ¬ r = 0 ∧ ¬ nI 60 < r + l ∧ (0 ≤ r ↔ 0 ≤ l) := by
    rcases hrl with ⟨rfl, rfl, hE⟩ | ⟨a, d, hd, hE, rfl, rfl⟩
    · exact ⟨by decide +kernel, by decide +kernel, Iff.rfl⟩
    · have := hE.1
      refine ⟨nI_ne0 (by omega) (by omega), fun q9 => ?_, fun _ => i_pos (by rw [nI_toInt (by omega)]; omega), fun _ => i_pos (by rw [nI_toInt (by omega)]; omega)⟩
      rw [ix2] at q9
      have := (nI_lti (by omega) (by omega)).mp q9
      omega
  obtain ⟨s1, s2, s3⟩ := s60
  have p52 : ∀ (x : Int32), (x = nI 0 ∨ x = nI 1) → (x = nI 0 ↔ 0 ≤ l) → am_R am_S35 mt_L_isRound 5994 52 [.ref 0, .long (tale w), .null, .int r, .int l, .ref 17, .null] [.int x] M5 K := by
    intro x hx hx2
    refine g_L_isRound_52 (by decide) ⟨fun c => g_L_isRound_61 (by decide) (p71 x (nI 0) _ (hx2.mpr c) s1 s2 rfl), fun c => p71 x (nI 1) _ ?_ s1 s2 rfl⟩
    rcases hx with e | e
    · exact absurd (hx2.mp e) c
    · exact e
  exact ⟨fun c => g_L_isRound_51 (by decide) (p52 (nI 0) (Or.inl rfl) ⟨fun _ => s3.mp c, fun _ => rfl⟩), fun c => p52 (nI 1) (Or.inr rfl) ⟨fun q9 => absurd q9 n10, fun q9 => absurd (s3.mpr q9) c⟩⟩
