/-! addsUp, walked -/
theorem i_pos {x : Int32} (h : 0 ≤ x.toInt) : 0 ≤ x := by
  rw [Int32.le_iff_toInt_le, ti_0]
  exact h
theorem nI1_nlt (b : Nat) (hb : b < 5) : ¬ nI b < 0 := pos_nlt (by rw [nI_toInt (by omega)]; omega)
theorem m1_lt : (-nI 1 : Int32) < 0 := by decide +kernel
set_option maxHeartbeats 2000000 in
theorem au_dye {n d : Nat} {w : wS} {f : dz} {S : Int32} {K : am_Q} (hi : wi n w) (hd : d < 3)
    (kk : ∀ M', vq w f M' → am_R am_S0 mt_L_addsUp 1 93 [.ref 0, .int S, .int (nI (d + 1)), .null, .null, .null, .null, .null, .null] [] M' K) :
    ∀ M', vq w f M' → am_R am_S0 mt_L_addsUp 1 93 [.ref 0, .int S, .int (nI d), .null, .null, .null, .null, .null, .null] [] M' K := by
  have hz := hi.1.1.1
  generalize ez : w_z w = z at hz
  -- behind all vats
  have p324 : ∀ (M' : am_M) (ls : List Value), am_le [.ref 0, .int S, .int (nI d), .null, .null, .null, .null, .null, .null] ls → vq w f M' → am_R am_S0 mt_L_addsUp 1 324 ls [] M' K := by
    intro M' ls hl q
    refine am_R_le hl (g_L_addsUp_324 (am_R_le (by repeat' (first | exact trivial | exact Or.inr rfl | exact Or.inl rfl | exact Or.inr (congrArg Value.int (nI_succ _)) | refine ⟨?_, ?_⟩)) (kk M' q)))
  -- the best vat, b: 0 for none
  have best : ∀ b, b ≤ 5 → bsp z d 5 b → ∀ M', vq w f M' → am_R am_S0 mt_L_addsUp 1 207 [.ref 0, .int S, .int (nI d), .null, .null, .int (nI b - nI 1), .int (nI 0), .null, .null] [] M' K := by
    intro b hb hB
    rcases hB with ⟨rfl, hno⟩ | ⟨hb0, -, hwb, hall⟩
    · have e0 : nI 0 - nI 1 = -nI 1 := by decide +kernel
      rw [e0]
      refine lu (P := fun v => ∀ M', vq w f M' → am_R am_S0 mt_L_addsUp 1 207 [.ref 0, .int S, .int (nI d), .null, .null, .int (-nI 1), .int (nI v), .null, .null] [] M' K) 5 ?_ ?_
      · intro M' q
        exact g_L_addsUp_207 ⟨fun c => g_L_addsUp_307 ⟨fun c2 => p324 M' _ (by repeat' (first | exact trivial | exact Or.inr rfl | exact Or.inl rfl | exact Or.inr (congrArg Value.int (nI_succ _)) | refine ⟨?_, ?_⟩)) q, fun c2 => absurd m1_lt c2⟩, fun c => absurd (i_le (Nat.le_refl 5) (by decide)) c⟩
      · intro v hv ih M' q
        refine g_L_addsUp_207 ⟨fun c => absurd c (i_nge hv (by decide)), fun c => ⟨fun c2 => absurd m1_lt (Int32.not_lt.mpr c2), fun c2 => g_L_addsUp_261 (c_vat (v := v) (k := 1) q hv (by decide) (fun M2 q2 => ⟨fun c3 => g_L_addsUp_301 (am_R_le (by repeat' (first | exact trivial | exact Or.inr rfl | exact Or.inl rfl | exact Or.inr (congrArg Value.int (nI_succ _)) | refine ⟨?_, ?_⟩)) (ih M2 q2)), fun c3 => absurd ?_ c3⟩))⟩⟩
        show zvat v 1 (w_z w) ≤ 0
        rw [zv1, ez, Int32.le_iff_toInt_le, ti_0]
        have := hno v hv
        unfold wa at this
        omega
    · obtain ⟨u, rfl⟩ : ∃ u, b = u + 1 := ⟨b - 1, by omega⟩
      rw [Nat.add_sub_cancel] at hwb hall
      have e1 : nI (u + 1) - nI 1 = nI u := by rw [nI_sub1 (by omega), Nat.add_sub_cancel]
      rw [e1]
      have hu : u < 5 := by omega
      refine lu (P := fun v => ∀ M', vq w f M' → am_R am_S0 mt_L_addsUp 1 207 [.ref 0, .int S, .int (nI d), .null, .null, .int (nI u), .int (nI v), .null, .null] [] M' K) 5 ?_ ?_
      · intro M' q
        refine g_L_addsUp_207 ⟨fun c => g_L_addsUp_307 ⟨fun c2 => absurd c2 (nI1_nlt u hu), fun c2 => c_vat (v := u) (k := 1) q hu (by decide) (fun M2 q2 => ⟨fun c3 => p324 M2 _ (by repeat' (first | exact trivial | exact Or.inr rfl | exact Or.inl rfl | exact Or.inr (congrArg Value.int (nI_succ _)) | refine ⟨?_, ?_⟩)) q2, fun c3 => absurd ?_ c3⟩)⟩, fun c => absurd (i_le (Nat.le_refl 5) (by decide)) c⟩
        show ¬ zvat u 1 (w_z w) = 0
        rw [zv1, ez]
        intro q0
        unfold wa at hwb
        rw [q0, ti_0] at hwb
        omega
      · intro v hv ih M' q
        have fin : ∀ (x : Int64) (M3 : am_M) (ls : List Value), x.toInt = dg z d v * wa z u - dg z d u * wa z v → ls = [.ref 0, .int S, .int (nI d), .null, .null, .int (nI u), .int (nI v), .null, .null] → vq w f M3 → am_R am_S0 mt_L_addsUp 1 261 ls [.long x] M3 K := by
          intro x M3 ls hx hl q3
          subst hl
          have to301 : ∀ M4 : am_M, vq w f M4 → am_R am_S0 mt_L_addsUp 1 301 [.ref 0, .int S, .int (nI d), .null, .null, .int (nI u), .int (nI v), .long x, .null] [] M4 K := fun M4 q4 => g_L_addsUp_301 (am_R_le (by repeat' (first | exact trivial | exact Or.inr rfl | exact Or.inl rfl | exact Or.inr (congrArg Value.int (nI_succ _)) | refine ⟨?_, ?_⟩)) (ih M4 q4))
          refine g_L_addsUp_261 (c_vat (v := v) (k := 1) q3 hv (by decide) (fun M4 q4 => ⟨fun c3 => to301 M4 q4, fun c3 => ⟨fun c4 => absurd c4 (nI1_nlt u hu), fun c4 => ⟨fun c5 => absurd c5 ?_, fun c5 => ⟨fun c6 => to301 M4 q4, fun c6 => ⟨fun c7 => to301 M4 q4, fun c7 => absurd ?_ c7⟩⟩⟩⟩⟩))
          all_goals
            have c3' : ¬ zvat v 1 (w_z w) ≤ 0 := c3
            rw [zv1, ez, Int32.le_iff_toInt_le, ti_0] at c3'
            have hwv : 0 < wa z v := by unfold wa; omega
            obtain ⟨h1, h2⟩ := hall v hv hwv
          · show ¬ 0 < lg_cmp x (lN 0)
            rw [lgc_pos, l0_ti, hx]
            omega
          · have c6' : lg_cmp x (lN 0) = 0 := Classical.not_not.mp c6
            rw [lgc_0, l0_ti, hx] at c6'
            have : ¬ v < u := fun z9 => by have := h2 z9; omega
            exact i_le (by omega) (by omega)
        refine g_L_addsUp_207 ⟨fun c => absurd c (i_nge hv (by decide)), fun c => ⟨fun c2 => g_L_addsUp_222 ?_, fun c2 => absurd ?_ c2⟩⟩
        · refine c_vatE (v := v) (k := 2 + d) q rfl (ix2 2 d) hv (by omega) (fun M1 q1 => c_vat (v := u) (k := 1) q1 hu (by decide) (fun M2 q2 => c_vatE (v := u) (k := 2 + d) q2 rfl (ix2 2 d) hu (by omega) (fun M3 q3 => c_vat (v := v) (k := 1) q3 hv (by decide) (fun M4 q4 => fin _ M4 _ ?_ rfl q4))))
          show ((zvat v (2 + d) (w_z w)).toInt64 * (zvat u 1 (w_z w)).toInt64 - (zvat u (2 + d) (w_z w)).toInt64 * (zvat v 1 (w_z w)).toInt64).toInt = _
          rw [zv1, zv1, zv (by omega), zv (by omega), ez, show 17 + 8 * v + (2 + d) = 19 + 8 * v + d by omega, show 17 + 8 * u + (2 + d) = 19 + 8 * u + d by omega]
          exact more_ti hz hd hv hu
        · exact i_pos (by rw [nI_toInt (by omega)]; omega)
  -- the sums
  have sums : ∀ M', vq w f M' → am_R am_S0 mt_L_addsUp 1 106 [.ref 0, .int S, .int (nI d), .int (zsum (fun v => zvat v (2 + d) z) 0), .int (zsum (fun v => zvat v (5 + d) z) 0), .int (nI 0), .null, .null, .null] [] M' K := by
    have s1 : zsum (fun v => zvat v (2 + d) z) 5 = zin (2 + d) z := zsum_eq (n := 5) (fun v hv => zv (by omega)) 5 (Nat.le_refl 5)
    have s2 : zsum (fun v => zvat v (5 + d) z) 5 = zin (5 + d) z := zsum_eq (n := 5) (fun v hv => zv (by omega)) 5 (Nat.le_refl 5)
    refine lu (P := fun j => ∀ M', vq w f M' → am_R am_S0 mt_L_addsUp 1 106 [.ref 0, .int S, .int (nI d), .int (zsum (fun v => zvat v (2 + d) z) j), .int (zsum (fun v => zvat v (5 + d) z) j), .int (nI j), .null, .null, .null] [] M' K) 5 ?_ ?_
    · intro M' q
      rw [s1, s2]
      have hout := (hz.2.2.1 d hd).1
      refine g_L_addsUp_106 ⟨fun c => g_L_addsUp_144 ?_, fun c => absurd (i_le (Nat.le_refl 5) (by decide)) c⟩
      refine c_dyo (d := d) (k := 0) q hd (by decide) (fun M1 q1 => c_dyo (d := d) (k := 3) q1 hd (by decide) (fun M2 q2 => ⟨fun c2 => absurd ?_ c2, fun c2 => c_dyo (d := d) (k := 1) q2 hd (by decide) (fun M3 q3 => ⟨fun c3 => absurd ?_ c3, fun c3 => c_dyo (d := d) (k := 2) q3 hd (by decide) (fun M4 q4 => ⟨fun c4 => absurd ?_ c4, fun c4 => c_dyo (d := d) (k := 3) q4 hd (by decide) (fun M5 q5 => ⟨fun c5 => g_L_addsUp_196 (c_dyo (d := d) (k := 4) q5 hd (by decide) (fun M6 q6 => ?_)), fun c5 => absurd ?_ c5⟩)⟩)⟩)⟩))
      · show zdn d 0 (w_z w) = zin (2 + d) z + zin (5 + d) z + zdn d 3 (w_z w)
        rw [ez]
        exact dye_sum hz hd
      · show zdn d 1 (w_z w) = zin (2 + d) z
        rw [ez]
        rfl
      · show zdn d 2 (w_z w) = zin (5 + d) z
        rw [ez]
        rfl
      · have e4 : zdn d 4 (w_z w) = nI (zbs d z 5) - nI 1 := by rw [ez]; rfl
        rw [e4]
        have hB := bsp_zbs hz hd 5 (Nat.le_refl 5)
        have hle := zbs_le d z 5
        generalize zbs d z 5 = b at hB hle ⊢
        exact am_R_le (by repeat' (first | exact trivial | exact Or.inr rfl | exact Or.inl rfl | exact Or.inr (congrArg Value.int (nI_succ _)) | refine ⟨?_, ?_⟩)) (best b hle hB M6 q6)
      · show 0 ≤ zdn d 3 (w_z w)
        rw [ez]
        exact i_pos hout
    · intro j hj ih M' q
      refine g_L_addsUp_106 ⟨fun c => absurd c (i_nge hj (by decide)), fun c => c_vatE (v := j) (k := 2 + d) q rfl (ix2 2 d) hj (by omega) (fun M1 q1 => c_vatE (v := j) (k := 5 + d) q1 rfl (ix2 5 d) hj (by omega) (fun M2 q2 => ?_))⟩
      rw [ez]
      exact am_R_le (by repeat' (first | exact trivial | exact Or.inr rfl | exact Or.inl rfl | exact Or.inr (congrArg Value.int (nI_succ _)) | refine ⟨?_, ?_⟩)) (ih M2 q2)
  intro M' q
  exact g_L_addsUp_93 ⟨fun c => absurd c (i_nge hd (by decide)), fun c => am_R_le (by repeat' (first | exact trivial | exact Or.inr rfl | exact Or.inl rfl | exact Or.inr (congrArg Value.int (nI_succ _)) | refine ⟨?_, ?_⟩)) (sums M' q)⟩
set_option maxHeartbeats 2000000 in
theorem c_L_addsUp {n : Nat} {w : wS} {f : dz} {M : am_M} {K : am_Q} (hr : vq w f M) (hi : wi n w) (h : ∀ M', vq w f M' → K (.inl (some (.int (nI 1)))) M') : am_C mt_L_addsUp [.ref 0] M K := by
  have hz := hi.1.1.1
  have hp := hi.1.1.2.2.2
  generalize ez : w_z w = z at hz hp
  obtain ⟨s1, s2, t1, t2, t3⟩ := zshare_ti hz
  have fin : ∀ M', vq w f M' → am_R am_S0 mt_L_addsUp 1 330 [.ref 0, .int (zin 1 z), .null, .null, .null, .null, .null, .null, .null] [] M' K := by
    intro M' q
    have e4 : zcn 4 w = zin 1 z := by rw [← ez]; rfl
    have e6 : zcn 6 w = z 3 := by rw [← ez]; rfl
    have e5 : zcn 5 w = z 2 := by rw [← ez]; rfl
    have e0 : zcn 0 w = z 0 - z 0 / nI 24 * nI 24 := by rw [← ez]; rfl
    have e1 : zcn 1 w = z 0 := by rw [← ez]; rfl
    have o : ∀ d, zdn d 3 (w_z w) = z (14 + d) := fun d => by rw [ez]; rfl
    have i : ∀ d, zdn d 0 (w_z w) = z (11 + d) := fun d => by rw [ez]; rfl
    have yes : ∀ M9 : am_M, vq w f M9 → ∀ (x y : UInt64) (ls : List Value), FP.dcmp x y = some .eq → am_R am_S0 mt_L_addsUp 1 430 ls [.double y, .double x] M9 K := by
      intro M9 q9 x y ls hxy
      refine g_L_addsUp_430 ⟨fun c => absurd ?_ c, fun c => g_L_addsUp_439 ⟨Or.inr rfl, h M9 q9⟩⟩
      show Op.cmpValue (FP.dcmp x y) .l = 0
      rw [hxy]
      rfl
    refine g_L_addsUp_330 (c_dyo (d := 0) (k := 3) q (by decide) (by decide) (fun M1 q1 => c_dyo (d := 1) (k := 3) q1 (by decide) (by decide) (fun M2 q2 => c_dyo (d := 2) (k := 3) q2 (by decide) (by decide) (fun M3 q3 => c_dyo (d := 0) (k := 0) q3 (by decide) (by decide) (fun M4 q4 => c_dyo (d := 1) (k := 0) q4 (by decide) (by decide) (fun M5 q5 => c_dyo (d := 2) (k := 0) q5 (by decide) (by decide) (fun M6 q6 => ?_)))))))
    rw [o 0, o 1, o 2, i 0, i 1, i 2]
    refine c_cnt (k := 4) q6 hi (by decide) (fun M7 q7 => ⟨fun c => absurd e4.symm c, fun c => c_cnt (k := 6) q7 hi (by decide) (fun M8 q8 => c_cnt (k := 5) q8 hi (by decide) (fun M9 q9 => ⟨fun c2 => absurd ?_ c2, fun c2 => c_cnt (k := 0) q9 hi (by decide) (fun M10 q10 => c_cnt (k := 1) q10 hi (by decide) (fun M11 q11 => ⟨nI_ne0 (by decide) (by decide), fun c3 => absurd ?_ c3, fun c3 => c_gon q11 hi ?_⟩))⟩))⟩)
    · show zcn 6 w = zin 1 z + zcn 5 w
      rw [e6, e5]
      exact wat_sum hz
    · show zcn 0 w = zcn 1 w - zcn 1 w / nI 24 * nI 24
      rw [e0, e1]
    · rw [ez]
      refine ⟨fun c4 => g_L_addsUp_425 ?_, fun c4 => ?_⟩
      · have c5 : ¬ zput3 z = 0 := c4
        have hb : 0 < (zput3 z).toInt := by
          have : (zput3 z).toInt ≠ 0 := fun q0 => c5 (ti_ext (by rw [ti_0]; exact q0))
          omega
        have es : zshare z = FP.ddiv (FP.i2d (zgone z)) (FP.i2d (zput3 z)) := by unfold zshare; rw [if_neg c5]
        rw [es]
        exact ⟨fp_n64 t1 t2 hb t3, yes M11 q11 _ _ _ (share_cmp t1 t2 hb t3)⟩
      · have c5 : zput3 z = 0 := Classical.not_not.mp c4
        have es : zshare z = 0 := by unfold zshare; rw [if_pos c5]
        rw [es]
        exact yes M11 q11 _ _ _ f0_eq
  have s5 : zsum (fun v => zvat v 1 z) 5 = zin 1 z := zsum_eq (n := 5) (fun v hv => zv (by omega)) 5 (Nat.le_refl 5)
  have dyes : ∀ M', vq w f M' → am_R am_S0 mt_L_addsUp 1 93 [.ref 0, .int (zin 1 z), .int (nI 0), .null, .null, .null, .null, .null, .null] [] M' K := by
    refine lu (P := fun d => ∀ M', vq w f M' → am_R am_S0 mt_L_addsUp 1 93 [.ref 0, .int (zin 1 z), .int (nI d), .null, .null, .null, .null, .null, .null] [] M' K) 3 ?_ ?_
    · intro M' q
      exact g_L_addsUp_93 ⟨fun c => am_R_le (by repeat' (first | exact trivial | exact Or.inr rfl | exact Or.inl rfl | exact Or.inr (congrArg Value.int (nI_succ _)) | refine ⟨?_, ?_⟩)) (fin M' q), fun c => absurd (i_le (Nat.le_refl 3) (by decide)) c⟩
    · intro d hd ih
      exact au_dye hi hd ih
  have vats : ∀ M', vq w f M' → am_R am_S0 mt_L_addsUp 1 4 [.ref 0, .int (zsum (fun v => zvat v 1 z) 0), .int (nI 0), .null, .null, .null, .null, .null, .null] [] M' K := by
    refine lu (P := fun v => ∀ M', vq w f M' → am_R am_S0 mt_L_addsUp 1 4 [.ref 0, .int (zsum (fun v => zvat v 1 z) v), .int (nI v), .null, .null, .null, .null, .null, .null] [] M' K) 5 ?_ ?_
    · intro M' q
      rw [s5]
      exact g_L_addsUp_4 ⟨fun c => g_L_addsUp_91 (am_R_le (by repeat' (first | exact trivial | exact Or.inr rfl | exact Or.inl rfl | exact Or.inr (congrArg Value.int (nI_succ _)) | refine ⟨?_, ?_⟩)) (dyes M' q)), fun c => absurd (i_le (Nat.le_refl 5) (by decide)) c⟩
    · intro v hv ih M' q
      obtain ⟨b1, b2, b3⟩ := hz.1 v hv
      refine g_L_addsUp_4 ⟨fun c => absurd c (i_nge hv (by decide)), fun c => c_vat (v := v) (k := 1) q hv (by decide) (fun M1 q1 => c_vat (v := v) (k := 1) q1 hv (by decide) (fun M2 q2 => c_vat (v := v) (k := 0) q2 hv (by decide) (fun M3 q3 => ⟨fun c2 => absurd c2 ?_, fun c2 => c_vat (v := v) (k := 1) q3 hv (by decide) (fun M4 q4 => ⟨fun c3 => absurd c3 ?_, fun c3 => c_vat (v := v) (k := 9) q4 hv (by decide) (fun M5 q5 => c_vat (v := v) (k := 1) q5 hv (by decide) (fun M6 q6 => c_cnt (k := 8) q6 hi (by decide) (fun M7 q7 => ⟨nI_ne0 (by decide) (by decide), fun c4 => absurd ?_ c4, fun c4 => c_vat (v := v) (k := 8) q7 hv (by decide) (fun M8 q8 => ⟨fun c5 => g_L_addsUp_85 ?_, fun c5 => absurd ?_ c5⟩)⟩)))⟩)⟩)))⟩
      · show ¬ zvat v 0 (w_z w) < zvat v 1 (w_z w)
        rw [zv1, zv (by decide), ez, ti_lt, show 17 + 8 * v + 0 = 17 + 8 * v from rfl]
        omega
      · show ¬ zvat v 1 (w_z w) < 0
        rw [zv1, ez]
        exact pos_nlt b1
      · show zvat v 9 (w_z w) = zvat v 1 (w_z w) * zcn 8 w / nI 100
        rw [zv1]
        rfl
      · rw [ez]
        exact am_R_le (by repeat' (first | exact trivial | exact Or.inr rfl | exact Or.inl rfl | exact Or.inr (congrArg Value.int (nI_succ _)) | refine ⟨?_, ?_⟩)) (ih M8 q8)
      · show ¬ (zvat v 8 (w_z w) >>> (nI v &&& 31) &&& nI 1 = nI 1)
        rw [show zvat v 8 (w_z w) = w_z w (6 + v) from rfl, ez]
        exact no_pipe hp hv
  exact am_C_of_R am_S0 om_L_addsUp rfl [.ref 0, .null, .null, .null, .null, .null, .null, .null, .null] rfl rfl (g_L_addsUp_0 (am_R_le (by repeat' (first | exact trivial | exact Or.inr rfl | exact Or.inl rfl | exact Or.inr (congrArg Value.int (nI_succ _)) | refine ⟨?_, ?_⟩)) (vats M hr)))
