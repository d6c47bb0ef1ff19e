/-! the law's other cases, and its loop -/
theorem l_clearBuffer {L : am_S} {n j : Nat} {w : wS} {M : am_M} {Q : am_Q} (hL : L.1 ≤ 3072) (hr : vr M w) (hz : zr M w) (hk : wk j w) (next : ∀ M' w', vr M' w' → zr M' w' → wk (j + 1) w' → am_R L mt_L_law (n + 1) 23 [.ref 27, .ref 0, .ref 17, .ref 26, .int (nI (6 * (j + 1))), .null, .null, .null, .null] [] M' Q) : am_R L mt_L_law (n + 1 + 1) 828 [.ref 27, .ref 0, .ref 17, .ref 26, .int (nI (6 * j)), .null, .null, .null, .null] [] M Q := by
  have h31 : L.1 < 2 ^ 31 := by omega
  exact g_L_law_828 h31 (c_V_clearBuffer hr (fun M1 r1 f1 => c_Z_clearBuffer (zr_vf hz f1) (fun M2 z2 f2 => ⟨fun _ => am_R_n1 (l_1574 h31 (next M2 (w_clr w) (vr_zf r1 f2) z2 (k_clr hk))), fun c => absurd rfl c⟩)))
theorem l_firstError {L : am_S} {n j : Nat} {w : wS} {M : am_M} {Q : am_Q} (hL : L.1 ≤ 3072) (hr : vr M w) (hz : zr M w) (hk : wk j w) (next : ∀ M' w', vr M' w' → zr M' w' → wk (j + 1) w' → am_R L mt_L_law (n + 1) 23 [.ref 27, .ref 0, .ref 17, .ref 26, .int (nI (6 * (j + 1))), .null, .null, .null, .null] [] M' Q) : am_R L mt_L_law (n + 1 + 1) 841 [.ref 27, .ref 0, .ref 17, .ref 26, .int (nI (6 * j)), .null, .null, .null, .null] [] M Q := by
  have h31 : L.1 < 2 ^ 31 := by omega
  exact g_L_law_841 h31 (c_V_firstError hr hk (fun M1 r1 f1 => c_Z_firstError (zr_vf hz f1) hk (fun M2 z2 f2 => ⟨fun _ => am_R_n1 (l_1574 h31 (next M2 w (vr_zf r1 f2) z2 (wk_le hk (Nat.le_succ j)))), fun c => absurd rfl c⟩)))
theorem l_mainValve {L : am_S} {n j : Nat} {w : wS} {M : am_M} {Q : am_Q} (hL : L.1 ≤ 3072) (hn : j ≤ 600) (hr : vr M w) (hz : zr M w) (hk : wk j w) (next : ∀ M' w', vr M' w' → zr M' w' → wk (j + 1) w' → am_R L mt_L_law (n + 1) 23 [.ref 27, .ref 0, .ref 17, .ref 26, .int (nI (6 * (j + 1))), .null, .null, .null, .null] [] M' Q) : am_R L mt_L_law (n + 1 + 1) 1506 [.ref 27, .ref 0, .ref 17, .ref 26, .int (nI (6 * j)), .null, .null, .null, .null] [] M Q := by
  have h31 : L.1 < 2 ^ 31 := by omega
  exact g_L_law_1506 h31 (c_V_main hr hk (fun M1 r1 f1 => c_Z_mainValve (zr_vf hz f1) hk hn (fun M2 z2 f2 => ⟨fun _ => am_R_n1 (l_1574 h31 (next M2 w (vr_zf r1 f2) z2 (wk_le hk (Nat.le_succ j)))), fun c => absurd rfl c⟩)))
theorem l_goneShare {L : am_S} {n j : Nat} {w : wS} {M : am_M} {Q : am_Q} (hL : L.1 ≤ 3072) (hr : vr M w) (hz : zr M w) (hk : wk j w) (next : ∀ M' w', vr M' w' → zr M' w' → wk (j + 1) w' → am_R L mt_L_law (n + 1) 23 [.ref 27, .ref 0, .ref 17, .ref 26, .int (nI (6 * (j + 1))), .null, .null, .null, .null] [] M' Q) : am_R L mt_L_law (n + 1 + 1) 1519 [.ref 27, .ref 0, .ref 17, .ref 26, .int (nI (6 * j)), .null, .null, .null, .null] [] M Q := by
  have h31 : L.1 < 2 ^ 31 := by omega
  have e : FP.dcmp (zshare (w_z w)) (zshare (w_z w)) = some .eq := FP.Core.dcmp_self (zshare_nan hk.1.1)
  refine g_L_law_1519 h31 (c_V_goneShare hr.1 hk.1.1 (c_Z_goneShare hz hk (fun M2 z2 f2 => ⟨fun _ => g_L_law_1557 h31 (am_R_n1 (l_1574 h31 (next M2 w (vr_zf hr f2) z2 (wk_le hk (Nat.le_succ j))))), fun c => ?_⟩)))
  have c' : ¬ Op.cmpValue (FP.dcmp (zshare (w_z w)) (zshare (w_z w))) .l = 0 := c
  rw [e] at c'
  exact absurd rfl c'
theorem l_digest {L : am_S} {n j : Nat} {w : wS} {M : am_M} {Q : am_Q} (hL : L.1 ≤ 3072) (hn : j ≤ 600) (hr : vr M w) (hz : zr M w) (hk : wk j w) (next : ∀ M' w', vr M' w' → zr M' w' → wk (j + 1) w' → am_R L mt_L_law (n + 1) 23 [.ref 27, .ref 0, .ref 17, .ref 26, .int (nI (6 * (j + 1))), .null, .null, .null, .null] [] M' Q) : am_R L mt_L_law (n + 1 + 1) 1560 [.ref 27, .ref 0, .ref 17, .ref 26, .int (nI (6 * j)), .null, .null, .null, .null] [] M Q := by
  have h31 : L.1 < 2 ^ 31 := by omega
  exact g_L_law_1560 h31 (c_V_digest hr hk (fun M1 r1 f1 => c_Z_digest (zr_vf hz f1) hk hn (fun M2 z2 f2 => ⟨fun _ => am_R_n1 (l_1574 h31 (next M2 w (vr_zf r1 f2) z2 (wk_le hk (Nat.le_succ j)))), fun c => absurd (lg_same _) c⟩)))
theorem l_loop {L : am_S} {w : wS} {M : am_M} {Q : am_Q} (hL : L.1 ≤ 3072) (hr : vr M w) (hz : zr M w) (hk : wk 0 w) (hq : ∀ M', Q (.inl (some (.int 1))) M') : am_R L mt_L_law 513 23 [.ref 27, .ref 0, .ref 17, .ref 26, .int (nI (6 * 0)), .null, .null, .null, .null] [] M Q := by
  have h31 : L.1 < 2 ^ 31 := by omega
  have et : (nI L.1 - nI 6).toInt = (L.1 : Int) - 6 := by
    rw [ti_sub, nI_toInt h31, nI_toInt (by decide)]
    · rfl
    · rw [nI_toInt h31, nI_toInt (by decide)]; omega
    · rw [nI_toInt h31, nI_toInt (by decide)]; omega
  have key : ∀ M w, vr M w → zr M w → wk 0 w → am_R L mt_L_law (513 - 0) 23 [.ref 27, .ref 0, .ref 17, .ref 26, .int (nI (6 * 0)), .null, .null, .null, .null] [] M Q := by
    refine lu (P := fun j => ∀ M w, vr M w → zr M w → wk j w → am_R L mt_L_law (513 - j) 23 [.ref 27, .ref 0, .ref 17, .ref 26, .int (nI (6 * j)), .null, .null, .null, .null] [] M Q) (L.1 / 6) ?_ ?_
    · intro M w _ _ _
      refine g_L_law_23 h31 ⟨fun _ => g_L_law_1580 h31 ⟨Or.inr rfl, hq M⟩, fun c => ?_⟩
      have c' : ¬ nI L.1 - nI 6 < nI (6 * (L.1 / 6)) := c
      rw [Int32.lt_iff_toInt_lt, et, nI_toInt (by omega)] at c'
      omega
    · intro j hj ih M w hr hz hk
      have h6 : 6 * j + 6 ≤ L.1 := by omega
      have hn : j ≤ 600 := by omega
      have e1 : 513 - j = (511 - j) + 1 + 1 := by omega
      have e2 : 513 - (j + 1) = 511 - j + 1 := by omega
      rw [e2] at ih
      rw [e1]
      have out : am_R L mt_L_law (511 - j + 1 + 1) 1574 [.ref 27, .ref 0, .ref 17, .ref 26, .int (nI (6 * j)), .null, .null, .null, .null] [] M Q := am_R_n1 (l_1574 h31 (ih M w hr hz (wk_le hk (Nat.le_succ j))))
      refine g_L_law_23 h31 ⟨fun c => ?_, fun _ => ⟨6 * j, rfl, by show _ < L.1; omega, fun _ => out, ?_⟩⟩
      · have c' : nI L.1 - nI 6 < nI (6 * j) := c
        rw [Int32.lt_iff_toInt_lt, et, nI_toInt (by omega)] at c'
        omega
      · exact ⟨fun _ => l_fill hL h6 hn hr hz hk ih, fun _ => l_dye hL h6 hn hr hz hk ih, fun _ => l_stir hL h6 hn hr hz hk ih, fun _ => l_capacity hL h6 hn hr hz hk ih, fun _ => l_valve hL h6 hn hr hz hk ih, fun _ => l_close hL h6 hn hr hz hk ih, fun _ => l_pipe hL h6 hn hr hz hk ih, fun _ => l_set hL h6 hn hr hz hk ih, fun _ => l_pass hL h6 hn hr hz hk ih, fun _ => l_append hL h6 hn hr hz hk ih, fun _ => l_clearBuffer hL hr hz hk ih, fun _ => l_firstError hL hr hz hk ih, fun _ => l_load hL h6 hn hr hz hk ih, fun _ => l_keep hL h6 hn hr hz hk ih, fun _ => l_goBack hL h6 hn hr hz hk ih, fun _ => l_undo hL h6 hn hr hz hk ih, fun _ => l_vatOf hL h6 hn hr hz hk ih, fun _ => l_valveOf hL h6 hn hr hz hk ih, fun _ => l_dyeOf hL h6 hn hr hz hk ih, fun _ => l_count hL h6 hn hr hz hk ih, fun _ => l_ifPassed hL h6 hn hr hz hk ih, fun _ => l_emptyIn hL h6 hn hr hz hk ih, fun _ => l_round hL h6 hn hr hz hk ih, fun _ => l_mainValve hL hn hr hz hk ih, fun _ => l_goneShare hL hr hz hk ih, fun _ => l_digest hL hn hr hz hk ih, trivial⟩
  exact key M w hr hz hk
