/-! emptyIn: the first hour without water -/
noncomputable def zef (v : Nat) (z : dz) : Nat → Nat
  | 0 => 0
  | i + 1 => by classical exact if zef v z i = i ∧ 0 < zhours z i (18 + 8 * v) then i + 1 else zef v z i
theorem zef_le (v : Nat) (z : dz) : ∀ i, zef v z i ≤ i
  | 0 => Nat.le_refl 0
  | i + 1 => by
    unfold zef
    have := zef_le v z i
    split <;> omega
theorem zef_stop {v : Nat} {z : dz} {i : Nat} (h : zef v z (i + 1) = i) : ∀ k, zef v z (i + 1 + k) = i
  | 0 => h
  | k + 1 => by
    have := zef_stop h k
    show zef v z (i + 1 + k + 1) = i
    unfold zef
    rw [if_neg (by omega)]
    exact this
noncomputable def zea (v : Nat) (z : dz) (k : Nat) : Int32 := if zef v z k = k then -nI 1 else nI (zef v z k)
noncomputable def m_emp (p : Int32) (w : wS) : mS := if isv p then (0, zea (zn p) (w_z w) 241, w) else (1, nI 0, w)
theorem zea_0 (v : Nat) (z : dz) : zea v z 0 = -nI 1 := by
  unfold zea
  rw [if_pos (show zef v z 0 = 0 from rfl)]
theorem zea_ne {v : Nat} {z : dz} {k : Nat} (hk : k < 2 ^ 31) : zea v z k = -nI 1 ↔ zef v z k = k := by
  unfold zea
  refine ⟨fun h => ?_, fun h => if_pos h⟩
  by_cases c : zef v z k = k
  · exact c
  · rw [if_neg c] at h
    have := zef_le v z k
    have h2 : (nI (zef v z k)).toInt = (-nI 1).toInt := by rw [h]
    rw [nI_toInt (by omega)] at h2
    have h3 : (-nI 1).toInt = -1 := by decide +kernel
    omega
theorem zea_next {v i : Nat} {z : dz} (h : zok z) (hv : v < 5) (hi : i < 2 ^ 30) : zea v z (i + 1) = if zea v z i = -nI 1 ∧ zhours z i (18 + 8 * v) = 0 then nI i else zea v z i := by
  have hw := ((zok_hours h i).1.1 v hv).1
  have ew : zhours z i (18 + 8 * v) = 0 ↔ ¬ 0 < zhours z i (18 + 8 * v) := by
    rw [ti_lt, ti_0]
    refine ⟨fun q => by rw [q, ti_0]; omega, fun q => ti_ext (by rw [ti_0]; omega)⟩
  have hle := zef_le v z i
  have hle1 := zef_le v z (i + 1)
  have e : zef v z (i + 1) = if zef v z i = i ∧ 0 < zhours z i (18 + 8 * v) then i + 1 else zef v z i := by
    show (if zef v z i = i ∧ 0 < zhours z i (18 + 8 * v) then i + 1 else zef v z i) = _
    congr
  have hc : (zea v z i = -nI 1 ∧ zhours z i (18 + 8 * v) = 0) ↔ (zef v z i = i ∧ ¬ 0 < zhours z i (18 + 8 * v)) := by rw [zea_ne (by omega), ew]
  by_cases c1 : zef v z i = i
  · by_cases c2 : 0 < zhours z i (18 + 8 * v)
    · rw [if_pos ⟨c1, c2⟩] at e
      rw [if_neg (fun q => (hc.mp q).2 c2)]
      unfold zea
      rw [if_pos e, if_pos c1]
    · rw [if_neg (fun q => c2 q.2)] at e
      rw [if_pos (hc.mpr ⟨c1, c2⟩)]
      unfold zea
      rw [if_neg (by omega), e, c1]
  · rw [if_neg (fun q => c1 q.1)] at e
    rw [if_neg (fun q => c1 (hc.mp q).1)]
    unfold zea
    rw [if_neg (by omega), if_neg c1, e]
theorem c_V_findEmptyHours {z : dz} {M : am_M} {K : am_Q} (hM : M 2 = zp z) (hz : zok z) (h : ∀ M', (∀ v, v < 5 → M' 13 v = zea v z 241) → (∀ o, o ≠ 4 → o ≠ 13 → M' o = M o) → K (.inl none) M') : am_C mt_V_findEmptyHours [.ref 0] M K := by
  refine am_C_of_R am_S0 om_V_findEmptyHours rfl [.ref 0, .null, .null] rfl rfl (g_V_findEmptyHours_0 (c_S_takeFrom_3 ?_))
  rw [hM]
  have base : am_R am_S0 mt_V_findEmptyHours 1 31 [.ref 0, .int (nI 5), .null] [] (am_set (am_set M 4 (zp z)) 13 (fun q => zea q z 0)) K := by
    refine g_V_findEmptyHours_31 ?_
    refine am_R_le (xs := [.ref 0, .int (nI 0), .null]) (by repeat' (first | exact trivial | exact Or.inr rfl | exact Or.inl rfl | exact Or.inr (congrArg Value.int (nI_succ _)) | refine ⟨?_, ?_⟩)) ?_
    have h0 : am_set (am_set M 4 (zp z)) 13 (fun q => zea q z 0) = am_set (am_set M 4 (zp (zhours z (0 - 1)))) 13 (fun q => zea q z 0) := rfl
    rw [h0]
    refine lu (P := fun i => am_R am_S0 mt_V_findEmptyHours 1 33 [.ref 0, .int (nI i), .null] [] (am_set (am_set M 4 (zp (zhours z (i - 1)))) 13 (fun q => zea q z i)) K) 241 ?_ ?_
    · refine g_V_findEmptyHours_33 ⟨fun c => g_V_findEmptyHours_103 (h _ (fun v hv => by rw [am_set_eq]) (fun o h1 h2 => by rw [am_so _ _ h2, am_so _ _ h1])), fun c => absurd (show nI 240 < nI 241 by decide +kernel) c⟩
    · intro i hi ih
      have hn : ¬ nI 240 < nI i := Int32.not_lt.mpr (i_le (by omega) (by decide))
      -- the vats of one hour
      have tail : am_R am_S0 mt_V_findEmptyHours 1 52 [.ref 0, .int (nI i), .null] [] (am_set (am_set M 4 (zp (zhours z i))) 13 (fun q => zea q z i)) K := by
        refine g_V_findEmptyHours_52 ?_
        refine am_R_le (xs := [.ref 0, .int (nI i), .int (nI 0)]) (by repeat' (first | exact trivial | exact Or.inr rfl | exact Or.inl rfl | exact Or.inr (congrArg Value.int (nI_succ _)) | refine ⟨?_, ?_⟩)) ?_
        have h1 : (fun q => zea q z i) = (fun q => if q < 0 then zea q z (i + 1) else zea q z i) := by funext q; rw [if_neg (by omega)]
        rw [h1]
        refine lu (P := fun j => am_R am_S0 mt_V_findEmptyHours 1 54 [.ref 0, .int (nI i), .int (nI j)] [] (am_set (am_set M 4 (zp (zhours z i))) 13 (fun q => if q < j then zea q z (i + 1) else zea q z i)) K) 5 ?_ ?_
        · refine g_V_findEmptyHours_54 ⟨fun c => g_V_findEmptyHours_97 ?_, fun c => absurd (i_le (Nat.le_refl 5) (by decide)) c⟩
          have ih' := am_R_same (M := am_set (am_set M 4 (zp (zhours z i))) 13 (fun q => if q < 5 then zea q z (i + 1) else zea q z i)) (am_same_set fun q hq => if_pos hq) ih
          exact am_R_le (by repeat' (first | exact trivial | exact Or.inr rfl | exact Or.inl rfl | exact Or.inr (congrArg Value.int (nI_succ _)) | refine ⟨?_, ?_⟩)) ih'
        · intro j hj ihj
          have e10 : zp (zhours z i) (10 + j) = zhours z i (18 + 8 * j) := by unfold zp; rw [pz_w hj]
          have en := zea_next (v := j) (i := i) hz hj (by omega)
          have keep : ¬ (zea j z i = -nI 1 ∧ zhours z i (18 + 8 * j) = 0) → am_R am_S0 mt_V_findEmptyHours 1 91 [.ref 0, .int (nI i), .int (nI j)] [] (am_set (am_set M 4 (zp (zhours z i))) 13 (fun q => if q < j then zea q z (i + 1) else zea q z i)) K := by
            intro c
            rw [if_neg c] at en
            have e : (fun q => if q < j + 1 then zea q z (i + 1) else zea q z i) = (fun q => if q < j then zea q z (i + 1) else zea q z i) := by
              funext q
              by_cases c1 : q < j
              · rw [if_pos c1, if_pos (by omega)]
              · by_cases c2 : q = j
                · subst c2; rw [if_pos (by omega), if_neg c1, en]
                · rw [if_neg c1, if_neg (by omega)]
            rw [e] at ihj
            exact g_V_findEmptyHours_91 (am_R_le (by repeat' (first | exact trivial | exact Or.inr rfl | exact Or.inl rfl | exact Or.inr (congrArg Value.int (nI_succ _)) | refine ⟨?_, ?_⟩)) ihj)
          have ej : (fun q => if q < j then zea q z (i + 1) else zea q z i) j = zea j z i := if_neg (Nat.lt_irrefl j)
          refine g_V_findEmptyHours_54 ⟨fun c => absurd c (i_nge hj (by decide)), fun c => ⟨j, rfl, by show _ < 5; omega, fun c2 => keep fun q => c2 ?_, fun c2 => ⟨10 + j, ix2 10 j, by show _ < 105; omega, fun c3 => keep fun q => c3 ?_, fun c3 => ⟨j, rfl, by show _ < 5; omega, ?_⟩⟩⟩⟩
          · exact ej.trans q.1
          · exact e10.trans q.2
          · have c4 : zea j z i = -nI 1 := ej.symm.trans (Classical.not_not.mp c2)
            have c5 : zhours z i (18 + 8 * j) = 0 := e10.symm.trans (Classical.not_not.mp c3)
            rw [if_pos ⟨c4, c5⟩] at en
            have e : (fun q => if q < j + 1 then zea q z (i + 1) else zea q z i) = upd (fun q => if q < j then zea q z (i + 1) else zea q z i) j (nI i) := by
              funext q
              by_cases c1 : q = j
              · subst c1; rw [upd_eq, if_pos (by omega), en]
              · rw [upd_ne _ _ c1]
                by_cases c2 : q < j
                · rw [if_pos c2, if_pos (by omega)]
                · rw [if_neg c2, if_neg (by omega)]
            rw [e, ← am_set_set _ 13 (fun q => if q < j then zea q z (i + 1) else zea q z i)] at ihj
            exact g_V_findEmptyHours_91 (am_R_le (by repeat' (first | exact trivial | exact Or.inr rfl | exact Or.inl rfl | exact Or.inr (congrArg Value.int (nI_succ _)) | refine ⟨?_, ?_⟩)) ihj)
      refine g_V_findEmptyHours_33 ⟨fun c => absurd c hn, fun c => ⟨fun c2 => ?_, fun c2 => ?_⟩⟩
      · have hi0 : i = 0 := by
          have c3 : nI i ≤ nI 0 := c2
          exact Classical.not_not.mp fun q => absurd c3 (i_nge (by omega) (by omega))
        subst hi0
        exact tail
      · have hi0 : i ≠ 0 := fun q => c2 (show nI i ≤ nI 0 by rw [q]; decide +kernel)
        have hz' := (zok_hours hz (i - 1)).1
        refine c_S_runHours_3 (z := zhours z (i - 1)) (n := 1) rfl hz' (by decide) ?_
        have e1 : zhours (zhours z (i - 1)) 1 = zhours z i := by
          show zhour (zhours z (i - 1)) = zhours z i
          obtain ⟨i', rfl⟩ : ∃ i', i = i' + 1 := ⟨i - 1, by omega⟩
          rfl
        rw [e1, am_set_comm _ (show 13 ≠ 4 by decide), am_set_set]
        exact tail
  refine am_R_le (xs := [.ref 0, .int (nI 0), .null]) (by repeat' (first | exact trivial | exact Or.inr rfl | exact Or.inl rfl | exact Or.inr (congrArg Value.int (nI_succ _)) | refine ⟨?_, ?_⟩)) ?_
  have h0 : am_set M 4 (zp z) = am_set (am_set M 4 (zp z)) 13 (fun q => if q < 0 then -nI 1 else M 13 q) := by
    funext o
    by_cases c : o = 13
    · subst c; rfl
    · rw [am_so _ _ c]
  rw [h0]
  refine lu (P := fun j => am_R am_S0 mt_V_findEmptyHours 1 13 [.ref 0, .int (nI j), .null] [] (am_set (am_set M 4 (zp z)) 13 (fun q => if q < j then -nI 1 else M 13 q)) K) 5 ?_ ?_
  · refine g_V_findEmptyHours_13 ⟨fun c => ?_, fun c => absurd (i_le (Nat.le_refl 5) (by decide)) c⟩
    have b' := am_R_same (M := am_set (am_set M 4 (zp z)) 13 (fun q => if q < 5 then -nI 1 else M 13 q)) (am_same_set fun q hq => by
      have hq' : q < 5 := hq
      rw [if_pos hq', zea_0]) base
    exact b'
  · intro j hj ih
    refine g_V_findEmptyHours_13 ⟨fun c => absurd c (i_nge hj (by decide)), fun c => ⟨j, rfl, by show _ < 5; omega, ?_⟩⟩
    have e : (fun q => if q < j + 1 then -nI 1 else M 13 q) = upd (fun q => if q < j then -nI 1 else M 13 q) j (-nI 1) := by
      funext q
      by_cases c1 : q = j
      · subst c1; rw [upd_eq, if_pos (by omega)]
      · rw [upd_ne _ _ c1]
        by_cases c2 : q < j
        · rw [if_pos c2, if_pos (by omega)]
        · rw [if_neg c2, if_neg (by omega)]
    rw [e, ← am_set_set _ 13 (fun q => if q < j then -nI 1 else M 13 q)] at ih
    exact am_R_le (by repeat' (first | exact trivial | exact Or.inr rfl | exact Or.inl rfl | exact Or.inr (congrArg Value.int (nI_succ _)) | refine ⟨?_, ?_⟩)) ih
theorem c_V_emptyIn {n : Nat} {p : Int32} {w : wS} {M : am_M} {K : am_Q} (hr : vr M w) (hk : wk n w) (h : ∀ M', vr M' (m_emp p w).2.2 → vf M M' → K (oV 0 (m_emp p w).1 (m_emp p w).2.1) M') : am_C mt_V_emptyIn [.ref 0, .int p] M K := by
  unfold m_emp at h
  refine am_C_of_R am_S0 om_V_emptyIn rfl [.ref 0, .int p] rfl rfl (g_V_emptyIn_0 (c_V_requireVat (fun hv => ?_) (fun hv => ?_)))
  · rw [if_pos hv] at h
    obtain ⟨v, -, hv4, rfl⟩ := isr_nat (a := 0) (b := 4) hv (by decide) (by decide)
    rw [zn_nI (by omega)] at h
    dsimp only at h
    refine c_V_findEmptyHours hr.1 hk.1.1 (fun M' h1 h2 => ⟨v, rfl, by show _ < 5; omega, ?_⟩)
    rw [← h1 v (by omega)] at h
    exact h M' (vr_keep hr (fun o ho => h2 o (by omega) (by omega))) (fun o ho => h2 o (by omega) (by omega))
  · rw [if_neg hv] at h
    exact h M hr (vf_refl M)
