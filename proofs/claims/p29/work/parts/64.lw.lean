/-! the law's wrappers, written by wip/p29/mkL.py -/
/-- what a wrapper tells -/
def lt (b th : Nat) (r : Int32) : Int32 := if th = 0 then r else -nI (30 + th + b)
theorem b_L_fill {p q : Int32} {w : wS} : (m_fill p q w).1 ≤ 2 := by unfold m_fill; (repeat' split) <;> first | exact Nat.zero_le _ | exact Nat.le_refl _ | exact Nat.le_succ _ | exact (by decide : 1 ≤ 3)
theorem c_L_fill {n : Nat} {p q : Int32} {w : wS} {M : am_M} {K : am_Q} (hr : vr M w) (hk : wk n w) (h : ∀ M', vr M' (m_fill p q w).2.2 → vf M M' → K (.inl (some (.int (lt 0 (m_fill p q w).1 (m_fill p q w).2.1)))) M') : am_C mt_L_fill [.ref 0, .int p, .int q] M K := by
  have hB := b_L_fill (p := p) (q := q) (w := w)
  refine am_C_of_R am_S0 om_L_fill rfl [.ref 0, .int p, .int q, .null, .null] rfl rfl (g_L_fill_0 (c_V_fill hr hk (fun M' rr f => ?_)))
  generalize m_fill p q w = mm at hB h rr ⊢
  obtain ⟨c, a, w'⟩ := mm
  rcases c with _ | _ | _ | c
  · exact g_L_fill_20 (h M' rr f)
  · exact ⟨10, (show am_hd (am_ex 0) (mt_h mt_L_fill) = some 10 by decide +kernel), fun q => g_L_fill_10 (h M' rr f)⟩
  · exact ⟨15, (show am_hd (am_ex 1) (mt_h mt_L_fill) = some 15 by decide +kernel), fun q => g_L_fill_15 (h M' rr f)⟩
  · exact absurd hB (by show ¬ c + 3 ≤ 2; omega)
theorem b_L_dye {p q s : Int32} {w : wS} : (m_dye p q s w).1 ≤ 3 := by unfold m_dye; (repeat' split) <;> first | exact Nat.zero_le _ | exact Nat.le_refl _ | exact Nat.le_succ _ | exact (by decide : 1 ≤ 3)
theorem c_L_dye {n : Nat} {p q s : Int32} {w : wS} {M : am_M} {K : am_Q} (hr : vr M w) (hk : wk n w) (h : ∀ M', vr M' (m_dye p q s w).2.2 → vf M M' → K (.inl (some (.int (lt 0 (m_dye p q s w).1 (m_dye p q s w).2.1)))) M') : am_C mt_L_dye [.ref 0, .int p, .int q, .int s] M K := by
  have hB := b_L_dye (p := p) (q := q) (s := s) (w := w)
  refine am_C_of_R am_S0 om_L_dye rfl [.ref 0, .int p, .int q, .int s, .null, .null] rfl rfl (g_L_dye_0 (c_V_dye hr (fun M' rr f => ?_)))
  generalize m_dye p q s w = mm at hB h rr ⊢
  obtain ⟨c, a, w'⟩ := mm
  rcases c with _ | _ | _ | _ | c
  · exact g_L_dye_27 (h M' rr f)
  · exact ⟨12, (show am_hd (am_ex 0) (mt_h mt_L_dye) = some 12 by decide +kernel), fun q => g_L_dye_12 (h M' rr f)⟩
  · exact ⟨17, (show am_hd (am_ex 1) (mt_h mt_L_dye) = some 17 by decide +kernel), fun q => g_L_dye_17 (h M' rr f)⟩
  · exact ⟨22, (show am_hd (am_ex 2) (mt_h mt_L_dye) = some 22 by decide +kernel), fun q => g_L_dye_22 (h M' rr f)⟩
  · exact absurd hB (by show ¬ c + 4 ≤ 3; omega)
theorem b_L_stir {p : Int32} {w : wS} : (m_stir p w).1 ≤ 1 := by unfold m_stir; (repeat' split) <;> first | exact Nat.zero_le _ | exact Nat.le_refl _ | exact Nat.le_succ _ | exact (by decide : 1 ≤ 3)
theorem c_L_stir {n : Nat} {p : Int32} {w : wS} {M : am_M} {K : am_Q} (hr : vr M w) (hk : wk n w) (h : ∀ M', vr M' (m_stir p w).2.2 → vf M M' → K (.inl (some (.int (lt 0 (m_stir p w).1 (m_stir p w).2.1)))) M') : am_C mt_L_stir [.ref 0, .int p] M K := by
  have hB := b_L_stir (p := p) (w := w)
  refine am_C_of_R am_S0 om_L_stir rfl [.ref 0, .int p, .null, .null] rfl rfl (g_L_stir_0 (c_V_stir hr hk (fun M' rr f => ?_)))
  generalize m_stir p w = mm at hB h rr ⊢
  obtain ⟨c, a, w'⟩ := mm
  rcases c with _ | _ | c
  · exact g_L_stir_13 (h M' rr f)
  · exact ⟨9, (show am_hd (am_ex 0) (mt_h mt_L_stir) = some 9 by decide +kernel), fun q => g_L_stir_9 (h M' rr f)⟩
  · exact absurd hB (by show ¬ c + 2 ≤ 1; omega)
theorem b_L_capacity {p q : Int32} {w : wS} : (m_cap p q w).1 ≤ 2 := by unfold m_cap; (repeat' split) <;> first | exact Nat.zero_le _ | exact Nat.le_refl _ | exact Nat.le_succ _ | exact (by decide : 1 ≤ 3)
theorem c_L_capacity {n : Nat} {p q : Int32} {w : wS} {M : am_M} {K : am_Q} (hr : vr M w) (hk : wk n w) (h : ∀ M', vr M' (m_cap p q w).2.2 → vf M M' → K (.inl (some (.int (lt 0 (m_cap p q w).1 (m_cap p q w).2.1)))) M') : am_C mt_L_capacity [.ref 0, .int p, .int q] M K := by
  have hB := b_L_capacity (p := p) (q := q) (w := w)
  refine am_C_of_R am_S0 om_L_capacity rfl [.ref 0, .int p, .int q, .null, .null] rfl rfl (g_L_capacity_0 (c_V_capacity hr (fun M' rr f => ?_)))
  generalize m_cap p q w = mm at hB h rr ⊢
  obtain ⟨c, a, w'⟩ := mm
  rcases c with _ | _ | _ | c
  · exact g_L_capacity_20 (h M' rr f)
  · exact ⟨10, (show am_hd (am_ex 0) (mt_h mt_L_capacity) = some 10 by decide +kernel), fun q => g_L_capacity_10 (h M' rr f)⟩
  · exact ⟨15, (show am_hd (am_ex 1) (mt_h mt_L_capacity) = some 15 by decide +kernel), fun q => g_L_capacity_15 (h M' rr f)⟩
  · exact absurd hB (by show ¬ c + 3 ≤ 2; omega)
theorem b_L_valve {p q s t u : Int32} {w : wS} : (m_valve p q s t u w).1 ≤ 3 := by unfold m_valve; (repeat' split) <;> first | exact Nat.zero_le _ | exact Nat.le_refl _ | exact Nat.le_succ _ | exact (by decide : 1 ≤ 3)
theorem c_L_valve {n : Nat} {p q s t u : Int32} {w : wS} {M : am_M} {K : am_Q} (hr : vr M w) (hk : wk n w) (h : ∀ M', vr M' (m_valve p q s t u w).2.2 → vf M M' → K (.inl (some (.int (lt 0 (m_valve p q s t u w).1 (m_valve p q s t u w).2.1)))) M') : am_C mt_L_valve [.ref 0, .int p, .int q, .int s, .int t, .int u] M K := by
  have hB := b_L_valve (p := p) (q := q) (s := s) (t := t) (u := u) (w := w)
  refine am_C_of_R am_S0 om_L_valve rfl [.ref 0, .int p, .int q, .int s, .int t, .int u, .null, .null] rfl rfl (g_L_valve_0 (c_V_valve hr hk (fun M' rr f => ?_)))
  generalize m_valve p q s t u w = mm at hB h rr ⊢
  obtain ⟨c, a, w'⟩ := mm
  rcases c with _ | _ | _ | _ | c
  · exact g_L_valve_31 (h M' rr f)
  · exact ⟨16, (show am_hd (am_ex 0) (mt_h mt_L_valve) = some 16 by decide +kernel), fun q => g_L_valve_16 (h M' rr f)⟩
  · exact ⟨21, (show am_hd (am_ex 1) (mt_h mt_L_valve) = some 21 by decide +kernel), fun q => g_L_valve_21 (h M' rr f)⟩
  · exact ⟨26, (show am_hd (am_ex 2) (mt_h mt_L_valve) = some 26 by decide +kernel), fun q => g_L_valve_26 (h M' rr f)⟩
  · exact absurd hB (by show ¬ c + 4 ≤ 3; omega)
theorem b_L_close {p : Int32} {w : wS} : (m_close p w).1 ≤ 1 := by unfold m_close; (repeat' split) <;> first | exact Nat.zero_le _ | exact Nat.le_refl _ | exact Nat.le_succ _ | exact (by decide : 1 ≤ 3)
theorem c_L_close {n : Nat} {p : Int32} {w : wS} {M : am_M} {K : am_Q} (hr : vr M w) (hk : wk n w) (h : ∀ M', vr M' (m_close p w).2.2 → vf M M' → K (.inl (some (.int (lt 0 (m_close p w).1 (m_close p w).2.1)))) M') : am_C mt_L_close [.ref 0, .int p] M K := by
  have hB := b_L_close (p := p) (w := w)
  refine am_C_of_R am_S0 om_L_close rfl [.ref 0, .int p, .null, .null] rfl rfl (g_L_close_0 (c_V_close hr hk (fun M' rr f => ?_)))
  generalize m_close p w = mm at hB h rr ⊢
  obtain ⟨c, a, w'⟩ := mm
  rcases c with _ | _ | c
  · exact g_L_close_13 (h M' rr f)
  · exact ⟨9, (show am_hd (am_ex 0) (mt_h mt_L_close) = some 9 by decide +kernel), fun q => g_L_close_9 (h M' rr f)⟩
  · exact absurd hB (by show ¬ c + 2 ≤ 1; omega)
theorem b_L_pipe {p q : Int32} {w : wS} : (m_pipe p q w).1 ≤ 2 := by unfold m_pipe; (repeat' split) <;> first | exact Nat.zero_le _ | exact Nat.le_refl _ | exact Nat.le_succ _ | exact (by decide : 1 ≤ 3)
theorem c_L_pipe {n : Nat} {p q : Int32} {w : wS} {M : am_M} {K : am_Q} (hr : vr M w) (hk : wk n w) (h : ∀ M', vr M' (m_pipe p q w).2.2 → vf M M' → K (.inl (some (.int (lt 0 (m_pipe p q w).1 (m_pipe p q w).2.1)))) M') : am_C mt_L_pipe [.ref 0, .int p, .int q] M K := by
  have hB := b_L_pipe (p := p) (q := q) (w := w)
  refine am_C_of_R am_S0 om_L_pipe rfl [.ref 0, .int p, .int q, .null, .null] rfl rfl (g_L_pipe_0 (c_V_pipe hr (fun M' rr f => ?_)))
  generalize m_pipe p q w = mm at hB h rr ⊢
  obtain ⟨c, a, w'⟩ := mm
  rcases c with _ | _ | _ | c
  · exact g_L_pipe_20 (h M' rr f)
  · exact ⟨10, (show am_hd (am_ex 0) (mt_h mt_L_pipe) = some 10 by decide +kernel), fun q => g_L_pipe_10 (h M' rr f)⟩
  · exact ⟨15, (show am_hd (am_ex 1) (mt_h mt_L_pipe) = some 15 by decide +kernel), fun q => g_L_pipe_15 (h M' rr f)⟩
  · exact absurd hB (by show ¬ c + 3 ≤ 2; omega)
theorem b_L_set {p : Int32} {w : wS} : (m_set p w).1 ≤ 1 := by unfold m_set; (repeat' split) <;> first | exact Nat.zero_le _ | exact Nat.le_refl _ | exact Nat.le_succ _ | exact (by decide : 1 ≤ 3)
theorem c_L_set {n : Nat} {p : Int32} {w : wS} {M : am_M} {K : am_Q} (hr : vr M w) (hk : wk n w) (h : ∀ M', vr M' (m_set p w).2.2 → vf M M' → K (.inl (some (.int (lt 1 (m_set p w).1 (m_set p w).2.1)))) M') : am_C mt_L_set [.ref 0, .int p] M K := by
  have hB := b_L_set (p := p) (w := w)
  refine am_C_of_R am_S0 om_L_set rfl [.ref 0, .int p, .null, .null] rfl rfl (g_L_set_0 (c_V_set hr (fun M' rr f => ?_)))
  generalize m_set p w = mm at hB h rr ⊢
  obtain ⟨c, a, w'⟩ := mm
  rcases c with _ | _ | c
  · exact g_L_set_13 (h M' rr f)
  · exact ⟨9, (show am_hd (am_ex 1) (mt_h mt_L_set) = some 9 by decide +kernel), fun q => g_L_set_9 (h M' rr f)⟩
  · exact absurd hB (by show ¬ c + 2 ≤ 1; omega)
theorem b_L_pass {p : Int32} {w : wS} : (m_pass p w).1 ≤ 2 := by unfold m_pass; (repeat' split) <;> first | exact Nat.zero_le _ | exact Nat.le_refl _ | exact Nat.le_succ _ | exact (by decide : 1 ≤ 3)
theorem c_L_pass {n : Nat} {p : Int32} {w : wS} {M : am_M} {K : am_Q} (hr : vr M w) (hk : wk n w) (h : ∀ M', vr M' (m_pass p w).2.2 → vf M M' → K (.inl (some (.int (lt 1 (m_pass p w).1 (m_pass p w).2.1)))) M') : am_C mt_L_pass [.ref 0, .int p] M K := by
  have hB := b_L_pass (p := p) (w := w)
  refine am_C_of_R am_S0 om_L_pass rfl [.ref 0, .int p, .null, .null] rfl rfl (g_L_pass_0 (c_V_pass hr hk (fun M' rr f => ?_)))
  generalize m_pass p w = mm at hB h rr ⊢
  obtain ⟨c, a, w'⟩ := mm
  rcases c with _ | _ | _ | c
  · exact g_L_pass_17 (h M' rr f)
  · exact ⟨9, (show am_hd (am_ex 1) (mt_h mt_L_pass) = some 9 by decide +kernel), fun q => g_L_pass_9 (h M' rr f)⟩
  · exact ⟨13, (show am_hd (am_ex 2) (mt_h mt_L_pass) = some 13 by decide +kernel), fun q => g_L_pass_13 (h M' rr f)⟩
  · exact absurd hB (by show ¬ c + 3 ≤ 2; omega)
theorem b_L_goBack {p : Int32} {w : wS} : (m_back p w).1 ≤ 2 := by unfold m_back; (repeat' split) <;> first | exact Nat.zero_le _ | exact Nat.le_refl _ | exact Nat.le_succ _ | exact (by decide : 1 ≤ 3)
theorem c_L_goBack {n : Nat} {p : Int32} {w : wS} {M : am_M} {K : am_Q} (hr : vr M w) (hk : wk n w) (h : ∀ M', vr M' (m_back p w).2.2 → vf M M' → K (.inl (some (.int (lt 1 (m_back p w).1 (m_back p w).2.1)))) M') : am_C mt_L_goBack [.ref 0, .int p] M K := by
  have hB := b_L_goBack (p := p) (w := w)
  refine am_C_of_R am_S0 om_L_goBack rfl [.ref 0, .int p, .null, .null] rfl rfl (g_L_goBack_0 (c_V_goBack hr (fun M' rr f => ?_)))
  generalize m_back p w = mm at hB h rr ⊢
  obtain ⟨c, a, w'⟩ := mm
  rcases c with _ | _ | _ | c
  · exact g_L_goBack_17 (h M' rr f)
  · exact ⟨9, (show am_hd (am_ex 1) (mt_h mt_L_goBack) = some 9 by decide +kernel), fun q => g_L_goBack_9 (h M' rr f)⟩
  · exact ⟨13, (show am_hd (am_ex 2) (mt_h mt_L_goBack) = some 13 by decide +kernel), fun q => g_L_goBack_13 (h M' rr f)⟩
  · exact absurd hB (by show ¬ c + 3 ≤ 2; omega)
theorem b_L_undo {w : wS} : (m_undo w).1 ≤ 1 := by unfold m_undo; (repeat' split) <;> first | exact Nat.zero_le _ | exact Nat.le_refl _ | exact Nat.le_succ _ | exact (by decide : 1 ≤ 3)
theorem c_L_undo {n : Nat} {w : wS} {M : am_M} {K : am_Q} (hr : vr M w) (hk : wk n w) (h : ∀ M', vr M' (m_undo w).2.2 → vf M M' → K (.inl (some (.int (lt 2 (m_undo w).1 (m_undo w).2.1)))) M') : am_C mt_L_undo [.ref 0] M K := by
  have hB := b_L_undo (w := w)
  refine am_C_of_R am_S0 om_L_undo rfl [.ref 0, .null, .null] rfl rfl (g_L_undo_0 (c_V_undo hr (fun M' rr f => ?_)))
  generalize m_undo w = mm at hB h rr ⊢
  obtain ⟨c, a, w'⟩ := mm
  rcases c with _ | _ | c
  · exact g_L_undo_12 (h M' rr f)
  · exact ⟨8, (show am_hd (am_ex 2) (mt_h mt_L_undo) = some 8 by decide +kernel), fun q => g_L_undo_8 (h M' rr f)⟩
  · exact absurd hB (by show ¬ c + 2 ≤ 1; omega)
theorem b_L_keep {p : Int32} {w : wS} : (m_keep p w).1 ≤ 1 := by unfold m_keep; (repeat' split) <;> first | exact Nat.zero_le _ | exact Nat.le_refl _ | exact Nat.le_succ _ | exact (by decide : 1 ≤ 3)
theorem c_L_keep {n : Nat} {p : Int32} {w : wS} {M : am_M} {K : am_Q} (hr : vr M w) (hk : wk n w) (h : ∀ M', vr M' (m_keep p w).2.2 → vf M M' → K (.inl (some (.int (lt 1 (m_keep p w).1 (m_keep p w).2.1)))) M') : am_C mt_L_keep [.ref 0, .int p] M K := by
  have hB := b_L_keep (p := p) (w := w)
  refine am_C_of_R am_S0 om_L_keep rfl [.ref 0, .int p, .null, .null] rfl rfl (g_L_keep_0 (c_V_keep hr (fun M' rr f => ?_)))
  generalize m_keep p w = mm at hB h rr ⊢
  obtain ⟨c, a, w'⟩ := mm
  rcases c with _ | _ | c
  · exact g_L_keep_13 (h M' rr f)
  · exact ⟨9, (show am_hd (am_ex 1) (mt_h mt_L_keep) = some 9 by decide +kernel), fun q => g_L_keep_9 (h M' rr f)⟩
  · exact absurd hB (by show ¬ c + 2 ≤ 1; omega)
