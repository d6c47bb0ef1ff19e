/-! the law's wrappers, written by wip/whole/mkL.py -/
def lF (M M' : am_M) : Prop := ∀ o, 17 ≤ o → o ≠ 26 → M' o = M o
theorem lF_set {M M' : am_M} {f : Nat → Int32} (h : vf M M') : lF M (am_set M' 26 f) := fun o a b => by rw [am_so _ _ b]; exact h o a
theorem lF_of {M M' : am_M} (h : vf M M') : lF M M' := fun o a _ => h o a
theorem vr_26 {M : am_M} {w : wS} {f : Nat → Int32} (h : vr M w) : vr (am_set M 26 f) w := vr_of h (fun o q => am_so _ _ (by omega))
theorem c_Z_thrown {M : am_M} {K : am_Q} (h : K (.inl (some (.int (M 17 0)))) M) : am_C mt_Z_thrown [.ref 17] M K := am_C_of_R am_S0 om_Z_thrown rfl [.ref 17] rfl rfl (g_Z_thrown_0 h)
theorem b_L_fill {p q : Int32} {w : wS} : (m_fill p q w).1 ≤ 2 := by unfold m_fill; (repeat' split) <;> first | exact Nat.zero_le _ | exact Nat.le_refl _ | exact Nat.le_succ _ | exact (by decide : 1 ≤ 3)
theorem c_L_fill {n : Nat} {p q : Int32} {w : wS} {M : am_M} {K : am_Q} (hr : vr M w) (hk : wk n w) (h : ∀ M', vr M' (m_fill p q w).2.2 → lF M M' → ((m_fill p q w).1 = 0 → M' 26 0 = (m_fill p q w).2.1) → K (.inl (some (.int (nI (m_fill p q w).1)))) M') : am_C mt_L_fill [.ref 0, .int p, .int q, .ref 26] M K := by
  have hB := b_L_fill (p := p) (q := q) (w := w)
  refine am_C_of_R am_S0 om_L_fill rfl [.ref 0, .int p, .int q, .ref 26, .null] rfl rfl (g_L_fill_0 (c_V_fill hr hk (fun M' rr f => ?_)))
  generalize m_fill p q w = mm at hB h rr ⊢
  obtain ⟨c, a, w'⟩ := mm
  rcases c with _ | _ | _ | c
  · exact ⟨0, rfl, by decide, a, rfl, g_L_fill_21 (h _ (vr_26 rr) (lF_set f) (fun _ => upd_eq (M' 26) 0 a))⟩
  · exact ⟨13, (show am_hd (am_ex 0) (mt_h mt_L_fill) = some 13 by decide +kernel), fun q => g_L_fill_13 (h M' rr (lF_of f) (fun z => absurd z (Nat.succ_ne_zero _)))⟩
  · exact ⟨17, (show am_hd (am_ex 1) (mt_h mt_L_fill) = some 17 by decide +kernel), fun q => g_L_fill_17 (h M' rr (lF_of f) (fun z => absurd z (Nat.succ_ne_zero _)))⟩
  · exact absurd hB (by show ¬ c + 3 ≤ 2; omega)
theorem b_L_dye {p q s : Int32} {w : wS} : (m_dye p q s w).1 ≤ 3 := by unfold m_dye; (repeat' split) <;> first | exact Nat.zero_le _ | exact Nat.le_refl _ | exact Nat.le_succ _ | exact (by decide : 1 ≤ 3)
theorem c_L_dye {n : Nat} {p q s : Int32} {w : wS} {M : am_M} {K : am_Q} (hr : vr M w) (hk : wk n w) (h : ∀ M', vr M' (m_dye p q s w).2.2 → lF M M' → ((m_dye p q s w).1 = 0 → M' 26 0 = (m_dye p q s w).2.1) → K (.inl (some (.int (nI (m_dye p q s w).1)))) M') : am_C mt_L_dye [.ref 0, .int p, .int q, .int s, .ref 26] M K := by
  have hB := b_L_dye (p := p) (q := q) (s := s) (w := w)
  refine am_C_of_R am_S0 om_L_dye rfl [.ref 0, .int p, .int q, .int s, .ref 26, .null] rfl rfl (g_L_dye_0 (c_V_dye hr (fun M' rr f => ?_)))
  generalize m_dye p q s w = mm at hB h rr ⊢
  obtain ⟨c, a, w'⟩ := mm
  rcases c with _ | _ | _ | _ | c
  · exact ⟨0, rfl, by decide, a, rfl, g_L_dye_27 (h _ (vr_26 rr) (lF_set f) (fun _ => upd_eq (M' 26) 0 a))⟩
  · exact ⟨15, (show am_hd (am_ex 0) (mt_h mt_L_dye) = some 15 by decide +kernel), fun q => g_L_dye_15 (h M' rr (lF_of f) (fun z => absurd z (Nat.succ_ne_zero _)))⟩
  · exact ⟨19, (show am_hd (am_ex 1) (mt_h mt_L_dye) = some 19 by decide +kernel), fun q => g_L_dye_19 (h M' rr (lF_of f) (fun z => absurd z (Nat.succ_ne_zero _)))⟩
  · exact ⟨23, (show am_hd (am_ex 2) (mt_h mt_L_dye) = some 23 by decide +kernel), fun q => g_L_dye_23 (h M' rr (lF_of f) (fun z => absurd z (Nat.succ_ne_zero _)))⟩
  · exact absurd hB (by show ¬ c + 4 ≤ 3; omega)
theorem b_L_stir {p : Int32} {w : wS} : (m_stir p w).1 ≤ 1 := by unfold m_stir; (repeat' split) <;> first | exact Nat.zero_le _ | exact Nat.le_refl _ | exact Nat.le_succ _ | exact (by decide : 1 ≤ 3)
theorem c_L_stir {n : Nat} {p : Int32} {w : wS} {M : am_M} {K : am_Q} (hr : vr M w) (hk : wk n w) (h : ∀ M', vr M' (m_stir p w).2.2 → lF M M' → ((m_stir p w).1 = 0 → M' 26 0 = (m_stir p w).2.1) → K (.inl (some (.int (nI (m_stir p w).1)))) M') : am_C mt_L_stir [.ref 0, .int p, .ref 26] M K := by
  have hB := b_L_stir (p := p) (w := w)
  refine am_C_of_R am_S0 om_L_stir rfl [.ref 0, .int p, .ref 26, .null] rfl rfl (g_L_stir_0 (c_V_stir hr hk (fun M' rr f => ?_)))
  generalize m_stir p w = mm at hB h rr ⊢
  obtain ⟨c, a, w'⟩ := mm
  rcases c with _ | _ | c
  · exact ⟨0, rfl, by decide, a, rfl, g_L_stir_15 (h _ (vr_26 rr) (lF_set f) (fun _ => upd_eq (M' 26) 0 a))⟩
  · exact ⟨12, (show am_hd (am_ex 0) (mt_h mt_L_stir) = some 12 by decide +kernel), fun q => g_L_stir_12 (h M' rr (lF_of f) (fun z => absurd z (Nat.succ_ne_zero _)))⟩
  · exact absurd hB (by show ¬ c + 2 ≤ 1; omega)
theorem b_L_capacity {p q : Int32} {w : wS} : (m_cap p q w).1 ≤ 2 := by unfold m_cap; (repeat' split) <;> first | exact Nat.zero_le _ | exact Nat.le_refl _ | exact Nat.le_succ _ | exact (by decide : 1 ≤ 3)
theorem c_L_capacity {n : Nat} {p q : Int32} {w : wS} {M : am_M} {K : am_Q} (hr : vr M w) (hk : wk n w) (h : ∀ M', vr M' (m_cap p q w).2.2 → lF M M' → ((m_cap p q w).1 = 0 → M' 26 0 = (m_cap p q w).2.1) → K (.inl (some (.int (nI (m_cap p q w).1)))) M') : am_C mt_L_capacity [.ref 0, .int p, .int q, .ref 26] M K := by
  have hB := b_L_capacity (p := p) (q := q) (w := w)
  refine am_C_of_R am_S0 om_L_capacity rfl [.ref 0, .int p, .int q, .ref 26, .null] rfl rfl (g_L_capacity_0 (c_V_capacity hr (fun M' rr f => ?_)))
  generalize m_cap p q w = mm at hB h rr ⊢
  obtain ⟨c, a, w'⟩ := mm
  rcases c with _ | _ | _ | c
  · exact ⟨0, rfl, by decide, a, rfl, g_L_capacity_21 (h _ (vr_26 rr) (lF_set f) (fun _ => upd_eq (M' 26) 0 a))⟩
  · exact ⟨13, (show am_hd (am_ex 0) (mt_h mt_L_capacity) = some 13 by decide +kernel), fun q => g_L_capacity_13 (h M' rr (lF_of f) (fun z => absurd z (Nat.succ_ne_zero _)))⟩
  · exact ⟨17, (show am_hd (am_ex 1) (mt_h mt_L_capacity) = some 17 by decide +kernel), fun q => g_L_capacity_17 (h M' rr (lF_of f) (fun z => absurd z (Nat.succ_ne_zero _)))⟩
  · exact absurd hB (by show ¬ c + 3 ≤ 2; omega)
theorem b_L_valve {p q s t u : Int32} {w : wS} : (m_valve p q s t u w).1 ≤ 3 := by unfold m_valve; (repeat' split) <;> first | exact Nat.zero_le _ | exact Nat.le_refl _ | exact Nat.le_succ _ | exact (by decide : 1 ≤ 3)
theorem c_L_valve {n : Nat} {p q s t u : Int32} {w : wS} {M : am_M} {K : am_Q} (hr : vr M w) (hk : wk n w) (h : ∀ M', vr M' (m_valve p q s t u w).2.2 → lF M M' → ((m_valve p q s t u w).1 = 0 → M' 26 0 = (m_valve p q s t u w).2.1) → K (.inl (some (.int (nI (m_valve p q s t u w).1)))) M') : am_C mt_L_valve [.ref 0, .int p, .int q, .int s, .int t, .int u, .ref 26] M K := by
  have hB := b_L_valve (p := p) (q := q) (s := s) (t := t) (u := u) (w := w)
  refine am_C_of_R am_S0 om_L_valve rfl [.ref 0, .int p, .int q, .int s, .int t, .int u, .ref 26, .null] rfl rfl (g_L_valve_0 (c_V_valve hr hk (fun M' rr f => ?_)))
  generalize m_valve p q s t u w = mm at hB h rr ⊢
  obtain ⟨c, a, w'⟩ := mm
  rcases c with _ | _ | _ | _ | c
  · exact ⟨0, rfl, by decide, a, rfl, g_L_valve_31 (h _ (vr_26 rr) (lF_set f) (fun _ => upd_eq (M' 26) 0 a))⟩
  · exact ⟨19, (show am_hd (am_ex 0) (mt_h mt_L_valve) = some 19 by decide +kernel), fun q => g_L_valve_19 (h M' rr (lF_of f) (fun z => absurd z (Nat.succ_ne_zero _)))⟩
  · exact ⟨23, (show am_hd (am_ex 1) (mt_h mt_L_valve) = some 23 by decide +kernel), fun q => g_L_valve_23 (h M' rr (lF_of f) (fun z => absurd z (Nat.succ_ne_zero _)))⟩
  · exact ⟨27, (show am_hd (am_ex 2) (mt_h mt_L_valve) = some 27 by decide +kernel), fun q => g_L_valve_27 (h M' rr (lF_of f) (fun z => absurd z (Nat.succ_ne_zero _)))⟩
  · exact absurd hB (by show ¬ c + 4 ≤ 3; omega)
theorem b_L_close {p : Int32} {w : wS} : (m_close p w).1 ≤ 1 := by unfold m_close; (repeat' split) <;> first | exact Nat.zero_le _ | exact Nat.le_refl _ | exact Nat.le_succ _ | exact (by decide : 1 ≤ 3)
theorem c_L_close {n : Nat} {p : Int32} {w : wS} {M : am_M} {K : am_Q} (hr : vr M w) (hk : wk n w) (h : ∀ M', vr M' (m_close p w).2.2 → lF M M' → ((m_close p w).1 = 0 → M' 26 0 = (m_close p w).2.1) → K (.inl (some (.int (nI (m_close p w).1)))) M') : am_C mt_L_close [.ref 0, .int p, .ref 26] M K := by
  have hB := b_L_close (p := p) (w := w)
  refine am_C_of_R am_S0 om_L_close rfl [.ref 0, .int p, .ref 26, .null] rfl rfl (g_L_close_0 (c_V_close hr hk (fun M' rr f => ?_)))
  generalize m_close p w = mm at hB h rr ⊢
  obtain ⟨c, a, w'⟩ := mm
  rcases c with _ | _ | c
  · exact ⟨0, rfl, by decide, a, rfl, g_L_close_15 (h _ (vr_26 rr) (lF_set f) (fun _ => upd_eq (M' 26) 0 a))⟩
  · exact ⟨12, (show am_hd (am_ex 0) (mt_h mt_L_close) = some 12 by decide +kernel), fun q => g_L_close_12 (h M' rr (lF_of f) (fun z => absurd z (Nat.succ_ne_zero _)))⟩
  · exact absurd hB (by show ¬ c + 2 ≤ 1; omega)
theorem b_L_pipe {p q : Int32} {w : wS} : (m_pipe p q w).1 ≤ 2 := by unfold m_pipe; (repeat' split) <;> first | exact Nat.zero_le _ | exact Nat.le_refl _ | exact Nat.le_succ _ | exact (by decide : 1 ≤ 3)
theorem c_L_pipe {n : Nat} {p q : Int32} {w : wS} {M : am_M} {K : am_Q} (hr : vr M w) (hk : wk n w) (h : ∀ M', vr M' (m_pipe p q w).2.2 → lF M M' → ((m_pipe p q w).1 = 0 → M' 26 0 = (m_pipe p q w).2.1) → K (.inl (some (.int (nI (m_pipe p q w).1)))) M') : am_C mt_L_pipe [.ref 0, .int p, .int q, .ref 26] M K := by
  have hB := b_L_pipe (p := p) (q := q) (w := w)
  refine am_C_of_R am_S0 om_L_pipe rfl [.ref 0, .int p, .int q, .ref 26, .null] rfl rfl (g_L_pipe_0 (c_V_pipe hr (fun M' rr f => ?_)))
  generalize m_pipe p q w = mm at hB h rr ⊢
  obtain ⟨c, a, w'⟩ := mm
  rcases c with _ | _ | _ | c
  · exact ⟨0, rfl, by decide, a, rfl, g_L_pipe_21 (h _ (vr_26 rr) (lF_set f) (fun _ => upd_eq (M' 26) 0 a))⟩
  · exact ⟨13, (show am_hd (am_ex 0) (mt_h mt_L_pipe) = some 13 by decide +kernel), fun q => g_L_pipe_13 (h M' rr (lF_of f) (fun z => absurd z (Nat.succ_ne_zero _)))⟩
  · exact ⟨17, (show am_hd (am_ex 1) (mt_h mt_L_pipe) = some 17 by decide +kernel), fun q => g_L_pipe_17 (h M' rr (lF_of f) (fun z => absurd z (Nat.succ_ne_zero _)))⟩
  · exact absurd hB (by show ¬ c + 3 ≤ 2; omega)
theorem b_L_set {p : Int32} {w : wS} : (m_set p w).1 ≤ 1 := by unfold m_set; (repeat' split) <;> first | exact Nat.zero_le _ | exact Nat.le_refl _ | exact Nat.le_succ _ | exact (by decide : 1 ≤ 3)
theorem c_L_set {n : Nat} {p : Int32} {w : wS} {M : am_M} {K : am_Q} (hr : vr M w) (hk : wk n w) (h : ∀ M', vr M' (m_set p w).2.2 → lF M M' → ((m_set p w).1 = 0 → M' 26 0 = (m_set p w).2.1) → K (.inl (some (.int (nI (m_set p w).1)))) M') : am_C mt_L_set [.ref 0, .int p, .ref 26] M K := by
  have hB := b_L_set (p := p) (w := w)
  refine am_C_of_R am_S0 om_L_set rfl [.ref 0, .int p, .ref 26, .null] rfl rfl (g_L_set_0 (c_V_set hr (fun M' rr f => ?_)))
  generalize m_set p w = mm at hB h rr ⊢
  obtain ⟨c, a, w'⟩ := mm
  rcases c with _ | _ | c
  · exact ⟨0, rfl, by decide, a, rfl, g_L_set_15 (h _ (vr_26 rr) (lF_set f) (fun _ => upd_eq (M' 26) 0 a))⟩
  · exact ⟨12, (show am_hd (am_ex 1) (mt_h mt_L_set) = some 12 by decide +kernel), fun q => g_L_set_12 (h M' rr (lF_of f) (fun z => absurd z (Nat.succ_ne_zero _)))⟩
  · exact absurd hB (by show ¬ c + 2 ≤ 1; omega)
theorem b_L_pass {p : Int32} {w : wS} : (m_pass p w).1 ≤ 2 := by unfold m_pass; (repeat' split) <;> first | exact Nat.zero_le _ | exact Nat.le_refl _ | exact Nat.le_succ _ | exact (by decide : 1 ≤ 3)
theorem c_L_pass {n : Nat} {p : Int32} {w : wS} {M : am_M} {K : am_Q} (hr : vr M w) (hk : wk n w) (h : ∀ M', vr M' (m_pass p w).2.2 → lF M M' → ((m_pass p w).1 = 0 → M' 26 0 = (m_pass p w).2.1) → K (.inl (some (.int (nI (m_pass p w).1)))) M') : am_C mt_L_pass [.ref 0, .int p, .ref 26] M K := by
  have hB := b_L_pass (p := p) (w := w)
  refine am_C_of_R am_S0 om_L_pass rfl [.ref 0, .int p, .ref 26, .null] rfl rfl (g_L_pass_0 (c_V_pass hr hk (fun M' rr f => ?_)))
  generalize m_pass p w = mm at hB h rr ⊢
  obtain ⟨c, a, w'⟩ := mm
  rcases c with _ | _ | _ | c
  · exact ⟨0, rfl, by decide, a, rfl, g_L_pass_18 (h _ (vr_26 rr) (lF_set f) (fun _ => upd_eq (M' 26) 0 a))⟩
  · exact ⟨12, (show am_hd (am_ex 1) (mt_h mt_L_pass) = some 12 by decide +kernel), fun q => g_L_pass_12 (h M' rr (lF_of f) (fun z => absurd z (Nat.succ_ne_zero _)))⟩
  · exact ⟨15, (show am_hd (am_ex 2) (mt_h mt_L_pass) = some 15 by decide +kernel), fun q => g_L_pass_15 (h M' rr (lF_of f) (fun z => absurd z (Nat.succ_ne_zero _)))⟩
  · exact absurd hB (by show ¬ c + 3 ≤ 2; omega)
theorem b_L_append {p : Int32} {w : wS} : (m_app p w).1 ≤ 2 := by unfold m_app; (repeat' split) <;> first | exact Nat.zero_le _ | exact Nat.le_refl _ | exact Nat.le_succ _ | exact (by decide : 1 ≤ 3)
theorem c_L_append {n : Nat} {p : Int32} {w : wS} {M : am_M} {K : am_Q} (hr : vr M w) (hk : wk n w) (h : ∀ M', vr M' (m_app p w).2.2 → lF M M' → ((m_app p w).1 = 0 → M' 26 0 = (m_app p w).2.1) → K (.inl (some (.int (nI (m_app p w).1)))) M') : am_C mt_L_append [.ref 0, .int p, .ref 26] M K := by
  have hB := b_L_append (p := p) (w := w)
  refine am_C_of_R am_S0 om_L_append rfl [.ref 0, .int p, .ref 26, .null] rfl rfl (g_L_append_0 (c_V_append hr (fun M' rr f => ?_)))
  generalize m_app p w = mm at hB h rr ⊢
  obtain ⟨c, a, w'⟩ := mm
  rcases c with _ | _ | _ | c
  · exact ⟨0, rfl, by decide, a, rfl, g_L_append_18 (h _ (vr_26 rr) (lF_set f) (fun _ => upd_eq (M' 26) 0 a))⟩
  · exact ⟨12, (show am_hd (am_ex 1) (mt_h mt_L_append) = some 12 by decide +kernel), fun q => g_L_append_12 (h M' rr (lF_of f) (fun z => absurd z (Nat.succ_ne_zero _)))⟩
  · exact ⟨15, (show am_hd (am_ex 2) (mt_h mt_L_append) = some 15 by decide +kernel), fun q => g_L_append_15 (h M' rr (lF_of f) (fun z => absurd z (Nat.succ_ne_zero _)))⟩
  · exact absurd hB (by show ¬ c + 3 ≤ 2; omega)
theorem b_L_load {w : wS} : (m_load w).1 ≤ 2 := by by_cases q : tOK (tcw w) (w_ln w); (rw [m_load_y q]; exact Nat.zero_le _); (rw [m_load_n q]; exact Nat.le_succ 1)
theorem c_L_load {n : Nat} {w : wS} {M : am_M} {K : am_Q} (hr : vr M w) (hk : wk n w) (h : ∀ M', vr M' (m_load w).2.2 → lF M M' → ((m_load w).1 = 0 → M' 26 0 = (m_load w).2.1) → K (.inl (some (.int (nI (m_load w).1)))) M') : am_C mt_L_load [.ref 0, .ref 26] M K := by
  have hB := b_L_load (w := w)
  refine am_C_of_R am_S0 om_L_load rfl [.ref 0, .ref 26, .null] rfl rfl (g_L_load_0 (c_V_load hr hk (fun M' rr f => ?_)))
  generalize m_load w = mm at hB h rr ⊢
  obtain ⟨c, a, w'⟩ := mm
  rcases c with _ | _ | _ | c
  · exact ⟨0, rfl, by decide, a, rfl, g_L_load_17 (h _ (vr_26 rr) (lF_set f) (fun _ => upd_eq (M' 26) 0 a))⟩
  · exact ⟨11, (show am_hd (am_ex 1) (mt_h mt_L_load) = some 11 by decide +kernel), fun q => g_L_load_11 (h M' rr (lF_of f) (fun z => absurd z (Nat.succ_ne_zero _)))⟩
  · exact ⟨14, (show am_hd (am_ex 2) (mt_h mt_L_load) = some 14 by decide +kernel), fun q => g_L_load_14 (h M' rr (lF_of f) (fun z => absurd z (Nat.succ_ne_zero _)))⟩
  · exact absurd hB (by show ¬ c + 3 ≤ 2; omega)
theorem b_L_keep {p : Int32} {w : wS} : (m_keep p w).1 ≤ 1 := by unfold m_keep; (repeat' split) <;> first | exact Nat.zero_le _ | exact Nat.le_refl _ | exact Nat.le_succ _ | exact (by decide : 1 ≤ 3)
theorem c_L_keep {n : Nat} {p : Int32} {w : wS} {M : am_M} {K : am_Q} (hr : vr M w) (hk : wk n w) (h : ∀ M', vr M' (m_keep p w).2.2 → lF M M' → ((m_keep p w).1 = 0 → M' 26 0 = (m_keep p w).2.1) → K (.inl (some (.int (nI (m_keep p w).1)))) M') : am_C mt_L_keep [.ref 0, .int p, .ref 26] M K := by
  have hB := b_L_keep (p := p) (w := w)
  refine am_C_of_R am_S0 om_L_keep rfl [.ref 0, .int p, .ref 26, .null] rfl rfl (g_L_keep_0 (c_V_keep hr (fun M' rr f => ?_)))
  generalize m_keep p w = mm at hB h rr ⊢
  obtain ⟨c, a, w'⟩ := mm
  rcases c with _ | _ | c
  · exact ⟨0, rfl, by decide, a, rfl, g_L_keep_15 (h _ (vr_26 rr) (lF_set f) (fun _ => upd_eq (M' 26) 0 a))⟩
  · exact ⟨12, (show am_hd (am_ex 1) (mt_h mt_L_keep) = some 12 by decide +kernel), fun q => g_L_keep_12 (h M' rr (lF_of f) (fun z => absurd z (Nat.succ_ne_zero _)))⟩
  · exact absurd hB (by show ¬ c + 2 ≤ 1; omega)
theorem b_L_goBack {p : Int32} {w : wS} : (m_back p w).1 ≤ 2 := by unfold m_back; (repeat' split) <;> first | exact Nat.zero_le _ | exact Nat.le_refl _ | exact Nat.le_succ _ | exact (by decide : 1 ≤ 3)
theorem c_L_goBack {n : Nat} {p : Int32} {w : wS} {M : am_M} {K : am_Q} (hr : vr M w) (hk : wk n w) (h : ∀ M', vr M' (m_back p w).2.2 → lF M M' → ((m_back p w).1 = 0 → M' 26 0 = (m_back p w).2.1) → K (.inl (some (.int (nI (m_back p w).1)))) M') : am_C mt_L_goBack [.ref 0, .int p, .ref 26] M K := by
  have hB := b_L_goBack (p := p) (w := w)
  refine am_C_of_R am_S0 om_L_goBack rfl [.ref 0, .int p, .ref 26, .null] rfl rfl (g_L_goBack_0 (c_V_goBack hr (fun M' rr f => ?_)))
  generalize m_back p w = mm at hB h rr ⊢
  obtain ⟨c, a, w'⟩ := mm
  rcases c with _ | _ | _ | c
  · exact ⟨0, rfl, by decide, a, rfl, g_L_goBack_18 (h _ (vr_26 rr) (lF_set f) (fun _ => upd_eq (M' 26) 0 a))⟩
  · exact ⟨12, (show am_hd (am_ex 1) (mt_h mt_L_goBack) = some 12 by decide +kernel), fun q => g_L_goBack_12 (h M' rr (lF_of f) (fun z => absurd z (Nat.succ_ne_zero _)))⟩
  · exact ⟨15, (show am_hd (am_ex 2) (mt_h mt_L_goBack) = some 15 by decide +kernel), fun q => g_L_goBack_15 (h M' rr (lF_of f) (fun z => absurd z (Nat.succ_ne_zero _)))⟩
  · exact absurd hB (by show ¬ c + 3 ≤ 2; omega)
theorem b_L_undo {w : wS} : (m_undo w).1 ≤ 1 := by unfold m_undo; (repeat' split) <;> first | exact Nat.zero_le _ | exact Nat.le_refl _ | exact Nat.le_succ _ | exact (by decide : 1 ≤ 3)
theorem c_L_undo {n : Nat} {w : wS} {M : am_M} {K : am_Q} (hr : vr M w) (hk : wk n w) (h : ∀ M', vr M' (m_undo w).2.2 → lF M M' → ((m_undo w).1 = 0 → M' 26 0 = (m_undo w).2.1) → K (.inl (some (.int (nI (m_undo w).1)))) M') : am_C mt_L_undo [.ref 0, .ref 26] M K := by
  have hB := b_L_undo (w := w)
  refine am_C_of_R am_S0 om_L_undo rfl [.ref 0, .ref 26, .null] rfl rfl (g_L_undo_0 (c_V_undo hr (fun M' rr f => ?_)))
  generalize m_undo w = mm at hB h rr ⊢
  obtain ⟨c, a, w'⟩ := mm
  rcases c with _ | _ | c
  · exact ⟨0, rfl, by decide, a, rfl, g_L_undo_14 (h _ (vr_26 rr) (lF_set f) (fun _ => upd_eq (M' 26) 0 a))⟩
  · exact ⟨11, (show am_hd (am_ex 2) (mt_h mt_L_undo) = some 11 by decide +kernel), fun q => g_L_undo_11 (h M' rr (lF_of f) (fun z => absurd z (Nat.succ_ne_zero _)))⟩
  · exact absurd hB (by show ¬ c + 2 ≤ 1; omega)
theorem b_L_vatOf {p q : Int32} {w : wS} : (m_vatOf p q w).1 ≤ 2 := by unfold m_vatOf; (repeat' split) <;> first | exact Nat.zero_le _ | exact Nat.le_refl _ | exact Nat.le_succ _ | exact (by decide : 1 ≤ 3)
theorem c_L_vatOf {n : Nat} {p q : Int32} {w : wS} {M : am_M} {K : am_Q} (hr : vr M w) (hk : wk n w) (h : ∀ M', vr M' (m_vatOf p q w).2.2 → lF M M' → ((m_vatOf p q w).1 = 0 → M' 26 0 = (m_vatOf p q w).2.1) → K (.inl (some (.int (nI (m_vatOf p q w).1)))) M') : am_C mt_L_vatOf [.ref 0, .int p, .int q, .ref 26] M K := by
  have hB := b_L_vatOf (p := p) (q := q) (w := w)
  refine am_C_of_R am_S0 om_L_vatOf rfl [.ref 0, .int p, .int q, .ref 26, .null] rfl rfl (g_L_vatOf_0 (c_V_vatOf hr (fun M' rr f => ?_)))
  generalize m_vatOf p q w = mm at hB h rr ⊢
  obtain ⟨c, a, w'⟩ := mm
  rcases c with _ | _ | _ | c
  · exact ⟨0, rfl, by decide, a, rfl, g_L_vatOf_21 (h _ (vr_26 rr) (lF_set f) (fun _ => upd_eq (M' 26) 0 a))⟩
  · exact ⟨13, (show am_hd (am_ex 0) (mt_h mt_L_vatOf) = some 13 by decide +kernel), fun q => g_L_vatOf_13 (h M' rr (lF_of f) (fun z => absurd z (Nat.succ_ne_zero _)))⟩
  · exact ⟨17, (show am_hd (am_ex 1) (mt_h mt_L_vatOf) = some 17 by decide +kernel), fun q => g_L_vatOf_17 (h M' rr (lF_of f) (fun z => absurd z (Nat.succ_ne_zero _)))⟩
  · exact absurd hB (by show ¬ c + 3 ≤ 2; omega)
theorem b_L_valveOf {p q : Int32} {w : wS} : (m_valveOf p q w).1 ≤ 2 := by unfold m_valveOf; (repeat' split) <;> first | exact Nat.zero_le _ | exact Nat.le_refl _ | exact Nat.le_succ _ | exact (by decide : 1 ≤ 3)
theorem c_L_valveOf {n : Nat} {p q : Int32} {w : wS} {M : am_M} {K : am_Q} (hr : vr M w) (hk : wk n w) (h : ∀ M', vr M' (m_valveOf p q w).2.2 → lF M M' → ((m_valveOf p q w).1 = 0 → M' 26 0 = (m_valveOf p q w).2.1) → K (.inl (some (.int (nI (m_valveOf p q w).1)))) M') : am_C mt_L_valveOf [.ref 0, .int p, .int q, .ref 26] M K := by
  have hB := b_L_valveOf (p := p) (q := q) (w := w)
  refine am_C_of_R am_S0 om_L_valveOf rfl [.ref 0, .int p, .int q, .ref 26, .null] rfl rfl (g_L_valveOf_0 (c_V_valveOf hr hk (fun M' rr f => ?_)))
  generalize m_valveOf p q w = mm at hB h rr ⊢
  obtain ⟨c, a, w'⟩ := mm
  rcases c with _ | _ | _ | c
  · exact ⟨0, rfl, by decide, a, rfl, g_L_valveOf_21 (h _ (vr_26 rr) (lF_set f) (fun _ => upd_eq (M' 26) 0 a))⟩
  · exact ⟨13, (show am_hd (am_ex 0) (mt_h mt_L_valveOf) = some 13 by decide +kernel), fun q => g_L_valveOf_13 (h M' rr (lF_of f) (fun z => absurd z (Nat.succ_ne_zero _)))⟩
  · exact ⟨17, (show am_hd (am_ex 1) (mt_h mt_L_valveOf) = some 17 by decide +kernel), fun q => g_L_valveOf_17 (h M' rr (lF_of f) (fun z => absurd z (Nat.succ_ne_zero _)))⟩
  · exact absurd hB (by show ¬ c + 3 ≤ 2; omega)
theorem b_L_dyeOf {p q : Int32} {w : wS} : (m_dyeOf p q w).1 ≤ 2 := by unfold m_dyeOf; (repeat' split) <;> first | exact Nat.zero_le _ | exact Nat.le_refl _ | exact Nat.le_succ _ | exact (by decide : 1 ≤ 3)
theorem c_L_dyeOf {n : Nat} {p q : Int32} {w : wS} {M : am_M} {K : am_Q} (hr : vr M w) (hk : wk n w) (h : ∀ M', vr M' (m_dyeOf p q w).2.2 → lF M M' → ((m_dyeOf p q w).1 = 0 → M' 26 0 = (m_dyeOf p q w).2.1) → K (.inl (some (.int (nI (m_dyeOf p q w).1)))) M') : am_C mt_L_dyeOf [.ref 0, .int p, .int q, .ref 26] M K := by
  have hB := b_L_dyeOf (p := p) (q := q) (w := w)
  refine am_C_of_R am_S0 om_L_dyeOf rfl [.ref 0, .int p, .int q, .ref 26, .null] rfl rfl (g_L_dyeOf_0 (c_V_dyeOf hr (fun M' rr f => ?_)))
  generalize m_dyeOf p q w = mm at hB h rr ⊢
  obtain ⟨c, a, w'⟩ := mm
  rcases c with _ | _ | _ | c
  · exact ⟨0, rfl, by decide, a, rfl, g_L_dyeOf_21 (h _ (vr_26 rr) (lF_set f) (fun _ => upd_eq (M' 26) 0 a))⟩
  · exact ⟨13, (show am_hd (am_ex 0) (mt_h mt_L_dyeOf) = some 13 by decide +kernel), fun q => g_L_dyeOf_13 (h M' rr (lF_of f) (fun z => absurd z (Nat.succ_ne_zero _)))⟩
  · exact ⟨17, (show am_hd (am_ex 1) (mt_h mt_L_dyeOf) = some 17 by decide +kernel), fun q => g_L_dyeOf_17 (h M' rr (lF_of f) (fun z => absurd z (Nat.succ_ne_zero _)))⟩
  · exact absurd hB (by show ¬ c + 3 ≤ 2; omega)
theorem b_L_count {p : Int32} {w : wS} : (m_count p w).1 ≤ 1 := by unfold m_count; (repeat' split) <;> first | exact Nat.zero_le _ | exact Nat.le_refl _ | exact Nat.le_succ _ | exact (by decide : 1 ≤ 3)
theorem c_L_count {n : Nat} {p : Int32} {w : wS} {M : am_M} {K : am_Q} (hr : vr M w) (hk : wk n w) (h : ∀ M', vr M' (m_count p w).2.2 → lF M M' → ((m_count p w).1 = 0 → M' 26 0 = (m_count p w).2.1) → K (.inl (some (.int (nI (m_count p w).1)))) M') : am_C mt_L_count [.ref 0, .int p, .ref 26] M K := by
  have hB := b_L_count (p := p) (w := w)
  refine am_C_of_R am_S0 om_L_count rfl [.ref 0, .int p, .ref 26, .null] rfl rfl (g_L_count_0 (c_V_count hr hk (fun M' rr f => ?_)))
  generalize m_count p w = mm at hB h rr ⊢
  obtain ⟨c, a, w'⟩ := mm
  rcases c with _ | _ | c
  · exact ⟨0, rfl, by decide, a, rfl, g_L_count_15 (h _ (vr_26 rr) (lF_set f) (fun _ => upd_eq (M' 26) 0 a))⟩
  · exact ⟨12, (show am_hd (am_ex 1) (mt_h mt_L_count) = some 12 by decide +kernel), fun q => g_L_count_12 (h M' rr (lF_of f) (fun z => absurd z (Nat.succ_ne_zero _)))⟩
  · exact absurd hB (by show ¬ c + 2 ≤ 1; omega)
theorem b_L_ifPassed {p q s : Int32} {w : wS} : (m_ifp p q s w).1 ≤ 2 := by unfold m_ifp; (repeat' split) <;> first | exact Nat.zero_le _ | exact Nat.le_refl _ | exact Nat.le_succ _ | exact (by decide : 1 ≤ 3)
theorem c_L_ifPassed {n : Nat} {p q s : Int32} {w : wS} {M : am_M} {K : am_Q} (hr : vr M w) (hk : wk n w) (h : ∀ M', vr M' (m_ifp p q s w).2.2 → lF M M' → ((m_ifp p q s w).1 = 0 → M' 26 0 = (m_ifp p q s w).2.1) → K (.inl (some (.int (nI (m_ifp p q s w).1)))) M') : am_C mt_L_ifPassed [.ref 0, .int p, .int q, .int s, .ref 26] M K := by
  have hB := b_L_ifPassed (p := p) (q := q) (s := s) (w := w)
  refine am_C_of_R am_S0 om_L_ifPassed rfl [.ref 0, .int p, .int q, .int s, .ref 26, .null] rfl rfl (g_L_ifPassed_0 (c_V_ifPassed hr hk (fun M' rr f => ?_)))
  generalize m_ifp p q s w = mm at hB h rr ⊢
  obtain ⟨c, a, w'⟩ := mm
  rcases c with _ | _ | _ | c
  · exact ⟨0, rfl, by decide, a, rfl, g_L_ifPassed_23 (h _ (vr_26 rr) (lF_set f) (fun _ => upd_eq (M' 26) 0 a))⟩
  · exact ⟨15, (show am_hd (am_ex 0) (mt_h mt_L_ifPassed) = some 15 by decide +kernel), fun q => g_L_ifPassed_15 (h M' rr (lF_of f) (fun z => absurd z (Nat.succ_ne_zero _)))⟩
  · exact ⟨19, (show am_hd (am_ex 1) (mt_h mt_L_ifPassed) = some 19 by decide +kernel), fun q => g_L_ifPassed_19 (h M' rr (lF_of f) (fun z => absurd z (Nat.succ_ne_zero _)))⟩
  · exact absurd hB (by show ¬ c + 3 ≤ 2; omega)
theorem b_L_emptyIn {p : Int32} {w : wS} : (m_emp p w).1 ≤ 1 := by unfold m_emp; (repeat' split) <;> first | exact Nat.zero_le _ | exact Nat.le_refl _ | exact Nat.le_succ _ | exact (by decide : 1 ≤ 3)
theorem c_L_emptyIn {n : Nat} {p : Int32} {w : wS} {M : am_M} {K : am_Q} (hr : vr M w) (hk : wk n w) (h : ∀ M', vr M' (m_emp p w).2.2 → lF M M' → ((m_emp p w).1 = 0 → M' 26 0 = (m_emp p w).2.1) → K (.inl (some (.int (nI (m_emp p w).1)))) M') : am_C mt_L_emptyIn [.ref 0, .int p, .ref 26] M K := by
  have hB := b_L_emptyIn (p := p) (w := w)
  refine am_C_of_R am_S0 om_L_emptyIn rfl [.ref 0, .int p, .ref 26, .null] rfl rfl (g_L_emptyIn_0 (c_V_emptyIn hr hk (fun M' rr f => ?_)))
  generalize m_emp p w = mm at hB h rr ⊢
  obtain ⟨c, a, w'⟩ := mm
  rcases c with _ | _ | c
  · exact ⟨0, rfl, by decide, a, rfl, g_L_emptyIn_15 (h _ (vr_26 rr) (lF_set f) (fun _ => upd_eq (M' 26) 0 a))⟩
  · exact ⟨12, (show am_hd (am_ex 0) (mt_h mt_L_emptyIn) = some 12 by decide +kernel), fun q => g_L_emptyIn_12 (h M' rr (lF_of f) (fun z => absurd z (Nat.succ_ne_zero _)))⟩
  · exact absurd hB (by show ¬ c + 2 ≤ 1; omega)
theorem b_L_round {p : Int32} {w : wS} : (m_round p w).1 ≤ 1 := by unfold m_round; (repeat' split) <;> first | exact Nat.zero_le _ | exact Nat.le_refl _ | exact Nat.le_succ _ | exact (by decide : 1 ≤ 3)
theorem c_L_round {n : Nat} {p : Int32} {w : wS} {M : am_M} {K : am_Q} (hr : vr M w) (hk : wk n w) (h : ∀ M', vr M' (m_round p w).2.2 → lF M M' → ((m_round p w).1 = 0 → M' 26 0 = (m_round p w).2.1) → K (.inl (some (.int (nI (m_round p w).1)))) M') : am_C mt_L_round [.ref 0, .int p, .ref 26] M K := by
  have hB := b_L_round (p := p) (w := w)
  refine am_C_of_R am_S0 om_L_round rfl [.ref 0, .int p, .ref 26, .null] rfl rfl (g_L_round_0 (c_V_round hr hk (fun M' rr f => ?_)))
  generalize m_round p w = mm at hB h rr ⊢
  obtain ⟨c, a, w'⟩ := mm
  rcases c with _ | _ | c
  · exact ⟨0, rfl, by decide, a, rfl, g_L_round_15 (h _ (vr_26 rr) (lF_set f) (fun _ => upd_eq (M' 26) 0 a))⟩
  · exact ⟨12, (show am_hd (am_ex 1) (mt_h mt_L_round) = some 12 by decide +kernel), fun q => g_L_round_12 (h M' rr (lF_of f) (fun z => absurd z (Nat.succ_ne_zero _)))⟩
  · exact absurd hB (by show ¬ c + 2 ≤ 1; omega)
