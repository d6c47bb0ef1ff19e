/-! calls: dye, capacity, set -/
def m_dye (p d q : Int32) (w : wS) : mS :=
  if isv p ∧ isd d then (if isr q 1 999 then (if nI 99999 < w_z w (11 + zn d) + q then (3, nI 0, w) else if w_z w (18 + 8 * zn p) = 0 then (0, -nI 1, w_setz (w_rec w) (zadd (w_z w) 4 (nI 1))) else (0, w_z w (19 + 8 * zn p + zn d) + q, w_setz (w_rec w) (zadd (zadd (w_z w) (19 + 8 * zn p + zn d) q) (11 + zn d) q))) else (2, nI 0, w)) else (1, nI 0, w)
theorem c_V_dye {p d q : Int32} {w : wS} {M : am_M} {K : am_Q} (hr : vr M w) (h : ∀ M', vr M' (m_dye p d q w).2.2 → vf M M' → K (oV 0 (m_dye p d q w).1 (m_dye p d q w).2.1) M') : am_C mt_V_dye [.ref 0, .int p, .int d, .int q] M K := by
  unfold m_dye at h
  refine am_C_of_R am_S0 om_V_dye rfl [.ref 0, .int p, .int d, .int q, .null] rfl rfl (g_V_dye_0 (c_V_requireVat (fun hv => c_V_requireDye (fun hd => c_V_requireRange (fun hq => ?_) (fun hq => ?_)) (fun hd => ?_)) (fun hv => ?_)))
  · have hq' : isr q 1 999 := hq
    rw [if_pos ⟨hv, hd⟩, if_pos hq'] at h
    obtain ⟨v, -, hv4, rfl⟩ := isr_nat (a := 0) (b := 4) hv (by decide) (by decide)
    obtain ⟨e, -, hd2, rfl⟩ := isr_nat (a := 0) (b := 2) hd (by decide) (by decide)
    rw [zn_nI (show v < 2 ^ 31 by omega), zn_nI (show e < 2 ^ 31 by omega)] at h
    have ei : M 2 (45 + e) = w_z w (11 + e) := by rw [hr.1]; unfold zp; rw [pz_i (by omega)]
    refine ⟨45 + e, ix2 45 e, by show _ < 105; omega, fun c => ?_, fun c => ?_⟩
    · have c2 : ¬ nI 99999 < w_z w (11 + e) + q := by rw [← ei]; exact Int32.not_lt.mpr c
      rw [if_neg c2] at h
      refine g_V_dye_45 (c_V_saveState hr (fun M' r1 r2 r3 _ => ?_))
      have ez : M' 2 = zp (w_z w) := r1.1
      have ew : M' 2 (10 + v) = w_z w (18 + 8 * v) := by rw [ez]; unfold zp; rw [pz_w (by omega)]
      have eg : M' 2 (15 + v * 3 + e) = w_z w (19 + 8 * v + e) := by rw [ez]; unfold zp; rw [pz_d (by omega) (by omega)]
      refine ⟨10 + v, ix2 10 v, by show _ < 105; omega, fun c3 => ?_, fun c3 => ?_⟩
      · have c4 : ¬ w_z w (18 + 8 * v) = 0 := by rw [← ew]; exact c3
        rw [if_neg c4] at h
        refine g_V_dye_69 ⟨15 + v * 3 + e, ix4' 15 3 v e, by show _ < 105; omega, 15 + v * 3 + e, ix4' 15 3 v e, by show _ < 105; omega, 45 + e, ix2 45 e, by show _ < 105; omega, 45 + e, ix2 45 e, by show _ < 105; omega, 15 + v * 3 + e, ix4' 15 3 v e, by show _ < 105; omega, ?_⟩
        simp only [am_set_set]
        have e1 : upd (upd (M' 2) (15 + v * 3 + e) (M' 2 (15 + v * 3 + e) + q)) (45 + e) (upd (M' 2) (15 + v * 3 + e) (M' 2 (15 + v * 3 + e) + q) (45 + e) + q) = zp (zadd (zadd (w_z w) (19 + 8 * v + e) q) (11 + e) q) := by
          rw [ez, zp_add, zp_add, pz_d (by omega) (by omega), pz_i (by omega)]
        have e2 : upd (upd (M' 2) (15 + v * 3 + e) (M' 2 (15 + v * 3 + e) + q)) (45 + e) (upd (M' 2) (15 + v * 3 + e) (M' 2 (15 + v * 3 + e) + q) (45 + e) + q) (15 + v * 3 + e) = w_z w (19 + 8 * v + e) + q := by
          rw [upd_ne _ _ (by omega), upd_eq, eg]
        rw [← e2] at h
        refine h _ ?_ (vf_set r2 (by decide))
        show vr (am_set M' 2 (upd (upd (M' 2) (15 + v * 3 + e) (M' 2 (15 + v * 3 + e) + q)) (45 + e) (upd (M' 2) (15 + v * 3 + e) (M' 2 (15 + v * 3 + e) + q) (45 + e) + q))) _
        rw [e1]
        exact vr_setz r1
      · have c4 : w_z w (18 + 8 * v) = 0 := by rw [← ew]; exact Classical.not_not.mp c3
        rw [if_pos c4] at h
        exact c_V_refuse r1 (fun M2 s1 s2 => h M2 s1 (vf_trans r2 s2))
    · have c2 : nI 99999 < w_z w (11 + e) + q := by rw [← ei]; exact Int32.not_le.mp c
      rw [if_pos c2] at h
      exact h M hr (vf_refl M)
  · have hq' : ¬ isr q 1 999 := hq
    rw [if_pos ⟨hv, hd⟩, if_neg hq'] at h
    exact h M hr (vf_refl M)
  · rw [if_neg (fun q => hd q.2)] at h
    exact h M hr (vf_refl M)
  · rw [if_neg (fun q => hv q.1)] at h
    exact h M hr (vf_refl M)
def m_cap (p q : Int32) (w : wS) : mS :=
  if isv p then (if isr q 1 2000 then (if q < w_z w (18 + 8 * zn p) then (0, -nI 1, w_setz (w_rec w) (zadd (w_z w) 4 (nI 1))) else (0, w_z w (17 + 8 * zn p), w_setz (w_rec w) (upd (w_z w) (17 + 8 * zn p) q))) else (2, nI 0, w)) else (1, nI 0, w)
theorem c_V_capacity {p q : Int32} {w : wS} {M : am_M} {K : am_Q} (hr : vr M w) (h : ∀ M', vr M' (m_cap p q w).2.2 → vf M M' → K (oV 0 (m_cap p q w).1 (m_cap p q w).2.1) M') : am_C mt_V_capacity [.ref 0, .int p, .int q] M K := by
  unfold m_cap at h
  refine am_C_of_R am_S0 om_V_capacity rfl [.ref 0, .int p, .int q, .null] rfl rfl (g_V_capacity_0 (c_V_requireVat (fun hv => c_V_requireRange (fun hq => ?_) (fun hq => ?_)) (fun hv => ?_)))
  · have hq' : isr q 1 2000 := hq
    rw [if_pos hv, if_pos hq'] at h
    obtain ⟨v, -, hv4, rfl⟩ := isr_nat (a := 0) (b := 4) hv (by decide) (by decide)
    rw [zn_nI (by omega)] at h
    refine c_V_saveState hr (fun M' r1 r2 r3 _ => ?_)
    have ez : M' 2 = zp (w_z w) := r1.1
    have ec : M' 2 (0 + v) = w_z w (17 + 8 * v) := by rw [ez, Nat.zero_add]; unfold zp; rw [pz_c (by omega)]
    have ew : M' 2 (10 + v) = w_z w (18 + 8 * v) := by rw [ez]; unfold zp; rw [pz_w (by omega)]
    refine ⟨10 + v, ix2 10 v, by show _ < 105; omega, fun c => ?_, fun c => ?_⟩
    · have c5 : ¬ q < w_z w (18 + 8 * v) := by rw [← ew]; exact Int32.not_lt.mpr c
      rw [if_neg c5] at h
      refine g_V_capacity_37 ⟨0 + v, ix2 0 v, by show _ < 105; omega, 0 + v, ix2 0 v, by show _ < 105; omega, ?_⟩
      have e1 : upd (M' 2) (0 + v) q = zp (upd (w_z w) (17 + 8 * v) q) := by rw [ez, zp_upd, Nat.zero_add, pz_c (by omega)]
      rw [← ec] at h
      refine h _ ?_ (vf_set r2 (by decide))
      show vr (am_set M' 2 (upd (M' 2) (0 + v) q)) _
      rw [e1]
      exact vr_setz r1
    · have c5 : q < w_z w (18 + 8 * v) := by rw [← ew]; exact Int32.not_le.mp c
      rw [if_pos c5] at h
      exact c_V_refuse r1 (fun M2 s1 s2 => h M2 s1 (vf_trans r2 s2))
  · have hq' : ¬ isr q 1 2000 := hq
    rw [if_pos hv, if_neg hq'] at h
    exact h M hr (vf_refl M)
  · rw [if_neg hv] at h
    exact h M hr (vf_refl M)
def m_set (p : Int32) (w : wS) : mS :=
  if isr p 0 200 then (0, w_z w 1, w_setz (w_rec w) (upd (w_z w) 1 p)) else (1, nI 0, w)
theorem c_V_set {p : Int32} {w : wS} {M : am_M} {K : am_Q} (hr : vr M w) (h : ∀ M', vr M' (m_set p w).2.2 → vf M M' → K (oV 1 (m_set p w).1 (m_set p w).2.1) M') : am_C mt_V_set [.ref 0, .int p] M K := by
  unfold m_set at h
  refine am_C_of_R am_S0 om_V_set rfl [.ref 0, .int p, .null] rfl rfl (g_V_set_0 (c_V_requireRange (fun hq => ?_) (fun hq => ?_)))
  · have hq' : isr p 0 200 := hq
    rw [if_pos hq'] at h
    refine c_V_saveState hr (fun M' r1 r2 r3 _ => ?_)
    have ez : M' 2 = zp (w_z w) := r1.1
    have es : M' 2 51 = w_z w 1 := by rw [ez]; rfl
    refine ⟨51, rfl, by decide, 51, rfl, by decide, ?_⟩
    have e1 : upd (M' 2) 51 p = zp (upd (w_z w) 1 p) := by rw [ez]; exact zp_upd _ 51 p
    rw [← es] at h
    refine h _ ?_ (vf_set r2 (by decide))
    show vr (am_set M' 2 (upd (M' 2) 51 p)) _
    rw [e1]
    exact vr_setz r1
  · have hq' : ¬ isr p 0 200 := hq
    rw [if_neg hq'] at h
    exact h M hr (vf_refl M)
