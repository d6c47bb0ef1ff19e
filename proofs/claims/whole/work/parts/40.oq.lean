/-! calls: dye, capacity, set -/
def m_dye (p d q : Int32) (w : wS) : mS :=
  if isv p ∧ isd d then (if isr q 1 999 then (if nI 99999 < w_z w (11 + zn d) + q then (3, nI 0, w) else if w_z w (18 + 8 * zn p) = 0 then (0, -nI 1, w_setz (w_rec w) (zadd (w_z w) 4 (nI 1))) else (0, w_z w (19 + 8 * zn p + zn d) + q, w_setz (w_rec w) (zadd (zadd (w_z w) (19 + 8 * zn p + zn d) q) (11 + zn d) q))) else (2, nI 0, w)) else (1, nI 0, w)
theorem c_Z_dye {p d q : Int32} {w : wS} {M : am_M} {K : am_Q} (hr : zr M w) (h : ∀ M', zr M' (m_dye p d q w).2.2 → zf M M' → M' 17 0 = nI (m_dye p d q w).1 → K (.inl (some (.int (m_dye p d q w).2.1))) M') : am_C mt_Z_dye [.ref 17, .int p, .int d, .int q] M K := by
  have bad : ∀ t, 1 ≤ t → t ≤ 3 → m_dye p d q w = (t, nI 0, w) → am_R am_S0 mt_Z_dye 1 55 [.ref 17, .int p, .int d, .int q] [.int (nI t), .ref 17] M K := by
    intro t ht1 ht e
    rw [e] at h
    refine g_Z_dye_55 ⟨fun c => absurd c ?_, fun c => h _ (zr_17 hr (by decide) (by decide)) (zf_set (zf_refl M) (by decide)) ?_⟩
    · show ¬ upd (M 17) 0 (nI t) 0 ≤ nI 0
      rw [upd_eq]
      exact i_nge (by omega) (by omega)
    · show upd (M 17) 0 (nI t) 0 = _
      rw [upd_eq]
  refine am_C_of_R am_S0 om_Z_dye rfl [.ref 17, .int p, .int d, .int q] rfl rfl (g_Z_dye_0 (c_Z_isVat ⟨fun c => ?_, fun c => c_Z_isDye ⟨fun c2 => ?_, fun c2 => ?_⟩⟩))
  · have hv : ¬ isv p := ib_n c
    exact g_Z_dye_15 (bad 1 (by decide) (by decide) (by unfold m_dye; rw [if_neg (fun q => hv q.1)]))
  · have hv : isv p := ib_y c
    have hd : isd d := Classical.not_not.mp fun z => c2 (ib_eq0.mpr z)
    refine g_Z_dye_19 (c_Z_in ⟨fun c3 => ?_, fun c3 => ?_⟩)
    · have hq : isr q 1 999 := Classical.not_not.mp fun z => c3 (ib_eq0.mpr z)
      obtain ⟨v, -, hv4, rfl⟩ := isr_nat (a := 0) (b := 4) hv (by decide) (by decide)
      obtain ⟨e, -, hd2, rfl⟩ := isr_nat (a := 0) (b := 2) hd (by decide) (by decide)
      have ezn : zn (nI v) = v := zn_nI (by omega)
      have ezd : zn (nI e) = e := zn_nI (by omega)
      have ez : M 18 = w_z w := hr.1
      refine g_Z_dye_34 ⟨11 + e, ix2 11 e, by show _ < 105; omega, fun c4 => ?_, fun c4 => ?_⟩
      · have hq4 : ¬ nI 99999 < w_z w (11 + e) + q := by rw [← ez]; exact Int32.not_lt.mpr c4
        unfold m_dye at h
        rw [if_pos ⟨hv, hd⟩, if_pos hq, ezn, ezd, if_neg hq4] at h
        refine g_Z_dye_54 (g_Z_dye_55 ⟨fun c5 => g_Z_dye_67 ?_, fun c5 => absurd (show upd (M 17) 0 (nI 0) 0 ≤ nI 0 by rw [upd_eq]; decide +kernel) c5⟩)
        refine c_Z_record (zr_17 hr (by decide) (by decide)) (fun M' r1 r2 r3 => ?_)
        have f1 : zf M M' := zf_trans (zf_set (zf_refl M) (by decide)) r2
        have f2 : M' 17 0 = nI 0 := by rw [r3 0 (by decide)]; exact upd_eq (M 17) 0 (nI 0)
        have f3 : M' 18 = w_z w := r1.1
        have e1 : 17 + 8 * v + 1 = 18 + 8 * v := by omega
        have e2 : 17 + 8 * v + (2 + e) = 19 + 8 * v + e := by omega
        rw [← f3] at h
        have eg : nI 2 + nI e = nI (2 + e) := ix2 2 e
        refine c_Z_of (v := v) (w := 1) (by omega) ⟨fun c6 => ?_, fun c6 => ?_⟩
        · have c7 : ¬ M' 18 (18 + 8 * v) = 0 := by rw [← e1]; exact c6
          rw [if_neg c7] at h
          refine g_Z_dye_92 ?_
          show am_C mt_Z_add [.ref 17, .int (nI v), .int (nI 2 + nI e), .int q] _ _
          rw [eg]
          refine c_Z_add (v := v) (w := 2 + e) (by omega) ⟨11 + e, ix2 11 e, by show _ < 105; omega, 11 + e, ix2 11 e, by show _ < 105; omega, ?_⟩
          show am_C mt_Z_of [.ref 17, .int (nI v), .int (nI 2 + nI e)] _ _
          rw [eg]
          refine c_Z_of (v := v) (w := 2 + e) (by omega) ?_
          show K (.inl (some (.int (zadd (zadd (M' 18) (17 + 8 * v + (2 + e)) q) (11 + e) q (17 + 8 * v + (2 + e)))))) (am_set (am_set M' 18 (zadd (M' 18) (17 + 8 * v + (2 + e)) q)) 18 (zadd (zadd (M' 18) (17 + 8 * v + (2 + e)) q) (11 + e) q))
          rw [am_set_set, e2, zadd_ne _ _ (by omega), zadd_eq]
          exact h _ (zr_setz r1) (zf_set f1 (by decide)) f2
        · have c7 : M' 18 (18 + 8 * v) = 0 := by rw [← e1]; exact Classical.not_not.mp c6
          rw [if_pos c7] at h
          exact ⟨4, rfl, by decide, 4, rfl, by decide, h _ (zr_setz r1) (zf_set f1 (by decide)) f2⟩
      · have hq4 : nI 99999 < w_z w (11 + e) + q := by rw [← ez]; exact Int32.not_le.mp c4
        exact bad 3 (by decide) (by decide) (by unfold m_dye; rw [if_pos ⟨hv, hd⟩, if_pos hq, ezd, if_pos hq4])
    · have hq : ¬ isr q 1 999 := ib_eq0.mp (Classical.not_not.mp c3)
      exact bad 2 (by decide) (by decide) (by unfold m_dye; rw [if_pos ⟨hv, hd⟩, if_neg hq])
  · have hd : ¬ isd d := ib_eq0.mp (Classical.not_not.mp c2)
    exact g_Z_dye_15 (bad 1 (by decide) (by decide) (by unfold m_dye; rw [if_neg (fun q => hd q.2)]))
theorem c_V_dye {p d q : Int32} {w : wS} {M : am_M} {K : am_Q} (hr : vr M w) (h : ∀ M', vr M' (m_dye p d q w).2.2 → vf M M' → K (oV 0 (m_dye p d q w).1 (m_dye p d q w).2.1) M') : am_C mt_V_dye [.ref 0, .int p, .int d, .int q] M K := by
  unfold m_dye at h
  refine am_C_of_R am_S0 om_V_dye rfl [.ref 0, .int p, .int d, .int q, .null] rfl rfl (g_V_dye_0 (c_V_requireVat (fun hv => c_V_requireDye (fun hd => c_V_requireRange (fun hq => ?_) (fun hq => ?_)) (fun hd => ?_)) (fun hv => ?_)))
  · have hq' : isr q 1 999 := hq
    rw [if_pos ⟨hv, hd⟩, if_pos hq'] at h
    obtain ⟨v, -, hv4, rfl⟩ := isr_nat (a := 0) (b := 4) hv (by decide) (by decide)
    obtain ⟨e, -, hd2, rfl⟩ := isr_nat (a := 0) (b := 2) hd (by decide) (by decide)
    rw [zn_nI (show v < 2 ^ 31 by omega), zn_nI (show e < 2 ^ 31 by omega)] at h
    have ei : M 2 (45 + e) = w_z w (11 + e) := by rw [hr.1]; unfold zp; rw [pz_i (by omega)]
    refine ⟨45 + e, ix2 45 e, by show _ < 105; omega, fun c => ?_, fun c => ?_⟩
    · have c2 : ¬ nI 99999 < w_z w (11 + e) + q := by rw [← ei]; exact Int32.not_lt.mpr c
      rw [if_neg c2] at h
      refine g_V_dye_45 (c_V_saveState hr (fun M' r1 r2 r3 _ => ?_))
      have ez : M' 2 = zp (w_z w) := r1.1
      have ew : M' 2 (10 + v) = w_z w (18 + 8 * v) := by rw [ez]; unfold zp; rw [pz_w (by omega)]
      have eg : M' 2 (15 + v * 3 + e) = w_z w (19 + 8 * v + e) := by rw [ez]; unfold zp; rw [pz_d (by omega) (by omega)]
      refine ⟨10 + v, ix2 10 v, by show _ < 105; omega, fun c3 => ?_, fun c3 => ?_⟩
      · have c4 : ¬ w_z w (18 + 8 * v) = 0 := by rw [← ew]; exact c3
        rw [if_neg c4] at h
        refine g_V_dye_69 ⟨15 + v * 3 + e, ix4' 15 3 v e, by show _ < 105; omega, 15 + v * 3 + e, ix4' 15 3 v e, by show _ < 105; omega, 45 + e, ix2 45 e, by show _ < 105; omega, 45 + e, ix2 45 e, by show _ < 105; omega, 15 + v * 3 + e, ix4' 15 3 v e, by show _ < 105; omega, ?_⟩
        simp only [am_set_set]
        have e1 : upd (upd (M' 2) (15 + v * 3 + e) (M' 2 (15 + v * 3 + e) + q)) (45 + e) (upd (M' 2) (15 + v * 3 + e) (M' 2 (15 + v * 3 + e) + q) (45 + e) + q) = zp (zadd (zadd (w_z w) (19 + 8 * v + e) q) (11 + e) q) := by
          rw [ez, zp_add, zp_add, pz_d (by omega) (by omega), pz_i (by omega)]
        have e2 : upd (upd (M' 2) (15 + v * 3 + e) (M' 2 (15 + v * 3 + e) + q)) (45 + e) (upd (M' 2) (15 + v * 3 + e) (M' 2 (15 + v * 3 + e) + q) (45 + e) + q) (15 + v * 3 + e) = w_z w (19 + 8 * v + e) + q := by
          rw [upd_ne _ _ (by omega), upd_eq, eg]
        rw [← e2] at h
        refine h _ ?_ (vf_set r2 (by decide))
        show vr (am_set M' 2 (upd (upd (M' 2) (15 + v * 3 + e) (M' 2 (15 + v * 3 + e) + q)) (45 + e) (upd (M' 2) (15 + v * 3 + e) (M' 2 (15 + v * 3 + e) + q) (45 + e) + q))) _
        rw [e1]
        exact vr_setz r1
      · have c4 : w_z w (18 + 8 * v) = 0 := by rw [← ew]; exact Classical.not_not.mp c3
        rw [if_pos c4] at h
        exact c_V_refuse r1 (fun M2 s1 s2 => h M2 s1 (vf_trans r2 s2))
    · have c2 : nI 99999 < w_z w (11 + e) + q := by rw [← ei]; exact Int32.not_le.mp c
      rw [if_pos c2] at h
      exact h M hr (vf_refl M)
  · have hq' : ¬ isr q 1 999 := hq
    rw [if_pos ⟨hv, hd⟩, if_neg hq'] at h
    exact h M hr (vf_refl M)
  · rw [if_neg (fun q => hd q.2)] at h
    exact h M hr (vf_refl M)
  · rw [if_neg (fun q => hv q.1)] at h
    exact h M hr (vf_refl M)
def m_cap (p q : Int32) (w : wS) : mS :=
  if isv p then (if isr q 1 2000 then (if q < w_z w (18 + 8 * zn p) then (0, -nI 1, w_setz (w_rec w) (zadd (w_z w) 4 (nI 1))) else (0, w_z w (17 + 8 * zn p), w_setz (w_rec w) (upd (w_z w) (17 + 8 * zn p) q))) else (2, nI 0, w)) else (1, nI 0, w)
theorem c_Z_capacity {p q : Int32} {w : wS} {M : am_M} {K : am_Q} (hr : zr M w) (h : ∀ M', zr M' (m_cap p q w).2.2 → zf M M' → M' 17 0 = nI (m_cap p q w).1 → K (.inl (some (.int (m_cap p q w).2.1))) M') : am_C mt_Z_capacity [.ref 17, .int p, .int q] M K := by
  have bad : ∀ t, 1 ≤ t → t ≤ 3 → m_cap p q w = (t, nI 0, w) → am_R am_S0 mt_Z_capacity 1 28 [.ref 17, .int p, .int q, .null] [.int (nI t), .ref 17] M K := by
    intro t ht1 ht e
    rw [e] at h
    refine g_Z_capacity_28 ⟨fun c => absurd c ?_, fun c => h _ (zr_17 hr (by decide) (by decide)) (zf_set (zf_refl M) (by decide)) ?_⟩
    · show ¬ upd (M 17) 0 (nI t) 0 ≤ nI 0
      rw [upd_eq]
      exact i_nge (by omega) (by omega)
    · show upd (M 17) 0 (nI t) 0 = _
      rw [upd_eq]
  refine am_C_of_R am_S0 om_Z_capacity rfl [.ref 17, .int p, .int q, .null] rfl rfl (g_Z_capacity_0 (c_Z_isVat ⟨fun c => ?_, fun c => ?_⟩))
  · have hv : isv p := ib_y c
    refine g_Z_capacity_12 (c_Z_in ⟨fun c2 => ?_, fun c2 => ?_⟩)
    · have hq : ¬ isr q 1 2000 := ib_n c2
      exact g_Z_capacity_27 (bad 2 (by decide) (by decide) (by unfold m_cap; rw [if_pos hv, if_neg hq]))
    · have hq : isr q 1 2000 := ib_y c2
      obtain ⟨v, -, hv4, rfl⟩ := isr_nat (a := 0) (b := 4) hv (by decide) (by decide)
      have ezn : zn (nI v) = v := zn_nI (by omega)
      unfold m_cap at h
      rw [if_pos hv, if_pos hq, ezn] at h
      have e1 : 17 + 8 * v + 1 = 18 + 8 * v := by omega
      refine g_Z_capacity_28 ⟨fun c3 => g_Z_capacity_40 ?_, fun c3 => absurd (show upd (M 17) 0 (nI 0) 0 ≤ nI 0 by rw [upd_eq]; decide +kernel) c3⟩
      refine c_Z_record (zr_17 hr (by decide) (by decide)) (fun M' r1 r2 r3 => ?_)
      have f1 : zf M M' := zf_trans (zf_set (zf_refl M) (by decide)) r2
      have f2 : M' 17 0 = nI 0 := by rw [r3 0 (by decide)]; exact upd_eq (M 17) 0 (nI 0)
      have f3 : M' 18 = w_z w := r1.1
      rw [← f3] at h
      refine c_Z_of (v := v) (w := 1) (by omega) ⟨fun c4 => ?_, fun c4 => ?_⟩
      · have c5 : ¬ q < M' 18 (18 + 8 * v) := by rw [← e1]; exact Int32.not_lt.mpr c4
        rw [if_neg c5] at h
        refine g_Z_capacity_66 (c_Z_of (v := v) (w := 0) (by omega) (c_Z_setVat (v := v) (w := 0) (by omega) ?_))
        exact h _ (zr_setz r1) (zf_set f1 (by decide)) f2
      · have c5 : q < M' 18 (18 + 8 * v) := by rw [← e1]; exact Int32.not_le.mp c4
        rw [if_pos c5] at h
        exact ⟨4, rfl, by decide, 4, rfl, by decide, h _ (zr_setz r1) (zf_set f1 (by decide)) f2⟩
  · exact bad 1 (by decide) (by decide) (by unfold m_cap; rw [if_neg (ib_nn c)])
theorem c_V_capacity {p q : Int32} {w : wS} {M : am_M} {K : am_Q} (hr : vr M w) (h : ∀ M', vr M' (m_cap p q w).2.2 → vf M M' → K (oV 0 (m_cap p q w).1 (m_cap p q w).2.1) M') : am_C mt_V_capacity [.ref 0, .int p, .int q] M K := by
  unfold m_cap at h
  refine am_C_of_R am_S0 om_V_capacity rfl [.ref 0, .int p, .int q, .null] rfl rfl (g_V_capacity_0 (c_V_requireVat (fun hv => c_V_requireRange (fun hq => ?_) (fun hq => ?_)) (fun hv => ?_)))
  · have hq' : isr q 1 2000 := hq
    rw [if_pos hv, if_pos hq'] at h
    obtain ⟨v, -, hv4, rfl⟩ := isr_nat (a := 0) (b := 4) hv (by decide) (by decide)
    rw [zn_nI (by omega)] at h
    refine c_V_saveState hr (fun M' r1 r2 r3 _ => ?_)
    have ez : M' 2 = zp (w_z w) := r1.1
    have ec : M' 2 (0 + v) = w_z w (17 + 8 * v) := by rw [ez, Nat.zero_add]; unfold zp; rw [pz_c (by omega)]
    have ew : M' 2 (10 + v) = w_z w (18 + 8 * v) := by rw [ez]; unfold zp; rw [pz_w (by omega)]
    refine ⟨10 + v, ix2 10 v, by show _ < 105; omega, fun c => ?_, fun c => ?_⟩
    · have c5 : ¬ q < w_z w (18 + 8 * v) := by rw [← ew]; exact Int32.not_lt.mpr c
      rw [if_neg c5] at h
      refine g_V_capacity_37 ⟨0 + v, ix2 0 v, by show _ < 105; omega, 0 + v, ix2 0 v, by show _ < 105; omega, ?_⟩
      have e1 : upd (M' 2) (0 + v) q = zp (upd (w_z w) (17 + 8 * v) q) := by rw [ez, zp_upd, Nat.zero_add, pz_c (by omega)]
      rw [← ec] at h
      refine h _ ?_ (vf_set r2 (by decide))
      show vr (am_set M' 2 (upd (M' 2) (0 + v) q)) _
      rw [e1]
      exact vr_setz r1
    · have c5 : q < w_z w (18 + 8 * v) := by rw [← ew]; exact Int32.not_le.mp c
      rw [if_pos c5] at h
      exact c_V_refuse r1 (fun M2 s1 s2 => h M2 s1 (vf_trans r2 s2))
  · have hq' : ¬ isr q 1 2000 := hq
    rw [if_pos hv, if_neg hq'] at h
    exact h M hr (vf_refl M)
  · rw [if_neg hv] at h
    exact h M hr (vf_refl M)
def m_set (p : Int32) (w : wS) : mS :=
  if isr p 0 200 then (0, w_z w 1, w_setz (w_rec w) (upd (w_z w) 1 p)) else (1, nI 0, w)
theorem c_Z_set {p : Int32} {w : wS} {M : am_M} {K : am_Q} (hr : zr M w) (h : ∀ M', zr M' (m_set p w).2.2 → zf M M' → M' 17 0 = nI (m_set p w).1 → K (.inl (some (.int (m_set p w).2.1))) M') : am_C mt_Z_set [.ref 17, .int p] M K := by
  refine am_C_of_R am_S0 om_Z_set rfl [.ref 17, .int p, .null] rfl rfl (g_Z_set_0 (c_Z_in ⟨fun c => ?_, fun c => ?_⟩))
  · have hq : ¬ isr p 0 200 := ib_n c
    unfold m_set at h
    rw [if_neg hq] at h
    refine g_Z_set_16 (g_Z_set_17 ⟨fun c => absurd c ?_, fun c => h _ (zr_17 hr (by decide) (by decide)) (zf_set (zf_refl M) (by decide)) ?_⟩)
    · show ¬ upd (M 17) 0 (nI 1) 0 ≤ nI 0
      rw [upd_eq]
      decide +kernel
    · show upd (M 17) 0 (nI 1) 0 = _
      rw [upd_eq]
  · have hq : isr p 0 200 := ib_y c
    unfold m_set at h
    rw [if_pos hq] at h
    refine g_Z_set_17 ⟨fun c3 => g_Z_set_29 ?_, fun c3 => absurd (show upd (M 17) 0 (nI 0) 0 ≤ nI 0 by rw [upd_eq]; decide +kernel) c3⟩
    refine c_Z_record (zr_17 hr (by decide) (by decide)) (fun M' r1 r2 r3 => ?_)
    have f1 : zf M M' := zf_trans (zf_set (zf_refl M) (by decide)) r2
    have f2 : M' 17 0 = nI 0 := by rw [r3 0 (by decide)]; exact upd_eq (M 17) 0 (nI 0)
    have f3 : M' 18 = w_z w := r1.1
    rw [← f3] at h
    exact ⟨1, rfl, by decide, 1, rfl, by decide, h _ (zr_setz r1) (zf_set f1 (by decide)) f2⟩
theorem c_V_set {p : Int32} {w : wS} {M : am_M} {K : am_Q} (hr : vr M w) (h : ∀ M', vr M' (m_set p w).2.2 → vf M M' → K (oV 1 (m_set p w).1 (m_set p w).2.1) M') : am_C mt_V_set [.ref 0, .int p] M K := by
  unfold m_set at h
  refine am_C_of_R am_S0 om_V_set rfl [.ref 0, .int p, .null] rfl rfl (g_V_set_0 (c_V_requireRange (fun hq => ?_) (fun hq => ?_)))
  · have hq' : isr p 0 200 := hq
    rw [if_pos hq'] at h
    refine c_V_saveState hr (fun M' r1 r2 r3 _ => ?_)
    have ez : M' 2 = zp (w_z w) := r1.1
    have es : M' 2 51 = w_z w 1 := by rw [ez]; rfl
    refine ⟨51, rfl, by decide, 51, rfl, by decide, ?_⟩
    have e1 : upd (M' 2) 51 p = zp (upd (w_z w) 1 p) := by rw [ez]; exact zp_upd _ 51 p
    rw [← es] at h
    refine h _ ?_ (vf_set r2 (by decide))
    show vr (am_set M' 2 (upd (M' 2) 51 p)) _
    rw [e1]
    exact vr_setz r1
  · have hq' : ¬ isr p 0 200 := hq
    rw [if_neg hq'] at h
    exact h M hr (vf_refl M)
