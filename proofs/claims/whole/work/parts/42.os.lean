/-! calls: append, clearBuffer, pipe, stir -/
def m_app (p : Int32) (w : wS) : mS :=
  if isr p 33 126 then (if w_ln w = 60 then (2, nI 0, w) else (0, nI (w_ln w + 1), (w_z w, w_s w, w_sv w, w_sl w, w_kp w, (fun k => if k = w_ln w then p else w_tx w k), w_ln w + 1))) else (1, nI 0, w)
theorem c_Z_append {p : Int32} {w : wS} {M : am_M} {K : am_Q} (hr : zr M w) (h : ∀ M', zr M' (m_app p w).2.2 → zf M M' → M' 17 0 = nI (m_app p w).1 → K (.inl (some (.int (m_app p w).2.1))) M') : am_C mt_Z_append [.ref 17, .int p] M K := by
  have bad : ∀ t, 1 ≤ t → t ≤ 3 → m_app p w = (t, nI 0, w) → am_R am_S0 mt_Z_append 1 30 [.ref 17, .int p] [.int (nI t), .ref 17] M K := by
    intro t ht1 ht e
    rw [e] at h
    exact g_Z_append_30 ⟨fun c => absurd c (thr_pos M ht1 ht), fun c => h _ (zr_17 hr (by decide) (by decide)) (zf_set (zf_refl M) (by decide)) (upd_eq (M 17) 0 (nI t))⟩
  obtain ⟨l1, l2⟩ := hr.2.2.2.2.2.1
  refine am_C_of_R am_S0 om_Z_append rfl [.ref 17, .int p] rfl rfl (g_Z_append_0 (c_Z_in ⟨fun c => ?_, fun c => ?_⟩))
  · have hq : isr p 33 126 := ib_y c
    refine g_Z_append_16 ⟨fun c2 => ?_, fun c2 => ?_⟩
    · have hl : ¬ w_ln w = 60 := fun q => c2 (by show M 17 8 = nI 60; rw [l1, q])
      unfold m_app at h
      rw [if_pos hq, if_neg hl] at h
      have key : ∀ M1, zr M1 w → zf M M1 → M1 17 0 = nI 0 → am_R am_S0 mt_Z_append 1 42 [.ref 17, .int p] [] M1 K := by
        intro M1 hr1 hf1 ht1
        obtain ⟨r1, r2, r3, r4, r5, r6, r7⟩ := hr1
        refine g_Z_append_42 ⟨w_ln w, r6.1, by show _ < 60; omega, ?_⟩
        have e8 : upd (M1 17) 8 (M1 17 8 + nI 1) 8 = nI (w_ln w + 1) := by rw [upd_eq, r6.1, nI_add]
        rw [← e8] at h
        refine h (am_set (am_set M1 23 (upd (M1 23) (w_ln w) p)) 17 (upd (M1 17) 8 (M1 17 8 + nI 1))) ⟨r1, ⟨?_, r2.2⟩, r3, r4, r5, ⟨e8, ?_⟩, ?_⟩ (zf_set (zf_set hf1 (by decide)) (by decide)) ?_
        · show upd (M1 17) 8 (M1 17 8 + nI 1) 4 = _
          rw [upd_ne _ _ (by decide)]; exact r2.1
        · show w_ln w + 1 ≤ 60
          omega
        · intro k hk
          have hk' : k < w_ln w + 1 := hk
          show upd (M1 23) (w_ln w) p k = (if k = w_ln w then p else w_tx w k)
          by_cases c4 : k = w_ln w
          · rw [upd_eq' _ _ c4, if_pos c4]
          · rw [upd_ne _ _ c4, if_neg c4]
            exact r7 k (by omega)
        · show upd (M1 17) 8 (M1 17 8 + nI 1) 0 = _
          rw [upd_ne _ _ (by decide)]; exact ht1
      exact g_Z_append_29 (g_Z_append_30 ⟨fun c3 => key _ (zr_17 hr (by decide) (by decide)) (zf_set (zf_refl M) (by decide)) (upd_eq (M 17) 0 (nI 0)), fun c3 => absurd (thr_0 M) c3⟩)
    · have hl : w_ln w = 60 := (nI_eq (a := w_ln w) (b := 60) (by omega) (by decide)).mp (l1.symm.trans (Classical.not_not.mp c2))
      exact bad 2 (by decide) (by decide) (by unfold m_app; rw [if_pos hq, if_pos hl])
  · exact bad 1 (by decide) (by decide) (by unfold m_app; rw [if_neg (show ¬ isr p 33 126 from ib_nn c)])
theorem c_V_append {p : Int32} {w : wS} {M : am_M} {K : am_Q} (hr : vr M w) (h : ∀ M', vr M' (m_app p w).2.2 → vf M M' → K (oV 1 (m_app p w).1 (m_app p w).2.1) M') : am_C mt_V_append [.ref 0, .int p] M K := by
  obtain ⟨l1, l2⟩ := hr.2.2.2.2.2.1
  unfold m_app at h
  refine am_C_of_R am_S0 om_V_append rfl [.ref 0, .int p] rfl rfl (g_V_append_0 (c_V_requireRange (fun hq => ?_) (fun hq => ?_)))
  · have hq' : isr p 33 126 := hq
    rw [if_pos hq'] at h
    refine ⟨fun c => ?_, fun c => ⟨fun c2 => ?_, fun c2 => ?_⟩⟩
    · have c' : M 9 1 < 0 := c
      rw [l1] at c'
      exact absurd c' (nI_pos (by omega))
    · have c' : M 9 1 < nI 60 := c2
      rw [l1] at c'
      have hl : ¬ w_ln w = 60 := by have := (nI_lti (by omega) (by decide)).mp c'; omega
      rw [if_neg hl] at h
      obtain ⟨r1, r2, r3, r4, r5, r6, r7⟩ := hr
      refine g_V_append_40 ⟨w_ln w, r6.1, by show _ < 60; omega, ?_⟩
      have e8 : upd (M 9) 1 (M 9 1 + nI 1) 1 = nI (w_ln w + 1) := by rw [upd_eq, r6.1, nI_add]
      rw [← e8] at h
      refine h _ ⟨r1, r2, r3, r4, r5, ⟨e8, ?_⟩, ?_⟩ (vf_set (vf_set (vf_refl M) (by decide)) (by decide))
      · show w_ln w + 1 ≤ 60
        omega
      · intro k hk
        have hk' : k < w_ln w + 1 := hk
        show upd (M 10) (w_ln w) p k = (if k = w_ln w then p else w_tx w k)
        by_cases c4 : k = w_ln w
        · rw [upd_eq' _ _ c4, if_pos c4]
        · rw [upd_ne _ _ c4, if_neg c4]
          exact r7 k (by omega)
    · have c' : ¬ M 9 1 < nI 60 := c2
      rw [l1] at c'
      have hl : w_ln w = 60 := by
        have : ¬ w_ln w < 60 := fun q => c' ((nI_lti (by omega) (by decide)).mpr q)
        omega
      rw [if_pos hl] at h
      exact g_V_append_30 (h M hr (vf_refl M))
  · have hq' : ¬ isr p 33 126 := hq
    rw [if_neg hq'] at h
    exact h M hr (vf_refl M)
def w_clr (w : wS) : wS := (w_z w, w_s w, w_sv w, w_sl w, w_kp w, w_tx w, 0)
theorem c_Z_clearBuffer {w : wS} {M : am_M} {K : am_Q} (hr : zr M w) (h : ∀ M', zr M' (w_clr w) → zf M M' → K (.inl (some (.int (nI (w_ln w))))) M') : am_C mt_Z_clearBuffer [.ref 17] M K := by
  have hr1 : zr (am_set M 17 (upd (M 17) 0 (nI 0))) w := zr_17 hr (by decide) (by decide)
  have hf1 : zf M (am_set M 17 (upd (M 17) 0 (nI 0))) := zf_set (zf_refl M) (by decide)
  have key : K (.inl (some (.int (am_set M 17 (upd (M 17) 0 (nI 0)) 17 8)))) (am_set (am_set M 17 (upd (M 17) 0 (nI 0))) 17 (upd (am_set M 17 (upd (M 17) 0 (nI 0)) 17) 8 (nI 0))) := by
    generalize am_set M 17 (upd (M 17) 0 (nI 0)) = M1 at hr1 hf1
    obtain ⟨r1, r2, r3, r4, r5, r6, r7⟩ := hr1
    rw [r6.1]
    refine h _ ⟨r1, ⟨?_, r2.2⟩, r3, r4, r5, ⟨upd_eq (M1 17) 8 (nI 0), by show 0 ≤ 60; omega⟩, fun k hk => absurd hk (Nat.not_lt_zero k)⟩ (zf_set hf1 (by decide))
    show upd (M1 17) 8 (nI 0) 4 = _
    rw [upd_ne _ _ (by decide)]; exact r2.1
  exact am_C_of_R am_S0 om_Z_clearBuffer rfl [.ref 17, .null] rfl rfl (g_Z_clearBuffer_0 key)
theorem c_V_clearBuffer {w : wS} {M : am_M} {K : am_Q} (hr : vr M w) (h : ∀ M', vr M' (w_clr w) → vf M M' → K (.inl (some (.int (nI (w_ln w))))) M') : am_C mt_V_clearBuffer [.ref 0] M K := by
  obtain ⟨r1, r2, r3, r4, r5, r6, r7⟩ := hr
  rw [← r6.1] at h
  exact am_C_of_R am_S0 om_V_clearBuffer rfl [.ref 0, .null] rfl rfl (g_V_clearBuffer_0 (h _ ⟨r1, r2, r3, r4, r5, ⟨upd_eq (M 9) 1 (nI 0), by show 0 ≤ 60; omega⟩, fun k hk => absurd hk (Nat.not_lt_zero k)⟩ (vf_set (vf_refl M) (by decide))))
theorem ti_xor_bit (m : Nat) (v : Nat) (hm : m < 32) (hv : v < 5) : nI m ^^^ (nI 1 <<< (nI v &&& 31)) = nI (m ^^^ (1 <<< v)) := by
  have h5 : v = 0 ∨ v = 1 ∨ v = 2 ∨ v = 3 ∨ v = 4 := by omega
  have key : ∀ m, m < 32 → ∀ v, v < 5 → nI m ^^^ (nI 1 <<< (nI v &&& 31)) = nI (m ^^^ (1 <<< v)) := by decide +kernel
  exact key m hm v hv
def m_pipe (p q : Int32) (w : wS) : mS :=
  if isv p ∧ isv q then (if p = q then (2, nI 0, w) else (0, upd (upd (w_z w) (6 + zn p) (w_z w (6 + zn p) ^^^ (nI 1 <<< (q &&& 31)))) (6 + zn q) (w_z w (6 + zn q) ^^^ (nI 1 <<< (p &&& 31))) (6 + zn p) >>> (q &&& 31) &&& nI 1, w_setz (w_rec w) (upd (upd (w_z w) (6 + zn p) (w_z w (6 + zn p) ^^^ (nI 1 <<< (q &&& 31)))) (6 + zn q) (w_z w (6 + zn q) ^^^ (nI 1 <<< (p &&& 31)))))) else (1, nI 0, w)
theorem and1' (x : Int32) : x &&& nI 1 = nI 0 ∨ x &&& nI 1 = nI 1 := by
  have e : (x &&& nI 1).toBitVec.toNat = x.toBitVec.toNat % 2 := by
    rw [Int32.toBitVec_and, BitVec.toNat_and]
    exact Nat.and_one_is_mod _
  have h2 : x.toBitVec.toNat % 2 = 0 ∨ x.toBitVec.toNat % 2 = 1 := by omega
  rcases h2 with h2 | h2
  · exact Or.inl (Int32.toBitVec_inj.mp (BitVec.eq_of_toNat_eq (e.trans h2)))
  · exact Or.inr (Int32.toBitVec_inj.mp (BitVec.eq_of_toNat_eq (e.trans h2)))
theorem nI01_ne : ¬ nI 0 = nI 1 := by decide +kernel
theorem and1 (x : Int32) : x &&& nI 1 = ib (x &&& nI 1 = nI 1) := by
  rcases and1' x with c | c
  · rw [ib_f (by rw [c]; exact nI01_ne)]; exact c
  · rw [ib_t c]; exact c
def w_pp (z : dz) (v u : Nat) : dz := upd (upd z (6 + v) (z (6 + v) ^^^ (nI 1 <<< (nI u &&& 31)))) (6 + u) (upd z (6 + v) (z (6 + v) ^^^ (nI 1 <<< (nI u &&& 31))) (6 + u) ^^^ (nI 1 <<< (nI v &&& 31)))
theorem w_pp_eq {z : dz} {v u : Nat} (h : u ≠ v) : w_pp z v u = upd (upd z (6 + v) (z (6 + v) ^^^ (nI 1 <<< (nI u &&& 31)))) (6 + u) (z (6 + u) ^^^ (nI 1 <<< (nI v &&& 31))) := by
  unfold w_pp
  rw [upd_ne _ (k := 6 + v) (j := 6 + u) _ (by omega)]
theorem c_Z_pipe {p q : Int32} {w : wS} {M : am_M} {K : am_Q} (hr : zr M w) (h : ∀ M', zr M' (m_pipe p q w).2.2 → zf M M' → M' 17 0 = nI (m_pipe p q w).1 → K (.inl (some (.int (m_pipe p q w).2.1))) M') : am_C mt_Z_pipe [.ref 17, .int p, .int q] M K := by
  have bad : ∀ t, 1 ≤ t → t ≤ 3 → m_pipe p q w = (t, nI 0, w) → am_R am_S0 mt_Z_pipe 1 29 [.ref 17, .int p, .int q] [.int (nI t), .ref 17] M K := by
    intro t ht1 ht e
    rw [e] at h
    exact g_Z_pipe_29 ⟨fun c => absurd c (thr_pos M ht1 ht), fun c => h _ (zr_17 hr (by decide) (by decide)) (zf_set (zf_refl M) (by decide)) (upd_eq (M 17) 0 (nI t))⟩
  refine am_C_of_R am_S0 om_Z_pipe rfl [.ref 17, .int p, .int q] rfl rfl (g_Z_pipe_0 (c_Z_isVat ⟨fun c => ?_, fun c => c_Z_isVat ⟨fun c2 => ?_, fun c2 => ?_⟩⟩))
  · have hv : ¬ isv p := ib_n c
    exact g_Z_pipe_15 (bad 1 (by decide) (by decide) (by unfold m_pipe; rw [if_neg (fun q => hv q.1)]))
  · have hv : isv p := ib_y c
    have hd : isv q := ib_y c2
    refine g_Z_pipe_19 ⟨fun c3 => ?_, fun c3 => ?_⟩
    · have hne : ¬ p = q := c3
      unfold m_pipe at h
      rw [if_pos ⟨hv, hd⟩, if_neg hne] at h
      obtain ⟨v, -, hv4, rfl⟩ := isr_nat (a := 0) (b := 4) hv (by decide) (by decide)
      obtain ⟨u, -, hu4, rfl⟩ := isr_nat (a := 0) (b := 4) hd (by decide) (by decide)
      rw [zn_nI (show v < 2 ^ 31 by omega), zn_nI (show u < 2 ^ 31 by omega)] at h
      have hvu : u ≠ v := fun z => hne (by rw [z])
      refine g_Z_pipe_28 (g_Z_pipe_29 ⟨fun c4 => g_Z_pipe_41 ?_, fun c4 => absurd (thr_0 M) c4⟩)
      refine c_Z_record (zr_17 hr (by decide) (by decide)) (fun M' r1 r2 r3 => ?_)
      have f1 : zf M M' := zf_trans (zf_set (zf_refl M) (by decide)) r2
      have f2 : M' 17 0 = nI 0 := by rw [r3 0 (by decide)]; exact upd_eq (M 17) 0 (nI 0)
      have f3 : M' 18 = w_z w := r1.1
      rw [← f3] at h
      refine ⟨6 + v, ix2 6 v, by show _ < 105; omega, 6 + v, ix2 6 v, by show _ < 105; omega, 6 + u, ix2 6 u, by show _ < 105; omega, 6 + u, ix2 6 u, by show _ < 105; omega, c_Z_isPipe (by omega) ?_⟩
      have hh := h (am_set M' 18 (upd (upd (M' 18) (6 + v) (M' 18 (6 + v) ^^^ (nI 1 <<< (nI u &&& 31)))) (6 + u) (M' 18 (6 + u) ^^^ (nI 1 <<< (nI v &&& 31))))) (zr_setz r1) (zf_set f1 (by decide)) f2
      rw [← w_pp_eq hvu, and1, ← am_set_set M' 18 (upd (M' 18) (6 + v) (M' 18 (6 + v) ^^^ (nI 1 <<< (nI u &&& 31))))] at hh
      refine ⟨fun c5 => g_Z_pipe_88 (g_Z_pipe_89 ?_), fun c5 => g_Z_pipe_89 ?_⟩
      · have c6 : ¬ (w_pp (M' 18) v u (6 + v) >>> (nI u &&& 31) &&& nI 1 = nI 1) := ib_n c5
        rw [ib_f c6] at hh
        exact hh
      · have c6 : w_pp (M' 18) v u (6 + v) >>> (nI u &&& 31) &&& nI 1 = nI 1 := ib_y c5
        rw [ib_t c6] at hh
        exact hh
    · have hne : p = q := Classical.not_not.mp c3
      exact bad 2 (by decide) (by decide) (by unfold m_pipe; rw [if_pos ⟨hv, hd⟩, if_pos hne])
  · have hd : ¬ isv q := ib_nn c2
    exact g_Z_pipe_15 (bad 1 (by decide) (by decide) (by unfold m_pipe; rw [if_neg (fun q => hd q.2)]))
theorem c_V_pipe {p q : Int32} {w : wS} {M : am_M} {K : am_Q} (hr : vr M w) (h : ∀ M', vr M' (m_pipe p q w).2.2 → vf M M' → K (oV 0 (m_pipe p q w).1 (m_pipe p q w).2.1) M') : am_C mt_V_pipe [.ref 0, .int p, .int q] M K := by
  unfold m_pipe at h
  refine am_C_of_R am_S0 om_V_pipe rfl [.ref 0, .int p, .int q] rfl rfl (g_V_pipe_0 (c_V_requireVat (fun hv => c_V_requireVat (fun hd => ⟨fun c => ?_, fun c => ?_⟩) (fun hd => ?_)) (fun hv => ?_)))
  · have hne : ¬ p = q := c
    rw [if_pos ⟨hv, hd⟩, if_neg hne] at h
    obtain ⟨v, -, hv4, rfl⟩ := isr_nat (a := 0) (b := 4) hv (by decide) (by decide)
    obtain ⟨u, -, hu4, rfl⟩ := isr_nat (a := 0) (b := 4) hd (by decide) (by decide)
    rw [zn_nI (show v < 2 ^ 31 by omega), zn_nI (show u < 2 ^ 31 by omega)] at h
    have hvu : u ≠ v := fun z => hne (by rw [z])
    refine g_V_pipe_23 (c_V_saveState hr (fun M' r1 r2 r3 _ => ?_))
    have ez : M' 2 = zp (w_z w) := r1.1
    have e1 : M' 2 (5 + v) = w_z w (6 + v) := by rw [ez]; unfold zp; rw [pz_p (by omega)]
    have e2 : M' 2 (5 + u) = w_z w (6 + u) := by rw [ez]; unfold zp; rw [pz_p (by omega)]
    refine ⟨5 + v, ix2 5 v, by show _ < 105; omega, 5 + v, ix2 5 v, by show _ < 105; omega, 5 + u, ix2 5 u, by show _ < 105; omega, 5 + u, ix2 5 u, by show _ < 105; omega, 5 + v, ix2 5 v, by show _ < 105; omega, ?_⟩
    simp only [am_set_set]
    have e3 : upd (upd (M' 2) (5 + v) (M' 2 (5 + v) ^^^ (nI 1 <<< (nI u &&& 31)))) (5 + u) (upd (M' 2) (5 + v) (M' 2 (5 + v) ^^^ (nI 1 <<< (nI u &&& 31))) (5 + u) ^^^ (nI 1 <<< (nI v &&& 31))) = zp (upd (upd (w_z w) (6 + v) (w_z w (6 + v) ^^^ (nI 1 <<< (nI u &&& 31)))) (6 + u) (w_z w (6 + u) ^^^ (nI 1 <<< (nI v &&& 31)))) := by
      rw [upd_ne _ (k := 5 + v) (j := 5 + u) _ (by omega), e1, e2, ez, zp_upd, zp_upd, pz_p (by omega), pz_p (by omega)]
    have e4 : upd (upd (M' 2) (5 + v) (M' 2 (5 + v) ^^^ (nI 1 <<< (nI u &&& 31)))) (5 + u) (upd (M' 2) (5 + v) (M' 2 (5 + v) ^^^ (nI 1 <<< (nI u &&& 31))) (5 + u) ^^^ (nI 1 <<< (nI v &&& 31))) (5 + v) = upd (upd (w_z w) (6 + v) (w_z w (6 + v) ^^^ (nI 1 <<< (nI u &&& 31)))) (6 + u) (w_z w (6 + u) ^^^ (nI 1 <<< (nI v &&& 31))) (6 + v) := by
      rw [e3]; unfold zp; rw [pz_p (by omega)]
    rw [← e4] at h
    refine h _ ?_ (vf_set r2 (by decide))
    show vr (am_set M' 2 (upd (upd (M' 2) (5 + v) (M' 2 (5 + v) ^^^ (nI 1 <<< (nI u &&& 31)))) (5 + u) (upd (M' 2) (5 + v) (M' 2 (5 + v) ^^^ (nI 1 <<< (nI u &&& 31))) (5 + u) ^^^ (nI 1 <<< (nI v &&& 31))))) _
    rw [e3]
    exact vr_setz r1
  · have hne : p = q := Classical.not_not.mp c
    rw [if_pos ⟨hv, hd⟩, if_pos hne] at h
    exact h M hr (vf_refl M)
  · rw [if_neg (fun q => hd q.2)] at h
    exact h M hr (vf_refl M)
  · rw [if_neg (fun q => hv q.1)] at h
    exact h M hr (vf_refl M)
