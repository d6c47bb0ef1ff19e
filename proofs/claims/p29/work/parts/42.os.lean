/-! calls: append, clearBuffer, pipe, stir -/
def m_app (p : Int32) (w : wS) : mS :=
  if isr p 33 126 then (if w_ln w = 60 then (2, nI 0, w) else (0, nI (w_ln w + 1), (w_z w, w_s w, w_sv w, w_sl w, w_kp w, (fun k => if k = w_ln w then p else w_tx w k), w_ln w + 1))) else (1, nI 0, w)
def w_clr (w : wS) : wS := (w_z w, w_s w, w_sv w, w_sl w, w_kp w, w_tx w, 0)
theorem ti_xor_bit (m : Nat) (v : Nat) (hm : m < 32) (hv : v < 5) : nI m ^^^ (nI 1 <<< (nI v &&& 31)) = nI (m ^^^ (1 <<< v)) := by
  have h5 : v = 0 ∨ v = 1 ∨ v = 2 ∨ v = 3 ∨ v = 4 := by omega
  have key : ∀ m, m < 32 → ∀ v, v < 5 → nI m ^^^ (nI 1 <<< (nI v &&& 31)) = nI (m ^^^ (1 <<< v)) := by decide +kernel
  exact key m hm v hv
def m_pipe (p q : Int32) (w : wS) : mS :=
  if isv p ∧ isv q then (if p = q then (2, nI 0, w) else (0, upd (upd (w_z w) (6 + zn p) (w_z w (6 + zn p) ^^^ (nI 1 <<< (q &&& 31)))) (6 + zn q) (w_z w (6 + zn q) ^^^ (nI 1 <<< (p &&& 31))) (6 + zn p) >>> (q &&& 31) &&& nI 1, w_setz (w_rec w) (upd (upd (w_z w) (6 + zn p) (w_z w (6 + zn p) ^^^ (nI 1 <<< (q &&& 31)))) (6 + zn q) (w_z w (6 + zn q) ^^^ (nI 1 <<< (p &&& 31)))))) else (1, nI 0, w)
theorem and1' (x : Int32) : x &&& nI 1 = nI 0 ∨ x &&& nI 1 = nI 1 := by
  have e : (x &&& nI 1).toBitVec.toNat = x.toBitVec.toNat % 2 := by
    rw [Int32.toBitVec_and, BitVec.toNat_and]
    exact Nat.and_one_is_mod _
  have h2 : x.toBitVec.toNat % 2 = 0 ∨ x.toBitVec.toNat % 2 = 1 := by omega
  rcases h2 with h2 | h2
  · exact Or.inl (Int32.toBitVec_inj.mp (BitVec.eq_of_toNat_eq (e.trans h2)))
  · exact Or.inr (Int32.toBitVec_inj.mp (BitVec.eq_of_toNat_eq (e.trans h2)))
theorem nI01_ne : ¬ nI 0 = nI 1 := by decide +kernel
theorem and1 (x : Int32) : x &&& nI 1 = ib (x &&& nI 1 = nI 1) := by
  rcases and1' x with c | c
  · rw [ib_f (by rw [c]; exact nI01_ne)]; exact c
  · rw [ib_t c]; exact c
def w_pp (z : dz) (v u : Nat) : dz := upd (upd z (6 + v) (z (6 + v) ^^^ (nI 1 <<< (nI u &&& 31)))) (6 + u) (upd z (6 + v) (z (6 + v) ^^^ (nI 1 <<< (nI u &&& 31))) (6 + u) ^^^ (nI 1 <<< (nI v &&& 31)))
theorem w_pp_eq {z : dz} {v u : Nat} (h : u ≠ v) : w_pp z v u = upd (upd z (6 + v) (z (6 + v) ^^^ (nI 1 <<< (nI u &&& 31)))) (6 + u) (z (6 + u) ^^^ (nI 1 <<< (nI v &&& 31))) := by
  unfold w_pp
  rw [upd_ne _ (k := 6 + v) (j := 6 + u) _ (by omega)]
theorem c_V_pipe {p q : Int32} {w : wS} {M : am_M} {K : am_Q} (hr : vr M w) (h : ∀ M', vr M' (m_pipe p q w).2.2 → vf M M' → K (oV 0 (m_pipe p q w).1 (m_pipe p q w).2.1) M') : am_C mt_V_pipe [.ref 0, .int p, .int q] M K := by
  unfold m_pipe at h
  refine am_C_of_R am_S0 om_V_pipe rfl [.ref 0, .int p, .int q] rfl rfl (g_V_pipe_0 (c_V_requireVat (fun hv => c_V_requireVat (fun hd => ⟨fun c => ?_, fun c => ?_⟩) (fun hd => ?_)) (fun hv => ?_)))
  · have hne : ¬ p = q := c
    rw [if_pos ⟨hv, hd⟩, if_neg hne] at h
    obtain ⟨v, -, hv4, rfl⟩ := isr_nat (a := 0) (b := 4) hv (by decide) (by decide)
    obtain ⟨u, -, hu4, rfl⟩ := isr_nat (a := 0) (b := 4) hd (by decide) (by decide)
    rw [zn_nI (show v < 2 ^ 31 by omega), zn_nI (show u < 2 ^ 31 by omega)] at h
    have hvu : u ≠ v := fun z => hne (by rw [z])
    refine g_V_pipe_23 (c_V_saveState hr (fun M' r1 r2 r3 _ => ?_))
    have ez : M' 2 = zp (w_z w) := r1.1
    have e1 : M' 2 (5 + v) = w_z w (6 + v) := by rw [ez]; unfold zp; rw [pz_p (by omega)]
    have e2 : M' 2 (5 + u) = w_z w (6 + u) := by rw [ez]; unfold zp; rw [pz_p (by omega)]
    refine ⟨5 + v, ix2 5 v, by show _ < 105; omega, 5 + v, ix2 5 v, by show _ < 105; omega, 5 + u, ix2 5 u, by show _ < 105; omega, 5 + u, ix2 5 u, by show _ < 105; omega, 5 + v, ix2 5 v, by show _ < 105; omega, ?_⟩
    simp only [am_set_set]
    have e3 : upd (upd (M' 2) (5 + v) (M' 2 (5 + v) ^^^ (nI 1 <<< (nI u &&& 31)))) (5 + u) (upd (M' 2) (5 + v) (M' 2 (5 + v) ^^^ (nI 1 <<< (nI u &&& 31))) (5 + u) ^^^ (nI 1 <<< (nI v &&& 31))) = zp (upd (upd (w_z w) (6 + v) (w_z w (6 + v) ^^^ (nI 1 <<< (nI u &&& 31)))) (6 + u) (w_z w (6 + u) ^^^ (nI 1 <<< (nI v &&& 31)))) := by
      rw [upd_ne _ (k := 5 + v) (j := 5 + u) _ (by omega), e1, e2, ez, zp_upd, zp_upd, pz_p (by omega), pz_p (by omega)]
    have e4 : upd (upd (M' 2) (5 + v) (M' 2 (5 + v) ^^^ (nI 1 <<< (nI u &&& 31)))) (5 + u) (upd (M' 2) (5 + v) (M' 2 (5 + v) ^^^ (nI 1 <<< (nI u &&& 31))) (5 + u) ^^^ (nI 1 <<< (nI v &&& 31))) (5 + v) = upd (upd (w_z w) (6 + v) (w_z w (6 + v) ^^^ (nI 1 <<< (nI u &&& 31)))) (6 + u) (w_z w (6 + u) ^^^ (nI 1 <<< (nI v &&& 31))) (6 + v) := by
      rw [e3]; unfold zp; rw [pz_p (by omega)]
    rw [← e4] at h
    refine h _ ?_ (vf_set r2 (by decide))
    show vr (am_set M' 2 (upd (upd (M' 2) (5 + v) (M' 2 (5 + v) ^^^ (nI 1 <<< (nI u &&& 31)))) (5 + u) (upd (M' 2) (5 + v) (M' 2 (5 + v) ^^^ (nI 1 <<< (nI u &&& 31))) (5 + u) ^^^ (nI 1 <<< (nI v &&& 31))))) _
    rw [e3]
    exact vr_setz r1
  · have hne : p = q := Classical.not_not.mp c
    rw [if_pos ⟨hv, hd⟩, if_pos hne] at h
    exact h M hr (vf_refl M)
  · rw [if_neg (fun q => hd q.2)] at h
    exact h M hr (vf_refl M)
  · rw [if_neg (fun q => hv q.1)] at h
    exact h M hr (vf_refl M)
