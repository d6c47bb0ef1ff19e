/-! calls in the words of the law's walk: the class holds w, the array more holds f -/
def vq (w : wS) (f : dz) (M : am_M) : Prop := vr M w ∧ M 17 = f
theorem vq_of {w w' : wS} {f : dz} {M M' : am_M} (h : vq w f M) (hr : vr M' w') (hf : vf M M') : vq w' f M' := ⟨hr, (hf 17 (Nat.le_refl 17)).trans h.2⟩
theorem isr_n {v a b : Nat} (h1 : a ≤ v) (h2 : v ≤ b) (hb : b < 2 ^ 31) : isr (nI v) a b := (isr_iff (by omega) (by omega) hb).mpr ⟨h1, h2⟩
theorem isv_n {v : Nat} (h : v < 5) : isv (nI v) := isr_n (a := 0) (b := 4) (Nat.zero_le _) (by omega) (by decide)
theorem isd_n {v : Nat} (h : v < 3) : isd (nI v) := isr_n (a := 0) (b := 2) (Nat.zero_le _) (by omega) (by decide)
section OB
variable {n : Nat} {w : wS} {f : dz} {M : am_M} {K : am_Q}
theorem c_vat {v k : Nat} (hr : vq w f M) (hv : v < 5) (hk : k ≤ 9) (h : ∀ M', vq w f M' → K (.inl (some (.int (zvat v k (w_z w))))) M') : am_C mt_V_vatOf [.ref 0, .int (nI v), .int (nI k)] M K := by
  refine c_V_vatOf hr.1 ?_
  unfold m_vatOf
  rw [if_pos (isv_n hv), if_pos (isr_n (Nat.zero_le _) hk (by decide)), zn_nI (by omega), zn_nI (by omega)]
  exact fun M' r v => h M' (vq_of hr r v)
theorem c_cnt {k : Nat} (hr : vq w f M) (hi : wi n w) (hk : k ≤ 9) (h : ∀ M', vq w f M' → K (.inl (some (.int (zcn k w)))) M') : am_C mt_V_count [.ref 0, .int (nI k)] M K := by
  refine c_V_count hr.1 hi.1 ?_
  unfold m_count
  rw [if_pos (isr_n (Nat.zero_le _) hk (by decide)), zn_nI (by omega)]
  exact fun M' r v => h M' (vq_of hr r v)
theorem c_dyo {d k : Nat} (hr : vq w f M) (hd : d < 3) (hk : k ≤ 4) (h : ∀ M', vq w f M' → K (.inl (some (.int (zdn d k (w_z w))))) M') : am_C mt_V_dyeOf [.ref 0, .int (nI d), .int (nI k)] M K := by
  refine c_V_dyeOf hr.1 ?_
  unfold m_dyeOf
  rw [if_pos (isd_n hd), if_pos (isr_n (Nat.zero_le _) hk (by decide)), zn_nI (by omega), zn_nI (by omega)]
  exact fun M' r v => h M' (vq_of hr r v)
theorem c_val {m k i : Nat} (hr : vq w f M) (hi : wi n w) (hm : w_z w 5 = nI m) (hm8 : m ≤ 8) (hk : k < m) (h6 : i ≤ 6) (h : ∀ M', vq w f M' → K (.inl (some (.int (ztol k i (w_z w))))) M') : am_C mt_V_valveOf [.ref 0, .int (nI k), .int (nI i)] M K := by
  refine c_V_valveOf hr.1 hi.1 ?_
  have hc : nI 0 ≤ nI k ∧ nI k ≤ w_z w 5 - nI 1 := by
    rw [hm, nI_sub1 (by omega)]
    exact isr_n (a := 0) (b := m - 1) (Nat.zero_le _) (by omega) (by omega)
  unfold m_valveOf
  rw [if_pos hc, if_pos (isr_n (Nat.zero_le _) h6 (by decide)), zn_nI (by omega), zn_nI (by omega)]
  exact fun M' r v => h M' (vq_of hr r v)
theorem c_emp {v : Nat} (hr : vq w f M) (hi : wi n w) (hv : v < 5) (h : ∀ M', vq w f M' → K (.inl (some (.int (zea v (w_z w) 241)))) M') : am_C mt_V_emptyIn [.ref 0, .int (nI v)] M K := by
  refine c_V_emptyIn hr.1 hi.1 ?_
  unfold m_emp
  rw [if_pos (isv_n hv), zn_nI (by omega)]
  generalize zea v (w_z w) 241 = x at h ⊢
  exact fun M' r v => h M' (vq_of hr r v)
theorem c_ifp {p v k : Nat} (hr : vq w f M) (hi : wi n w) (hp1 : 1 ≤ p) (hp : p ≤ 240) (hv : v < 5) (hk1 : 1 ≤ k) (hk : k ≤ 7) (h : ∀ M', vq w f M' → K (.inl (some (.int (zhours (w_z w) p (17 + 8 * v + k))))) M') : am_C mt_V_ifPassed [.ref 0, .int (nI p), .int (nI v), .int (nI k)] M K := by
  refine c_V_ifPassed hr.1 hi.1 ?_
  unfold m_ifp
  rw [if_pos (isv_n hv), if_pos ⟨isr_n hp1 hp (by decide), isr_n hk1 hk (by decide)⟩, zn_nI (show v < 2 ^ 31 by omega), zn_nI (show p < 2 ^ 31 by omega), zn_nI (show k < 2 ^ 31 by omega)]
  exact fun M' r v => h M' (vq_of hr r v)
theorem c_rnd {k : Nat} (hr : vq w f M) (hi : wi n w) (hk : k ≤ 3) (h : ∀ M', vq w f M' → K (.inl (some (.int (m_rnd k (w_z w))))) M') : am_C mt_V_round [.ref 0, .int (nI k)] M K := by
  refine c_V_round hr.1 hi.1 ?_
  unfold m_round
  rw [if_pos (isr_n (Nat.zero_le _) hk (by decide)), zn_nI (by omega)]
  exact fun M' r v => h M' (vq_of hr r v)
theorem c_mai (hr : vq w f M) (hi : wi n w) (h : ∀ M', vq w f M' → K (.inl (some (.int (m_main w)))) M') : am_C mt_V_mainValve [.ref 0] M K :=
  c_V_main hr.1 hi.1 (fun M' r v => h M' (vq_of hr r v))
theorem c_gon (hr : vq w f M) (hi : wi n w) (h : K (.inl (some (.double (zshare (w_z w))))) M) : am_C mt_V_goneShare [.ref 0] M K := c_V_goneShare hr.1.1 hi.1.1.1 h
theorem c_pass {k : Nat} (hr : vq w f M) (hi : wi n w) (h1 : 1 ≤ k) (hk : k ≤ 240) (h0 : (w_z w 0).toInt + k ≤ 99999) (h : ∀ M', vq (w_pass w k) f M' → K (.inl (some (.int (zhours (w_z w) k 2 - w_z w 2)))) M') : am_C mt_L_pass [.ref 0, .int (nI k)] M K := by
  refine c_L_pass hr.1 hi.1 ?_
  have e : (nI k).toInt = k := nI_toInt (by omega)
  have hz := hi.1.1.2.2.1
  have c : ¬ nI 99999 < w_z w 0 + nI k := fun q => by
    have q2 := ti_lt.mp q
    rw [nI_toInt (by decide), ti_add (by omega) (by omega)] at q2
    omega
  unfold m_pass
  rw [if_pos (isr_n h1 hk (by decide)), if_neg c, zn_nI (by omega)]
  exact fun M' r v => h M' (vq_of hr r v)
theorem c_keep {j : Nat} (hr : vq w f M) (hi : wi n w) (hj : j < 2) (h : ∀ M', vq (w_keep w j) f M' → K (.inl (some (.int (zhod (w_z w))))) M') : am_C mt_L_keep [.ref 0, .int (nI j)] M K := by
  refine c_L_keep hr.1 hi.1 ?_
  unfold m_keep
  rw [if_pos (isr_n (a := 0) (b := 1) (Nat.zero_le _) (by omega) (by decide)), zn_nI (by omega)]
  exact fun M' r v => h M' (vq_of hr r v)
theorem c_back {j : Nat} (hr : vq w f M) (hi : wi n w) (hj : j < 2) (hkp : w_kp w j = true) (h : ∀ M', vq (w_back w j) f M' → K (.inl (some (.int (zhod (w_sl w j))))) M') : am_C mt_L_goBack [.ref 0, .int (nI j)] M K := by
  refine c_L_goBack hr.1 hi.1 ?_
  unfold m_back
  rw [if_pos (isr_n (a := 0) (b := 1) (Nat.zero_le _) (by omega) (by decide)), zn_nI (by omega), if_pos hkp]
  show ∀ M', vr M' (w_back w j) → vf M M' → K (.inl (some (.int (zhod (zcp (w_sl w j) (w_z w)))))) M'
  rw [zcp_tl (hi.2.2.2 j hj hkp) hi.2.1]
  exact fun M' r v => h M' (vq_of hr r v)
theorem c_undo (hr : vq w f M) (hi : wi n w) (hs : 0 < w_s w) (h : ∀ M', vq (w_undo w) f M' → K (.inl (some (.int (nI (w_s w - 1))))) M') : am_C mt_L_undo [.ref 0] M K := by
  refine c_L_undo hr.1 hi.1 ?_
  unfold m_undo
  rw [if_neg (by omega)]
  exact fun M' r v => h M' (vq_of hr r v)
theorem c_close {k m : Nat} (hr : vq w f M) (hi : wi n w) (hm : w_z w 5 = nI m) (hm8 : m ≤ 8) (hk : k < m) (h : ∀ M', vq (w_close w k) f M' → K (.inl (some (.int (nI m - nI 1)))) M') : am_C mt_L_close [.ref 0, .int (nI k)] M K := by
  refine c_L_close hr.1 hi.1 ?_
  have hc : nI 0 ≤ nI k ∧ nI k ≤ w_z w 5 - nI 1 := by
    rw [hm, nI_sub1 (by omega)]
    exact isr_n (a := 0) (b := m - 1) (Nat.zero_le _) (by omega) (by omega)
  unfold m_close
  rw [if_pos hc, zn_nI (show k < 2 ^ 31 by omega), hm]
  have e : w_close w k = w_setz (w_rec w) (zdrop k (zn (nI m)) (w_z w)) := by unfold w_close; rw [hm]
  rw [e] at h
  exact fun M' r v => h M' (vq_of hr r v)
end OB
