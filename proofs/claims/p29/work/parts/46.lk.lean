/-! looks: vatOf, valveOf -/
theorem nI_subk {a b : Nat} (h : b ≤ a) : nI a - nI b = nI (a - b) := by
  have e : nI a = nI (a - b) + nI b := by rw [nI_add]; congr 1; omega
  rw [e, Int32.add_sub_cancel]
theorem sw_eq {k : Nat} {i : Int} (hk : k < 2 ^ 31) (c : (nI k).toInt = i) : (k : Int) = i := by rw [nI_toInt hk] at c; exact c
def zvat (v k : Nat) (z : dz) : Int32 := if k = 8 then z (6 + v) else if k = 9 then zholds v z else z (17 + 8 * v + k)
theorem zvat_lo {v k : Nat} {z : dz} (h : k < 8) : zvat v k z = z (17 + 8 * v + k) := by unfold zvat; rw [if_neg (by omega), if_neg (by omega)]
theorem c_S_vatProperty_1 {v k : Nat} {z : dz} {M : am_M} {K : am_Q} (hM : M 2 = zp z) (hv : v < 5) (hk : k ≤ 9) (h : K (.inl (some (.int (zvat v k z)))) M) : am_C mt_S_vatProperty [.ref 1, .int (nI v), .int (nI k)] M K := by
  refine am_C_of_R am_S0 om_S_vatProperty rfl [.ref 1, .int (nI v), .int (nI k)] rfl rfl (g_S_vatProperty_0 (c_S_isVat hv ⟨fun c => g_S_vatProperty_9 ?_, fun c => absurd nI1_ne c⟩))
  refine ⟨fun c => ?_, fun c => ?_, fun c => ?_, fun c => ?_, fun c => ?_, fun c => ?_, fun c => ?_, fun c => ?_, fun c => ?_, fun c => ?_, trivial⟩
  · have e9 : k = 9 := by
      rw [nI_toInt (by omega)] at c
      omega
    subst e9
    exact g_S_vatProperty_120 (c_S_limitIn_1 hM hv h)
  · have ek : k = 0 := by have := sw_eq (by omega) c; omega
    subst ek
    have e : zvat v 0 z = M 2 (0 + v) := by rw [hM, zvat_lo (by decide), Nat.zero_add]; unfold zp; rw [pz_c hv]; rfl
    rw [e] at h
    exact g_S_vatProperty_60 ⟨0 + v, ix2 0 v, by show _ < 105; omega, h⟩
  · have ek : k = 1 := by have := sw_eq (by omega) c; omega
    subst ek
    have e : zvat v 1 z = M 2 (10 + v) := by rw [hM, zvat_lo (by decide)]; unfold zp; rw [pz_w hv]; congr 1; omega
    rw [e] at h
    exact g_S_vatProperty_69 ⟨10 + v, ix2 10 v, by show _ < 105; omega, h⟩
  · have ek : k = 2 := by have := sw_eq (by omega) c; omega
    subst ek
    have e : zvat v 2 z = M 2 (15 + v * 3 + 0) := by rw [hM, zvat_lo (by decide)]; unfold zp; rw [pz_d hv (by decide)]; congr 1; omega
    rw [e] at h
    exact g_S_vatProperty_79 ⟨15 + v * 3 + 0, by show nI 15 + nI v * nI 3 + nI 2 - nI 2 = _; rw [ix4', nI_subk (by omega)]; rfl, by show _ < 105; omega, h⟩
  · have ek : k = 3 := by have := sw_eq (by omega) c; omega
    subst ek
    have e : zvat v 3 z = M 2 (15 + v * 3 + 1) := by rw [hM, zvat_lo (by decide)]; unfold zp; rw [pz_d hv (by decide)]; congr 1; omega
    rw [e] at h
    exact g_S_vatProperty_79 ⟨15 + v * 3 + 1, by show nI 15 + nI v * nI 3 + nI 3 - nI 2 = _; rw [ix4', nI_subk (by omega)]; rfl, by show _ < 105; omega, h⟩
  · have ek : k = 4 := by have := sw_eq (by omega) c; omega
    subst ek
    have e : zvat v 4 z = M 2 (15 + v * 3 + 2) := by rw [hM, zvat_lo (by decide)]; unfold zp; rw [pz_d hv (by decide)]; congr 1; omega
    rw [e] at h
    exact g_S_vatProperty_79 ⟨15 + v * 3 + 2, by show nI 15 + nI v * nI 3 + nI 4 - nI 2 = _; rw [ix4', nI_subk (by omega)]; rfl, by show _ < 105; omega, h⟩
  · have ek : k = 5 := by have := sw_eq (by omega) c; omega
    subst ek
    have e : zvat v 5 z = M 2 (30 + v * 3 + 0) := by rw [hM, zvat_lo (by decide)]; unfold zp; rw [pz_s hv (by decide)]; congr 1; omega
    rw [e] at h
    exact g_S_vatProperty_95 ⟨30 + v * 3 + 0, by show nI 30 + nI v * nI 3 + nI 5 - nI 5 = _; rw [ix4', nI_subk (by omega)]; rfl, by show _ < 105; omega, h⟩
  · have ek : k = 6 := by have := sw_eq (by omega) c; omega
    subst ek
    have e : zvat v 6 z = M 2 (30 + v * 3 + 1) := by rw [hM, zvat_lo (by decide)]; unfold zp; rw [pz_s hv (by decide)]; congr 1; omega
    rw [e] at h
    exact g_S_vatProperty_95 ⟨30 + v * 3 + 1, by show nI 30 + nI v * nI 3 + nI 6 - nI 5 = _; rw [ix4', nI_subk (by omega)]; rfl, by show _ < 105; omega, h⟩
  · have ek : k = 7 := by have := sw_eq (by omega) c; omega
    subst ek
    have e : zvat v 7 z = M 2 (30 + v * 3 + 2) := by rw [hM, zvat_lo (by decide)]; unfold zp; rw [pz_s hv (by decide)]; congr 1; omega
    rw [e] at h
    exact g_S_vatProperty_95 ⟨30 + v * 3 + 2, by show nI 30 + nI v * nI 3 + nI 7 - nI 5 = _; rw [ix4', nI_subk (by omega)]; rfl, by show _ < 105; omega, h⟩
  · have ek : k = 8 := by have := sw_eq (by omega) c; omega
    subst ek
    have e : zvat v 8 z = M 2 (5 + v) := by rw [hM]; unfold zp; rw [pz_p hv]; rfl
    rw [e] at h
    exact g_S_vatProperty_111 ⟨5 + v, ix2 5 v, by show _ < 105; omega, h⟩
theorem c_S_vatProperty_3 {v k : Nat} {z : dz} {M : am_M} {K : am_Q} (hM : M 4 = zp z) (hv : v < 5) (hk : k ≤ 9) (h : K (.inl (some (.int (zvat v k z)))) M) : am_C mt_S_vatProperty [.ref 3, .int (nI v), .int (nI k)] M K := by
  refine am_C_of_R am_S0 om_S_vatProperty rfl [.ref 3, .int (nI v), .int (nI k)] rfl rfl (g_S_vatProperty_0 (c_S_isVat hv ⟨fun c => g_S_vatProperty_9 ?_, fun c => absurd nI1_ne c⟩))
  refine ⟨fun c => ?_, fun c => ?_, fun c => ?_, fun c => ?_, fun c => ?_, fun c => ?_, fun c => ?_, fun c => ?_, fun c => ?_, fun c => ?_, trivial⟩
  · have e9 : k = 9 := by
      rw [nI_toInt (by omega)] at c
      omega
    subst e9
    exact g_S_vatProperty_120 (c_S_limitIn_3 hM hv h)
  · have ek : k = 0 := by have := sw_eq (by omega) c; omega
    subst ek
    have e : zvat v 0 z = M 4 (0 + v) := by rw [hM, zvat_lo (by decide), Nat.zero_add]; unfold zp; rw [pz_c hv]; rfl
    rw [e] at h
    exact g_S_vatProperty_60 ⟨0 + v, ix2 0 v, by show _ < 105; omega, h⟩
  · have ek : k = 1 := by have := sw_eq (by omega) c; omega
    subst ek
    have e : zvat v 1 z = M 4 (10 + v) := by rw [hM, zvat_lo (by decide)]; unfold zp; rw [pz_w hv]; congr 1; omega
    rw [e] at h
    exact g_S_vatProperty_69 ⟨10 + v, ix2 10 v, by show _ < 105; omega, h⟩
  · have ek : k = 2 := by have := sw_eq (by omega) c; omega
    subst ek
    have e : zvat v 2 z = M 4 (15 + v * 3 + 0) := by rw [hM, zvat_lo (by decide)]; unfold zp; rw [pz_d hv (by decide)]; congr 1; omega
    rw [e] at h
    exact g_S_vatProperty_79 ⟨15 + v * 3 + 0, by show nI 15 + nI v * nI 3 + nI 2 - nI 2 = _; rw [ix4', nI_subk (by omega)]; rfl, by show _ < 105; omega, h⟩
  · have ek : k = 3 := by have := sw_eq (by omega) c; omega
    subst ek
    have e : zvat v 3 z = M 4 (15 + v * 3 + 1) := by rw [hM, zvat_lo (by decide)]; unfold zp; rw [pz_d hv (by decide)]; congr 1; omega
    rw [e] at h
    exact g_S_vatProperty_79 ⟨15 + v * 3 + 1, by show nI 15 + nI v * nI 3 + nI 3 - nI 2 = _; rw [ix4', nI_subk (by omega)]; rfl, by show _ < 105; omega, h⟩
  · have ek : k = 4 := by have := sw_eq (by omega) c; omega
    subst ek
    have e : zvat v 4 z = M 4 (15 + v * 3 + 2) := by rw [hM, zvat_lo (by decide)]; unfold zp; rw [pz_d hv (by decide)]; congr 1; omega
    rw [e] at h
    exact g_S_vatProperty_79 ⟨15 + v * 3 + 2, by show nI 15 + nI v * nI 3 + nI 4 - nI 2 = _; rw [ix4', nI_subk (by omega)]; rfl, by show _ < 105; omega, h⟩
  · have ek : k = 5 := by have := sw_eq (by omega) c; omega
    subst ek
    have e : zvat v 5 z = M 4 (30 + v * 3 + 0) := by rw [hM, zvat_lo (by decide)]; unfold zp; rw [pz_s hv (by decide)]; congr 1; omega
    rw [e] at h
    exact g_S_vatProperty_95 ⟨30 + v * 3 + 0, by show nI 30 + nI v * nI 3 + nI 5 - nI 5 = _; rw [ix4', nI_subk (by omega)]; rfl, by show _ < 105; omega, h⟩
  · have ek : k = 6 := by have := sw_eq (by omega) c; omega
    subst ek
    have e : zvat v 6 z = M 4 (30 + v * 3 + 1) := by rw [hM, zvat_lo (by decide)]; unfold zp; rw [pz_s hv (by decide)]; congr 1; omega
    rw [e] at h
    exact g_S_vatProperty_95 ⟨30 + v * 3 + 1, by show nI 30 + nI v * nI 3 + nI 6 - nI 5 = _; rw [ix4', nI_subk (by omega)]; rfl, by show _ < 105; omega, h⟩
  · have ek : k = 7 := by have := sw_eq (by omega) c; omega
    subst ek
    have e : zvat v 7 z = M 4 (30 + v * 3 + 2) := by rw [hM, zvat_lo (by decide)]; unfold zp; rw [pz_s hv (by decide)]; congr 1; omega
    rw [e] at h
    exact g_S_vatProperty_95 ⟨30 + v * 3 + 2, by show nI 30 + nI v * nI 3 + nI 7 - nI 5 = _; rw [ix4', nI_subk (by omega)]; rfl, by show _ < 105; omega, h⟩
  · have ek : k = 8 := by have := sw_eq (by omega) c; omega
    subst ek
    have e : zvat v 8 z = M 4 (5 + v) := by rw [hM]; unfold zp; rw [pz_p hv]; rfl
    rw [e] at h
    exact g_S_vatProperty_111 ⟨5 + v, ix2 5 v, by show _ < 105; omega, h⟩
theorem c_S_vatProperty_6 {v k : Nat} {z : dz} {M : am_M} {K : am_Q} (hM : M 7 = zp z) (hv : v < 5) (hk : k ≤ 9) (h : K (.inl (some (.int (zvat v k z)))) M) : am_C mt_S_vatProperty [.ref 6, .int (nI v), .int (nI k)] M K := by
  refine am_C_of_R am_S0 om_S_vatProperty rfl [.ref 6, .int (nI v), .int (nI k)] rfl rfl (g_S_vatProperty_0 (c_S_isVat hv ⟨fun c => g_S_vatProperty_9 ?_, fun c => absurd nI1_ne c⟩))
  refine ⟨fun c => ?_, fun c => ?_, fun c => ?_, fun c => ?_, fun c => ?_, fun c => ?_, fun c => ?_, fun c => ?_, fun c => ?_, fun c => ?_, trivial⟩
  · have e9 : k = 9 := by
      rw [nI_toInt (by omega)] at c
      omega
    subst e9
    exact g_S_vatProperty_120 (c_S_limitIn_6 hM hv h)
  · have ek : k = 0 := by have := sw_eq (by omega) c; omega
    subst ek
    have e : zvat v 0 z = M 7 (0 + v) := by rw [hM, zvat_lo (by decide), Nat.zero_add]; unfold zp; rw [pz_c hv]; rfl
    rw [e] at h
    exact g_S_vatProperty_60 ⟨0 + v, ix2 0 v, by show _ < 105; omega, h⟩
  · have ek : k = 1 := by have := sw_eq (by omega) c; omega
    subst ek
    have e : zvat v 1 z = M 7 (10 + v) := by rw [hM, zvat_lo (by decide)]; unfold zp; rw [pz_w hv]; congr 1; omega
    rw [e] at h
    exact g_S_vatProperty_69 ⟨10 + v, ix2 10 v, by show _ < 105; omega, h⟩
  · have ek : k = 2 := by have := sw_eq (by omega) c; omega
    subst ek
    have e : zvat v 2 z = M 7 (15 + v * 3 + 0) := by rw [hM, zvat_lo (by decide)]; unfold zp; rw [pz_d hv (by decide)]; congr 1; omega
    rw [e] at h
    exact g_S_vatProperty_79 ⟨15 + v * 3 + 0, by show nI 15 + nI v * nI 3 + nI 2 - nI 2 = _; rw [ix4', nI_subk (by omega)]; rfl, by show _ < 105; omega, h⟩
  · have ek : k = 3 := by have := sw_eq (by omega) c; omega
    subst ek
    have e : zvat v 3 z = M 7 (15 + v * 3 + 1) := by rw [hM, zvat_lo (by decide)]; unfold zp; rw [pz_d hv (by decide)]; congr 1; omega
    rw [e] at h
    exact g_S_vatProperty_79 ⟨15 + v * 3 + 1, by show nI 15 + nI v * nI 3 + nI 3 - nI 2 = _; rw [ix4', nI_subk (by omega)]; rfl, by show _ < 105; omega, h⟩
  · have ek : k = 4 := by have := sw_eq (by omega) c; omega
    subst ek
    have e : zvat v 4 z = M 7 (15 + v * 3 + 2) := by rw [hM, zvat_lo (by decide)]; unfold zp; rw [pz_d hv (by decide)]; congr 1; omega
    rw [e] at h
    exact g_S_vatProperty_79 ⟨15 + v * 3 + 2, by show nI 15 + nI v * nI 3 + nI 4 - nI 2 = _; rw [ix4', nI_subk (by omega)]; rfl, by show _ < 105; omega, h⟩
  · have ek : k = 5 := by have := sw_eq (by omega) c; omega
    subst ek
    have e : zvat v 5 z = M 7 (30 + v * 3 + 0) := by rw [hM, zvat_lo (by decide)]; unfold zp; rw [pz_s hv (by decide)]; congr 1; omega
    rw [e] at h
    exact g_S_vatProperty_95 ⟨30 + v * 3 + 0, by show nI 30 + nI v * nI 3 + nI 5 - nI 5 = _; rw [ix4', nI_subk (by omega)]; rfl, by show _ < 105; omega, h⟩
  · have ek : k = 6 := by have := sw_eq (by omega) c; omega
    subst ek
    have e : zvat v 6 z = M 7 (30 + v * 3 + 1) := by rw [hM, zvat_lo (by decide)]; unfold zp; rw [pz_s hv (by decide)]; congr 1; omega
    rw [e] at h
    exact g_S_vatProperty_95 ⟨30 + v * 3 + 1, by show nI 30 + nI v * nI 3 + nI 6 - nI 5 = _; rw [ix4', nI_subk (by omega)]; rfl, by show _ < 105; omega, h⟩
  · have ek : k = 7 := by have := sw_eq (by omega) c; omega
    subst ek
    have e : zvat v 7 z = M 7 (30 + v * 3 + 2) := by rw [hM, zvat_lo (by decide)]; unfold zp; rw [pz_s hv (by decide)]; congr 1; omega
    rw [e] at h
    exact g_S_vatProperty_95 ⟨30 + v * 3 + 2, by show nI 30 + nI v * nI 3 + nI 7 - nI 5 = _; rw [ix4', nI_subk (by omega)]; rfl, by show _ < 105; omega, h⟩
  · have ek : k = 8 := by have := sw_eq (by omega) c; omega
    subst ek
    have e : zvat v 8 z = M 7 (5 + v) := by rw [hM]; unfold zp; rw [pz_p hv]; rfl
    rw [e] at h
    exact g_S_vatProperty_111 ⟨5 + v, ix2 5 v, by show _ < 105; omega, h⟩
def m_vatOf (p q : Int32) (w : wS) : mS := if isv p then (if isr q 0 9 then (0, zvat (zn p) (zn q) (w_z w), w) else (2, nI 0, w)) else (1, nI 0, w)
theorem c_V_vatOf {p q : Int32} {w : wS} {M : am_M} {K : am_Q} (hr : vr M w) (h : ∀ M', vr M' (m_vatOf p q w).2.2 → vf M M' → K (oV 0 (m_vatOf p q w).1 (m_vatOf p q w).2.1) M') : am_C mt_V_vatOf [.ref 0, .int p, .int q] M K := by
  unfold m_vatOf at h
  refine am_C_of_R am_S0 om_V_vatOf rfl [.ref 0, .int p, .int q] rfl rfl (g_V_vatOf_0 (c_V_requireVat (fun hv => c_V_requireRange (fun hq => ?_) (fun hq => ?_)) (fun hv => ?_)))
  · have hq' : isr q 0 9 := hq
    rw [if_pos hv, if_pos hq'] at h
    obtain ⟨v, -, hv4, rfl⟩ := isr_nat (a := 0) (b := 4) hv (by decide) (by decide)
    obtain ⟨k, -, hk9, rfl⟩ := isr_nat hq' (by decide) (by decide)
    rw [zn_nI (show v < 2 ^ 31 by omega), zn_nI (show k < 2 ^ 31 by omega)] at h
    exact c_S_vatProperty_1 hr.1 (by omega) hk9 (h M hr (vf_refl M))
  · have hq' : ¬ isr q 0 9 := hq
    rw [if_pos hv, if_neg hq'] at h
    exact h M hr (vf_refl M)
  · rw [if_neg hv] at h
    exact h M hr (vf_refl M)
theorem open_n {k : Nat} {z : dz} (h : ib (z (57 + 6 * k + 3) ≤ zhod z ∧ zhod z ≤ z (57 + 6 * k + 4)) = 0) : ¬ zopen k z := by
  have c := ib_eq0.mp h
  exact c
theorem open_y {k : Nat} {z : dz} (h : ¬ ib (z (57 + 6 * k + 3) ≤ zhod z ∧ zhod z ≤ z (57 + 6 * k + 4)) = 0) : zopen k z := Classical.not_not.mp fun q => h (ib_eq0.mpr q)
noncomputable def ztol (k i : Nat) (z : dz) : Int32 := by
  classical exact if i < 5 then z (57 + 6 * k + i) else if i = 6 then z (57 + 6 * k + 5) else if zopen k z then nI 1 else nI 0
theorem c_S_valveProperty_1 {k i : Nat} {z : dz} {M : am_M} {K : am_Q} (hM : M 2 = zp z) (hk : k < 8) (hi : i ≤ 6) (h : K (.inl (some (.int (ztol k i z)))) M) : am_C mt_S_valveProperty [.ref 1, .int (nI k), .int (nI i)] M K := by
  have ev : nI 57 + nI k * nI 6 = nI (57 + 6 * k) := by rw [ix3', Nat.mul_comm]
  have j : ∀ a, (nI 57 + nI k * nI 6) + nI a = nI (57 + 6 * k + a) := fun a => by rw [ev, ix2]
  have lo : ∀ a, a < 5 → i = a → K (.inl (some (.int (M 2 (57 + 6 * k + a))))) M := by
    intro a ha e
    subst e
    unfold ztol at h
    rw [if_pos ha] at h
    have e2 : M 2 (57 + 6 * k + i) = z (57 + 6 * k + i) := by rw [hM]; unfold zp; rw [pz_hi (by omega)]
    rw [e2]
    exact h
  refine am_C_of_R am_S0 om_S_valveProperty rfl [.ref 1, .int (nI k), .int (nI i), .null] rfl rfl (g_S_valveProperty_0 ⟨fun c => absurd c (nI_pos (by omega)), fun c => ⟨fun c2 => g_S_valveProperty_12 ?_, fun c2 => absurd ((nI_lti (by omega) (by decide)).mpr hk) c2⟩⟩)
  refine ⟨fun c => ?_, fun c => ?_, fun c => ?_, fun c => ?_, fun c => ?_, fun c => ?_, fun c => ?_, trivial⟩
  · have e6 : i = 6 := by
      rw [nI_toInt (by omega)] at c
      omega
    subst e6
    unfold ztol at h
    rw [if_neg (by decide), if_pos rfl] at h
    have e2 : M 2 (57 + 6 * k + 5) = z (57 + 6 * k + 5) := by rw [hM]; unfold zp; rw [pz_hi (by omega)]
    rw [← e2] at h
    exact g_S_valveProperty_123 ⟨57 + 6 * k + 5, j 5, by show _ < 105; omega, h⟩
  · have ek : i = 0 := by have := sw_eq (by omega) c; omega
    exact g_S_valveProperty_60 ⟨57 + 6 * k + 0, j 0, by show _ < 105; omega, lo 0 (by decide) ek⟩
  · have ek : i = 1 := by have := sw_eq (by omega) c; omega
    exact g_S_valveProperty_69 ⟨57 + 6 * k + 1, j 1, by show _ < 105; omega, lo 1 (by decide) ek⟩
  · have ek : i = 2 := by have := sw_eq (by omega) c; omega
    exact g_S_valveProperty_78 ⟨57 + 6 * k + 2, j 2, by show _ < 105; omega, lo 2 (by decide) ek⟩
  · have ek : i = 3 := by have := sw_eq (by omega) c; omega
    exact g_S_valveProperty_87 ⟨57 + 6 * k + 3, j 3, by show _ < 105; omega, lo 3 (by decide) ek⟩
  · have ek : i = 4 := by have := sw_eq (by omega) c; omega
    exact g_S_valveProperty_96 ⟨57 + 6 * k + 4, j 4, by show _ < 105; omega, lo 4 (by decide) ek⟩
  · have ek : i = 5 := by have := sw_eq (by omega) c; omega
    subst ek
    unfold ztol at h
    rw [if_neg (by decide), if_neg (by decide)] at h
    refine g_S_valveProperty_105 (c_S_hourOfDay_1 hM ?_)
    show am_C mt_S_isOpen [.ref 1, .int (nI 57 + nI k * nI 6), .int (zhod z)] _ _
    rw [ev]
    refine c_S_isOpen_1 hM hk ⟨fun c3 => ?_, fun c3 => ?_⟩
    · have c4 : ¬ zopen k z := open_n c3
      rw [if_neg c4] at h
      exact g_S_valveProperty_121 (g_S_valveProperty_122 h)
    · have c4 : zopen k z := open_y c3
      rw [if_pos c4] at h
      exact g_S_valveProperty_122 h
theorem c_S_valveProperty_3 {k i : Nat} {z : dz} {M : am_M} {K : am_Q} (hM : M 4 = zp z) (hk : k < 8) (hi : i ≤ 6) (h : K (.inl (some (.int (ztol k i z)))) M) : am_C mt_S_valveProperty [.ref 3, .int (nI k), .int (nI i)] M K := by
  have ev : nI 57 + nI k * nI 6 = nI (57 + 6 * k) := by rw [ix3', Nat.mul_comm]
  have j : ∀ a, (nI 57 + nI k * nI 6) + nI a = nI (57 + 6 * k + a) := fun a => by rw [ev, ix2]
  have lo : ∀ a, a < 5 → i = a → K (.inl (some (.int (M 4 (57 + 6 * k + a))))) M := by
    intro a ha e
    subst e
    unfold ztol at h
    rw [if_pos ha] at h
    have e2 : M 4 (57 + 6 * k + i) = z (57 + 6 * k + i) := by rw [hM]; unfold zp; rw [pz_hi (by omega)]
    rw [e2]
    exact h
  refine am_C_of_R am_S0 om_S_valveProperty rfl [.ref 3, .int (nI k), .int (nI i), .null] rfl rfl (g_S_valveProperty_0 ⟨fun c => absurd c (nI_pos (by omega)), fun c => ⟨fun c2 => g_S_valveProperty_12 ?_, fun c2 => absurd ((nI_lti (by omega) (by decide)).mpr hk) c2⟩⟩)
  refine ⟨fun c => ?_, fun c => ?_, fun c => ?_, fun c => ?_, fun c => ?_, fun c => ?_, fun c => ?_, trivial⟩
  · have e6 : i = 6 := by
      rw [nI_toInt (by omega)] at c
      omega
    subst e6
    unfold ztol at h
    rw [if_neg (by decide), if_pos rfl] at h
    have e2 : M 4 (57 + 6 * k + 5) = z (57 + 6 * k + 5) := by rw [hM]; unfold zp; rw [pz_hi (by omega)]
    rw [← e2] at h
    exact g_S_valveProperty_123 ⟨57 + 6 * k + 5, j 5, by show _ < 105; omega, h⟩
  · have ek : i = 0 := by have := sw_eq (by omega) c; omega
    exact g_S_valveProperty_60 ⟨57 + 6 * k + 0, j 0, by show _ < 105; omega, lo 0 (by decide) ek⟩
  · have ek : i = 1 := by have := sw_eq (by omega) c; omega
    exact g_S_valveProperty_69 ⟨57 + 6 * k + 1, j 1, by show _ < 105; omega, lo 1 (by decide) ek⟩
  · have ek : i = 2 := by have := sw_eq (by omega) c; omega
    exact g_S_valveProperty_78 ⟨57 + 6 * k + 2, j 2, by show _ < 105; omega, lo 2 (by decide) ek⟩
  · have ek : i = 3 := by have := sw_eq (by omega) c; omega
    exact g_S_valveProperty_87 ⟨57 + 6 * k + 3, j 3, by show _ < 105; omega, lo 3 (by decide) ek⟩
  · have ek : i = 4 := by have := sw_eq (by omega) c; omega
    exact g_S_valveProperty_96 ⟨57 + 6 * k + 4, j 4, by show _ < 105; omega, lo 4 (by decide) ek⟩
  · have ek : i = 5 := by have := sw_eq (by omega) c; omega
    subst ek
    unfold ztol at h
    rw [if_neg (by decide), if_neg (by decide)] at h
    refine g_S_valveProperty_105 (c_S_hourOfDay_3 hM ?_)
    show am_C mt_S_isOpen [.ref 3, .int (nI 57 + nI k * nI 6), .int (zhod z)] _ _
    rw [ev]
    refine c_S_isOpen_3 hM hk ⟨fun c3 => ?_, fun c3 => ?_⟩
    · have c4 : ¬ zopen k z := open_n c3
      rw [if_neg c4] at h
      exact g_S_valveProperty_121 (g_S_valveProperty_122 h)
    · have c4 : zopen k z := open_y c3
      rw [if_pos c4] at h
      exact g_S_valveProperty_122 h
theorem c_S_valveProperty_6 {k i : Nat} {z : dz} {M : am_M} {K : am_Q} (hM : M 7 = zp z) (hk : k < 8) (hi : i ≤ 6) (h : K (.inl (some (.int (ztol k i z)))) M) : am_C mt_S_valveProperty [.ref 6, .int (nI k), .int (nI i)] M K := by
  have ev : nI 57 + nI k * nI 6 = nI (57 + 6 * k) := by rw [ix3', Nat.mul_comm]
  have j : ∀ a, (nI 57 + nI k * nI 6) + nI a = nI (57 + 6 * k + a) := fun a => by rw [ev, ix2]
  have lo : ∀ a, a < 5 → i = a → K (.inl (some (.int (M 7 (57 + 6 * k + a))))) M := by
    intro a ha e
    subst e
    unfold ztol at h
    rw [if_pos ha] at h
    have e2 : M 7 (57 + 6 * k + i) = z (57 + 6 * k + i) := by rw [hM]; unfold zp; rw [pz_hi (by omega)]
    rw [e2]
    exact h
  refine am_C_of_R am_S0 om_S_valveProperty rfl [.ref 6, .int (nI k), .int (nI i), .null] rfl rfl (g_S_valveProperty_0 ⟨fun c => absurd c (nI_pos (by omega)), fun c => ⟨fun c2 => g_S_valveProperty_12 ?_, fun c2 => absurd ((nI_lti (by omega) (by decide)).mpr hk) c2⟩⟩)
  refine ⟨fun c => ?_, fun c => ?_, fun c => ?_, fun c => ?_, fun c => ?_, fun c => ?_, fun c => ?_, trivial⟩
  · have e6 : i = 6 := by
      rw [nI_toInt (by omega)] at c
      omega
    subst e6
    unfold ztol at h
    rw [if_neg (by decide), if_pos rfl] at h
    have e2 : M 7 (57 + 6 * k + 5) = z (57 + 6 * k + 5) := by rw [hM]; unfold zp; rw [pz_hi (by omega)]
    rw [← e2] at h
    exact g_S_valveProperty_123 ⟨57 + 6 * k + 5, j 5, by show _ < 105; omega, h⟩
  · have ek : i = 0 := by have := sw_eq (by omega) c; omega
    exact g_S_valveProperty_60 ⟨57 + 6 * k + 0, j 0, by show _ < 105; omega, lo 0 (by decide) ek⟩
  · have ek : i = 1 := by have := sw_eq (by omega) c; omega
    exact g_S_valveProperty_69 ⟨57 + 6 * k + 1, j 1, by show _ < 105; omega, lo 1 (by decide) ek⟩
  · have ek : i = 2 := by have := sw_eq (by omega) c; omega
    exact g_S_valveProperty_78 ⟨57 + 6 * k + 2, j 2, by show _ < 105; omega, lo 2 (by decide) ek⟩
  · have ek : i = 3 := by have := sw_eq (by omega) c; omega
    exact g_S_valveProperty_87 ⟨57 + 6 * k + 3, j 3, by show _ < 105; omega, lo 3 (by decide) ek⟩
  · have ek : i = 4 := by have := sw_eq (by omega) c; omega
    exact g_S_valveProperty_96 ⟨57 + 6 * k + 4, j 4, by show _ < 105; omega, lo 4 (by decide) ek⟩
  · have ek : i = 5 := by have := sw_eq (by omega) c; omega
    subst ek
    unfold ztol at h
    rw [if_neg (by decide), if_neg (by decide)] at h
    refine g_S_valveProperty_105 (c_S_hourOfDay_6 hM ?_)
    show am_C mt_S_isOpen [.ref 6, .int (nI 57 + nI k * nI 6), .int (zhod z)] _ _
    rw [ev]
    refine c_S_isOpen_6 hM hk ⟨fun c3 => ?_, fun c3 => ?_⟩
    · have c4 : ¬ zopen k z := open_n c3
      rw [if_neg c4] at h
      exact g_S_valveProperty_121 (g_S_valveProperty_122 h)
    · have c4 : zopen k z := open_y c3
      rw [if_pos c4] at h
      exact g_S_valveProperty_122 h
noncomputable def m_valveOf (p q : Int32) (w : wS) : mS := if nI 0 ≤ p ∧ p ≤ w_z w 5 - nI 1 then (if isr q 0 6 then (0, ztol (zn p) (zn q) (w_z w), w) else (2, nI 0, w)) else (1, nI 0, w)
theorem c_V_valveOf {n : Nat} {p q : Int32} {w : wS} {M : am_M} {K : am_Q} (hr : vr M w) (hk : wk n w) (h : ∀ M', vr M' (m_valveOf p q w).2.2 → vf M M' → K (oV 0 (m_valveOf p q w).1 (m_valveOf p q w).2.1) M') : am_C mt_V_valveOf [.ref 0, .int p, .int q] M K := by
  obtain ⟨m, hm8, hm, -⟩ := hk.1.1.2.2.2.2.2
  unfold m_valveOf at h
  rw [hm] at h
  refine am_C_of_R am_S0 om_V_valveOf rfl [.ref 0, .int p, .int q] rfl rfl (g_V_valveOf_0 (c_V_requireValve hr hm hm8 (fun hv => c_V_requireRange (fun hq => ?_) (fun hq => ?_)) (fun hv => ?_)))
  · have hq' : isr q 0 6 := hq
    rw [if_pos hv, if_pos hq'] at h
    obtain ⟨v, hv4, rfl⟩ := isl_nat hm8 hv
    obtain ⟨k, -, hk9, rfl⟩ := isr_nat hq' (by decide) (by decide)
    rw [zn_nI (show v < 2 ^ 31 by omega), zn_nI (show k < 2 ^ 31 by omega)] at h
    exact c_S_valveProperty_1 hr.1 (by omega) hk9 (h M hr (vf_refl M))
  · have hq' : ¬ isr q 0 6 := hq
    rw [if_pos hv, if_neg hq'] at h
    exact h M hr (vf_refl M)
  · rw [if_neg hv] at h
    exact h M hr (vf_refl M)
