/-! calls: what each gives (a code of the throw, an answer, what is held behind it), and that both sides give it -/
abbrev isv (p : Int32) : Prop := nI 0 ≤ p ∧ p ≤ nI 4
abbrev isd (p : Int32) : Prop := nI 0 ≤ p ∧ p ≤ nI 2
abbrev isr (p : Int32) (a b : Nat) : Prop := nI a ≤ p ∧ p ≤ nI b
abbrev mS : Type := Nat × Int32 × wS
/-- the outcome in the class: o says which exception the first code is -/
def oV (o th : Nat) (r : Int32) : am_O := if th = 0 then .inl (some (.int r)) else .inr (am_ex (th - 1 + o))
theorem ib_y {p : Prop} [Decidable p] (h : ¬ ib p = 0) : p := Classical.not_not.mp fun z => h (ib_eq0.mpr z)
theorem ib_n {p : Prop} [Decidable p] (h : ib p = 0) : ¬ p := ib_eq0.mp h
theorem ib_nn {p : Prop} [Decidable p] (h : ¬ ¬ ib p = 0) : ¬ p := ib_eq0.mp (Classical.not_not.mp h)
theorem isr_nat {p : Int32} {a b : Nat} (h : isr p a b) (ha : a < 2 ^ 31) (hb : b < 2 ^ 31) : ∃ v, a ≤ v ∧ v ≤ b ∧ p = nI v := by
  have h1 := Int32.le_iff_toInt_le.mp h.1
  have h2 := Int32.le_iff_toInt_le.mp h.2
  rw [nI_toInt hb] at h2
  rw [nI_toInt ha] at h1
  refine ⟨p.toInt.toNat, by omega, by omega, ti_ext ?_⟩
  rw [nI_toInt (by omega)]
  omega
theorem isr_iff {v a b : Nat} (hv : v < 2 ^ 31) (ha : a < 2 ^ 31) (hb : b < 2 ^ 31) : isr (nI v) a b ↔ a ≤ v ∧ v ≤ b := by
  unfold isr
  rw [Int32.le_iff_toInt_le, Int32.le_iff_toInt_le, nI_toInt hv, nI_toInt ha, nI_toInt hb]
  omega
theorem lt_n1 {p : Int32} {n : Nat} (hn : n + 1 < 2 ^ 31) : p < nI (n + 1) ↔ p ≤ nI n := by
  rw [Int32.lt_iff_toInt_lt, Int32.le_iff_toInt_le, nI_toInt hn, nI_toInt (by omega)]
  omega
theorem c_V_requireVat {p : Int32} {M : am_M} {K : am_Q} (h1 : isv p → K (.inl none) M) (h2 : ¬ isv p → K (.inr (am_ex 0)) M) : am_C mt_V_requireVat [.int p] M K :=
  am_C_of_R am_S0 om_V_requireVat rfl [.int p] rfl rfl (g_V_requireVat_0 ⟨fun c => g_V_requireVat_9 (h2 fun q => Int32.not_le.mpr c q.1), fun c => ⟨fun c2 => g_V_requireVat_19 (h1 ⟨Int32.not_lt.mp c, (lt_n1 (by decide)).mp c2⟩), fun c2 => g_V_requireVat_9 (h2 fun q => c2 ((lt_n1 (by decide)).mpr q.2))⟩⟩)
theorem c_V_requireDye {p : Int32} {M : am_M} {K : am_Q} (h1 : isd p → K (.inl none) M) (h2 : ¬ isd p → K (.inr (am_ex 0)) M) : am_C mt_V_requireDye [.int p] M K :=
  am_C_of_R am_S0 om_V_requireDye rfl [.int p] rfl rfl (g_V_requireDye_0 ⟨fun c => g_V_requireDye_9 (h2 fun q => Int32.not_le.mpr c q.1), fun c => ⟨fun c2 => g_V_requireDye_19 (h1 ⟨Int32.not_lt.mp c, (lt_n1 (by decide)).mp c2⟩), fun c2 => g_V_requireDye_9 (h2 fun q => c2 ((lt_n1 (by decide)).mpr q.2))⟩⟩)
theorem c_V_requireRange {p a b : Int32} {M : am_M} {K : am_Q} (h1 : a ≤ p ∧ p ≤ b → K (.inl none) M) (h2 : ¬ (a ≤ p ∧ p ≤ b) → K (.inr (am_ex 1)) M) : am_C mt_V_requireRange [.int p, .int a, .int b] M K :=
  am_C_of_R am_S0 om_V_requireRange rfl [.int p, .int a, .int b] rfl rfl (g_V_requireRange_0 ⟨fun c => g_V_requireRange_10 (h2 fun q => Int32.not_le.mpr c q.1), fun c => ⟨fun c2 => g_V_requireRange_20 (h1 ⟨Int32.not_lt.mp c, c2⟩), fun c2 => g_V_requireRange_10 (h2 fun q => c2 q.2)⟩⟩)
theorem c_V_refuse {w : wS} {M : am_M} {K : am_Q} (hr : vr M w) (h : ∀ M', vr M' (w_setz w (zadd (w_z w) 4 (nI 1))) → vf M M' → K (.inl (some (.int (-nI 1)))) M') : am_C mt_V_refuse [.ref 0] M K := by
  refine am_C_of_R am_S0 om_V_refuse rfl [.ref 0] rfl rfl (g_V_refuse_0 ⟨55, rfl, by decide, 55, rfl, by decide, h _ ?_ (vf_set (vf_refl M) (by decide))⟩)
  have e : upd (M 2) 55 (M 2 55 + nI 1) = zp (zadd (w_z w) 4 (nI 1)) := by rw [hr.1]; exact zp_add (w_z w) 55 (nI 1)
  show vr (am_set M 2 (upd (M 2) 55 (M 2 55 + nI 1))) _
  rw [e]
  exact vr_setz hr
def zpk (z : dz) : Prop := ∃ m : Nat → Nat, (∀ v, v < 5 → z (6 + v) = nI (m v) ∧ m v < 32 ∧ (m v).testBit v = false) ∧ ∀ v, v < 5 → ∀ u, u < 5 → (m v).testBit u = (m u).testBit v
/-- a state that calls can come to -/
def zko (n : Nat) (z : dz) : Prop := zok z ∧ (z 3).toInt ≤ 2000 * n ∧ (0 ≤ (z 0).toInt ∧ (z 0).toInt ≤ 99999) ∧ zpk z
def wk (n : Nat) (w : wS) : Prop := zko n (w_z w) ∧ (∀ j, j < w_s w → zko n (w_sv w j)) ∧ (∀ j, j < 2 → w_kp w j = true → zko n (w_sl w j)) ∧ w_s w ≤ 6 ∧ w_ln w ≤ 60 ∧ ∀ k, k < w_ln w → ∃ c, 33 ≤ c ∧ c ≤ 126 ∧ w_tx w k = nI c
theorem zko_le {n m : Nat} {z : dz} (h : zko n z) (hm : n ≤ m) : zko m z := ⟨h.1, by have := h.2.1; omega, h.2.2⟩
theorem wk_le {n m : Nat} {w : wS} (h : wk n w) (hm : n ≤ m) : wk m w := ⟨zko_le h.1 hm, fun j hj => zko_le (h.2.1 j hj) hm, fun j hj hk => zko_le (h.2.2.1 j hj hk) hm, h.2.2.2⟩
theorem wk_rec {n : Nat} {w : wS} (h : wk n w) : wk n (w_rec w) := by
  obtain ⟨h1, h2, h3, h4, h5⟩ := h
  refine ⟨h1, ?_, h3, ?_, h5⟩
  · intro j hj
    have hj' : j < w_at w + 1 := hj
    show zko n (if j = w_at w then w_z w else if w_s w = 6 then w_sv w (j + 1) else w_sv w j)
    by_cases c : j = w_at w
    · rw [if_pos c]; exact h1
    · rw [if_neg c]
      unfold w_at at hj' c
      by_cases c6 : w_s w = 6
      · rw [if_pos c6] at hj' c ⊢
        exact h2 _ (by omega)
      · rw [if_neg c6] at hj' c ⊢
        exact h2 _ (by omega)
  · show w_at w + 1 ≤ 6
    unfold w_at
    split <;> omega
theorem wk_setz {n : Nat} {w : wS} {z : dz} (h : wk n w) (hz : zko n z) : wk n (w_setz w z) := ⟨hz, h.2⟩
def m_fill (p q : Int32) (w : wS) : mS :=
  if isv p then (if isr q 1 2000 then (if w_z w (17 + 8 * zn p) < w_z w (18 + 8 * zn p) + q then (0, -nI 1, w_setz (w_rec w) (zadd (w_z w) 4 (nI 1))) else (0, w_z w (18 + 8 * zn p) + q, w_setz (w_rec w) (zadd (zadd (w_z w) (18 + 8 * zn p) q) 3 q))) else (2, nI 0, w)) else (1, nI 0, w)
theorem c_V_fill {n : Nat} {p q : Int32} {w : wS} {M : am_M} {K : am_Q} (hr : vr M w) (hk : wk n w) (h : ∀ M', vr M' (m_fill p q w).2.2 → vf M M' → K (oV 0 (m_fill p q w).1 (m_fill p q w).2.1) M') : am_C mt_V_fill [.ref 0, .int p, .int q] M K := by
  unfold m_fill at h
  refine am_C_of_R am_S0 om_V_fill rfl [.ref 0, .int p, .int q] rfl rfl (g_V_fill_0 (c_V_requireVat (fun hv => c_V_requireRange (fun hq => ?_) (fun hq => ?_)) (fun hv => ?_)))
  · have hq' : isr q 1 2000 := hq
    rw [if_pos hv, if_pos hq'] at h
    obtain ⟨v, -, hv4, rfl⟩ := isr_nat hv (by decide) (by decide)
    rw [zn_nI (by omega)] at h
    refine c_V_saveState hr (fun M' r1 r2 r3 _ => ?_)
    obtain ⟨b1, b2, b3⟩ := hk.1.1.1 v (by omega)
    have q1 := Int32.le_iff_toInt_le.mp hq'.1
    have q2 := Int32.le_iff_toInt_le.mp hq'.2
    rw [nI_toInt (by decide)] at q1 q2
    have ez : M' 2 = zp (w_z w) := r1.1
    have ec : M' 2 (0 + v) = w_z w (17 + 8 * v) := by rw [ez, Nat.zero_add]; unfold zp; rw [pz_c (by omega)]
    have ew : M' 2 (10 + v) = w_z w (18 + 8 * v) := by rw [ez]; unfold zp; rw [pz_w (by omega)]
    have t1 := ti_sub (a := w_z w (17 + 8 * v)) (b := w_z w (18 + 8 * v)) (by omega) (by omega)
    have t2 := ti_add (a := w_z w (18 + 8 * v)) (b := q) (by omega) (by omega)
    refine ⟨0 + v, ix2 0 v, by show _ < 105; omega, 10 + v, ix2 10 v, by show _ < 105; omega, fun c => ?_, fun c => ?_⟩
    · have c5 : ¬ w_z w (17 + 8 * v) < w_z w (18 + 8 * v) + q := by
        rw [← ec, ← ew]
        intro c6
        have c7 := Int32.le_iff_toInt_le.mp (show q ≤ M' 2 (0 + v) - M' 2 (10 + v) from c)
        have c8 := ti_lt.mp c6
        rw [ec, ew] at c7 c8
        omega
      rw [if_neg c5] at h
      refine g_V_fill_49 ⟨10 + v, ix2 10 v, by show _ < 105; omega, 10 + v, ix2 10 v, by show _ < 105; omega, 53, rfl, by decide, 53, rfl, by decide, 10 + v, ix2 10 v, by show _ < 105; omega, ?_⟩
      simp only [am_set_set]
      have e : upd (upd (M' 2) (10 + v) (M' 2 (10 + v) + q)) 53 (upd (M' 2) (10 + v) (M' 2 (10 + v) + q) 53 + q) = zp (zadd (zadd (w_z w) (18 + 8 * v) q) 3 q) := by
        rw [ez, zp_add, pz_w (by omega)]
        exact zp_add _ 53 q
      have e2 : upd (upd (M' 2) (10 + v) (M' 2 (10 + v) + q)) 53 (upd (M' 2) (10 + v) (M' 2 (10 + v) + q) 53 + q) (10 + v) = w_z w (18 + 8 * v) + q := by
        rw [upd_ne _ _ (by omega), upd_eq, ew]
      rw [← e2] at h
      refine h _ ?_ (vf_set r2 (by decide))
      show vr (am_set M' 2 (upd (upd (M' 2) (10 + v) (M' 2 (10 + v) + q)) 53 (upd (M' 2) (10 + v) (M' 2 (10 + v) + q) 53 + q))) _
      rw [e]
      exact vr_setz r1
    · have c5 : w_z w (17 + 8 * v) < w_z w (18 + 8 * v) + q := by
        rw [← ec, ← ew]
        refine ti_lt.mpr ?_
        have c7 : ¬ q ≤ M' 2 (0 + v) - M' 2 (10 + v) := c
        rw [Int32.le_iff_toInt_le] at c7
        rw [ec, ew] at c7 ⊢
        omega
      rw [if_pos c5] at h
      exact c_V_refuse r1 (fun M2 s1 s2 => h M2 s1 (vf_trans r2 s2))
  · have hq' : ¬ isr q 1 2000 := hq
    rw [if_pos hv, if_neg hq'] at h
    exact h M hr (vf_refl M)
  · rw [if_neg hv] at h
    exact h M hr (vf_refl M)
