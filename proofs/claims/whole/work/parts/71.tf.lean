/-! the reference reads a rate and an hour -/
def tRI (tx : Nat → Nat) (ln e : Nat) (r : Nat → Nat) (M : am_M) (i m : Nat) (r' : Nat → Nat) (M' : am_M) : Prop := i ≤ ln ∧ tgo tx i = (i, e, 2, some m, r') ∧ (1 ≤ m ∧ m ≤ 500) ∧ (∀ k, k < 5 * e + 2 → r' k = r k) ∧ rP M' i 0 e ∧ M' 17 16 = nI m ∧ rF M M' ∧ M' 25 = M 25
theorem c_Z_takeRate {tx : Nat → Nat} {ln i e : Nat} {r : Nat → Nat} {M : am_M} {K : am_Q} (hH : tH M tx ln) (hp : rP M i 0 e) (hil : i ≤ ln) (hg : tgo tx i = (i, e, 2, none, r)) (hok : ∀ i' m r', tgo tx i' = (i', e, 2, some m, r') → i' ≤ ln → (∀ d, tsg tx ln i' = 48 + d → d ≤ 9 → tstep (tx i') (e, 2, some m, r') = none) → 1 ≤ m → m ≤ 500 → (∀ k, k < 5 * e + 2 → r' k = r k) → ∀ M', rP M' i' 0 e → M' 17 16 = nI m → rF M M' → M' 25 = M 25 → K (.inl none) M') (hno : tD tx ln i → ∀ M', rP M' i 1 e → rF M M' → M' 25 = M 25 → K (.inl none) M') : am_C mt_Z_takeRate [.ref 17] M K := by
  have hln := hH.2.1
  have walk : ∀ i' m r' M', tRI tx ln e r M i' m r' M' → (i' < ln → ∀ m2 r2 M2, tRI tx ln e r M (i' + 1) m2 r2 M2 → am_R am_S0 mt_Z_takeRate 1 25 [.ref 17] [] M2 K) → am_R am_S0 mt_Z_takeRate 1 25 [.ref 17] [] M' K := by
    intro i' m r' M' hF hn
    obtain ⟨b1, b2, b3, b4, b5, b6, b7, b8⟩ := hF
    have hH' := tH_rF hH b7
    have hs := tsg_le (i := i') hH'
    have fin : (∀ d, tsg tx ln i' = 48 + d → d ≤ 9 → tstep (tx i') (e, 2, some m, r') = none) → am_R am_S0 mt_Z_takeRate 1 99 [.ref 17] [] M' K := fun hcl => g_Z_takeRate_99 (hok i' m r' b2 b1 hcl b3.1 b3.2 b4 M' b5 b6 b7 b8)
    refine g_Z_takeRate_25 ⟨fun c => absurd b5.2.1 c, fun _ => c_Z_sign hH' b5.1 (by omega) (c_Z_in ⟨fun c => ?_, fun c => c_Z_sign hH' b5.1 (by omega) ⟨fun c2 => ?_, fun c2 => c_Z_sign hH' b5.1 (by omega) ?_⟩⟩)⟩
    · have c' : ¬ isr (nI (tsg tx ln i')) 48 57 := ib_n c
      rw [isr_iff (by omega) (by decide) (by decide)] at c'
      exact fin (fun d q1 q2 => absurd ⟨by omega, by omega⟩ c')
    · have c' : isr (nI (tsg tx ln i')) 48 57 := ib_y c
      rw [isr_iff (by omega) (by decide) (by decide)] at c'
      have c2' : nI 500 < nI 10 * M' 17 16 + nI (tsg tx ln i') - nI 48 := c2
      rw [b6, pk_mul, nI_add, nI_subk (by omega)] at c2'
      have := (nI_lti (by decide) (by omega)).mp c2'
      obtain ⟨s1, s2⟩ := tsg_lt (tx := tx) (ln := ln) (i := i') (by omega)
      refine fin (fun d q1 q2 => ts_dno (by omega) (fun z => ?_))
      have z2 := tcan_most z.2
      have e1 : tlong (some m) (tx i' - 48) = m * 10 + (tx i' - 48) := rfl
      have e2 : tmost 2 = 500 := rfl
      omega
    · have c' : isr (nI (tsg tx ln i')) 48 57 := ib_y c
      rw [isr_iff (by omega) (by decide) (by decide)] at c'
      have c2' : ¬ nI 500 < nI 10 * M' 17 16 + nI (tsg tx ln i') - nI 48 := c2
      have ev : nI 10 * M' 17 16 + nI (tsg tx ln i') - nI 48 = nI (10 * m + tsg tx ln i' - 48) := by rw [b6, pk_mul, nI_add, nI_subk (by omega)]
      rw [ev] at c2'
      have hle : ¬ 500 < 10 * m + tsg tx ln i' - 48 := fun z => c2' ((nI_lti (by decide) (by omega)).mpr z)
      obtain ⟨s1, s2⟩ := tsg_lt (tx := tx) (ln := ln) (i := i') (by omega)
      show am_R am_S0 mt_Z_takeRate 1 25 [.ref 17] [] (am_set (am_set M' 17 (upd (M' 17) 16 (nI 10 * M' 17 16 + nI (tsg tx ln i') - nI 48))) 17 (upd (upd (M' 17) 16 (nI 10 * M' 17 16 + nI (tsg tx ln i') - nI 48)) 14 (upd (M' 17) 16 (nI 10 * M' 17 16 + nI (tsg tx ln i') - nI 48) 14 + nI 1))) K
      rw [ev]
      have es : tlong (some m) (tx i' - 48) = 10 * m + tsg tx ln i' - 48 := by show m * 10 + (tx i' - 48) = _; omega
      refine hn s1 (10 * m + tsg tx ln i' - 48) (trw r' (5 * e + 2) (10 * m + tsg tx ln i' - 48)) _ ⟨s1, tgo_ok b2 (ts_dig (by omega) es (fun q => by have := Option.some.inj q; omega) ⟨fun q => absurd q.1 (by decide), Or.inr ⟨by omega, Or.inl ⟨by show _ ≤ 500; omega, by show 1 ≤ _; omega⟩⟩⟩), by omega, fun k hk => ?_, ⟨?_, ?_, ?_⟩, ?_, rF_17 (rF_17 b7 (by decide)) (by decide), b8⟩
      · rw [trw_ne _ _ (by omega)]
        exact b4 k hk
      · show upd (upd (M' 17) 16 (nI (10 * m + tsg tx ln i' - 48))) 14 (upd (M' 17) 16 (nI (10 * m + tsg tx ln i' - 48)) 14 + nI 1) 14 = _
        rw [upd_eq, upd_ne _ _ (by decide), b5.1, nI_add]
      · show upd (upd (M' 17) 16 (nI (10 * m + tsg tx ln i' - 48))) 14 (upd (M' 17) 16 (nI (10 * m + tsg tx ln i' - 48)) 14 + nI 1) 15 = _
        rw [upd_ne _ _ (by decide), upd_ne _ _ (by decide)]
        exact b5.2.1
      · show upd (upd (M' 17) 16 (nI (10 * m + tsg tx ln i' - 48))) 14 (upd (M' 17) 16 (nI (10 * m + tsg tx ln i' - 48)) 14 + nI 1) 13 = _
        rw [upd_ne _ _ (by decide), upd_ne _ _ (by decide)]
        exact b5.2.2
      · show upd (upd (M' 17) 16 (nI (10 * m + tsg tx ln i' - 48))) 14 (upd (M' 17) 16 (nI (10 * m + tsg tx ln i' - 48)) 14 + nI 1) 16 = _
        rw [upd_ne _ _ (by decide), upd_eq]
  have loop : ∀ i', i' ≤ ln → ∀ m r' M', tRI tx ln e r M i' m r' M' → am_R am_S0 mt_Z_takeRate 1 25 [.ref 17] [] M' K := by
    intro i' hi'
    refine lu' (P := fun i' => ∀ m r' M', tRI tx ln e r M i' m r' M' → am_R am_S0 mt_Z_takeRate 1 25 [.ref 17] [] M' K) i' ln hi' ?_ ?_
    · intro m r' M' hF
      exact walk ln m r' M' hF (fun q => absurd q (Nat.lt_irrefl _))
    · intro j _ _ ih m r' M' hF
      exact walk j m r' M' hF (fun _ => ih)
  have hs := tsg_le (i := i) hH
  have f1 : rF M (am_set M 17 (upd (M 17) 16 (nI (tsg tx ln i) - nI 48))) := rF_17 (rF_refl M) (by decide)
  have p1 : rP (am_set M 17 (upd (M 17) 16 (nI (tsg tx ln i) - nI 48))) i 0 e := rP_num hp
  have n1 : am_set M 17 (upd (M 17) 16 (nI (tsg tx ln i) - nI 48)) 17 16 = nI (tsg tx ln i) - nI 48 := upd_eq (M 17) 16 _
  refine am_C_of_R am_S0 om_Z_takeRate rfl [.ref 17] rfl rfl (g_Z_takeRate_0 (c_Z_sign hH hp.1 (by omega) (c_Z_in ?_)))
  show am_C mt_Z_take [.ref 17, .int (ib (nI 1 ≤ upd (M 17) 16 (nI (tsg tx ln i) - nI 48) 16 ∧ upd (M 17) 16 (nI (tsg tx ln i) - nI 48) 16 ≤ nI 9))] (am_set M 17 (upd (M 17) 16 (nI (tsg tx ln i) - nI 48))) _
  by_cases hd : nI 1 ≤ upd (M 17) 16 (nI (tsg tx ln i) - nI 48) 16 ∧ upd (M 17) 16 (nI (tsg tx ln i) - nI 48) 16 ≤ nI 9
  · rw [ib_t hd]
    rw [upd_eq, tin hs (by decide) (by decide)] at hd
    obtain ⟨s1, s2⟩ := tsg_lt (tx := tx) (ln := ln) (i := i) (by omega)
    have es : tlong none (tx i - 48) = tsg tx ln i - 48 := by show tx i - 48 = _; omega
    refine c_Z_take_ok p1 (fun M' a b n d => loop (i + 1) s1 (tsg tx ln i - 48) (trw r (5 * e + 2) (tsg tx ln i - 48)) M' ⟨s1, tgo_ok hg (ts_dig (by omega) es (fun q => by cases q) ⟨fun q => absurd q.1 (by decide), Or.inr ⟨by omega, Or.inl ⟨by show _ ≤ 500; omega, by show 1 ≤ _; omega⟩⟩⟩), by omega, fun k hk => trw_ne _ _ (by omega), a, ?_, rF_trans f1 b, d⟩)
    exact n.trans (n1.trans (nI_subk (by omega)))
  · rw [ib_f hd]
    rw [upd_eq, tin hs (by decide) (by decide)] at hd
    have hD : tD tx ln i := by
      refine tD_of hil hg (fun q => ?_) (fun z => ?_)
      · have et : tx i = tsg tx ln i := by unfold tsg; rw [if_pos q]
        by_cases hc : 48 ≤ tx i ∧ tx i ≤ 57
        · have e0 : tlong none (tx i - 48) = 0 := by show tx i - 48 = 0; omega
          refine ts_dno hc (fun z => ?_)
          rw [e0] at z
          have e1 : tlow 2 (r (5 * e + 3)) = 1 := rfl
          rcases z.2.2 with z | z
          · omega
          · exact z.1 rfl
        · exact ts_non hc
      · obtain ⟨z, _⟩ := z
        have z' : (2 : Nat) = 4 := z
        omega
    refine c_Z_take_no p1 (Or.inr ⟨rfl, rfl⟩) (fun M' a b d => g_Z_takeRate_25 ⟨fun c => g_Z_takeRate_99 (hno hD M' a (rF_trans f1 b) d), fun c => ?_⟩)
    have c' : M' 17 15 = 0 := Classical.not_not.mp c
    rw [a.2.1] at c'
    exact absurd c' nI1_ne
theorem c_Z_canGoOn {d lo hi : Nat} {M : am_M} {K : am_Q} (hd : d ≤ 100) (hlo : lo ≤ 1000) (hhi : hi ≤ 1000) (h1 : 0 < d ∧ 10 * d ≤ hi ∧ lo ≤ 10 * d + 9 → K (.inl (some (.int (nI 1)))) M) (h0 : ¬ (0 < d ∧ 10 * d ≤ hi ∧ lo ≤ 10 * d + 9) → K (.inl (some (.int (nI 0)))) M) : am_C mt_Z_canGoOn [.int (nI d), .int (nI lo), .int (nI hi)] M K := by
  refine am_C_of_R am_S0 om_Z_canGoOn rfl [.int (nI d), .int (nI lo), .int (nI hi)] rfl rfl (g_Z_canGoOn_0 ⟨fun c => g_Z_canGoOn_27 (g_Z_canGoOn_28 ⟨Or.inl rfl, h0 ?_⟩), fun c => ⟨fun c2 => g_Z_canGoOn_27 (g_Z_canGoOn_28 ⟨Or.inl rfl, h0 ?_⟩), fun c2 => ⟨fun c3 => g_Z_canGoOn_27 (g_Z_canGoOn_28 ⟨Or.inl rfl, h0 ?_⟩), fun c3 => g_Z_canGoOn_28 ⟨Or.inr rfl, h1 ?_⟩⟩⟩⟩)
  · have c' : nI d ≤ nI 0 := c
    intro q
    exact i_nge q.1 (by omega) c'
  · have c' : nI hi < nI 10 * nI d := c2
    rw [pk_mul] at c'
    have := (nI_lti (by omega) (by omega)).mp c'
    omega
  · have c' : nI 10 * nI d + nI 9 < nI lo := c3
    rw [pk_mul, nI_add] at c'
    have := (nI_lti (by omega) (by omega)).mp c'
    omega
  · have c1' : ¬ nI d ≤ nI 0 := c
    have c2' : ¬ nI hi < nI 10 * nI d := c2
    have c3' : ¬ nI 10 * nI d + nI 9 < nI lo := c3
    rw [pk_mul] at c2' c3'
    rw [nI_add] at c3'
    have a1 : ¬ d ≤ 0 := fun q => c1' (i_le q (by decide))
    have a2 : ¬ hi < 10 * d := fun q => c2' ((nI_lti (by omega) (by omega)).mpr q)
    have a3 : ¬ 10 * d + 9 < lo := fun q => c3' ((nI_lti (by omega) (by omega)).mpr q)
    omega
theorem c_Z_takeHour {tx : Nat → Nat} {ln i e p low : Nat} {r : Nat → Nat} {M : am_M} {K : am_Q} (hH : tH M tx ln) (hp : rP M i 0 e) (hil : i ≤ ln) (hg : tgo tx i = (i, e, p, none, r)) (hp34 : p = 3 ∨ p = 4) (hlow : tlow p (r (5 * e + 3)) = low) (hl23 : low ≤ 23) (hok : ∀ i' m r', tgo tx i' = (i', e, p, some m, r') → i' ≤ ln → (∀ d, tsg tx ln i' = 48 + d → d ≤ 9 → tstep (tx i') (e, p, some m, r') = none) → low ≤ m → m ≤ 23 → (∀ k, k < 5 * e + p → r' k = r k) → ∀ M', rP M' i' 0 e → M' 17 16 = nI m → rF M M' → M' 25 = M 25 → K (.inl none) M') (hno : ∀ i', tD tx ln i' → ∀ M', rP M' i' 1 e → rF M M' → M' 25 = M 25 → K (.inl none) M') : am_C mt_Z_takeHour [.ref 17, .int (nI low)] M K := by
  have hln := hH.2.1
  have hs := tsg_le (i := i) hH
  have hmp : tmost p = 23 := by rcases hp34 with rfl | rfl <;> rfl
  have bad : ∀ (x b y : Int32) M' i', tD tx ln i' → rP M' i' 1 e → rF M M' → M' 25 = M 25 → am_R am_S0 mt_Z_takeHour 1 141 [.ref 17, .int (nI low), .int (nI 23), .int x, .int b, .int y] [] M' K := by
    intro x b y M' i' hD a f d
    refine g_Z_takeHour_141 ⟨fun _ => g_Z_takeHour_154 (g_Z_takeHour_159 ⟨Or.inr rfl, g_Z_takeHour_162 (hno i' hD _ ⟨?_, ?_, ?_⟩ (rF_17 f (by decide)) d)⟩), fun c => ?_⟩
    · show upd (M' 17) 15 (nI 1) 14 = _
      rw [upd_ne _ _ (by decide)]; exact a.1
    · exact upd_eq (M' 17) 15 (nI 1)
    · show upd (M' 17) 15 (nI 1) 13 = _
      rw [upd_ne _ _ (by decide)]; exact a.2.2
    · have c' : M' 17 15 = 0 := Classical.not_not.mp c
      rw [a.2.1] at c'
      exact absurd c' nI1_ne
  -- nothing is taken
  have no67 : ∀ x b, tD tx ln i → am_R am_S0 mt_Z_takeHour 1 67 [.ref 17, .int (nI low), .int (nI 23), .int x, .int b, .null] [.ref 17] (am_set M 17 (upd (M 17) 16 x)) K := by
    intro x b hD
    have f1 : rF M (am_set M 17 (upd (M 17) 16 x)) := rF_17 (rF_refl M) (by decide)
    refine g_Z_takeHour_67 (g_Z_takeHour_68 (c_Z_take_no (rP_num hp) (Or.inr ⟨rfl, rfl⟩) (fun M' a b2 d => ?_)))
    have f2 := rF_trans f1 b2
    refine c_Z_sign (tH_rF hH f2) a.1 (by omega) ⟨fun _ => bad _ _ _ M' i hD a f2 d, fun c => ?_⟩
    have c' : M' 17 15 = 0 := Classical.not_not.mp c
    rw [a.2.1] at c'
    exact absurd c' nI1_ne
  have ok68 : ∀ d b, tsg tx ln i = 48 + d → d ≤ 9 → (b = nI 0 ∨ b = nI 1) → (b = nI 1 ↔ low ≤ d) → (low ≤ d ∨ (0 < d ∧ 10 * d ≤ 23 ∧ low ≤ 10 * d + 9)) → am_R am_S0 mt_Z_takeHour 1 68 [.ref 17, .int (nI low), .int (nI 23), .int (nI d), .int b, .null] [.int (nI 1), .ref 17] (am_set M 17 (upd (M 17) 16 (nI d))) K := by
    intro d b hd hd9 hb01 hb hacc
    have f1 : rF M (am_set M 17 (upd (M 17) 16 (nI d))) := rF_17 (rF_refl M) (by decide)
    obtain ⟨s1, s2⟩ := tsg_lt (tx := tx) (ln := ln) (i := i) (by omega)
    have es : tlong none (tx i - 48) = d := by show tx i - 48 = _; omega
    have hcan : tcan p (r (5 * e)) (r (5 * e + 3)) d := by
      refine ⟨fun q => by omega, ?_⟩
      rw [hlow, hmp]
      omega
    have g1 := tgo_ok hg (ts_dig (by omega) es (fun q => by cases q) hcan)
    have hlow1 : tlow p (trw r (5 * e + p) d (5 * e + 3)) = low := by
      rcases hp34 with rfl | rfl
      · exact hlow
      · rw [trw_ne _ _ (by omega)]
        exact hlow
    refine g_Z_takeHour_68 (c_Z_take_ok (rP_num hp) (fun M' a f n d25 => ?_))
    have f2 := rF_trans f1 f
    have hH' := tH_rF hH f2
    have hs2 := tsg_le (i := i + 1) hH'
    have one : ∀ y, (∀ d2, tsg tx ln (i + 1) = 48 + d2 → d2 ≤ 9 → tstep (tx (i + 1)) (e, p, some d, trw r (5 * e + p) d) = none) → am_R am_S0 mt_Z_takeHour 1 141 [.ref 17, .int (nI low), .int (nI 23), .int (nI d), .int b, .int y] [] M' K := by
      intro y hcl
      refine g_Z_takeHour_141 ⟨fun c => absurd a.2.1 c, fun _ => ⟨fun c => ?_, fun c => ?_⟩⟩
      · have c' : ¬ b = 0 := c
        have hb1 : b = nI 1 := hb01.resolve_left (fun q => c' (q.trans nI_0))
        refine g_Z_takeHour_158 (g_Z_takeHour_159 ⟨Or.inl rfl, g_Z_takeHour_162 (hok (i + 1) d _ g1 s1 hcl (hb.mp hb1) (by omega) (fun k hk => trw_ne _ _ (by omega)) _ ⟨?_, ?_, ?_⟩ ?_ (rF_17 f2 (by decide)) d25)⟩)
        · show upd (M' 17) 15 (nI 0) 14 = _
          rw [upd_ne _ _ (by decide)]; exact a.1
        · exact upd_eq (M' 17) 15 (nI 0)
        · show upd (M' 17) 15 (nI 0) 13 = _
          rw [upd_ne _ _ (by decide)]; exact a.2.2
        · show upd (M' 17) 15 (nI 0) 16 = _
          rw [upd_ne _ _ (by decide)]; exact n.trans (upd_eq (M 17) 16 (nI d))
      · have c' : b = 0 := Classical.not_not.mp c
        have hb0 : ¬ low ≤ d := fun q => nI1_ne ((hb.mpr q).symm.trans c')
        have hD : tD tx ln (i + 1) := by
          refine tD_of s1 g1 (fun q => ?_) (fun z => ?_)
          · have et : tx (i + 1) = tsg tx ln (i + 1) := by unfold tsg; rw [if_pos q]
            by_cases hc : 48 ≤ tx (i + 1) ∧ tx (i + 1) ≤ 57
            · exact hcl (tx (i + 1) - 48) (by omega) (by omega)
            · refine ts_sno hc (fun z => hb0 ?_)
              rw [hlow1] at z
              exact z.2.1
          · obtain ⟨z1, m, z2, z3, _⟩ := z
            have z1' : p = 4 := z1
            have z2' : d = m := Option.some.inj z2
            subst z1'
            subst z2'
            have z3' : tlow 4 (trw r (5 * e + 4) d (5 * e + 3)) ≤ d := z3
            rw [hlow1] at z3'
            exact hb0 z3'
        refine g_Z_takeHour_154 (g_Z_takeHour_159 ⟨Or.inr rfl, g_Z_takeHour_162 (hno (i + 1) hD _ ⟨?_, ?_, ?_⟩ (rF_17 f2 (by decide)) d25)⟩)
        · show upd (M' 17) 15 (nI 1) 14 = _
          rw [upd_ne _ _ (by decide)]; exact a.1
        · exact upd_eq (M' 17) 15 (nI 1)
        · show upd (M' 17) 15 (nI 1) 13 = _
          rw [upd_ne _ _ (by decide)]; exact a.2.2
    have ev : 48 ≤ tsg tx ln (i + 1) → nI 10 * nI d + (nI (tsg tx ln (i + 1)) - nI 48) = nI (10 * d + (tsg tx ln (i + 1) - 48)) := fun q => by rw [nI_subk q, pk_mul, nI_add]
    refine c_Z_sign hH' a.1 (by omega) ⟨fun c => absurd a.2.1 c, fun _ => ⟨fun c => one _ (fun d2 q1 q2 => ?_), fun c => c_Z_in ⟨fun c2 => one _ (fun d2 q1 q2 => ?_), fun c2 => c_Z_in ⟨fun c3 => one _ (fun d2 q1 q2 => ?_), fun c3 => ?_⟩⟩⟩⟩
    · have c' : nI d ≤ nI 0 := c
      have d0 : d = 0 := Nat.le_zero.mp (Nat.le_of_not_lt (fun q => i_nge q (by omega) c'))
      obtain ⟨s3, s4⟩ := tsg_lt (tx := tx) (ln := ln) (i := i + 1) (by omega)
      exact ts_dno (by omega) (fun z => z.1 (by rw [d0]))
    · have c' : ¬ (nI 0 ≤ nI (tsg tx ln (i + 1)) - nI 48 ∧ nI (tsg tx ln (i + 1)) - nI 48 ≤ nI 9) := ib_n c2
      rw [tin hs2 (by decide) (by decide)] at c'
      exact absurd ⟨by omega, by omega⟩ c'
    · have c' : ¬ (nI low ≤ nI 10 * nI d + (nI (tsg tx ln (i + 1)) - nI 48) ∧ nI 10 * nI d + (nI (tsg tx ln (i + 1)) - nI 48) ≤ nI 23) := ib_n c3
      rw [ev (by omega)] at c'
      have c'' : ¬ (low ≤ 10 * d + (tsg tx ln (i + 1) - 48) ∧ 10 * d + (tsg tx ln (i + 1) - 48) ≤ 23) := fun q => c' ((isr_iff (by omega) (by omega) (by decide)).mpr q)
      have hd0 : ¬ nI d ≤ nI 0 := c
      have hd1 : 1 ≤ d := Nat.succ_le_of_lt (Nat.lt_of_not_le (fun q => hd0 (i_le q (by decide))))
      obtain ⟨s3, s4⟩ := tsg_lt (tx := tx) (ln := ln) (i := i + 1) (by omega)
      refine ts_dno (by omega) (fun z => ?_)
      have es2 : tlong (some d) (tx (i + 1) - 48) = d * 10 + (tx (i + 1) - 48) := rfl
      have z2 := z.2.2
      rw [es2, hlow1, hmp] at z2
      omega
    · have c2' : nI 0 ≤ nI (tsg tx ln (i + 1)) - nI 48 ∧ nI (tsg tx ln (i + 1)) - nI 48 ≤ nI 9 := ib_y c2
      rw [tin hs2 (by decide) (by decide)] at c2'
      have c' : nI low ≤ nI 10 * nI d + (nI (tsg tx ln (i + 1)) - nI 48) ∧ nI 10 * nI d + (nI (tsg tx ln (i + 1)) - nI 48) ≤ nI 23 := ib_y c3
      have ev' := ev (by omega)
      rw [ev'] at c'
      have c'' : low ≤ 10 * d + (tsg tx ln (i + 1) - 48) ∧ 10 * d + (tsg tx ln (i + 1) - 48) ≤ 23 := (isr_iff (by omega) (by omega) (by decide)).mp c'
      have hd0 : ¬ nI d ≤ nI 0 := c
      have hd1 : 1 ≤ d := Nat.succ_le_of_lt (Nat.lt_of_not_le (fun q => hd0 (i_le q (by decide))))
      obtain ⟨s3, s4⟩ := tsg_lt (tx := tx) (ln := ln) (i := i + 1) (by omega)
      have es2 : tlong (some d) (tx (i + 1) - 48) = 10 * d + (tsg tx ln (i + 1) - 48) := by show d * 10 + (tx (i + 1) - 48) = _; omega
      have hcan2 : tcan p (trw r (5 * e + p) d (5 * e)) (trw r (5 * e + p) d (5 * e + 3)) (10 * d + (tsg tx ln (i + 1) - 48)) := by
        refine ⟨fun q => by omega, ?_⟩
        rw [hlow1, hmp]
        omega
      have g2 := tgo_ok g1 (ts_dig (by omega) es2 (fun q => by have := Option.some.inj q; omega) hcan2)
      refine g_Z_takeHour_162 (hok (i + 1 + 1) _ _ g2 s3 (fun d3 q1 q2 => ?_) c''.1 c''.2 (fun k hk => ?_) _ ⟨?_, ?_, ?_⟩ ?_ (rF_17 (rF_17 f2 (by decide)) (by decide)) d25)
      · obtain ⟨s5, s6⟩ := tsg_lt (tx := tx) (ln := ln) (i := i + 1 + 1) (by omega)
        refine ts_dno (by omega) (fun z => ?_)
        have z2 := tcan_most z.2
        have es3 : tlong (some (10 * d + (tsg tx ln (i + 1) - 48))) (tx (i + 1 + 1) - 48) = (10 * d + (tsg tx ln (i + 1) - 48)) * 10 + (tx (i + 1 + 1) - 48) := rfl
        rw [es3, hmp] at z2
        omega
      · rw [trw_ne _ _ (by omega), trw_ne _ _ (by omega)]
      · show upd (upd (M' 17) 16 (nI 10 * nI d + (nI (tsg tx ln (i + 1)) - nI 48))) 14 (upd (M' 17) 16 (nI 10 * nI d + (nI (tsg tx ln (i + 1)) - nI 48)) 14 + nI 1) 14 = _
        rw [upd_eq, upd_ne _ _ (by decide), a.1, nI_add]
      · show upd (upd (M' 17) 16 (nI 10 * nI d + (nI (tsg tx ln (i + 1)) - nI 48))) 14 (upd (M' 17) 16 (nI 10 * nI d + (nI (tsg tx ln (i + 1)) - nI 48)) 14 + nI 1) 15 = _
        rw [upd_ne _ _ (by decide), upd_ne _ _ (by decide)]
        exact a.2.1
      · show upd (upd (M' 17) 16 (nI 10 * nI d + (nI (tsg tx ln (i + 1)) - nI 48))) 14 (upd (M' 17) 16 (nI 10 * nI d + (nI (tsg tx ln (i + 1)) - nI 48)) 14 + nI 1) 13 = _
        rw [upd_ne _ _ (by decide), upd_ne _ _ (by decide)]
        exact a.2.2
      · show upd (upd (M' 17) 16 (nI 10 * nI d + (nI (tsg tx ln (i + 1)) - nI 48))) 14 (upd (M' 17) 16 (nI 10 * nI d + (nI (tsg tx ln (i + 1)) - nI 48)) 14 + nI 1) 16 = _
        rw [upd_ne _ _ (by decide), upd_eq, ev']
  have at31 : ∀ b, (b = nI 0 ∨ b = nI 1) → (∀ d, tsg tx ln i = 48 + d → d ≤ 9 → (b = nI 1 ↔ low ≤ d)) → am_R am_S0 mt_Z_takeHour 1 31 [.ref 17, .int (nI low), .int (nI 23), .int (nI (tsg tx ln i) - nI 48), .null, .null] [.int b] M K := by
    intro b hb01 hb
    by_cases hdg : 48 ≤ tsg tx ln i ∧ tsg tx ln i ≤ 57
    · obtain ⟨d, hd⟩ : ∃ d, tsg tx ln i = 48 + d := ⟨tsg tx ln i - 48, by omega⟩
      have hd9 : d ≤ 9 := by omega
      have hbd := hb d hd hd9
      have ex : nI (tsg tx ln i) - nI 48 = nI d := by rw [nI_subk hdg.1]; congr 1; omega
      obtain ⟨s1, s2⟩ := tsg_lt (tx := tx) (ln := ln) (i := i) (by omega)
      rw [ex]
      refine g_Z_takeHour_31 (c_Z_in ⟨fun c => ?_, fun c => ⟨fun c2 => ?_, fun c2 => c_Z_canGoOn (d := d) (lo := low) (hi := 23) (by omega) (by omega) (by decide) (fun hc => ⟨fun c3 => absurd c3 nI1_ne, fun c3 => ?_⟩) (fun hc => ⟨fun c3 => ?_, fun c3 => absurd nI_0 c3⟩)⟩⟩)
      · have c' : ¬ isr (nI d) 0 9 := ib_n c
        rw [isr_iff (by omega) (by decide) (by decide)] at c'
        omega
      · have c' : ¬ b = 0 := c2
        have hb1 : b = nI 1 := hb01.resolve_left (fun q => c' (q.trans nI_0))
        exact g_Z_takeHour_63 (ok68 d b hd hd9 hb01 hbd (Or.inl (hbd.mp hb1)))
      · exact g_Z_takeHour_63 (ok68 d b hd hd9 hb01 hbd (Or.inr hc))
      · have c' : b = 0 := Classical.not_not.mp c2
        have hb0 : ¬ low ≤ d := fun q => nI1_ne ((hbd.mpr q).symm.trans c')
        refine no67 (nI d) b (tD_of' s1 hg (ts_dno (by omega) (fun z => ?_)))
        have es : tlong none (tx i - 48) = d := by show tx i - 48 = _; omega
        have z2 := z.2.2
        rw [es, hlow, hmp] at z2
        omega
    · refine g_Z_takeHour_31 (c_Z_in ⟨fun c => no67 _ b ?_, fun c => ?_⟩)
      · refine tD_of hil hg (fun q => ts_non ?_) (fun z => ?_)
        · have et : tx i = tsg tx ln i := by unfold tsg; rw [if_pos q]
          rw [et]
          exact hdg
        · obtain ⟨_, m, z, _⟩ := z
          cases z
      · have c' : nI 0 ≤ nI (tsg tx ln i) - nI 48 ∧ nI (tsg tx ln i) - nI 48 ≤ nI 9 := ib_y c
        rw [tin hs (by decide) (by decide)] at c'
        omega
  refine am_C_of_R am_S0 om_Z_takeHour rfl [.ref 17, .int (nI low), .null, .null, .null, .null] rfl rfl (g_Z_takeHour_0 (c_Z_sign hH hp.1 (by omega) (c_Z_in ⟨fun c => g_Z_takeHour_30 (at31 (nI 0) (Or.inl rfl) (fun d q1 q2 => ⟨fun z => absurd z (by decide +kernel), fun z => ?_⟩)), fun c => ⟨fun c2 => g_Z_takeHour_30 (at31 (nI 0) (Or.inl rfl) (fun d q1 q2 => ⟨fun z => absurd z (by decide +kernel), fun z => ?_⟩)), fun c2 => at31 (nI 1) (Or.inr rfl) (fun d q1 q2 => ⟨fun _ => ?_, fun _ => rfl⟩)⟩⟩)))
  · have c' : ¬ (nI low ≤ nI (tsg tx ln i) - nI 48 ∧ nI (tsg tx ln i) - nI 48 ≤ nI 23) := ib_n c
    rw [tin hs (by omega) (by decide)] at c'
    exact absurd ⟨by omega, by omega⟩ c'
  · have c' : nI 10 ≤ nI (tsg tx ln i) - nI 48 := c2
    rw [nI_subk (by omega)] at c'
    exact absurd c' (i_nge (by omega) (by decide))
  · have c' : nI low ≤ nI (tsg tx ln i) - nI 48 ∧ nI (tsg tx ln i) - nI 48 ≤ nI 23 := ib_y c
    rw [tin hs (by omega) (by decide)] at c'
    omega
