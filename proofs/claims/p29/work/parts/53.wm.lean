/-! mainValve in the class; what holds stays so: pass, undo, keep, goBack, append, clearBuffer, pipe -/
theorem c_V_mainValve {m : Nat} {z : dz} {f : Nat → Int32} {M : am_M} {K : am_Q} (hM : M 2 = zp z) (hz : zok z) (hm : z 5 = nI m) (hm8 : m ≤ 8) (hf : ∀ k, k < m → zhours (zdrop k m z) 24 2 = f k) (h : ∀ M', (∀ o, o ≠ 4 → M' o = M o) → K (.inl (some (.int (nI (zmb f m) - nI 1)))) M') : am_C mt_V_mainValve [.ref 0] M K := by
  have e5 : zp z 56 = nI m := hm
  have e0 : nI (zmb f 0) - nI 1 = -nI 1 := (show nI 0 - nI 1 = -nI 1 by decide +kernel)
  have key : ∀ n k, k + n = m → ∀ g, am_R am_S0 mt_V_mainValve 1 6 [.ref 0, .int (nI (zmb f k) - nI 1), .int (if zmb f k = 0 then nI 0 else f (zmb f k - 1)), .int (nI k), .null] [] (am_set M 4 g) K := by
    intro n
    induction n with
    | zero =>
      intro k hk g
      have : k = m := by omega
      subst this
      refine g_V_mainValve_6 ⟨56, rfl, by decide, fun c => g_V_mainValve_82 (h _ (fun o ho => by rw [am_so _ _ ho])), fun c => absurd ?_ c⟩
      show M 2 56 ≤ nI k
      rw [hM, e5]
      exact i_le (Nat.le_refl k) (by omega)
    | succ n ihn =>
      intro k hk g
      have hk' : k < m := by omega
      have ih := ihn (k + 1) (by omega)
      have hb := zmb_le f k
      have eb : zmb f (k + 1) = if zmb f k = 0 ∨ f k < f (zmb f k - 1) then k + 1 else zmb f k := rfl
      rw [eb] at ih
      generalize zmb f k = b at hb ih ⊢
      have hzd := zok_drop hz hm hm8 hk'
      have eF := hf k hk'
      refine g_V_mainValve_6 ⟨56, rfl, by decide, fun c => absurd c ?_, fun c => ?_⟩
      · show ¬ M 2 56 ≤ nI k
        rw [hM, e5]
        exact i_nge hk' (by omega)
      have e2 : am_set M 4 g 2 = zp z := hM
      refine c_S_takeFrom_3 ?_
      rw [e2, am_set_set]
      refine c_S_removeValve_3 (z := z) (am_set_eq ..) hm hm8 hk' ?_
      rw [am_set_set]
      refine c_S_runHours_3 (n := 24) (z := zdrop k m z) (am_set_eq ..) hzd (by decide) ?_
      rw [am_set_set]
      generalize zhours (zdrop k m z) 24 = F at eF ⊢
      have eF2 : am_set M 4 (zp F) 4 54 = f k := by rw [am_set_eq]; exact eF
      refine ⟨54, rfl, by decide, ?_⟩
      have ih' := ih (zp F)
      have all : ∀ d, d = f k → ((nI b - nI 1 = -nI 1 → am_R am_S0 mt_V_mainValve 1 71 [.ref 0, .int (nI b - nI 1), .int (if b = 0 then nI 0 else f (b - 1)), .int (nI k), .int d] [] (am_set M 4 (zp F)) K) ∧ (¬ nI b - nI 1 = -nI 1 → (((if b = 0 then nI 0 else f (b - 1)) ≤ d → am_R am_S0 mt_V_mainValve 1 76 [.ref 0, .int (nI b - nI 1), .int (if b = 0 then nI 0 else f (b - 1)), .int (nI k), .int d] [] (am_set M 4 (zp F)) K) ∧ (¬ (if b = 0 then nI 0 else f (b - 1)) ≤ d → am_R am_S0 mt_V_mainValve 1 71 [.ref 0, .int (nI b - nI 1), .int (if b = 0 then nI 0 else f (b - 1)), .int (nI k), .int d] [] (am_set M 4 (zp F)) K)))) := by
        intro d ed
        subst ed
        have yes : (b = 0 ∨ f k < f (b - 1)) → am_R am_S0 mt_V_mainValve 1 71 [.ref 0, .int (nI b - nI 1), .int (if b = 0 then nI 0 else f (b - 1)), .int (nI k), .int (f k)] [] (am_set M 4 (zp F)) K := by
          intro c
          rw [if_pos c, nI_sub1 (by omega), if_neg (by omega), Nat.add_sub_cancel] at ih'
          exact g_V_mainValve_71 (g_V_mainValve_76 (am_R_le (by repeat' (first | exact trivial | exact Or.inr rfl | exact Or.inl rfl | exact Or.inr (congrArg Value.int (nI_succ _)) | refine ⟨?_, ?_⟩)) ih'))
        have no : ¬ (b = 0 ∨ f k < f (b - 1)) → am_R am_S0 mt_V_mainValve 1 76 [.ref 0, .int (nI b - nI 1), .int (if b = 0 then nI 0 else f (b - 1)), .int (nI k), .int (f k)] [] (am_set M 4 (zp F)) K := by
          intro c
          rw [if_neg c] at ih'
          exact g_V_mainValve_76 (am_R_le (by repeat' (first | exact trivial | exact Or.inr rfl | exact Or.inl rfl | exact Or.inr (congrArg Value.int (nI_succ _)) | refine ⟨?_, ?_⟩)) ih')
        refine ⟨fun c => yes (Or.inl ?_), fun c => ?_⟩
        · exact (bs_neg8 (by omega)).mp (by rw [c]; decide +kernel)
        · have hb0 : b ≠ 0 := fun q => c (by rw [q]; decide +kernel)
          rw [if_neg hb0] at yes no ⊢
          refine ⟨fun c2 => no fun q => ?_, fun c2 => yes (Or.inr (Int32.not_le.mp c2))⟩
          rcases q with q | q
          · exact hb0 q
          · exact Int32.not_le.mpr q c2
      exact all _ eF2
  have k0 := key m 0 (by omega) (M 4)
  rw [am_set_self, e0] at k0
  exact am_C_of_R am_S0 om_V_mainValve rfl [.ref 0, .null, .null, .null, .null] rfl rfl (g_V_mainValve_0 (am_R_le (by repeat' (first | exact trivial | exact Or.inr rfl | exact Or.inl rfl | exact Or.inr (congrArg Value.int (nI_succ _)) | refine ⟨?_, ?_⟩)) k0))
noncomputable def m_main (w : wS) : Int32 := nI (zmb (zmo (w_z w) (zn (w_z w 5))) (zn (w_z w 5))) - nI 1
theorem c_V_main {n : Nat} {w : wS} {M : am_M} {K : am_Q} (hr : vr M w) (hk : wk n w) (h : ∀ M', vr M' w → vf M M' → K (.inl (some (.int (m_main w)))) M') : am_C mt_V_mainValve [.ref 0] M K := by
  obtain ⟨m, hm8, hm, -⟩ := hk.1.1.2.2.2.2.2
  have em : zn (w_z w 5) = m := by rw [hm]; exact zn_nI (by omega)
  unfold m_main at h
  rw [em] at h
  exact c_V_mainValve hr.1 hk.1.1 hm hm8 (fun k _ => rfl) (fun M' hM' => h M' (vr_keep hr (fun o ho => hM' o (by omega))) (fun o ho => hM' o (by omega)))
theorem k_pass {n : Nat} {p : Int32} {w : wS} (hk : wk n w) : wk (n + 1) (m_pass p w).2.2 := by
  have h1 := wk_le (wk_rec hk) (Nat.le_succ n)
  unfold m_pass
  split
  · rename_i hq
    obtain ⟨v, hv1, hv2, rfl⟩ := isr_nat hq (by decide) (by decide)
    split
    · exact wk_le hk (Nat.le_succ n)
    · rename_i c
      have c2 : ¬ (nI 99999).toInt < (w_z w 0 + nI v).toInt := fun z => c (ti_lt.mpr z)
      have h0 := hk.1.2.2.1
      have e : (nI v).toInt = v := nI_toInt (by omega)
      rw [nI_toInt (by decide), ti_add (by omega) (by omega)] at c2
      rw [zn_nI (by omega)]
      exact wk_setz h1 (zko_hours (zko_le hk.1 (Nat.le_succ n)) hv2 (by omega))
  · exact wk_le hk (Nat.le_succ n)
theorem k_undo {n : Nat} {w : wS} (hk : wk n w) : wk (n + 1) (m_undo w).2.2 := by
  have h1 := wk_le hk (Nat.le_succ n)
  unfold m_undo
  split
  · exact h1
  · rename_i c
    exact ⟨zko_cp (h1.2.1 _ (by omega)), fun j hj => h1.2.1 j (by have hj' : j < w_s w - 1 := hj; omega), h1.2.2.1, (by show w_s w - 1 ≤ 6; have := h1.2.2.2.1; omega), h1.2.2.2.2⟩
theorem k_keep {n : Nat} {p : Int32} {w : wS} (hk : wk n w) : wk (n + 1) (m_keep p w).2.2 := by
  have h1 := wk_le hk (Nat.le_succ n)
  unfold m_keep
  split
  · refine ⟨h1.1, h1.2.1, fun j hj hkp => ?_, h1.2.2.2⟩
    have hkp' : (if j = zn p then true else w_kp w j) = true := hkp
    show zko (n + 1) (if j = zn p then w_z w else w_sl w j)
    by_cases c : j = zn p
    · rw [if_pos c]; exact h1.1
    · rw [if_neg c] at hkp' ⊢
      exact h1.2.2.1 j hj hkp'
  · exact h1
theorem k_back {n : Nat} {p : Int32} {w : wS} (hk : wk n w) : wk (n + 1) (m_back p w).2.2 := by
  have h1 := wk_le (wk_rec hk) (Nat.le_succ n)
  unfold m_back
  split
  · rename_i hq
    obtain ⟨v, -, hv, rfl⟩ := isr_nat hq (by decide) (by decide)
    rw [zn_nI (by omega)]
    split
    · rename_i c
      exact wk_setz h1 (zko_cp (zko_le (hk.2.2.1 v (by omega) c) (Nat.le_succ n)))
    · exact wk_le hk (Nat.le_succ n)
  · exact wk_le hk (Nat.le_succ n)
theorem k_app {n : Nat} {p : Int32} {w : wS} (hk : wk n w) : wk (n + 1) (m_app p w).2.2 := by
  have h1 := wk_le hk (Nat.le_succ n)
  unfold m_app
  split
  · rename_i hq
    split
    · exact h1
    · rename_i c
      obtain ⟨v, hv1, hv2, rfl⟩ := isr_nat hq (by decide) (by decide)
      obtain ⟨a1, a2, a3, a4, a5, a6⟩ := h1
      refine ⟨a1, a2, a3, a4, (by show w_ln w + 1 ≤ 60; omega), fun k hk' => ?_⟩
      have hk2 : k < w_ln w + 1 := hk'
      show ∃ c, 33 ≤ c ∧ c ≤ 126 ∧ (if k = w_ln w then nI v else w_tx w k) = nI c
      by_cases c2 : k = w_ln w
      · rw [if_pos c2]; exact ⟨v, hv1, hv2, rfl⟩
      · rw [if_neg c2]; exact a6 k (by omega)
  · exact h1
theorem k_clr {n : Nat} {w : wS} (hk : wk n w) : wk (n + 1) (w_clr w) := by
  obtain ⟨a1, a2, a3, a4, a5, a6⟩ := wk_le hk (Nat.le_succ n)
  exact ⟨a1, a2, a3, a4, Nat.zero_le 60, fun k hk' => absurd hk' (Nat.not_lt_zero k)⟩
theorem zpk_pipe {z : dz} {v u : Nat} (h : zpk z) (hv : v < 5) (hu : u < 5) (hne : u ≠ v) : zpk (w_pp z v u) := by
  obtain ⟨m, h1, h2⟩ := h
  have f1 : ∀ m, m < 32 → ∀ v, v < 5 → m ^^^ (1 <<< v) < 32 := by decide
  have f2 : ∀ v, v < 5 → ∀ u, u < 5 → (1 <<< v).testBit u = decide (v = u) := by decide
  have fb : ∀ a, a < 5 → ∀ b, b < 5 → (if a = u then m u ^^^ (1 <<< v) else if a = v then m v ^^^ (1 <<< u) else m a).testBit b = ((m a).testBit b ^^ decide (a = u ∧ b = v ∨ a = v ∧ b = u)) := by
    intro a ha b hb
    by_cases c1 : a = u
    · subst c1
      rw [if_pos rfl, Nat.testBit_xor, f2 v hv b hb]
      congr 1
      exact decide_eq_decide.mpr ⟨fun q => Or.inl ⟨rfl, q.symm⟩, fun q => by omega⟩
    · rw [if_neg c1]
      by_cases c2 : a = v
      · subst c2
        rw [if_pos rfl, Nat.testBit_xor, f2 u hu b hb]
        congr 1
        exact decide_eq_decide.mpr ⟨fun q => Or.inr ⟨rfl, q.symm⟩, fun q => by omega⟩
      · rw [if_neg c2]
        have : ¬ (a = u ∧ b = v ∨ a = v ∧ b = u) := by omega
        rw [decide_eq_false this, Bool.xor_false]
  refine ⟨fun a => if a = u then m u ^^^ (1 <<< v) else if a = v then m v ^^^ (1 <<< u) else m a, fun a ha => ?_, fun a ha b hb => ?_⟩
  · rw [w_pp_eq hne]
    dsimp only
    obtain ⟨k1, k2, k3⟩ := h1 a ha
    refine ⟨?_, ?_, ?_⟩
    · by_cases c1 : a = u
      · subst c1
        rw [if_pos rfl, upd_eq, k1, ti_xor_bit _ _ k2 hv]
      · rw [if_neg c1, upd_ne _ _ (by omega)]
        by_cases c2 : a = v
        · subst c2
          rw [if_pos rfl, upd_eq, k1, ti_xor_bit _ _ k2 hu]
        · rw [if_neg c2, upd_ne _ _ (by omega)]
          exact k1
    · by_cases c1 : a = u
      · subst c1
        rw [if_pos rfl]; exact f1 _ k2 _ hv
      · rw [if_neg c1]
        by_cases c2 : a = v
        · subst c2
          rw [if_pos rfl]; exact f1 _ k2 _ hu
        · rw [if_neg c2]; exact k2
    · rw [fb a ha a ha, k3, decide_eq_false (by omega)]
      rfl
  · dsimp only
    rw [fb a ha b hb, fb b hb a ha, h2 a ha b hb]
    congr 1
    exact decide_eq_decide.mpr (by omega)
theorem k_pipe {n : Nat} {p q : Int32} {w : wS} (hk : wk n w) : wk (n + 1) (m_pipe p q w).2.2 := by
  have h1 := wk_le (wk_rec hk) (Nat.le_succ n)
  unfold m_pipe
  split
  · rename_i hv
    split
    · exact wk_le hk (Nat.le_succ n)
    · rename_i c
      obtain ⟨v, -, hv4, rfl⟩ := isr_nat (a := 0) (b := 4) hv.1 (by decide) (by decide)
      obtain ⟨u, -, hu4, rfl⟩ := isr_nat (a := 0) (b := 4) hv.2 (by decide) (by decide)
      rw [zn_nI (show v < 2 ^ 31 by omega), zn_nI (show u < 2 ^ 31 by omega)]
      have hne : u ≠ v := fun q => c (by rw [q])
      have hp := zpk_pipe hk.1.2.2.2 (show v < 5 by omega) (show u < 5 by omega) hne
      rw [w_pp_eq hne] at hp
      refine wk_setz h1 ⟨zok_upd (by omega) (zok_upd (by omega) hk.1.1), ?_, ?_, hp⟩
      · have := hk.1.2.1
        rw [upd_ne _ _ (by omega), upd_ne _ _ (by omega)]
        omega
      · rw [upd_ne _ _ (by omega), upd_ne _ _ (by omega)]; exact hk.1.2.2.1
  · exact wk_le hk (Nat.le_succ n)
