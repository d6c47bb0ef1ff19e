/-! memories that no cell tells apart -/
def am_nl (o : Nat) : Nat := match am_kd o with
  | 0 => am_len 0 o
  | 1 => am_len 0 o
  | _ => am_nf (am_ci o)
def am_same (M M' : am_M) : Prop := (∀ o, o < 17 → ∀ i, i < am_nl o → M o i = M' o i) ∧ M 17 = M' 17
theorem am_same_symm {M M' : am_M} (h : am_same M M') : am_same M' M := ⟨fun o ho i hi => (h.1 o ho i hi).symm, h.2.symm⟩
theorem arrV_same {c : ClassId} {n : Nat} {f g : Nat → Value} (h : ∀ i, i < n → f i = g i) : arrV c n f = arrV c n g := by
  unfold arrV
  congr 2
  funext j
  exact h j.1 j.2
theorem va_at_same {D : va_G} {g : ClassId × ClassId × Nat} {a : Nat → Nat} {M M' : am_M} {H : Heap} {o : Nat} (h4 : am_kd o = 4 → M o = M' o) (hs : ∀ i, i < am_nl o → M o i = M' o i) (hP : va_at D am_cls (a o, am_e a g M o) H) : va_at D am_cls (a o, am_e a g M' o) H := by
  unfold am_nl at hs
  unfold am_e at hP ⊢
  have dflt : (∀ i, i < am_nf (am_ci o) → M o i = M' o i) → va_at D am_cls (a o, .inr (am_ci o, (List.range (am_nf (am_ci o))).map (fun k => am_tv a (am_val (am_ci o) o k M)))) H → va_at D am_cls (a o, .inr (am_ci o, (List.range (am_nf (am_ci o))).map (fun k => am_tv a (am_val (am_ci o) o k M')))) H := by
    intro hs hP
    have e : (List.range (am_nf (am_ci o))).map (fun k => am_tv a (am_val (am_ci o) o k M')) = (List.range (am_nf (am_ci o))).map (fun k => am_tv a (am_val (am_ci o) o k M)) := by
      refine List.map_congr_left fun k hk => ?_
      have hk' := List.mem_range.mp hk
      have ek := hs k hk'
      congr 1
      unfold am_val
      split
      · rfl
      · unfold am_v0
        split
        · rw [ek]
        · rfl
    rw [e]
    exact hP
  revert h4 hs hP
  match am_kd o with
  | 0 =>
    intro _ hs hP
    show H[a o]? = some (vp_cell g.1 (am_len 0 o, .inl (M' o)))
    have e : vp_cell g.1 (am_len 0 o, .inl (M' o)) = vp_cell g.1 (am_len 0 o, .inl (M o)) := by
      rw [vp_cell_i, vp_cell_i]
      exact arrV_same (fun i hi => by rw [hs i hi])
    rw [e]
    exact hP
  | 1 =>
    intro _ hs hP
    show H[a o]? = some (vp_cell g.2.1 (am_len 0 o, .inl (M' o)))
    have e : vp_cell g.2.1 (am_len 0 o, .inl (M' o)) = vp_cell g.2.1 (am_len 0 o, .inl (M o)) := by
      rw [vp_cell_i, vp_cell_i]
      exact arrV_same (fun i hi => by rw [hs i hi])
    rw [e]
    exact hP
  | 4 =>
    intro h4 _ hP
    show H[a o]? = some (vp_cell g.1 (g.2.2, .inl (M' o)))
    rw [← h4 rfl]
    exact hP
  | 2 => exact fun _ hs hP => dflt hs hP
  | 3 => exact fun _ hs hP => dflt hs hP
  | n + 5 => exact fun _ hs hP => dflt hs hP
theorem am_kd17 {o : Nat} (h : am_kd o = 4) : o = 17 := by
  unfold am_kd at h
  split at h <;> first | rfl | omega
theorem va_P_same {D : va_G} {g : ClassId × ClassId × Nat} {a : Nat → Nat} {M M' : am_M} {H : Heap} (h : am_same M M') (hP : va_P D am_cls (am_w a g M) H) : va_P D am_cls (am_w a g M') H := by
  intro k q hk
  unfold am_w at hk
  rw [List.getElem?_map] at hk
  by_cases c : k < am_nc g.2.2
  · rw [List.getElem?_range c] at hk
    cases hk
    have h2 := hP k (a k, am_e a g M k) (by unfold am_w; rw [List.getElem?_map, List.getElem?_range c]; rfl)
    by_cases c17 : k < 17
    · exact va_at_same (fun h4 => by rw [am_kd17 h4]; exact h.2) (h.1 k c17) h2
    · have hk17 : k = 17 := by unfold am_nc at c; split at c <;> omega
      subst hk17
      exact va_at_same (fun _ => h.2) (fun i _ => by rw [h.2]) h2
  · rw [List.getElem?_eq_none (by rw [List.length_range]; omega)] at hk
    cases hk
theorem am_C_out {t : am_MT} {av : List Value} {M : am_M} {K : am_Q} (h : am_C t av M (fun o M1 => ∃ M2, am_same M1 M2 ∧ K o M2)) : am_C t av M K := by
  intro l a D g sz hst hgx
  have h1 := h l a D g sz hst hgx
  intro p e ha hc hk s m args below hf happ hP hT
  obtain ⟨k, oc, q1, q2, q3, hQ⟩ := h1 p e ha hc hk s m args below hf happ hP hT
  refine ⟨k, oc, q1, q2, q3, ?_⟩
  rcases hQ with ⟨⟨⟨v, M', e1, ⟨M2, s2, e2⟩, e3⟩, e4, e5⟩, e6⟩ | ⟨q, e1, E, ce, Lc, ⟨⟨M', ⟨M2, s2, f1⟩, f2⟩, f3⟩, e3⟩
  · exact Or.inl ⟨⟨⟨v, M2, e1, e2, va_P_same s2 e3⟩, e4, e5⟩, e6⟩
  · exact Or.inr ⟨q, e1, E, ce, Lc, ⟨⟨M2, f1, va_P_same s2 f2⟩, f3⟩, e3⟩
theorem am_R_same {L : am_S} {t : am_MT} {n pc : Nat} {ls st : List Value} {M M' : am_M} {Q : am_Q} (h : am_same M M') (k : am_R L t n pc ls st M' Q) : am_R L t n pc ls st M Q := by
  intro p l e R s m args below meth c a D g A cells slots QQ hE hC h1 h2 hEnd H locs la hW hL
  exact k p l e R s m args below meth c a D g A cells slots QQ hE hC h1 h2 hEnd H locs la ⟨va_P_same h hW.1, hW.2⟩ hL
theorem am_same_set {M : am_M} {o : Nat} {f g : Nat → Int32} (h : ∀ i, i < am_nl o → f i = g i) (h17 : o ≠ 17 := by decide) : am_same (am_set M o f) (am_set M o g) := by
  refine ⟨?_, by rw [am_so _ _ (Ne.symm h17), am_so _ _ (Ne.symm h17)]⟩
  intro q hq i hi
  by_cases c : q = o
  · subst c
    rw [am_set_eq, am_set_eq]
    exact h i hi
  · rw [am_so _ _ c, am_so _ _ c]
-- copies of a state
theorem cpy_same {f g : dz} {i : Nat} (hi : i < 105) : va_cpy f g 0 0 105 i = f i := by
  rw [cpy_in (by omega)]
  congr 1
  omega
theorem c_S_takeFrom_3 {M : am_M} {K : am_Q} (h : K (.inl none) (am_set M 4 (M 2))) : am_C mt_S_takeFrom [.ref 3, .ref 1] M K :=
  am_C_out (am_C_of_R am_S0 om_S_takeFrom rfl [.ref 3, .ref 1] rfl rfl (g_S_takeFrom_0 ⟨0, 0, 105, rfl, rfl, rfl, by decide, by decide, _, am_same_set fun i hi => cpy_same hi, h⟩))
theorem c_S_takeFrom_6 {M : am_M} {K : am_Q} (h : K (.inl none) (am_set M 7 (M 2))) : am_C mt_S_takeFrom [.ref 6, .ref 1] M K :=
  am_C_out (am_C_of_R am_S0 om_S_takeFrom rfl [.ref 6, .ref 1] rfl rfl (g_S_takeFrom_0 ⟨0, 0, 105, rfl, rfl, rfl, by decide, by decide, _, am_same_set fun i hi => cpy_same hi, h⟩))
-- ifPassed
noncomputable def m_ifp (p q r : Int32) (w : wS) : mS := if isv q then (if isr p 1 240 ∧ isr r 1 7 then (0, zhours (w_z w) (zn p) (17 + 8 * zn q + zn r), w) else (2, nI 0, w)) else (1, nI 0, w)
theorem vr_keep {M M' : am_M} {w : wS} (h : vr M w) (h' : ∀ o, o = 2 ∨ o = 0 ∨ o = 16 ∨ o = 15 ∨ o = 14 ∨ o = 9 ∨ o = 10 → M' o = M o) : vr M' w := by
  unfold vr
  rw [h' 2 (by omega), h' 0 (by omega), h' 16 (by omega), h' 15 (by omega), h' 14 (by omega), h' 9 (by omega), h' 10 (by omega)]
  exact h
theorem c_V_ifPassed {n : Nat} {p q r : Int32} {w : wS} {M : am_M} {K : am_Q} (hr : vr M w) (hk : wk n w) (h : ∀ M', vr M' (m_ifp p q r w).2.2 → vf M M' → K (oV 0 (m_ifp p q r w).1 (m_ifp p q r w).2.1) M') : am_C mt_V_ifPassed [.ref 0, .int p, .int q, .int r] M K := by
  unfold m_ifp at h
  have bad : isv q → ¬ (isr p 1 240 ∧ isr r 1 7) → K (.inr (am_ex 1)) M := by
    intro hv hq
    rw [if_pos hv, if_neg hq] at h
    exact h M hr (vf_refl M)
  refine am_C_of_R am_S0 om_V_ifPassed rfl [.ref 0, .int p, .int q, .int r] rfl rfl (g_V_ifPassed_0 (c_V_requireVat (fun hv => c_V_requireRange (fun h1 => c_V_requireRange (fun h2 => ?_) (fun h2 => bad hv fun z => h2 z.2)) (fun h1 => bad hv fun z => h1 z.1)) (fun hv => ?_)))
  · have h1' : isr p 1 240 := h1
    have h2' : isr r 1 7 := h2
    rw [if_pos hv, if_pos ⟨h1', h2'⟩] at h
    obtain ⟨v, -, hv4, rfl⟩ := isr_nat (a := 0) (b := 4) hv (by decide) (by decide)
    obtain ⟨m, -, hm, rfl⟩ := isr_nat h1' (by decide) (by decide)
    obtain ⟨k, -, hk7, rfl⟩ := isr_nat h2' (by decide) (by decide)
    rw [zn_nI (show v < 2 ^ 31 by omega), zn_nI (show m < 2 ^ 31 by omega), zn_nI (show k < 2 ^ 31 by omega)] at h
    have e4 : am_set M 4 (M 2) 4 = zp (w_z w) := by rw [am_set_eq]; exact hr.1
    refine c_S_takeFrom_3 (c_S_runHours_3 e4 hk.1.1 (by omega) (c_S_vatProperty_3 (am_set_eq ..) (by omega) (by omega) ?_))
    rw [zvat_lo (by omega), am_set_set]
    exact h _ (vr_keep hr (fun o ho => am_so _ _ (by omega))) (vf_set (vf_refl M) (by decide))
  · rw [if_neg hv] at h
    exact h M hr (vf_refl M)
