/-! the reference reads a valve and a plan -/
theorem rP_25 {M : am_M} {i x e : Nat} {f : Nat → Int32} (h : rP M i x e) : rP (am_set M 25 f) i x e := h
theorem tsg_tx {tx : Nat → Nat} {ln i : Nat} (h : i < ln) : tsg tx ln i = tx i := by unfold tsg; rw [if_pos h]
/-- a sign behind a number that can't go on -/
theorem tx_sig {tx : Nat → Nat} {ln i e p m : Nat} {r : Nat → Nat} (hil : i ≤ ln) (hp : p ≠ 4) (hg : tgo tx i = (i, e, p, some m, r)) (hw : tlow p (r (5 * e + 3)) ≤ m ∧ m ≤ tmost p) (hcl : ∀ d, tsg tx ln i = 48 + d → d ≤ 9 → tstep (tx i) (e, p, some m, r) = none) : (tsg tx ln i = tsig p → i < ln ∧ tgo tx (i + 1) = (i + 1, e, p + 1, none, r)) ∧ (tsg tx ln i ≠ tsig p → tD tx ln i) := by
  refine ⟨fun q => ?_, fun q => ?_⟩
  · have hl : tsig p ≠ 0 := by unfold tsig; split; omega; split; omega; split; omega; split <;> omega
    obtain ⟨s1, s2⟩ := tsg_lt (tx := tx) (ln := ln) (i := i) (by rw [q]; exact hl)
    refine ⟨s1, tgo_ok hg ?_⟩
    rw [s2, q]
    exact ts_sig hp hw
  · refine tD_of hil hg (fun h => ?_) (fun z => hp z.1)
    rw [tsg_tx h] at q hcl
    by_cases hc : 48 ≤ tx i ∧ tx i ≤ 57
    · exact hcl (tx i - 48) (by omega) (by omega)
    · exact ts_sno hc (fun z => q z.1)
theorem c_Z_readValve {tx : Nat → Nat} {ln i e : Nat} {r : Nat → Nat} {M : am_M} {K : am_Q} (hH : tH M tx ln) (hp : rP M i 0 e) (hil : i ≤ ln) (hg : tgo tx i = (i, e, 0, none, r)) (h25 : ∀ k, k < 5 * e → M 25 k = nI (r k))
    (hok : ∀ i' m r', tgo tx i' = (i', e, 4, some m, r') → i' ≤ ln → (∀ d, tsg tx ln i' = 48 + d → d ≤ 9 → tstep (tx i') (e, 4, some m, r') = none) → r' (5 * e + 3) ≤ m → m ≤ 23 → ∀ M', rP M' i' 0 (e + 1) → rF M M' → (∀ k, k < 5 * e + 5 → M' 25 k = nI (r' k)) → K (.inl none) M')
    (hno : ∀ i', tD tx ln i' → ∀ M', rP M' i' 1 (e + 1) → rF M M' → K (.inl none) M') : am_C mt_Z_readValve [.ref 17] M K := by
  have hln := hH.2.1
  have hI0 := (tgo_I tx i).2
  rw [hg] at hI0
  have he : 10 * e ≤ i := by have := hI0.2.1; simp only at this; omega
  have dl : ∀ {i'}, tD tx ln i' → i' ≤ ln := fun h => h.2.1
  -- the end, and a text that is wrong
  have e160 : ∀ M1 i' x, rP M1 i' x e → (∀ M', rP M' i' x (e + 1) → M' 25 = M1 25 → rF M1 M' → K (.inl none) M') → am_R am_S0 mt_Z_readValve 1 160 [.ref 17, .int (nI (5 * e))] [] M1 K := by
    intro M1 i' x a hh
    refine g_Z_readValve_160 (hh _ ⟨?_, ?_, ?_⟩ rfl (rF_17 (rF_refl M1) (by decide)))
    · show upd (M1 17) 13 (M1 17 13 + nI 1) 14 = _
      rw [upd_ne _ _ (by decide)]; exact a.1
    · show upd (M1 17) 13 (M1 17 13 + nI 1) 15 = _
      rw [upd_ne _ _ (by decide)]; exact a.2.1
    · show upd (M1 17) 13 (M1 17 13 + nI 1) 13 = _
      rw [upd_eq, a.2.2, nI_add]
  have w160 : ∀ M1 i', tD tx ln i' → rP M1 i' 1 e → rF M M1 → am_R am_S0 mt_Z_readValve 1 160 [.ref 17, .int (nI (5 * e))] [] M1 K := fun M1 i' hD a f => e160 M1 i' 1 a (fun M' b _ g => hno i' hD M' b (rF_trans f g))
  have wne : ∀ {M1 i'}, rP M1 i' 1 e → ¬ M1 17 15 = 0 := fun a c => nI1_ne (a.2.1.symm.trans c)
  have w123 : ∀ M1 i', tD tx ln i' → rP M1 i' 1 e → rF M M1 → am_R am_S0 mt_Z_readValve 1 123 [.ref 17, .int (nI (5 * e))] [] M1 K := fun M1 i' hD a f =>
    g_Z_readValve_123 (c_Z_takeSign (code := 45) (tH_rF hH f) a (by have := dl hD; omega) (Or.inr rfl) (by decide) (fun q => absurd q (by decide)) (fun _ M' b g _ => ⟨fun _ => w160 M' i' hD b (rF_trans f g), fun c => absurd (Classical.not_not.mp c) (wne b)⟩))
  have w93 : ∀ M1 i', tD tx ln i' → rP M1 i' 1 e → rF M M1 → am_R am_S0 mt_Z_readValve 1 93 [.ref 17, .int (nI (5 * e))] [] M1 K := fun M1 i' hD a f =>
    g_Z_readValve_93 (c_Z_takeSign (code := 64) (tH_rF hH f) a (by have := dl hD; omega) (Or.inr rfl) (by decide) (fun q => absurd q (by decide)) (fun _ M' b g _ => ⟨fun _ => w123 M' i' hD b (rF_trans f g), fun c => absurd (Classical.not_not.mp c) (wne b)⟩))
  have w64 : ∀ M1 i', tD tx ln i' → rP M1 i' 1 e → rF M M1 → am_R am_S0 mt_Z_readValve 1 64 [.ref 17, .int (nI (5 * e))] [] M1 K := fun M1 i' hD a f =>
    g_Z_readValve_64 (c_Z_takeSign (code := 42) (tH_rF hH f) a (by have := dl hD; omega) (Or.inr rfl) (by decide) (fun q => absurd q (by decide)) (fun _ M' b g _ => ⟨fun _ => w93 M' i' hD b (rF_trans f g), fun c => absurd (Classical.not_not.mp c) (wne b)⟩))
  have ix : ∀ k, nI (5 * e) + nI k = nI (5 * e + k) := fun k => nI_add _ _
  have at25 : ∀ (f : Nat → Int32) (r' : Nat → Nat) (p m : Nat), (∀ k, k < 5 * e + p → f k = nI (r' k)) → r' (5 * e + p) = m → ∀ k, k < 5 * e + p + 1 → upd f (5 * e + p) (nI m) k = nI (r' k) := by
    intro f r' p m h1 h2 k hk
    by_cases c : k = 5 * e + p
    · rw [upd_eq' _ _ c, c, h2]
    · rw [upd_ne _ _ c]
      exact h1 k (by omega)
  have num : ∀ {i' p m r'}, tgo tx i' = (i', e, p, some m, r') → r' (5 * e + p) = m ∧ m ≤ tmost p := by
    intro i' p m r' g
    have hI := (tgo_I tx i').2
    rw [g] at hI
    have := hI.2.2.2.2.2.2.2 m rfl
    exact ⟨this.1, this.2.1⟩
  -- part 4
  have p123 : ∀ M1 i1 m r1, tgo tx i1 = (i1, e, 3, some m, r1) → i1 ≤ ln → (∀ d, tsg tx ln i1 = 48 + d → d ≤ 9 → tstep (tx i1) (e, 3, some m, r1) = none) → m ≤ 23 → rP M1 i1 0 e → rF M M1 → (∀ k, k < 5 * e + 4 → M1 25 k = nI (r1 k)) → am_R am_S0 mt_Z_readValve 1 123 [.ref 17, .int (nI (5 * e))] [] M1 K := by
    intro M1 i1 m r1 g1 l1 cl1 hm a f hr
    have hs := tx_sig l1 (by decide) g1 ⟨Nat.zero_le m, hm⟩ cl1
    refine g_Z_readValve_123 (c_Z_takeSign (code := 45) (tH_rF hH f) a (by omega) (Or.inl rfl) (by decide) (fun _ q M2 b g d => ⟨fun c => absurd b.2.1 c, fun _ => ?_⟩) (fun q M2 b g d => ⟨fun _ => w160 M2 i1 (hs.2 (q.resolve_left (by decide))) b (rF_trans f g), fun c => absurd (Classical.not_not.mp c) (wne b)⟩))
    obtain ⟨l2, g2⟩ := hs.1 q
    have f2 := rF_trans f g
    have n1 := (num g1).1
    have er3 : M2 25 (5 * e + 3) = nI (r1 (5 * e + 3)) := by rw [d]; exact hr _ (by omega)
    refine ⟨5 * e + 3, ix 3, by show _ < 40; omega, ?_⟩
    show am_C mt_Z_takeHour [.ref 17, .int (M2 25 (5 * e + 3))] M2 _
    rw [er3]
    refine c_Z_takeHour (tH_rF hH f2) b (by omega) g2 (Or.inr rfl) rfl (by show r1 (5 * e + 3) ≤ 23; omega) (fun i3 m3 r3 g3 l3 cl3 h3 h4 hk3 M3 a3 n3 f3 d3 => ⟨5 * e + 4, ix 4, by show _ < 40; omega, ?_⟩) (fun i3 hD M3 a3 f3 d3 => ⟨5 * e + 4, ix 4, by show _ < 40; omega, w160 _ i3 hD (rP_25 a3) (rF_25 (rF_trans f2 f3))⟩)
    refine e160 _ i3 0 (rP_25 a3) (fun M4 b4 d4 g4 => hok i3 m3 r3 g3 l3 cl3 (by rw [hk3 _ (by omega)]; exact h3) h4 M4 b4 (rF_trans (rF_25 (rF_trans f2 f3)) g4) (fun k hk => ?_))
    rw [d4]
    show upd (M3 25) (5 * e + 4) (M3 17 16) k = _
    rw [n3]
    exact at25 _ r3 4 m3 (fun k hk => by rw [hk3 k hk, d3, d]; exact hr k hk) (num g3).1 k hk
  -- part 3
  have p93 : ∀ M1 i1 m r1, tgo tx i1 = (i1, e, 2, some m, r1) → i1 ≤ ln → (∀ d, tsg tx ln i1 = 48 + d → d ≤ 9 → tstep (tx i1) (e, 2, some m, r1) = none) → 1 ≤ m → m ≤ 500 → rP M1 i1 0 e → rF M M1 → (∀ k, k < 5 * e + 3 → M1 25 k = nI (r1 k)) → am_R am_S0 mt_Z_readValve 1 93 [.ref 17, .int (nI (5 * e))] [] M1 K := by
    intro M1 i1 m r1 g1 l1 cl1 hm1 hm2 a f hr
    have hs := tx_sig l1 (by decide) g1 ⟨hm1, hm2⟩ cl1
    refine g_Z_readValve_93 (c_Z_takeSign (code := 64) (tH_rF hH f) a (by omega) (Or.inl rfl) (by decide) (fun _ q M2 b g d => ⟨fun c => absurd b.2.1 c, fun _ => ?_⟩) (fun q M2 b g d => ⟨fun _ => w123 M2 i1 (hs.2 (q.resolve_left (by decide))) b (rF_trans f g), fun c => absurd (Classical.not_not.mp c) (wne b)⟩))
    obtain ⟨l2, g2⟩ := hs.1 q
    have f2 := rF_trans f g
    refine c_Z_takeHour (low := 0) (tH_rF hH f2) b (by omega) g2 (Or.inl rfl) rfl (by decide) (fun i3 m3 r3 g3 l3 cl3 h3 h4 hk3 M3 a3 n3 f3 d3 => ⟨5 * e + 3, ix 3, by show _ < 40; omega, ?_⟩) (fun i3 hD M3 a3 f3 d3 => ⟨5 * e + 3, ix 3, by show _ < 40; omega, w123 _ i3 hD (rP_25 a3) (rF_25 (rF_trans f2 f3))⟩)
    refine p123 _ i3 m3 r3 g3 l3 cl3 h4 (rP_25 a3) (rF_25 (rF_trans f2 f3)) (fun k hk => ?_)
    show upd (M3 25) (5 * e + 3) (M3 17 16) k = _
    rw [n3]
    exact at25 _ r3 3 m3 (fun k hk => by rw [hk3 k hk, d3, d]; exact hr k hk) (num g3).1 k hk
  -- part 2
  have p64 : ∀ M1 i1 m r1, tgo tx i1 = (i1, e, 1, some m, r1) → i1 ≤ ln → (∀ d, tsg tx ln i1 = 48 + d → d ≤ 9 → tstep (tx i1) (e, 1, some m, r1) = none) → m ≤ 5 → rP M1 i1 0 e → rF M M1 → (∀ k, k < 5 * e + 2 → M1 25 k = nI (r1 k)) → am_R am_S0 mt_Z_readValve 1 64 [.ref 17, .int (nI (5 * e))] [] M1 K := by
    intro M1 i1 m r1 g1 l1 cl1 hm a f hr
    have hs := tx_sig l1 (by decide) g1 ⟨Nat.zero_le m, hm⟩ cl1
    refine g_Z_readValve_64 (c_Z_takeSign (code := 42) (tH_rF hH f) a (by omega) (Or.inl rfl) (by decide) (fun _ q M2 b g d => ⟨fun c => absurd b.2.1 c, fun _ => ?_⟩) (fun q M2 b g d => ⟨fun _ => w93 M2 i1 (hs.2 (q.resolve_left (by decide))) b (rF_trans f g), fun c => absurd (Classical.not_not.mp c) (wne b)⟩))
    obtain ⟨l2, g2⟩ := hs.1 q
    have f2 := rF_trans f g
    refine c_Z_takeRate (tH_rF hH f2) b (by omega) g2 (fun i3 m3 r3 g3 l3 cl3 h3 h4 hk3 M3 a3 n3 f3 d3 => ⟨5 * e + 2, ix 2, by show _ < 40; omega, ?_⟩) (fun hD M3 a3 f3 d3 => ⟨5 * e + 2, ix 2, by show _ < 40; omega, w93 _ _ hD (rP_25 a3) (rF_25 (rF_trans f2 f3))⟩)
    refine p93 _ i3 m3 r3 g3 l3 cl3 h3 h4 (rP_25 a3) (rF_25 (rF_trans f2 f3)) (fun k hk => ?_)
    show upd (M3 25) (5 * e + 2) (M3 17 16) k = _
    rw [n3]
    exact at25 _ r3 2 m3 (fun k hk => by rw [hk3 k hk, d3, d]; exact hr k hk) (num g3).1 k hk
  -- what a vat's digit leaves
  have vat : ∀ i1 p r1, p ≤ 1 → i1 ≤ ln → tgo tx i1 = (i1, e, p, none, r1) → (∀ d, tsg tx ln i1 = 48 + d → d ≤ tmost p → ¬ (p = 1 ∧ d = r1 (5 * e)) → i1 + 1 ≤ ln ∧ tgo tx (i1 + 1) = (i1 + 1, e, p, some d, trw r1 (5 * e + p) d) ∧ ∀ d2, tsg tx ln (i1 + 1) = 48 + d2 → d2 ≤ 9 → tstep (tx (i1 + 1)) (e, p, some d, trw r1 (5 * e + p) d) = none) ∧ ((∀ d, tsg tx ln i1 = 48 + d → d ≤ tmost p → (p = 1 ∧ d = r1 (5 * e))) → tD tx ln i1) := by
    intro i1 p r1 hp1 l1 g1
    have hlow : ∀ x, tlow p x = 0 := fun x => by unfold tlow; rw [if_neg (by omega), if_neg (by omega)]
    have hmo : tmost p ≤ 5 := by unfold tmost; split; omega; rw [if_pos (by omega)]; omega
    have hmo4 : 4 ≤ tmost p := by unfold tmost; split; omega; rw [if_pos (by omega)]; omega
    refine ⟨fun d h1 h2 h3 => ?_, fun h => ?_⟩
    · obtain ⟨s1, s2⟩ := tsg_lt (tx := tx) (ln := ln) (i := i1) (by omega)
      have es : tlong none (tx i1 - 48) = d := by show tx i1 - 48 = _; omega
      refine ⟨s1, tgo_ok g1 (ts_dig (by omega) es (fun q => by cases q) ⟨h3, ?_⟩), fun d2 q1 q2 => ?_⟩
      · rw [hlow]; omega
      · obtain ⟨s3, s4⟩ := tsg_lt (tx := tx) (ln := ln) (i := i1 + 1) (by omega)
        refine ts_dno (by omega) (fun z => ?_)
        have z2 := tcan_most z.2
        have es2 : tlong (some d) (tx (i1 + 1) - 48) = d * 10 + (tx (i1 + 1) - 48) := rfl
        have hd0 : d ≠ 0 := fun q => z.1 (by rw [q])
        rw [es2] at z2
        omega
    · refine tD_of l1 g1 (fun q => ?_) (fun z => by obtain ⟨_, m, z, _⟩ := z; cases z)
      rw [tsg_tx q] at h
      by_cases hc : 48 ≤ tx i1 ∧ tx i1 ≤ 57
      · refine ts_dno hc (fun z => ?_)
        have es : tlong none (tx i1 - 48) = tx i1 - 48 := rfl
        rw [es] at z
        exact z.2.1 (h (tx i1 - 48) (by omega) (tcan_most z.2))
      · exact ts_non hc
  have v0 := vat i 0 r (by decide) hil hg
  have hat : nI 5 * (ileast (M 17 13) (nI 7)) = nI (5 * e) := by
    rw [hp.2.2]
    have : nI e < nI 7 := (nI_lti (by omega) (by decide)).mpr (by omega)
    unfold ileast
    rw [if_pos this, pk_mul]
  suffices body : ∀ v, v = nI (5 * e) → am_B am_S0 mt_Z_readValve (List.drop 7 k_Z_readValve_0) 1 12 [.ref 17, .int v] [] M K from am_C_of_R am_S0 om_Z_readValve rfl [.ref 17, .null] rfl rfl (g_Z_readValve_0 (c_Z_least (body _ hat)))
  rintro _ rfl
  refine c_Z_takeVat (most := 4) (other := -nI 1) hH hp (by omega) (by decide) (fun d q1 q2 _ M1 a n1 f d1 => ⟨5 * e, rfl, by show _ < 40; omega, ?_⟩) (fun q M1 a f d1 => ⟨5 * e, rfl, by show _ < 40; omega, ?_⟩)
  · obtain ⟨l1, g1, cl1⟩ := v0.1 d q1 q2 (fun z => absurd z.1 (by decide))
    have f1 : rF M (am_set M1 25 (upd (M1 25) (5 * e) (M1 17 16))) := rF_25 f
    have hs := tx_sig l1 (by decide) g1 ⟨Nat.zero_le d, q2⟩ cl1
    have nd : trw r (5 * e + 0) d (5 * e) = d := trw_eq r (5 * e) d
    refine c_Z_takeSign (code := 62) (tH_rF hH f1) (rP_25 a) (by omega) (Or.inl rfl) (by decide) (fun _ q M2 b g d2 => ⟨fun c => absurd b.2.1 c, fun _ => ⟨5 * e, rfl, by show _ < 40; omega, ?_⟩⟩) (fun q M2 b g d2 => ⟨fun _ => w64 M2 _ (hs.2 (q.resolve_left (by decide))) b (rF_trans f1 g), fun c => absurd (Classical.not_not.mp c) (wne b)⟩)
    obtain ⟨l2, g2⟩ := hs.1 q
    have f2 := rF_trans f1 g
    have ed : M2 25 (5 * e) = nI d := by
      rw [d2]
      show upd (M1 25) (5 * e) (M1 17 16) (5 * e) = _
      rw [upd_eq, n1]
    have h2 : ∀ k, k < 5 * e + 1 → M2 25 k = nI (trw r (5 * e + 0) d k) := by
      intro k hk
      rw [d2]
      show upd (M1 25) (5 * e) (M1 17 16) k = _
      rw [n1]
      exact at25 (M1 25) (trw r (5 * e + 0) d) 0 d (fun k hk => by rw [trw_ne _ _ (by omega), d1]; exact h25 k hk) (trw_eq _ _ _) k hk
    have v1 := vat (i + 1 + 1) 1 _ (by decide) l2 g2
    show am_C mt_Z_takeVat [.ref 17, .int (nI 5), .int (M2 25 (5 * e))] M2 _
    rw [ed]
    refine c_Z_takeVat (most := 5) (other := nI d) (tH_rF hH f2) b (by omega) (by decide) (fun d' q1' q2' q3' M3 a3 n3 f3 d3 => ⟨5 * e + 1, ix 1, by show _ < 40; omega, ?_⟩) (fun q M3 a3 f3 d3 => ⟨5 * e + 1, ix 1, by show _ < 40; omega, w64 _ _ (v1.2 (fun d' z1 z2 => ⟨rfl, ?_⟩)) (rP_25 a3) (rF_25 (rF_trans f2 f3))⟩)
    · obtain ⟨l3, g3, cl3⟩ := v1.1 d' q1' q2' (fun z => q3' (by rw [z.2, nd]))
      refine p64 _ _ d' _ g3 l3 cl3 q2' (rP_25 a3) (rF_25 (rF_trans f2 f3)) (fun k hk => ?_)
      show upd (M3 25) (5 * e + 1) (M3 17 16) k = _
      rw [n3]
      exact at25 _ _ 1 d' (fun k hk => by rw [trw_ne _ _ (by omega), d3]; exact h2 k hk) (trw_eq _ _ _) k hk
    · have z3 := (nI_eq (a := d') (b := d) (by have : tmost 1 = 5 := rfl; omega) (by omega)).mp (q d' z1 z2)
      rw [z3, nd]
  · have hD := v0.2 (fun d z1 z2 => absurd (q d z1 z2) (m1_ne (by have : tmost 0 = 4 := rfl; omega)))
    have f1 : rF M (am_set M1 25 (upd (M1 25) (5 * e) (M1 17 16))) := rF_25 f
    exact c_Z_takeSign (code := 62) (tH_rF hH f1) (rP_25 a) (by omega) (Or.inr rfl) (by decide) (fun q => absurd q (by decide)) (fun _ M2 b g _ => ⟨fun _ => w64 M2 i hD b (rF_trans f1 g), fun c => absurd (Classical.not_not.mp c) (wne b)⟩)
theorem c_Z_readPlan {tx : Nat → Nat} {ln : Nat} {M : am_M} {K : am_Q} (hH : tH M tx ln) (h1 : tOK tx ln → ∀ M', rF M M' → M' 17 15 = nI 0 → M' 17 13 = nI ((tgo tx ln).2.1 + 1) → (∀ k, k < 5 * (tgo tx ln).2.1 + 5 → M' 25 k = nI ((tgo tx ln).2.2.2.2 k)) → K (.inl (some (.int (nI (tgo tx ln).1)))) M') (h0 : ¬ tOK tx ln → ∀ M', rF M M' → M' 17 15 = nI 1 → K (.inl (some (.int (nI (tgo tx ln).1)))) M') : am_C mt_Z_readPlan [.ref 17] M K := by
  have hln := hH.2.1
  have bad : ∀ i x M', tD tx ln i → rP M' i 1 x → rF M M' → am_R am_S0 mt_Z_readPlan 1 17 [.ref 17, .int (nI 0)] [] M' K := by
    intro i x M' hD a f
    refine g_Z_readPlan_17 ⟨fun _ => g_Z_readPlan_75 ?_, fun c => absurd nI_0 c⟩
    have hh := h0 hD.2.2 M' f a.2.1
    rw [hD.1, ← a.1] at hh
    exact hh
  have loop : ∀ i r M', tgo tx i = (i, 0, 0, none, r) → i ≤ ln → rP M' i 0 0 → rF M M' → (∀ k, k < 5 * 0 → M' 25 k = nI (r k)) → am_R am_S0 mt_Z_readPlan 1 17 [.ref 17, .int (nI 1)] [] M' K := by
    refine lu (P := fun e => ∀ i r M', tgo tx i = (i, e, 0, none, r) → i ≤ ln → rP M' i 0 e → rF M M' → (∀ k, k < 5 * e → M' 25 k = nI (r k)) → am_R am_S0 mt_Z_readPlan 1 17 [.ref 17, .int (nI 1)] [] M' K) 7 ?_ ?_
    · intro i r M' g l _ _ _
      have hI := (tgo_I tx i).2
      rw [g] at hI
      have := hI.2.1
      simp only at this
      omega
    · intro e _ ih i r M' g l a f hr
      refine g_Z_readPlan_17 ⟨fun c => absurd c nI1_ne, fun _ => c_Z_readValve (tH_rF hH f) a l g hr (fun i' m r' g1 l1 cl1 w1 w2 M1 a1 f1 hr1 => ⟨fun c => absurd a1.2.1 c, fun _ => ⟨fun c => g_Z_readPlan_47 (g_Z_readPlan_48 ⟨fun _ => ?_, fun c2 => absurd nI_0 c2⟩), fun c => g_Z_readPlan_48 ⟨fun c2 => absurd c2 nI1_ne, fun _ => ?_⟩⟩⟩) (fun i' hD M1 a1 f1 => ⟨fun _ => g_Z_readPlan_47 (g_Z_readPlan_48 ⟨fun _ => bad i' _ M1 hD a1 (rF_trans f f1), fun c2 => absurd nI_0 c2⟩), fun c => ?_⟩)⟩
      · have c' : M1 17 8 ≤ M1 17 14 := c
        rw [(tH_rF hH (rF_trans f f1)).1, a1.1] at c'
        have e1 : i' = ln := Nat.le_antisymm l1 (Nat.le_of_not_lt (fun q => i_nge q (by omega) c'))
        subst e1
        refine g_Z_readPlan_17 ⟨fun _ => g_Z_readPlan_75 ?_, fun c => absurd nI_0 c⟩
        have hOK : tOK tx i' := by
          unfold tOK
          rw [g1]
          exact ⟨rfl, rfl, m, rfl, w1, w2⟩
        have hh := h1 hOK M1 (rF_trans f f1) a1.2.1
        rw [g1] at hh
        have hh2 := hh a1.2.2 hr1
        rw [← a1.1] at hh2
        exact hh2
      · have c' : ¬ M1 17 8 ≤ M1 17 14 := c
        rw [(tH_rF hH (rF_trans f f1)).1, a1.1] at c'
        have l2 : i' < ln := Nat.lt_of_not_le (fun q => c' (i_le q (by omega)))
        have f2 := rF_trans f f1
        refine c_Z_takeSign (code := 59) (tH_rF hH f2) a1 (by omega) (Or.inl rfl) (by decide) (fun _ q M2 b g2 d2 => ⟨fun c => absurd b.2.1 c, fun _ => g_Z_readPlan_71 ?_⟩) (fun q M2 b g2 d2 => ⟨fun _ => g_Z_readPlan_70 (g_Z_readPlan_71 ?_), fun c => ?_⟩)
        · have q' : tx i' = 59 := by exact (tsg_tx l2).symm.trans q
          refine ih (i' + 1) r' M2 (tgo_ok g1 (by rw [q']; exact ts_end ⟨w1, w2⟩)) l2 b (rF_trans f2 g2) (fun k hk => ?_)
          rw [d2]
          exact hr1 k (by omega)
        · have q' : tx i' ≠ 59 := by exact fun z => (q.resolve_left (by decide)) ((tsg_tx l2).trans z)
          refine bad i' _ M2 (tD_of' l2 g1 ?_) b (rF_trans f2 g2)
          by_cases hc : 48 ≤ tx i' ∧ tx i' ≤ 57
          · exact cl1 (tx i' - 48) (by rw [tsg_tx l2]; omega) (by omega)
          · exact ts_sno hc (fun z => q' z.1)
        · have c2 : M2 17 15 = 0 := Classical.not_not.mp c
          exact absurd (b.2.1.symm.trans c2) nI1_ne
      · have c2 : M1 17 15 = 0 := Classical.not_not.mp c
        exact absurd (a1.2.1.symm.trans c2) nI1_ne
  refine am_C_of_R am_S0 om_Z_readPlan rfl [.ref 17, .null] rfl rfl (g_Z_readPlan_0 ⟨Or.inl rfl, ?_⟩)
  refine am_R_le (xs := [.ref 17, .int (nI 1)]) (by repeat' (first | exact trivial | exact Or.inr rfl | exact Or.inl rfl | exact Or.inr (congrArg Value.int (nI_succ _)) | refine ⟨?_, ?_⟩)) (loop 0 _ _ rfl (Nat.zero_le _) ⟨?_, ?_, ?_⟩ (rF_17 (rF_17 (rF_17 (rF_refl M) (by decide)) (by decide)) (by decide)) (fun k hk => absurd hk (by omega)))
  · show upd (upd (upd (M 17) 14 (nI 0)) 15 (nI 0)) 13 (nI 0) 14 = _
    rw [upd_ne _ _ (by decide), upd_ne _ _ (by decide), upd_eq]
  · show upd (upd (upd (M 17) 14 (nI 0)) 15 (nI 0)) 13 (nI 0) 15 = _
    rw [upd_ne _ _ (by decide), upd_eq]
  · show upd (upd (upd (M 17) 14 (nI 0)) 15 (nI 0)) 13 (nI 0) 13 = _
    rw [upd_eq]
