/-! mainValve -/
theorem zok_of {z z' : dz} {m : Nat} (h : zok z) (h1 : ∀ i, i < 57 → i ≠ 5 → z' i = z i) (h5 : z' 5 = nI m) (hm : m ≤ 8) (hv : ∀ k, k < m → zvok k z') : zok z' := by
  obtain ⟨hvt, hg, ha, hs, ⟨hw0, hw⟩, -⟩ := h
  refine ⟨fun v hv => ?_, fun v d hv hd => ?_, fun d hd => ?_, ?_, ?_, m, hm, h5, hv⟩
  · rw [h1 (18 + 8 * v) (by omega) (by omega), h1 (17 + 8 * v) (by omega) (by omega)]; exact hvt v hv
  · rw [h1 (19 + 8 * v + d) (by omega) (by omega), h1 (22 + 8 * v + d) (by omega) (by omega)]; exact hg v d hv hd
  · have e : zall z' d = zall z d := by
      unfold zall
      rw [h1 (19 + d) (by omega) (by omega), h1 (22 + d) (by omega) (by omega), h1 (27 + d) (by omega) (by omega), h1 (30 + d) (by omega) (by omega), h1 (35 + d) (by omega) (by omega), h1 (38 + d) (by omega) (by omega), h1 (43 + d) (by omega) (by omega), h1 (46 + d) (by omega) (by omega), h1 (51 + d) (by omega) (by omega), h1 (54 + d) (by omega) (by omega), h1 (14 + d) (by omega) (by omega)]
    rw [e, h1 (14 + d) (by omega) (by omega), h1 (11 + d) (by omega) (by omega)]
    exact ha d hd
  · rw [h1 1 (by decide) (by decide)]; exact hs
  · have e : zwat z' = zwat z := by
      unfold zwat
      rw [h1 18 (by decide) (by decide), h1 26 (by decide) (by decide), h1 34 (by decide) (by decide), h1 42 (by decide) (by decide), h1 50 (by decide) (by decide), h1 2 (by decide) (by decide)]
    rw [e, h1 2 (by decide) (by decide), h1 3 (by decide) (by decide)]
    exact ⟨hw0, hw⟩
theorem zdrop_lo {v m i : Nat} {z : dz} (hi : i < 57 + 6 * v) (h5 : i ≠ 5) : zdrop v m z i = z i := by
  unfold zdrop
  rw [cpy_out (by omega), upd_ne _ _ h5]
theorem zdrop_hi {v m i : Nat} {z : dz} (hi : 57 + 6 * v ≤ i) (h2 : i < 57 + 6 * (m - 1)) : zdrop v m z i = z (i + 6) := by
  unfold zdrop
  rw [cpy_in (by omega), upd_ne _ _ (by omega)]
  congr 1
  omega
theorem zok_drop {v m : Nat} {z : dz} (h : zok z) (hm : z 5 = nI m) (hm8 : m ≤ 8) (hv : v < m) : zok (zdrop v m z) := by
  obtain ⟨m', hm', e, hvs⟩ := h.2.2.2.2.2
  have : m' = m := (nI_eq (by omega) (by omega)).mp (e.symm.trans hm)
  subst this
  refine zok_of (m := m' - 1) h (fun i h1 h2 => zdrop_lo (by omega) h2) zdrop_5 (by omega) (fun k hk => ?_)
  unfold zvok
  by_cases c : k < v
  · rw [zdrop_lo (by omega) (by omega), zdrop_lo (by omega) (by omega), zdrop_lo (by omega) (by omega), zdrop_lo (by omega) (by omega), zdrop_lo (by omega) (by omega)]
    exact hvs k (by omega)
  · rw [zdrop_hi (by omega) (by omega), zdrop_hi (by omega) (by omega), zdrop_hi (by omega) (by omega), zdrop_hi (by omega) (by omega), zdrop_hi (by omega) (by omega)]
    have := hvs (k + 1) (by omega)
    unfold zvok at this
    rw [show 57 + 6 * (k + 1) = 57 + 6 * k + 6 by omega] at this
    rw [show 57 + 6 * k + 1 + 6 = 57 + 6 * k + 6 + 1 by omega, show 57 + 6 * k + 2 + 6 = 57 + 6 * k + 6 + 2 by omega, show 57 + 6 * k + 3 + 6 = 57 + 6 * k + 6 + 3 by omega, show 57 + 6 * k + 4 + 6 = 57 + 6 * k + 6 + 4 by omega]
    exact this
theorem zok_went {z : dz} (h : zok z) : 0 ≤ (z 2).toInt ∧ (z 2).toInt ≤ (z 3).toInt := by
  obtain ⟨h1, h2⟩ := h.2.2.2.2.1
  have := zwat_ge h.1 h1 (f := 0) (by decide)
  have := (h.1 0 (by decide)).1
  exact ⟨h1, by omega⟩
noncomputable def zmo (z : dz) (m k : Nat) : Int32 := zhours (zdrop k m z) 24 2
def zmb (f : Nat → Int32) : Nat → Nat
  | 0 => 0
  | k + 1 => if zmb f k = 0 ∨ f k < f (zmb f k - 1) then k + 1 else zmb f k
theorem zmb_le (f : Nat → Int32) : ∀ k, zmb f k ≤ k
  | 0 => Nat.le_refl 0
  | k + 1 => by
    unfold zmb
    have := zmb_le f k
    split <;> omega
theorem zmo_ti {z : dz} {m k : Nat} (h : zok z) (hm : z 5 = nI m) (hm8 : m ≤ 8) (hk : k < m) : 0 ≤ (zmo z m k).toInt ∧ (zmo z m k).toInt ≤ (z 3).toInt := by
  have h1 := zok_hours (zok_drop h hm hm8 hk) 24
  have h2 := zok_went h1.1
  have h3 : zhours (zdrop k m z) 24 3 = z 3 := by rw [h1.2 3 (by unfold zfix; omega), zdrop_lo (by omega) (by decide)]
  rw [h3] at h2
  exact h2
theorem bs_neg8 {b : Nat} (hb : b ≤ 8) : nI b - nI 1 < 0 ↔ b = 0 := by
  have key : ∀ b, b ≤ 8 → (nI b - nI 1 < 0 ↔ b = 0) := by decide +kernel
  exact key b hb
theorem bs_ne8 {b k : Nat} (hb : b ≤ k) (hk : k < 8) : ¬ nI b - nI 1 = nI k := by
  have key : ∀ b, b ≤ 8 → ∀ k, k < 8 → b ≤ k → ¬ nI b - nI 1 = nI k := by decide +kernel
  exact key b (by omega) k hk hb
theorem sub_lt {a b c : Int32} (ha : 0 ≤ a.toInt ∧ a.toInt ≤ 2000000) (hb : 0 ≤ b.toInt ∧ b.toInt ≤ 2000000) (hc : 0 ≤ c.toInt ∧ c.toInt ≤ 2000000) : c - b ≤ a - b ↔ c ≤ a := by
  have e1 := ti_sub (a := a) (b := b) (by omega) (by omega)
  have e2 := ti_sub (a := c) (b := b) (by omega) (by omega)
  rw [Int32.le_iff_toInt_le, Int32.le_iff_toInt_le]
  omega
theorem c_Z_findMainValve {n m : Nat} {z : dz} {f : Nat → Int32} {M : am_M} {K : am_Q} (hM : M 18 = z) (hz : zko n z) (hn : n ≤ 600) (hm : z 5 = nI m) (hm8 : m ≤ 8) (hf : ∀ k, k < m → zhours (zdrop k m z) 24 2 = f k) (hfi : ∀ k, k < m → 0 ≤ (f k).toInt ∧ (f k).toInt ≤ (z 3).toInt) (h : ∀ M', (∀ o, o ≠ 19 → M' o = M o) → K (.inl (some (.int (nI (zmb f m) - nI 1)))) M') : am_C mt_Z_findMainValve [.ref 17] M K := by
  have hw := zok_went hz.1
  have hz3 := hz.2.1
  have e2 : M 18 2 = z 2 := by rw [hM]
  generalize hwe : z 2 = went at hw e2
  have e0 : nI (zmb f 0) - nI 1 = -nI 1 := (show nI 0 - nI 1 = -nI 1 by decide +kernel)
  have h0 : am_set M 19 (M 18) = am_set (am_set M 19 z) 18 z := by
    rw [hM]
    funext o
    by_cases c : o = 18
    · subst c; rw [am_set_eq, am_so _ _ (by decide)]; exact hM
    · rw [am_so (am_set M 19 z) _ c]
  have key : am_R am_S0 mt_Z_findMainValve 1 18 [.ref 17, .int (nI (zmb f 0) - nI 1), .int (if zmb f 0 = 0 then nI 0 else f (zmb f 0 - 1) - went), .int went, .int (nI 0), .null] [] (am_set (am_set M 19 z) 18 z) K := by
    refine lu (P := fun k => am_R am_S0 mt_Z_findMainValve 1 18 [.ref 17, .int (nI (zmb f k) - nI 1), .int (if zmb f k = 0 then nI 0 else f (zmb f k - 1) - went), .int went, .int (nI k), .null] [] (am_set (am_set M 19 z) 18 z) K) m ?_ ?_
    · refine g_Z_findMainValve_18 ⟨5, rfl, by decide, fun c => g_Z_findMainValve_91 (h _ (fun o ho => ?_)), fun c => absurd ?_ c⟩
      · by_cases c : o = 18
        · subst c; rw [am_set_eq]; exact hM.symm
        · rw [am_so _ _ c, am_so _ _ ho]
      · show z 5 ≤ nI m
        rw [hm]
        exact i_le (Nat.le_refl m) (by omega)
    · intro k hk ih
      have hb := zmb_le f k
      have eb : zmb f (k + 1) = if zmb f k = 0 ∨ f k < f (zmb f k - 1) then k + 1 else zmb f k := rfl
      rw [eb] at ih
      generalize zmb f k = b at hb ih ⊢
      have ok := hfi k hk
      have hzd := zok_drop hz.1 hm hm8 hk
      have eF := hf k hk
      refine g_Z_findMainValve_18 ⟨5, rfl, by decide, fun c => absurd c ?_, fun c => ?_⟩
      · show ¬ z 5 ≤ nI k
        rw [hm]
        exact i_nge hk (by omega)
      refine c_Z_dropValve (m := m) (by rw [am_set_eq]; exact hm) hm8 hk ?_
      rw [am_set_set, am_set_eq]
      refine c_Z_hours (n := 24) (by rw [am_set_eq]; exact hzd) (by decide) ?_
      rw [am_set_set, am_set_eq]
      generalize zhours (zdrop k m z) 24 = F at eF ⊢
      have eF2 : am_set (am_set M 19 z) 18 F 18 2 = f k := by rw [am_set_eq]; exact eF
      refine ⟨2, rfl, by decide, ?_⟩
      have fin : ∀ x y d, x = nI (if b = 0 ∨ f k < f (b - 1) then k + 1 else b) - nI 1 → y = (if (if b = 0 ∨ f k < f (b - 1) then k + 1 else b) = 0 then nI 0 else f ((if b = 0 ∨ f k < f (b - 1) then k + 1 else b) - 1) - went) → am_R am_S0 mt_Z_findMainValve 1 80 [.ref 17, .int x, .int (if b = 0 then nI 0 else f (b - 1) - went), .int went, .int (nI k), .int d] [.int y] (am_set (am_set M 19 z) 18 F) K := by
        intro x y d ex ey
        refine g_Z_findMainValve_80 (c_Z_putBack ?_)
        rw [← ex, ← ey] at ih
        rw [am_set_set]
        exact am_R_le (by repeat' (first | exact trivial | exact Or.inr rfl | exact Or.inl rfl | exact Or.inr (congrArg Value.int (nI_succ _)) | refine ⟨?_, ?_⟩)) ih
      have all : ∀ d, d = f k - went → (((nI b - nI 1 < 0) → am_R am_S0 mt_Z_findMainValve 1 61 [.ref 17, .int (nI b - nI 1), .int (if b = 0 then nI 0 else f (b - 1) - went), .int went, .int (nI k), .int d] [] (am_set (am_set M 19 z) 18 F) K) ∧ (¬ (nI b - nI 1 < 0) → (((if b = 0 then nI 0 else f (b - 1) - went) ≤ d → am_R am_S0 mt_Z_findMainValve 1 66 [.ref 17, .int (nI b - nI 1), .int (if b = 0 then nI 0 else f (b - 1) - went), .int went, .int (nI k), .int d] [] (am_set (am_set M 19 z) 18 F) K) ∧ (¬ (if b = 0 then nI 0 else f (b - 1) - went) ≤ d → am_R am_S0 mt_Z_findMainValve 1 61 [.ref 17, .int (nI b - nI 1), .int (if b = 0 then nI 0 else f (b - 1) - went), .int went, .int (nI k), .int d] [] (am_set (am_set M 19 z) 18 F) K)))) := by
        intro d ed
        have yes : (b = 0 ∨ f k < f (b - 1)) → am_R am_S0 mt_Z_findMainValve 1 61 [.ref 17, .int (nI b - nI 1), .int (if b = 0 then nI 0 else f (b - 1) - went), .int went, .int (nI k), .int d] [] (am_set (am_set M 19 z) 18 F) K := by
          intro c
          refine g_Z_findMainValve_61 (g_Z_findMainValve_67 ⟨fun c2 => absurd rfl c2, fun c2 => ?_⟩)
          exact fin (nI k) d d (by rw [if_pos c, nI_sub1 (by omega), Nat.add_sub_cancel]) (by rw [if_pos c, if_neg (by omega), Nat.add_sub_cancel]; exact ed)
        have no : ¬ (b = 0 ∨ f k < f (b - 1)) → am_R am_S0 mt_Z_findMainValve 1 66 [.ref 17, .int (nI b - nI 1), .int (if b = 0 then nI 0 else f (b - 1) - went), .int went, .int (nI k), .int d] [] (am_set (am_set M 19 z) 18 F) K := by
          intro c
          refine g_Z_findMainValve_66 (g_Z_findMainValve_67 ⟨fun c2 => g_Z_findMainValve_79 ?_, fun c2 => absurd (Classical.not_not.mp c2) (bs_ne8 hb (by omega))⟩)
          exact fin (nI b - nI 1) _ d (by rw [if_neg c]) (by rw [if_neg c])
        refine ⟨fun c => yes (Or.inl ((bs_neg8 (by omega)).mp c)), fun c => ?_⟩
        have hb0 : b ≠ 0 := fun q => c ((bs_neg8 (by omega)).mpr q)
        have ob := hfi (b - 1) (by omega)
        have sl := sub_lt (a := f k) (b := went) (c := f (b - 1)) ⟨ok.1, by omega⟩ ⟨hw.1, by omega⟩ ⟨ob.1, by omega⟩
        rw [if_neg hb0, ed] at *
        refine ⟨fun c2 => no fun q => ?_, fun c2 => yes (Or.inr ?_)⟩
        · rcases q with q | q
          · exact hb0 q
          · exact Int32.not_le.mpr q (sl.mp c2)
        · exact Int32.not_le.mp fun q => c2 (sl.mpr q)
      exact all _ (by show am_set (am_set M 19 z) 18 F 18 2 - went = _; rw [eF2])
  rw [e0] at key
  refine am_C_of_R am_S0 om_Z_findMainValve rfl [.ref 17, .null, .null, .null, .null, .null] rfl rfl (g_Z_findMainValve_0 ⟨2, rfl, by decide, c_Z_putAside ?_⟩)
  rw [h0]
  show am_R am_S0 mt_Z_findMainValve 1 18 [.ref 17, .int (-nI 1), .int (nI 0), .int (M 18 2), .int (nI 0), .null] [] (am_set (am_set M 19 z) 18 z) K
  rw [e2]
  exact key
