/-! the row of days of a state -/
theorem zhours_add (z : dz) (a : Nat) : ∀ b, zhours z (a + b) = zhours (zhours z a) b
  | 0 => rfl
  | b + 1 => by
    show zhour (zhours z (a + b)) = zhour (zhours (zhours z a) b)
    rw [zhours_add z a b]
noncomputable def zdy (z : dz) (i : Nat) : dz := zhours z (24 * i)
theorem zdy_0 (z : dz) : zdy z 0 = z := rfl
theorem zdy_next (z : dz) (i : Nat) : zdy z (i + 1) = zhours (zdy z i) 24 := by
  unfold zdy
  rw [show 24 * (i + 1) = 24 * i + 24 by omega, zhours_add]
theorem zdy_ok {z : dz} (h : zok z) (i : Nat) : zok (zdy z i) ∧ ∀ k, zfix k → zdy z i k = z k := zok_hours h _
theorem ag_lookZ {a b : dz} (hf : ∀ i, zfix i → a i = b i) : (∀ k, k < 35 → a (18 + 8 * (k / 7) + k % 7) = b (18 + 8 * (k / 7) + k % 7)) ↔ ag a b := by
  refine ⟨fun h i hi => ?_, fun h k hk => h _ (by unfold zD; omega)⟩
  by_cases c : zfix i
  · exact hf i c
  · have h1 : 18 ≤ i ∧ i < 57 ∧ (i - 17) % 8 ≠ 0 := by
      unfold zfix at c
      unfold zD at hi
      omega
    have e := h (7 * ((i - 17) / 8) + ((i - 17) % 8 - 1)) (by omega)
    rw [show 18 + 8 * ((7 * ((i - 17) / 8) + ((i - 17) % 8 - 1)) / 7) + (7 * ((i - 17) / 8) + ((i - 17) % 8 - 1)) % 7 = i by omega] at e
    exact e
theorem pz_look : ∀ i, i < 57 → 18 ≤ i → (i - 17) % 8 ≠ 0 → ∃ k, k < 35 ∧ pz (10 + k) = i := by decide +kernel
theorem pz_lookr : ∀ k, k < 35 → 18 ≤ pz (10 + k) ∧ pz (10 + k) < 57 := by decide +kernel
theorem ag_lookV {a b : dz} (hf : ∀ i, zfix i → a i = b i) : (∀ k, k < 35 → zp a (10 + k) = zp b (10 + k)) ↔ ag a b := by
  refine ⟨fun h i hi => ?_, fun h k hk => ?_⟩
  · by_cases c : zfix i
    · exact hf i c
    · have h1 : 18 ≤ i ∧ i < 57 ∧ (i - 17) % 8 ≠ 0 := by
        unfold zfix at c
        unfold zD at hi
        omega
      obtain ⟨k, hk, e⟩ := pz_look i h1.2.1 h1.1 h1.2.2
      have e2 : a (pz (10 + k)) = b (pz (10 + k)) := h k hk
      rw [e] at e2
      exact e2
  · have := pz_lookr k hk
    exact h _ (by unfold zD; omega)
def zE (z : dz) (i j : Nat) : Prop := ag (zdy z i) (zdy z j)
theorem zE_rd {n : Nat} {z : dz} (h : zko n z) : rdE (zE z) := by
  refine ⟨fun i => ag_refl _, fun i j => ag_symm, fun i j k => ag_trans, fun i j hi hj hE => ?_⟩
  have h0 := h.2.2.1
  have t : ∀ i, i < 120 → (zdy z i 0).toInt = (z 0).toInt + 24 * i := by
    intro i hi
    have ek : (nI (24 * i)).toInt = (24 * i : Nat) := nI_toInt (by omega)
    unfold zdy
    rw [zhours_0 h.1, ti_add (by omega) (by omega)]
    omega
  have ti := t i hi
  have tj := t j hj
  unfold zE
  rw [zdy_next, zdy_next]
  exact ag_hours hE (zdy_ok h.1 i).1 (zdy_ok h.1 j).1 (by omega) (by omega) (by omega) 24 (Nat.le_refl _)
