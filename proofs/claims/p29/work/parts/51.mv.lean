/-! mainValve -/
theorem zok_of {z z' : dz} {m : Nat} (h : zok z) (h1 : ∀ i, i < 57 → i ≠ 5 → z' i = z i) (h5 : z' 5 = nI m) (hm : m ≤ 8) (hv : ∀ k, k < m → zvok k z') : zok z' := by
  obtain ⟨hvt, hg, ha, hs, ⟨hw0, hw⟩, -⟩ := h
  refine ⟨fun v hv => ?_, fun v d hv hd => ?_, fun d hd => ?_, ?_, ?_, m, hm, h5, hv⟩
  · rw [h1 (18 + 8 * v) (by omega) (by omega), h1 (17 + 8 * v) (by omega) (by omega)]; exact hvt v hv
  · rw [h1 (19 + 8 * v + d) (by omega) (by omega), h1 (22 + 8 * v + d) (by omega) (by omega)]; exact hg v d hv hd
  · have e : zall z' d = zall z d := by
      unfold zall
      rw [h1 (19 + d) (by omega) (by omega), h1 (22 + d) (by omega) (by omega), h1 (27 + d) (by omega) (by omega), h1 (30 + d) (by omega) (by omega), h1 (35 + d) (by omega) (by omega), h1 (38 + d) (by omega) (by omega), h1 (43 + d) (by omega) (by omega), h1 (46 + d) (by omega) (by omega), h1 (51 + d) (by omega) (by omega), h1 (54 + d) (by omega) (by omega), h1 (14 + d) (by omega) (by omega)]
    rw [e, h1 (14 + d) (by omega) (by omega), h1 (11 + d) (by omega) (by omega)]
    exact ha d hd
  · rw [h1 1 (by decide) (by decide)]; exact hs
  · have e : zwat z' = zwat z := by
      unfold zwat
      rw [h1 18 (by decide) (by decide), h1 26 (by decide) (by decide), h1 34 (by decide) (by decide), h1 42 (by decide) (by decide), h1 50 (by decide) (by decide), h1 2 (by decide) (by decide)]
    rw [e, h1 2 (by decide) (by decide), h1 3 (by decide) (by decide)]
    exact ⟨hw0, hw⟩
theorem zdrop_lo {v m i : Nat} {z : dz} (hi : i < 57 + 6 * v) (h5 : i ≠ 5) : zdrop v m z i = z i := by
  unfold zdrop
  rw [cpy_out (by omega), upd_ne _ _ h5]
theorem zdrop_hi {v m i : Nat} {z : dz} (hi : 57 + 6 * v ≤ i) (h2 : i < 57 + 6 * (m - 1)) : zdrop v m z i = z (i + 6) := by
  unfold zdrop
  rw [cpy_in (by omega), upd_ne _ _ (by omega)]
  congr 1
  omega
theorem zok_drop {v m : Nat} {z : dz} (h : zok z) (hm : z 5 = nI m) (hm8 : m ≤ 8) (hv : v < m) : zok (zdrop v m z) := by
  obtain ⟨m', hm', e, hvs⟩ := h.2.2.2.2.2
  have : m' = m := (nI_eq (by omega) (by omega)).mp (e.symm.trans hm)
  subst this
  refine zok_of (m := m' - 1) h (fun i h1 h2 => zdrop_lo (by omega) h2) zdrop_5 (by omega) (fun k hk => ?_)
  unfold zvok
  by_cases c : k < v
  · rw [zdrop_lo (by omega) (by omega), zdrop_lo (by omega) (by omega), zdrop_lo (by omega) (by omega), zdrop_lo (by omega) (by omega), zdrop_lo (by omega) (by omega)]
    exact hvs k (by omega)
  · rw [zdrop_hi (by omega) (by omega), zdrop_hi (by omega) (by omega), zdrop_hi (by omega) (by omega), zdrop_hi (by omega) (by omega), zdrop_hi (by omega) (by omega)]
    have := hvs (k + 1) (by omega)
    unfold zvok at this
    rw [show 57 + 6 * (k + 1) = 57 + 6 * k + 6 by omega] at this
    rw [show 57 + 6 * k + 1 + 6 = 57 + 6 * k + 6 + 1 by omega, show 57 + 6 * k + 2 + 6 = 57 + 6 * k + 6 + 2 by omega, show 57 + 6 * k + 3 + 6 = 57 + 6 * k + 6 + 3 by omega, show 57 + 6 * k + 4 + 6 = 57 + 6 * k + 6 + 4 by omega]
    exact this
theorem zok_went {z : dz} (h : zok z) : 0 ≤ (z 2).toInt ∧ (z 2).toInt ≤ (z 3).toInt := by
  obtain ⟨h1, h2⟩ := h.2.2.2.2.1
  have := zwat_ge h.1 h1 (f := 0) (by decide)
  have := (h.1 0 (by decide)).1
  exact ⟨h1, by omega⟩
noncomputable def zmo (z : dz) (m k : Nat) : Int32 := zhours (zdrop k m z) 24 2
def zmb (f : Nat → Int32) : Nat → Nat
  | 0 => 0
  | k + 1 => if zmb f k = 0 ∨ f k < f (zmb f k - 1) then k + 1 else zmb f k
theorem zmb_le (f : Nat → Int32) : ∀ k, zmb f k ≤ k
  | 0 => Nat.le_refl 0
  | k + 1 => by
    unfold zmb
    have := zmb_le f k
    split <;> omega
theorem zmo_ti {z : dz} {m k : Nat} (h : zok z) (hm : z 5 = nI m) (hm8 : m ≤ 8) (hk : k < m) : 0 ≤ (zmo z m k).toInt ∧ (zmo z m k).toInt ≤ (z 3).toInt := by
  have h1 := zok_hours (zok_drop h hm hm8 hk) 24
  have h2 := zok_went h1.1
  have h3 : zhours (zdrop k m z) 24 3 = z 3 := by rw [h1.2 3 (by unfold zfix; omega), zdrop_lo (by omega) (by decide)]
  rw [h3] at h2
  exact h2
theorem bs_neg8 {b : Nat} (hb : b ≤ 8) : nI b - nI 1 < 0 ↔ b = 0 := by
  have key : ∀ b, b ≤ 8 → (nI b - nI 1 < 0 ↔ b = 0) := by decide +kernel
  exact key b hb
theorem bs_ne8 {b k : Nat} (hb : b ≤ k) (hk : k < 8) : ¬ nI b - nI 1 = nI k := by
  have key : ∀ b, b ≤ 8 → ∀ k, k < 8 → b ≤ k → ¬ nI b - nI 1 = nI k := by decide +kernel
  exact key b (by omega) k hk hb
theorem sub_lt {a b c : Int32} (ha : 0 ≤ a.toInt ∧ a.toInt ≤ 2000000) (hb : 0 ≤ b.toInt ∧ b.toInt ≤ 2000000) (hc : 0 ≤ c.toInt ∧ c.toInt ≤ 2000000) : c - b ≤ a - b ↔ c ≤ a := by
  have e1 := ti_sub (a := a) (b := b) (by omega) (by omega)
  have e2 := ti_sub (a := c) (b := b) (by omega) (by omega)
  rw [Int32.le_iff_toInt_le, Int32.le_iff_toInt_le]
  omega
