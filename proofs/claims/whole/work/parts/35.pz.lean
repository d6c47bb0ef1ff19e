/-! the system's cells in the reference's places -/
def pz (k : Nat) : Nat :=
  if k < 5 then 17 + 8 * k
  else if k < 10 then 1 + k
  else if k < 15 then 18 + 8 * (k - 10)
  else if k < 30 then 19 + 8 * ((k - 15) / 3) + (k - 15) % 3
  else if k < 45 then 22 + 8 * ((k - 30) / 3) + (k - 30) % 3
  else if k < 48 then k - 34
  else if k < 51 then k - 34
  else if k = 51 then 1 else if k = 52 then 0 else if k = 53 then 3 else if k = 54 then 2 else if k = 55 then 4 else if k = 56 then 5 else k
theorem pz_c {v : Nat} (h : v < 5) : pz v = 17 + 8 * v := by simp [pz, h]
theorem pz_p {v : Nat} (h : v < 5) : pz (5 + v) = 6 + v := by unfold pz; rw [if_neg (by omega), if_pos (by omega)]; omega
theorem pz_w {v : Nat} (h : v < 5) : pz (10 + v) = 18 + 8 * v := by unfold pz; rw [if_neg (by omega), if_neg (by omega), if_pos (by omega)]; omega
theorem pz_d {v d : Nat} (h : v < 5) (hd : d < 3) : pz (15 + v * 3 + d) = 19 + 8 * v + d := by unfold pz; rw [if_neg (by omega), if_neg (by omega), if_neg (by omega), if_pos (by omega)]; omega
theorem pz_s {v d : Nat} (h : v < 5) (hd : d < 3) : pz (30 + v * 3 + d) = 22 + 8 * v + d := by unfold pz; rw [if_neg (by omega), if_neg (by omega), if_neg (by omega), if_neg (by omega), if_pos (by omega)]; omega
theorem pz_i {d : Nat} (hd : d < 3) : pz (45 + d) = 11 + d := by unfold pz; rw [if_neg (by omega), if_neg (by omega), if_neg (by omega), if_neg (by omega), if_neg (by omega), if_pos (by omega)]; omega
theorem pz_o {d : Nat} (hd : d < 3) : pz (48 + d) = 14 + d := by unfold pz; rw [if_neg (by omega), if_neg (by omega), if_neg (by omega), if_neg (by omega), if_neg (by omega), if_neg (by omega), if_pos (by omega)]; omega
theorem pz_hi {k : Nat} (h : 57 ≤ k) : pz k = k := by
  unfold pz
  rw [if_neg (by omega), if_neg (by omega), if_neg (by omega), if_neg (by omega), if_neg (by omega), if_neg (by omega), if_neg (by omega), if_neg (by omega), if_neg (by omega), if_neg (by omega), if_neg (by omega), if_neg (by omega), if_neg (by omega)]
theorem pz_inj57 : ∀ a, a < 57 → ∀ b, b < 57 → pz a = pz b → a = b := by decide +kernel
theorem pz_lt57 : ∀ a, a < 57 → pz a < 57 := by decide +kernel
theorem pz_inj {a b : Nat} (h : pz a = pz b) : a = b := by
  by_cases ha : a < 57
  · by_cases hb : b < 57
    · exact pz_inj57 a ha b hb h
    · have h1 := pz_lt57 a ha
      rw [h, pz_hi (by omega)] at h1
      exact absurd h1 hb
  · by_cases hb : b < 57
    · have h1 := pz_lt57 b hb
      rw [← h, pz_hi (by omega)] at h1
      exact absurd h1 ha
    · rwa [pz_hi (by omega), pz_hi (by omega)] at h
theorem pz_lt {k : Nat} (h : k < 105) : pz k < 105 := by
  by_cases h57 : k < 57
  · have := pz_lt57 k h57
    omega
  · rw [pz_hi (by omega)]
    exact h
def zp (z : dz) : dz := fun k => z (pz k)
theorem zp_upd (z : dz) (k : Nat) (x : Int32) : upd (zp z) k x = zp (upd z (pz k) x) := by
  funext j
  unfold upd zp
  by_cases h : j = k
  · subst h
    simp
  · have h2 : ¬ pz j = pz k := fun q => h (pz_inj q)
    simp [h, h2]
theorem zp_add (z : dz) (k : Nat) (x : Int32) : upd (zp z) k (zp z k + x) = zp (zadd z (pz k) x) := zp_upd z k _
theorem zp_sub (z : dz) (k : Nat) (x : Int32) : upd (zp z) k (zp z k - x) = zp (zadd z (pz k) (-x)) := by
  rw [Int32.sub_eq_add_neg]
  exact zp_upd z k _
theorem imin_eq (a b : Int32) : (if b < a then b else a) = ileast a b := by
  unfold ileast
  by_cases h1 : b < a
  · have h2 : ¬ a < b := fun q => Int32.lt_irrefl (Int32.lt_trans h1 q)
    simp [h1, h2]
  · by_cases h2 : a < b
    · simp [h1, h2]
    · have e : a = b := Int32.le_antisymm (Int32.not_lt.mp h1) (Int32.not_lt.mp h2)
      simp [e]
theorem zok_moved_pos {fr to : Nat} {much : Int32} {z : dz} (h : zok z) (hf : fr < 5) (ht : to ≤ 5) (hm : 0 ≤ much.toInt) : 0 ≤ zmoved fr to much z := by
  sorry
theorem zok_water_pos {v : Nat} {z : dz} (h : zok z) (hv : v < 5) : 0 ≤ z (18 + 8 * v) := by
  rw [Int32.le_iff_toInt_le]
  exact (h.1 v hv).1
theorem i_eq0 {x : Int32} (h1 : x ≤ 0) (h2 : 0 ≤ x) : x = 0 := Int32.le_antisymm h1 h2
theorem c_S_isVat {v : Nat} {M : am_M} {K : am_Q} (hv : v < 5) (h : K (.inl (some (.int (nI 1)))) M) : am_C mt_S_isVat [.int (nI v)] M K :=
  am_C_of_R am_S0 om_S_isVat rfl [.int (nI v)] rfl rfl (g_S_isVat_0 ⟨fun c => absurd c (nI_pos (by omega)), fun c => ⟨fun c => absurd c (i_nge hv (by decide)), fun c => g_S_isVat_14 ⟨Or.inr rfl, h⟩⟩⟩)
