/-! the system's cells in the reference's places -/
def pz (k : Nat) : Nat :=
  if k < 5 then 17 + 8 * k
  else if k < 10 then 1 + k
  else if k < 15 then 18 + 8 * (k - 10)
  else if k < 30 then 19 + 8 * ((k - 15) / 3) + (k - 15) % 3
  else if k < 45 then 22 + 8 * ((k - 30) / 3) + (k - 30) % 3
  else if k < 48 then k - 34
  else if k < 51 then k - 34
  else if k = 51 then 1 else if k = 52 then 0 else if k = 53 then 3 else if k = 54 then 2 else if k = 55 then 4 else if k = 56 then 5 else k
theorem pz_c {v : Nat} (h : v < 5) : pz v = 17 + 8 * v := by simp [pz, h]
theorem pz_p {v : Nat} (h : v < 5) : pz (5 + v) = 6 + v := by unfold pz; rw [if_neg (by omega), if_pos (by omega)]; omega
theorem pz_w {v : Nat} (h : v < 5) : pz (10 + v) = 18 + 8 * v := by unfold pz; rw [if_neg (by omega), if_neg (by omega), if_pos (by omega)]; omega
theorem pz_d {v d : Nat} (h : v < 5) (hd : d < 3) : pz (15 + v * 3 + d) = 19 + 8 * v + d := by unfold pz; rw [if_neg (by omega), if_neg (by omega), if_neg (by omega), if_pos (by omega)]; omega
theorem pz_s {v d : Nat} (h : v < 5) (hd : d < 3) : pz (30 + v * 3 + d) = 22 + 8 * v + d := by unfold pz; rw [if_neg (by omega), if_neg (by omega), if_neg (by omega), if_neg (by omega), if_pos (by omega)]; omega
theorem pz_i {d : Nat} (hd : d < 3) : pz (45 + d) = 11 + d := by unfold pz; rw [if_neg (by omega), if_neg (by omega), if_neg (by omega), if_neg (by omega), if_neg (by omega), if_pos (by omega)]; omega
theorem pz_o {d : Nat} (hd : d < 3) : pz (48 + d) = 14 + d := by unfold pz; rw [if_neg (by omega), if_neg (by omega), if_neg (by omega), if_neg (by omega), if_neg (by omega), if_neg (by omega), if_pos (by omega)]; omega
theorem pz_hi {k : Nat} (h : 57 ≤ k) : pz k = k := by
  unfold pz
  rw [if_neg (by omega), if_neg (by omega), if_neg (by omega), if_neg (by omega), if_neg (by omega), if_neg (by omega), if_neg (by omega), if_neg (by omega), if_neg (by omega), if_neg (by omega), if_neg (by omega), if_neg (by omega), if_neg (by omega)]
theorem pz_inj57 : ∀ a, a < 57 → ∀ b, b < 57 → pz a = pz b → a = b := by decide +kernel
theorem pz_lt57 : ∀ a, a < 57 → pz a < 57 := by decide +kernel
theorem pz_inj {a b : Nat} (h : pz a = pz b) : a = b := by
  by_cases ha : a < 57
  · by_cases hb : b < 57
    · exact pz_inj57 a ha b hb h
    · have h1 := pz_lt57 a ha
      rw [h, pz_hi (by omega)] at h1
      exact absurd h1 hb
  · by_cases hb : b < 57
    · have h1 := pz_lt57 b hb
      rw [← h, pz_hi (by omega)] at h1
      exact absurd h1 ha
    · rwa [pz_hi (by omega), pz_hi (by omega)] at h
theorem pz_lt {k : Nat} (h : k < 105) : pz k < 105 := by
  by_cases h57 : k < 57
  · have := pz_lt57 k h57
    omega
  · rw [pz_hi (by omega)]
    exact h
def zp (z : dz) : dz := fun k => z (pz k)
theorem zp_upd (z : dz) (k : Nat) (x : Int32) : upd (zp z) k x = zp (upd z (pz k) x) := by
  funext j
  unfold upd zp
  by_cases h : j = k
  · subst h
    simp
  · have h2 : ¬ pz j = pz k := fun q => h (pz_inj q)
    simp [h, h2]
theorem zp_add (z : dz) (k : Nat) (x : Int32) : upd (zp z) k (zp z k + x) = zp (zadd z (pz k) x) := zp_upd z k _
theorem zp_sub (z : dz) (k : Nat) (x : Int32) : upd (zp z) k (zp z k - x) = zp (zadd z (pz k) (-x)) := by
  rw [Int32.sub_eq_add_neg]
  exact zp_upd z k _
theorem imin_eq (a b : Int32) : (if b < a then b else a) = ileast a b := by
  unfold ileast
  by_cases h1 : b < a
  · have h2 : ¬ a < b := fun q => Int32.lt_irrefl (Int32.lt_trans h1 q)
    simp [h1, h2]
  · by_cases h2 : a < b
    · simp [h1, h2]
    · have e : a = b := Int32.le_antisymm (Int32.not_lt.mp h1) (Int32.not_lt.mp h2)
      simp [e]
theorem zok_moved_pos {fr to : Nat} {much : Int32} {z : dz} (h : zok z) (hf : fr < 5) (ht : to ≤ 5) (hm : 0 ≤ much.toInt) : 0 ≤ zmoved fr to much z := by
  rw [Int32.le_iff_toInt_le]
  exact (zmoved_ti h.1 hf ht hm).1
theorem zmove_0 {fr to : Nat} {much : Int32} {z : dz} (h : zok z) (hf : fr < 5) (ht : to ≤ 5) (hm : much = 0) : zmove fr to much z = z := by
  subst hm
  obtain ⟨a, b, -⟩ := zmoved_ti (much := 0) h.1 hf ht (by decide)
  have c : zmoved fr to 0 z = 0 := by
    obtain ⟨p1, p2, p3⟩ := ileast_ti 0 (z (18 + 8 * fr))
    refine ti_ext ?_
    rw [ti_0] at p1 ⊢
    have : (zmoved fr to 0 z).toInt ≤ (ileast 0 (z (18 + 8 * fr))).toInt := by
      unfold zmoved
      split
      · exact Int.le_refl _
      · exact (ileast_ti _ _).1
    omega
  unfold zmove
  rw [if_pos c]
theorem zsettle_keep {v i : Nat} {z : dz} (hi : i = 1 ∨ i = 18 + 8 * v) : ∀ d, d ≤ 3 → zsettle v z d i = z i
  | 0, _ => rfl
  | d + 1, hd => by
    show zset1 v d _ i = z i
    unfold zset1
    split
    · rw [zadd_ne _ _ (by omega), zadd_ne _ _ (by omega), zsettle_keep hi d (by omega)]
    · rw [zsettle_keep hi d (by omega)]
theorem zholds_keep {v : Nat} {z : dz} {d : Nat} (hd : d ≤ 3) : zholds v (zsettle v z d) = zholds v z := by
  unfold zholds
  rw [zsettle_keep (Or.inl rfl) d hd, zsettle_keep (Or.inr rfl) d hd]
theorem zmove_keep0 {fr to : Nat} {much : Int32} {z : dz} (hf : fr < 5) (ht : to ≤ 5) : zmove fr to much z 0 = z 0 := by
  unfold zmove
  split
  · rfl
  · unfold zmv
    rw [zadd_ne _ _ (by unfold zwst; split <;> omega), zadd_ne _ _ (by omega), zdyes_wat hf ht (by omega) 3 (Nat.le_refl _)]
theorem zvalve_keep0 {k m : Nat} {z : dz} (h : zok z) (hm : z 5 = nI m) (hm8 : m ≤ 8) (hk : k < m) : zvalve k z 0 = z 0 := by
  unfold zvalve
  split
  · obtain ⟨m', hm', e, hv⟩ := h.2.2.2.2.2
    have : m' = m := (nI_eq (by omega) (by omega)).mp (e.symm.trans hm)
    subst this
    obtain ⟨e1, e2, e3, e4, e5, e6⟩ := zvok_use (hv k hk)
    rw [upd_ne _ _ (by omega), zmove_keep0 e3 e4]
  · rfl
theorem zvalves_keep0 {m : Nat} {z : dz} (h : zok z) (hm : z 5 = nI m) (hm8 : m ≤ 8) : ∀ k, k ≤ m → zvalves z k 0 = z 0
  | 0, _ => rfl
  | k + 1, hk => by
    obtain ⟨h1, h2⟩ := zok_valves h hm hm8 k (by omega)
    have h5 : zvalves z k 5 = nI m := by rw [h2 5 (by unfold zfix; omega), hm]
    show zvalve k (zvalves z k) 0 = z 0
    rw [zvalve_keep0 h1 h5 hm8 (by omega), zvalves_keep0 h hm hm8 k (by omega)]
theorem zok_water_pos {v : Nat} {z : dz} (h : zok z) (hv : v < 5) : 0 ≤ z (18 + 8 * v) := by
  rw [Int32.le_iff_toInt_le]
  exact (h.1 v hv).1
theorem i_eq0 {x : Int32} (h1 : x ≤ 0) (h2 : 0 ≤ x) : x = 0 := Int32.le_antisymm h1 h2
theorem c_S_isVat {v : Nat} {M : am_M} {K : am_Q} (hv : v < 5) (h : K (.inl (some (.int (nI 1)))) M) : am_C mt_S_isVat [.int (nI v)] M K :=
  am_C_of_R am_S0 om_S_isVat rfl [.int (nI v)] rfl rfl (g_S_isVat_0 ⟨fun c => absurd c (nI_pos (by omega)), fun c => ⟨fun c => absurd c (i_nge hv (by decide)), fun c => g_S_isVat_14 ⟨Or.inr rfl, h⟩⟩⟩)
