/-! what stays and what holds of the 105 numbers -/
theorem zadd_eq (z : dz) (i : Nat) (x : Int32) : zadd z i x i = z i + x := by simp [zadd, upd]
theorem zadd_ne (z : dz) {i j : Nat} (x : Int32) (h : j ≠ i) : zadd z i x j = z j := by simp [zadd, upd, h]
/-- places that hours leave as they are -/
def zfix (i : Nat) : Prop := i = 1 ∨ (3 ≤ i ∧ i < 14) ∨ (57 ≤ i ∧ ¬ (i - 57) % 6 = 5) ∨ (17 ≤ i ∧ i < 57 ∧ (i - 17) % 8 = 0)
theorem zdst_ne {to d i : Nat} (ht : to ≤ 5) (hd : d < 3) (hi : zfix i) : i ≠ zdst to d := by
  unfold zfix at hi
  unfold zdst
  split <;> omega
theorem zwst_ne {to i : Nat} (ht : to ≤ 5) (hi : zfix i) : i ≠ zwst to := by
  unfold zfix at hi
  unfold zwst
  split <;> omega
theorem zdye_fix {fr to d : Nat} {m had : Int32} {z : dz} {i : Nat} (hf : fr < 5) (ht : to ≤ 5) (hd : d < 3) (hi : zfix i) : zdye fr to m had d z i = z i := by
  unfold zdye
  rw [zadd_ne _ _ (zdst_ne ht hd hi), zadd_ne _ _ (by unfold zfix at hi; omega)]
theorem zdyes_fix {fr to : Nat} {m had : Int32} {z : dz} {i : Nat} (hf : fr < 5) (ht : to ≤ 5) (hi : zfix i) : ∀ d, d ≤ 3 → zdyes fr to m had z d i = z i
  | 0, _ => rfl
  | d + 1, hd => by
    show zdye fr to m had d _ i = z i
    rw [zdye_fix hf ht (by omega) hi, zdyes_fix hf ht hi d (by omega)]
theorem zmove_fix {fr to : Nat} {much : Int32} {z : dz} {i : Nat} (hf : fr < 5) (ht : to ≤ 5) (hi : zfix i) : zmove fr to much z i = z i := by
  unfold zmove
  split
  · rfl
  · unfold zmv
    rw [zadd_ne _ _ (zwst_ne ht hi), zadd_ne _ _ (by unfold zfix at hi; omega), zdyes_fix hf ht hi 3 (Nat.le_refl _)]
theorem zlevel_fix {one other : Nat} {z : dz} {i : Nat} (h1 : one < 5) (h2 : other < 5) (hi : zfix i) : zlevel one other z i = z i := by
  unfold zlevel
  split
  · exact zmove_fix h1 (by omega) hi
  · exact zmove_fix h2 (by omega) hi
theorem zlev1_fix {one other : Nat} {z : dz} {i : Nat} (h1 : one < 5) (h2 : other < 5) (hi : zfix i) : zlev1 one other z i = z i := by
  unfold zlev1
  split
  · exact zlevel_fix h1 h2 hi
  · rfl
theorem zlevs_fix {one : Nat} {z : dz} {i : Nat} (h1 : one < 5) (hi : zfix i) : ∀ k, one + k < 5 → zlevs one z k i = z i
  | 0, _ => rfl
  | k + 1, hk => by
    show zlev1 one (one + 1 + k) _ i = z i
    rw [zlev1_fix h1 (by omega) hi, zlevs_fix h1 hi k (by omega)]
theorem zpipes_fix {z : dz} {i : Nat} (hi : zfix i) : ∀ k, k ≤ 5 → zpipes z k i = z i
  | 0, _ => rfl
  | k + 1, hk => by
    show zlevs k _ (4 - k) i = z i
    rw [zlevs_fix (by omega) hi _ (by omega), zpipes_fix hi k (by omega)]
theorem zset1_fix {v d : Nat} {z : dz} {i : Nat} (hv : v < 5) (hd : d < 3) (hi : zfix i) : zset1 v d z i = z i := by
  unfold zset1
  split
  · rw [zadd_ne _ _ (by unfold zfix at hi; omega), zadd_ne _ _ (by unfold zfix at hi; omega)]
  · rfl
theorem zsettle_fix {v : Nat} {z : dz} {i : Nat} (hv : v < 5) (hi : zfix i) : ∀ d, d ≤ 3 → zsettle v z d i = z i
  | 0, _ => rfl
  | d + 1, hd => by
    show zset1 v d _ i = z i
    rw [zset1_fix hv (by omega) hi, zsettle_fix hv hi d (by omega)]
theorem zsettles_fix {z : dz} {i : Nat} (hi : zfix i) : ∀ v, v ≤ 5 → zsettles z v i = z i
  | 0, _ => rfl
  | v + 1, hv => by
    show zsettle v _ 3 i = z i
    rw [zsettle_fix (by omega) hi 3 (Nat.le_refl _), zsettles_fix hi v (by omega)]
-- numbers of a small range
theorem zn_nI {k : Nat} (h : k < 2 ^ 31) : zn (nI k) = k := nI_clamp h
/-- a valve's numbers are in their ranges -/
def zvok (k : Nat) (z : dz) : Prop := ∃ f t r a b : Nat, z (57 + 6 * k) = nI f ∧ z (57 + 6 * k + 1) = nI t ∧ z (57 + 6 * k + 2) = nI r ∧ z (57 + 6 * k + 3) = nI a ∧ z (57 + 6 * k + 4) = nI b ∧ f < 5 ∧ t ≤ 5 ∧ f ≠ t ∧ 1 ≤ r ∧ r ≤ 500 ∧ a ≤ b ∧ b ≤ 23
def zvats (z : dz) : Prop := ∀ v, v < 5 → 0 ≤ (z (18 + 8 * v)).toInt ∧ (z (18 + 8 * v)).toInt ≤ (z (17 + 8 * v)).toInt ∧ (z (17 + 8 * v)).toInt ≤ 2000
def zgrs (z : dz) : Prop := ∀ v d, v < 5 → d < 3 → 0 ≤ (z (19 + 8 * v + d)).toInt ∧ 0 ≤ (z (22 + 8 * v + d)).toInt
/-- the grains of a dye in all vats and out -/
def zall (z : dz) (d : Nat) : Int := (z (19 + d)).toInt + (z (22 + d)).toInt + ((z (27 + d)).toInt + (z (30 + d)).toInt) + ((z (35 + d)).toInt + (z (38 + d)).toInt) + ((z (43 + d)).toInt + (z (46 + d)).toInt) + ((z (51 + d)).toInt + (z (54 + d)).toInt) + (z (14 + d)).toInt
def zacc (z : dz) : Prop := ∀ d, d < 3 → 0 ≤ (z (14 + d)).toInt ∧ zall z d = (z (11 + d)).toInt ∧ (z (11 + d)).toInt ≤ 99999
def zwat (z : dz) : Int := (z 18).toInt + (z 26).toInt + (z 34).toInt + (z 42).toInt + (z 50).toInt + (z 2).toInt
def zok (z : dz) : Prop := zvats z ∧ zgrs z ∧ zacc z ∧ (0 ≤ (z 1).toInt ∧ (z 1).toInt ≤ 200) ∧ (0 ≤ (z 2).toInt ∧ zwat z = (z 3).toInt) ∧ ∃ m : Nat, m ≤ 8 ∧ z 5 = nI m ∧ ∀ k, k < m → zvok k z
theorem zvok_fix {k : Nat} {z z' : dz} (hk : k < 8) (h : ∀ i, zfix i → z' i = z i) (hv : zvok k z) : zvok k z' := by
  unfold zvok at hv ⊢
  rw [h _ (by unfold zfix; omega), h _ (by unfold zfix; omega), h _ (by unfold zfix; omega), h _ (by unfold zfix; omega), h _ (by unfold zfix; omega)]
  exact hv
theorem zok_moved0 {fr to : Nat} {much : Int32} {z : dz} (h : zok z) (hf : fr < 5) (ht : to ≤ 5) (hm : 0 ≤ much.toInt) : zmoved fr to much z ≠ 0 → z (18 + 8 * fr) ≠ 0 := by
  sorry
theorem zok_move {fr to : Nat} {much : Int32} {z : dz} (h : zok z) (hf : fr < 5) (ht : to ≤ 5) (hne : fr ≠ to) (hm : 0 ≤ much.toInt) : zok (zmove fr to much z) := by
  sorry
theorem zok_half {one other : Nat} {z : dz} (h : zok z) (h1 : one < 5) (h2 : other < 5) : (0 < z (18 + 8 * one) - z (18 + 8 * other) → 0 ≤ ((z (18 + 8 * one) - z (18 + 8 * other)) / nI 2).toInt) ∧ (¬ 0 < z (18 + 8 * one) - z (18 + 8 * other) → 0 ≤ (-(z (18 + 8 * one) - z (18 + 8 * other)) / nI 2).toInt) := by
  sorry
theorem zok_set1 {v d : Nat} {z : dz} (h : zok z) (hv : v < 5) (hd : d < 3) : zok (zset1 v d z) := by
  sorry
theorem zok_mvd {k : Nat} {x : Int32} {z : dz} (h : zok z) (hk : k < 8) : zok (upd z (57 + 6 * k + 5) x) := by
  sorry
theorem zok_hr {x : Int32} {z : dz} (h : zok z) : zok (zadd z 0 x) := by
  sorry
theorem zok_level {one other : Nat} {z : dz} (h : zok z) (h1 : one < 5) (h2 : other < 5) (hne : one ≠ other) : zok (zlevel one other z) := by
  obtain ⟨e1, e2⟩ := zok_half h h1 h2
  unfold zlevel
  split
  · rename_i c
    exact zok_move h h1 (by omega) hne (e1 c)
  · rename_i c
    exact zok_move h h2 (by omega) (Ne.symm hne) (e2 c)
theorem zok_lev1 {one other : Nat} {z : dz} (h : zok z) (h1 : one < 5) (h2 : other < 5) (hne : one ≠ other) : zok (zlev1 one other z) := by
  unfold zlev1
  split
  · exact zok_level h h1 h2 hne
  · exact h
theorem zok_levs {one : Nat} {z : dz} (h : zok z) (h1 : one < 5) : ∀ k, one + k < 5 → zok (zlevs one z k)
  | 0, _ => h
  | k + 1, hk => zok_lev1 (zok_levs h h1 k (by omega)) h1 (by omega) (by omega)
theorem zok_pipes {z : dz} (h : zok z) : ∀ k, k ≤ 5 → zok (zpipes z k)
  | 0, _ => h
  | k + 1, hk => zok_levs (zok_pipes h k (by omega)) (by omega) _ (by omega)
theorem zok_settle {v : Nat} {z : dz} (h : zok z) (hv : v < 5) : ∀ d, d ≤ 3 → zok (zsettle v z d)
  | 0, _ => h
  | d + 1, hd => zok_set1 (zok_settle h hv d (by omega)) hv (by omega)
theorem zok_settles {z : dz} (h : zok z) : ∀ v, v ≤ 5 → zok (zsettles z v)
  | 0, _ => h
  | v + 1, hv => zok_settle (zok_settles h v (by omega)) (by omega) 3 (Nat.le_refl _)
/-- a valve's numbers, as they are used -/
theorem zvok_use {k : Nat} {z : dz} (h : zvok k z) : z (57 + 6 * k) = nI (zn (z (57 + 6 * k))) ∧ z (57 + 6 * k + 1) = nI (zn (z (57 + 6 * k + 1))) ∧ zn (z (57 + 6 * k)) < 5 ∧ zn (z (57 + 6 * k + 1)) ≤ 5 ∧ zn (z (57 + 6 * k)) ≠ zn (z (57 + 6 * k + 1)) ∧ 0 ≤ (z (57 + 6 * k + 2)).toInt := by
  obtain ⟨f, t, r, a, b, e1, e2, e3, e4, e5, h1, h2, h3, h4, h5, h6⟩ := h
  rw [e1, e2, e3, zn_nI (by omega), zn_nI (by omega), nI_toInt (by omega)]
  exact ⟨rfl, rfl, h1, h2, h3, by omega⟩
theorem zok_valve {k m : Nat} {z : dz} (h : zok z) (hm : z 5 = nI m) (hm8 : m ≤ 8) (hk : k < m) : zok (zvalve k z) := by
  unfold zvalve
  split
  · obtain ⟨m', hm', e, hv⟩ := h.2.2.2.2.2
    have : m' = m := (nI_eq (by omega) (by omega)).mp (e.symm.trans hm)
    subst this
    obtain ⟨e1, e2, e3, e4, e5, e6⟩ := zvok_use (hv k hk)
    exact zok_mvd (zok_move h e3 e4 e5 e6) (by omega)
  · exact h
theorem zvalve_fix {k m : Nat} {z : dz} {i : Nat} (h : zok z) (hm : z 5 = nI m) (hm8 : m ≤ 8) (hk : k < m) (hi : zfix i) : zvalve k z i = z i := by
  unfold zvalve
  split
  · obtain ⟨m', hm', e, hv⟩ := h.2.2.2.2.2
    have : m' = m := (nI_eq (by omega) (by omega)).mp (e.symm.trans hm)
    subst this
    obtain ⟨e1, e2, e3, e4, e5, e6⟩ := zvok_use (hv k hk)
    rw [upd_ne _ _ (by unfold zfix at hi; omega), zmove_fix e3 e4 hi]
  · rfl
theorem zok_valves {m : Nat} {z : dz} (h : zok z) (hm : z 5 = nI m) (hm8 : m ≤ 8) : ∀ k, k ≤ m → zok (zvalves z k) ∧ ∀ i, zfix i → zvalves z k i = z i
  | 0, _ => ⟨h, fun _ _ => rfl⟩
  | k + 1, hk => by
    obtain ⟨h1, h2⟩ := zok_valves h hm hm8 k (by omega)
    have h5 : zvalves z k 5 = nI m := by rw [h2 5 (by unfold zfix; omega), hm]
    refine ⟨zok_valve h1 h5 hm8 (by omega), fun i hi => ?_⟩
    show zvalve k (zvalves z k) i = z i
    rw [zvalve_fix h1 h5 hm8 (by omega) hi, h2 i hi]
theorem zok_hour {z : dz} (h : zok z) : zok (zhour z) ∧ ∀ i, zfix i → zhour z i = z i := by
  obtain ⟨m, hm8, hm, hv⟩ := h.2.2.2.2.2
  have e : zn (z 5) = m := by rw [hm]; exact zn_nI (by omega)
  obtain ⟨h1, h2⟩ := zok_valves h hm hm8 m (Nat.le_refl _)
  unfold zhour
  rw [e]
  refine ⟨zok_hr (zok_settles (zok_pipes h1 5 (Nat.le_refl _)) 5 (Nat.le_refl _)), fun i hi => ?_⟩
  rw [zadd_ne _ _ (by unfold zfix at hi; omega), zsettles_fix hi 5 (Nat.le_refl _), zpipes_fix hi 5 (Nat.le_refl _), h2 i hi]
theorem zok_hours {z : dz} (h : zok z) : ∀ k, zok (zhours z k) ∧ ∀ i, zfix i → zhours z k i = z i
  | 0 => ⟨h, fun _ _ => rfl⟩
  | k + 1 => by
    obtain ⟨h1, h2⟩ := zok_hours h k
    obtain ⟨h3, h4⟩ := zok_hour h1
    exact ⟨h3, fun i hi => (h4 i hi).trans (h2 i hi)⟩
