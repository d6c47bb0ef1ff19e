/-! a new object: nothing comes to pass in it -/
def st_z : dz := upd (upd (upd (upd (upd (upd (fun _ => 0) 17 (nI 1000)) 25 (nI 1000)) 33 (nI 1000)) 41 (nI 1000)) 49 (nI 1000)) 1 (nI 20)
def st_ws : wS := (st_z, 0, fun _ _ => 0, fun _ _ => 0, fun _ => false, fun _ => 0, 0)
theorem st_zk1 : ∀ v, v < 5 → 0 ≤ (st_z (18 + 8 * v)).toInt ∧ (st_z (18 + 8 * v)).toInt ≤ (st_z (17 + 8 * v)).toInt ∧ (st_z (17 + 8 * v)).toInt ≤ 2000 := by decide +kernel
theorem st_zk2 : ∀ v, v < 5 → ∀ d, d < 3 → 0 ≤ (st_z (19 + 8 * v + d)).toInt ∧ 0 ≤ (st_z (22 + 8 * v + d)).toInt := by decide +kernel
theorem st_zk3 : ∀ d, d < 3 → 0 ≤ (st_z (14 + d)).toInt ∧ zall st_z d = (st_z (11 + d)).toInt ∧ (st_z (11 + d)).toInt ≤ 99999 := by unfold zall; decide +kernel
theorem st_zk4 : (0 ≤ (st_z 1).toInt ∧ (st_z 1).toInt ≤ 200) ∧ 0 ≤ (st_z 2).toInt ∧ zwat st_z = (st_z 3).toInt := by unfold zwat; decide +kernel
theorem st_zk5 : ∀ v, v < 5 → st_z (6 + v) = nI 0 ∧ 0 < 32 ∧ (0 : Nat).testBit v = false := by decide +kernel
theorem st_wk : wk 0 st_ws := ⟨⟨⟨st_zk1, fun v d hv hd => st_zk2 v hv d hd, st_zk3, st_zk4.1, st_zk4.2, 0, by decide, by decide +kernel, fun k h => absurd h (Nat.not_lt_zero k)⟩, by decide +kernel, by decide +kernel, fun _ => 0, st_zk5, fun v _ u _ => by simp⟩, fun j h => absurd h (Nat.not_lt_zero j), fun j _ h => absurd h Bool.false_ne_true, by decide, by decide, fun k h => absurd h (Nat.not_lt_zero k)⟩
theorem st_tl : tl st_z := tl_upd (tl_upd (tl_upd (tl_upd (tl_upd (tl_upd (fun _ _ => rfl) (by decide)) (by decide)) (by decide)) (by decide)) (by decide)) (by decide)
theorem st_wi : wi 0 st_ws := ⟨st_wk, st_tl, fun j h => absurd h (Nat.not_lt_zero j), fun j _ h => absurd h Bool.false_ne_true⟩
-- nothing to do in an hour
def idl (z : dz) : Prop := z 5 = nI 0 ∧ (∀ v, v < 5 → z (6 + v) = nI 0) ∧ (∀ v, v < 5 → z (18 + 8 * v) = 0) ∧ ∀ v d, v < 5 → d < 3 → z (19 + 8 * v + d) = 0
theorem idl_add {z : dz} (h : idl z) (x : Int32) : idl (zadd z 0 x) := by
  obtain ⟨h1, h2, h3, h4⟩ := h
  exact ⟨by rw [zadd_ne _ _ (by omega)]; exact h1, fun v hv => by rw [zadd_ne _ _ (by omega)]; exact h2 v hv, fun v hv => by rw [zadd_ne _ _ (by omega)]; exact h3 v hv, fun v d hv hd => by rw [zadd_ne _ _ (by omega)]; exact h4 v d hv hd⟩
theorem no_bit : ∀ u, u < 5 → ¬ (nI 0 >>> (nI u &&& 31) &&& nI 1 = nI 1) := by decide +kernel
theorem idl_lev1 {z : dz} {a b : Nat} (h : idl z) (ha : a < 5) (hb : b < 5) : zlev1 a b z = z := by
  have : ¬ zpipe a b z := by
    unfold zpipe
    rw [h.2.1 a ha]
    exact no_bit b hb
  unfold zlev1
  rw [if_neg this]
theorem idl_levs {z : dz} {a : Nat} (h : idl z) (ha : a < 5) : ∀ k, a + k < 5 → zlevs a z k = z
  | 0, _ => rfl
  | k + 1, hk => by
    show zlev1 a (a + 1 + k) (zlevs a z k) = z
    rw [idl_levs h ha k (by omega), idl_lev1 h ha (by omega)]
theorem idl_pipes {z : dz} (h : idl z) : ∀ k, k ≤ 5 → zpipes z k = z
  | 0, _ => rfl
  | k + 1, hk => by
    show zlevs k (zpipes z k) (4 - k) = z
    rw [idl_pipes h k (by omega), idl_levs h (by omega) (4 - k) (by omega)]
theorem idl_set1 {z : dz} {v d : Nat} (h : idl z) (hv : v < 5) (hd : d < 3) : zset1 v d z = z := by
  have e : zholds v z = 0 := by
    unfold zholds
    rw [h.2.2.1 v hv, Int32.zero_mul]
    decide +kernel
  unfold zset1
  rw [e, h.2.2.2 v d hv hd, if_neg (by decide +kernel)]
theorem idl_settle {z : dz} {v : Nat} (h : idl z) (hv : v < 5) : ∀ d, d ≤ 3 → zsettle v z d = z
  | 0, _ => rfl
  | d + 1, hd => by
    show zset1 v d (zsettle v z d) = z
    rw [idl_settle h hv d (by omega), idl_set1 h hv (by omega)]
theorem idl_settles {z : dz} (h : idl z) : ∀ v, v ≤ 5 → zsettles z v = z
  | 0, _ => rfl
  | v + 1, hv => by
    show zsettle v (zsettles z v) 3 = z
    rw [idl_settles h v (by omega), idl_settle h (by omega) 3 (Nat.le_refl _)]
theorem idl_hour {z : dz} (h : idl z) : zhour z = zadd z 0 (nI 1) := by
  have e : zn (z 5) = 0 := by rw [h.1]; exact zn_nI (by decide)
  unfold zhour
  rw [e, show zvalves z 0 = z from rfl, idl_pipes h 5 (Nat.le_refl _), idl_settles h 5 (Nat.le_refl _)]
theorem idl_hours {z : dz} (h : idl z) : ∀ k, idl (zhours z k) ∧ ∀ i, i ≠ 0 → zhours z k i = z i
  | 0 => ⟨h, fun _ _ => rfl⟩
  | k + 1 => by
    obtain ⟨a, b⟩ := idl_hours h k
    have e : zhours z (k + 1) = zadd (zhours z k) 0 (nI 1) := idl_hour a
    rw [e]
    exact ⟨idl_add a _, fun i hi => by rw [zadd_ne _ _ hi]; exact b i hi⟩
theorem st_i3 : ∀ v, v < 5 → st_z (18 + 8 * v) = 0 := by decide +kernel
theorem st_i4 : ∀ v, v < 5 → ∀ d, d < 3 → st_z (19 + 8 * v + d) = 0 := by decide +kernel
theorem st_idl : idl st_z := ⟨by decide +kernel, fun v hv => (st_zk5 v hv).1, st_i3, fun v d hv hd => st_i4 v hv d hd⟩
theorem st_E : zE st_z 0 1 := fun i hi => ((idl_hours st_idl (24 * 1)).2 i (fun q => hi (Or.inl q))).symm
theorem st_rnd : m_rnd 0 st_z = nI 1 ∧ m_rnd 1 st_z = nI 0 := by
  rcases rl_rnd st_wk.1 with ⟨-, -, h⟩ | ⟨a, d, hd, ⟨h1, h2, h3⟩, e1, e2⟩
  · exact absurd st_E (h 1 (by decide) 0 (by decide))
  · have d1 : d = 1 := by
      by_cases c : 1 < d
      · exact absurd st_E (h3 1 c 0 (by decide))
      · omega
    have a0 : a = 0 := by omega
    have e1' : m_rnd 0 st_z = nI (d - a) := e1
    have e2' : m_rnd 1 st_z = nI a := e2
    rw [e1', e2', d1, a0]
    exact ⟨rfl, rfl⟩
theorem st_main : m_main st_ws = -nI 1 := by
  have e : zn (w_z st_ws 5) = 0 := by decide +kernel
  unfold m_main
  rw [e, show zmb (zmo (w_z st_ws) 0) 0 = 0 from rfl]
  decide +kernel
theorem st_zea : zea 0 st_z 241 = 0 := (emp_0 (emp_zea st_wk.1.1 (by decide))).mpr (st_i3 0 (by decide))
