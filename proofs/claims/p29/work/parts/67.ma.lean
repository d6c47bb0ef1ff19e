/-! what hours do: water that goes out is never taken back, nothing is left beyond the limit; when a vat is empty; the vat with the greatest share -/
theorem ti_max (x : Int32) : x.toInt ≤ 2147483647 := by have := Int32.toInt_lt x; omega
theorem out_move {fr to : Nat} {much : Int32} {z : dz} (h : zok z) (hf : fr < 5) (ht : to ≤ 5) (hm : 0 ≤ much.toInt) : (z 2).toInt ≤ (zmove fr to much z 2).toInt := by
  unfold zmove
  split
  · exact Int.le_refl _
  · obtain ⟨m0, m1, -⟩ := zmoved_ti h.1 hf ht hm
    generalize zmoved fr to much z = m at m0 m1 ⊢
    have h2 := h.2.2.2.2.1
    have hg := zwat_ge h.1 h2.1 hf
    have h3 := ti_max (z 3)
    unfold zmv
    by_cases c : to = 5
    · have e : zwst to = 2 := by unfold zwst; rw [if_pos c]
      rw [e, zadd_eq, zadd_ne _ _ (by omega), zdyes_wat hf ht (by omega) 3 (Nat.le_refl _), ti_add (by omega) (by omega)]
      omega
    · have e : zwst to = 18 + 8 * to := by unfold zwst; rw [if_neg c]
      rw [e, zadd_ne _ _ (by omega), zadd_ne _ _ (by omega), zdyes_wat hf ht (by omega) 3 (Nat.le_refl _)]
      exact Int.le_refl _
theorem out_level {one other : Nat} {z : dz} (h : zok z) (h1 : one < 5) (h2 : other < 5) : (z 2).toInt ≤ (zlevel one other z 2).toInt := by
  obtain ⟨a, b⟩ := zok_half h h1 h2
  unfold zlevel
  split
  · rename_i c
    exact out_move h h1 (by omega) (a c)
  · rename_i c
    exact out_move h h2 (by omega) (b c)
theorem out_lev1 {one other : Nat} {z : dz} (h : zok z) (h1 : one < 5) (h2 : other < 5) : (z 2).toInt ≤ (zlev1 one other z 2).toInt := by
  unfold zlev1
  split
  · exact out_level h h1 h2
  · exact Int.le_refl _
theorem out_levs {one : Nat} {z : dz} (h : zok z) (h1 : one < 5) : ∀ k, one + k < 5 → (z 2).toInt ≤ (zlevs one z k 2).toInt
  | 0, _ => Int.le_refl _
  | k + 1, hk => Int.le_trans (out_levs h h1 k (by omega)) (out_lev1 (zok_levs h h1 k (by omega)) h1 (by omega))
theorem out_pipes {z : dz} (h : zok z) : ∀ k, k ≤ 5 → (z 2).toInt ≤ (zpipes z k 2).toInt
  | 0, _ => Int.le_refl _
  | k + 1, hk => Int.le_trans (out_pipes h k (by omega)) (out_levs (zok_pipes h k (by omega)) (by omega) _ (by omega))
theorem set1_ne {v d i : Nat} {z : dz} (h1 : i ≠ 19 + 8 * v + d) (h2 : i ≠ 22 + 8 * v + d) : zset1 v d z i = z i := by
  unfold zset1
  split
  · rw [zadd_ne _ _ h2, zadd_ne _ _ h1]
  · rfl
theorem settle_ne {v i : Nat} {z : dz} (h : ∀ e, e < 3 → i ≠ 19 + 8 * v + e ∧ i ≠ 22 + 8 * v + e) : ∀ d, d ≤ 3 → zsettle v z d i = z i
  | 0, _ => rfl
  | d + 1, hd => by
    show zset1 v d (zsettle v z d) i = z i
    rw [set1_ne (h d (by omega)).1 (h d (by omega)).2, settle_ne h d (by omega)]
theorem settles_ne {i : Nat} {z : dz} (h : ∀ v e, v < 5 → e < 3 → i ≠ 19 + 8 * v + e ∧ i ≠ 22 + 8 * v + e) : ∀ v, v ≤ 5 → zsettles z v i = z i
  | 0, _ => rfl
  | v + 1, hv => by
    show zsettle v (zsettles z v) 3 i = z i
    rw [settle_ne (fun e he => h v e (by omega) he) 3 (Nat.le_refl _), settles_ne h v (by omega)]
theorem out_valve {k m : Nat} {z : dz} (h : zok z) (hm : z 5 = nI m) (hm8 : m ≤ 8) (hk : k < m) : (z 2).toInt ≤ (zvalve k z 2).toInt := by
  obtain ⟨m', hm', e, hvs⟩ := h.2.2.2.2.2
  have : m' = m := (nI_eq (by omega) (by omega)).mp (e.symm.trans hm)
  subst this
  obtain ⟨-, -, v3, v4, -, v6⟩ := zvok_use (hvs k hk)
  unfold zvalve
  split
  · rw [upd_ne _ _ (by omega)]
    exact out_move h v3 v4 v6
  · exact Int.le_refl _
theorem out_valves {m : Nat} {z : dz} (h : zok z) (hm : z 5 = nI m) (hm8 : m ≤ 8) : ∀ k, k ≤ m → (z 2).toInt ≤ (zvalves z k 2).toInt
  | 0, _ => Int.le_refl _
  | k + 1, hk => by
    obtain ⟨a, b⟩ := zok_valves h hm hm8 k (by omega)
    exact Int.le_trans (out_valves h hm hm8 k (by omega)) (out_valve a (by rw [b 5 (by unfold zfix; omega)]; exact hm) hm8 (by omega))
theorem out_hour {z : dz} (h : zok z) : (z 2).toInt ≤ (zhour z 2).toInt := by
  obtain ⟨m, hm8, hm, hv⟩ := h.2.2.2.2.2
  have e : zn (z 5) = m := by rw [hm]; exact zn_nI (by omega)
  unfold zhour
  rw [e, zadd_ne _ _ (by omega), settles_ne (fun v e hv he => by omega) 5 (Nat.le_refl _)]
  exact Int.le_trans (out_valves h hm hm8 m (Nat.le_refl _)) (out_pipes (zok_valves h hm hm8 m (Nat.le_refl _)).1 5 (Nat.le_refl _))
theorem out_hours {z : dz} (h : zok z) : ∀ k, (z 2).toInt ≤ (zhours z k 2).toInt
  | 0 => Int.le_refl _
  | k + 1 => Int.le_trans (out_hours h k) (out_hour (zok_hours h k).1)
/-- what goes out in some hours is not less than 0 -/
theorem out_pos {z : dz} (h : zok z) (k : Nat) : 0 ≤ (zhours z k 2 - z 2).toInt := by
  have h1 := out_hours h k
  have h2 := h.2.2.2.2.1.1
  have h3 := ti_max (zhours z k 2)
  rw [ti_sub (by omega) (by omega)]
  omega
-- settled
theorem set1_le {v d : Nat} {z : dz} (h : zok z) (hv : v < 5) (hd : d < 3) : (zset1 v d z (19 + 8 * v + d)).toInt ≤ (zholds v z).toInt := by
  have hl := zholds_ti h.1 h.2.2.2.1 hv
  obtain ⟨l1, -, -, -⟩ := zgr_le h.2.1 h.2.2.1 hv hd
  obtain ⟨g1, -⟩ := h.2.1 v d hv hd
  unfold zset1
  have e := ti_sub (a := z (19 + 8 * v + d)) (b := zholds v z) (by omega) (by omega)
  split
  · rename_i c
    have c' := ti_lt.mp c
    rw [ti_0] at c'
    rw [zadd_ne _ _ (by omega), zadd_eq]
    have e2 := ti_neg (a := z (19 + 8 * v + d) - zholds v z) (by omega)
    rw [ti_add (by omega) (by omega)]
    omega
  · rename_i c
    have c' : ¬ (0 : Int32).toInt < (z (19 + 8 * v + d) - zholds v z).toInt := fun q => c (ti_lt.mpr q)
    rw [ti_0] at c'
    omega
theorem holds_eq {v : Nat} {z z' : dz} (h1 : z' (18 + 8 * v) = z (18 + 8 * v)) (h2 : z' 1 = z 1) : zholds v z' = zholds v z := by
  unfold zholds
  rw [h1, h2]
theorem settle_le {v : Nat} {z : dz} (h : zok z) (hv : v < 5) : ∀ d, d ≤ 3 → ∀ e, e < d → (zsettle v z d (19 + 8 * v + e)).toInt ≤ (zholds v z).toInt
  | 0, _, e, he => absurd he (Nat.not_lt_zero e)
  | d + 1, hd, e, he => by
    show (zset1 v d (zsettle v z d) (19 + 8 * v + e)).toInt ≤ _
    have eh : zholds v (zsettle v z d) = zholds v z := holds_eq (settle_ne (fun e he => by omega) d (by omega)) (settle_ne (fun e he => by omega) d (by omega))
    by_cases c : e = d
    · subst c
      rw [← eh]
      exact set1_le (zok_settle h hv e (by omega)) hv (by omega)
    · rw [set1_ne (by omega) (by omega)]
      exact settle_le h hv d (by omega) e (by omega)
theorem settles_le {z : dz} (h : zok z) : ∀ v, v ≤ 5 → ∀ u e, u < v → e < 3 → (zsettles z v (19 + 8 * u + e)).toInt ≤ (zholds u z).toInt
  | 0, _, u, _, hu, _ => absurd hu (Nat.not_lt_zero u)
  | v + 1, hv, u, e, hu, he => by
    show (zsettle v (zsettles z v) 3 (19 + 8 * u + e)).toInt ≤ _
    have eh : zholds v (zsettles z v) = zholds v z := holds_eq (settles_ne (fun v e hv he => by omega) v (by omega)) (settles_ne (fun v e hv he => by omega) v (by omega))
    by_cases c : u = v
    · subst c
      rw [← eh]
      exact settle_le (zok_settles h u (by omega)) (by omega) 3 (Nat.le_refl _) e he
    · rw [settle_ne (fun e he => by omega) 3 (Nat.le_refl _)]
      exact settles_le h v (by omega) u e (by omega) he
/-- behind an hour no vat holds more dissolved grains than it can -/
theorem hour_le {z : dz} (h : zok z) {v e : Nat} (hv : v < 5) (he : e < 3) : (zhour z (19 + 8 * v + e)).toInt ≤ (zholds v (zhour z)).toInt := by
  obtain ⟨m, hm8, hm, hvs⟩ := h.2.2.2.2.2
  have em : zn (z 5) = m := by rw [hm]; exact zn_nI (by omega)
  have hy := zok_pipes (zok_valves h hm hm8 m (Nat.le_refl _)).1 5 (Nat.le_refl _)
  unfold zhour
  rw [em]
  generalize zpipes (zvalves z m) 5 = y at hy ⊢
  rw [zadd_ne _ _ (by omega)]
  have eh : zholds v (zadd (zsettles y 5) 0 (nI 1)) = zholds v y := holds_eq (by rw [zadd_ne _ _ (by omega)]; exact settles_ne (fun v e hv he => by omega) 5 (Nat.le_refl _)) (by rw [zadd_ne _ _ (by omega)]; exact settles_ne (fun v e hv he => by omega) 5 (Nat.le_refl _))
  rw [eh]
  exact settles_le hy 5 (Nat.le_refl _) v e hv he
theorem hours_le {z : dz} (h : zok z) {k v e : Nat} (hk : 1 ≤ k) (hv : v < 5) (he : e < 3) : (zhours z k (19 + 8 * v + e)).toInt ≤ (zholds v (zhours z k)).toInt := by
  obtain ⟨j, rfl⟩ : ∃ j, k = j + 1 := ⟨k - 1, by omega⟩
  exact hour_le (zok_hours h j).1 hv he
-- when a vat is empty
theorem zef_spec (v : Nat) (z : dz) : ∀ N, (∀ i, i < zef v z N → 0 < zhours z i (18 + 8 * v)) ∧ (zef v z N < N → ¬ 0 < zhours z (zef v z N) (18 + 8 * v))
  | 0 => ⟨fun i hi => absurd hi (Nat.not_lt_zero i), fun h => absurd h (Nat.not_lt_zero _)⟩
  | N + 1 => by
    obtain ⟨a, b⟩ := zef_spec v z N
    have hle := zef_le v z N
    unfold zef
    by_cases c : zef v z N = N ∧ 0 < zhours z N (18 + 8 * v)
    · rw [if_pos c]
      refine ⟨fun i hi => ?_, fun h => by omega⟩
      by_cases c2 : i = N
      · subst c2; exact c.2
      · exact a i (by omega)
    · rw [if_neg c]
      refine ⟨a, fun h => ?_⟩
      by_cases c2 : zef v z N = N
      · rw [c2]
        exact fun q => c ⟨c2, q⟩
      · exact b (by omega)
/-- e tells in how many hours the vat v is empty -/
def emp (v : Nat) (z : dz) (e : Int32) : Prop := (e = -nI 1 ∧ ∀ i, i < 241 → 0 < zhours z i (18 + 8 * v)) ∨ ∃ k, k < 241 ∧ e = nI k ∧ (∀ i, i < k → 0 < zhours z i (18 + 8 * v)) ∧ zhours z k (18 + 8 * v) = 0
theorem emp_zea {v : Nat} {z : dz} (h : zok z) (hv : v < 5) : emp v z (zea v z 241) := by
  have key : ∀ N, N = 241 → emp v z (zea v z N) := by
    intro N hN
    obtain ⟨a, b⟩ := zef_spec v z N
    have hle := zef_le v z N
    unfold zea
    by_cases c : zef v z N = N
    · rw [if_pos c]
      rw [c] at a
      exact Or.inl ⟨rfl, fun i hi => a i (by omega)⟩
    · rw [if_neg c]
      refine Or.inr ⟨zef v z N, by omega, rfl, a, ?_⟩
      have h1 := b (by omega)
      have h2 := ((zok_hours h (zef v z N)).1.1 v hv).1
      have h3 : ¬ (0 : Int32).toInt < (zhours z (zef v z N) (18 + 8 * v)).toInt := fun q => h1 (ti_lt.mpr q)
      rw [ti_0] at h3
      exact ti_ext (by rw [ti_0]; omega)
  exact key 241 rfl
-- the greatest share
theorem frac_lt {a w b x c y : Int} (hw : 0 < w) (hx : 0 < x) (hy : 0 < y) (h1 : a * x ≤ b * w) (h2 : b * y < c * x) : a * y < c * w := by
  have e1 : a * x * y ≤ b * w * y := Int.mul_le_mul_of_nonneg_right h1 (by omega)
  have e2 : b * y * w < c * x * w := Int.mul_lt_mul_of_pos_right h2 hw
  have e3 : a * y * x < c * w * x := by
    have p1 : a * y * x = a * x * y := by rw [Int.mul_assoc, Int.mul_comm y x, ← Int.mul_assoc]
    have p2 : b * w * y = b * y * w := by rw [Int.mul_assoc, Int.mul_comm w y, ← Int.mul_assoc]
    have p3 : c * x * w = c * w * x := by rw [Int.mul_assoc, Int.mul_comm x w, ← Int.mul_assoc]
    rw [p1, ← p3]
    rw [p2] at e1
    exact Int.lt_of_le_of_lt e1 e2
  exact Int.lt_of_mul_lt_mul_right e3 (by omega)
/-- dissolved grains and water of a vat -/
def dg (z : dz) (d v : Nat) : Int := (z (19 + 8 * v + d)).toInt
def wa (z : dz) (v : Nat) : Int := (z (18 + 8 * v)).toInt
theorem prod_ti {z : dz} (h : zok z) {d v u : Nat} (hd : d < 3) (hv : v < 5) (hu : u < 5) : (z (19 + 8 * v + d) * z (18 + 8 * u)).toInt = dg z d v * wa z u ∧ 0 ≤ dg z d v * wa z u ∧ dg z d v * wa z u ≤ 199998000 := by
  obtain ⟨l1, -, -, -⟩ := zgr_le h.2.1 h.2.2.1 hv hd
  obtain ⟨g1, -⟩ := h.2.1 v d hv hd
  obtain ⟨b1, b2, b3⟩ := h.1 u hu
  have p0 : 0 ≤ dg z d v * wa z u := Int.mul_nonneg g1 b1
  have p1 : dg z d v * wa z u ≤ 99999 * 2000 := Int.le_trans (Int.mul_le_mul_of_nonneg_right (show dg z d v ≤ 99999 from l1) b1) (Int.mul_le_mul_of_nonneg_left (by unfold wa; omega) (by omega))
  refine ⟨?_, p0, by omega⟩
  unfold dg wa at p0 p1 ⊢
  exact ti_mul (by omega) (by omega)
/-- the strongest of the first k vats, b: 0 for none, else one more than its number -/
def bsp (z : dz) (d k b : Nat) : Prop := (b = 0 ∧ ∀ v, v < k → ¬ 0 < wa z v) ∨ (0 < b ∧ b ≤ k ∧ 0 < wa z (b - 1) ∧ ∀ v, v < k → 0 < wa z v → dg z d v * wa z (b - 1) ≤ dg z d (b - 1) * wa z v ∧ (v < b - 1 → dg z d v * wa z (b - 1) < dg z d (b - 1) * wa z v))
theorem bsp_zbs {z : dz} (h : zok z) {d : Nat} (hd : d < 3) : ∀ k, k ≤ 5 → bsp z d k (zbs d z k)
  | 0, _ => Or.inl ⟨rfl, fun v hv => absurd hv (Nat.not_lt_zero v)⟩
  | k + 1, hk => by
    have ih := bsp_zbs h hd k (by omega)
    have hle := zbs_le d z k
    have lt0 : 0 < z (18 + 8 * k) ↔ 0 < wa z k := by
      rw [ti_lt, ti_0]
      exact Iff.rfl
    unfold zbs
    generalize zbs d z k = b at ih hle ⊢
    by_cases c : 0 < z (18 + 8 * k) ∧ (b = 0 ∨ z (19 + 8 * (b - 1) + d) * z (18 + 8 * k) < z (19 + 8 * k + d) * z (18 + 8 * (b - 1)))
    · rw [if_pos c]
      obtain ⟨c1, c2⟩ := c
      have c1 := lt0.mp c1
      refine Or.inr ⟨by omega, by omega, by rw [Nat.add_sub_cancel]; exact c1, fun v hv hwv => ?_⟩
      rw [Nat.add_sub_cancel]
      by_cases cv : v = k
      · subst cv
        exact ⟨Int.le_refl _, fun q => absurd q (Nat.lt_irrefl v)⟩
      · rcases ih with ⟨i1, i2⟩ | ⟨i1, i2, i3, i4⟩
        · exact absurd hwv (i2 v (by omega))
        · have c3 : z (19 + 8 * (b - 1) + d) * z (18 + 8 * k) < z (19 + 8 * k + d) * z (18 + 8 * (b - 1)) := by
            rcases c2 with c2 | c2
            · omega
            · exact c2
          have c4 := ti_lt.mp c3
          rw [(prod_ti h hd (show b - 1 < 5 by omega) (show k < 5 by omega)).1, (prod_ti h hd (show k < 5 by omega) (show b - 1 < 5 by omega)).1] at c4
          have := frac_lt hwv i3 c1 (i4 v (by omega) hwv).1 c4
          exact ⟨by omega, fun _ => this⟩
    · rw [if_neg c]
      rcases ih with ⟨i1, i2⟩ | ⟨i1, i2, i3, i4⟩
      · refine Or.inl ⟨i1, fun v hv => ?_⟩
        by_cases cv : v = k
        · subst cv
          exact fun q => c ⟨lt0.mpr q, Or.inl i1⟩
        · exact i2 v (by omega)
      · refine Or.inr ⟨i1, by omega, i3, fun v hv hwv => ?_⟩
        by_cases cv : v = k
        · subst cv
          have c3 : ¬ z (19 + 8 * (b - 1) + d) * z (18 + 8 * v) < z (19 + 8 * v + d) * z (18 + 8 * (b - 1)) := fun q => c ⟨lt0.mpr hwv, Or.inr q⟩
          rw [ti_lt, (prod_ti h hd (show b - 1 < 5 by omega) (show v < 5 by omega)).1, (prod_ti h hd (show v < 5 by omega) (show b - 1 < 5 by omega)).1] at c3
          exact ⟨by omega, fun q => by omega⟩
        · exact i4 v (by omega) hwv
