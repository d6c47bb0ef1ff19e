/-! what stays and what holds of the 105 numbers -/
theorem zadd_eq (z : dz) (i : Nat) (x : Int32) : zadd z i x i = z i + x := by simp [zadd, upd]
theorem zadd_ne (z : dz) {i j : Nat} (x : Int32) (h : j ≠ i) : zadd z i x j = z j := by simp [zadd, upd, h]
/-- places that hours leave as they are -/
def zfix (i : Nat) : Prop := i = 1 ∨ (3 ≤ i ∧ i < 14) ∨ (57 ≤ i ∧ ¬ (i - 57) % 6 = 5) ∨ (17 ≤ i ∧ i < 57 ∧ (i - 17) % 8 = 0) ∨ 105 ≤ i
theorem zdst_ne {to d i : Nat} (ht : to ≤ 5) (hd : d < 3) (hi : zfix i) : i ≠ zdst to d := by
  unfold zfix at hi
  unfold zdst
  split <;> omega
theorem zwst_ne {to i : Nat} (ht : to ≤ 5) (hi : zfix i) : i ≠ zwst to := by
  unfold zfix at hi
  unfold zwst
  split <;> omega
theorem zdye_fix {fr to d : Nat} {m had : Int32} {z : dz} {i : Nat} (hf : fr < 5) (ht : to ≤ 5) (hd : d < 3) (hi : zfix i) : zdye fr to m had d z i = z i := by
  unfold zdye
  rw [zadd_ne _ _ (zdst_ne ht hd hi), zadd_ne _ _ (by unfold zfix at hi; omega)]
theorem zdyes_fix {fr to : Nat} {m had : Int32} {z : dz} {i : Nat} (hf : fr < 5) (ht : to ≤ 5) (hi : zfix i) : ∀ d, d ≤ 3 → zdyes fr to m had z d i = z i
  | 0, _ => rfl
  | d + 1, hd => by
    show zdye fr to m had d _ i = z i
    rw [zdye_fix hf ht (by omega) hi, zdyes_fix hf ht hi d (by omega)]
theorem zmove_fix {fr to : Nat} {much : Int32} {z : dz} {i : Nat} (hf : fr < 5) (ht : to ≤ 5) (hi : zfix i) : zmove fr to much z i = z i := by
  unfold zmove
  split
  · rfl
  · unfold zmv
    rw [zadd_ne _ _ (zwst_ne ht hi), zadd_ne _ _ (by unfold zfix at hi; omega), zdyes_fix hf ht hi 3 (Nat.le_refl _)]
theorem zlevel_fix {one other : Nat} {z : dz} {i : Nat} (h1 : one < 5) (h2 : other < 5) (hi : zfix i) : zlevel one other z i = z i := by
  unfold zlevel
  split
  · exact zmove_fix h1 (by omega) hi
  · exact zmove_fix h2 (by omega) hi
theorem zlev1_fix {one other : Nat} {z : dz} {i : Nat} (h1 : one < 5) (h2 : other < 5) (hi : zfix i) : zlev1 one other z i = z i := by
  unfold zlev1
  split
  · exact zlevel_fix h1 h2 hi
  · rfl
theorem zlevs_fix {one : Nat} {z : dz} {i : Nat} (h1 : one < 5) (hi : zfix i) : ∀ k, one + k < 5 → zlevs one z k i = z i
  | 0, _ => rfl
  | k + 1, hk => by
    show zlev1 one (one + 1 + k) _ i = z i
    rw [zlev1_fix h1 (by omega) hi, zlevs_fix h1 hi k (by omega)]
theorem zpipes_fix {z : dz} {i : Nat} (hi : zfix i) : ∀ k, k ≤ 5 → zpipes z k i = z i
  | 0, _ => rfl
  | k + 1, hk => by
    show zlevs k _ (4 - k) i = z i
    rw [zlevs_fix (by omega) hi _ (by omega), zpipes_fix hi k (by omega)]
theorem zset1_fix {v d : Nat} {z : dz} {i : Nat} (hv : v < 5) (hd : d < 3) (hi : zfix i) : zset1 v d z i = z i := by
  unfold zset1
  split
  · rw [zadd_ne _ _ (by unfold zfix at hi; omega), zadd_ne _ _ (by unfold zfix at hi; omega)]
  · rfl
theorem zsettle_fix {v : Nat} {z : dz} {i : Nat} (hv : v < 5) (hi : zfix i) : ∀ d, d ≤ 3 → zsettle v z d i = z i
  | 0, _ => rfl
  | d + 1, hd => by
    show zset1 v d _ i = z i
    rw [zset1_fix hv (by omega) hi, zsettle_fix hv hi d (by omega)]
theorem zsettles_fix {z : dz} {i : Nat} (hi : zfix i) : ∀ v, v ≤ 5 → zsettles z v i = z i
  | 0, _ => rfl
  | v + 1, hv => by
    show zsettle v _ 3 i = z i
    rw [zsettle_fix (by omega) hi 3 (Nat.le_refl _), zsettles_fix hi v (by omega)]
-- numbers of a small range
theorem zn_nI {k : Nat} (h : k < 2 ^ 31) : zn (nI k) = k := nI_clamp h
/-- a valve's numbers are in their ranges -/
def zvok (k : Nat) (z : dz) : Prop := ∃ f t r a b : Nat, z (57 + 6 * k) = nI f ∧ z (57 + 6 * k + 1) = nI t ∧ z (57 + 6 * k + 2) = nI r ∧ z (57 + 6 * k + 3) = nI a ∧ z (57 + 6 * k + 4) = nI b ∧ f < 5 ∧ t ≤ 5 ∧ f ≠ t ∧ 1 ≤ r ∧ r ≤ 500 ∧ a ≤ b ∧ b ≤ 23
def zvats (z : dz) : Prop := ∀ v, v < 5 → 0 ≤ (z (18 + 8 * v)).toInt ∧ (z (18 + 8 * v)).toInt ≤ (z (17 + 8 * v)).toInt ∧ (z (17 + 8 * v)).toInt ≤ 2000
def zgrs (z : dz) : Prop := ∀ v d, v < 5 → d < 3 → 0 ≤ (z (19 + 8 * v + d)).toInt ∧ 0 ≤ (z (22 + 8 * v + d)).toInt
/-- the grains of a dye in all vats and out -/
def zall (z : dz) (d : Nat) : Int := (z (19 + d)).toInt + (z (22 + d)).toInt + ((z (27 + d)).toInt + (z (30 + d)).toInt) + ((z (35 + d)).toInt + (z (38 + d)).toInt) + ((z (43 + d)).toInt + (z (46 + d)).toInt) + ((z (51 + d)).toInt + (z (54 + d)).toInt) + (z (14 + d)).toInt
def zacc (z : dz) : Prop := ∀ d, d < 3 → 0 ≤ (z (14 + d)).toInt ∧ zall z d = (z (11 + d)).toInt ∧ (z (11 + d)).toInt ≤ 99999
def zwat (z : dz) : Int := (z 18).toInt + (z 26).toInt + (z 34).toInt + (z 42).toInt + (z 50).toInt + (z 2).toInt
def zok (z : dz) : Prop := zvats z ∧ zgrs z ∧ zacc z ∧ (0 ≤ (z 1).toInt ∧ (z 1).toInt ≤ 200) ∧ (0 ≤ (z 2).toInt ∧ zwat z = (z 3).toInt) ∧ ∃ m : Nat, m ≤ 8 ∧ z 5 = nI m ∧ ∀ k, k < m → zvok k z
theorem zvok_fix {k : Nat} {z z' : dz} (hk : k < 8) (h : ∀ i, zfix i → z' i = z i) (hv : zvok k z) : zvok k z' := by
  unfold zvok at hv ⊢
  rw [h _ (by unfold zfix; omega), h _ (by unfold zfix; omega), h _ (by unfold zfix; omega), h _ (by unfold zfix; omega), h _ (by unfold zfix; omega)]
  exact hv
-- small numbers: no wrap
theorem bm_in {x : Int} (h1 : -2147483648 ≤ x) (h2 : x < 2147483648) : x.bmod (2 ^ 32) = x := by
  rw [Int.bmod_def]
  omega
theorem ti_add {a b : Int32} (h1 : -2147483648 ≤ a.toInt + b.toInt) (h2 : a.toInt + b.toInt < 2147483648) : (a + b).toInt = a.toInt + b.toInt := by
  rw [Int32.toInt_add, bm_in h1 h2]
theorem ti_sub {a b : Int32} (h1 : -2147483648 ≤ a.toInt - b.toInt) (h2 : a.toInt - b.toInt < 2147483648) : (a - b).toInt = a.toInt - b.toInt := by
  rw [Int32.toInt_sub, bm_in h1 h2]
theorem ti_neg {a : Int32} (h : -2147483648 < a.toInt) : (-a).toInt = -a.toInt := by
  have := Int32.toInt_lt a
  rw [Int32.toInt_neg, bm_in (by omega) (by omega)]
theorem ti_mul {a b : Int32} (h1 : -2147483648 ≤ a.toInt * b.toInt) (h2 : a.toInt * b.toInt < 2147483648) : (a * b).toInt = a.toInt * b.toInt := by
  rw [Int32.toInt_mul, bm_in h1 h2]
theorem ti_div {a b : Int32} (h0 : 0 ≤ a.toInt) (hb : 0 ≤ b.toInt) : (a / b).toInt = a.toInt / b.toInt := by
  have h1 := Int32.toInt_lt a
  have e : a.toInt.tdiv b.toInt = a.toInt / b.toInt := Int.tdiv_eq_ediv_of_nonneg h0
  have h2 : a.toInt / b.toInt ≤ a.toInt := Int.ediv_le_self _ h0
  have h3 : 0 ≤ a.toInt / b.toInt := Int.ediv_nonneg h0 hb
  rw [Int32.toInt_div, e, bm_in (by omega) (by omega)]
theorem ti_lt {a b : Int32} : a < b ↔ a.toInt < b.toInt := Int32.lt_iff_toInt_lt
theorem ti_ext {a b : Int32} (h : a.toInt = b.toInt) : a = b := Int32.toInt_inj.mp h
theorem ti_0 : (0 : Int32).toInt = 0 := rfl
theorem ileast_ti (a b : Int32) : (ileast a b).toInt ≤ a.toInt ∧ (ileast a b).toInt ≤ b.toInt ∧ ((ileast a b).toInt = a.toInt ∨ (ileast a b).toInt = b.toInt) := by
  unfold ileast
  split
  · rename_i c
    have := ti_lt.mp c
    exact ⟨by omega, by omega, Or.inl rfl⟩
  · rename_i c
    have : ¬ a.toInt < b.toInt := fun q => c (ti_lt.mpr q)
    exact ⟨by omega, by omega, Or.inr rfl⟩
theorem upd_eq' (f : Nat → Int32) {k j : Nat} (x : Int32) (h : j = k) : upd f k x j = x := by rw [h, upd_eq]
/-- what is moved: as many parts as a vat has and a vat holds -/
theorem zmoved_ti {fr to : Nat} {much : Int32} {z : dz} (h : zvats z) (hf : fr < 5) (ht : to ≤ 5) (hm : 0 ≤ much.toInt) : 0 ≤ (zmoved fr to much z).toInt ∧ (zmoved fr to much z).toInt ≤ (z (18 + 8 * fr)).toInt ∧ (to < 5 → (zmoved fr to much z).toInt ≤ (z (17 + 8 * to)).toInt - (z (18 + 8 * to)).toInt) := by
  obtain ⟨a1, a2, a3⟩ := h fr hf
  obtain ⟨b1, b2, b3⟩ := ileast_ti much (z (18 + 8 * fr))
  unfold zmoved
  split
  · exact ⟨by omega, by omega, by omega⟩
  · obtain ⟨d1, d2, d3⟩ := h to (by omega)
    have e := ti_sub (a := z (17 + 8 * to)) (b := z (18 + 8 * to)) (by omega) (by omega)
    obtain ⟨f1, f2, f3⟩ := ileast_ti (ileast much (z (18 + 8 * fr))) (z (17 + 8 * to) - z (18 + 8 * to))
    exact ⟨by omega, by omega, by omega⟩
theorem zok_moved0 {fr to : Nat} {much : Int32} {z : dz} (h : zok z) (hf : fr < 5) (ht : to ≤ 5) (hm : 0 ≤ much.toInt) : zmoved fr to much z ≠ 0 → z (18 + 8 * fr) ≠ 0 := by
  obtain ⟨a, b, -⟩ := zmoved_ti h.1 hf ht hm
  intro hne e
  rw [e] at b
  exact hne (ti_ext (by rw [ti_0] at b ⊢; omega))
theorem zall_ne {z : dz} {i d : Nat} {x : Int32} (h0 : i ≠ 14 + d) (h : ∀ v, v < 5 → i ≠ 19 + 8 * v + d ∧ i ≠ 22 + 8 * v + d) : zall (upd z i x) d = zall z d := by
  have g0 := h 0 (by omega)
  have g1 := h 1 (by omega)
  have g2 := h 2 (by omega)
  have g3 := h 3 (by omega)
  have g4 := h 4 (by omega)
  unfold zall
  rw [upd_ne _ _ (by omega), upd_ne _ _ (by omega), upd_ne _ _ (by omega), upd_ne _ _ (by omega), upd_ne _ _ (by omega), upd_ne _ _ (by omega), upd_ne _ _ (by omega), upd_ne _ _ (by omega), upd_ne _ _ (by omega), upd_ne _ _ (by omega), upd_ne _ _ (by omega)]
theorem zall_d {z : dz} {f d : Nat} {x : Int32} (hf : f < 5) : zall (upd z (19 + 8 * f + d) x) d = zall z d + (x.toInt - (z (19 + 8 * f + d)).toInt) := by
  have h5 : f = 0 ∨ f = 1 ∨ f = 2 ∨ f = 3 ∨ f = 4 := by omega
  rcases h5 with rfl | rfl | rfl | rfl | rfl
  · rw [show 19 + 8 * 0 + d = 19 + d by omega]; unfold zall; simp (disch := omega) only [upd_eq', upd_ne]; omega
  · rw [show 19 + 8 * 1 + d = 27 + d by omega]; unfold zall; simp (disch := omega) only [upd_eq', upd_ne]; omega
  · rw [show 19 + 8 * 2 + d = 35 + d by omega]; unfold zall; simp (disch := omega) only [upd_eq', upd_ne]; omega
  · rw [show 19 + 8 * 3 + d = 43 + d by omega]; unfold zall; simp (disch := omega) only [upd_eq', upd_ne]; omega
  · rw [show 19 + 8 * 4 + d = 51 + d by omega]; unfold zall; simp (disch := omega) only [upd_eq', upd_ne]; omega
theorem zall_s {z : dz} {f d : Nat} {x : Int32} (hf : f < 5) : zall (upd z (22 + 8 * f + d) x) d = zall z d + (x.toInt - (z (22 + 8 * f + d)).toInt) := by
  have h5 : f = 0 ∨ f = 1 ∨ f = 2 ∨ f = 3 ∨ f = 4 := by omega
  rcases h5 with rfl | rfl | rfl | rfl | rfl
  · rw [show 22 + 8 * 0 + d = 22 + d by omega]; unfold zall; simp (disch := omega) only [upd_eq', upd_ne]; omega
  · rw [show 22 + 8 * 1 + d = 30 + d by omega]; unfold zall; simp (disch := omega) only [upd_eq', upd_ne]; omega
  · rw [show 22 + 8 * 2 + d = 38 + d by omega]; unfold zall; simp (disch := omega) only [upd_eq', upd_ne]; omega
  · rw [show 22 + 8 * 3 + d = 46 + d by omega]; unfold zall; simp (disch := omega) only [upd_eq', upd_ne]; omega
  · rw [show 22 + 8 * 4 + d = 54 + d by omega]; unfold zall; simp (disch := omega) only [upd_eq', upd_ne]; omega
theorem zall_g {z : dz} {d : Nat} {x : Int32} : zall (upd z (14 + d) x) d = zall z d + (x.toInt - (z (14 + d)).toInt) := by
  unfold zall; simp (disch := omega) only [upd_eq', upd_ne]; omega
/-- no heap of grains is larger than what was put in -/
theorem zgr_le {z : dz} (hg : zgrs z) (ha : zacc z) {v d : Nat} (hv : v < 5) (hd : d < 3) : (z (19 + 8 * v + d)).toInt ≤ 99999 ∧ (z (22 + 8 * v + d)).toInt ≤ 99999 ∧ (z (14 + d)).toInt ≤ 99999 ∧ (z (19 + 8 * v + d)).toInt + (z (22 + 8 * v + d)).toInt ≤ 99999 := by
  obtain ⟨a1, a2, a3⟩ := ha d hd
  have g0 := hg 0 d (by omega) hd
  have g1 := hg 1 d (by omega) hd
  have g2 := hg 2 d (by omega) hd
  have g3 := hg 3 d (by omega) hd
  have g4 := hg 4 d (by omega) hd
  rw [show 19 + 8 * 0 + d = 19 + d by omega, show 22 + 8 * 0 + d = 22 + d by omega] at g0
  rw [show 19 + 8 * 1 + d = 27 + d by omega, show 22 + 8 * 1 + d = 30 + d by omega] at g1
  rw [show 19 + 8 * 2 + d = 35 + d by omega, show 22 + 8 * 2 + d = 38 + d by omega] at g2
  rw [show 19 + 8 * 3 + d = 43 + d by omega, show 22 + 8 * 3 + d = 46 + d by omega] at g3
  rw [show 19 + 8 * 4 + d = 51 + d by omega, show 22 + 8 * 4 + d = 54 + d by omega] at g4
  unfold zall at a2
  have h5 : v = 0 ∨ v = 1 ∨ v = 2 ∨ v = 3 ∨ v = 4 := by omega
  rcases h5 with rfl | rfl | rfl | rfl | rfl
  · rw [show 19 + 8 * 0 + d = 19 + d by omega, show 22 + 8 * 0 + d = 22 + d by omega]; omega
  · rw [show 19 + 8 * 1 + d = 27 + d by omega, show 22 + 8 * 1 + d = 30 + d by omega]; omega
  · rw [show 19 + 8 * 2 + d = 35 + d by omega, show 22 + 8 * 2 + d = 38 + d by omega]; omega
  · rw [show 19 + 8 * 3 + d = 43 + d by omega, show 22 + 8 * 3 + d = 46 + d by omega]; omega
  · rw [show 19 + 8 * 4 + d = 51 + d by omega, show 22 + 8 * 4 + d = 54 + d by omega]; omega
/-- grains that are moved: none to as many as there are -/
theorem zgr_ti {fr d : Nat} {m had : Int32} {z : dz} (h0 : 0 ≤ (z (19 + 8 * fr + d)).toInt) (h9 : (z (19 + 8 * fr + d)).toInt ≤ 99999) (hm0 : 0 ≤ m.toInt) (hm : m.toInt ≤ had.toInt) (hh : had.toInt ≤ 2000) (hh0 : 0 < had.toInt) : 0 ≤ (zgr fr m had d z).toInt ∧ (zgr fr m had d z).toInt ≤ (z (19 + 8 * fr + d)).toInt := by
  unfold zgr
  generalize z (19 + 8 * fr + d) = g at h0 h9 ⊢
  have p0 : 0 ≤ g.toInt * m.toInt := Int.mul_nonneg h0 hm0
  have p1 : g.toInt * m.toInt ≤ 99999 * 2000 := Int.le_trans (Int.mul_le_mul_of_nonneg_right h9 hm0) (Int.mul_le_mul_of_nonneg_left (by omega) (by omega))
  have e := ti_mul (a := g) (b := m) (by omega) (by omega)
  have e2 := ti_div (a := g * m) (b := had) (by omega) (by omega)
  rw [e2, e]
  refine ⟨Int.ediv_nonneg p0 (by omega), Int.ediv_le_of_le_mul hh0 ?_⟩
  exact Int.mul_le_mul_of_nonneg_left hm h0
/-- one dye is moved -/
theorem zdye_ok {fr to d : Nat} {m had : Int32} {z : dz} (hg : zgrs z) (ha : zacc z) (hf : fr < 5) (ht : to ≤ 5) (hne : fr ≠ to) (hd : d < 3) (hm0 : 0 ≤ m.toInt) (hm : m.toInt ≤ had.toInt) (hh : had.toInt ≤ 2000) (hh0 : 0 < had.toInt) : zgrs (zdye fr to m had d z) ∧ zacc (zdye fr to m had d z) := by
  obtain ⟨l1, l2, l3, l4⟩ := zgr_le hg ha hf hd
  have g0 := hg fr d hf hd
  obtain ⟨q1, q2⟩ := zgr_ti g0.1 l1 hm0 hm hh hh0
  unfold zdye
  generalize zgr fr m had d z = q at q1 q2 ⊢
  have nq := ti_neg (a := q) (by omega)
  have e1 := ti_add (a := z (19 + 8 * fr + d)) (b := -q) (by omega) (by omega)
  unfold zadd
  generalize hx : z (19 + 8 * fr + d) + -q = x at e1 ⊢
  unfold zdst
  split
  · rename_i c5
    rw [upd_ne _ _ (by omega)]
    obtain ⟨a1, a2, a3⟩ := ha d hd
    have e2 := ti_add (a := z (14 + d)) (b := q) (by omega) (by omega)
    generalize hy : z (14 + d) + q = y at e2 ⊢
    refine ⟨fun v d' hv hd' => ?_, fun d' hd' => ?_⟩
    · rw [upd_ne _ (k := 14 + d) (j := 19 + 8 * v + d') _ (by omega), upd_ne _ (k := 14 + d) (j := 22 + 8 * v + d') _ (by omega)]
      rw [upd_ne _ (k := 19 + 8 * fr + d) (j := 22 + 8 * v + d') _ (by omega)]
      refine ⟨?_, (hg v d' hv hd').2⟩
      by_cases c : 19 + 8 * v + d' = 19 + 8 * fr + d
      · rw [upd_eq' _ _ c]; omega
      · rw [upd_ne _ _ c]; exact (hg v d' hv hd').1
    · rw [upd_ne _ (k := 14 + d) (j := 11 + d') _ (by omega), upd_ne _ (k := 19 + 8 * fr + d) (j := 11 + d') _ (by omega)]
      by_cases c : d' = d
      · subst c
        have r1 := zall_g (z := upd z (19 + 8 * fr + d') x) (d := d') (x := y)
        have r2 := zall_d (z := z) (d := d') (x := x) hf
        rw [upd_ne _ _ (by omega)] at r1
        rw [r1, r2, upd_eq]
        exact ⟨by omega, by omega, a3⟩
      · obtain ⟨b1, b2, b3⟩ := ha d' hd'
        rw [zall_ne (by omega) (fun v hv => ⟨by omega, by omega⟩), zall_ne (by omega) (fun v hv => ⟨by omega, by omega⟩)]
        rw [upd_ne _ (k := 14 + d) (j := 14 + d') _ (by omega), upd_ne _ (k := 19 + 8 * fr + d) (j := 14 + d') _ (by omega)]
        exact ⟨b1, b2, b3⟩
  · rename_i c5
    have ht' : to < 5 := by omega
    rw [upd_ne _ _ (by omega)]
    obtain ⟨t1, t2, t3, t4⟩ := zgr_le hg ha ht' hd
    have gt0 := hg to d ht' hd
    obtain ⟨a1, a2, a3⟩ := ha d hd
    have e2 := ti_add (a := z (19 + 8 * to + d)) (b := q) (by omega) (by omega)
    generalize hy : z (19 + 8 * to + d) + q = y at e2 ⊢
    refine ⟨fun v d' hv hd' => ?_, fun d' hd' => ?_⟩
    · rw [upd_ne _ (k := 19 + 8 * to + d) (j := 22 + 8 * v + d') _ (by omega)]
      rw [upd_ne _ (k := 19 + 8 * fr + d) (j := 22 + 8 * v + d') _ (by omega)]
      refine ⟨?_, (hg v d' hv hd').2⟩
      by_cases c : 19 + 8 * v + d' = 19 + 8 * to + d
      · rw [upd_eq' _ _ c]; omega
      · rw [upd_ne _ _ c]
        by_cases c2 : 19 + 8 * v + d' = 19 + 8 * fr + d
        · rw [upd_eq' _ _ c2]; omega
        · rw [upd_ne _ _ c2]; exact (hg v d' hv hd').1
    · rw [upd_ne _ (k := 19 + 8 * to + d) (j := 11 + d') _ (by omega), upd_ne _ (k := 19 + 8 * fr + d) (j := 11 + d') _ (by omega)]
      rw [upd_ne _ (k := 19 + 8 * to + d) (j := 14 + d') _ (by omega), upd_ne _ (k := 19 + 8 * fr + d) (j := 14 + d') _ (by omega)]
      by_cases c : d' = d
      · subst c
        have r1 := zall_d (z := upd z (19 + 8 * fr + d') x) (d := d') (x := y) ht'
        have r2 := zall_d (z := z) (d := d') (x := x) hf
        rw [upd_ne _ _ (by omega)] at r1
        rw [r1, r2]
        exact ⟨by omega, by omega, a3⟩
      · obtain ⟨b1, b2, b3⟩ := ha d' hd'
        rw [zall_ne (by omega) (fun v hv => ⟨by omega, by omega⟩), zall_ne (by omega) (fun v hv => ⟨by omega, by omega⟩)]
        exact ⟨b1, b2, b3⟩
theorem zdyes_ok {fr to : Nat} {m had : Int32} {z : dz} (hg : zgrs z) (ha : zacc z) (hf : fr < 5) (ht : to ≤ 5) (hne : fr ≠ to) (hm0 : 0 ≤ m.toInt) (hm : m.toInt ≤ had.toInt) (hh : had.toInt ≤ 2000) (hh0 : 0 < had.toInt) : ∀ d, d ≤ 3 → zgrs (zdyes fr to m had z d) ∧ zacc (zdyes fr to m had z d)
  | 0, _ => ⟨hg, ha⟩
  | d + 1, hd => by
    obtain ⟨h1, h2⟩ := zdyes_ok hg ha hf ht hne hm0 hm hh hh0 d (by omega)
    exact zdye_ok h1 h2 hf ht hne (by omega) hm0 hm hh hh0
/-- dyes leave the waters -/
theorem zdyes_wat {fr to : Nat} {m had : Int32} {z : dz} {i : Nat} (hf : fr < 5) (ht : to ≤ 5) (hi : i < 14 ∨ (17 ≤ i ∧ (i - 17) % 8 < 2) ∨ 57 ≤ i) : ∀ d, d ≤ 3 → zdyes fr to m had z d i = z i
  | 0, _ => rfl
  | d + 1, hd => by
    show zdye fr to m had d _ i = z i
    unfold zdye
    rw [zadd_ne _ _ (by unfold zdst; split <;> omega), zadd_ne _ _ (by omega), zdyes_wat hf ht hi d (by omega)]
theorem zwat_ne {z : dz} {i : Nat} {x : Int32} (h : i ≠ 18 ∧ i ≠ 26 ∧ i ≠ 34 ∧ i ≠ 42 ∧ i ≠ 50 ∧ i ≠ 2) : zwat (upd z i x) = zwat z := by
  unfold zwat
  rw [upd_ne _ _ (by omega), upd_ne _ _ (by omega), upd_ne _ _ (by omega), upd_ne _ _ (by omega), upd_ne _ _ (by omega), upd_ne _ _ (by omega)]
theorem zwat_w {z : dz} {f : Nat} {x : Int32} (hf : f < 5) : zwat (upd z (18 + 8 * f) x) = zwat z + (x.toInt - (z (18 + 8 * f)).toInt) := by
  have h5 : f = 0 ∨ f = 1 ∨ f = 2 ∨ f = 3 ∨ f = 4 := by omega
  rcases h5 with rfl | rfl | rfl | rfl | rfl <;> (simp only [Nat.reduceMul, Nat.reduceAdd]; unfold zwat; simp (disch := omega) only [upd_eq', upd_ne]; omega)
theorem zwat_2 {z : dz} {x : Int32} : zwat (upd z 2 x) = zwat z + (x.toInt - (z 2).toInt) := by
  unfold zwat; simp (disch := omega) only [upd_eq', upd_ne]; omega
theorem zwat_ge {z : dz} (h : zvats z) (h2 : 0 ≤ (z 2).toInt) {f : Nat} (hf : f < 5) : (z (18 + 8 * f)).toInt + (z 2).toInt ≤ zwat z := by
  have g0 := h 0 (by omega)
  have g1 := h 1 (by omega)
  have g2 := h 2 (by omega)
  have g3 := h 3 (by omega)
  have g4 := h 4 (by omega)
  unfold zwat
  have h5 : f = 0 ∨ f = 1 ∨ f = 2 ∨ f = 3 ∨ f = 4 := by omega
  simp only [Nat.reduceMul, Nat.reduceAdd] at g0 g1 g2 g3 g4
  rcases h5 with rfl | rfl | rfl | rfl | rfl <;> (simp only [Nat.reduceMul, Nat.reduceAdd]; omega)
theorem zgrs_ne {z : dz} {i : Nat} {x : Int32} (h : ∀ v d, v < 5 → d < 3 → 19 + 8 * v + d ≠ i ∧ 22 + 8 * v + d ≠ i) (hg : zgrs z) : zgrs (upd z i x) := by
  intro v d hv hd
  rw [upd_ne _ _ (h v d hv hd).1, upd_ne _ _ (h v d hv hd).2]
  exact hg v d hv hd
theorem zacc_ne {z : dz} {i : Nat} {x : Int32} (h : ∀ v d, v < 5 → d < 3 → 19 + 8 * v + d ≠ i ∧ 22 + 8 * v + d ≠ i) (h2 : i < 11 ∨ 17 ≤ i) (ha : zacc z) : zacc (upd z i x) := by
  intro d hd
  rw [upd_ne _ (j := 14 + d) _ (by omega), upd_ne _ (j := 11 + d) _ (by omega), zall_ne (by omega) (fun v hv => ⟨fun q => (h v d hv hd).1 q.symm, fun q => (h v d hv hd).2 q.symm⟩)]
  exact ha d hd
theorem zok_move {fr to : Nat} {much : Int32} {z : dz} (h : zok z) (hf : fr < 5) (ht : to ≤ 5) (hne : fr ≠ to) (hm : 0 ≤ much.toInt) : zok (zmove fr to much z) := by
  obtain ⟨hv, hg, ha, hs, ⟨hw0, hw⟩, m', hm', e5, hvs⟩ := h
  obtain ⟨m1, m2, m3⟩ := zmoved_ti hv hf ht hm
  have hfix : ∀ i, zfix i → zmove fr to much z i = z i := fun i hi => zmove_fix hf ht hi
  refine ⟨?_, ?_, ?_, ?_, ?_, m', hm', ?_, ?_⟩
  rotate_right
  · exact fun k hk => zvok_fix (by omega) hfix (hvs k hk)
  rotate_right
  · rw [hfix 5 (by unfold zfix; omega)]; exact e5
  rotate_right 2
  · rw [hfix 1 (by unfold zfix; omega)]; exact hs
  rotate_left
  all_goals
    unfold zmove
    split
    · first | exact hv | exact hg | exact ha | exact ⟨hw0, hw⟩
    rename_i hmz
    generalize zmoved fr to much z = m at m1 m2 m3 hmz ⊢
    obtain ⟨f1, f2, f3⟩ := hv fr hf
    have hm0 : m.toInt ≠ 0 := fun q => hmz (ti_ext q)
    obtain ⟨z1, z2⟩ := zdyes_ok (m := m) (had := z (18 + 8 * fr)) hg ha hf ht hne m1 m2 (by omega) (by omega) 3 (Nat.le_refl _)
    have hkeep : ∀ i, (i < 14 ∨ (17 ≤ i ∧ (i - 17) % 8 < 2) ∨ 57 ≤ i) → zdyes fr to m (z (18 + 8 * fr)) z 3 i = z i := fun i hi => zdyes_wat hf ht hi 3 (Nat.le_refl _)
    unfold zmv
    generalize zdyes fr to m (z (18 + 8 * fr)) z 3 = y at z1 z2 hkeep ⊢
    have k1 := hkeep (18 + 8 * fr) (by omega)
    have k2 := hkeep 2 (by omega)
    have nm := ti_neg (a := m) (by omega)
    have e1 := ti_add (a := y (18 + 8 * fr)) (b := -m) (by rw [k1]; omega) (by rw [k1]; omega)
    have wg := zwat_ge hv hw0 hf
    have lt3 := Int32.toInt_lt (z 3)
    have ew : zwat y = zwat z := by
      unfold zwat
      rw [hkeep 18 (by omega), hkeep 26 (by omega), hkeep 34 (by omega), hkeep 42 (by omega), hkeep 50 (by omega), k2]
    unfold zadd
    rw [k1] at e1
    generalize hx : y (18 + 8 * fr) + -m = x at e1 ⊢
    rw [k1] at hx
    rw [hx] at e1
    have eo : upd y (18 + 8 * fr) x (zwst to) = z (zwst to) := by
      unfold zwst
      split
      · rw [upd_ne _ _ (by omega), k2]
      · rw [upd_ne _ _ (by omega), hkeep _ (by omega)]
    rw [eo]
    have e2 : (z (zwst to) + m).toInt = (z (zwst to)).toInt + m.toInt := by
      unfold zwst
      split
      · exact ti_add (by omega) (by omega)
      · have := hv to (by omega)
        exact ti_add (by omega) (by omega)
    generalize hyy : z (zwst to) + m = w at e2 ⊢
  · intro v hv5
    obtain ⟨v1, v2, v3⟩ := hv v hv5
    rw [upd_ne _ (j := 17 + 8 * v) _ (by unfold zwst; split <;> omega), upd_ne _ (j := 17 + 8 * v) _ (by omega), hkeep (17 + 8 * v) (by omega)]
    by_cases c : 18 + 8 * v = zwst to
    · rw [upd_eq' _ _ c]
      unfold zwst at c e2
      split at c
      · omega
      · rename_i c5
        rw [if_neg c5] at e2
        have : v = to := by omega
        subst this
        have := m3 hv5
        omega
    · rw [upd_ne _ _ c]
      by_cases c2 : v = fr
      · subst c2
        rw [upd_eq]
        omega
      · rw [upd_ne _ _ (by omega), hkeep (18 + 8 * v) (by omega)]
        exact ⟨v1, v2, v3⟩
  · exact zgrs_ne (fun v d hv hd => by unfold zwst; split <;> omega) (zgrs_ne (fun v d hv hd => by omega) z1)
  · exact zacc_ne (fun v d hv hd => by unfold zwst; split <;> omega) (by unfold zwst; split <;> omega) (zacc_ne (fun v d hv hd => by omega) (by omega) z2)
  · have k3 := hkeep 3 (by omega)
    rw [upd_ne _ (j := 3) _ (by unfold zwst; split <;> omega), upd_ne _ (j := 3) _ (by omega), k3]
    have r2 := zwat_w (z := y) (x := x) hf
    rw [k1, ew] at r2
    unfold zwst at e2 ⊢
    split
    · rename_i c5
      rw [if_pos c5] at e2
      have r1 := zwat_2 (z := upd y (18 + 8 * fr) x) (x := w)
      rw [upd_ne _ _ (by omega), k2] at r1
      rw [upd_eq, r1, r2]
      omega
    · rename_i c5
      rw [if_neg c5] at e2
      have r1 := zwat_w (z := upd y (18 + 8 * fr) x) (x := w) (f := to) (by omega)
      rw [upd_ne _ _ (by omega), hkeep (18 + 8 * to) (by omega)] at r1
      rw [upd_ne _ _ (by omega), upd_ne _ _ (by omega), k2, r1, r2]
      omega
theorem zok_half {one other : Nat} {z : dz} (h : zok z) (h1 : one < 5) (h2 : other < 5) : (0 < z (18 + 8 * one) - z (18 + 8 * other) → 0 ≤ ((z (18 + 8 * one) - z (18 + 8 * other)) / nI 2).toInt) ∧ (¬ 0 < z (18 + 8 * one) - z (18 + 8 * other) → 0 ≤ (-(z (18 + 8 * one) - z (18 + 8 * other)) / nI 2).toInt) := by
  have a := h.1 one h1
  have b := h.1 other h2
  have e := ti_sub (a := z (18 + 8 * one)) (b := z (18 + 8 * other)) (by omega) (by omega)
  generalize z (18 + 8 * one) - z (18 + 8 * other) = x at e ⊢
  have e2 : (nI 2).toInt = 2 := nI_toInt (by decide)
  refine ⟨fun c => ?_, fun c => ?_⟩
  · have c' := ti_lt.mp c
    rw [ti_0] at c'
    rw [ti_div (by omega) (by omega), e2]
    omega
  · have c' : ¬ (0 : Int32).toInt < x.toInt := fun q => c (ti_lt.mpr q)
    rw [ti_0] at c'
    have e3 := ti_neg (a := x) (by omega)
    rw [ti_div (by omega) (by omega), e2]
    omega
theorem zholds_ti {v : Nat} {z : dz} (h : zvats z) (hs : 0 ≤ (z 1).toInt ∧ (z 1).toInt ≤ 200) (hv : v < 5) : 0 ≤ (zholds v z).toInt ∧ (zholds v z).toInt ≤ 4000 := by
  have a := h v hv
  unfold zholds
  generalize z (18 + 8 * v) = g at a ⊢
  generalize z 1 = s at hs ⊢
  have p0 : 0 ≤ g.toInt * s.toInt := Int.mul_nonneg a.1 hs.1
  have p1 : g.toInt * s.toInt ≤ 2000 * 200 := Int.le_trans (Int.mul_le_mul_of_nonneg_right (show g.toInt ≤ 2000 by omega) hs.1) (Int.mul_le_mul_of_nonneg_left (by omega) (by omega))
  have e := ti_mul (a := g) (b := s) (by omega) (by omega)
  have e2 : (nI 100).toInt = 100 := nI_toInt (by decide)
  rw [ti_div (by omega) (by omega), e2]
  omega
theorem zok_set1 {v d : Nat} {z : dz} (h : zok z) (hv : v < 5) (hd : d < 3) : zok (zset1 v d z) := by
  have hfix : ∀ i, zfix i → zset1 v d z i = z i := fun i hi => zset1_fix hv hd hi
  obtain ⟨hvt, hg, ha, hs, ⟨hw0, hw⟩, m', hm', e5, hvs⟩ := h
  have hl := zholds_ti hvt hs hv
  obtain ⟨l1, l2, l3, l4⟩ := zgr_le hg ha hv hd
  obtain ⟨g1, g2⟩ := hg v d hv hd
  refine ⟨?_, ?_, ?_, ?_, ?_, m', hm', ?_, ?_⟩
  rotate_right
  · exact fun k hk => zvok_fix (by omega) hfix (hvs k hk)
  rotate_right
  · rw [hfix 5 (by unfold zfix; omega)]; exact e5
  rotate_right 2
  · rw [hfix 1 (by unfold zfix; omega)]; exact hs
  rotate_left
  all_goals
    unfold zset1
    generalize zholds v z = lim at hl ⊢
    have eo := ti_sub (a := z (19 + 8 * v + d)) (b := lim) (by omega) (by omega)
    generalize hox : z (19 + 8 * v + d) - lim = ov at eo ⊢
    split
    rotate_left
    · first | exact hvt | exact hg | exact ha | exact ⟨hw0, hw⟩
    rename_i c
    have c' := ti_lt.mp c
    rw [ti_0] at c'
    have nq := ti_neg (a := ov) (by omega)
    have e1 := ti_add (a := z (19 + 8 * v + d)) (b := -ov) (by omega) (by omega)
    unfold zadd
    generalize hx : z (19 + 8 * v + d) + -ov = x at e1 ⊢
    rw [upd_ne _ (j := 22 + 8 * v + d) _ (by omega)]
    have e2 := ti_add (a := z (22 + 8 * v + d)) (b := ov) (by omega) (by omega)
    generalize hy : z (22 + 8 * v + d) + ov = y at e2 ⊢
  · intro w hw5
    rw [upd_ne _ (j := 18 + 8 * w) _ (by omega), upd_ne _ (j := 18 + 8 * w) _ (by omega), upd_ne _ (j := 17 + 8 * w) _ (by omega), upd_ne _ (j := 17 + 8 * w) _ (by omega)]
    exact hvt w hw5
  · intro w d' hw5 hd'
    obtain ⟨w1, w2⟩ := hg w d' hw5 hd'
    rw [upd_ne _ (k := 22 + 8 * v + d) (j := 19 + 8 * w + d') _ (by omega)]
    refine ⟨?_, ?_⟩
    · by_cases c2 : 19 + 8 * w + d' = 19 + 8 * v + d
      · rw [upd_eq' _ _ c2]; omega
      · rw [upd_ne _ _ c2]; exact w1
    · by_cases c2 : 22 + 8 * w + d' = 22 + 8 * v + d
      · rw [upd_eq' _ _ c2]; omega
      · rw [upd_ne _ _ c2, upd_ne _ _ (by omega)]; exact w2
  · intro d' hd'
    obtain ⟨b1, b2, b3⟩ := ha d' hd'
    rw [upd_ne _ (j := 14 + d') _ (by omega), upd_ne _ (j := 14 + d') _ (by omega), upd_ne _ (j := 11 + d') _ (by omega), upd_ne _ (j := 11 + d') _ (by omega)]
    by_cases c3 : d' = d
    · subst c3
      have r1 := zall_s (z := upd z (19 + 8 * v + d') x) (d := d') (x := y) hv
      have r2 := zall_d (z := z) (d := d') (x := x) hv
      rw [upd_ne _ _ (by omega)] at r1
      rw [r1, r2]
      exact ⟨b1, by omega, b3⟩
    · rw [zall_ne (by omega) (fun v hv => ⟨by omega, by omega⟩), zall_ne (by omega) (fun v hv => ⟨by omega, by omega⟩)]
      exact ⟨b1, b2, b3⟩
  · rw [zwat_ne (by omega), zwat_ne (by omega), upd_ne _ (j := 2) _ (by omega), upd_ne _ (j := 2) _ (by omega), upd_ne _ (j := 3) _ (by omega), upd_ne _ (j := 3) _ (by omega)]
    exact ⟨hw0, hw⟩
/-- places that say nothing of what holds -/
theorem zok_upd {i : Nat} {x : Int32} {z : dz} (hi : i = 0 ∨ i = 4 ∨ (6 ≤ i ∧ i < 11) ∨ (57 ≤ i ∧ (i - 57) % 6 = 5)) (h : zok z) : zok (upd z i x) := by
  obtain ⟨hvt, hg, ha, hs, ⟨hw0, hw⟩, m', hm', e5, hvs⟩ := h
  refine ⟨?_, zgrs_ne (fun v d hv hd => by omega) hg, zacc_ne (fun v d hv hd => by omega) (by omega) ha, ?_, ?_, m', hm', ?_, ?_⟩
  · intro w hw5
    rw [upd_ne _ (j := 18 + 8 * w) _ (by omega), upd_ne _ (j := 17 + 8 * w) _ (by omega)]
    exact hvt w hw5
  · rw [upd_ne _ _ (by omega)]; exact hs
  · rw [zwat_ne (by omega), upd_ne _ (j := 2) _ (by omega), upd_ne _ (j := 3) _ (by omega)]
    exact ⟨hw0, hw⟩
  · rw [upd_ne _ _ (by omega)]; exact e5
  · intro k hk
    unfold zvok
    rw [upd_ne _ _ (by omega), upd_ne _ _ (by omega), upd_ne _ _ (by omega), upd_ne _ _ (by omega), upd_ne _ _ (by omega)]
    exact hvs k hk
theorem zok_mvd {k : Nat} {x : Int32} {z : dz} (h : zok z) (hk : k < 8) : zok (upd z (57 + 6 * k + 5) x) := zok_upd (by omega) h
theorem zok_hr {x : Int32} {z : dz} (h : zok z) : zok (zadd z 0 x) := zok_upd (by omega) h
theorem zok_level {one other : Nat} {z : dz} (h : zok z) (h1 : one < 5) (h2 : other < 5) (hne : one ≠ other) : zok (zlevel one other z) := by
  obtain ⟨e1, e2⟩ := zok_half h h1 h2
  unfold zlevel
  split
  · rename_i c
    exact zok_move h h1 (by omega) hne (e1 c)
  · rename_i c
    exact zok_move h h2 (by omega) (Ne.symm hne) (e2 c)
theorem zok_lev1 {one other : Nat} {z : dz} (h : zok z) (h1 : one < 5) (h2 : other < 5) (hne : one ≠ other) : zok (zlev1 one other z) := by
  unfold zlev1
  split
  · exact zok_level h h1 h2 hne
  · exact h
theorem zok_levs {one : Nat} {z : dz} (h : zok z) (h1 : one < 5) : ∀ k, one + k < 5 → zok (zlevs one z k)
  | 0, _ => h
  | k + 1, hk => zok_lev1 (zok_levs h h1 k (by omega)) h1 (by omega) (by omega)
theorem zok_pipes {z : dz} (h : zok z) : ∀ k, k ≤ 5 → zok (zpipes z k)
  | 0, _ => h
  | k + 1, hk => zok_levs (zok_pipes h k (by omega)) (by omega) _ (by omega)
theorem zok_settle {v : Nat} {z : dz} (h : zok z) (hv : v < 5) : ∀ d, d ≤ 3 → zok (zsettle v z d)
  | 0, _ => h
  | d + 1, hd => zok_set1 (zok_settle h hv d (by omega)) hv (by omega)
theorem zok_settles {z : dz} (h : zok z) : ∀ v, v ≤ 5 → zok (zsettles z v)
  | 0, _ => h
  | v + 1, hv => zok_settle (zok_settles h v (by omega)) (by omega) 3 (Nat.le_refl _)
/-- a valve's numbers, as they are used -/
theorem zvok_use {k : Nat} {z : dz} (h : zvok k z) : z (57 + 6 * k) = nI (zn (z (57 + 6 * k))) ∧ z (57 + 6 * k + 1) = nI (zn (z (57 + 6 * k + 1))) ∧ zn (z (57 + 6 * k)) < 5 ∧ zn (z (57 + 6 * k + 1)) ≤ 5 ∧ zn (z (57 + 6 * k)) ≠ zn (z (57 + 6 * k + 1)) ∧ 0 ≤ (z (57 + 6 * k + 2)).toInt := by
  obtain ⟨f, t, r, a, b, e1, e2, e3, e4, e5, h1, h2, h3, h4, h5, h6⟩ := h
  rw [e1, e2, e3, zn_nI (by omega), zn_nI (by omega), nI_toInt (by omega)]
  exact ⟨rfl, rfl, h1, h2, h3, by omega⟩
theorem zok_valve {k m : Nat} {z : dz} (h : zok z) (hm : z 5 = nI m) (hm8 : m ≤ 8) (hk : k < m) : zok (zvalve k z) := by
  unfold zvalve
  split
  · obtain ⟨m', hm', e, hv⟩ := h.2.2.2.2.2
    have : m' = m := (nI_eq (by omega) (by omega)).mp (e.symm.trans hm)
    subst this
    obtain ⟨e1, e2, e3, e4, e5, e6⟩ := zvok_use (hv k hk)
    exact zok_mvd (zok_move h e3 e4 e5 e6) (by omega)
  · exact h
theorem zvalve_fix {k m : Nat} {z : dz} {i : Nat} (h : zok z) (hm : z 5 = nI m) (hm8 : m ≤ 8) (hk : k < m) (hi : zfix i) : zvalve k z i = z i := by
  unfold zvalve
  split
  · obtain ⟨m', hm', e, hv⟩ := h.2.2.2.2.2
    have : m' = m := (nI_eq (by omega) (by omega)).mp (e.symm.trans hm)
    subst this
    obtain ⟨e1, e2, e3, e4, e5, e6⟩ := zvok_use (hv k hk)
    rw [upd_ne _ _ (by unfold zfix at hi; omega), zmove_fix e3 e4 hi]
  · rfl
theorem zok_valves {m : Nat} {z : dz} (h : zok z) (hm : z 5 = nI m) (hm8 : m ≤ 8) : ∀ k, k ≤ m → zok (zvalves z k) ∧ ∀ i, zfix i → zvalves z k i = z i
  | 0, _ => ⟨h, fun _ _ => rfl⟩
  | k + 1, hk => by
    obtain ⟨h1, h2⟩ := zok_valves h hm hm8 k (by omega)
    have h5 : zvalves z k 5 = nI m := by rw [h2 5 (by unfold zfix; omega), hm]
    refine ⟨zok_valve h1 h5 hm8 (by omega), fun i hi => ?_⟩
    show zvalve k (zvalves z k) i = z i
    rw [zvalve_fix h1 h5 hm8 (by omega) hi, h2 i hi]
theorem zok_hour {z : dz} (h : zok z) : zok (zhour z) ∧ ∀ i, zfix i → zhour z i = z i := by
  obtain ⟨m, hm8, hm, hv⟩ := h.2.2.2.2.2
  have e : zn (z 5) = m := by rw [hm]; exact zn_nI (by omega)
  obtain ⟨h1, h2⟩ := zok_valves h hm hm8 m (Nat.le_refl _)
  unfold zhour
  rw [e]
  refine ⟨zok_hr (zok_settles (zok_pipes h1 5 (Nat.le_refl _)) 5 (Nat.le_refl _)), fun i hi => ?_⟩
  rw [zadd_ne _ _ (by unfold zfix at hi; omega), zsettles_fix hi 5 (Nat.le_refl _), zpipes_fix hi 5 (Nat.le_refl _), h2 i hi]
theorem zok_hours {z : dz} (h : zok z) : ∀ k, zok (zhours z k) ∧ ∀ i, zfix i → zhours z k i = z i
  | 0 => ⟨h, fun _ _ => rfl⟩
  | k + 1 => by
    obtain ⟨h1, h2⟩ := zok_hours h k
    obtain ⟨h3, h4⟩ := zok_hour h1
    exact ⟨h3, fun i hi => (h4 i hi).trans (h2 i hi)⟩
