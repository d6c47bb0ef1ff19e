/-! accounts -/
theorem zv {v k : Nat} {z : dz} (h : k < 8) : zvat v k z = z (17 + 8 * v + k) := by
  unfold zvat
  rw [if_neg (by omega), if_neg (by omega)]
theorem zv1 {v : Nat} {z : dz} : zvat v 1 z = z (18 + 8 * v) := by
  rw [zv (by decide)]
  congr 1
  omega
theorem zsum5_ti {g : Nat → Int32} (h : ∀ v, v < 5 → 0 ≤ (g v).toInt ∧ (g v).toInt ≤ 100000) : (zsum g 5).toInt = (g 0).toInt + (g 1).toInt + (g 2).toInt + (g 3).toInt + (g 4).toInt := by
  have h0 := h 0 (by decide)
  have h1 := h 1 (by decide)
  have h2 := h 2 (by decide)
  have h3 := h 3 (by decide)
  have h4 := h 4 (by decide)
  show (nI 0 + g 0 + g 1 + g 2 + g 3 + g 4).toInt = _
  have e0 : nI 0 + g 0 = g 0 := Int32.zero_add _
  rw [e0]
  have e1 := ti_add (a := g 0) (b := g 1) (by omega) (by omega)
  have e2 := ti_add (a := g 0 + g 1) (b := g 2) (by omega) (by omega)
  have e3 := ti_add (a := g 0 + g 1 + g 2) (b := g 3) (by omega) (by omega)
  have e4 := ti_add (a := g 0 + g 1 + g 2 + g 3) (b := g 4) (by omega) (by omega)
  omega
theorem dye_sum {z : dz} (h : zok z) {d : Nat} (hd : d < 3) : z (11 + d) = zin (2 + d) z + zin (5 + d) z + z (14 + d) := by
  obtain ⟨a1, a2, a3⟩ := h.2.2.1 d hd
  have gd : ∀ v, v < 5 → 0 ≤ (z (17 + 8 * v + (2 + d))).toInt ∧ (z (17 + 8 * v + (2 + d))).toInt ≤ 100000 := fun v hv => by
    have := h.2.1 v d hv hd
    have := zgr_le h.2.1 h.2.2.1 hv hd
    rw [show 17 + 8 * v + (2 + d) = 19 + 8 * v + d by omega]
    omega
  have gs : ∀ v, v < 5 → 0 ≤ (z (17 + 8 * v + (5 + d))).toInt ∧ (z (17 + 8 * v + (5 + d))).toInt ≤ 100000 := fun v hv => by
    have := h.2.1 v d hv hd
    have := zgr_le h.2.1 h.2.2.1 hv hd
    rw [show 17 + 8 * v + (5 + d) = 22 + 8 * v + d by omega]
    omega
  have s1 := zsum5_ti (g := fun v => z (17 + 8 * v + (2 + d))) gd
  have s2 := zsum5_ti (g := fun v => z (17 + 8 * v + (5 + d))) gs
  have d0 := gd 0 (by decide)
  have d1 := gd 1 (by decide)
  have d2 := gd 2 (by decide)
  have d3 := gd 3 (by decide)
  have d4 := gd 4 (by decide)
  have t0 := gs 0 (by decide)
  have t1 := gs 1 (by decide)
  have t2 := gs 2 (by decide)
  have t3 := gs 3 (by decide)
  have t4 := gs 4 (by decide)
  have g1 := ti_max (z (11 + d))
  rw [show 17 + 8 * 0 + (2 + d) = 19 + d by omega] at s1 d0
  rw [show 17 + 8 * 1 + (2 + d) = 27 + d by omega] at s1 d1
  rw [show 17 + 8 * 2 + (2 + d) = 35 + d by omega] at s1 d2
  rw [show 17 + 8 * 3 + (2 + d) = 43 + d by omega] at s1 d3
  rw [show 17 + 8 * 4 + (2 + d) = 51 + d by omega] at s1 d4
  rw [show 17 + 8 * 0 + (5 + d) = 22 + d by omega] at s2 t0
  rw [show 17 + 8 * 1 + (5 + d) = 30 + d by omega] at s2 t1
  rw [show 17 + 8 * 2 + (5 + d) = 38 + d by omega] at s2 t2
  rw [show 17 + 8 * 3 + (5 + d) = 46 + d by omega] at s2 t3
  rw [show 17 + 8 * 4 + (5 + d) = 54 + d by omega] at s2 t4
  unfold zall at a2
  have e1 : (zin (2 + d) z).toInt = _ := s1
  have e2 : (zin (5 + d) z).toInt = _ := s2
  refine ti_ext ?_
  have q1 := ti_add (a := zin (2 + d) z) (b := zin (5 + d) z) (by omega) (by omega)
  have q2 := ti_add (a := zin (2 + d) z + zin (5 + d) z) (b := z (14 + d)) (by omega) (by omega)
  omega
theorem wat_sum {z : dz} (h : zok z) : z 3 = zin 1 z + z 2 := by
  obtain ⟨h1, h2⟩ := h.2.2.2.2.1
  have gw : ∀ v, v < 5 → 0 ≤ (z (17 + 8 * v + 1)).toInt ∧ (z (17 + 8 * v + 1)).toInt ≤ 100000 := fun v hv => by
    have := h.1 v hv
    rw [show 17 + 8 * v + 1 = 18 + 8 * v by omega]
    omega
  have s1 := zsum5_ti (g := fun v => z (17 + 8 * v + 1)) gw
  have w0 := gw 0 (by decide)
  have w1 := gw 1 (by decide)
  have w2 := gw 2 (by decide)
  have w3 := gw 3 (by decide)
  have w4 := gw 4 (by decide)
  have g1 := ti_max (z 3)
  have e1 : (zin 1 z).toInt = (z 18).toInt + (z 26).toInt + (z 34).toInt + (z 42).toInt + (z 50).toInt := s1
  have w0 : 0 ≤ (z 18).toInt ∧ (z 18).toInt ≤ 100000 := w0
  have w1 : 0 ≤ (z 26).toInt ∧ (z 26).toInt ≤ 100000 := w1
  have w2 : 0 ≤ (z 34).toInt ∧ (z 34).toInt ≤ 100000 := w2
  have w3 : 0 ≤ (z 42).toInt ∧ (z 42).toInt ≤ 100000 := w3
  have w4 : 0 ≤ (z 50).toInt ∧ (z 50).toInt ≤ 100000 := w4
  unfold zwat at h2
  refine ti_ext ?_
  have q1 := ti_add (a := zin 1 z) (b := z 2) (by omega) (by omega)
  omega
theorem bit_self : ∀ m, m < 32 → ∀ v, v < 5 → m.testBit v = false → ¬ (nI m >>> (nI v &&& 31) &&& nI 1 = nI 1) := by decide +kernel
theorem no_pipe {z : dz} (h : zpk z) {v : Nat} (hv : v < 5) : ¬ (z (6 + v) >>> (nI v &&& 31) &&& nI 1 = nI 1) := by
  obtain ⟨m, h1, -⟩ := h
  obtain ⟨e, hm, hb⟩ := h1 v hv
  rw [e]
  exact bit_self (m v) hm v hv hb
theorem fD_eq {c j : Nat} (h1 : 2 ^ 52 ≤ c) (h2 : c < 2 ^ 53) (hj : j ≤ 100) : FP.dcmp (fD c j) (fD c j) = some .eq := by
  show FP.Core.order (FP.Core.val64 (fD c j)) (FP.Core.val64 (fD c j)) = _
  rw [fD_val h1 h2 hj]
  exact congrArg some (cmp_eq rfl)
theorem f0_eq : FP.dcmp 0 0 = some .eq := by decide +kernel
theorem share_cmp {a b : Int32} (ha : 0 ≤ a.toInt) (hab : a.toInt ≤ b.toInt) (hb : 0 < b.toInt) (hb2 : b.toInt ≤ 299997) : FP.dcmp (FP.ddiv (FP.i2d a) (FP.i2d b)) (FP.ddiv (FP.i2d a) (FP.i2d b)) = some .eq := by
  rcases f_share ha hab hb hb2 with h | ⟨c, j, h1, h2, h3, h⟩
  · rw [h]; exact f0_eq
  · rw [h]; exact fD_eq h1 h2 (by omega)
-- the greatest share, in longs
theorem tl64 (x : Int32) : x.toInt64.toInt = x.toInt := Int32.toInt_toInt64 x
theorem bm64 {x : Int} (h1 : -9223372036854775808 ≤ x) (h2 : x < 9223372036854775808) : x.bmod (2 ^ 64) = x := by
  rw [Int.bmod_def]
  omega
theorem more_ti {z : dz} (h : zok z) {d v b : Nat} (hd : d < 3) (hv : v < 5) (hb : b < 5) : ((z (19 + 8 * v + d)).toInt64 * (z (18 + 8 * b)).toInt64 - (z (19 + 8 * b + d)).toInt64 * (z (18 + 8 * v)).toInt64).toInt = dg z d v * wa z b - dg z d b * wa z v := by
  obtain ⟨-, p0, p1⟩ := prod_ti h hd hv hb
  obtain ⟨-, q0, q1⟩ := prod_ti h hd hb hv
  have e1 : ((z (19 + 8 * v + d)).toInt64 * (z (18 + 8 * b)).toInt64).toInt = dg z d v * wa z b := by
    rw [Int64.toInt_mul, tl64, tl64]
    exact bm64 (by unfold dg wa at p0; omega) (by unfold dg wa at p1; omega)
  have e2 : ((z (19 + 8 * b + d)).toInt64 * (z (18 + 8 * v)).toInt64).toInt = dg z d b * wa z v := by
    rw [Int64.toInt_mul, tl64, tl64]
    exact bm64 (by unfold dg wa at q0; omega) (by unfold dg wa at q1; omega)
  rw [Int64.toInt_sub, e1, e2]
  exact bm64 (by omega) (by omega)
theorem lgc_pos (x y : Int64) : 0 < lg_cmp x y ↔ y.toInt < x.toInt := by
  unfold lg_cmp
  simp only [gt_iff_lt, Int64.lt_iff_toInt_lt, ← Int64.toInt_inj]
  repeat' split
  all_goals (constructor <;> intro hh <;> first | omega | decide | exact absurd hh (by decide))
theorem lgc_0 (x y : Int64) : lg_cmp x y = 0 ↔ x.toInt = y.toInt := by
  unfold lg_cmp
  simp only [gt_iff_lt, Int64.lt_iff_toInt_lt, ← Int64.toInt_inj]
  repeat' split
  all_goals (constructor <;> intro hh <;> first | omega | decide | exact absurd hh (by decide))
theorem l0_ti : (lN 0).toInt = 0 := by decide +kernel
