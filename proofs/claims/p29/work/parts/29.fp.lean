/-! doubles: c * 2^(-52-j), as bits -/
theorem fq_min : FP.Core.Fmt.qmin FP.Core.b64 = -1074 := FP.Core.qmin_b64
theorem fq_max : FP.Core.Fmt.qmax FP.Core.b64 = 971 := by decide
theorem fq_p : FP.Core.Fmt.p FP.Core.b64 = 53 := rfl
def fdt (c j : Nat) : FP.Core.Datum := .fin false c (-52 - (j : Int))
def fD (c j : Nat) : UInt64 := FP.Core.of64 (fdt c j)
theorem fdt_fits {c j : Nat} (h1 : 2 ^ 52 ≤ c) (h2 : c < 2 ^ 53) (hj : j ≤ 100) : FP.Core.fits FP.Core.b64 (fdt c j) := by
  refine ⟨h2, ?_, ?_, Or.inr ?_⟩
  · rw [fq_min]; omega
  · rw [fq_max]; omega
  · rw [FP.Core.tails_b64]; exact h1
theorem fD_val {c j : Nat} (h1 : 2 ^ 52 ≤ c) (h2 : c < 2 ^ 53) (hj : j ≤ 100) : FP.Core.val64 (fD c j) = fdt c j := FP.Core.val64_of64 (fdt_fits h1 h2 hj)
theorem fdt_nan {c j : Nat} : fdt c j ≠ .nan := fun q => by cases q
theorem fD_of {x : UInt64} {c j : Nat} (h : FP.Core.val64 x = fdt c j) : x = fD c j := by
  have e := FP.Core.of64_val64 (a := x) (by rw [h]; exact fdt_nan)
  rw [h] at e
  exact e.symm
theorem n64_of {x : UInt64} (h : FP.Core.val64 x ≠ .nan) : vf_n64 x := by
  have h1 := (FP.Core.ne_nan x).mp h
  unfold vf_n64
  rw [UInt64.le_iff_toNat_le, UInt64.toNat_and]
  have e1 : (0x7fffffffffffffff : UInt64).toNat = 2 ^ 63 - 1 := by decide +kernel
  have e2 : (0x7ff0000000000000 : UInt64).toNat = 9218868437227405312 := by decide +kernel
  rw [e1, e2, Nat.and_two_pow_sub_one_eq_mod]
  exact h1
theorem fD_n64 {c j : Nat} (h1 : 2 ^ 52 ≤ c) (h2 : c < 2 ^ 53) (hj : j ≤ 100) : vf_n64 (fD c j) := n64_of (by rw [fD_val h1 h2 hj]; exact fdt_nan)
theorem f_two : FP.Core.val64 (UInt64.ofNat 4611686018427387904) = .fin false (2 ^ 52) (-51) := by decide +kernel
theorem f_big : FP.Core.val64 (UInt64.ofNat 4841369599423283200) = .fin false (2 ^ 52) 0 := by decide +kernel
theorem f_zero : FP.Core.val64 FP.dconst0 = .fin false 0 (-1074) := by decide +kernel
theorem f_one : FP.Core.val64 FP.dconst1 = .fin false (2 ^ 52) (-52) := by decide +kernel
theorem cmp_lt {a b : Int} (h : a < b) : compare a b = .lt := by
  show compareOfLessAndEq a b = _
  unfold compareOfLessAndEq
  rw [if_pos h]
theorem cmp_gt {a b : Int} (h : b < a) : compare a b = .gt := by
  show compareOfLessAndEq a b = _
  unfold compareOfLessAndEq
  rw [if_neg (by omega), if_neg (by omega)]
theorem cmp_eq {a b : Int} (h : a = b) : compare a b = .eq := by
  show compareOfLessAndEq a b = _
  unfold compareOfLessAndEq
  rw [if_neg (by omega), if_pos h]
theorem fD_pos {c j : Nat} (h1 : 2 ^ 52 ≤ c) (h2 : c < 2 ^ 53) (hj : j ≤ 100) : FP.dcmp (fD c j) FP.dconst0 = some .gt := by
  show FP.Core.order (FP.Core.val64 (fD c j)) (FP.Core.val64 FP.dconst0) = _
  rw [fD_val h1 h2 hj, f_zero]
  refine congrArg some (cmp_gt ?_)
  show ((0 * 2 ^ (-1074 - min (-52 - (j : Int)) (-1074)).toNat : Nat) : Int) < ((c * 2 ^ (-52 - (j : Int) - min (-52 - (j : Int)) (-1074)).toNat : Nat) : Int)
  have : 0 < c * 2 ^ (-52 - (j : Int) - min (-52 - (j : Int)) (-1074)).toNat := Nat.mul_pos (by omega) (Nat.two_pow_pos _)
  omega
theorem fD_lt1 {c j : Nat} (h1 : 2 ^ 52 ≤ c) (h2 : c < 2 ^ 53) (hj : j + 1 ≤ 100) : FP.dcmp (fD c (j + 1)) FP.dconst1 = some .lt := by
  show FP.Core.order (FP.Core.val64 (fD c (j + 1))) (FP.Core.val64 FP.dconst1) = _
  rw [fD_val h1 h2 hj, f_one]
  refine congrArg some (cmp_lt ?_)
  have em : min (-52 - ((j + 1 : Nat) : Int)) (-52) = -52 - ((j + 1 : Nat) : Int) := by omega
  show ((c * 2 ^ (-52 - ((j + 1 : Nat) : Int) - min (-52 - ((j + 1 : Nat) : Int)) (-52)).toNat : Nat) : Int) < ((2 ^ 52 * 2 ^ (-52 - min (-52 - ((j + 1 : Nat) : Int)) (-52)).toNat : Nat) : Int)
  rw [em, show (-52 - ((j + 1 : Nat) : Int) - (-52 - ((j + 1 : Nat) : Int))).toNat = 0 by omega, show (-52 - (-52 - ((j + 1 : Nat) : Int))).toNat = j + 1 by omega, Nat.pow_zero, Nat.mul_one, Nat.pow_succ]
  have := Nat.two_pow_pos j
  omega
theorem fD_ge1 {c : Nat} (h1 : 2 ^ 52 ≤ c) (h2 : c < 2 ^ 53) : FP.dcmp (fD c 0) FP.dconst1 = some .gt ∨ FP.dcmp (fD c 0) FP.dconst1 = some .eq := by
  have e : FP.dcmp (fD c 0) FP.dconst1 = some (compare ((c : Nat) : Int) ((2 ^ 52 : Nat) : Int)) := by
    show FP.Core.order (FP.Core.val64 (fD c 0)) (FP.Core.val64 FP.dconst1) = _
    rw [fD_val h1 h2 (by decide), f_one]
    show some (compare ((c * 2 ^ (-52 - ((0 : Nat) : Int) - min (-52 - ((0 : Nat) : Int)) (-52)).toNat : Nat) : Int) ((2 ^ 52 * 2 ^ (-52 - min (-52 - ((0 : Nat) : Int)) (-52)).toNat : Nat) : Int)) = _
    rw [show (-52 - ((0 : Nat) : Int) - min (-52 - ((0 : Nat) : Int)) (-52)).toNat = 0 by omega, show (-52 - min (-52 - ((0 : Nat) : Int)) (-52)).toNat = 0 by omega, Nat.pow_zero, Nat.mul_one, Nat.mul_one]
  rw [e]
  by_cases c1 : c = 2 ^ 52
  · exact Or.inr (congrArg some (cmp_eq (by rw [c1])))
  · exact Or.inl (congrArg some (cmp_gt (by omega)))
/-- what bits a share is -/
theorem fD_bits {c j : Nat} (h1 : 2 ^ 52 ≤ c) (hj : j ≤ 100) : (fD c j).toInt64 = lN ((1023 - j) * 2 ^ 52 + (c - 2 ^ 52)) := by
  have e : FP.Core.encode FP.Core.b64 (fdt c j) = (1023 - j) * 2 ^ 52 + (c - 2 ^ 52) := by
    show (if c < FP.Core.Fmt.tails FP.Core.b64 then FP.Core.assemble FP.Core.b64 false 0 c else FP.Core.assemble FP.Core.b64 false ((-52 - (j : Int) - FP.Core.Fmt.qmin FP.Core.b64).toNat + 1) (c - FP.Core.Fmt.tails FP.Core.b64)) = _
    rw [FP.Core.tails_b64, if_neg (by omega), fq_min, show (-52 - (j : Int) - -1074).toNat + 1 = 1023 - j by omega]
    unfold FP.Core.assemble
    rw [FP.Core.tails_b64]
    show (0 * _ + (1023 - j)) * 2 ^ 52 + (c - 2 ^ 52) = _
    rw [Nat.zero_mul, Nat.zero_add]
  unfold fD FP.Core.of64
  rw [e]
  rfl
theorem f_exp : ∀ j, j ≤ 60 → lN (1023 - j) <<< ((nI 52).toInt64 &&& 63) = lN ((1023 - j) * 2 ^ 52) := by decide +kernel
theorem fI_val {a : Nat} (h0 : 0 < a) (ha : a < 2 ^ 19) : ∃ k : Nat, k ≤ 52 ∧ FP.Core.val64 (FP.i2d (nI a)) = .fin false (a * 2 ^ k) (-(k : Int)) := by
  have l1 : 2 ^ a.log2 ≤ a := Nat.log2_self_le (by omega)
  have l2 : a < 2 ^ (a.log2 + 1) := Nat.lt_log2_self
  have l3 : a.log2 < 19 := (Nat.pow_lt_pow_iff_right (by decide : 1 < 2)).mp (Nat.lt_of_le_of_lt l1 ha)
  obtain ⟨k, hk⟩ : ∃ k, a.log2 + k = 52 := ⟨52 - a.log2, by omega⟩
  have c1 : 2 ^ 52 ≤ a * 2 ^ k := by
    calc 2 ^ 52 = 2 ^ a.log2 * 2 ^ k := by rw [← Nat.pow_add, hk]
      _ ≤ a * 2 ^ k := Nat.mul_le_mul_right _ l1
  have c2 : a * 2 ^ k < 2 ^ 53 := by
    calc a * 2 ^ k < 2 ^ (a.log2 + 1) * 2 ^ k := Nat.mul_lt_mul_of_pos_right l2 (Nat.two_pow_pos _)
      _ = 2 ^ 53 := by rw [← Nat.pow_add]; congr 1; omega
  refine ⟨k, by omega, ?_⟩
  show FP.Core.val64 (FP.Core.i2d (nI a)) = _
  rw [FP.Core.val64_i2d, nI_toInt (by omega)]
  show FP.Core.round FP.Core.b64 (.fin (decide ((a : Int) < 0)) (a : Int).natAbs 0) = _
  rw [decide_eq_false (by omega), Int.natAbs_natCast]
  show FP.Core.roundRatio FP.Core.b64 false a 1 0 = _
  refine FP.Core.roundRatio_exact FP.Core.good_b64 (by decide) ⟨c2, by rw [fq_min]; omega, by rw [fq_max]; omega, Or.inr (by rw [FP.Core.tails_b64]; exact c1)⟩ ?_
  rw [show (0 - -(k : Int)).toNat = k by omega, show (-(k : Int) - 0).toNat = 0 by omega, Nat.pow_zero, Nat.mul_one, Nat.mul_one]
theorem f_ratio {a b : Nat} (h0 : 0 < a) (hab : a ≤ b) (hb : b < 2 ^ 19) : ∃ c j, 2 ^ 52 ≤ c ∧ c < 2 ^ 53 ∧ j ≤ 60 ∧ FP.Core.roundRatio FP.Core.b64 false a b 0 = fdt c j := by
  have hb0 : 0 < b := by omega
  obtain ⟨s1, s2⟩ := FP.Core.leading_spec (A := a) (B := b) h0 hb0
  have hq : FP.Core.quantum FP.Core.b64 a b 0 = max (-1074) (FP.Core.leading a b + 0 - (53 - 1)) := by
    unfold FP.Core.quantum
    rw [fq_min]
    rfl
  generalize FP.Core.leading a b = L at s1 s2 hq
  have b1 : FP.Core.Below a b (((1 : Nat) : Int) - ((0 : Nat) : Int)) := (FP.Core.below_iff a b 1 0).mpr (by omega)
  have hL0 : L ≤ 0 := by
    have := FP.Core.lt_of_below s1 b1
    omega
  have hL19 : -19 ≤ L := by
    refine Int.not_lt.mp (fun q => ?_)
    have := FP.Core.below_mono (show L + 1 ≤ ((0 : Nat) : Int) - ((19 : Nat) : Int) by omega) s2
    have := (FP.Core.below_iff a b 0 19).mp this
    omega
  obtain ⟨l, hl, rfl⟩ : ∃ l : Nat, l ≤ 19 ∧ L = -(l : Int) := ⟨(-L).toNat, by omega, by omega⟩
  have lo : b ≤ a * 2 ^ l := by
    refine Nat.le_of_not_lt (fun q => s1 ?_)
    have := (FP.Core.below_iff a b 0 l).mpr (by rw [Nat.pow_zero, Nat.mul_one]; exact q)
    rw [show ((0 : Nat) : Int) - (l : Int) = -(l : Int) by omega] at this
    exact this
  have hi : a * 2 ^ l < b * 2 := by
    have e : -(l : Int) + 1 = ((1 : Nat) : Int) - (l : Int) := by omega
    rw [e] at s2
    have := (FP.Core.below_iff a b 1 l).mp s2
    omega
  unfold FP.Core.roundRatio
  rw [if_neg (by omega), hq, show max (-1074) (-(l : Int) + 0 - (53 - 1)) = -(l : Int) - 52 by omega]
  unfold FP.Core.roundAt FP.Core.unitsNum FP.Core.unitsDen
  rw [show (0 - (-(l : Int) - 52)).toNat = l + 52 by omega, show (-(l : Int) - 52 - 0).toNat = 0 by omega, Nat.pow_zero, Nat.mul_one, Nat.pow_add, ← Nat.mul_assoc]
  have n1 : 2 ^ 52 ≤ FP.Core.nearest (a * 2 ^ l * 2 ^ 52) b := FP.Core.nearest_ge hb0 (by rw [Nat.mul_comm]; exact Nat.mul_le_mul_right _ lo)
  have n2 : FP.Core.nearest (a * 2 ^ l * 2 ^ 52) b ≤ 2 ^ 53 := FP.Core.nearest_le hb0 (by omega)
  generalize hn : FP.Core.nearest (a * 2 ^ l * 2 ^ 52) b = n at n1 n2
  unfold FP.Core.settle FP.Core.bound
  rw [fq_p, fq_max, FP.Core.tails_b64]
  by_cases c : n < 2 ^ 53
  · refine ⟨n, l, n1, c, by omega, ?_⟩
    rw [if_pos c, if_pos (by omega)]
    unfold fdt
    congr 1
    omega
  · have l0 : l ≠ 0 := by
      intro q
      subst q
      rw [Nat.pow_zero, Nat.mul_one] at lo hn
      have e : a = b := by omega
      subst e
      rw [Nat.mul_comm, FP.Core.nearest_exact _ hb0] at hn
      omega
    refine ⟨2 ^ 52, l - 1, Nat.le_refl _, by decide, by omega, ?_⟩
    rw [if_neg c, if_pos (by omega)]
    unfold fdt
    congr 1
    omega
theorem f_quot {a b : Nat} (h0 : 0 < a) (hab : a ≤ b) (hb : b < 2 ^ 19) : ∃ c j, 2 ^ 52 ≤ c ∧ c < 2 ^ 53 ∧ j ≤ 60 ∧ FP.ddiv (FP.i2d (nI a)) (FP.i2d (nI b)) = fD c j := by
  obtain ⟨c, j, h1, h2, h3, h4⟩ := f_ratio h0 hab hb
  refine ⟨c, j, h1, h2, h3, fD_of ?_⟩
  obtain ⟨ka, ka1, ea⟩ := fI_val h0 (by omega)
  obtain ⟨kb, kb1, eb⟩ := fI_val (show 0 < b by omega) hb
  show FP.Core.val64 (FP.Core.ddiv (FP.i2d (nI a)) (FP.i2d (nI b))) = _
  rw [FP.Core.val64_ddiv, ea, eb, ← h4]
  show (if b * 2 ^ kb = 0 then (if a * 2 ^ ka = 0 then FP.Core.Datum.nan else FP.Core.Datum.inf (false != false)) else FP.Core.roundRatio FP.Core.b64 (false != false) (a * 2 ^ ka) (b * 2 ^ kb) (-(ka : Int) - -(kb : Int))) = _
  have pb : 0 < b * 2 ^ kb := Nat.mul_pos (by omega) (Nat.two_pow_pos _)
  rw [if_neg (by omega)]
  refine FP.Core.roundRatio_congr pb (by omega) ?_
  by_cases ck : ka ≤ kb
  · obtain ⟨d, rfl⟩ : ∃ d, kb = ka + d := ⟨kb - ka, by omega⟩
    rw [show (-(ka : Int) - -((ka + d : Nat) : Int) - 0).toNat = d by omega, show (0 - (-(ka : Int) - -((ka + d : Nat) : Int))).toNat = 0 by omega, Nat.pow_zero, Nat.mul_one, Nat.pow_add]
    ac_rfl
  · obtain ⟨d, rfl⟩ : ∃ d, ka = kb + d := ⟨ka - kb, by omega⟩
    rw [show (-((kb + d : Nat) : Int) - -(kb : Int) - 0).toNat = 0 by omega, show (0 - (-((kb + d : Nat) : Int) - -(kb : Int))).toNat = d by omega, Nat.pow_zero, Nat.mul_one, Nat.pow_add]
    ac_rfl
theorem f_quot0 {b : Nat} (h0 : 0 < b) (hb : b < 2 ^ 19) : FP.ddiv (FP.i2d (nI 0)) (FP.i2d (nI b)) = 0 := by
  obtain ⟨kb, kb1, eb⟩ := fI_val h0 hb
  have e0 : FP.Core.val64 (FP.i2d (nI 0)) = .fin false 0 (-1074) := by decide +kernel
  have ez : FP.Core.val64 (0 : UInt64) = .fin false 0 (-1074) := by decide +kernel
  have e : FP.Core.val64 (FP.ddiv (FP.i2d (nI 0)) (FP.i2d (nI b))) = .fin false 0 (-1074) := by
    show FP.Core.val64 (FP.Core.ddiv (FP.i2d (nI 0)) (FP.i2d (nI b))) = _
    rw [FP.Core.val64_ddiv, e0, eb]
    show (if b * 2 ^ kb = 0 then (if 0 = 0 then FP.Core.Datum.nan else FP.Core.Datum.inf (false != false)) else FP.Core.roundRatio FP.Core.b64 (false != false) 0 (b * 2 ^ kb) (-1074 - -(kb : Int))) = _
    have pb : 0 < b * 2 ^ kb := Nat.mul_pos h0 (Nat.two_pow_pos _)
    rw [if_neg (by omega)]
    unfold FP.Core.roundRatio
    rw [if_pos rfl, fq_min]
    rfl
  exact FP.Core.val64_inj (by rw [e]; exact fun q => by cases q) (e.trans ez.symm)
theorem i_nat {a : Int32} (h : 0 ≤ a.toInt) : a = nI a.toInt.toNat := by
  refine Int32.toInt_inj.mp ?_
  have := a.toInt_lt
  rw [nI_toInt (by omega)]
  omega
theorem f_share {a b : Int32} (ha : 0 ≤ a.toInt) (hab : a.toInt ≤ b.toInt) (hb : 0 < b.toInt) (hb2 : b.toInt ≤ 299997) : FP.ddiv (FP.i2d a) (FP.i2d b) = 0 ∨ ∃ c j, 2 ^ 52 ≤ c ∧ c < 2 ^ 53 ∧ j ≤ 60 ∧ FP.ddiv (FP.i2d a) (FP.i2d b) = fD c j := by
  rw [i_nat ha, i_nat (Int.le_of_lt hb)]
  by_cases h0 : a.toInt = 0
  · rw [h0]
    exact Or.inl (f_quot0 (by omega) (by omega))
  · exact Or.inr (f_quot (by omega) (by omega) (by omega))
theorem f_share_nan {a b : Int32} (ha : 0 ≤ a.toInt) (hab : a.toInt ≤ b.toInt) (hb : 0 < b.toInt) (hb2 : b.toInt ≤ 299997) : FP.Core.val64 (FP.ddiv (FP.i2d a) (FP.i2d b)) ≠ .nan := by
  rcases f_share ha hab hb hb2 with h | ⟨c, j, h1, h2, h3, h⟩
  · rw [h]
    decide +kernel
  · rw [h, fD_val h1 h2 (by omega)]
    exact fdt_nan
