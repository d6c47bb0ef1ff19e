/-! bits of a share on both sides -/
theorem zshare_D {z : dz} (h : zok z) : zshare z = 0 ∨ ∃ c j, 2 ^ 52 ≤ c ∧ c < 2 ^ 53 ∧ j ≤ 60 ∧ zshare z = fD c j := by
  obtain ⟨-, -, t1, t2, t3⟩ := zshare_ti h
  unfold zshare
  by_cases c : zput3 z = 0
  · rw [if_pos c]
    exact Or.inl rfl
  · rw [if_neg c]
    have : (zput3 z).toInt ≠ 0 := fun q => c (ti_ext q)
    exact f_share t1 t2 (by omega) t3
theorem c_J_isNaN {x : UInt64} {M : am_M} {K : am_Q} (hx : FP.Core.val64 x ≠ .nan) (h : K (.inl (some (.int (nI 0)))) M) : am_C mt_J_isNaN [.double x] M K := by
  have e : FP.dcmp x x = some .eq := FP.Core.dcmp_self hx
  refine am_C_of_R am_S0 om_J_isNaN rfl [.double x, .null] rfl rfl (g_J_isNaN_0 ⟨fun _ => g_J_isNaN_10 (g_J_isNaN_11 ⟨Or.inl rfl, h⟩), fun c => ?_⟩)
  have c' : ¬ Op.cmpValue (FP.dcmp x x) .l = 0 := c
  rw [e] at c'
  exact absurd rfl c'
theorem c_J_bits {x : UInt64} {M : am_M} {K : am_Q} (hx : FP.Core.val64 x ≠ .nan) (h : K (.inl (some (.long x.toInt64))) M) : am_C mt_J_doubleToLongBits [.double x] M K :=
  am_C_of_R am_S0 om_J_doubleToLongBits rfl [.double x, .null] rfl rfl (g_J_doubleToLongBits_0 (c_J_isNaN hx ⟨fun c => absurd nI_0 c, fun _ => h⟩))
theorem zshare_nan {z : dz} (h : zok z) : FP.Core.val64 (zshare z) ≠ .nan := by
  rcases zshare_D h with e | ⟨c, j, h1, h2, h3, e⟩
  · rw [e]
    decide +kernel
  · rw [e, fD_val h1 h2 (by omega)]
    exact fdt_nan
theorem c_V_bits {x : UInt64} {M : am_M} {K : am_Q} (hx : x = 0 ∨ ∃ c j, 2 ^ 52 ≤ c ∧ c < 2 ^ 53 ∧ j ≤ 60 ∧ x = fD c j) (h : K (.inl (some (.long x.toInt64))) M) : am_C mt_V_bitsOfShare [.double x] M K := by
  refine am_C_of_R am_S0 om_V_bitsOfShare rfl [.double x, .null, .null, .null, .null, .null] rfl rfl ?_
  rcases hx with rfl | ⟨c, j, h1, h2, h3, rfl⟩
  · have e : FP.dcmp 0 FP.dconst0 = some .eq := by decide +kernel
    refine g_V_bitsOfShare_0 ⟨fun c => ?_, fun _ => h⟩
    have c' : 0 < Op.cmpValue (FP.dcmp 0 FP.dconst0) .g := c
    rw [e] at c'
    exact absurd c' (by decide +kernel)
  · have e := fD_pos h1 h2 (show j ≤ 100 by omega)
    refine g_V_bitsOfShare_0 ⟨fun _ => g_V_bitsOfShare_8 ?_, fun c0 => ?_⟩
    · have h0 : am_R am_S0 mt_V_bitsOfShare 1 15 [.double (fD c j), .null, .double (fD c (j - 0)), .null, .long (lN (1023 - 0)), .null] [] M K := by
        refine lu (P := fun i => am_R am_S0 mt_V_bitsOfShare 1 15 [.double (fD c j), .null, .double (fD c (j - i)), .null, .long (lN (1023 - i)), .null] [] M K) j ?_ ?_
        · rw [Nat.sub_self]
          refine g_V_bitsOfShare_15 ⟨fun _ => g_V_bitsOfShare_43 ?_, fun c1 => ?_⟩
          · obtain ⟨t1, t2, t3⟩ := fD_tail h1 h2
            refine ⟨t1, t2, ?_⟩
            show K (.inl (some (.long (lN (1023 - j) <<< ((nI 52).toInt64 &&& 63) + FP.d2l (FP.dmul (FP.dsub (fD c 0) FP.dconst1) (UInt64.ofNat 4841369599423283200)))))) M
            rw [t3, f_exp j h3, lN_add, ← fD_bits h1 (by omega)]
            exact h
          · have c' : ¬ 0 ≤ Op.cmpValue (FP.dcmp (fD c 0) FP.dconst1) .g := c1
            rcases fD_ge1 h1 h2 with q | q
            · rw [q] at c'
              exact absurd (by decide +kernel) c'
            · rw [q] at c'
              exact absurd (by decide +kernel) c'
        · intro i hi ih
          have ej : j - i = j - (i + 1) + 1 := by omega
          have e1 := fD_lt1 h1 h2 (show j - (i + 1) + 1 ≤ 100 by omega)
          have e2 := fD_dbl h1 h2 (show j - (i + 1) + 1 ≤ 100 by omega)
          rw [ej]
          refine g_V_bitsOfShare_15 ⟨fun c1 => ?_, fun _ => ⟨fun c2 => ?_, fun _ => ⟨?_, ?_⟩⟩⟩
          · have c' : 0 ≤ Op.cmpValue (FP.dcmp (fD c (j - (i + 1) + 1)) FP.dconst1) .g := c1
            rw [e1] at c'
            exact absurd c' (by decide +kernel)
          · have c' : lg_cmp (lN (1023 - i)) (lN 1) ≤ 0 := c2
            rw [lg_cmp_le, lN_le (by omega) (by decide)] at c'
            omega
          · show vf_n64 (FP.dmul (fD c (j - (i + 1) + 1)) (UInt64.ofNat 4611686018427387904))
            rw [e2]
            exact fD_n64 h1 h2 (by omega)
          · have es : lN (1023 - i) - lN 1 = lN (1023 - (i + 1)) := by rw [lN_sub (by omega)]; congr 1
            rw [← e2, ← es] at ih
            exact am_R_le (by repeat' (first | exact trivial | exact Or.inr rfl | exact Or.inl rfl | exact Or.inr (congrArg Value.int (nI_succ _)) | refine ⟨?_, ?_⟩)) ih
      exact am_R_le (by repeat' (first | exact trivial | exact Or.inr rfl | exact Or.inl rfl | exact Or.inr (congrArg Value.int (nI_succ _)) | refine ⟨?_, ?_⟩)) h0
    · have c' : ¬ 0 < Op.cmpValue (FP.dcmp (fD c j) FP.dconst0) .g := c0
      rw [e] at c'
      exact absurd (by decide +kernel) c'
