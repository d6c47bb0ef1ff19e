/-! looks: pipes, dyeOf, count -/
def popc (m : Nat) : Nat := (m.testBit 0).toNat + (m.testBit 1).toNat + (m.testBit 2).toNat + (m.testBit 3).toNat + (m.testBit 4).toNat
def ush (x : Int32) (k : Nat) : Int32 := (x.toUInt32 >>> ((nI k).toUInt32 &&& Int32.toUInt32 31)).toInt32
def bc1 (x : Int32) : Int32 := x - (ush x 1 &&& nI 1431655765)
def bc2 (x : Int32) : Int32 := (x &&& nI 858993459) + (ush x 2 &&& nI 858993459)
def bc3 (x : Int32) : Int32 := (x + ush x 4) &&& nI 252645135
def bc4 (x : Int32) : Int32 := x + ush x 8
def bc5 (x : Int32) : Int32 := x + ush x 16
def bcn (x : Int32) : Int32 := bc5 (bc4 (bc3 (bc2 (bc1 x)))) &&& nI 63
theorem bcn_eq : ∀ m, m < 32 → bcn (nI m) = nI (popc m) := by decide +kernel
theorem c_J_bitCount {m : Nat} {M : am_M} {K : am_Q} (hm : m < 32) (h : K (.inl (some (.int (nI (popc m))))) M) : am_C mt_J_bitCount [.int (nI m)] M K := by
  rw [← bcn_eq m hm] at h
  exact am_C_of_R am_S0 om_J_bitCount rfl [.int (nI m)] rfl rfl (g_J_bitCount_0 h)
-- pairs of vats with a pipe
noncomputable def zpb (z : dz) (a b : Nat) : Nat := by classical exact if zpipe a b z then 1 else 0
noncomputable def zpr (z : dz) (a : Nat) : Nat → Nat
  | 0 => 0
  | k + 1 => zpr z a k + zpb z a (a + 1 + k)
noncomputable def zpt (z : dz) : Nat → Nat
  | 0 => 0
  | a + 1 => zpt z a + zpr z a (4 - a)
theorem zpb_n {z : dz} {a b : Nat} (h : ib (z (6 + a) >>> (nI b &&& 31) &&& nI 1 = nI 1) = 0) : zpb z a b = 0 := by
  have c : ¬ zpipe a b z := by
    have c := ib_eq0.mp h
    exact c
  unfold zpb
  rw [if_neg c]
theorem zpb_y {z : dz} {a b : Nat} (h : ¬ ib (z (6 + a) >>> (nI b &&& 31) &&& nI 1 = nI 1) = 0) : zpb z a b = 1 := by
  have c : zpipe a b z := by
    have c := Classical.not_not.mp fun q => h (ib_eq0.mpr q)
    exact c
  unfold zpb
  rw [if_pos c]
theorem zpb_bit {z : dz} {m a b : Nat} (hz : z (6 + a) = nI m) (hm : m < 32) (hb : b < 5) : zpb z a b = (m.testBit b).toNat := by
  have key : ∀ m, m < 32 → ∀ b, b < 5 → ((nI m >>> (nI b &&& 31) &&& nI 1 = nI 1) ↔ m.testBit b = true) := by decide +kernel
  have k := key m hm b hb
  have e : zpipe a b z ↔ m.testBit b = true := by
    unfold zpipe
    rw [hz]
    exact k
  unfold zpb
  by_cases c : m.testBit b = true
  · rw [if_pos (e.mpr c), c]; rfl
  · rw [if_neg (fun q => c (e.mp q))]
    have : m.testBit b = false := by simpa using c
    rw [this]; rfl
def zpq (m : Nat → Nat) : Nat → Nat
  | 0 => 0
  | v + 1 => zpq m v + popc (m v)
theorem popc_le (m : Nat) : popc m ≤ 5 := by
  unfold popc
  have b : ∀ x : Bool, x.toNat ≤ 1 := fun x => by cases x <;> decide
  have b0 := b (m.testBit 0)
  have b1 := b (m.testBit 1)
  have b2 := b (m.testBit 2)
  have b3 := b (m.testBit 3)
  have b4 := b (m.testBit 4)
  omega
/-- each pipe has two ends -/
theorem zpq_two {z : dz} {m : Nat → Nat} (h1 : ∀ v, v < 5 → z (6 + v) = nI (m v) ∧ m v < 32 ∧ (m v).testBit v = false) (h2 : ∀ v, v < 5 → ∀ u, u < 5 → (m v).testBit u = (m u).testBit v) : zpq m 5 = 2 * zpt z 5 := by
  have eb : ∀ a b, a < 5 → b < 5 → zpb z a b = ((m a).testBit b).toNat := fun a b ha hb => zpb_bit (h1 a ha).1 (h1 a ha).2.1 hb
  have d0 := (h1 0 (by decide)).2.2
  have d1 := (h1 1 (by decide)).2.2
  have d2 := (h1 2 (by decide)).2.2
  have d3 := (h1 3 (by decide)).2.2
  have d4 := (h1 4 (by decide)).2.2
  have s10 := h2 1 (by decide) 0 (by decide)
  have s20 := h2 2 (by decide) 0 (by decide)
  have s30 := h2 3 (by decide) 0 (by decide)
  have s40 := h2 4 (by decide) 0 (by decide)
  have s21 := h2 2 (by decide) 1 (by decide)
  have s31 := h2 3 (by decide) 1 (by decide)
  have s41 := h2 4 (by decide) 1 (by decide)
  have s32 := h2 3 (by decide) 2 (by decide)
  have s42 := h2 4 (by decide) 2 (by decide)
  have s43 := h2 4 (by decide) 3 (by decide)
  have L : zpq m 5 = popc (m 0) + popc (m 1) + popc (m 2) + popc (m 3) + popc (m 4) := by
    show 0 + popc (m 0) + popc (m 1) + popc (m 2) + popc (m 3) + popc (m 4) = _
    omega
  have R : zpt z 5 = (zpb z 0 1 + zpb z 0 2 + zpb z 0 3 + zpb z 0 4) + (zpb z 1 2 + zpb z 1 3 + zpb z 1 4) + (zpb z 2 3 + zpb z 2 4) + zpb z 3 4 := by
    show (((((0 + (0 + zpb z 0 1 + zpb z 0 2 + zpb z 0 3 + zpb z 0 4)) + (0 + zpb z 1 2 + zpb z 1 3 + zpb z 1 4)) + (0 + zpb z 2 3 + zpb z 2 4)) + (0 + zpb z 3 4)) + 0) = _
    omega
  rw [L, R, eb 0 1 (by decide) (by decide), eb 0 2 (by decide) (by decide), eb 0 3 (by decide) (by decide), eb 0 4 (by decide) (by decide), eb 1 2 (by decide) (by decide), eb 1 3 (by decide) (by decide), eb 1 4 (by decide) (by decide), eb 2 3 (by decide) (by decide), eb 2 4 (by decide) (by decide), eb 3 4 (by decide) (by decide)]
  unfold popc
  rw [d0, d1, d2, d3, d4, s10, s20, s30, s40, s21, s31, s41, s32, s42, s43]
  show _
  simp only [Bool.toNat_false]
  omega
theorem c_S_pipesLaid_1 {z : dz} {M : am_M} {K : am_Q} (hM : M 2 = zp z) (hz : zpk z) (h : K (.inl (some (.int (nI (zpt z 5))))) M) : am_C mt_S_pipesLaid [.ref 1] M K := by
  obtain ⟨m, h1, h2⟩ := hz
  have ht := zpq_two h1 h2
  refine am_C_of_R am_S0 om_S_pipesLaid rfl [.ref 1, .null, .null] rfl rfl (g_S_pipesLaid_0 ?_)
  refine am_R_le (xs := [.ref 1, .int (nI (zpq m 0)), .int (nI 0)]) (by repeat' (first | exact trivial | exact Or.inr rfl | exact Or.inl rfl | exact Or.inr (congrArg Value.int (nI_succ _)) | refine ⟨?_, ?_⟩)) ?_
  have hle : ∀ v, v ≤ 5 → zpq m v ≤ 5 * v := by
    intro v
    induction v with
    | zero => intro _; exact Nat.le_refl _
    | succ v ih =>
      intro hv
      have := ih (by omega)
      have := popc_le (m v)
      show zpq m v + popc (m v) ≤ _
      omega
  refine lu (P := fun i => am_R am_S0 mt_S_pipesLaid 1 4 [.ref 1, .int (nI (zpq m i)), .int (nI i)] [] M K) 5 ?_ ?_
  · refine g_S_pipesLaid_4 ⟨fun c => g_S_pipesLaid_29 ⟨nI2_ne, ?_⟩, fun c => absurd (i_le (Nat.le_refl 5) (by decide)) c⟩
    have := hle 5 (Nat.le_refl _)
    have e : nI (zpq m 5) / nI 2 = nI (zpt z 5) := by
      refine ti_ext ?_
      rw [ti_div (by rw [nI_toInt (by omega)]; omega) (by rw [nI_toInt (by omega)]; omega), nI_toInt (by omega), nI_toInt (by omega), nI_toInt (by omega)]
      omega
    rw [← e] at h
    exact h
  · intro i hi ih
    have es : zpq m (i + 1) = zpq m i + popc (m i) := rfl
    rw [es, ← nI_add] at ih
    have e : M 2 (5 + i) = nI (m i) := by rw [hM]; unfold zp; rw [pz_p hi]; exact (h1 i hi).1
    refine g_S_pipesLaid_4 ⟨fun c => absurd c (i_nge hi (by decide)), fun c => ⟨5 + i, ix2 5 i, by show _ < 105; omega, ?_⟩⟩
    show am_C mt_J_bitCount [.int (M 2 (5 + i))] _ _
    rw [e]
    exact c_J_bitCount (h1 i hi).2.1 (am_R_le (by repeat' (first | exact trivial | exact Or.inr rfl | exact Or.inl rfl | exact Or.inr (congrArg Value.int (nI_succ _)) | refine ⟨?_, ?_⟩)) ih)
theorem c_S_pipesLaid_3 {z : dz} {M : am_M} {K : am_Q} (hM : M 4 = zp z) (hz : zpk z) (h : K (.inl (some (.int (nI (zpt z 5))))) M) : am_C mt_S_pipesLaid [.ref 3] M K := by
  obtain ⟨m, h1, h2⟩ := hz
  have ht := zpq_two h1 h2
  refine am_C_of_R am_S0 om_S_pipesLaid rfl [.ref 3, .null, .null] rfl rfl (g_S_pipesLaid_0 ?_)
  refine am_R_le (xs := [.ref 3, .int (nI (zpq m 0)), .int (nI 0)]) (by repeat' (first | exact trivial | exact Or.inr rfl | exact Or.inl rfl | exact Or.inr (congrArg Value.int (nI_succ _)) | refine ⟨?_, ?_⟩)) ?_
  have hle : ∀ v, v ≤ 5 → zpq m v ≤ 5 * v := by
    intro v
    induction v with
    | zero => intro _; exact Nat.le_refl _
    | succ v ih =>
      intro hv
      have := ih (by omega)
      have := popc_le (m v)
      show zpq m v + popc (m v) ≤ _
      omega
  refine lu (P := fun i => am_R am_S0 mt_S_pipesLaid 1 4 [.ref 3, .int (nI (zpq m i)), .int (nI i)] [] M K) 5 ?_ ?_
  · refine g_S_pipesLaid_4 ⟨fun c => g_S_pipesLaid_29 ⟨nI2_ne, ?_⟩, fun c => absurd (i_le (Nat.le_refl 5) (by decide)) c⟩
    have := hle 5 (Nat.le_refl _)
    have e : nI (zpq m 5) / nI 2 = nI (zpt z 5) := by
      refine ti_ext ?_
      rw [ti_div (by rw [nI_toInt (by omega)]; omega) (by rw [nI_toInt (by omega)]; omega), nI_toInt (by omega), nI_toInt (by omega), nI_toInt (by omega)]
      omega
    rw [← e] at h
    exact h
  · intro i hi ih
    have es : zpq m (i + 1) = zpq m i + popc (m i) := rfl
    rw [es, ← nI_add] at ih
    have e : M 4 (5 + i) = nI (m i) := by rw [hM]; unfold zp; rw [pz_p hi]; exact (h1 i hi).1
    refine g_S_pipesLaid_4 ⟨fun c => absurd c (i_nge hi (by decide)), fun c => ⟨5 + i, ix2 5 i, by show _ < 105; omega, ?_⟩⟩
    show am_C mt_J_bitCount [.int (M 4 (5 + i))] _ _
    rw [e]
    exact c_J_bitCount (h1 i hi).2.1 (am_R_le (by repeat' (first | exact trivial | exact Or.inr rfl | exact Or.inl rfl | exact Or.inr (congrArg Value.int (nI_succ _)) | refine ⟨?_, ?_⟩)) ih)
theorem c_S_pipesLaid_6 {z : dz} {M : am_M} {K : am_Q} (hM : M 7 = zp z) (hz : zpk z) (h : K (.inl (some (.int (nI (zpt z 5))))) M) : am_C mt_S_pipesLaid [.ref 6] M K := by
  obtain ⟨m, h1, h2⟩ := hz
  have ht := zpq_two h1 h2
  refine am_C_of_R am_S0 om_S_pipesLaid rfl [.ref 6, .null, .null] rfl rfl (g_S_pipesLaid_0 ?_)
  refine am_R_le (xs := [.ref 6, .int (nI (zpq m 0)), .int (nI 0)]) (by repeat' (first | exact trivial | exact Or.inr rfl | exact Or.inl rfl | exact Or.inr (congrArg Value.int (nI_succ _)) | refine ⟨?_, ?_⟩)) ?_
  have hle : ∀ v, v ≤ 5 → zpq m v ≤ 5 * v := by
    intro v
    induction v with
    | zero => intro _; exact Nat.le_refl _
    | succ v ih =>
      intro hv
      have := ih (by omega)
      have := popc_le (m v)
      show zpq m v + popc (m v) ≤ _
      omega
  refine lu (P := fun i => am_R am_S0 mt_S_pipesLaid 1 4 [.ref 6, .int (nI (zpq m i)), .int (nI i)] [] M K) 5 ?_ ?_
  · refine g_S_pipesLaid_4 ⟨fun c => g_S_pipesLaid_29 ⟨nI2_ne, ?_⟩, fun c => absurd (i_le (Nat.le_refl 5) (by decide)) c⟩
    have := hle 5 (Nat.le_refl _)
    have e : nI (zpq m 5) / nI 2 = nI (zpt z 5) := by
      refine ti_ext ?_
      rw [ti_div (by rw [nI_toInt (by omega)]; omega) (by rw [nI_toInt (by omega)]; omega), nI_toInt (by omega), nI_toInt (by omega), nI_toInt (by omega)]
      omega
    rw [← e] at h
    exact h
  · intro i hi ih
    have es : zpq m (i + 1) = zpq m i + popc (m i) := rfl
    rw [es, ← nI_add] at ih
    have e : M 7 (5 + i) = nI (m i) := by rw [hM]; unfold zp; rw [pz_p hi]; exact (h1 i hi).1
    refine g_S_pipesLaid_4 ⟨fun c => absurd c (i_nge hi (by decide)), fun c => ⟨5 + i, ix2 5 i, by show _ < 105; omega, ?_⟩⟩
    show am_C mt_J_bitCount [.int (M 7 (5 + i))] _ _
    rw [e]
    exact c_J_bitCount (h1 i hi).2.1 (am_R_le (by repeat' (first | exact trivial | exact Or.inr rfl | exact Or.inl rfl | exact Or.inr (congrArg Value.int (nI_succ _)) | refine ⟨?_, ?_⟩)) ih)
-- a dye's numbers
def zdn (d k : Nat) (z : dz) : Int32 := if k = 0 then z (11 + d) else if k = 1 then zin (2 + d) z else if k = 2 then zin (5 + d) z else if k = 3 then z (14 + d) else nI (zbs d z 5) - nI 1
theorem c_S_dyeProperty_1 {d k : Nat} {z : dz} {M : am_M} {K : am_Q} (hM : M 2 = zp z) (hd : d < 3) (hk : k ≤ 4) (h : K (.inl (some (.int (zdn d k z)))) M) : am_C mt_S_dyeProperty [.ref 1, .int (nI d), .int (nI k)] M K := by
  refine am_C_of_R am_S0 om_S_dyeProperty rfl [.ref 1, .int (nI d), .int (nI k)] rfl rfl (g_S_dyeProperty_0 ⟨fun c => absurd c (nI_pos (by omega)), fun c => ⟨fun c2 => g_S_dyeProperty_11 ?_, fun c2 => absurd ((nI_lti (by omega) (by decide)).mpr hd) c2⟩⟩)
  refine ⟨fun c => ?_, fun c => ?_, fun c => ?_, fun c => ?_, fun c => ?_, trivial⟩
  · have e : k = 4 := by rw [nI_toInt (by omega)] at c; omega
    subst e
    exact g_S_dyeProperty_82 (c_S_strongestVat_1 hM hd h)
  · have e : k = 0 := by have := sw_eq (by omega) c; omega
    subst e
    have e2 : M 2 (45 + d) = z (11 + d) := by rw [hM]; unfold zp; rw [pz_i hd]
    have h' : K (.inl (some (.int (z (11 + d))))) M := h
    rw [← e2] at h'
    exact g_S_dyeProperty_44 ⟨45 + d, ix2 45 d, by show _ < 105; omega, h'⟩
  · have e : k = 1 := by have := sw_eq (by omega) c; omega
    subst e
    refine g_S_dyeProperty_54 ?_
    show am_C mt_S_grainsInAll [.ref 1, .int (nI 15 + nI d)] _ _
    rw [ix2]
    exact c_S_grainsInAll_1 (b := 2 + d) hM (by omega) (fun v hv => by rw [show 15 + d + v * 3 = 15 + v * 3 + d by omega, pz_d hv hd]; omega) h
  · have e : k = 2 := by have := sw_eq (by omega) c; omega
    subst e
    refine g_S_dyeProperty_63 ?_
    show am_C mt_S_grainsInAll [.ref 1, .int (nI 30 + nI d)] _ _
    rw [ix2]
    exact c_S_grainsInAll_1 (b := 5 + d) hM (by omega) (fun v hv => by rw [show 30 + d + v * 3 = 30 + v * 3 + d by omega, pz_s hv hd]; omega) h
  · have e : k = 3 := by have := sw_eq (by omega) c; omega
    subst e
    have e2 : M 2 (48 + d) = z (14 + d) := by rw [hM]; unfold zp; rw [pz_o hd]
    have h' : K (.inl (some (.int (z (14 + d))))) M := h
    rw [← e2] at h'
    exact g_S_dyeProperty_72 ⟨48 + d, ix2 48 d, by show _ < 105; omega, h'⟩
theorem c_S_dyeProperty_3 {d k : Nat} {z : dz} {M : am_M} {K : am_Q} (hM : M 4 = zp z) (hd : d < 3) (hk : k ≤ 4) (h : K (.inl (some (.int (zdn d k z)))) M) : am_C mt_S_dyeProperty [.ref 3, .int (nI d), .int (nI k)] M K := by
  refine am_C_of_R am_S0 om_S_dyeProperty rfl [.ref 3, .int (nI d), .int (nI k)] rfl rfl (g_S_dyeProperty_0 ⟨fun c => absurd c (nI_pos (by omega)), fun c => ⟨fun c2 => g_S_dyeProperty_11 ?_, fun c2 => absurd ((nI_lti (by omega) (by decide)).mpr hd) c2⟩⟩)
  refine ⟨fun c => ?_, fun c => ?_, fun c => ?_, fun c => ?_, fun c => ?_, trivial⟩
  · have e : k = 4 := by rw [nI_toInt (by omega)] at c; omega
    subst e
    exact g_S_dyeProperty_82 (c_S_strongestVat_3 hM hd h)
  · have e : k = 0 := by have := sw_eq (by omega) c; omega
    subst e
    have e2 : M 4 (45 + d) = z (11 + d) := by rw [hM]; unfold zp; rw [pz_i hd]
    have h' : K (.inl (some (.int (z (11 + d))))) M := h
    rw [← e2] at h'
    exact g_S_dyeProperty_44 ⟨45 + d, ix2 45 d, by show _ < 105; omega, h'⟩
  · have e : k = 1 := by have := sw_eq (by omega) c; omega
    subst e
    refine g_S_dyeProperty_54 ?_
    show am_C mt_S_grainsInAll [.ref 3, .int (nI 15 + nI d)] _ _
    rw [ix2]
    exact c_S_grainsInAll_3 (b := 2 + d) hM (by omega) (fun v hv => by rw [show 15 + d + v * 3 = 15 + v * 3 + d by omega, pz_d hv hd]; omega) h
  · have e : k = 2 := by have := sw_eq (by omega) c; omega
    subst e
    refine g_S_dyeProperty_63 ?_
    show am_C mt_S_grainsInAll [.ref 3, .int (nI 30 + nI d)] _ _
    rw [ix2]
    exact c_S_grainsInAll_3 (b := 5 + d) hM (by omega) (fun v hv => by rw [show 30 + d + v * 3 = 30 + v * 3 + d by omega, pz_s hv hd]; omega) h
  · have e : k = 3 := by have := sw_eq (by omega) c; omega
    subst e
    have e2 : M 4 (48 + d) = z (14 + d) := by rw [hM]; unfold zp; rw [pz_o hd]
    have h' : K (.inl (some (.int (z (14 + d))))) M := h
    rw [← e2] at h'
    exact g_S_dyeProperty_72 ⟨48 + d, ix2 48 d, by show _ < 105; omega, h'⟩
theorem c_S_dyeProperty_6 {d k : Nat} {z : dz} {M : am_M} {K : am_Q} (hM : M 7 = zp z) (hd : d < 3) (hk : k ≤ 4) (h : K (.inl (some (.int (zdn d k z)))) M) : am_C mt_S_dyeProperty [.ref 6, .int (nI d), .int (nI k)] M K := by
  refine am_C_of_R am_S0 om_S_dyeProperty rfl [.ref 6, .int (nI d), .int (nI k)] rfl rfl (g_S_dyeProperty_0 ⟨fun c => absurd c (nI_pos (by omega)), fun c => ⟨fun c2 => g_S_dyeProperty_11 ?_, fun c2 => absurd ((nI_lti (by omega) (by decide)).mpr hd) c2⟩⟩)
  refine ⟨fun c => ?_, fun c => ?_, fun c => ?_, fun c => ?_, fun c => ?_, trivial⟩
  · have e : k = 4 := by rw [nI_toInt (by omega)] at c; omega
    subst e
    exact g_S_dyeProperty_82 (c_S_strongestVat_6 hM hd h)
  · have e : k = 0 := by have := sw_eq (by omega) c; omega
    subst e
    have e2 : M 7 (45 + d) = z (11 + d) := by rw [hM]; unfold zp; rw [pz_i hd]
    have h' : K (.inl (some (.int (z (11 + d))))) M := h
    rw [← e2] at h'
    exact g_S_dyeProperty_44 ⟨45 + d, ix2 45 d, by show _ < 105; omega, h'⟩
  · have e : k = 1 := by have := sw_eq (by omega) c; omega
    subst e
    refine g_S_dyeProperty_54 ?_
    show am_C mt_S_grainsInAll [.ref 6, .int (nI 15 + nI d)] _ _
    rw [ix2]
    exact c_S_grainsInAll_6 (b := 2 + d) hM (by omega) (fun v hv => by rw [show 15 + d + v * 3 = 15 + v * 3 + d by omega, pz_d hv hd]; omega) h
  · have e : k = 2 := by have := sw_eq (by omega) c; omega
    subst e
    refine g_S_dyeProperty_63 ?_
    show am_C mt_S_grainsInAll [.ref 6, .int (nI 30 + nI d)] _ _
    rw [ix2]
    exact c_S_grainsInAll_6 (b := 5 + d) hM (by omega) (fun v hv => by rw [show 30 + d + v * 3 = 30 + v * 3 + d by omega, pz_s hv hd]; omega) h
  · have e : k = 3 := by have := sw_eq (by omega) c; omega
    subst e
    have e2 : M 7 (48 + d) = z (14 + d) := by rw [hM]; unfold zp; rw [pz_o hd]
    have h' : K (.inl (some (.int (z (14 + d))))) M := h
    rw [← e2] at h'
    exact g_S_dyeProperty_72 ⟨48 + d, ix2 48 d, by show _ < 105; omega, h'⟩
def m_dyeOf (p q : Int32) (w : wS) : mS := if isd p then (if isr q 0 4 then (0, zdn (zn p) (zn q) (w_z w), w) else (2, nI 0, w)) else (1, nI 0, w)
theorem c_V_dyeOf {p q : Int32} {w : wS} {M : am_M} {K : am_Q} (hr : vr M w) (h : ∀ M', vr M' (m_dyeOf p q w).2.2 → vf M M' → K (oV 0 (m_dyeOf p q w).1 (m_dyeOf p q w).2.1) M') : am_C mt_V_dyeOf [.ref 0, .int p, .int q] M K := by
  unfold m_dyeOf at h
  refine am_C_of_R am_S0 om_V_dyeOf rfl [.ref 0, .int p, .int q] rfl rfl (g_V_dyeOf_0 (c_V_requireDye (fun hv => c_V_requireRange (fun hq => ?_) (fun hq => ?_)) (fun hv => ?_)))
  · have hq' : isr q 0 4 := hq
    rw [if_pos hv, if_pos hq'] at h
    obtain ⟨v, -, hv4, rfl⟩ := isr_nat (a := 0) (b := 2) hv (by decide) (by decide)
    obtain ⟨k, -, hk9, rfl⟩ := isr_nat hq' (by decide) (by decide)
    rw [zn_nI (show v < 2 ^ 31 by omega), zn_nI (show k < 2 ^ 31 by omega)] at h
    exact c_S_dyeProperty_1 hr.1 (by omega) hk9 (h M hr (vf_refl M))
  · have hq' : ¬ isr q 0 4 := hq
    rw [if_pos hv, if_neg hq'] at h
    exact h M hr (vf_refl M)
  · rw [if_neg hv] at h
    exact h M hr (vf_refl M)
noncomputable def zcn (k : Nat) (w : wS) : Int32 := if k = 0 then zhod (w_z w) else if k = 1 then w_z w 0 else if k = 2 then w_z w 5 else if k = 3 then nI (zpt (w_z w) 5) else if k = 4 then zin 1 (w_z w) else if k = 5 then w_z w 2 else if k = 6 then w_z w 3 else if k = 7 then w_z w 4 else if k = 8 then w_z w 1 else nI (w_s w)
theorem c_V_numberOf {n k : Nat} {w : wS} {M : am_M} {K : am_Q} (hr : vr M w) (hw : wk n w) (hk : k ≤ 9) (h : K (.inl (some (.int (zcn k w)))) M) : am_C mt_V_numberOf [.ref 0, .int (nI k)] M K := by
  have ez : M 2 = zp (w_z w) := hr.1
  have el : ∀ i, M 2 i = w_z w (pz i) := fun i => by rw [ez]; rfl
  refine am_C_of_R am_S0 om_V_numberOf rfl [.ref 0, .int (nI k)] rfl rfl (g_V_numberOf_0 ⟨fun c => ?_, fun c => ?_, fun c => ?_, fun c => ?_, fun c => ?_, fun c => ?_, fun c => ?_, fun c => ?_, fun c => ?_, fun c => ?_, trivial⟩)
  · have e : k = 9 := by rw [nI_toInt (by omega)] at c; omega
    subst e
    have h' : K (.inl (some (.int (nI (w_s w))))) M := h
    rw [← hr.2.1.1] at h'
    exact g_V_numberOf_142 h'
  · have e : k = 0 := by have := sw_eq (by omega) c; omega
    subst e
    exact g_V_numberOf_52 (c_S_hourOfDay_1 ez h)
  · have e : k = 1 := by have := sw_eq (by omega) c; omega
    subst e
    have h' : K (.inl (some (.int (w_z w (pz 52))))) M := h
    rw [← el 52] at h'
    exact g_V_numberOf_60 ⟨52, rfl, by decide, h'⟩
  · have e : k = 2 := by have := sw_eq (by omega) c; omega
    subst e
    have h' : K (.inl (some (.int (w_z w (pz 56))))) M := h
    rw [← el 56] at h'
    exact g_V_numberOf_71 ⟨56, rfl, by decide, h'⟩
  · have e : k = 3 := by have := sw_eq (by omega) c; omega
    subst e
    exact g_V_numberOf_82 (c_S_pipesLaid_1 ez hw.1.2.2.2 h)
  · have e : k = 4 := by have := sw_eq (by omega) c; omega
    subst e
    exact g_V_numberOf_90 (c_S_waterInAll_1 ez h)
  · have e : k = 5 := by have := sw_eq (by omega) c; omega
    subst e
    have h' : K (.inl (some (.int (w_z w (pz 54))))) M := h
    rw [← el 54] at h'
    exact g_V_numberOf_98 ⟨54, rfl, by decide, h'⟩
  · have e : k = 6 := by have := sw_eq (by omega) c; omega
    subst e
    have h' : K (.inl (some (.int (w_z w (pz 53))))) M := h
    rw [← el 53] at h'
    exact g_V_numberOf_109 ⟨53, rfl, by decide, h'⟩
  · have e : k = 7 := by have := sw_eq (by omega) c; omega
    subst e
    have h' : K (.inl (some (.int (w_z w (pz 55))))) M := h
    rw [← el 55] at h'
    exact g_V_numberOf_120 ⟨55, rfl, by decide, h'⟩
  · have e : k = 8 := by have := sw_eq (by omega) c; omega
    subst e
    have h' : K (.inl (some (.int (w_z w (pz 51))))) M := h
    rw [← el 51] at h'
    exact g_V_numberOf_131 ⟨51, rfl, by decide, h'⟩
noncomputable def m_count (p : Int32) (w : wS) : mS := if isr p 0 9 then (0, zcn (zn p) w, w) else (1, nI 0, w)
theorem c_V_count {n : Nat} {p : Int32} {w : wS} {M : am_M} {K : am_Q} (hr : vr M w) (hk : wk n w) (h : ∀ M', vr M' (m_count p w).2.2 → vf M M' → K (oV 1 (m_count p w).1 (m_count p w).2.1) M') : am_C mt_V_count [.ref 0, .int p] M K := by
  unfold m_count at h
  refine am_C_of_R am_S0 om_V_count rfl [.ref 0, .int p] rfl rfl (g_V_count_0 (c_V_requireRange (fun hq => ?_) (fun hq => ?_)))
  · have hq' : isr p 0 9 := hq
    rw [if_pos hq'] at h
    obtain ⟨k, -, hk9, rfl⟩ := isr_nat hq' (by decide) (by decide)
    rw [zn_nI (show k < 2 ^ 31 by omega)] at h
    exact c_V_numberOf hr hk hk9 (h M hr (vf_refl M))
  · have hq' : ¬ isr p 0 9 := hq
    rw [if_neg hq'] at h
    exact h M hr (vf_refl M)
