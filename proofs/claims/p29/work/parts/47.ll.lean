/-! looks: dyeOf, count -/
def zsum (f : Nat → Int32) : Nat → Int32
  | 0 => nI 0
  | k + 1 => zsum f k + f k
theorem zsum_eq {f g : Nat → Int32} {n : Nat} (h : ∀ k, k < n → f k = g k) : ∀ k, k ≤ n → zsum f k = zsum g k
  | 0, _ => rfl
  | k + 1, hk => by
    show zsum f k + f k = zsum g k + g k
    rw [zsum_eq h k (by omega), h k (by omega)]
def zin (a : Nat) (z : dz) : Int32 := zsum (fun v => z (17 + 8 * v + a)) 5
theorem c_S_grainsInAll_1 {a b : Nat} {z : dz} {M : am_M} {K : am_Q} (hM : M 2 = zp z) (ha : a ≤ 32) (hab : ∀ v, v < 5 → pz (a + v * 3) = 17 + 8 * v + b) (h : K (.inl (some (.int (zin b z)))) M) : am_C mt_S_grainsInAll [.ref 1, .int (nI a)] M K := by
  refine am_C_of_R am_S0 om_S_grainsInAll rfl [.ref 1, .int (nI a), .null, .null, .null] rfl rfl (g_S_grainsInAll_0 ?_)
  refine am_R_le (xs := [.ref 1, .int (nI a), .int (zsum (fun v => z (17 + 8 * v + b)) 0), .int (nI 0), .null]) (by repeat' (first | exact trivial | exact Or.inr rfl | exact Or.inl rfl | exact Or.inr (congrArg Value.int (nI_succ _)) | refine ⟨?_, ?_⟩)) ?_
  refine lu (P := fun i => am_R am_S0 mt_S_grainsInAll 1 4 [.ref 1, .int (nI a), .int (zsum (fun v => z (17 + 8 * v + b)) i), .int (nI i), .null] [] M K) 5 ?_ ?_
  · exact g_S_grainsInAll_4 ⟨fun c => g_S_grainsInAll_44 h, fun c => absurd (i_le (Nat.le_refl 5) (by decide)) c⟩
  · intro i hi ih
    have ei : nI a + nI i * nI 3 = nI (a + i * 3) := ix3' a 3 i
    have e : z (17 + 8 * i + b) = M 2 (a + i * 3) := by rw [hM]; unfold zp; rw [hab i hi]
    have es : zsum (fun v => z (17 + 8 * v + b)) (i + 1) = zsum (fun v => z (17 + 8 * v + b)) i + z (17 + 8 * i + b) := rfl
    rw [es, e] at ih
    refine g_S_grainsInAll_4 ⟨fun c => absurd c (i_nge hi (by decide)), fun c => ⟨fun c2 => absurd ?_ (nI_pos (show a + i * 3 < 2 ^ 31 by omega)), fun c2 => ⟨fun c3 => absurd ?_ (i_nge (show a + i * 3 < 105 by omega) (by decide)), fun c3 => ⟨a + i * 3, ei, by show _ < 105; omega, g_S_grainsInAll_38 (am_R_le (by repeat' (first | exact trivial | exact Or.inr rfl | exact Or.inl rfl | exact Or.inr (congrArg Value.int (nI_succ _)) | refine ⟨?_, ?_⟩)) ih)⟩⟩⟩⟩
    · have c4 : nI a + nI i * nI 3 < 0 := c2
      rw [ei] at c4
      exact c4
    · have c4 : nI 105 ≤ nI a + nI i * nI 3 := c3
      rw [ei] at c4
      exact c4
theorem c_S_waterInAll_1 {z : dz} {M : am_M} {K : am_Q} (hM : M 2 = zp z) (h : K (.inl (some (.int (zin 1 z)))) M) : am_C mt_S_waterInAll [.ref 1] M K := by
  refine am_C_of_R am_S0 om_S_waterInAll rfl [.ref 1, .null, .null] rfl rfl (g_S_waterInAll_0 ?_)
  refine am_R_le (xs := [.ref 1, .int (zsum (fun v => z (17 + 8 * v + 1)) 0), .int (nI 0)]) (by repeat' (first | exact trivial | exact Or.inr rfl | exact Or.inl rfl | exact Or.inr (congrArg Value.int (nI_succ _)) | refine ⟨?_, ?_⟩)) ?_
  refine lu (P := fun i => am_R am_S0 mt_S_waterInAll 1 4 [.ref 1, .int (zsum (fun v => z (17 + 8 * v + 1)) i), .int (nI i)] [] M K) 5 ?_ ?_
  · exact g_S_waterInAll_4 ⟨fun c => g_S_waterInAll_27 h, fun c => absurd (i_le (Nat.le_refl 5) (by decide)) c⟩
  · intro i hi ih
    have e : z (17 + 8 * i + 1) = M 2 (10 + i) := by rw [hM]; unfold zp; rw [pz_w hi]; congr 1; omega
    have es : zsum (fun v => z (17 + 8 * v + 1)) (i + 1) = zsum (fun v => z (17 + 8 * v + 1)) i + z (17 + 8 * i + 1) := rfl
    rw [es, e] at ih
    exact g_S_waterInAll_4 ⟨fun c => absurd c (i_nge hi (by decide)), fun c => ⟨10 + i, ix2 10 i, by show _ < 105; omega, am_R_le (by repeat' (first | exact trivial | exact Or.inr rfl | exact Or.inl rfl | exact Or.inr (congrArg Value.int (nI_succ _)) | refine ⟨?_, ?_⟩)) ih⟩⟩
theorem c_S_grainsInAll_3 {a b : Nat} {z : dz} {M : am_M} {K : am_Q} (hM : M 4 = zp z) (ha : a ≤ 32) (hab : ∀ v, v < 5 → pz (a + v * 3) = 17 + 8 * v + b) (h : K (.inl (some (.int (zin b z)))) M) : am_C mt_S_grainsInAll [.ref 3, .int (nI a)] M K := by
  refine am_C_of_R am_S0 om_S_grainsInAll rfl [.ref 3, .int (nI a), .null, .null, .null] rfl rfl (g_S_grainsInAll_0 ?_)
  refine am_R_le (xs := [.ref 3, .int (nI a), .int (zsum (fun v => z (17 + 8 * v + b)) 0), .int (nI 0), .null]) (by repeat' (first | exact trivial | exact Or.inr rfl | exact Or.inl rfl | exact Or.inr (congrArg Value.int (nI_succ _)) | refine ⟨?_, ?_⟩)) ?_
  refine lu (P := fun i => am_R am_S0 mt_S_grainsInAll 1 4 [.ref 3, .int (nI a), .int (zsum (fun v => z (17 + 8 * v + b)) i), .int (nI i), .null] [] M K) 5 ?_ ?_
  · exact g_S_grainsInAll_4 ⟨fun c => g_S_grainsInAll_44 h, fun c => absurd (i_le (Nat.le_refl 5) (by decide)) c⟩
  · intro i hi ih
    have ei : nI a + nI i * nI 3 = nI (a + i * 3) := ix3' a 3 i
    have e : z (17 + 8 * i + b) = M 4 (a + i * 3) := by rw [hM]; unfold zp; rw [hab i hi]
    have es : zsum (fun v => z (17 + 8 * v + b)) (i + 1) = zsum (fun v => z (17 + 8 * v + b)) i + z (17 + 8 * i + b) := rfl
    rw [es, e] at ih
    refine g_S_grainsInAll_4 ⟨fun c => absurd c (i_nge hi (by decide)), fun c => ⟨fun c2 => absurd ?_ (nI_pos (show a + i * 3 < 2 ^ 31 by omega)), fun c2 => ⟨fun c3 => absurd ?_ (i_nge (show a + i * 3 < 105 by omega) (by decide)), fun c3 => ⟨a + i * 3, ei, by show _ < 105; omega, g_S_grainsInAll_38 (am_R_le (by repeat' (first | exact trivial | exact Or.inr rfl | exact Or.inl rfl | exact Or.inr (congrArg Value.int (nI_succ _)) | refine ⟨?_, ?_⟩)) ih)⟩⟩⟩⟩
    · have c4 : nI a + nI i * nI 3 < 0 := c2
      rw [ei] at c4
      exact c4
    · have c4 : nI 105 ≤ nI a + nI i * nI 3 := c3
      rw [ei] at c4
      exact c4
theorem c_S_waterInAll_3 {z : dz} {M : am_M} {K : am_Q} (hM : M 4 = zp z) (h : K (.inl (some (.int (zin 1 z)))) M) : am_C mt_S_waterInAll [.ref 3] M K := by
  refine am_C_of_R am_S0 om_S_waterInAll rfl [.ref 3, .null, .null] rfl rfl (g_S_waterInAll_0 ?_)
  refine am_R_le (xs := [.ref 3, .int (zsum (fun v => z (17 + 8 * v + 1)) 0), .int (nI 0)]) (by repeat' (first | exact trivial | exact Or.inr rfl | exact Or.inl rfl | exact Or.inr (congrArg Value.int (nI_succ _)) | refine ⟨?_, ?_⟩)) ?_
  refine lu (P := fun i => am_R am_S0 mt_S_waterInAll 1 4 [.ref 3, .int (zsum (fun v => z (17 + 8 * v + 1)) i), .int (nI i)] [] M K) 5 ?_ ?_
  · exact g_S_waterInAll_4 ⟨fun c => g_S_waterInAll_27 h, fun c => absurd (i_le (Nat.le_refl 5) (by decide)) c⟩
  · intro i hi ih
    have e : z (17 + 8 * i + 1) = M 4 (10 + i) := by rw [hM]; unfold zp; rw [pz_w hi]; congr 1; omega
    have es : zsum (fun v => z (17 + 8 * v + 1)) (i + 1) = zsum (fun v => z (17 + 8 * v + 1)) i + z (17 + 8 * i + 1) := rfl
    rw [es, e] at ih
    exact g_S_waterInAll_4 ⟨fun c => absurd c (i_nge hi (by decide)), fun c => ⟨10 + i, ix2 10 i, by show _ < 105; omega, am_R_le (by repeat' (first | exact trivial | exact Or.inr rfl | exact Or.inl rfl | exact Or.inr (congrArg Value.int (nI_succ _)) | refine ⟨?_, ?_⟩)) ih⟩⟩
theorem c_S_grainsInAll_6 {a b : Nat} {z : dz} {M : am_M} {K : am_Q} (hM : M 7 = zp z) (ha : a ≤ 32) (hab : ∀ v, v < 5 → pz (a + v * 3) = 17 + 8 * v + b) (h : K (.inl (some (.int (zin b z)))) M) : am_C mt_S_grainsInAll [.ref 6, .int (nI a)] M K := by
  refine am_C_of_R am_S0 om_S_grainsInAll rfl [.ref 6, .int (nI a), .null, .null, .null] rfl rfl (g_S_grainsInAll_0 ?_)
  refine am_R_le (xs := [.ref 6, .int (nI a), .int (zsum (fun v => z (17 + 8 * v + b)) 0), .int (nI 0), .null]) (by repeat' (first | exact trivial | exact Or.inr rfl | exact Or.inl rfl | exact Or.inr (congrArg Value.int (nI_succ _)) | refine ⟨?_, ?_⟩)) ?_
  refine lu (P := fun i => am_R am_S0 mt_S_grainsInAll 1 4 [.ref 6, .int (nI a), .int (zsum (fun v => z (17 + 8 * v + b)) i), .int (nI i), .null] [] M K) 5 ?_ ?_
  · exact g_S_grainsInAll_4 ⟨fun c => g_S_grainsInAll_44 h, fun c => absurd (i_le (Nat.le_refl 5) (by decide)) c⟩
  · intro i hi ih
    have ei : nI a + nI i * nI 3 = nI (a + i * 3) := ix3' a 3 i
    have e : z (17 + 8 * i + b) = M 7 (a + i * 3) := by rw [hM]; unfold zp; rw [hab i hi]
    have es : zsum (fun v => z (17 + 8 * v + b)) (i + 1) = zsum (fun v => z (17 + 8 * v + b)) i + z (17 + 8 * i + b) := rfl
    rw [es, e] at ih
    refine g_S_grainsInAll_4 ⟨fun c => absurd c (i_nge hi (by decide)), fun c => ⟨fun c2 => absurd ?_ (nI_pos (show a + i * 3 < 2 ^ 31 by omega)), fun c2 => ⟨fun c3 => absurd ?_ (i_nge (show a + i * 3 < 105 by omega) (by decide)), fun c3 => ⟨a + i * 3, ei, by show _ < 105; omega, g_S_grainsInAll_38 (am_R_le (by repeat' (first | exact trivial | exact Or.inr rfl | exact Or.inl rfl | exact Or.inr (congrArg Value.int (nI_succ _)) | refine ⟨?_, ?_⟩)) ih)⟩⟩⟩⟩
    · have c4 : nI a + nI i * nI 3 < 0 := c2
      rw [ei] at c4
      exact c4
    · have c4 : nI 105 ≤ nI a + nI i * nI 3 := c3
      rw [ei] at c4
      exact c4
theorem c_S_waterInAll_6 {z : dz} {M : am_M} {K : am_Q} (hM : M 7 = zp z) (h : K (.inl (some (.int (zin 1 z)))) M) : am_C mt_S_waterInAll [.ref 6] M K := by
  refine am_C_of_R am_S0 om_S_waterInAll rfl [.ref 6, .null, .null] rfl rfl (g_S_waterInAll_0 ?_)
  refine am_R_le (xs := [.ref 6, .int (zsum (fun v => z (17 + 8 * v + 1)) 0), .int (nI 0)]) (by repeat' (first | exact trivial | exact Or.inr rfl | exact Or.inl rfl | exact Or.inr (congrArg Value.int (nI_succ _)) | refine ⟨?_, ?_⟩)) ?_
  refine lu (P := fun i => am_R am_S0 mt_S_waterInAll 1 4 [.ref 6, .int (zsum (fun v => z (17 + 8 * v + 1)) i), .int (nI i)] [] M K) 5 ?_ ?_
  · exact g_S_waterInAll_4 ⟨fun c => g_S_waterInAll_27 h, fun c => absurd (i_le (Nat.le_refl 5) (by decide)) c⟩
  · intro i hi ih
    have e : z (17 + 8 * i + 1) = M 7 (10 + i) := by rw [hM]; unfold zp; rw [pz_w hi]; congr 1; omega
    have es : zsum (fun v => z (17 + 8 * v + 1)) (i + 1) = zsum (fun v => z (17 + 8 * v + 1)) i + z (17 + 8 * i + 1) := rfl
    rw [es, e] at ih
    exact g_S_waterInAll_4 ⟨fun c => absurd c (i_nge hi (by decide)), fun c => ⟨10 + i, ix2 10 i, by show _ < 105; omega, am_R_le (by repeat' (first | exact trivial | exact Or.inr rfl | exact Or.inl rfl | exact Or.inr (congrArg Value.int (nI_succ _)) | refine ⟨?_, ?_⟩)) ih⟩⟩
-- the strongest: 0 for none, else the vat's number and 1
def zbs (d : Nat) (z : dz) : Nat → Nat
  | 0 => 0
  | v + 1 => if 0 < z (18 + 8 * v) ∧ (zbs d z v = 0 ∨ z (19 + 8 * (zbs d z v - 1) + d) * z (18 + 8 * v) < z (19 + 8 * v + d) * z (18 + 8 * (zbs d z v - 1))) then v + 1 else zbs d z v
theorem zbs_le (d : Nat) (z : dz) : ∀ v, zbs d z v ≤ v
  | 0 => Nat.le_refl 0
  | v + 1 => by
    unfold zbs
    have := zbs_le d z v
    split <;> omega
theorem bs_neg {b : Nat} (hb : b ≤ 5) : nI b - nI 1 < 0 ↔ b = 0 := by
  have key : ∀ b, b ≤ 5 → (nI b - nI 1 < 0 ↔ b = 0) := by decide +kernel
  exact key b hb
theorem bs_pos {b : Nat} (hb : b ≠ 0) : nI b - nI 1 = nI (b - 1) := nI_sub1 (by omega)
theorem c_S_strongestVat_1 {d : Nat} {z : dz} {M : am_M} {K : am_Q} (hM : M 2 = zp z) (hd : d < 3) (h : K (.inl (some (.int (nI (zbs d z 5) - nI 1)))) M) : am_C mt_S_strongestVat [.ref 1, .int (nI d)] M K := by
  refine am_C_of_R am_S0 om_S_strongestVat rfl [.ref 1, .int (nI d), .null, .null, .null, .null, .null, .null] rfl rfl (g_S_strongestVat_0 ⟨fun c => absurd c (nI_pos (by omega)), fun c => ⟨fun c2 => g_S_strongestVat_11 ?_, fun c2 => absurd ((nI_lti (by omega) (by decide)).mpr hd) c2⟩⟩)
  have e0 : nI (zbs d z 0) - nI 1 = -nI 1 := (show nI 0 - nI 1 = -nI 1 by decide +kernel)
  refine am_R_le (xs := [.ref 1, .int (nI d), .int (-nI 1), .int (if zbs d z 0 = 0 then nI 0 else z (19 + 8 * (zbs d z 0 - 1) + d)), .int (if zbs d z 0 = 0 then nI 1 else z (18 + 8 * (zbs d z 0 - 1))), .int (nI 0), .null, .null]) (by repeat' (first | exact trivial | exact Or.inr rfl | exact Or.inl rfl | exact Or.inr (congrArg Value.int (nI_succ _)) | refine ⟨?_, ?_⟩)) ?_
  rw [← e0]
  refine lu (P := fun i => am_R am_S0 mt_S_strongestVat 1 21 [.ref 1, .int (nI d), .int (nI (zbs d z i) - nI 1), .int (if zbs d z i = 0 then nI 0 else z (19 + 8 * (zbs d z i - 1) + d)), .int (if zbs d z i = 0 then nI 1 else z (18 + 8 * (zbs d z i - 1))), .int (nI i), .null, .null] [] M K) 5 ?_ ?_
  · exact g_S_strongestVat_21 ⟨fun c => g_S_strongestVat_93 h, fun c => absurd (i_le (Nat.le_refl 5) (by decide)) c⟩
  · intro v hv ih
    have hb := zbs_le d z v
    have eb : zbs d z (v + 1) = if 0 < z (18 + 8 * v) ∧ (zbs d z v = 0 ∨ z (19 + 8 * (zbs d z v - 1) + d) * z (18 + 8 * v) < z (19 + 8 * v + d) * z (18 + 8 * (zbs d z v - 1))) then v + 1 else zbs d z v := rfl
    rw [eb] at ih
    generalize zbs d z v = b at hb ih ⊢
    have ew : M 2 (10 + v) = z (18 + 8 * v) := by rw [hM]; unfold zp; rw [pz_w hv]
    have eg : M 2 (15 + v * 3 + d) = z (19 + 8 * v + d) := by rw [hM]; unfold zp; rw [pz_d hv hd]
    have no : ∀ x y, ¬ (0 < z (18 + 8 * v) ∧ (b = 0 ∨ z (19 + 8 * (b - 1) + d) * z (18 + 8 * v) < z (19 + 8 * v + d) * z (18 + 8 * (b - 1)))) → am_R am_S0 mt_S_strongestVat 1 87 [.ref 1, .int (nI d), .int (nI b - nI 1), .int (if b = 0 then nI 0 else z (19 + 8 * (b - 1) + d)), .int (if b = 0 then nI 1 else z (18 + 8 * (b - 1))), .int (nI v), .int x, .int y] [] M K := by
      intro x y c
      rw [if_neg c] at ih
      exact g_S_strongestVat_87 (am_R_le (by repeat' (first | exact trivial | exact Or.inr rfl | exact Or.inl rfl | exact Or.inr (congrArg Value.int (nI_succ _)) | refine ⟨?_, ?_⟩)) ih)
    have yes : (0 < z (18 + 8 * v) ∧ (b = 0 ∨ z (19 + 8 * (b - 1) + d) * z (18 + 8 * v) < z (19 + 8 * v + d) * z (18 + 8 * (b - 1)))) → am_R am_S0 mt_S_strongestVat 1 77 [.ref 1, .int (nI d), .int (nI b - nI 1), .int (if b = 0 then nI 0 else z (19 + 8 * (b - 1) + d)), .int (if b = 0 then nI 1 else z (18 + 8 * (b - 1))), .int (nI v), .int (M 2 (10 + v)), .int (M 2 (15 + v * 3 + d))] [] M K := by
      intro c
      rw [if_pos c, nI_sub1 (by omega), if_neg (by omega), if_neg (by omega), Nat.add_sub_cancel, ← ew, ← eg] at ih
      exact g_S_strongestVat_77 (g_S_strongestVat_87 (am_R_le (by repeat' (first | exact trivial | exact Or.inr rfl | exact Or.inl rfl | exact Or.inr (congrArg Value.int (nI_succ _)) | refine ⟨?_, ?_⟩)) ih))
    refine g_S_strongestVat_21 ⟨fun c => absurd c (i_nge hv (by decide)), fun c => ⟨10 + v, ix2 10 v, by show _ < 105; omega, 15 + v * 3 + d, ix4' 15 3 v d, by show _ < 105; omega, fun c2 => no _ _ fun q => ?_, fun c2 => ⟨fun c3 => yes ⟨?_, Or.inl ?_⟩, fun c3 => ⟨fun c4 => no _ _ fun q => ?_, fun c4 => yes ⟨?_, ?_⟩⟩⟩⟩⟩
    · have c5 : M 2 (10 + v) ≤ 0 := c2
      rw [ew] at c5
      exact Int32.not_le.mpr q.1 c5
    · have c5 : ¬ M 2 (10 + v) ≤ 0 := c2
      rw [ew] at c5
      exact Int32.not_le.mp c5
    · have c5 : nI b - nI 1 = -nI 1 := c3
      exact (bs_neg (by omega)).mp (by rw [c5]; decide +kernel)
    · have hb0 : b ≠ 0 := fun q => c3 (show nI b - nI 1 = -nI 1 by rw [q]; decide +kernel)
      have c5 : M 2 (15 + v * 3 + d) * (if b = 0 then nI 1 else z (18 + 8 * (b - 1))) ≤ (if b = 0 then nI 0 else z (19 + 8 * (b - 1) + d)) * M 2 (10 + v) := c4
      rw [if_neg hb0, if_neg hb0, ew, eg] at c5
      rcases q.2 with q4 | q4
      · exact hb0 q4
      · exact Int32.not_le.mpr q4 c5
    · have c5 : ¬ M 2 (10 + v) ≤ 0 := c2
      rw [ew] at c5
      exact Int32.not_le.mp c5
    · have hb0 : b ≠ 0 := fun q => c3 (show nI b - nI 1 = -nI 1 by rw [q]; decide +kernel)
      have c5 : ¬ M 2 (15 + v * 3 + d) * (if b = 0 then nI 1 else z (18 + 8 * (b - 1))) ≤ (if b = 0 then nI 0 else z (19 + 8 * (b - 1) + d)) * M 2 (10 + v) := c4
      rw [if_neg hb0, if_neg hb0, ew, eg] at c5
      exact Or.inr (Int32.not_le.mp c5)
theorem c_S_strongestVat_3 {d : Nat} {z : dz} {M : am_M} {K : am_Q} (hM : M 4 = zp z) (hd : d < 3) (h : K (.inl (some (.int (nI (zbs d z 5) - nI 1)))) M) : am_C mt_S_strongestVat [.ref 3, .int (nI d)] M K := by
  refine am_C_of_R am_S0 om_S_strongestVat rfl [.ref 3, .int (nI d), .null, .null, .null, .null, .null, .null] rfl rfl (g_S_strongestVat_0 ⟨fun c => absurd c (nI_pos (by omega)), fun c => ⟨fun c2 => g_S_strongestVat_11 ?_, fun c2 => absurd ((nI_lti (by omega) (by decide)).mpr hd) c2⟩⟩)
  have e0 : nI (zbs d z 0) - nI 1 = -nI 1 := (show nI 0 - nI 1 = -nI 1 by decide +kernel)
  refine am_R_le (xs := [.ref 3, .int (nI d), .int (-nI 1), .int (if zbs d z 0 = 0 then nI 0 else z (19 + 8 * (zbs d z 0 - 1) + d)), .int (if zbs d z 0 = 0 then nI 1 else z (18 + 8 * (zbs d z 0 - 1))), .int (nI 0), .null, .null]) (by repeat' (first | exact trivial | exact Or.inr rfl | exact Or.inl rfl | exact Or.inr (congrArg Value.int (nI_succ _)) | refine ⟨?_, ?_⟩)) ?_
  rw [← e0]
  refine lu (P := fun i => am_R am_S0 mt_S_strongestVat 1 21 [.ref 3, .int (nI d), .int (nI (zbs d z i) - nI 1), .int (if zbs d z i = 0 then nI 0 else z (19 + 8 * (zbs d z i - 1) + d)), .int (if zbs d z i = 0 then nI 1 else z (18 + 8 * (zbs d z i - 1))), .int (nI i), .null, .null] [] M K) 5 ?_ ?_
  · exact g_S_strongestVat_21 ⟨fun c => g_S_strongestVat_93 h, fun c => absurd (i_le (Nat.le_refl 5) (by decide)) c⟩
  · intro v hv ih
    have hb := zbs_le d z v
    have eb : zbs d z (v + 1) = if 0 < z (18 + 8 * v) ∧ (zbs d z v = 0 ∨ z (19 + 8 * (zbs d z v - 1) + d) * z (18 + 8 * v) < z (19 + 8 * v + d) * z (18 + 8 * (zbs d z v - 1))) then v + 1 else zbs d z v := rfl
    rw [eb] at ih
    generalize zbs d z v = b at hb ih ⊢
    have ew : M 4 (10 + v) = z (18 + 8 * v) := by rw [hM]; unfold zp; rw [pz_w hv]
    have eg : M 4 (15 + v * 3 + d) = z (19 + 8 * v + d) := by rw [hM]; unfold zp; rw [pz_d hv hd]
    have no : ∀ x y, ¬ (0 < z (18 + 8 * v) ∧ (b = 0 ∨ z (19 + 8 * (b - 1) + d) * z (18 + 8 * v) < z (19 + 8 * v + d) * z (18 + 8 * (b - 1)))) → am_R am_S0 mt_S_strongestVat 1 87 [.ref 3, .int (nI d), .int (nI b - nI 1), .int (if b = 0 then nI 0 else z (19 + 8 * (b - 1) + d)), .int (if b = 0 then nI 1 else z (18 + 8 * (b - 1))), .int (nI v), .int x, .int y] [] M K := by
      intro x y c
      rw [if_neg c] at ih
      exact g_S_strongestVat_87 (am_R_le (by repeat' (first | exact trivial | exact Or.inr rfl | exact Or.inl rfl | exact Or.inr (congrArg Value.int (nI_succ _)) | refine ⟨?_, ?_⟩)) ih)
    have yes : (0 < z (18 + 8 * v) ∧ (b = 0 ∨ z (19 + 8 * (b - 1) + d) * z (18 + 8 * v) < z (19 + 8 * v + d) * z (18 + 8 * (b - 1)))) → am_R am_S0 mt_S_strongestVat 1 77 [.ref 3, .int (nI d), .int (nI b - nI 1), .int (if b = 0 then nI 0 else z (19 + 8 * (b - 1) + d)), .int (if b = 0 then nI 1 else z (18 + 8 * (b - 1))), .int (nI v), .int (M 4 (10 + v)), .int (M 4 (15 + v * 3 + d))] [] M K := by
      intro c
      rw [if_pos c, nI_sub1 (by omega), if_neg (by omega), if_neg (by omega), Nat.add_sub_cancel, ← ew, ← eg] at ih
      exact g_S_strongestVat_77 (g_S_strongestVat_87 (am_R_le (by repeat' (first | exact trivial | exact Or.inr rfl | exact Or.inl rfl | exact Or.inr (congrArg Value.int (nI_succ _)) | refine ⟨?_, ?_⟩)) ih))
    refine g_S_strongestVat_21 ⟨fun c => absurd c (i_nge hv (by decide)), fun c => ⟨10 + v, ix2 10 v, by show _ < 105; omega, 15 + v * 3 + d, ix4' 15 3 v d, by show _ < 105; omega, fun c2 => no _ _ fun q => ?_, fun c2 => ⟨fun c3 => yes ⟨?_, Or.inl ?_⟩, fun c3 => ⟨fun c4 => no _ _ fun q => ?_, fun c4 => yes ⟨?_, ?_⟩⟩⟩⟩⟩
    · have c5 : M 4 (10 + v) ≤ 0 := c2
      rw [ew] at c5
      exact Int32.not_le.mpr q.1 c5
    · have c5 : ¬ M 4 (10 + v) ≤ 0 := c2
      rw [ew] at c5
      exact Int32.not_le.mp c5
    · have c5 : nI b - nI 1 = -nI 1 := c3
      exact (bs_neg (by omega)).mp (by rw [c5]; decide +kernel)
    · have hb0 : b ≠ 0 := fun q => c3 (show nI b - nI 1 = -nI 1 by rw [q]; decide +kernel)
      have c5 : M 4 (15 + v * 3 + d) * (if b = 0 then nI 1 else z (18 + 8 * (b - 1))) ≤ (if b = 0 then nI 0 else z (19 + 8 * (b - 1) + d)) * M 4 (10 + v) := c4
      rw [if_neg hb0, if_neg hb0, ew, eg] at c5
      rcases q.2 with q4 | q4
      · exact hb0 q4
      · exact Int32.not_le.mpr q4 c5
    · have c5 : ¬ M 4 (10 + v) ≤ 0 := c2
      rw [ew] at c5
      exact Int32.not_le.mp c5
    · have hb0 : b ≠ 0 := fun q => c3 (show nI b - nI 1 = -nI 1 by rw [q]; decide +kernel)
      have c5 : ¬ M 4 (15 + v * 3 + d) * (if b = 0 then nI 1 else z (18 + 8 * (b - 1))) ≤ (if b = 0 then nI 0 else z (19 + 8 * (b - 1) + d)) * M 4 (10 + v) := c4
      rw [if_neg hb0, if_neg hb0, ew, eg] at c5
      exact Or.inr (Int32.not_le.mp c5)
theorem c_S_strongestVat_6 {d : Nat} {z : dz} {M : am_M} {K : am_Q} (hM : M 7 = zp z) (hd : d < 3) (h : K (.inl (some (.int (nI (zbs d z 5) - nI 1)))) M) : am_C mt_S_strongestVat [.ref 6, .int (nI d)] M K := by
  refine am_C_of_R am_S0 om_S_strongestVat rfl [.ref 6, .int (nI d), .null, .null, .null, .null, .null, .null] rfl rfl (g_S_strongestVat_0 ⟨fun c => absurd c (nI_pos (by omega)), fun c => ⟨fun c2 => g_S_strongestVat_11 ?_, fun c2 => absurd ((nI_lti (by omega) (by decide)).mpr hd) c2⟩⟩)
  have e0 : nI (zbs d z 0) - nI 1 = -nI 1 := (show nI 0 - nI 1 = -nI 1 by decide +kernel)
  refine am_R_le (xs := [.ref 6, .int (nI d), .int (-nI 1), .int (if zbs d z 0 = 0 then nI 0 else z (19 + 8 * (zbs d z 0 - 1) + d)), .int (if zbs d z 0 = 0 then nI 1 else z (18 + 8 * (zbs d z 0 - 1))), .int (nI 0), .null, .null]) (by repeat' (first | exact trivial | exact Or.inr rfl | exact Or.inl rfl | exact Or.inr (congrArg Value.int (nI_succ _)) | refine ⟨?_, ?_⟩)) ?_
  rw [← e0]
  refine lu (P := fun i => am_R am_S0 mt_S_strongestVat 1 21 [.ref 6, .int (nI d), .int (nI (zbs d z i) - nI 1), .int (if zbs d z i = 0 then nI 0 else z (19 + 8 * (zbs d z i - 1) + d)), .int (if zbs d z i = 0 then nI 1 else z (18 + 8 * (zbs d z i - 1))), .int (nI i), .null, .null] [] M K) 5 ?_ ?_
  · exact g_S_strongestVat_21 ⟨fun c => g_S_strongestVat_93 h, fun c => absurd (i_le (Nat.le_refl 5) (by decide)) c⟩
  · intro v hv ih
    have hb := zbs_le d z v
    have eb : zbs d z (v + 1) = if 0 < z (18 + 8 * v) ∧ (zbs d z v = 0 ∨ z (19 + 8 * (zbs d z v - 1) + d) * z (18 + 8 * v) < z (19 + 8 * v + d) * z (18 + 8 * (zbs d z v - 1))) then v + 1 else zbs d z v := rfl
    rw [eb] at ih
    generalize zbs d z v = b at hb ih ⊢
    have ew : M 7 (10 + v) = z (18 + 8 * v) := by rw [hM]; unfold zp; rw [pz_w hv]
    have eg : M 7 (15 + v * 3 + d) = z (19 + 8 * v + d) := by rw [hM]; unfold zp; rw [pz_d hv hd]
    have no : ∀ x y, ¬ (0 < z (18 + 8 * v) ∧ (b = 0 ∨ z (19 + 8 * (b - 1) + d) * z (18 + 8 * v) < z (19 + 8 * v + d) * z (18 + 8 * (b - 1)))) → am_R am_S0 mt_S_strongestVat 1 87 [.ref 6, .int (nI d), .int (nI b - nI 1), .int (if b = 0 then nI 0 else z (19 + 8 * (b - 1) + d)), .int (if b = 0 then nI 1 else z (18 + 8 * (b - 1))), .int (nI v), .int x, .int y] [] M K := by
      intro x y c
      rw [if_neg c] at ih
      exact g_S_strongestVat_87 (am_R_le (by repeat' (first | exact trivial | exact Or.inr rfl | exact Or.inl rfl | exact Or.inr (congrArg Value.int (nI_succ _)) | refine ⟨?_, ?_⟩)) ih)
    have yes : (0 < z (18 + 8 * v) ∧ (b = 0 ∨ z (19 + 8 * (b - 1) + d) * z (18 + 8 * v) < z (19 + 8 * v + d) * z (18 + 8 * (b - 1)))) → am_R am_S0 mt_S_strongestVat 1 77 [.ref 6, .int (nI d), .int (nI b - nI 1), .int (if b = 0 then nI 0 else z (19 + 8 * (b - 1) + d)), .int (if b = 0 then nI 1 else z (18 + 8 * (b - 1))), .int (nI v), .int (M 7 (10 + v)), .int (M 7 (15 + v * 3 + d))] [] M K := by
      intro c
      rw [if_pos c, nI_sub1 (by omega), if_neg (by omega), if_neg (by omega), Nat.add_sub_cancel, ← ew, ← eg] at ih
      exact g_S_strongestVat_77 (g_S_strongestVat_87 (am_R_le (by repeat' (first | exact trivial | exact Or.inr rfl | exact Or.inl rfl | exact Or.inr (congrArg Value.int (nI_succ _)) | refine ⟨?_, ?_⟩)) ih))
    refine g_S_strongestVat_21 ⟨fun c => absurd c (i_nge hv (by decide)), fun c => ⟨10 + v, ix2 10 v, by show _ < 105; omega, 15 + v * 3 + d, ix4' 15 3 v d, by show _ < 105; omega, fun c2 => no _ _ fun q => ?_, fun c2 => ⟨fun c3 => yes ⟨?_, Or.inl ?_⟩, fun c3 => ⟨fun c4 => no _ _ fun q => ?_, fun c4 => yes ⟨?_, ?_⟩⟩⟩⟩⟩
    · have c5 : M 7 (10 + v) ≤ 0 := c2
      rw [ew] at c5
      exact Int32.not_le.mpr q.1 c5
    · have c5 : ¬ M 7 (10 + v) ≤ 0 := c2
      rw [ew] at c5
      exact Int32.not_le.mp c5
    · have c5 : nI b - nI 1 = -nI 1 := c3
      exact (bs_neg (by omega)).mp (by rw [c5]; decide +kernel)
    · have hb0 : b ≠ 0 := fun q => c3 (show nI b - nI 1 = -nI 1 by rw [q]; decide +kernel)
      have c5 : M 7 (15 + v * 3 + d) * (if b = 0 then nI 1 else z (18 + 8 * (b - 1))) ≤ (if b = 0 then nI 0 else z (19 + 8 * (b - 1) + d)) * M 7 (10 + v) := c4
      rw [if_neg hb0, if_neg hb0, ew, eg] at c5
      rcases q.2 with q4 | q4
      · exact hb0 q4
      · exact Int32.not_le.mpr q4 c5
    · have c5 : ¬ M 7 (10 + v) ≤ 0 := c2
      rw [ew] at c5
      exact Int32.not_le.mp c5
    · have hb0 : b ≠ 0 := fun q => c3 (show nI b - nI 1 = -nI 1 by rw [q]; decide +kernel)
      have c5 : ¬ M 7 (15 + v * 3 + d) * (if b = 0 then nI 1 else z (18 + 8 * (b - 1))) ≤ (if b = 0 then nI 0 else z (19 + 8 * (b - 1) + d)) * M 7 (10 + v) := c4
      rw [if_neg hb0, if_neg hb0, ew, eg] at c5
      exact Or.inr (Int32.not_le.mp c5)
