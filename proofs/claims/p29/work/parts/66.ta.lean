/-! all that is told of vats, valves, dyes and counts, as one number -/
theorem c_vatE {w : wS} {f : dz} {M : am_M} {K : am_Q} {p q : Int32} {v k : Nat} (hr : vq w f M) (hp : p = nI v) (hq : q = nI k) (hv : v < 5) (hk : k ≤ 9) (h : ∀ M', vq w f M' → K (.inl (some (.int (zvat v k (w_z w))))) M') : am_C mt_V_vatOf [.ref 0, .int p, .int q] M K := by
  subst hp; subst hq
  exact c_vat hr hv hk h
theorem c_dyoE {w : wS} {f : dz} {M : am_M} {K : am_Q} {p q : Int32} {d k : Nat} (hr : vq w f M) (hp : p = nI d) (hq : q = nI k) (hd : d < 3) (hk : k ≤ 4) (h : ∀ M', vq w f M' → K (.inl (some (.int (zdn d k (w_z w))))) M') : am_C mt_V_dyeOf [.ref 0, .int p, .int q] M K := by
  subst hp; subst hq
  exact c_dyo hr hd hk h
theorem c_valE {n : Nat} {w : wS} {f : dz} {M : am_M} {K : am_Q} {p q : Int32} {m k i : Nat} (hr : vq w f M) (hi : wi n w) (hm : w_z w 5 = nI m) (hm8 : m ≤ 8) (hp : p = nI k) (hq : q = nI i) (hk : k < m) (h6 : i ≤ 6) (h : ∀ M', vq w f M' → K (.inl (some (.int (ztol k i (w_z w))))) M') : am_C mt_V_valveOf [.ref 0, .int p, .int q] M K := by
  subst hp; subst hq
  exact c_val hr hi hm hm8 hk h6 h
def tf (c : Int64) (g : Nat → Int32) (h : Int64) : Nat → Int64
  | 0 => h
  | i + 1 => c * tf c g h i + (g i).toInt64
theorem tf_eq {c h : Int64} {g g' : Nat → Int32} : ∀ i, (∀ k, k < i → g k = g' k) → tf c g h i = tf c g' h i
  | 0, _ => rfl
  | i + 1, e => by
    show c * tf c g h i + (g i).toInt64 = c * tf c g' h i + (g' i).toInt64
    rw [tf_eq i (fun k hk => e k (by omega)), e i (by omega)]
noncomputable def tale (w : wS) : Int64 := tf (lN 47) (fun k => zdn (k / 5) (k % 5) (w_z w)) (tf (lN 43) (fun k => ztol (k / 7) (k % 7) (w_z w)) (tf (lN 37) (fun k => zvat (k / 10) (k % 10) (w_z w)) (tf (lN 31) (fun k => zcn k w) (lN 41) 9) 50) (7 * zn (w_z w 5))) 15
theorem tale_z {w w' : wS} (h : w_z w = w_z w') : tale w = tale w' := by
  have e : tf (lN 31) (fun k => zcn k w) (lN 41) 9 = tf (lN 31) (fun k => zcn k w') (lN 41) 9 := by
    refine tf_eq 9 (fun k hk => ?_)
    show zcn k w = zcn k w'
    unfold zcn
    rw [h]
    have : k ≠ 9 := by omega
    by_cases c : k = 8
    · rw [if_pos c, if_pos c]
    · rw [if_neg c, if_neg c]
      have e8 : k < 8 := by omega
      match k, e8 with
      | 0, _ => rfl
      | 1, _ => rfl
      | 2, _ => rfl
      | 3, _ => rfl
      | 4, _ => rfl
      | 5, _ => rfl
      | 6, _ => rfl
      | 7, _ => rfl
  unfold tale
  rw [h, e]
theorem zcn_2 (w : wS) : zcn 2 w = w_z w 5 := rfl
set_option maxHeartbeats 1000000 in
theorem c_L_tale {n : Nat} {w : wS} {f : dz} {M : am_M} {K : am_Q} (hr : vq w f M) (hi : wi n w) (h : ∀ M', vq w f M' → K (.inl (some (.long (tale w)))) M') : am_C mt_L_tale [.ref 0] M K := by
  obtain ⟨m, hm8, hm, -⟩ := hi.1.1.1.2.2.2.2.2
  have em : zn (w_z w 5) = m := by rw [hm]; exact zn_nI (by omega)
  unfold tale at h
  rw [em] at h
  have p4 : ∀ (h3 : Int64) (N : Nat), N = 15 → (∀ M', vq w f M' → K (.inl (some (.long (tf (lN 47) (fun k => zdn (k / 5) (k % 5) (w_z w)) h3 N)))) M') → ∀ M', vq w f M' → am_R am_S0 mt_L_tale 1 107 [.ref 0, .long h3, .null, .int (nI 0)] [] M' K := by
    intro h3 N hN hh
    refine lu (P := fun i => ∀ M', vq w f M' → am_R am_S0 mt_L_tale 1 107 [.ref 0, .long (tf (lN 47) (fun k => zdn (k / 5) (k % 5) (w_z w)) h3 i), .null, .int (nI i)] [] M' K) N ?_ ?_
    · intro M' q
      refine g_L_tale_107 ⟨fun c => g_L_tale_137 (hh M' q), fun c => absurd (i_le (show 15 ≤ N by omega) (by omega)) c⟩
    · intro i hi9 ih M' q
      refine g_L_tale_107 ⟨fun c => absurd c (i_nge (show i < 15 by omega) (by decide)), fun c => ⟨nI_ne0 (by decide) (by decide), nI_ne0 (by decide) (by decide), c_dyoE (d := i / 5) (k := i % 5) q (pk_div (d := 5) (by omega) (by decide) (by decide)) (pk_rem (d := 5) (by omega) (by decide) (by decide)) (by omega) (by omega) (fun M2 q2 => am_R_le (by repeat' (first | exact trivial | exact Or.inr rfl | exact Or.inl rfl | exact Or.inr (congrArg Value.int (nI_succ _)) | refine ⟨?_, ?_⟩)) (ih M2 q2))⟩⟩
  have p3 : ∀ (h3 : Int64) (N : Nat), N = 7 * m → (∀ M', vq w f M' → am_R am_S0 mt_L_tale 1 107 [.ref 0, .long (tf (lN 43) (fun k => ztol (k / 7) (k % 7) (w_z w)) h3 N), .null, .int (nI 0)] [] M' K) → ∀ M', vq w f M' → am_R am_S0 mt_L_tale 1 67 [.ref 0, .long h3, .null, .int (nI 0)] [] M' K := by
    intro h3 N hN hh
    refine lu (P := fun i => ∀ M', vq w f M' → am_R am_S0 mt_L_tale 1 67 [.ref 0, .long (tf (lN 43) (fun k => ztol (k / 7) (k % 7) (w_z w)) h3 i), .null, .int (nI i)] [] M' K) N ?_ ?_
    · intro M' q
      refine g_L_tale_67 (c_cnt (k := 2) q hi (by decide) (fun M2 q2 => ⟨fun c => g_L_tale_105 (am_R_le (by repeat' (first | exact trivial | exact Or.inr rfl | exact Or.inl rfl | exact Or.inr (congrArg Value.int (nI_succ _)) | refine ⟨?_, ?_⟩)) (hh M2 q2)), fun c => absurd ?_ c⟩))
      show nI 7 * zcn 2 w ≤ nI N
      rw [zcn_2, hm, pk_mul]
      exact i_le (by omega) (by omega)
    · intro i hi9 ih M' q
      refine g_L_tale_67 (c_cnt (k := 2) q hi (by decide) (fun M2 q2 => ⟨fun c => absurd c ?_, fun c => ⟨nI_ne0 (by decide) (by decide), nI_ne0 (by decide) (by decide), c_valE (m := m) (k := i / 7) (i := i % 7) q2 hi hm hm8 (pk_div (d := 7) (by omega) (by decide) (by decide)) (pk_rem (d := 7) (by omega) (by decide) (by decide)) (by omega) (by omega) (fun M3 q3 => am_R_le (by repeat' (first | exact trivial | exact Or.inr rfl | exact Or.inl rfl | exact Or.inr (congrArg Value.int (nI_succ _)) | refine ⟨?_, ?_⟩)) (ih M3 q3))⟩⟩))
      show ¬ nI 7 * zcn 2 w ≤ nI i
      rw [zcn_2, hm, pk_mul]
      exact i_nge (by omega) (by omega)
  have p2 : ∀ (h3 : Int64) (N : Nat), N = 50 → (∀ M', vq w f M' → am_R am_S0 mt_L_tale 1 67 [.ref 0, .long (tf (lN 37) (fun k => zvat (k / 10) (k % 10) (w_z w)) h3 N), .null, .int (nI 0)] [] M' K) → ∀ M', vq w f M' → am_R am_S0 mt_L_tale 1 33 [.ref 0, .long h3, .null, .int (nI 0)] [] M' K := by
    intro h3 N hN hh
    refine lu (P := fun i => ∀ M', vq w f M' → am_R am_S0 mt_L_tale 1 33 [.ref 0, .long (tf (lN 37) (fun k => zvat (k / 10) (k % 10) (w_z w)) h3 i), .null, .int (nI i)] [] M' K) N ?_ ?_
    · intro M' q
      refine g_L_tale_33 ⟨fun c => g_L_tale_65 (am_R_le (by repeat' (first | exact trivial | exact Or.inr rfl | exact Or.inl rfl | exact Or.inr (congrArg Value.int (nI_succ _)) | refine ⟨?_, ?_⟩)) (hh M' q)), fun c => absurd (i_le (show 50 ≤ N by omega) (by omega)) c⟩
    · intro i hi9 ih M' q
      refine g_L_tale_33 ⟨fun c => absurd c (i_nge (show i < 50 by omega) (by decide)), fun c => ⟨nI_ne0 (by decide) (by decide), nI_ne0 (by decide) (by decide), c_vatE (v := i / 10) (k := i % 10) q (pk_div (d := 10) (by omega) (by decide) (by decide)) (pk_rem (d := 10) (by omega) (by decide) (by decide)) (by omega) (by omega) (fun M2 q2 => am_R_le (by repeat' (first | exact trivial | exact Or.inr rfl | exact Or.inl rfl | exact Or.inr (congrArg Value.int (nI_succ _)) | refine ⟨?_, ?_⟩)) (ih M2 q2))⟩⟩
  have p1 : ∀ (h3 : Int64) (N : Nat), N = 9 → (∀ M', vq w f M' → am_R am_S0 mt_L_tale 1 33 [.ref 0, .long (tf (lN 31) (fun k => zcn k w) h3 N), .null, .int (nI 0)] [] M' K) → ∀ M', vq w f M' → am_R am_S0 mt_L_tale 1 6 [.ref 0, .long h3, .null, .int (nI 0)] [] M' K := by
    intro h3 N hN hh
    refine lu (P := fun i => ∀ M', vq w f M' → am_R am_S0 mt_L_tale 1 6 [.ref 0, .long (tf (lN 31) (fun k => zcn k w) h3 i), .null, .int (nI i)] [] M' K) N ?_ ?_
    · intro M' q
      refine g_L_tale_6 ⟨fun c => g_L_tale_31 (am_R_le (by repeat' (first | exact trivial | exact Or.inr rfl | exact Or.inl rfl | exact Or.inr (congrArg Value.int (nI_succ _)) | refine ⟨?_, ?_⟩)) (hh M' q)), fun c => absurd (i_le (show 9 ≤ N by omega) (by omega)) c⟩
    · intro i hi9 ih M' q
      refine g_L_tale_6 ⟨fun c => absurd c (i_nge (show i < 9 by omega) (by decide)), fun c => c_cnt (k := i) q hi (by omega) (fun M2 q2 => am_R_le (by repeat' (first | exact trivial | exact Or.inr rfl | exact Or.inl rfl | exact Or.inr (congrArg Value.int (nI_succ _)) | refine ⟨?_, ?_⟩)) (ih M2 q2))⟩
  refine am_C_of_R am_S0 om_L_tale rfl [.ref 0, .null, .null, .null] rfl rfl (g_L_tale_0 (am_R_le (by repeat' (first | exact trivial | exact Or.inr rfl | exact Or.inl rfl | exact Or.inr (congrArg Value.int (nI_succ _)) | refine ⟨?_, ?_⟩)) (p1 (lN 41) 9 rfl (p2 _ 50 rfl (p3 _ (7 * m) rfl (p4 _ 15 rfl h))) M hr)))
