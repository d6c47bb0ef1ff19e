/-! digest: the hash, and what the class hashes in parts -/
def hs1 (h : Int64) (x : Int32) : Int64 := lN 31 * h + x.toInt64
def hsn (h : Int64) (f : Nat → Int32) : Nat → Int64
  | 0 => h
  | k + 1 => hs1 (hsn h f k) (f k)
def hsvat (z zf : dz) (e : Nat → Int32) (v : Nat) (h : Int64) : Int64 := hs1 (hs1 (hs1 (hs1 (hsn h (fun k => zvat v k z) 10) (e v)) (zf (17 + 8 * v + 1))) (zf (17 + 8 * v + 2))) (zf (17 + 8 * v + 5))
def hsvats (z zf : dz) (e : Nat → Int32) (h : Int64) : Nat → Int64
  | 0 => h
  | v + 1 => hsvat z zf e v (hsvats z zf e h v)
noncomputable def hsval (z : dz) (h : Int64) : Nat → Int64
  | 0 => h
  | k + 1 => hsn (hsval z h k) (fun i => ztol k i z) 7
def hsdye (z : dz) (h : Int64) : Nat → Int64
  | 0 => h
  | d + 1 => hsn (hsdye z h d) (fun i => zdn d i z) 5
theorem c_V_hashValves {z : dz} {m : Nat} {h : Int64} {M : am_M} {K : am_Q} (hM : M 2 = zp z) (hm : z 5 = nI m) (hm8 : m ≤ 8) (hK : K (.inl (some (.long (hsval z h m)))) M) : am_C mt_V_hashValves [.ref 0, .long h] M K := by
  have e5 : M 2 56 = nI m := by rw [hM]; exact hm
  refine am_C_of_R am_S0 om_V_hashValves rfl [.ref 0, .long h, .null, .null, .null, .null, .null] rfl rfl (g_V_hashValves_0 ?_)
  refine am_R_le (xs := [.ref 0, .long h, .null, .long (hsval z h 0), .null, .int (nI 0), .null]) (by repeat' (first | exact trivial | exact Or.inr rfl | exact Or.inl rfl | exact Or.inr (congrArg Value.int (nI_succ _)) | refine ⟨?_, ?_⟩)) ?_
  refine lu (P := fun k => am_R am_S0 mt_V_hashValves 1 5 [.ref 0, .long h, .null, .long (hsval z h k), .null, .int (nI k), .null] [] M K) m ?_ ?_
  · refine g_V_hashValves_5 ⟨56, rfl, by decide, fun _ => g_V_hashValves_61 hK, fun c => absurd ?_ c⟩
    show M 2 56 ≤ nI m
    rw [e5]
    exact i_le (Nat.le_refl m) (by omega)
  · intro k hk ih
    refine g_V_hashValves_5 ⟨56, rfl, by decide, fun c => absurd c ?_, fun _ => ?_⟩
    · show ¬ M 2 56 ≤ nI k
      rw [e5]
      exact i_nge hk (by omega)
    · have ih' : am_R am_S0 mt_V_hashValves 1 5 [.ref 0, .long h, .null, .long (hsn (hsval z h k) (fun i => ztol k i z) 7), .null, .int (nI (k + 1)), .null] [] M K := ih
      generalize hsval z h k = a at ih' ⊢
      refine am_R_le (xs := [.ref 0, .long h, .null, .long (hsn a (fun i => ztol k i z) 0), .null, .int (nI k), .int (nI 0)]) (by repeat' (first | exact trivial | exact Or.inr rfl | exact Or.inl rfl | exact Or.inr (congrArg Value.int (nI_succ _)) | refine ⟨?_, ?_⟩)) ?_
      refine lu (P := fun i => am_R am_S0 mt_V_hashValves 1 23 [.ref 0, .long h, .null, .long (hsn a (fun i => ztol k i z) i), .null, .int (nI k), .int (nI i)] [] M K) 7 ?_ ?_
      · refine g_V_hashValves_23 ⟨fun _ => g_V_hashValves_55 (am_R_le (by repeat' (first | exact trivial | exact Or.inr rfl | exact Or.inl rfl | exact Or.inr (congrArg Value.int (nI_succ _)) | refine ⟨?_, ?_⟩)) ih'), fun c => absurd ((nI_lti (a := 6) (b := 7) (by decide) (by decide)).mpr (by decide)) c⟩
      · intro i hi ih2
        refine g_V_hashValves_23 ⟨fun c => ?_, fun _ => c_S_valveProperty_1 (k := k) (i := i) hM (by omega) (by omega) (am_R_le (by repeat' (first | exact trivial | exact Or.inr rfl | exact Or.inl rfl | exact Or.inr (congrArg Value.int (nI_succ _)) | refine ⟨?_, ?_⟩)) ih2)⟩
        have c' : nI 6 < nI i := c
        have := (nI_lti (by decide) (by omega)).mp c'
        omega
theorem c_V_hashDyes {z : dz} {h : Int64} {M : am_M} {K : am_Q} (hM : M 2 = zp z) (hK : K (.inl (some (.long (hsdye z h 3)))) M) : am_C mt_V_hashDyes [.ref 0, .long h] M K := by
  refine am_C_of_R am_S0 om_V_hashDyes rfl [.ref 0, .long h, .null, .null, .null, .null, .null] rfl rfl (g_V_hashDyes_0 ?_)
  refine am_R_le (xs := [.ref 0, .long h, .null, .long (hsdye z h 0), .null, .int (nI 0), .null]) (by repeat' (first | exact trivial | exact Or.inr rfl | exact Or.inl rfl | exact Or.inr (congrArg Value.int (nI_succ _)) | refine ⟨?_, ?_⟩)) ?_
  refine lu (P := fun k => am_R am_S0 mt_V_hashDyes 1 5 [.ref 0, .long h, .null, .long (hsdye z h k), .null, .int (nI k), .null] [] M K) 3 ?_ ?_
  · exact g_V_hashDyes_5 ⟨fun _ => g_V_hashDyes_51 hK, fun c => absurd (i_le (Nat.le_refl 3) (by decide)) c⟩
  · intro k hk ih
    refine g_V_hashDyes_5 ⟨fun c => absurd c (i_nge hk (by decide)), fun _ => ?_⟩
    have ih' : am_R am_S0 mt_V_hashDyes 1 5 [.ref 0, .long h, .null, .long (hsn (hsdye z h k) (fun i => zdn k i z) 5), .null, .int (nI (k + 1)), .null] [] M K := ih
    generalize hsdye z h k = a at ih' ⊢
    refine am_R_le (xs := [.ref 0, .long h, .null, .long (hsn a (fun i => zdn k i z) 0), .null, .int (nI k), .int (nI 0)]) (by repeat' (first | exact trivial | exact Or.inr rfl | exact Or.inl rfl | exact Or.inr (congrArg Value.int (nI_succ _)) | refine ⟨?_, ?_⟩)) ?_
    refine lu (P := fun i => am_R am_S0 mt_V_hashDyes 1 14 [.ref 0, .long h, .null, .long (hsn a (fun i => zdn k i z) i), .null, .int (nI k), .int (nI i)] [] M K) 5 ?_ ?_
    · refine g_V_hashDyes_14 ⟨fun _ => g_V_hashDyes_45 (am_R_le (by repeat' (first | exact trivial | exact Or.inr rfl | exact Or.inl rfl | exact Or.inr (congrArg Value.int (nI_succ _)) | refine ⟨?_, ?_⟩)) ih'), fun c => absurd ((nI_lti (a := 4) (b := 5) (by decide) (by decide)).mpr (by decide)) c⟩
    · intro i hi ih2
      refine g_V_hashDyes_14 ⟨fun c => ?_, fun _ => c_S_dyeProperty_1 (d := k) (k := i) hM hk (by omega) (am_R_le (by repeat' (first | exact trivial | exact Or.inr rfl | exact Or.inl rfl | exact Or.inr (congrArg Value.int (nI_succ _)) | refine ⟨?_, ?_⟩)) ih2)⟩
      have c' : nI 4 < nI i := c
      have := (nI_lti (by decide) (by omega)).mp c'
      omega
theorem c_V_hashVats {z zf : dz} {h : Int64} {M : am_M} {K : am_Q} (hM : M 2 = zp z) (hz : zok z) (hf : zhours z 24 = zf) (hK : ∀ M', (∀ o, o ≠ 4 → o ≠ 13 → M' o = M o) → K (.inl (some (.long (hsvats z zf (fun v => zea v z 241) h 5)))) M') : am_C mt_V_hashVats [.ref 0, .long h] M K := by
  refine am_C_of_R am_S0 om_V_hashVats rfl [.ref 0, .long h, .null, .null, .null, .null, .null] rfl rfl (g_V_hashVats_0 (c_V_findEmptyHours hM hz (fun M1 e1 o1 => ?_)))
  have m1 : M1 2 = zp z := by rw [o1 2 (by decide) (by decide)]; exact hM
  refine c_S_takeFrom_3 ?_
  rw [m1]
  refine c_S_runHours_3 (z := z) (n := 24) rfl hz (by decide) ?_
  rw [hf]
  simp only [am_set_set]
  have k2 : am_set M1 4 (zp zf) 2 = zp z := m1
  have k4 : am_set M1 4 (zp zf) 4 = zp zf := rfl
  obtain ⟨ef, hef⟩ : ∃ ef : Nat → Int32, ef = fun v => zea v z 241 := ⟨_, rfl⟩
  have k13 : ∀ v, v < 5 → am_set M1 4 (zp zf) 13 v = ef v := by
    intro v hv
    rw [hef]
    exact e1 v hv
  have ko : ∀ o, o ≠ 4 → o ≠ 13 → am_set M1 4 (zp zf) o = M o := fun o a b => by rw [am_so _ _ a]; exact o1 o a b
  have hK' := hK _ ko
  rw [← hef] at hK'
  generalize am_set M1 4 (zp zf) = M2 at k2 k4 k13 hK' ⊢
  clear hef hK e1 ko
  refine am_R_le (xs := [.ref 0, .long h, .null, .long (hsvats z zf ef h 0), .null, .int (nI 0), .null]) (by repeat' (first | exact trivial | exact Or.inr rfl | exact Or.inl rfl | exact Or.inr (congrArg Value.int (nI_succ _)) | refine ⟨?_, ?_⟩)) ?_
  refine lu (P := fun v => am_R am_S0 mt_V_hashVats 1 29 [.ref 0, .long h, .null, .long (hsvats z zf ef h v), .null, .int (nI v), .null] [] M2 K) 5 ?_ ?_
  · exact g_V_hashVats_29 ⟨fun _ => g_V_hashVats_145 hK', fun c => absurd (i_le (Nat.le_refl 5) (by decide)) c⟩
  · intro v hv ih
    refine g_V_hashVats_29 ⟨fun c => absurd c (i_nge hv (by decide)), fun _ => ?_⟩
    have ih' : am_R am_S0 mt_V_hashVats 1 29 [.ref 0, .long h, .null, .long (hs1 (hs1 (hs1 (hs1 (hsn (hsvats z zf ef h v) (fun k => zvat v k z) 10) (M2 13 v)) (zvat v 1 zf)) (zvat v 2 zf)) (zvat v 5 zf)), .null, .int (nI (v + 1)), .null] [] M2 K := by
      rw [k13 v hv, zvat_lo (by decide), zvat_lo (by decide), zvat_lo (by decide)]
      exact ih
    generalize hsvats z zf ef h v = a at ih' ⊢
    refine am_R_le (xs := [.ref 0, .long h, .null, .long (hsn a (fun k => zvat v k z) 0), .null, .int (nI v), .int (nI 0)]) (by repeat' (first | exact trivial | exact Or.inr rfl | exact Or.inl rfl | exact Or.inr (congrArg Value.int (nI_succ _)) | refine ⟨?_, ?_⟩)) ?_
    refine lu (P := fun i => am_R am_S0 mt_V_hashVats 1 38 [.ref 0, .long h, .null, .long (hsn a (fun k => zvat v k z) i), .null, .int (nI v), .int (nI i)] [] M2 K) 10 ?_ ?_
    · generalize hsn a (fun k => zvat v k z) 10 = b at ih' ⊢
      refine g_V_hashVats_38 ⟨fun _ => g_V_hashVats_70 ⟨v, rfl, by show _ < 5; omega, ?_⟩, fun c => absurd ((nI_lti (a := 9) (b := 10) (by decide) (by decide)).mpr (by decide)) c⟩
      refine c_S_vatProperty_3 (v := v) (k := 1) (z := zf) k4 hv (by decide) ?_
      refine c_S_vatProperty_3 (v := v) (k := 2) (z := zf) k4 hv (by decide) ?_
      refine c_S_vatProperty_3 (v := v) (k := 5) (z := zf) k4 hv (by decide) ?_
      exact am_R_le (by repeat' (first | exact trivial | exact Or.inr rfl | exact Or.inl rfl | exact Or.inr (congrArg Value.int (nI_succ _)) | refine ⟨?_, ?_⟩)) ih'
    · intro i hi ih2
      refine g_V_hashVats_38 ⟨fun c => ?_, fun _ => c_S_vatProperty_1 (v := v) (k := i) (z := z) k2 hv (by omega) (am_R_le (by repeat' (first | exact trivial | exact Or.inr rfl | exact Or.inl rfl | exact Or.inr (congrArg Value.int (nI_succ _)) | refine ⟨?_, ?_⟩)) ih2)⟩
      have c' : nI 9 < nI i := c
      have := (nI_lti (by decide) (by omega)).mp c'
      omega
/-- the hash of all -/
def hF1 (w : wS) (a : Int64) : Int64 := hsn (hs1 a (nI (w_ln w))) (w_tx w) (w_ln w)
def hF2 (w : wS) (a : Int64) : Int64 := hF1 w (hs1 (hs1 a (ib (w_kp w 0 = true))) (ib (w_kp w 1 = true)))
noncomputable def hF3 (w : wS) (a : Int64) : Int64 := hF2 w (lN 31 * hs1 a (m_main w) + (zshare (w_z w)).toInt64)
noncomputable def hF4 (w : wS) (a : Int64) : Int64 := hF3 w (hs1 (hs1 (hs1 (hs1 a (rdL (zE (w_z w))).1) (rdL (zE (w_z w))).2) (rdL (zE (w_z w))).1) (rdL (zE (w_z w))).2)
noncomputable def hF5 (w : wS) (a : Int64) : Int64 := hF4 w (hsdye (w_z w) a 3)
noncomputable def hF6 (w : wS) (a : Int64) : Int64 := hF5 w (hsval (w_z w) a (zn (w_z w 5)))
noncomputable def hF7 (w : wS) (a : Int64) : Int64 := hF6 w (hsvats (w_z w) (zhours (w_z w) 24) (fun v => zea v (w_z w) 241) a 5)
noncomputable def m_dig (w : wS) : Int64 := hF7 w (hsn (lN 3461) (fun k => zcn k w) 10)
theorem vr_kp7 {M M' : am_M} {w : wS} (hr : vr M w) (h : ∀ o, o = 0 ∨ o = 2 ∨ o = 9 ∨ o = 10 ∨ o = 14 ∨ o = 15 ∨ o = 16 → M' o = M o) : vr M' w := by
  unfold vr
  rw [h 2 (by decide), h 0 (by decide), h 16 (by decide), h 15 (by decide), h 14 (by decide), h 9 (by decide), h 10 (by decide)]
  exact hr
