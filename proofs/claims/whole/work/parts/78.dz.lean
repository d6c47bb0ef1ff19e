/-! digest in the reference -/
theorem zr_19 {M M' : am_M} {w : wS} (hr : zr M w) (h : ∀ o, o ≠ 19 → M' o = M o) : zr M' w := by
  unfold zr
  rw [h 18 (by decide), h 17 (by decide), h 20 (by decide), h 22 (by decide), h 21 (by decide), h 23 (by decide)]
  exact hr
theorem zf_19 {M M' : am_M} (h : ∀ o, o ≠ 19 → M' o = M o) : zf M M' := fun o q => h o (by omega)
theorem c_Z_left24 {v a : Nat} {z zf : dz} {M : am_M} {K : am_Q} (hM : M 18 = z) (hz : zok z) (hf : zhours z 24 = zf) (hv : v < 5) (ha : a < 8) (h : ∀ M', (∀ o, o ≠ 19 → M' o = M o) → K (.inl (some (.int (zf (17 + 8 * v + a))))) M') : am_C mt_Z_leftBehind [.ref 17, .int (nI 24), .int (nI v), .int (nI a)] M K := by
  subst hM
  subst hf
  exact c_Z_leftBehind hz (by decide) hv ha h

theorem c_Z_digest {n : Nat} {w : wS} {M : am_M} {K : am_Q} (hr : zr M w) (hk : wk n w) (hn : n ≤ 600) (h : ∀ M', zr M' w → zf M M' → K (.inl (some (.long (m_dig w)))) M') : am_C mt_Z_digest [.ref 17] M K := by
  have l60 := hk.2.2.2.2.1
  have hz := hk.1.1
  obtain ⟨m, hm8, hm, -⟩ := hz.2.2.2.2.2
  have hzn : zn (w_z w 5) = m := by rw [hm, zn_nI (by omega)]
  have z365 : ∀ M1 a, zr M1 w → zf M M1 → hsn a (w_tx w) (w_ln w) = m_dig w → am_R am_S0 mt_Z_digest 1 365 [.ref 17, .long a, .null, .int (nI 0), .null] [] M1 K := by
    intro M1 a r1 f1 e
    have hh := h M1 r1 f1
    rw [← e] at hh
    obtain ⟨-, -, -, -, -, ⟨q1, q2⟩, q3⟩ := r1
    refine lu (P := fun i => am_R am_S0 mt_Z_digest 1 365 [.ref 17, .long (hsn a (w_tx w) i), .null, .int (nI i), .null] [] M1 K) (w_ln w) ?_ ?_
    · refine g_Z_digest_365 ⟨fun _ => g_Z_digest_393 hh, fun c => absurd ?_ c⟩
      show M1 17 8 ≤ nI (w_ln w)
      rw [q1]
      exact i_le (Nat.le_refl _) (by omega)
    · intro i hi ih
      refine g_Z_digest_365 ⟨fun c => absurd c ?_, fun _ => ⟨i, rfl, by show _ < 60; omega, ?_⟩⟩
      · show ¬ M1 17 8 ≤ nI i
        rw [q1]
        exact i_nge hi (by omega)
      · have ih' : am_R am_S0 mt_Z_digest 1 365 [.ref 17, .long (hs1 (hsn a (w_tx w) i) (w_tx w i)), .null, .int (nI (i + 1)), .null] [] M1 K := ih
        rw [← q3 i hi] at ih'
        exact am_R_le (by repeat' (first | exact trivial | exact Or.inr rfl | exact Or.inl rfl | exact Or.inr (congrArg Value.int (nI_succ _)) | refine ⟨?_, ?_⟩)) ih'
  have z348 : ∀ M1 a b, zr M1 w → zf M M1 → b = ib (w_kp w 1 = true) → hF1 w (hs1 a b) = m_dig w → am_R am_S0 mt_Z_digest 1 348 [.ref 17, .long a, .null, .null, .null] [.int b, .long (lN 31 * a)] M1 K := by
    intro M1 a b r1 f1 eb e
    have e1 : M1 17 8 = nI (w_ln w) := r1.2.2.2.2.2.1.1
    have tt := z365 M1 (hs1 (hs1 a b) (nI (w_ln w))) r1 f1 e
    rw [← e1] at tt
    exact g_Z_digest_348 (am_R_le (by repeat' (first | exact trivial | exact Or.inr rfl | exact Or.inl rfl | exact Or.inr (congrArg Value.int (nI_succ _)) | refine ⟨?_, ?_⟩)) tt)
  have z326 : ∀ M1 a b, zr M1 w → zf M M1 → b = ib (w_kp w 0 = true) → hF2 w a = m_dig w → am_R am_S0 mt_Z_digest 1 326 [.ref 17, .long a, .null, .null, .null] [.int b, .long (lN 31 * a)] M1 K := by
    intro M1 a b r1 f1 eb e
    have e1 := r1.2.2.2.1 1 (by decide)
    have e' : hF1 w (hs1 (hs1 a b) (ib (w_kp w 1 = true))) = m_dig w := by rw [eb]; exact e
    refine g_Z_digest_326 ⟨1, rfl, by show 1 < 2; decide, fun c => ?_, fun c => ?_⟩
    · have c' : M1 22 1 = 0 := c
      rw [e1] at c'
      have hq : ¬ w_kp w 1 = true := ib_n c'
      exact g_Z_digest_347 (z348 M1 (hs1 a b) (nI 0) r1 f1 (ib_f hq).symm (by rw [← ib_f hq]; exact e'))
    · have c' : ¬ M1 22 1 = 0 := c
      rw [e1] at c'
      have hq : w_kp w 1 = true := ib_y c'
      exact z348 M1 (hs1 a b) (nI 1) r1 f1 (ib_t hq).symm (by rw [← ib_t hq]; exact e')
  have z233 : ∀ M1 a, zr M1 w → zf M M1 → hF4 w a = m_dig w → am_R am_S0 mt_Z_digest 1 233 [.ref 17, .long a, .null, .null, .null] [] M1 K := by
    intro M1 a r1 f1 e
    refine g_Z_digest_233 (c_Z_findRoundR r1 hk (fun M2 r2 f2 _ l1 l2 => c_Z_main r2 hk hn (fun M3 r3 f3 => c_Z_shareGone (z := w_z w) r3.1 hz (c_J_bits (zshare_nan hz) ?_))))
    have e1 := r3.2.2.2.1 0 (by decide)
    have e' : hF2 w (lN 31 * hs1 (hs1 (hs1 (hs1 (hs1 a (M2 17 10)) (M2 17 11)) (M2 17 10)) (M2 17 11)) (m_main w) + (zshare (w_z w)).toInt64) = m_dig w := by
      rw [l1, l2]
      exact e
    have f := zf_trans (zf_trans f1 f2) f3
    refine ⟨0, rfl, by show 0 < 2; decide, fun c => ?_, fun c => ?_⟩
    · have c' : M3 22 0 = 0 := c
      rw [e1] at c'
      have hq : ¬ w_kp w 0 = true := ib_n c'
      exact g_Z_digest_325 (z326 M3 _ (nI 0) r3 f (ib_f hq).symm e')
    · have c' : ¬ M3 22 0 = 0 := c
      rw [e1] at c'
      have hq : w_kp w 0 = true := ib_y c'
      exact z326 M3 _ (nI 1) r3 f (ib_t hq).symm e'
  have z190 : ∀ M1 a, zr M1 w → zf M M1 → hF5 w a = m_dig w → am_R am_S0 mt_Z_digest 1 190 [.ref 17, .long a, .null, .null, .null] [] M1 K := by
    intro M1 a r1 f1 e
    have ez : M1 18 = w_z w := r1.1
    refine g_Z_digest_190 ?_
    refine am_R_le (xs := [.ref 17, .long (hsdye (w_z w) a 0), .null, .int (nI 0), .null]) (by repeat' (first | exact trivial | exact Or.inr rfl | exact Or.inl rfl | exact Or.inr (congrArg Value.int (nI_succ _)) | refine ⟨?_, ?_⟩)) ?_
    refine lu (P := fun d => am_R am_S0 mt_Z_digest 1 192 [.ref 17, .long (hsdye (w_z w) a d), .null, .int (nI d), .null] [] M1 K) 3 ?_ ?_
    · exact g_Z_digest_192 ⟨fun _ => am_R_le (xs := [.ref 17, .long (hsdye (w_z w) a 3), .null, .null, .null]) (by repeat' (first | exact trivial | exact Or.inr rfl | exact Or.inl rfl | exact Or.inr (congrArg Value.int (nI_succ _)) | refine ⟨?_, ?_⟩)) (z233 M1 _ r1 f1 e), fun c => absurd (i_le (Nat.le_refl 3) (by decide)) c⟩
    · intro d hd ih
      have ih' : am_R am_S0 mt_Z_digest 1 192 [.ref 17, .long (hsn (hsdye (w_z w) a d) (fun i => zdn d i (w_z w)) 5), .null, .int (nI (d + 1)), .null] [] M1 K := ih
      generalize hsdye (w_z w) a d = b at ih' ⊢
      refine g_Z_digest_192 ⟨fun c => absurd c (i_nge hd (by decide)), fun _ => ?_⟩
      refine am_R_le (xs := [.ref 17, .long (hsn b (fun i => zdn d i (w_z w)) 0), .null, .int (nI d), .int (nI 0)]) (by repeat' (first | exact trivial | exact Or.inr rfl | exact Or.inl rfl | exact Or.inr (congrArg Value.int (nI_succ _)) | refine ⟨?_, ?_⟩)) ?_
      refine lu (P := fun i => am_R am_S0 mt_Z_digest 1 200 [.ref 17, .long (hsn b (fun i => zdn d i (w_z w)) i), .null, .int (nI d), .int (nI i)] [] M1 K) 5 ?_ ?_
      · exact g_Z_digest_200 ⟨fun _ => g_Z_digest_227 (am_R_le (by repeat' (first | exact trivial | exact Or.inr rfl | exact Or.inl rfl | exact Or.inr (congrArg Value.int (nI_succ _)) | refine ⟨?_, ?_⟩)) ih'), fun c => absurd (i_le (Nat.le_refl 5) (by decide)) c⟩
      · intro i hi ih2
        have ih2' : am_R am_S0 mt_Z_digest 1 200 [.ref 17, .long (hs1 (hsn b (fun i => zdn d i (w_z w)) i) (zdn d i (M1 18))), .null, .int (nI d), .int (nI (i + 1))] [] M1 K := by rw [ez]; exact ih2
        exact g_Z_digest_200 ⟨fun c => absurd c (i_nge hi (by decide)), fun _ => c_Z_dyeNow (d := d) (k := i) hd (by omega) (am_R_le (by repeat' (first | exact trivial | exact Or.inr rfl | exact Or.inl rfl | exact Or.inr (congrArg Value.int (nI_succ _)) | refine ⟨?_, ?_⟩)) ih2')⟩
  have z141 : ∀ M1 a, zr M1 w → zf M M1 → hF6 w a = m_dig w → am_R am_S0 mt_Z_digest 1 141 [.ref 17, .long a, .null, .null, .null] [] M1 K := by
    intro M1 a r1 f1 e
    unfold hF6 at e
    rw [hzn] at e
    have ez : M1 18 = w_z w := r1.1
    have e5 : M1 18 5 = nI m := by rw [ez]; exact hm
    refine g_Z_digest_141 ?_
    refine am_R_le (xs := [.ref 17, .long (hsval (w_z w) a 0), .null, .int (nI 0), .null]) (by repeat' (first | exact trivial | exact Or.inr rfl | exact Or.inl rfl | exact Or.inr (congrArg Value.int (nI_succ _)) | refine ⟨?_, ?_⟩)) ?_
    refine lu (P := fun d => am_R am_S0 mt_Z_digest 1 143 [.ref 17, .long (hsval (w_z w) a d), .null, .int (nI d), .null] [] M1 K) m ?_ ?_
    · refine g_Z_digest_143 ⟨5, rfl, by decide, fun _ => am_R_le (xs := [.ref 17, .long (hsval (w_z w) a m), .null, .null, .null]) (by repeat' (first | exact trivial | exact Or.inr rfl | exact Or.inl rfl | exact Or.inr (congrArg Value.int (nI_succ _)) | refine ⟨?_, ?_⟩)) (z190 M1 _ r1 f1 e), fun c => absurd ?_ c⟩
      show M1 18 5 ≤ nI m
      rw [e5]
      exact i_le (Nat.le_refl m) (by omega)
    · intro d hd ih
      have ih' : am_R am_S0 mt_Z_digest 1 143 [.ref 17, .long (hsn (hsval (w_z w) a d) (fun i => ztol d i (w_z w)) 7), .null, .int (nI (d + 1)), .null] [] M1 K := ih
      generalize hsval (w_z w) a d = b at ih' ⊢
      refine g_Z_digest_143 ⟨5, rfl, by decide, fun c => absurd c ?_, fun _ => ?_⟩
      · show ¬ M1 18 5 ≤ nI d
        rw [e5]
        exact i_nge hd (by omega)
      · refine am_R_le (xs := [.ref 17, .long (hsn b (fun i => ztol d i (w_z w)) 0), .null, .int (nI d), .int (nI 0)]) (by repeat' (first | exact trivial | exact Or.inr rfl | exact Or.inl rfl | exact Or.inr (congrArg Value.int (nI_succ _)) | refine ⟨?_, ?_⟩)) ?_
        refine lu (P := fun i => am_R am_S0 mt_Z_digest 1 156 [.ref 17, .long (hsn b (fun i => ztol d i (w_z w)) i), .null, .int (nI d), .int (nI i)] [] M1 K) 7 ?_ ?_
        · exact g_Z_digest_156 ⟨fun _ => g_Z_digest_184 (am_R_le (by repeat' (first | exact trivial | exact Or.inr rfl | exact Or.inl rfl | exact Or.inr (congrArg Value.int (nI_succ _)) | refine ⟨?_, ?_⟩)) ih'), fun c => absurd (i_le (Nat.le_refl 7) (by decide)) c⟩
        · intro i hi ih2
          have ih2' : am_R am_S0 mt_Z_digest 1 156 [.ref 17, .long (hs1 (hsn b (fun i => ztol d i (w_z w)) i) (ztol d i (M1 18))), .null, .int (nI d), .int (nI (i + 1))] [] M1 K := by rw [ez]; exact ih2
          exact g_Z_digest_156 ⟨fun c => absurd c (i_nge hi (by decide)), fun _ => c_Z_toldOfValve (k := d) (i := i) (by omega) (by omega) (am_R_le (by repeat' (first | exact trivial | exact Or.inr rfl | exact Or.inl rfl | exact Or.inr (congrArg Value.int (nI_succ _)) | refine ⟨?_, ?_⟩)) ih2')⟩
  obtain ⟨zf', hf⟩ : ∃ zf', zhours (w_z w) 24 = zf' := ⟨_, rfl⟩
  obtain ⟨ef, hef⟩ : ∃ ef : Nat → Int32, (fun v => zea v (w_z w) 241) = ef := ⟨_, rfl⟩
  have hef' : ∀ v, zea v (w_z w) 241 = ef v := fun v => by rw [← hef]
  have z36 : ∀ M1 a, zr M1 w → zf M M1 → hF7 w a = m_dig w → am_R am_S0 mt_Z_digest 1 36 [.ref 17, .long a, .null, .null, .null] [] M1 K := by
    intro M1 a r1 f1 e
    unfold hF7 at e
    rw [hf, hef] at e
    clear hef
    refine g_Z_digest_36 ?_
    have loop : ∀ M1, zr M1 w → zf M M1 → am_R am_S0 mt_Z_digest 1 38 [.ref 17, .long (hsvats (w_z w) zf' ef a 0), .null, .int (nI 0), .null] [] M1 K := by
      refine lu (P := fun v => ∀ M1, zr M1 w → zf M M1 → am_R am_S0 mt_Z_digest 1 38 [.ref 17, .long (hsvats (w_z w) zf' ef a v), .null, .int (nI v), .null] [] M1 K) 5 ?_ ?_
      · intro M1 r1 f1
        exact g_Z_digest_38 ⟨fun _ => am_R_le (xs := [.ref 17, .long (hsvats (w_z w) zf' ef a 5), .null, .null, .null]) (by repeat' (first | exact trivial | exact Or.inr rfl | exact Or.inl rfl | exact Or.inr (congrArg Value.int (nI_succ _)) | refine ⟨?_, ?_⟩)) (z141 M1 _ r1 f1 e), fun c => absurd (i_le (Nat.le_refl 5) (by decide)) c⟩
      · intro v hv ih M1 r1 f1
        have ih' : ∀ M1, zr M1 w → zf M M1 → am_R am_S0 mt_Z_digest 1 38 [.ref 17, .long (hs1 (hs1 (hs1 (hs1 (hsn (hsvats (w_z w) zf' ef a v) (fun k => zvat v k (w_z w)) 10) (ef v)) (zf' (17 + 8 * v + 1))) (zf' (17 + 8 * v + 2))) (zf' (17 + 8 * v + 5))), .null, .int (nI (v + 1)), .null] [] M1 K := ih
        generalize hsvats (w_z w) zf' ef a v = b at ih' ⊢
        have ez : M1 18 = w_z w := r1.1
        refine g_Z_digest_38 ⟨fun c => absurd c (i_nge hv (by decide)), fun _ => ?_⟩
        refine am_R_le (xs := [.ref 17, .long (hsn b (fun k => zvat v k (w_z w)) 0), .null, .int (nI v), .int (nI 0)]) (by repeat' (first | exact trivial | exact Or.inr rfl | exact Or.inl rfl | exact Or.inr (congrArg Value.int (nI_succ _)) | refine ⟨?_, ?_⟩)) ?_
        refine lu (P := fun i => am_R am_S0 mt_Z_digest 1 46 [.ref 17, .long (hsn b (fun k => zvat v k (w_z w)) i), .null, .int (nI v), .int (nI i)] [] M1 K) 10 ?_ ?_
        · generalize hsn b (fun k => zvat v k (w_z w)) 10 = d at ih' ⊢
          refine g_Z_digest_46 ⟨fun _ => g_Z_digest_74 (c_Z_hoursToEmpty ez hz hv ?_), fun c => absurd (i_le (Nat.le_refl 10) (by decide)) c⟩
          rw [hef' v]
          intro M2 o2
          have r2 := zr_19 r1 o2
          refine c_Z_left24 (v := v) (a := 1) r2.1 hz hf hv (by decide) (fun M3 o3 => ?_)
          have r3 := zr_19 r2 o3
          refine c_Z_left24 (v := v) (a := 2) r3.1 hz hf hv (by decide) (fun M4 o4 => ?_)
          have r4 := zr_19 r3 o4
          refine c_Z_left24 (v := v) (a := 5) r4.1 hz hf hv (by decide) (fun M5 o5 => ?_)
          exact am_R_le (by repeat' (first | exact trivial | exact Or.inr rfl | exact Or.inl rfl | exact Or.inr (congrArg Value.int (nI_succ _)) | refine ⟨?_, ?_⟩)) (ih' M5 (zr_19 r4 o5) (zf_trans (zf_trans (zf_trans (zf_trans f1 (zf_19 o2)) (zf_19 o3)) (zf_19 o4)) (zf_19 o5)))
        · intro i hi ih2
          have ih2' : am_R am_S0 mt_Z_digest 1 46 [.ref 17, .long (hs1 (hsn b (fun k => zvat v k (w_z w)) i) (zvat v i (M1 18))), .null, .int (nI v), .int (nI (i + 1))] [] M1 K := by rw [ez]; exact ih2
          exact g_Z_digest_46 ⟨fun c => absurd c (i_nge hi (by decide)), fun _ => c_Z_vatNow (v := v) (k := i) hv (by omega) (am_R_le (by repeat' (first | exact trivial | exact Or.inr rfl | exact Or.inl rfl | exact Or.inr (congrArg Value.int (nI_succ _)) | refine ⟨?_, ?_⟩)) ih2')⟩
    exact am_R_le (by repeat' (first | exact trivial | exact Or.inr rfl | exact Or.inl rfl | exact Or.inr (congrArg Value.int (nI_succ _)) | refine ⟨?_, ?_⟩)) (loop M1 r1 f1)
  have hr1 : zr (am_set M 17 (upd (M 17) 0 (nI 0))) w := zr_17 hr (by decide) (by decide)
  have hf1 : zf M (am_set M 17 (upd (M 17) 0 (nI 0))) := zf_set (zf_refl M) (by decide)
  refine am_C_of_R am_S0 om_Z_digest rfl [.ref 17, .null, .null, .null, .null] rfl rfl (g_Z_digest_0 ?_)
  refine am_R_le (xs := [.ref 17, .long (hsn (lN 3461) (fun k => zcn k w) 0), .null, .int (nI 0), .null]) (by repeat' (first | exact trivial | exact Or.inr rfl | exact Or.inl rfl | exact Or.inr (congrArg Value.int (nI_succ _)) | refine ⟨?_, ?_⟩)) ?_
  show am_R am_S0 mt_Z_digest 1 11 [.ref 17, .long (hsn (lN 3461) (fun k => zcn k w) 0), .null, .int (nI 0), .null] [] (am_set M 17 (upd (M 17) 0 (nI 0))) K
  generalize am_set M 17 (upd (M 17) 0 (nI 0)) = M1 at hr1 hf1 ⊢
  refine lu (P := fun i => am_R am_S0 mt_Z_digest 1 11 [.ref 17, .long (hsn (lN 3461) (fun k => zcn k w) i), .null, .int (nI i), .null] [] M1 K) 10 ?_ ?_
  · exact g_Z_digest_11 ⟨fun _ => am_R_le (xs := [.ref 17, .long (hsn (lN 3461) (fun k => zcn k w) 10), .null, .null, .null]) (by repeat' (first | exact trivial | exact Or.inr rfl | exact Or.inl rfl | exact Or.inr (congrArg Value.int (nI_succ _)) | refine ⟨?_, ?_⟩)) (z36 M1 (hsn (lN 3461) (fun k => zcn k w) 10) hr1 hf1 (by unfold m_dig; rfl)), fun c => absurd (i_le (Nat.le_refl 10) (by decide)) c⟩
  · intro i hi ih
    exact g_Z_digest_11 ⟨fun c => absurd c (i_nge hi (by decide)), fun _ => c_Z_countNow (k := i) hr1 (by omega) (am_R_le (by repeat' (first | exact trivial | exact Or.inr rfl | exact Or.inl rfl | exact Or.inr (congrArg Value.int (nI_succ _)) | refine ⟨?_, ?_⟩)) ih)⟩
