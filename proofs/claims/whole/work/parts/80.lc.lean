/-! the law's cases, written by wip/whole/mkL.py -/
theorem am_R_n1 {L : am_S} {t : am_MT} {n pc : Nat} {ls st : List Value} {M : am_M} {Q : am_Q} (k : am_R L t n pc ls st M Q) : am_R L t (n + 1) pc ls st M Q := by
  intro p l e R s m args below meth c a D g A cells slots QQ hE hC h1 h2 hEnd H locs la hW hL
  refine k p l e R s m args below meth c a D g A cells slots QQ hE hC (by omega) (by omega) (fun i hi hg => ?_) H locs la hW hL
  obtain ⟨e1, e2, e3⟩ := hEnd i (by omega) hg
  exact ⟨e1, fun E M H locs pc la rest q ce a1 a2 a3 a4 a5 a6 a7 => e2 E M H locs pc la rest q ce a1 a2 a3 a4 a5 a6 (by omega), fun x M H locs pc la rest ik ii ic a1 a2 a3 a4 a5 => e3 x M H locs pc la rest ik ii ic a1 a2 a3 a4 (by omega)⟩
theorem vr_zf {M M' : am_M} {w : wS} (h : vr M w) (f : zf M M') : vr M' w := vr_of h (fun o q => f o (by omega))
theorem zr_lF {M M' : am_M} {w : wS} (h : zr M w) (f : lF M M') : zr M' w := zr_of h (fun o a b => f o a (by omega))
theorem zr_vf {M M' : am_M} {w : wS} (h : zr M w) (f : vf M M') : zr M' w := zr_of h (fun o a b => f o a)
theorem lg_same (x : Int64) : lg_cmp x x = 0 := (lg_cmp_eq x x).mpr rfl
theorem ix6 (j k : Nat) : nI (6 * j) + nI k = nI (6 * j + k) := nI_add _ _
theorem l_1574 {L : am_S} {n j : Nat} {x y z v : Value} {M : am_M} {Q : am_Q} (hL : L.1 < 2 ^ 31) (h : am_R L mt_L_law n 23 [.ref 27, .ref 0, .ref 17, .ref 26, .int (nI (6 * (j + 1))), .null, .null, .null, .null] [] M Q) : am_R L mt_L_law n 1574 [.ref 27, .ref 0, .ref 17, .ref 26, .int (nI (6 * j)), x, y, z, v] [] M Q := by
  refine g_L_law_1574 hL ?_
  have e : nI (6 * j) + nI 6 = nI (6 * (j + 1)) := by rw [nI_add]; congr 1
  rw [← e] at h
  exact am_R_le (by repeat' (first | exact trivial | exact Or.inr rfl | exact Or.inl rfl | refine ⟨?_, ?_⟩)) h
theorem l_fill {L : am_S} {n j : Nat} {w : wS} {M : am_M} {Q : am_Q} (hL : L.1 ≤ 3072) (hj : 6 * j + 6 ≤ L.1) (hn : j ≤ 600) (hr : vr M w) (hz : zr M w) (hk : wk j w) (next : ∀ M' w', vr M' w' → zr M' w' → wk (j + 1) w' → am_R L mt_L_law (n + 1) 23 [.ref 27, .ref 0, .ref 17, .ref 26, .int (nI (6 * (j + 1))), .null, .null, .null, .null] [] M' Q) : am_R L mt_L_law (n + 1 + 1) 160 [.ref 27, .ref 0, .ref 17, .ref 26, .int (nI (6 * j)), .null, .null, .null, .null] [] M Q := by
  have h31 : L.1 < 2 ^ 31 := by omega
  refine g_L_law_160 h31 ⟨6 * j + 1, ix6 j 1, by show _ < L.1; omega, ⟨6 * j + 2, ix6 j 2, by show _ < L.1; omega, c_L_fill (p := L.2 (6 * j + 1)) (q := L.2 (6 * j + 2)) hr hk (fun M1 r1 f1 e1 => ⟨6 * j + 1, ix6 j 1, by show _ < L.1; omega, ⟨6 * j + 2, ix6 j 2, by show _ < L.1; omega, c_Z_fill (p := L.2 (6 * j + 1)) (q := L.2 (6 * j + 2)) (zr_lF hz f1) (fun M2 z2 f2 t2 => c_Z_thrown ?_)⟩⟩)⟩⟩
  have hB := b_L_fill (p := L.2 (6 * j + 1)) (q := L.2 (6 * j + 2)) (w := w)
  have hk2 : wk (j + 1) (m_fill (L.2 (6 * j + 1)) (L.2 (6 * j + 2)) w).2.2 := k_fill hn hk
  have e26 : M2 26 0 = M1 26 0 := by rw [f2 26 (by decide)]
  generalize m_fill (L.2 (6 * j + 1)) (L.2 (6 * j + 2)) w = mm at hB r1 e1 z2 t2 hk2 ⊢
  obtain ⟨cd, an, w'⟩ := mm
  refine ⟨fun _ => g_L_law_208 h31 ⟨fun _ => ?_, fun c => ⟨0, rfl, by show 0 < 1; decide, fun _ => ?_, fun c2 => ?_⟩⟩, fun c => absurd t2 c⟩
  · exact g_L_law_225 h31 (l_1574 h31 (next M2 w' (vr_zf r1 f2) z2 hk2))
  · exact g_L_law_225 h31 (l_1574 h31 (next M2 w' (vr_zf r1 f2) z2 hk2))
  · have hcd : nI cd = 0 := Classical.not_not.mp c
    have hB' : cd ≤ 3 := Nat.le_trans hB (by decide)
    have h0 : cd = 0 := (nI_eq (a := cd) (b := 0) (by omega) (by decide)).mp hcd
    have c2' : ¬ lg_cmp (M2 26 0).toInt64 an.toInt64 = 0 := c2
    rw [e26, e1 h0, lg_same] at c2'
    exact absurd rfl c2'
theorem l_dye {L : am_S} {n j : Nat} {w : wS} {M : am_M} {Q : am_Q} (hL : L.1 ≤ 3072) (hj : 6 * j + 6 ≤ L.1) (hn : j ≤ 600) (hr : vr M w) (hz : zr M w) (hk : wk j w) (next : ∀ M' w', vr M' w' → zr M' w' → wk (j + 1) w' → am_R L mt_L_law (n + 1) 23 [.ref 27, .ref 0, .ref 17, .ref 26, .int (nI (6 * (j + 1))), .null, .null, .null, .null] [] M' Q) : am_R L mt_L_law (n + 1 + 1) 228 [.ref 27, .ref 0, .ref 17, .ref 26, .int (nI (6 * j)), .null, .null, .null, .null] [] M Q := by
  have h31 : L.1 < 2 ^ 31 := by omega
  refine g_L_law_228 h31 ⟨6 * j + 1, ix6 j 1, by show _ < L.1; omega, ⟨6 * j + 2, ix6 j 2, by show _ < L.1; omega, ⟨6 * j + 3, ix6 j 3, by show _ < L.1; omega, c_L_dye (p := L.2 (6 * j + 1)) (q := L.2 (6 * j + 2)) (s := L.2 (6 * j + 3)) hr hk (fun M1 r1 f1 e1 => ⟨6 * j + 1, ix6 j 1, by show _ < L.1; omega, ⟨6 * j + 2, ix6 j 2, by show _ < L.1; omega, ⟨6 * j + 3, ix6 j 3, by show _ < L.1; omega, c_Z_dye (p := L.2 (6 * j + 1)) (d := L.2 (6 * j + 2)) (q := L.2 (6 * j + 3)) (zr_lF hz f1) (fun M2 z2 f2 t2 => c_Z_thrown ?_)⟩⟩⟩)⟩⟩⟩
  have hB := b_L_dye (p := L.2 (6 * j + 1)) (q := L.2 (6 * j + 2)) (s := L.2 (6 * j + 3)) (w := w)
  have hk2 : wk (j + 1) (m_dye (L.2 (6 * j + 1)) (L.2 (6 * j + 2)) (L.2 (6 * j + 3)) w).2.2 := k_dye hk
  have e26 : M2 26 0 = M1 26 0 := by rw [f2 26 (by decide)]
  generalize m_dye (L.2 (6 * j + 1)) (L.2 (6 * j + 2)) (L.2 (6 * j + 3)) w = mm at hB r1 e1 z2 t2 hk2 ⊢
  obtain ⟨cd, an, w'⟩ := mm
  refine ⟨fun _ => g_L_law_288 h31 ⟨fun _ => ?_, fun c => ⟨0, rfl, by show 0 < 1; decide, fun _ => ?_, fun c2 => ?_⟩⟩, fun c => absurd t2 c⟩
  · exact g_L_law_305 h31 (l_1574 h31 (next M2 w' (vr_zf r1 f2) z2 hk2))
  · exact g_L_law_305 h31 (l_1574 h31 (next M2 w' (vr_zf r1 f2) z2 hk2))
  · have hcd : nI cd = 0 := Classical.not_not.mp c
    have hB' : cd ≤ 3 := Nat.le_trans hB (by decide)
    have h0 : cd = 0 := (nI_eq (a := cd) (b := 0) (by omega) (by decide)).mp hcd
    have c2' : ¬ lg_cmp (M2 26 0).toInt64 an.toInt64 = 0 := c2
    rw [e26, e1 h0, lg_same] at c2'
    exact absurd rfl c2'
theorem l_stir {L : am_S} {n j : Nat} {w : wS} {M : am_M} {Q : am_Q} (hL : L.1 ≤ 3072) (hj : 6 * j + 6 ≤ L.1) (hn : j ≤ 600) (hr : vr M w) (hz : zr M w) (hk : wk j w) (next : ∀ M' w', vr M' w' → zr M' w' → wk (j + 1) w' → am_R L mt_L_law (n + 1) 23 [.ref 27, .ref 0, .ref 17, .ref 26, .int (nI (6 * (j + 1))), .null, .null, .null, .null] [] M' Q) : am_R L mt_L_law (n + 1 + 1) 308 [.ref 27, .ref 0, .ref 17, .ref 26, .int (nI (6 * j)), .null, .null, .null, .null] [] M Q := by
  have h31 : L.1 < 2 ^ 31 := by omega
  refine g_L_law_308 h31 ⟨6 * j + 1, ix6 j 1, by show _ < L.1; omega, c_L_stir (p := L.2 (6 * j + 1)) hr hk (fun M1 r1 f1 e1 => ⟨6 * j + 1, ix6 j 1, by show _ < L.1; omega, c_Z_stir (p := L.2 (6 * j + 1)) (zr_lF hz f1) (fun M2 z2 f2 t2 => c_Z_thrown ?_)⟩)⟩
  have hB := b_L_stir (p := L.2 (6 * j + 1)) (w := w)
  have hk2 : wk (j + 1) (m_stir (L.2 (6 * j + 1)) w).2.2 := k_stir hk
  have e26 : M2 26 0 = M1 26 0 := by rw [f2 26 (by decide)]
  generalize m_stir (L.2 (6 * j + 1)) w = mm at hB r1 e1 z2 t2 hk2 ⊢
  obtain ⟨cd, an, w'⟩ := mm
  refine ⟨fun _ => g_L_law_344 h31 ⟨fun _ => ?_, fun c => ⟨0, rfl, by show 0 < 1; decide, fun _ => ?_, fun c2 => ?_⟩⟩, fun c => absurd t2 c⟩
  · exact g_L_law_361 h31 (l_1574 h31 (next M2 w' (vr_zf r1 f2) z2 hk2))
  · exact g_L_law_361 h31 (l_1574 h31 (next M2 w' (vr_zf r1 f2) z2 hk2))
  · have hcd : nI cd = 0 := Classical.not_not.mp c
    have hB' : cd ≤ 3 := Nat.le_trans hB (by decide)
    have h0 : cd = 0 := (nI_eq (a := cd) (b := 0) (by omega) (by decide)).mp hcd
    have c2' : ¬ lg_cmp (M2 26 0).toInt64 an.toInt64 = 0 := c2
    rw [e26, e1 h0, lg_same] at c2'
    exact absurd rfl c2'
theorem l_capacity {L : am_S} {n j : Nat} {w : wS} {M : am_M} {Q : am_Q} (hL : L.1 ≤ 3072) (hj : 6 * j + 6 ≤ L.1) (hn : j ≤ 600) (hr : vr M w) (hz : zr M w) (hk : wk j w) (next : ∀ M' w', vr M' w' → zr M' w' → wk (j + 1) w' → am_R L mt_L_law (n + 1) 23 [.ref 27, .ref 0, .ref 17, .ref 26, .int (nI (6 * (j + 1))), .null, .null, .null, .null] [] M' Q) : am_R L mt_L_law (n + 1 + 1) 364 [.ref 27, .ref 0, .ref 17, .ref 26, .int (nI (6 * j)), .null, .null, .null, .null] [] M Q := by
  have h31 : L.1 < 2 ^ 31 := by omega
  refine g_L_law_364 h31 ⟨6 * j + 1, ix6 j 1, by show _ < L.1; omega, ⟨6 * j + 2, ix6 j 2, by show _ < L.1; omega, c_L_capacity (p := L.2 (6 * j + 1)) (q := L.2 (6 * j + 2)) hr hk (fun M1 r1 f1 e1 => ⟨6 * j + 1, ix6 j 1, by show _ < L.1; omega, ⟨6 * j + 2, ix6 j 2, by show _ < L.1; omega, c_Z_capacity (p := L.2 (6 * j + 1)) (q := L.2 (6 * j + 2)) (zr_lF hz f1) (fun M2 z2 f2 t2 => c_Z_thrown ?_)⟩⟩)⟩⟩
  have hB := b_L_capacity (p := L.2 (6 * j + 1)) (q := L.2 (6 * j + 2)) (w := w)
  have hk2 : wk (j + 1) (m_cap (L.2 (6 * j + 1)) (L.2 (6 * j + 2)) w).2.2 := k_cap hk
  have e26 : M2 26 0 = M1 26 0 := by rw [f2 26 (by decide)]
  generalize m_cap (L.2 (6 * j + 1)) (L.2 (6 * j + 2)) w = mm at hB r1 e1 z2 t2 hk2 ⊢
  obtain ⟨cd, an, w'⟩ := mm
  refine ⟨fun _ => g_L_law_412 h31 ⟨fun _ => ?_, fun c => ⟨0, rfl, by show 0 < 1; decide, fun _ => ?_, fun c2 => ?_⟩⟩, fun c => absurd t2 c⟩
  · exact g_L_law_429 h31 (l_1574 h31 (next M2 w' (vr_zf r1 f2) z2 hk2))
  · exact g_L_law_429 h31 (l_1574 h31 (next M2 w' (vr_zf r1 f2) z2 hk2))
  · have hcd : nI cd = 0 := Classical.not_not.mp c
    have hB' : cd ≤ 3 := Nat.le_trans hB (by decide)
    have h0 : cd = 0 := (nI_eq (a := cd) (b := 0) (by omega) (by decide)).mp hcd
    have c2' : ¬ lg_cmp (M2 26 0).toInt64 an.toInt64 = 0 := c2
    rw [e26, e1 h0, lg_same] at c2'
    exact absurd rfl c2'
theorem l_valve {L : am_S} {n j : Nat} {w : wS} {M : am_M} {Q : am_Q} (hL : L.1 ≤ 3072) (hj : 6 * j + 6 ≤ L.1) (hn : j ≤ 600) (hr : vr M w) (hz : zr M w) (hk : wk j w) (next : ∀ M' w', vr M' w' → zr M' w' → wk (j + 1) w' → am_R L mt_L_law (n + 1) 23 [.ref 27, .ref 0, .ref 17, .ref 26, .int (nI (6 * (j + 1))), .null, .null, .null, .null] [] M' Q) : am_R L mt_L_law (n + 1 + 1) 432 [.ref 27, .ref 0, .ref 17, .ref 26, .int (nI (6 * j)), .null, .null, .null, .null] [] M Q := by
  have h31 : L.1 < 2 ^ 31 := by omega
  refine g_L_law_432 h31 ⟨6 * j + 1, ix6 j 1, by show _ < L.1; omega, ⟨6 * j + 2, ix6 j 2, by show _ < L.1; omega, ⟨6 * j + 3, ix6 j 3, by show _ < L.1; omega, ⟨6 * j + 4, ix6 j 4, by show _ < L.1; omega, ⟨6 * j + 5, ix6 j 5, by show _ < L.1; omega, c_L_valve (p := L.2 (6 * j + 1)) (q := L.2 (6 * j + 2)) (s := L.2 (6 * j + 3)) (t := L.2 (6 * j + 4)) (u := L.2 (6 * j + 5)) hr hk (fun M1 r1 f1 e1 => ⟨6 * j + 1, ix6 j 1, by show _ < L.1; omega, ⟨6 * j + 2, ix6 j 2, by show _ < L.1; omega, ⟨6 * j + 3, ix6 j 3, by show _ < L.1; omega, ⟨6 * j + 4, ix6 j 4, by show _ < L.1; omega, ⟨6 * j + 5, ix6 j 5, by show _ < L.1; omega, c_Z_valve (f := L.2 (6 * j + 1)) (t := L.2 (6 * j + 2)) (r := L.2 (6 * j + 3)) (a := L.2 (6 * j + 4)) (b := L.2 (6 * j + 5)) (zr_lF hz f1) hk (fun M2 z2 f2 t2 => c_Z_thrown ?_)⟩⟩⟩⟩⟩)⟩⟩⟩⟩⟩
  have hB := b_L_valve (p := L.2 (6 * j + 1)) (q := L.2 (6 * j + 2)) (s := L.2 (6 * j + 3)) (t := L.2 (6 * j + 4)) (u := L.2 (6 * j + 5)) (w := w)
  have hk2 : wk (j + 1) (m_valve (L.2 (6 * j + 1)) (L.2 (6 * j + 2)) (L.2 (6 * j + 3)) (L.2 (6 * j + 4)) (L.2 (6 * j + 5)) w).2.2 := k_valve hk
  have e26 : M2 26 0 = M1 26 0 := by rw [f2 26 (by decide)]
  generalize m_valve (L.2 (6 * j + 1)) (L.2 (6 * j + 2)) (L.2 (6 * j + 3)) (L.2 (6 * j + 4)) (L.2 (6 * j + 5)) w = mm at hB r1 e1 z2 t2 hk2 ⊢
  obtain ⟨cd, an, w'⟩ := mm
  refine ⟨fun _ => g_L_law_516 h31 ⟨fun _ => ?_, fun c => ⟨0, rfl, by show 0 < 1; decide, fun _ => ?_, fun c2 => ?_⟩⟩, fun c => absurd t2 c⟩
  · exact g_L_law_533 h31 (l_1574 h31 (next M2 w' (vr_zf r1 f2) z2 hk2))
  · exact g_L_law_533 h31 (l_1574 h31 (next M2 w' (vr_zf r1 f2) z2 hk2))
  · have hcd : nI cd = 0 := Classical.not_not.mp c
    have hB' : cd ≤ 3 := Nat.le_trans hB (by decide)
    have h0 : cd = 0 := (nI_eq (a := cd) (b := 0) (by omega) (by decide)).mp hcd
    have c2' : ¬ lg_cmp (M2 26 0).toInt64 an.toInt64 = 0 := c2
    rw [e26, e1 h0, lg_same] at c2'
    exact absurd rfl c2'
theorem l_close {L : am_S} {n j : Nat} {w : wS} {M : am_M} {Q : am_Q} (hL : L.1 ≤ 3072) (hj : 6 * j + 6 ≤ L.1) (hn : j ≤ 600) (hr : vr M w) (hz : zr M w) (hk : wk j w) (next : ∀ M' w', vr M' w' → zr M' w' → wk (j + 1) w' → am_R L mt_L_law (n + 1) 23 [.ref 27, .ref 0, .ref 17, .ref 26, .int (nI (6 * (j + 1))), .null, .null, .null, .null] [] M' Q) : am_R L mt_L_law (n + 1 + 1) 536 [.ref 27, .ref 0, .ref 17, .ref 26, .int (nI (6 * j)), .null, .null, .null, .null] [] M Q := by
  have h31 : L.1 < 2 ^ 31 := by omega
  refine g_L_law_536 h31 ⟨6 * j + 1, ix6 j 1, by show _ < L.1; omega, c_L_close (p := L.2 (6 * j + 1)) hr hk (fun M1 r1 f1 e1 => ⟨6 * j + 1, ix6 j 1, by show _ < L.1; omega, c_Z_close (p := L.2 (6 * j + 1)) (zr_lF hz f1) hk (fun M2 z2 f2 t2 => c_Z_thrown ?_)⟩)⟩
  have hB := b_L_close (p := L.2 (6 * j + 1)) (w := w)
  have hk2 : wk (j + 1) (m_close (L.2 (6 * j + 1)) w).2.2 := k_close hk
  have e26 : M2 26 0 = M1 26 0 := by rw [f2 26 (by decide)]
  generalize m_close (L.2 (6 * j + 1)) w = mm at hB r1 e1 z2 t2 hk2 ⊢
  obtain ⟨cd, an, w'⟩ := mm
  refine ⟨fun _ => g_L_law_572 h31 ⟨fun _ => ?_, fun c => ⟨0, rfl, by show 0 < 1; decide, fun _ => ?_, fun c2 => ?_⟩⟩, fun c => absurd t2 c⟩
  · exact g_L_law_589 h31 (l_1574 h31 (next M2 w' (vr_zf r1 f2) z2 hk2))
  · exact g_L_law_589 h31 (l_1574 h31 (next M2 w' (vr_zf r1 f2) z2 hk2))
  · have hcd : nI cd = 0 := Classical.not_not.mp c
    have hB' : cd ≤ 3 := Nat.le_trans hB (by decide)
    have h0 : cd = 0 := (nI_eq (a := cd) (b := 0) (by omega) (by decide)).mp hcd
    have c2' : ¬ lg_cmp (M2 26 0).toInt64 an.toInt64 = 0 := c2
    rw [e26, e1 h0, lg_same] at c2'
    exact absurd rfl c2'
theorem l_pipe {L : am_S} {n j : Nat} {w : wS} {M : am_M} {Q : am_Q} (hL : L.1 ≤ 3072) (hj : 6 * j + 6 ≤ L.1) (hn : j ≤ 600) (hr : vr M w) (hz : zr M w) (hk : wk j w) (next : ∀ M' w', vr M' w' → zr M' w' → wk (j + 1) w' → am_R L mt_L_law (n + 1) 23 [.ref 27, .ref 0, .ref 17, .ref 26, .int (nI (6 * (j + 1))), .null, .null, .null, .null] [] M' Q) : am_R L mt_L_law (n + 1 + 1) 592 [.ref 27, .ref 0, .ref 17, .ref 26, .int (nI (6 * j)), .null, .null, .null, .null] [] M Q := by
  have h31 : L.1 < 2 ^ 31 := by omega
  refine g_L_law_592 h31 ⟨6 * j + 1, ix6 j 1, by show _ < L.1; omega, ⟨6 * j + 2, ix6 j 2, by show _ < L.1; omega, c_L_pipe (p := L.2 (6 * j + 1)) (q := L.2 (6 * j + 2)) hr hk (fun M1 r1 f1 e1 => ⟨6 * j + 1, ix6 j 1, by show _ < L.1; omega, ⟨6 * j + 2, ix6 j 2, by show _ < L.1; omega, c_Z_pipe (p := L.2 (6 * j + 1)) (q := L.2 (6 * j + 2)) (zr_lF hz f1) (fun M2 z2 f2 t2 => c_Z_thrown ?_)⟩⟩)⟩⟩
  have hB := b_L_pipe (p := L.2 (6 * j + 1)) (q := L.2 (6 * j + 2)) (w := w)
  have hk2 : wk (j + 1) (m_pipe (L.2 (6 * j + 1)) (L.2 (6 * j + 2)) w).2.2 := k_pipe hk
  have e26 : M2 26 0 = M1 26 0 := by rw [f2 26 (by decide)]
  generalize m_pipe (L.2 (6 * j + 1)) (L.2 (6 * j + 2)) w = mm at hB r1 e1 z2 t2 hk2 ⊢
  obtain ⟨cd, an, w'⟩ := mm
  refine ⟨fun _ => g_L_law_640 h31 ⟨fun _ => ?_, fun c => ⟨0, rfl, by show 0 < 1; decide, fun _ => ?_, fun c2 => ?_⟩⟩, fun c => absurd t2 c⟩
  · exact g_L_law_657 h31 (l_1574 h31 (next M2 w' (vr_zf r1 f2) z2 hk2))
  · exact g_L_law_657 h31 (l_1574 h31 (next M2 w' (vr_zf r1 f2) z2 hk2))
  · have hcd : nI cd = 0 := Classical.not_not.mp c
    have hB' : cd ≤ 3 := Nat.le_trans hB (by decide)
    have h0 : cd = 0 := (nI_eq (a := cd) (b := 0) (by omega) (by decide)).mp hcd
    have c2' : ¬ lg_cmp (M2 26 0).toInt64 an.toInt64 = 0 := c2
    rw [e26, e1 h0, lg_same] at c2'
    exact absurd rfl c2'
theorem l_set {L : am_S} {n j : Nat} {w : wS} {M : am_M} {Q : am_Q} (hL : L.1 ≤ 3072) (hj : 6 * j + 6 ≤ L.1) (hn : j ≤ 600) (hr : vr M w) (hz : zr M w) (hk : wk j w) (next : ∀ M' w', vr M' w' → zr M' w' → wk (j + 1) w' → am_R L mt_L_law (n + 1) 23 [.ref 27, .ref 0, .ref 17, .ref 26, .int (nI (6 * (j + 1))), .null, .null, .null, .null] [] M' Q) : am_R L mt_L_law (n + 1 + 1) 660 [.ref 27, .ref 0, .ref 17, .ref 26, .int (nI (6 * j)), .null, .null, .null, .null] [] M Q := by
  have h31 : L.1 < 2 ^ 31 := by omega
  refine g_L_law_660 h31 ⟨6 * j + 1, ix6 j 1, by show _ < L.1; omega, c_L_set (p := L.2 (6 * j + 1)) hr hk (fun M1 r1 f1 e1 => ⟨6 * j + 1, ix6 j 1, by show _ < L.1; omega, c_Z_set (p := L.2 (6 * j + 1)) (zr_lF hz f1) (fun M2 z2 f2 t2 => c_Z_thrown ?_)⟩)⟩
  have hB := b_L_set (p := L.2 (6 * j + 1)) (w := w)
  have hk2 : wk (j + 1) (m_set (L.2 (6 * j + 1)) w).2.2 := k_set hk
  have e26 : M2 26 0 = M1 26 0 := by rw [f2 26 (by decide)]
  generalize m_set (L.2 (6 * j + 1)) w = mm at hB r1 e1 z2 t2 hk2 ⊢
  obtain ⟨cd, an, w'⟩ := mm
  refine ⟨fun _ => g_L_law_696 h31 ⟨fun _ => ?_, fun c => ⟨0, rfl, by show 0 < 1; decide, fun _ => ?_, fun c2 => ?_⟩⟩, fun c => absurd t2 c⟩
  · exact g_L_law_713 h31 (l_1574 h31 (next M2 w' (vr_zf r1 f2) z2 hk2))
  · exact g_L_law_713 h31 (l_1574 h31 (next M2 w' (vr_zf r1 f2) z2 hk2))
  · have hcd : nI cd = 0 := Classical.not_not.mp c
    have hB' : cd ≤ 3 := Nat.le_trans hB (by decide)
    have h0 : cd = 0 := (nI_eq (a := cd) (b := 0) (by omega) (by decide)).mp hcd
    have c2' : ¬ lg_cmp (M2 26 0).toInt64 an.toInt64 = 0 := c2
    rw [e26, e1 h0, lg_same] at c2'
    exact absurd rfl c2'
theorem l_pass {L : am_S} {n j : Nat} {w : wS} {M : am_M} {Q : am_Q} (hL : L.1 ≤ 3072) (hj : 6 * j + 6 ≤ L.1) (hn : j ≤ 600) (hr : vr M w) (hz : zr M w) (hk : wk j w) (next : ∀ M' w', vr M' w' → zr M' w' → wk (j + 1) w' → am_R L mt_L_law (n + 1) 23 [.ref 27, .ref 0, .ref 17, .ref 26, .int (nI (6 * (j + 1))), .null, .null, .null, .null] [] M' Q) : am_R L mt_L_law (n + 1 + 1) 716 [.ref 27, .ref 0, .ref 17, .ref 26, .int (nI (6 * j)), .null, .null, .null, .null] [] M Q := by
  have h31 : L.1 < 2 ^ 31 := by omega
  refine g_L_law_716 h31 ⟨6 * j + 1, ix6 j 1, by show _ < L.1; omega, c_L_pass (p := L.2 (6 * j + 1)) hr hk (fun M1 r1 f1 e1 => ⟨6 * j + 1, ix6 j 1, by show _ < L.1; omega, c_Z_pass (p := L.2 (6 * j + 1)) (zr_lF hz f1) hk (fun M2 z2 f2 t2 => c_Z_thrown ?_)⟩)⟩
  have hB := b_L_pass (p := L.2 (6 * j + 1)) (w := w)
  have hk2 : wk (j + 1) (m_pass (L.2 (6 * j + 1)) w).2.2 := k_pass hk
  have e26 : M2 26 0 = M1 26 0 := by rw [f2 26 (by decide)]
  generalize m_pass (L.2 (6 * j + 1)) w = mm at hB r1 e1 z2 t2 hk2 ⊢
  obtain ⟨cd, an, w'⟩ := mm
  refine ⟨fun _ => g_L_law_752 h31 ⟨fun _ => ?_, fun c => ⟨0, rfl, by show 0 < 1; decide, fun _ => ?_, fun c2 => ?_⟩⟩, fun c => absurd t2 c⟩
  · exact g_L_law_769 h31 (l_1574 h31 (next M2 w' (vr_zf r1 f2) z2 hk2))
  · exact g_L_law_769 h31 (l_1574 h31 (next M2 w' (vr_zf r1 f2) z2 hk2))
  · have hcd : nI cd = 0 := Classical.not_not.mp c
    have hB' : cd ≤ 3 := Nat.le_trans hB (by decide)
    have h0 : cd = 0 := (nI_eq (a := cd) (b := 0) (by omega) (by decide)).mp hcd
    have c2' : ¬ lg_cmp (M2 26 0).toInt64 an.toInt64 = 0 := c2
    rw [e26, e1 h0, lg_same] at c2'
    exact absurd rfl c2'
theorem l_append {L : am_S} {n j : Nat} {w : wS} {M : am_M} {Q : am_Q} (hL : L.1 ≤ 3072) (hj : 6 * j + 6 ≤ L.1) (hn : j ≤ 600) (hr : vr M w) (hz : zr M w) (hk : wk j w) (next : ∀ M' w', vr M' w' → zr M' w' → wk (j + 1) w' → am_R L mt_L_law (n + 1) 23 [.ref 27, .ref 0, .ref 17, .ref 26, .int (nI (6 * (j + 1))), .null, .null, .null, .null] [] M' Q) : am_R L mt_L_law (n + 1 + 1) 772 [.ref 27, .ref 0, .ref 17, .ref 26, .int (nI (6 * j)), .null, .null, .null, .null] [] M Q := by
  have h31 : L.1 < 2 ^ 31 := by omega
  refine g_L_law_772 h31 ⟨6 * j + 1, ix6 j 1, by show _ < L.1; omega, c_L_append (p := L.2 (6 * j + 1)) hr hk (fun M1 r1 f1 e1 => ⟨6 * j + 1, ix6 j 1, by show _ < L.1; omega, c_Z_append (p := L.2 (6 * j + 1)) (zr_lF hz f1) (fun M2 z2 f2 t2 => c_Z_thrown ?_)⟩)⟩
  have hB := b_L_append (p := L.2 (6 * j + 1)) (w := w)
  have hk2 : wk (j + 1) (m_app (L.2 (6 * j + 1)) w).2.2 := k_app hk
  have e26 : M2 26 0 = M1 26 0 := by rw [f2 26 (by decide)]
  generalize m_app (L.2 (6 * j + 1)) w = mm at hB r1 e1 z2 t2 hk2 ⊢
  obtain ⟨cd, an, w'⟩ := mm
  refine ⟨fun _ => g_L_law_808 h31 ⟨fun _ => ?_, fun c => ⟨0, rfl, by show 0 < 1; decide, fun _ => ?_, fun c2 => ?_⟩⟩, fun c => absurd t2 c⟩
  · exact g_L_law_825 h31 (l_1574 h31 (next M2 w' (vr_zf r1 f2) z2 hk2))
  · exact g_L_law_825 h31 (l_1574 h31 (next M2 w' (vr_zf r1 f2) z2 hk2))
  · have hcd : nI cd = 0 := Classical.not_not.mp c
    have hB' : cd ≤ 3 := Nat.le_trans hB (by decide)
    have h0 : cd = 0 := (nI_eq (a := cd) (b := 0) (by omega) (by decide)).mp hcd
    have c2' : ¬ lg_cmp (M2 26 0).toInt64 an.toInt64 = 0 := c2
    rw [e26, e1 h0, lg_same] at c2'
    exact absurd rfl c2'
theorem l_load {L : am_S} {n j : Nat} {w : wS} {M : am_M} {Q : am_Q} (hL : L.1 ≤ 3072) (hj : 6 * j + 6 ≤ L.1) (hn : j ≤ 600) (hr : vr M w) (hz : zr M w) (hk : wk j w) (next : ∀ M' w', vr M' w' → zr M' w' → wk (j + 1) w' → am_R L mt_L_law (n + 1) 23 [.ref 27, .ref 0, .ref 17, .ref 26, .int (nI (6 * (j + 1))), .null, .null, .null, .null] [] M' Q) : am_R L mt_L_law (n + 1 + 1) 854 [.ref 27, .ref 0, .ref 17, .ref 26, .int (nI (6 * j)), .null, .null, .null, .null] [] M Q := by
  have h31 : L.1 < 2 ^ 31 := by omega
  refine g_L_law_854 h31 (c_L_load hr hk (fun M1 r1 f1 e1 => c_Z_load (zr_lF hz f1) hk (fun M2 z2 f2 t2 => c_Z_thrown ?_)))
  have hB := b_L_load (w := w)
  have hk2 : wk (j + 1) (m_load w).2.2 := k_load hk
  have e26 : M2 26 0 = M1 26 0 := by rw [f2 26 (by decide)]
  generalize m_load w = mm at hB r1 e1 z2 t2 hk2 ⊢
  obtain ⟨cd, an, w'⟩ := mm
  refine ⟨fun _ => g_L_law_878 h31 ⟨fun _ => ?_, fun c => ⟨0, rfl, by show 0 < 1; decide, fun _ => ?_, fun c2 => ?_⟩⟩, fun c => absurd t2 c⟩
  · exact g_L_law_895 h31 (l_1574 h31 (next M2 w' (vr_zf r1 f2) z2 hk2))
  · exact g_L_law_895 h31 (l_1574 h31 (next M2 w' (vr_zf r1 f2) z2 hk2))
  · have hcd : nI cd = 0 := Classical.not_not.mp c
    have hB' : cd ≤ 3 := Nat.le_trans hB (by decide)
    have h0 : cd = 0 := (nI_eq (a := cd) (b := 0) (by omega) (by decide)).mp hcd
    have c2' : ¬ lg_cmp (M2 26 0).toInt64 an.toInt64 = 0 := c2
    rw [e26, e1 h0, lg_same] at c2'
    exact absurd rfl c2'
theorem l_keep {L : am_S} {n j : Nat} {w : wS} {M : am_M} {Q : am_Q} (hL : L.1 ≤ 3072) (hj : 6 * j + 6 ≤ L.1) (hn : j ≤ 600) (hr : vr M w) (hz : zr M w) (hk : wk j w) (next : ∀ M' w', vr M' w' → zr M' w' → wk (j + 1) w' → am_R L mt_L_law (n + 1) 23 [.ref 27, .ref 0, .ref 17, .ref 26, .int (nI (6 * (j + 1))), .null, .null, .null, .null] [] M' Q) : am_R L mt_L_law (n + 1 + 1) 898 [.ref 27, .ref 0, .ref 17, .ref 26, .int (nI (6 * j)), .null, .null, .null, .null] [] M Q := by
  have h31 : L.1 < 2 ^ 31 := by omega
  refine g_L_law_898 h31 ⟨6 * j + 1, ix6 j 1, by show _ < L.1; omega, c_L_keep (p := L.2 (6 * j + 1)) hr hk (fun M1 r1 f1 e1 => ⟨6 * j + 1, ix6 j 1, by show _ < L.1; omega, c_Z_keep (p := L.2 (6 * j + 1)) (zr_lF hz f1) (fun M2 z2 f2 t2 => c_Z_thrown ?_)⟩)⟩
  have hB := b_L_keep (p := L.2 (6 * j + 1)) (w := w)
  have hk2 : wk (j + 1) (m_keep (L.2 (6 * j + 1)) w).2.2 := k_keep hk
  have e26 : M2 26 0 = M1 26 0 := by rw [f2 26 (by decide)]
  generalize m_keep (L.2 (6 * j + 1)) w = mm at hB r1 e1 z2 t2 hk2 ⊢
  obtain ⟨cd, an, w'⟩ := mm
  refine ⟨fun _ => g_L_law_934 h31 ⟨fun _ => ?_, fun c => ⟨0, rfl, by show 0 < 1; decide, fun _ => ?_, fun c2 => ?_⟩⟩, fun c => absurd t2 c⟩
  · exact g_L_law_951 h31 (l_1574 h31 (next M2 w' (vr_zf r1 f2) z2 hk2))
  · exact g_L_law_951 h31 (l_1574 h31 (next M2 w' (vr_zf r1 f2) z2 hk2))
  · have hcd : nI cd = 0 := Classical.not_not.mp c
    have hB' : cd ≤ 3 := Nat.le_trans hB (by decide)
    have h0 : cd = 0 := (nI_eq (a := cd) (b := 0) (by omega) (by decide)).mp hcd
    have c2' : ¬ lg_cmp (M2 26 0).toInt64 an.toInt64 = 0 := c2
    rw [e26, e1 h0, lg_same] at c2'
    exact absurd rfl c2'
theorem l_goBack {L : am_S} {n j : Nat} {w : wS} {M : am_M} {Q : am_Q} (hL : L.1 ≤ 3072) (hj : 6 * j + 6 ≤ L.1) (hn : j ≤ 600) (hr : vr M w) (hz : zr M w) (hk : wk j w) (next : ∀ M' w', vr M' w' → zr M' w' → wk (j + 1) w' → am_R L mt_L_law (n + 1) 23 [.ref 27, .ref 0, .ref 17, .ref 26, .int (nI (6 * (j + 1))), .null, .null, .null, .null] [] M' Q) : am_R L mt_L_law (n + 1 + 1) 954 [.ref 27, .ref 0, .ref 17, .ref 26, .int (nI (6 * j)), .null, .null, .null, .null] [] M Q := by
  have h31 : L.1 < 2 ^ 31 := by omega
  refine g_L_law_954 h31 ⟨6 * j + 1, ix6 j 1, by show _ < L.1; omega, c_L_goBack (p := L.2 (6 * j + 1)) hr hk (fun M1 r1 f1 e1 => ⟨6 * j + 1, ix6 j 1, by show _ < L.1; omega, c_Z_goBack (p := L.2 (6 * j + 1)) (zr_lF hz f1) (fun M2 z2 f2 t2 => c_Z_thrown ?_)⟩)⟩
  have hB := b_L_goBack (p := L.2 (6 * j + 1)) (w := w)
  have hk2 : wk (j + 1) (m_back (L.2 (6 * j + 1)) w).2.2 := k_back hk
  have e26 : M2 26 0 = M1 26 0 := by rw [f2 26 (by decide)]
  generalize m_back (L.2 (6 * j + 1)) w = mm at hB r1 e1 z2 t2 hk2 ⊢
  obtain ⟨cd, an, w'⟩ := mm
  refine ⟨fun _ => g_L_law_990 h31 ⟨fun _ => ?_, fun c => ⟨0, rfl, by show 0 < 1; decide, fun _ => ?_, fun c2 => ?_⟩⟩, fun c => absurd t2 c⟩
  · exact g_L_law_1007 h31 (l_1574 h31 (next M2 w' (vr_zf r1 f2) z2 hk2))
  · exact g_L_law_1007 h31 (l_1574 h31 (next M2 w' (vr_zf r1 f2) z2 hk2))
  · have hcd : nI cd = 0 := Classical.not_not.mp c
    have hB' : cd ≤ 3 := Nat.le_trans hB (by decide)
    have h0 : cd = 0 := (nI_eq (a := cd) (b := 0) (by omega) (by decide)).mp hcd
    have c2' : ¬ lg_cmp (M2 26 0).toInt64 an.toInt64 = 0 := c2
    rw [e26, e1 h0, lg_same] at c2'
    exact absurd rfl c2'
theorem l_undo {L : am_S} {n j : Nat} {w : wS} {M : am_M} {Q : am_Q} (hL : L.1 ≤ 3072) (hj : 6 * j + 6 ≤ L.1) (hn : j ≤ 600) (hr : vr M w) (hz : zr M w) (hk : wk j w) (next : ∀ M' w', vr M' w' → zr M' w' → wk (j + 1) w' → am_R L mt_L_law (n + 1) 23 [.ref 27, .ref 0, .ref 17, .ref 26, .int (nI (6 * (j + 1))), .null, .null, .null, .null] [] M' Q) : am_R L mt_L_law (n + 1 + 1) 1010 [.ref 27, .ref 0, .ref 17, .ref 26, .int (nI (6 * j)), .null, .null, .null, .null] [] M Q := by
  have h31 : L.1 < 2 ^ 31 := by omega
  refine g_L_law_1010 h31 (c_L_undo hr hk (fun M1 r1 f1 e1 => c_Z_undo (zr_lF hz f1) (fun M2 z2 f2 t2 => c_Z_thrown ?_)))
  have hB := b_L_undo (w := w)
  have hk2 : wk (j + 1) (m_undo w).2.2 := k_undo hk
  have e26 : M2 26 0 = M1 26 0 := by rw [f2 26 (by decide)]
  generalize m_undo w = mm at hB r1 e1 z2 t2 hk2 ⊢
  obtain ⟨cd, an, w'⟩ := mm
  refine ⟨fun _ => g_L_law_1034 h31 ⟨fun _ => ?_, fun c => ⟨0, rfl, by show 0 < 1; decide, fun _ => ?_, fun c2 => ?_⟩⟩, fun c => absurd t2 c⟩
  · exact g_L_law_1051 h31 (l_1574 h31 (next M2 w' (vr_zf r1 f2) z2 hk2))
  · exact g_L_law_1051 h31 (l_1574 h31 (next M2 w' (vr_zf r1 f2) z2 hk2))
  · have hcd : nI cd = 0 := Classical.not_not.mp c
    have hB' : cd ≤ 3 := Nat.le_trans hB (by decide)
    have h0 : cd = 0 := (nI_eq (a := cd) (b := 0) (by omega) (by decide)).mp hcd
    have c2' : ¬ lg_cmp (M2 26 0).toInt64 an.toInt64 = 0 := c2
    rw [e26, e1 h0, lg_same] at c2'
    exact absurd rfl c2'
theorem l_vatOf {L : am_S} {n j : Nat} {w : wS} {M : am_M} {Q : am_Q} (hL : L.1 ≤ 3072) (hj : 6 * j + 6 ≤ L.1) (hn : j ≤ 600) (hr : vr M w) (hz : zr M w) (hk : wk j w) (next : ∀ M' w', vr M' w' → zr M' w' → wk (j + 1) w' → am_R L mt_L_law (n + 1) 23 [.ref 27, .ref 0, .ref 17, .ref 26, .int (nI (6 * (j + 1))), .null, .null, .null, .null] [] M' Q) : am_R L mt_L_law (n + 1 + 1) 1054 [.ref 27, .ref 0, .ref 17, .ref 26, .int (nI (6 * j)), .null, .null, .null, .null] [] M Q := by
  have h31 : L.1 < 2 ^ 31 := by omega
  refine g_L_law_1054 h31 ⟨6 * j + 1, ix6 j 1, by show _ < L.1; omega, ⟨6 * j + 2, ix6 j 2, by show _ < L.1; omega, c_L_vatOf (p := L.2 (6 * j + 1)) (q := L.2 (6 * j + 2)) hr hk (fun M1 r1 f1 e1 => ⟨6 * j + 1, ix6 j 1, by show _ < L.1; omega, ⟨6 * j + 2, ix6 j 2, by show _ < L.1; omega, c_Z_vatOf (p := L.2 (6 * j + 1)) (q := L.2 (6 * j + 2)) (zr_lF hz f1) (fun M2 z2 f2 t2 => c_Z_thrown ?_)⟩⟩)⟩⟩
  have hB := b_L_vatOf (p := L.2 (6 * j + 1)) (q := L.2 (6 * j + 2)) (w := w)
  have hk2 : wk (j + 1) (m_vatOf (L.2 (6 * j + 1)) (L.2 (6 * j + 2)) w).2.2 := by
    have e : (m_vatOf (L.2 (6 * j + 1)) (L.2 (6 * j + 2)) w).2.2 = w := by unfold m_vatOf; (repeat' split) <;> rfl
    rw [e]
    exact wk_le hk (Nat.le_succ j)
  have e26 : M2 26 0 = M1 26 0 := by rw [f2 26 (by decide)]
  generalize m_vatOf (L.2 (6 * j + 1)) (L.2 (6 * j + 2)) w = mm at hB r1 e1 z2 t2 hk2 ⊢
  obtain ⟨cd, an, w'⟩ := mm
  refine ⟨fun _ => g_L_law_1102 h31 ⟨fun _ => ?_, fun c => ⟨0, rfl, by show 0 < 1; decide, fun _ => ?_, fun c2 => ?_⟩⟩, fun c => absurd t2 c⟩
  · exact g_L_law_1119 h31 (l_1574 h31 (next M2 w' (vr_zf r1 f2) z2 hk2))
  · exact g_L_law_1119 h31 (l_1574 h31 (next M2 w' (vr_zf r1 f2) z2 hk2))
  · have hcd : nI cd = 0 := Classical.not_not.mp c
    have hB' : cd ≤ 3 := Nat.le_trans hB (by decide)
    have h0 : cd = 0 := (nI_eq (a := cd) (b := 0) (by omega) (by decide)).mp hcd
    have c2' : ¬ lg_cmp (M2 26 0).toInt64 an.toInt64 = 0 := c2
    rw [e26, e1 h0, lg_same] at c2'
    exact absurd rfl c2'
theorem l_valveOf {L : am_S} {n j : Nat} {w : wS} {M : am_M} {Q : am_Q} (hL : L.1 ≤ 3072) (hj : 6 * j + 6 ≤ L.1) (hn : j ≤ 600) (hr : vr M w) (hz : zr M w) (hk : wk j w) (next : ∀ M' w', vr M' w' → zr M' w' → wk (j + 1) w' → am_R L mt_L_law (n + 1) 23 [.ref 27, .ref 0, .ref 17, .ref 26, .int (nI (6 * (j + 1))), .null, .null, .null, .null] [] M' Q) : am_R L mt_L_law (n + 1 + 1) 1122 [.ref 27, .ref 0, .ref 17, .ref 26, .int (nI (6 * j)), .null, .null, .null, .null] [] M Q := by
  have h31 : L.1 < 2 ^ 31 := by omega
  refine g_L_law_1122 h31 ⟨6 * j + 1, ix6 j 1, by show _ < L.1; omega, ⟨6 * j + 2, ix6 j 2, by show _ < L.1; omega, c_L_valveOf (p := L.2 (6 * j + 1)) (q := L.2 (6 * j + 2)) hr hk (fun M1 r1 f1 e1 => ⟨6 * j + 1, ix6 j 1, by show _ < L.1; omega, ⟨6 * j + 2, ix6 j 2, by show _ < L.1; omega, c_Z_valveOf (p := L.2 (6 * j + 1)) (q := L.2 (6 * j + 2)) (zr_lF hz f1) hk (fun M2 z2 f2 t2 => c_Z_thrown ?_)⟩⟩)⟩⟩
  have hB := b_L_valveOf (p := L.2 (6 * j + 1)) (q := L.2 (6 * j + 2)) (w := w)
  have hk2 : wk (j + 1) (m_valveOf (L.2 (6 * j + 1)) (L.2 (6 * j + 2)) w).2.2 := by
    have e : (m_valveOf (L.2 (6 * j + 1)) (L.2 (6 * j + 2)) w).2.2 = w := by unfold m_valveOf; (repeat' split) <;> rfl
    rw [e]
    exact wk_le hk (Nat.le_succ j)
  have e26 : M2 26 0 = M1 26 0 := by rw [f2 26 (by decide)]
  generalize m_valveOf (L.2 (6 * j + 1)) (L.2 (6 * j + 2)) w = mm at hB r1 e1 z2 t2 hk2 ⊢
  obtain ⟨cd, an, w'⟩ := mm
  refine ⟨fun _ => g_L_law_1170 h31 ⟨fun _ => ?_, fun c => ⟨0, rfl, by show 0 < 1; decide, fun _ => ?_, fun c2 => ?_⟩⟩, fun c => absurd t2 c⟩
  · exact g_L_law_1187 h31 (l_1574 h31 (next M2 w' (vr_zf r1 f2) z2 hk2))
  · exact g_L_law_1187 h31 (l_1574 h31 (next M2 w' (vr_zf r1 f2) z2 hk2))
  · have hcd : nI cd = 0 := Classical.not_not.mp c
    have hB' : cd ≤ 3 := Nat.le_trans hB (by decide)
    have h0 : cd = 0 := (nI_eq (a := cd) (b := 0) (by omega) (by decide)).mp hcd
    have c2' : ¬ lg_cmp (M2 26 0).toInt64 an.toInt64 = 0 := c2
    rw [e26, e1 h0, lg_same] at c2'
    exact absurd rfl c2'
theorem l_dyeOf {L : am_S} {n j : Nat} {w : wS} {M : am_M} {Q : am_Q} (hL : L.1 ≤ 3072) (hj : 6 * j + 6 ≤ L.1) (hn : j ≤ 600) (hr : vr M w) (hz : zr M w) (hk : wk j w) (next : ∀ M' w', vr M' w' → zr M' w' → wk (j + 1) w' → am_R L mt_L_law (n + 1) 23 [.ref 27, .ref 0, .ref 17, .ref 26, .int (nI (6 * (j + 1))), .null, .null, .null, .null] [] M' Q) : am_R L mt_L_law (n + 1 + 1) 1190 [.ref 27, .ref 0, .ref 17, .ref 26, .int (nI (6 * j)), .null, .null, .null, .null] [] M Q := by
  have h31 : L.1 < 2 ^ 31 := by omega
  refine g_L_law_1190 h31 ⟨6 * j + 1, ix6 j 1, by show _ < L.1; omega, ⟨6 * j + 2, ix6 j 2, by show _ < L.1; omega, c_L_dyeOf (p := L.2 (6 * j + 1)) (q := L.2 (6 * j + 2)) hr hk (fun M1 r1 f1 e1 => ⟨6 * j + 1, ix6 j 1, by show _ < L.1; omega, ⟨6 * j + 2, ix6 j 2, by show _ < L.1; omega, c_Z_dyeOf (p := L.2 (6 * j + 1)) (q := L.2 (6 * j + 2)) (zr_lF hz f1) (fun M2 z2 f2 t2 => c_Z_thrown ?_)⟩⟩)⟩⟩
  have hB := b_L_dyeOf (p := L.2 (6 * j + 1)) (q := L.2 (6 * j + 2)) (w := w)
  have hk2 : wk (j + 1) (m_dyeOf (L.2 (6 * j + 1)) (L.2 (6 * j + 2)) w).2.2 := by
    have e : (m_dyeOf (L.2 (6 * j + 1)) (L.2 (6 * j + 2)) w).2.2 = w := by unfold m_dyeOf; (repeat' split) <;> rfl
    rw [e]
    exact wk_le hk (Nat.le_succ j)
  have e26 : M2 26 0 = M1 26 0 := by rw [f2 26 (by decide)]
  generalize m_dyeOf (L.2 (6 * j + 1)) (L.2 (6 * j + 2)) w = mm at hB r1 e1 z2 t2 hk2 ⊢
  obtain ⟨cd, an, w'⟩ := mm
  refine ⟨fun _ => g_L_law_1238 h31 ⟨fun _ => ?_, fun c => ⟨0, rfl, by show 0 < 1; decide, fun _ => ?_, fun c2 => ?_⟩⟩, fun c => absurd t2 c⟩
  · exact g_L_law_1255 h31 (l_1574 h31 (next M2 w' (vr_zf r1 f2) z2 hk2))
  · exact g_L_law_1255 h31 (l_1574 h31 (next M2 w' (vr_zf r1 f2) z2 hk2))
  · have hcd : nI cd = 0 := Classical.not_not.mp c
    have hB' : cd ≤ 3 := Nat.le_trans hB (by decide)
    have h0 : cd = 0 := (nI_eq (a := cd) (b := 0) (by omega) (by decide)).mp hcd
    have c2' : ¬ lg_cmp (M2 26 0).toInt64 an.toInt64 = 0 := c2
    rw [e26, e1 h0, lg_same] at c2'
    exact absurd rfl c2'
theorem l_count {L : am_S} {n j : Nat} {w : wS} {M : am_M} {Q : am_Q} (hL : L.1 ≤ 3072) (hj : 6 * j + 6 ≤ L.1) (hn : j ≤ 600) (hr : vr M w) (hz : zr M w) (hk : wk j w) (next : ∀ M' w', vr M' w' → zr M' w' → wk (j + 1) w' → am_R L mt_L_law (n + 1) 23 [.ref 27, .ref 0, .ref 17, .ref 26, .int (nI (6 * (j + 1))), .null, .null, .null, .null] [] M' Q) : am_R L mt_L_law (n + 1 + 1) 1258 [.ref 27, .ref 0, .ref 17, .ref 26, .int (nI (6 * j)), .null, .null, .null, .null] [] M Q := by
  have h31 : L.1 < 2 ^ 31 := by omega
  refine g_L_law_1258 h31 ⟨6 * j + 1, ix6 j 1, by show _ < L.1; omega, c_L_count (p := L.2 (6 * j + 1)) hr hk (fun M1 r1 f1 e1 => ⟨6 * j + 1, ix6 j 1, by show _ < L.1; omega, c_Z_count (p := L.2 (6 * j + 1)) (zr_lF hz f1) (fun M2 z2 f2 t2 => c_Z_thrown ?_)⟩)⟩
  have hB := b_L_count (p := L.2 (6 * j + 1)) (w := w)
  have hk2 : wk (j + 1) (m_count (L.2 (6 * j + 1)) w).2.2 := by
    have e : (m_count (L.2 (6 * j + 1)) w).2.2 = w := by unfold m_count; (repeat' split) <;> rfl
    rw [e]
    exact wk_le hk (Nat.le_succ j)
  have e26 : M2 26 0 = M1 26 0 := by rw [f2 26 (by decide)]
  generalize m_count (L.2 (6 * j + 1)) w = mm at hB r1 e1 z2 t2 hk2 ⊢
  obtain ⟨cd, an, w'⟩ := mm
  refine ⟨fun _ => g_L_law_1294 h31 ⟨fun _ => ?_, fun c => ⟨0, rfl, by show 0 < 1; decide, fun _ => ?_, fun c2 => ?_⟩⟩, fun c => absurd t2 c⟩
  · exact g_L_law_1311 h31 (l_1574 h31 (next M2 w' (vr_zf r1 f2) z2 hk2))
  · exact g_L_law_1311 h31 (l_1574 h31 (next M2 w' (vr_zf r1 f2) z2 hk2))
  · have hcd : nI cd = 0 := Classical.not_not.mp c
    have hB' : cd ≤ 3 := Nat.le_trans hB (by decide)
    have h0 : cd = 0 := (nI_eq (a := cd) (b := 0) (by omega) (by decide)).mp hcd
    have c2' : ¬ lg_cmp (M2 26 0).toInt64 an.toInt64 = 0 := c2
    rw [e26, e1 h0, lg_same] at c2'
    exact absurd rfl c2'
theorem l_ifPassed {L : am_S} {n j : Nat} {w : wS} {M : am_M} {Q : am_Q} (hL : L.1 ≤ 3072) (hj : 6 * j + 6 ≤ L.1) (hn : j ≤ 600) (hr : vr M w) (hz : zr M w) (hk : wk j w) (next : ∀ M' w', vr M' w' → zr M' w' → wk (j + 1) w' → am_R L mt_L_law (n + 1) 23 [.ref 27, .ref 0, .ref 17, .ref 26, .int (nI (6 * (j + 1))), .null, .null, .null, .null] [] M' Q) : am_R L mt_L_law (n + 1 + 1) 1314 [.ref 27, .ref 0, .ref 17, .ref 26, .int (nI (6 * j)), .null, .null, .null, .null] [] M Q := by
  have h31 : L.1 < 2 ^ 31 := by omega
  refine g_L_law_1314 h31 ⟨6 * j + 1, ix6 j 1, by show _ < L.1; omega, ⟨6 * j + 2, ix6 j 2, by show _ < L.1; omega, ⟨6 * j + 3, ix6 j 3, by show _ < L.1; omega, c_L_ifPassed (p := L.2 (6 * j + 1)) (q := L.2 (6 * j + 2)) (s := L.2 (6 * j + 3)) hr hk (fun M1 r1 f1 e1 => ⟨6 * j + 1, ix6 j 1, by show _ < L.1; omega, ⟨6 * j + 2, ix6 j 2, by show _ < L.1; omega, ⟨6 * j + 3, ix6 j 3, by show _ < L.1; omega, c_Z_ifPassed (p := L.2 (6 * j + 1)) (q := L.2 (6 * j + 2)) (r := L.2 (6 * j + 3)) (zr_lF hz f1) hk (fun M2 z2 f2 t2 => c_Z_thrown ?_)⟩⟩⟩)⟩⟩⟩
  have hB := b_L_ifPassed (p := L.2 (6 * j + 1)) (q := L.2 (6 * j + 2)) (s := L.2 (6 * j + 3)) (w := w)
  have hk2 : wk (j + 1) (m_ifp (L.2 (6 * j + 1)) (L.2 (6 * j + 2)) (L.2 (6 * j + 3)) w).2.2 := by
    have e : (m_ifp (L.2 (6 * j + 1)) (L.2 (6 * j + 2)) (L.2 (6 * j + 3)) w).2.2 = w := by unfold m_ifp; (repeat' split) <;> rfl
    rw [e]
    exact wk_le hk (Nat.le_succ j)
  have e26 : M2 26 0 = M1 26 0 := by rw [f2 26 (by decide)]
  generalize m_ifp (L.2 (6 * j + 1)) (L.2 (6 * j + 2)) (L.2 (6 * j + 3)) w = mm at hB r1 e1 z2 t2 hk2 ⊢
  obtain ⟨cd, an, w'⟩ := mm
  refine ⟨fun _ => g_L_law_1374 h31 ⟨fun _ => ?_, fun c => ⟨0, rfl, by show 0 < 1; decide, fun _ => ?_, fun c2 => ?_⟩⟩, fun c => absurd t2 c⟩
  · exact g_L_law_1391 h31 (l_1574 h31 (next M2 w' (vr_zf r1 f2) z2 hk2))
  · exact g_L_law_1391 h31 (l_1574 h31 (next M2 w' (vr_zf r1 f2) z2 hk2))
  · have hcd : nI cd = 0 := Classical.not_not.mp c
    have hB' : cd ≤ 3 := Nat.le_trans hB (by decide)
    have h0 : cd = 0 := (nI_eq (a := cd) (b := 0) (by omega) (by decide)).mp hcd
    have c2' : ¬ lg_cmp (M2 26 0).toInt64 an.toInt64 = 0 := c2
    rw [e26, e1 h0, lg_same] at c2'
    exact absurd rfl c2'
theorem l_emptyIn {L : am_S} {n j : Nat} {w : wS} {M : am_M} {Q : am_Q} (hL : L.1 ≤ 3072) (hj : 6 * j + 6 ≤ L.1) (hn : j ≤ 600) (hr : vr M w) (hz : zr M w) (hk : wk j w) (next : ∀ M' w', vr M' w' → zr M' w' → wk (j + 1) w' → am_R L mt_L_law (n + 1) 23 [.ref 27, .ref 0, .ref 17, .ref 26, .int (nI (6 * (j + 1))), .null, .null, .null, .null] [] M' Q) : am_R L mt_L_law (n + 1 + 1) 1394 [.ref 27, .ref 0, .ref 17, .ref 26, .int (nI (6 * j)), .null, .null, .null, .null] [] M Q := by
  have h31 : L.1 < 2 ^ 31 := by omega
  refine g_L_law_1394 h31 ⟨6 * j + 1, ix6 j 1, by show _ < L.1; omega, c_L_emptyIn (p := L.2 (6 * j + 1)) hr hk (fun M1 r1 f1 e1 => ⟨6 * j + 1, ix6 j 1, by show _ < L.1; omega, c_Z_emptyIn (p := L.2 (6 * j + 1)) (zr_lF hz f1) hk (fun M2 z2 f2 t2 => c_Z_thrown ?_)⟩)⟩
  have hB := b_L_emptyIn (p := L.2 (6 * j + 1)) (w := w)
  have hk2 : wk (j + 1) (m_emp (L.2 (6 * j + 1)) w).2.2 := by
    have e : (m_emp (L.2 (6 * j + 1)) w).2.2 = w := by unfold m_emp; (repeat' split) <;> rfl
    rw [e]
    exact wk_le hk (Nat.le_succ j)
  have e26 : M2 26 0 = M1 26 0 := by rw [f2 26 (by decide)]
  generalize m_emp (L.2 (6 * j + 1)) w = mm at hB r1 e1 z2 t2 hk2 ⊢
  obtain ⟨cd, an, w'⟩ := mm
  refine ⟨fun _ => g_L_law_1430 h31 ⟨fun _ => ?_, fun c => ⟨0, rfl, by show 0 < 1; decide, fun _ => ?_, fun c2 => ?_⟩⟩, fun c => absurd t2 c⟩
  · exact g_L_law_1447 h31 (l_1574 h31 (next M2 w' (vr_zf r1 f2) z2 hk2))
  · exact g_L_law_1447 h31 (l_1574 h31 (next M2 w' (vr_zf r1 f2) z2 hk2))
  · have hcd : nI cd = 0 := Classical.not_not.mp c
    have hB' : cd ≤ 3 := Nat.le_trans hB (by decide)
    have h0 : cd = 0 := (nI_eq (a := cd) (b := 0) (by omega) (by decide)).mp hcd
    have c2' : ¬ lg_cmp (M2 26 0).toInt64 an.toInt64 = 0 := c2
    rw [e26, e1 h0, lg_same] at c2'
    exact absurd rfl c2'
theorem l_round {L : am_S} {n j : Nat} {w : wS} {M : am_M} {Q : am_Q} (hL : L.1 ≤ 3072) (hj : 6 * j + 6 ≤ L.1) (hn : j ≤ 600) (hr : vr M w) (hz : zr M w) (hk : wk j w) (next : ∀ M' w', vr M' w' → zr M' w' → wk (j + 1) w' → am_R L mt_L_law (n + 1) 23 [.ref 27, .ref 0, .ref 17, .ref 26, .int (nI (6 * (j + 1))), .null, .null, .null, .null] [] M' Q) : am_R L mt_L_law (n + 1 + 1) 1450 [.ref 27, .ref 0, .ref 17, .ref 26, .int (nI (6 * j)), .null, .null, .null, .null] [] M Q := by
  have h31 : L.1 < 2 ^ 31 := by omega
  refine g_L_law_1450 h31 ⟨6 * j + 1, ix6 j 1, by show _ < L.1; omega, c_L_round (p := L.2 (6 * j + 1)) hr hk (fun M1 r1 f1 e1 => ⟨6 * j + 1, ix6 j 1, by show _ < L.1; omega, c_Z_round (p := L.2 (6 * j + 1)) (zr_lF hz f1) hk (fun M2 z2 f2 t2 => c_Z_thrown ?_)⟩)⟩
  have hB := b_L_round (p := L.2 (6 * j + 1)) (w := w)
  have hk2 : wk (j + 1) (m_round (L.2 (6 * j + 1)) w).2.2 := by
    have e : (m_round (L.2 (6 * j + 1)) w).2.2 = w := by unfold m_round; (repeat' split) <;> rfl
    rw [e]
    exact wk_le hk (Nat.le_succ j)
  have e26 : M2 26 0 = M1 26 0 := by rw [f2 26 (by decide)]
  generalize m_round (L.2 (6 * j + 1)) w = mm at hB r1 e1 z2 t2 hk2 ⊢
  obtain ⟨cd, an, w'⟩ := mm
  refine ⟨fun _ => g_L_law_1486 h31 ⟨fun _ => ?_, fun c => ⟨0, rfl, by show 0 < 1; decide, fun _ => ?_, fun c2 => ?_⟩⟩, fun c => absurd t2 c⟩
  · exact g_L_law_1503 h31 (l_1574 h31 (next M2 w' (vr_zf r1 f2) z2 hk2))
  · exact g_L_law_1503 h31 (l_1574 h31 (next M2 w' (vr_zf r1 f2) z2 hk2))
  · have hcd : nI cd = 0 := Classical.not_not.mp c
    have hB' : cd ≤ 3 := Nat.le_trans hB (by decide)
    have h0 : cd = 0 := (nI_eq (a := cd) (b := 0) (by omega) (by decide)).mp hcd
    have c2' : ¬ lg_cmp (M2 26 0).toInt64 an.toInt64 = 0 := c2
    rw [e26, e1 h0, lg_same] at c2'
    exact absurd rfl c2'
