/-! what both sides hold: the numbers of now, the saved ones, the slots, the text; and how each side holds it -/
abbrev wS : Type := dz × Nat × (Nat → dz) × (Nat → dz) × (Nat → Bool) × dz × Nat
def w_z (w : wS) : dz := w.1
def w_s (w : wS) : Nat := w.2.1
def w_sv (w : wS) : Nat → dz := w.2.2.1
def w_sl (w : wS) : Nat → dz := w.2.2.2.1
def w_kp (w : wS) : Nat → Bool := w.2.2.2.2.1
def w_tx (w : wS) : dz := w.2.2.2.2.2.1
def w_ln (w : wS) : Nat := w.2.2.2.2.2.2
def w_setz (w : wS) (z : dz) : wS := (z, w.2)
/-- the 105 numbers of a row over others -/
def zcp (a z : dz) : dz := fun k => if k < 105 then a k else z k
def w_at (w : wS) : Nat := if w_s w = 6 then 5 else w_s w
def w_rec (w : wS) : wS := (w_z w, w_at w + 1, (fun j => if j = w_at w then w_z w else if w_s w = 6 then w_sv w (j + 1) else w_sv w j), w.2.2.2)
def zr (M : am_M) (w : wS) : Prop := M 18 = w_z w ∧ (M 17 4 = nI (w_s w) ∧ w_s w ≤ 6) ∧ (∀ j, j < w_s w → ∀ k, k < 105 → M 20 (105 * j + k) = w_sv w j k) ∧ (∀ j, j < 2 → M 22 j = ib (w_kp w j = true)) ∧ (∀ j, j < 2 → w_kp w j = true → ∀ k, k < 105 → M 21 (105 * j + k) = w_sl w j k) ∧ (M 17 8 = nI (w_ln w) ∧ w_ln w ≤ 60) ∧ ∀ k, k < w_ln w → M 23 k = w_tx w k
def vr (M : am_M) (w : wS) : Prop := M 2 = zp (w_z w) ∧ (M 0 8 = nI (w_s w) ∧ w_s w ≤ 6) ∧ (∀ j, j < w_s w → ∀ k, k < 105 → M 16 (105 * j + k) = w_sv w j (pz k)) ∧ (∀ j, j < 2 → M 15 j = ib (w_kp w j = true)) ∧ (∀ j, j < 2 → w_kp w j = true → ∀ k, k < 105 → M 14 (105 * j + k) = w_sl w j (pz k)) ∧ (M 9 1 = nI (w_ln w) ∧ w_ln w ≤ 60) ∧ ∀ k, k < w_ln w → M 10 k = w_tx w k
/-- what a side leaves to the other one -/
def zf (M M' : am_M) : Prop := ∀ o, o < 17 ∨ 26 ≤ o → M' o = M o
def vf (M M' : am_M) : Prop := ∀ o, 17 ≤ o → M' o = M o
theorem zf_refl (M : am_M) : zf M M := fun _ _ => rfl
theorem vf_refl (M : am_M) : vf M M := fun _ _ => rfl
theorem zf_trans {M M' M'' : am_M} (h : zf M M') (h' : zf M' M'') : zf M M'' := fun o ho => (h' o ho).trans (h o ho)
theorem vf_trans {M M' M'' : am_M} (h : vf M M') (h' : vf M' M'') : vf M M'' := fun o ho => (h' o ho).trans (h o ho)
theorem am_so (M : am_M) {o q : Nat} (f : Nat → Int32) (h : q ≠ o) : am_set M o f q = M q := by unfold am_set; rw [if_neg h]
theorem zf_set {M M' : am_M} {o : Nat} {f : Nat → Int32} (h : zf M M') (ho : 17 ≤ o ∧ o < 26) : zf M (am_set M' o f) := fun q hq => by rw [am_so _ _ (by omega)]; exact h q hq
theorem vf_set {M M' : am_M} {o : Nat} {f : Nat → Int32} (h : vf M M') (ho : o < 17) : vf M (am_set M' o f) := fun q hq => by rw [am_so _ _ (by omega)]; exact h q hq
theorem zr_of {M M' : am_M} {w : wS} (h : zr M w) (h' : ∀ o, 17 ≤ o → o < 26 → M' o = M o) : zr M' w := by
  unfold zr
  rw [h' 18 (by decide) (by decide), h' 17 (by decide) (by decide), h' 20 (by decide) (by decide), h' 22 (by decide) (by decide), h' 21 (by decide) (by decide), h' 23 (by decide) (by decide)]
  exact h
theorem vr_of {M M' : am_M} {w : wS} (h : vr M w) (h' : ∀ o, o < 17 → M' o = M o) : vr M' w := by
  unfold vr
  rw [h' 2 (by decide), h' 0 (by decide), h' 16 (by decide), h' 15 (by decide), h' 14 (by decide), h' 9 (by decide), h' 10 (by decide)]
  exact h
theorem zr_setz {M : am_M} {w : wS} {z : dz} (h : zr M w) : zr (am_set M 18 z) (w_setz w z) := ⟨rfl, h.2⟩
theorem vr_setz {M : am_M} {w : wS} {z : dz} (h : vr M w) : vr (am_set M 2 (zp z)) (w_setz w z) := ⟨rfl, h.2⟩
theorem zr_17 {M : am_M} {w : wS} {k : Nat} {x : Int32} (h : zr M w) (h4 : k ≠ 4) (h8 : k ≠ 8) : zr (am_set M 17 (upd (M 17) k x)) w := by
  obtain ⟨a, b, c, d, e, f, g⟩ := h
  refine ⟨a, ⟨?_, b.2⟩, c, d, e, ⟨?_, f.2⟩, g⟩
  · rw [am_set_eq, upd_ne _ _ (Ne.symm h4)]; exact b.1
  · rw [am_set_eq, upd_ne _ _ (Ne.symm h8)]; exact f.1
theorem vr_0 {M : am_M} {w : wS} {k : Nat} {x : Int32} (h : vr M w) (h8 : k ≠ 8) : vr (am_set M 0 (upd (M 0) k x)) w := by
  obtain ⟨a, b, c, d, e, f, g⟩ := h
  refine ⟨a, ⟨?_, b.2⟩, c, d, e, f, g⟩
  rw [am_set_eq, upd_ne _ _ (Ne.symm h8)]; exact b.1
theorem cpy_0 (f g : dz) (a b : Nat) : va_cpy f g a b 0 = g := by
  funext k
  unfold va_cpy
  rw [if_neg (by omega)]
theorem cpy_step (f g : dz) (a b i : Nat) : upd (va_cpy f g a b i) (b + i) (f (a + i)) = va_cpy f g a b (i + 1) := by
  funext k
  unfold va_cpy
  by_cases h : k = b + i
  · subst h
    rw [upd_eq, if_pos (by omega)]
    congr 1
    omega
  · rw [upd_ne _ _ h]
    by_cases h2 : b ≤ k ∧ k < b + i
    · rw [if_pos h2, if_pos (by omega)]
    · rw [if_neg h2, if_neg (by omega)]
theorem cpy_in {f g : dz} {a b n k : Nat} (h : b ≤ k ∧ k < b + n) : va_cpy f g a b n k = f (a + (k - b)) := by unfold va_cpy; rw [if_pos h]
theorem cpy_out {f g : dz} {a b n k : Nat} (h : ¬ (b ≤ k ∧ k < b + n)) : va_cpy f g a b n k = g k := by unfold va_cpy; rw [if_neg h]
theorem ix5 (a b c : Nat) : nI a * nI b + nI c = nI (a * b + c) := by rw [pk_mul, nI_add]
theorem nI_sub1 {a : Nat} (h : 0 < a) : nI a - nI 1 = nI (a - 1) := by
  have e : nI a = nI (a - 1) + nI 1 := by rw [nI_add]; congr 1; omega
  rw [e, Int32.add_sub_cancel]
theorem c_Z_record {w : wS} {M : am_M} {K : am_Q} (hr : zr M w) (h : ∀ M', zr M' (w_rec w) → zf M M' → (∀ k, k ≠ 4 → M' 17 k = M 17 k) → K (.inl none) M') : am_C mt_Z_record [.ref 17] M K := by
  obtain ⟨r1, ⟨r2, r2'⟩, r3, r4, r5, r6, r7⟩ := hr
  have tail : ∀ (f : dz) (s : Nat) (M1 : am_M), M1 17 4 = nI s → s < 6 → M1 20 = f → M1 18 = M 18 → (∀ M', M' 18 = M 18 → M' 17 = upd (M1 17) 4 (nI (s + 1)) → M' 20 = va_cpy (M 18) f 0 (105 * s) 105 → (∀ o, o ≠ 17 → o ≠ 20 → M' o = M1 o) → K (.inl none) M') → am_R am_S0 mt_Z_record 1 49 [.ref 17, .null] [] M1 K := by
    intro f s M1 e1 hs e2 e3 hh
    refine g_Z_record_49 ?_
    refine am_R_le (xs := [.ref 17, .int (nI 0)]) (by repeat' (first | exact trivial | exact Or.inr rfl | exact Or.inl rfl | exact Or.inr (congrArg Value.int (nI_succ _)) | refine ⟨?_, ?_⟩)) ?_
    have h0 : M1 = am_set M1 20 (va_cpy (M 18) f 0 (105 * s) 0) := by rw [cpy_0, ← e2, am_set_self]
    rw [h0]
    refine lu (P := fun i => am_R am_S0 mt_Z_record 1 51 [.ref 17, .int (nI i)] [] (am_set M1 20 (va_cpy (M 18) f 0 (105 * s) i)) K) 105 ?_ ?_
    · refine g_Z_record_51 ⟨fun c => g_Z_record_83 (hh _ ?_ ?_ ?_ ?_), fun c => absurd (i_le (Nat.le_refl 105) (by decide)) c⟩
      · exact e3
      · show upd (M1 17) 4 (M1 17 4 + nI 1) = _
        rw [e1, nI_add]
      · rfl
      · intro o h1 h2
        rw [am_so _ _ h1, am_so _ _ h2]
    · intro i hi ih
      refine g_Z_record_51 ⟨fun c => absurd c (i_nge hi (by decide)), fun c => ⟨i, rfl, by show _ < 105; omega, 105 * s + i, ?_, by show _ < 630; omega, ?_⟩⟩
      · show nI 105 * M1 17 4 + nI i = _
        rw [e1, ix5]
      · simp only [am_set_set]
        have e := cpy_step (M 18) f 0 (105 * s) i
        rw [← e, Nat.zero_add, ← e3] at ih
        rw [← e3]
        exact am_R_le (by repeat' (first | exact trivial | exact Or.inr rfl | exact Or.inl rfl | exact Or.inr (congrArg Value.int (nI_succ _)) | refine ⟨?_, ?_⟩)) ih
  have fin : ∀ (f : dz) (M' : am_M), (w_s w = 6 → ∀ k, k < 525 → f k = M 20 (105 + k)) → (w_s w ≠ 6 → f = M 20) → M' 18 = M 18 → (∀ k, k ≠ 4 → M' 17 k = M 17 k) → M' 17 4 = nI (w_at w + 1) → M' 20 = va_cpy (M 18) f 0 (105 * w_at w) 105 → (∀ o, o ≠ 17 → o ≠ 20 → M' o = M o) → K (.inl none) M' := by
    intro f M' f1 f2 g1 g2 g3 g4 g5
    refine h M' ⟨?_, ⟨g3, ?_⟩, ?_, ?_, ?_, ⟨?_, r6.2⟩, ?_⟩ (fun o ho => g5 o (by omega) (by omega)) g2
    · rw [g1]; exact r1
    · show w_at w + 1 ≤ 6
      unfold w_at
      split <;> omega
    · intro j hj k hk
      have hj' : j < w_at w + 1 := hj
      show M' 20 (105 * j + k) = (if j = w_at w then w_z w else if w_s w = 6 then w_sv w (j + 1) else w_sv w j) k
      rw [g4]
      by_cases c : j = w_at w
      · rw [if_pos c, cpy_in (by rw [c]; omega), r1]
        congr 1
        omega
      · rw [if_neg c, cpy_out (by omega)]
        unfold w_at at hj' c
        by_cases c6 : w_s w = 6
        · rw [if_pos c6] at hj' c
          rw [if_pos c6, f1 c6 _ (by omega), ← r3 (j + 1) (by omega) k hk]
          congr 1
          omega
        · rw [if_neg c6] at hj' c
          rw [if_neg c6, f2 c6, r3 j (by omega) k hk]
    · rw [g5 22 (by decide) (by decide)]; exact r4
    · rw [g5 21 (by decide) (by decide)]; exact r5
    · rw [g2 8 (by decide)]; exact r6.1
    · rw [g5 23 (by decide) (by decide)]; exact r7
  refine am_C_of_R am_S0 om_Z_record rfl [.ref 17, .null] rfl rfl (g_Z_record_0 ⟨fun c => ?_, fun c => ?_⟩)
  · have c6 : w_s w ≠ 6 := fun q => c (by rw [r2, q]; rfl)
    have ea : w_at w = w_s w := by unfold w_at; rw [if_neg c6]
    refine tail (M 20) (w_at w) M (by rw [ea]; exact r2) (by omega) rfl rfl (fun M' a1 a2 a3 a4 => fin (M 20) M' (fun q => absurd q c6) (fun _ => rfl) a1 ?_ ?_ a3 a4)
    · intro k hk; rw [a2, upd_ne _ _ hk]
    · rw [a2, upd_eq]
  · have c6 : w_s w = 6 := (nI_eq (a := w_s w) (b := 6) (by omega) (by decide)).mp (r2.symm.trans (Classical.not_not.mp c))
    have ea : w_at w = 5 := by unfold w_at; rw [if_pos c6]
    refine am_R_le (xs := [.ref 17, .int (nI 0)]) (by repeat' (first | exact trivial | exact Or.inr rfl | exact Or.inl rfl | exact Or.inr (congrArg Value.int (nI_succ _)) | refine ⟨?_, ?_⟩)) ?_
    have h0 : M = am_set M 20 (va_cpy (M 20) (M 20) 105 0 0) := by rw [cpy_0, am_set_self]
    rw [h0]
    refine lu (P := fun i => am_R am_S0 mt_Z_record 1 11 [.ref 17, .int (nI i)] [] (am_set M 20 (va_cpy (M 20) (M 20) 105 0 i)) K) 525 ?_ ?_
    · refine g_Z_record_11 ⟨fun c => g_Z_record_39 ?_, fun c => absurd (i_le (Nat.le_refl 525) (by decide)) c⟩
      refine am_R_le (xs := [.ref 17, .null]) (by repeat' (first | exact trivial | exact Or.inr rfl | exact Or.inl rfl | exact Or.inr (congrArg Value.int (nI_succ _)) | refine ⟨?_, ?_⟩)) (tail (va_cpy (M 20) (M 20) 105 0 525) 5 (am_set (am_set M 20 (va_cpy (M 20) (M 20) 105 0 525)) 17 (upd (M 17) 4 (M 17 4 - nI 1))) ?_ (by decide) rfl rfl (fun M' a1 a2 a3 a4 => fin (va_cpy (M 20) (M 20) 105 0 525) M' (fun _ k hk => ?_) (fun q => absurd c6 q) a1 ?_ ?_ ?_ ?_))
      · show upd (M 17) 4 (M 17 4 - nI 1) 4 = nI 5
        rw [upd_eq, r2, c6, nI_sub1 (by decide)]
      · rw [cpy_in (by omega)]; rfl
      · intro k hk
        rw [a2, upd_ne _ _ hk]
        show upd (M 17) 4 _ k = _
        rw [upd_ne _ _ hk]
      · rw [a2, upd_eq, ea]
      · rw [ea]; exact a3
      · intro o h1 h2
        rw [a4 o h1 h2, am_so _ _ h1, am_so _ _ h2]
    · intro i hi ih
      refine g_Z_record_11 ⟨fun c => absurd c (i_nge hi (by decide)), fun c => ⟨105 + i, ix2 105 i, by show _ < 630; omega, i, rfl, by show _ < 630; omega, ?_⟩⟩
      simp only [am_set_set]
      have e := cpy_step (M 20) (M 20) 105 0 i
      have e2 : va_cpy (M 20) (M 20) 105 0 i (105 + i) = M 20 (105 + i) := cpy_out (by omega)
      rw [← e, Nat.zero_add, ← e2] at ih
      exact am_R_le (by repeat' (first | exact trivial | exact Or.inr rfl | exact Or.inl rfl | exact Or.inr (congrArg Value.int (nI_succ _)) | refine ⟨?_, ?_⟩)) ih
/-- the class saves its state -/
theorem c_V_saveState {w : wS} {M : am_M} {K : am_Q} (hr : vr M w) (h : ∀ M', vr M' (w_rec w) → vf M M' → M' 2 = M 2 → (∀ o, o ≠ 0 → o ≠ 16 → M' o = M o) → K (.inl none) M') : am_C mt_V_saveState [.ref 0] M K := by
  obtain ⟨r1, ⟨r2, r2'⟩, r3, r4, r5, r6, r7⟩ := hr
  have tail : ∀ (f : dz) (s : Nat) (M1 : am_M), M1 0 8 = nI s → s < 6 → M1 16 = f → M1 2 = M 2 → (∀ M', M' 2 = M 2 → M' 0 = upd (M1 0) 8 (nI (s + 1)) → M' 16 = va_cpy (M 2) f 0 (s * 105) 105 → (∀ o, o ≠ 0 → o ≠ 16 → M' o = M1 o) → K (.inl none) M') → am_R am_S0 mt_V_saveState 1 42 [.ref 0] [] M1 K := by
    intro f s M1 e1 hs e2 e3 hh
    refine g_V_saveState_42 ⟨0, s * 105, 105, rfl, ?_, rfl, by decide, by show _ ≤ 630; omega, hh _ ?_ ?_ ?_ ?_⟩
    · show M1 0 8 * nI 105 = _
      rw [e1, pk_mul]
    · exact e3
    · show upd (M1 0) 8 (M1 0 8 + nI 1) = _
      rw [e1, nI_add]
    · show va_cpy (M1 2) (M1 16) 0 (s * 105) 105 = _
      rw [e2, e3]
    · intro o h1 h2
      rw [am_so _ _ h1, am_so _ _ h2]
  have fin : ∀ (f : dz) (M' : am_M), (w_s w = 6 → ∀ k, k < 525 → f k = M 16 (105 + k)) → (w_s w ≠ 6 → f = M 16) → M' 2 = M 2 → M' 0 8 = nI (w_at w + 1) → M' 16 = va_cpy (M 2) f 0 (w_at w * 105) 105 → (∀ o, o ≠ 0 → o ≠ 16 → M' o = M o) → K (.inl none) M' := by
    intro f M' f1 f2 g1 g3 g4 g5
    refine h M' ⟨?_, ⟨g3, ?_⟩, ?_, ?_, ?_, ⟨?_, r6.2⟩, ?_⟩ (fun o ho => g5 o (by omega) (by omega)) g1 g5
    · rw [g1]; exact r1
    · show w_at w + 1 ≤ 6
      unfold w_at
      split <;> omega
    · intro j hj k hk
      have hj' : j < w_at w + 1 := hj
      show M' 16 (105 * j + k) = (if j = w_at w then w_z w else if w_s w = 6 then w_sv w (j + 1) else w_sv w j) (pz k)
      rw [g4]
      by_cases c : j = w_at w
      · rw [if_pos c, cpy_in (by rw [c]; omega), r1]
        show w_z w (pz (0 + (105 * j + k - w_at w * 105))) = _
        congr 2
        omega
      · rw [if_neg c, cpy_out (by omega)]
        unfold w_at at hj' c
        by_cases c6 : w_s w = 6
        · rw [if_pos c6] at hj' c
          rw [if_pos c6, f1 c6 _ (by omega), ← r3 (j + 1) (by omega) k hk]
          congr 1
          omega
        · rw [if_neg c6] at hj' c
          rw [if_neg c6, f2 c6, r3 j (by omega) k hk]
    · rw [g5 15 (by decide) (by decide)]; exact r4
    · rw [g5 14 (by decide) (by decide)]; exact r5
    · rw [g5 9 (by decide) (by decide)]; exact r6.1
    · rw [g5 10 (by decide) (by decide)]; exact r7
  have lo : w_s w ≠ 6 → am_R am_S0 mt_V_saveState 1 42 [.ref 0] [] M K := by
    intro c6
    have ea : w_at w = w_s w := by unfold w_at; rw [if_neg c6]
    refine tail (M 16) (w_at w) M (by rw [ea]; exact r2) (by omega) rfl rfl (fun M' a1 a2 a3 a4 => fin (M 16) M' (fun q => absurd q c6) (fun _ => rfl) a1 ?_ a3 a4)
    rw [a2, upd_eq]
  have hi : w_s w = 6 → am_R am_S0 mt_V_saveState 1 16 [.ref 0] [] M K := by
    intro c6
    have ea : w_at w = 5 := by unfold w_at; rw [if_pos c6]
    refine g_V_saveState_16 ⟨105, 0, 525, rfl, rfl, rfl, by decide, by decide, ?_⟩
    refine tail (va_cpy (M 16) (M 16) 105 0 525) 5 (am_set (am_set M 0 (upd (M 0) 8 (nI 5))) 16 (va_cpy (M 16) (M 16) 105 0 525)) ?_ (by decide) rfl rfl (fun M' a1 a2 a3 a4 => fin (va_cpy (M 16) (M 16) 105 0 525) M' (fun _ k hk => ?_) (fun q => absurd c6 q) a1 ?_ ?_ ?_)
    · show upd (M 0) 8 (nI 5) 8 = nI 5
      rw [upd_eq]
    · rw [cpy_in (by omega)]; rfl
    · rw [a2, upd_eq, ea]
    · rw [ea]; exact a3
    · intro o h1 h2
      rw [a4 o h1 h2, am_so _ _ h2, am_so _ _ h1]
  refine am_C_of_R am_S0 om_V_saveState rfl [.ref 0] rfl rfl (g_V_saveState_0 ⟨fun c => ?_, fun c => ⟨fun c => lo ?_, fun c => hi ?_⟩⟩)
  · have c' : M 0 8 < 0 := c
    rw [r2] at c'
    exact absurd c' (nI_pos (by omega))
  · have c' : M 0 8 < nI 6 := c
    rw [r2] at c'
    have := (nI_lti (by omega) (by decide)).mp c'
    omega
  · have c' : nI 6 ≤ M 0 8 := Int32.not_lt.mp c
    rw [r2] at c'
    have : ¬ w_s w < 6 := fun q => absurd c' (i_nge q (by decide))
    omega
