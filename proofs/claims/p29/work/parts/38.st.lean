/-! what both sides hold: the numbers of now, the saved ones, the slots, the text; and how each side holds it -/
abbrev wS : Type := dz × Nat × (Nat → dz) × (Nat → dz) × (Nat → Bool) × dz × Nat
def w_z (w : wS) : dz := w.1
def w_s (w : wS) : Nat := w.2.1
def w_sv (w : wS) : Nat → dz := w.2.2.1
def w_sl (w : wS) : Nat → dz := w.2.2.2.1
def w_kp (w : wS) : Nat → Bool := w.2.2.2.2.1
def w_tx (w : wS) : dz := w.2.2.2.2.2.1
def w_ln (w : wS) : Nat := w.2.2.2.2.2.2
def w_setz (w : wS) (z : dz) : wS := (z, w.2)
/-- the 105 numbers of a row over others -/
def zcp (a z : dz) : dz := fun k => if k < 105 then a k else z k
def w_at (w : wS) : Nat := if w_s w = 6 then 5 else w_s w
def w_rec (w : wS) : wS := (w_z w, w_at w + 1, (fun j => if j = w_at w then w_z w else if w_s w = 6 then w_sv w (j + 1) else w_sv w j), w.2.2.2)
def vr (M : am_M) (w : wS) : Prop := M 2 = zp (w_z w) ∧ (M 0 8 = nI (w_s w) ∧ w_s w ≤ 6) ∧ (∀ j, j < w_s w → ∀ k, k < 105 → M 16 (105 * j + k) = w_sv w j (pz k)) ∧ (∀ j, j < 2 → M 15 j = ib (w_kp w j = true)) ∧ (∀ j, j < 2 → w_kp w j = true → ∀ k, k < 105 → M 14 (105 * j + k) = w_sl w j (pz k)) ∧ (M 9 1 = nI (w_ln w) ∧ w_ln w ≤ 60) ∧ ∀ k, k < w_ln w → M 10 k = w_tx w k
def vf (M M' : am_M) : Prop := ∀ o, 17 ≤ o → M' o = M o
theorem vf_refl (M : am_M) : vf M M := fun _ _ => rfl
theorem vf_trans {M M' M'' : am_M} (h : vf M M') (h' : vf M' M'') : vf M M'' := fun o ho => (h' o ho).trans (h o ho)
theorem am_so (M : am_M) {o q : Nat} (f : Nat → Int32) (h : q ≠ o) : am_set M o f q = M q := by unfold am_set; rw [if_neg h]
theorem vf_set {M M' : am_M} {o : Nat} {f : Nat → Int32} (h : vf M M') (ho : o < 17) : vf M (am_set M' o f) := fun q hq => by rw [am_so _ _ (by omega)]; exact h q hq
theorem vr_of {M M' : am_M} {w : wS} (h : vr M w) (h' : ∀ o, o < 17 → M' o = M o) : vr M' w := by
  unfold vr
  rw [h' 2 (by decide), h' 0 (by decide), h' 16 (by decide), h' 15 (by decide), h' 14 (by decide), h' 9 (by decide), h' 10 (by decide)]
  exact h
theorem vr_setz {M : am_M} {w : wS} {z : dz} (h : vr M w) : vr (am_set M 2 (zp z)) (w_setz w z) := ⟨rfl, h.2⟩
theorem vr_0 {M : am_M} {w : wS} {k : Nat} {x : Int32} (h : vr M w) (h8 : k ≠ 8) : vr (am_set M 0 (upd (M 0) k x)) w := by
  obtain ⟨a, b, c, d, e, f, g⟩ := h
  refine ⟨a, ⟨?_, b.2⟩, c, d, e, f, g⟩
  rw [am_set_eq, upd_ne _ _ (Ne.symm h8)]; exact b.1
theorem cpy_0 (f g : dz) (a b : Nat) : va_cpy f g a b 0 = g := by
  funext k
  unfold va_cpy
  rw [if_neg (by omega)]
theorem cpy_step (f g : dz) (a b i : Nat) : upd (va_cpy f g a b i) (b + i) (f (a + i)) = va_cpy f g a b (i + 1) := by
  funext k
  unfold va_cpy
  by_cases h : k = b + i
  · subst h
    rw [upd_eq, if_pos (by omega)]
    congr 1
    omega
  · rw [upd_ne _ _ h]
    by_cases h2 : b ≤ k ∧ k < b + i
    · rw [if_pos h2, if_pos (by omega)]
    · rw [if_neg h2, if_neg (by omega)]
theorem cpy_in {f g : dz} {a b n k : Nat} (h : b ≤ k ∧ k < b + n) : va_cpy f g a b n k = f (a + (k - b)) := by unfold va_cpy; rw [if_pos h]
theorem cpy_out {f g : dz} {a b n k : Nat} (h : ¬ (b ≤ k ∧ k < b + n)) : va_cpy f g a b n k = g k := by unfold va_cpy; rw [if_neg h]
theorem ix5 (a b c : Nat) : nI a * nI b + nI c = nI (a * b + c) := by rw [pk_mul, nI_add]
theorem nI_sub1 {a : Nat} (h : 0 < a) : nI a - nI 1 = nI (a - 1) := by
  have e : nI a = nI (a - 1) + nI 1 := by rw [nI_add]; congr 1; omega
  rw [e, Int32.add_sub_cancel]
/-- the class saves its state -/
theorem c_V_saveState {w : wS} {M : am_M} {K : am_Q} (hr : vr M w) (h : ∀ M', vr M' (w_rec w) → vf M M' → M' 2 = M 2 → (∀ o, o ≠ 0 → o ≠ 16 → M' o = M o) → K (.inl none) M') : am_C mt_V_saveState [.ref 0] M K := by
  obtain ⟨r1, ⟨r2, r2'⟩, r3, r4, r5, r6, r7⟩ := hr
  have tail : ∀ (f : dz) (s : Nat) (M1 : am_M), M1 0 8 = nI s → s < 6 → M1 16 = f → M1 2 = M 2 → (∀ M', M' 2 = M 2 → M' 0 = upd (M1 0) 8 (nI (s + 1)) → M' 16 = va_cpy (M 2) f 0 (s * 105) 105 → (∀ o, o ≠ 0 → o ≠ 16 → M' o = M1 o) → K (.inl none) M') → am_R am_S0 mt_V_saveState 1 42 [.ref 0] [] M1 K := by
    intro f s M1 e1 hs e2 e3 hh
    refine g_V_saveState_42 ⟨0, s * 105, 105, rfl, ?_, rfl, by decide, by show _ ≤ 630; omega, hh _ ?_ ?_ ?_ ?_⟩
    · show M1 0 8 * nI 105 = _
      rw [e1, pk_mul]
    · exact e3
    · show upd (M1 0) 8 (M1 0 8 + nI 1) = _
      rw [e1, nI_add]
    · show va_cpy (M1 2) (M1 16) 0 (s * 105) 105 = _
      rw [e2, e3]
    · intro o h1 h2
      rw [am_so _ _ h1, am_so _ _ h2]
  have fin : ∀ (f : dz) (M' : am_M), (w_s w = 6 → ∀ k, k < 525 → f k = M 16 (105 + k)) → (w_s w ≠ 6 → f = M 16) → M' 2 = M 2 → M' 0 8 = nI (w_at w + 1) → M' 16 = va_cpy (M 2) f 0 (w_at w * 105) 105 → (∀ o, o ≠ 0 → o ≠ 16 → M' o = M o) → K (.inl none) M' := by
    intro f M' f1 f2 g1 g3 g4 g5
    refine h M' ⟨?_, ⟨g3, ?_⟩, ?_, ?_, ?_, ⟨?_, r6.2⟩, ?_⟩ (fun o ho => g5 o (by omega) (by omega)) g1 g5
    · rw [g1]; exact r1
    · show w_at w + 1 ≤ 6
      unfold w_at
      split <;> omega
    · intro j hj k hk
      have hj' : j < w_at w + 1 := hj
      show M' 16 (105 * j + k) = (if j = w_at w then w_z w else if w_s w = 6 then w_sv w (j + 1) else w_sv w j) (pz k)
      rw [g4]
      by_cases c : j = w_at w
      · rw [if_pos c, cpy_in (by rw [c]; omega), r1]
        show w_z w (pz (0 + (105 * j + k - w_at w * 105))) = _
        congr 2
        omega
      · rw [if_neg c, cpy_out (by omega)]
        unfold w_at at hj' c
        by_cases c6 : w_s w = 6
        · rw [if_pos c6] at hj' c
          rw [if_pos c6, f1 c6 _ (by omega), ← r3 (j + 1) (by omega) k hk]
          congr 1
          omega
        · rw [if_neg c6] at hj' c
          rw [if_neg c6, f2 c6, r3 j (by omega) k hk]
    · rw [g5 15 (by decide) (by decide)]; exact r4
    · rw [g5 14 (by decide) (by decide)]; exact r5
    · rw [g5 9 (by decide) (by decide)]; exact r6.1
    · rw [g5 10 (by decide) (by decide)]; exact r7
  have lo : w_s w ≠ 6 → am_R am_S0 mt_V_saveState 1 42 [.ref 0] [] M K := by
    intro c6
    have ea : w_at w = w_s w := by unfold w_at; rw [if_neg c6]
    refine tail (M 16) (w_at w) M (by rw [ea]; exact r2) (by omega) rfl rfl (fun M' a1 a2 a3 a4 => fin (M 16) M' (fun q => absurd q c6) (fun _ => rfl) a1 ?_ a3 a4)
    rw [a2, upd_eq]
  have hi : w_s w = 6 → am_R am_S0 mt_V_saveState 1 16 [.ref 0] [] M K := by
    intro c6
    have ea : w_at w = 5 := by unfold w_at; rw [if_pos c6]
    refine g_V_saveState_16 ⟨105, 0, 525, rfl, rfl, rfl, by decide, by decide, ?_⟩
    refine tail (va_cpy (M 16) (M 16) 105 0 525) 5 (am_set (am_set M 0 (upd (M 0) 8 (nI 5))) 16 (va_cpy (M 16) (M 16) 105 0 525)) ?_ (by decide) rfl rfl (fun M' a1 a2 a3 a4 => fin (va_cpy (M 16) (M 16) 105 0 525) M' (fun _ k hk => ?_) (fun q => absurd c6 q) a1 ?_ ?_ ?_)
    · show upd (M 0) 8 (nI 5) 8 = nI 5
      rw [upd_eq]
    · rw [cpy_in (by omega)]; rfl
    · rw [a2, upd_eq, ea]
    · rw [ea]; exact a3
    · intro o h1 h2
      rw [a4 o h1 h2, am_so _ _ h2, am_so _ _ h1]
  refine am_C_of_R am_S0 om_V_saveState rfl [.ref 0] rfl rfl (g_V_saveState_0 ⟨fun c => ?_, fun c => ⟨fun c => lo ?_, fun c => hi ?_⟩⟩)
  · have c' : M 0 8 < 0 := c
    rw [r2] at c'
    exact absurd c' (nI_pos (by omega))
  · have c' : M 0 8 < nI 6 := c
    rw [r2] at c'
    have := (nI_lti (by omega) (by decide)).mp c'
    omega
  · have c' : nI 6 ≤ M 0 8 := Int32.not_lt.mp c
    rw [r2] at c'
    have : ¬ w_s w < 6 := fun q => absurd c' (i_nge q (by decide))
    omega
