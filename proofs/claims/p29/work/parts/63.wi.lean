/-! states without anything behind their 105 numbers: what is restored is what was -/
def tl (z : dz) : Prop := ∀ k, 105 ≤ k → z k = 0
theorem tl_upd {z : dz} {i : Nat} {x : Int32} (h : tl z) (hi : i < 105) : tl (upd z i x) := fun k hk => by rw [upd_ne _ _ (by omega)]; exact h k hk
theorem tl_add {z : dz} {i : Nat} {x : Int32} (h : tl z) (hi : i < 105) : tl (zadd z i x) := tl_upd h hi
theorem tl_hours {z : dz} (hz : zok z) (h : tl z) (k : Nat) : tl (zhours z k) := fun i hi => ((zok_hours hz k).2 i (Or.inr (Or.inr (Or.inr (Or.inr hi))))).trans (h i hi)
theorem zcp_tl {a z : dz} (ha : tl a) (hz : tl z) : zcp a z = a := by
  funext k
  unfold zcp
  by_cases c : k < 105
  · rw [if_pos c]
  · rw [if_neg c, hz k (by omega), ha k (by omega)]
def wt (w : wS) : Prop := tl (w_z w) ∧ (∀ j, j < w_s w → tl (w_sv w j)) ∧ ∀ j, j < 2 → w_kp w j = true → tl (w_sl w j)
def wi (n : Nat) (w : wS) : Prop := wk n w ∧ wt w
theorem wi_le {n m : Nat} {w : wS} (h : wi n w) (hm : n ≤ m) : wi m w := ⟨wk_le h.1 hm, h.2⟩
theorem wt_rec {w : wS} (hs : w_s w ≤ 6) (h : wt w) : wt (w_rec w) := by
  obtain ⟨h1, h2, h3⟩ := h
  refine ⟨h1, fun j hj => ?_, h3⟩
  have hj' : j < w_at w + 1 := hj
  show tl (if j = w_at w then w_z w else if w_s w = 6 then w_sv w (j + 1) else w_sv w j)
  by_cases c : j = w_at w
  · rw [if_pos c]; exact h1
  · rw [if_neg c]
    unfold w_at at hj' c
    by_cases c6 : w_s w = 6
    · rw [if_pos c6] at hj' c ⊢
      exact h2 _ (by omega)
    · rw [if_neg c6] at hj' c ⊢
      exact h2 _ (by omega)
theorem wt_setz {w : wS} {z : dz} (h : wt w) (hz : tl z) : wt (w_setz w z) := ⟨hz, h.2⟩
theorem wi_rec {n : Nat} {w : wS} (h : wi n w) : wi n (w_rec w) := ⟨wk_rec h.1, wt_rec h.1.2.2.2.1 h.2⟩
theorem wi_setz {n : Nat} {w : wS} {z : dz} (h : wi n w) (hz : zko n z) (ht : tl z) : wi n (w_setz w z) := ⟨wk_setz h.1 hz, wt_setz h.2 ht⟩
-- hours, snapshots, what is undone
noncomputable def w_pass (w : wS) (k : Nat) : wS := w_setz (w_rec w) (zhours (w_z w) k)
theorem wi_pass {n k : Nat} {w : wS} (h : wi n w) (hk : k ≤ 240) (h0 : (w_z w 0).toInt + k ≤ 99999) : wi n (w_pass w k) := wi_setz (wi_rec h) (zko_hours h.1.1 hk h0) (tl_hours h.1.1.1 h.2.1 k)
def w_undo (w : wS) : wS := (zcp (w_sv w (w_s w - 1)) (w_z w), w_s w - 1, w.2.2)
theorem wi_undo {n : Nat} {w : wS} (h : wi n w) (hs : 0 < w_s w) : wi n (w_undo w) := by
  obtain ⟨⟨a1, a2, a3, a4, a5⟩, b1, b2, b3⟩ := h
  refine ⟨⟨zko_cp (a2 _ (by omega)), fun j hj => a2 j (by have hj' : j < w_s w - 1 := hj; omega), a3, (by show w_s w - 1 ≤ 6; omega), a5⟩, ?_, fun j hj => b2 j (by have hj' : j < w_s w - 1 := hj; omega), b3⟩
  show tl (zcp (w_sv w (w_s w - 1)) (w_z w))
  rw [zcp_tl (b2 _ (by omega)) b1]
  exact b2 _ (by omega)
def w_keep (w : wS) (i : Nat) : wS := (w_z w, w_s w, w_sv w, (fun j => if j = i then w_z w else w_sl w j), (fun j => if j = i then true else w_kp w j), w_tx w, w_ln w)
theorem wi_keep {n : Nat} {w : wS} (h : wi n w) (i : Nat) : wi n (w_keep w i) := by
  obtain ⟨⟨a1, a2, a3, a4⟩, b1, b2, b3⟩ := h
  refine ⟨⟨a1, a2, fun j hj hkp => ?_, a4⟩, b1, b2, fun j hj hkp => ?_⟩
  · have hkp' : (if j = i then true else w_kp w j) = true := hkp
    show zko n (if j = i then w_z w else w_sl w j)
    by_cases c : j = i
    · rw [if_pos c]; exact a1
    · rw [if_neg c] at hkp' ⊢
      exact a3 j hj hkp'
  · have hkp' : (if j = i then true else w_kp w j) = true := hkp
    show tl (if j = i then w_z w else w_sl w j)
    by_cases c : j = i
    · rw [if_pos c]; exact b1
    · rw [if_neg c] at hkp' ⊢
      exact b3 j hj hkp'
def w_back (w : wS) (i : Nat) : wS := w_setz (w_rec w) (zcp (w_sl w i) (w_z w))
theorem wi_back {n i : Nat} {w : wS} (h : wi n w) (hi : i < 2) (hk : w_kp w i = true) : wi n (w_back w i) := by
  refine wi_setz (wi_rec h) (zko_cp (h.1.2.2.1 i hi hk)) ?_
  rw [zcp_tl (h.2.2.2 i hi hk) h.2.1]
  exact h.2.2.2 i hi hk
theorem w_back_z {n i : Nat} {w : wS} (h : wi n w) (hi : i < 2) (hk : w_kp w i = true) : w_z (w_back w i) = w_sl w i := zcp_tl (h.2.2.2 i hi hk) h.2.1
/-- the slot i holds z -/
def hs (w : wS) (i : Nat) (z : dz) : Prop := w_kp w i = true ∧ w_sl w i = z
theorem hs_keep (w : wS) (i : Nat) : hs (w_keep w i) i (w_z w) := ⟨if_pos rfl, if_pos rfl⟩
theorem hs_pass {w : wS} {i : Nat} {z : dz} (h : hs w i z) (k : Nat) : hs (w_pass w k) i z := h
theorem hs_back {w : wS} {i : Nat} {z : dz} (h : hs w i z) (j : Nat) : hs (w_back w j) i z := h
noncomputable def w_close (w : wS) (k : Nat) : wS := w_setz (w_rec w) (zdrop k (zn (w_z w 5)) (w_z w))
theorem tl_drop {v m : Nat} {z : dz} (h : tl z) (hm : m ≤ 8) (hv : v < m) : tl (zdrop v m z) := fun k hk => by
  unfold zdrop
  rw [cpy_out (by omega), upd_ne _ _ (by omega)]
  exact h k hk
theorem wi_close {n k m : Nat} {w : wS} (h : wi n w) (hm : w_z w 5 = nI m) (hm8 : m ≤ 8) (hk : k < m) : wi n (w_close w k) := by
  have e : zn (w_z w 5) = m := by rw [hm]; exact zn_nI (by omega)
  unfold w_close
  rw [e]
  exact wi_setz (wi_rec h) (zko_upd h.1.1 (zok_drop h.1.1.1 hm hm8 hk) (zdrop_lo (by omega) (by omega)) (zdrop_lo (by omega) (by omega)) (fun u hu => zdrop_lo (by omega) (by omega))) (tl_drop h.2.1 hm8 hk)
/-- the last saved states -/
def t1 (w : wS) (z : dz) : Prop := 0 < w_s w ∧ w_sv w (w_s w - 1) = z
def t2 (w : wS) (z : dz) : Prop := 1 < w_s w ∧ w_sv w (w_s w - 2) = z
theorem t1_rec {w : wS} {z : dz} : t1 (w_setz (w_rec w) z) (w_z w) := by
  refine ⟨Nat.succ_pos _, ?_⟩
  show (if w_at w + 1 - 1 = w_at w then w_z w else if w_s w = 6 then w_sv w (w_at w + 1 - 1 + 1) else w_sv w (w_at w + 1 - 1)) = w_z w
  rw [if_pos (by omega)]
theorem t2_rec {w : wS} {z z1 : dz} (h6 : w_s w ≤ 6) (h : t1 w z1) : t2 (w_setz (w_rec w) z) z1 := by
  obtain ⟨h1, h2⟩ := h
  unfold t2
  show 1 < w_at w + 1 ∧ (if w_at w + 1 - 2 = w_at w then w_z w else if w_s w = 6 then w_sv w (w_at w + 1 - 2 + 1) else w_sv w (w_at w + 1 - 2)) = z1
  unfold w_at
  by_cases c : w_s w = 6
  · rw [if_pos c, if_neg (by omega), if_pos c]
    rw [c] at h2
    exact ⟨by omega, h2⟩
  · rw [if_neg c, if_neg (by omega), if_neg c]
    refine ⟨by omega, ?_⟩
    rw [show w_s w + 1 - 2 = w_s w - 1 by omega]
    exact h2
theorem t1_undo {w : wS} {z : dz} (h : t2 w z) : t1 (w_undo w) z := by
  obtain ⟨h1, h2⟩ := h
  refine ⟨by show 0 < w_s w - 1; omega, ?_⟩
  show w_sv w (w_s w - 1 - 1) = z
  rw [show w_s w - 1 - 1 = w_s w - 2 by omega]
  exact h2
theorem w_undo_z {n : Nat} {w : wS} {z : dz} (h : wi n w) (ht : t1 w z) : w_z (w_undo w) = z := by
  show zcp (w_sv w (w_s w - 1)) (w_z w) = z
  rw [zcp_tl (h.2.2.1 _ (by have := ht.1; omega)) h.2.1]
  exact ht.2
