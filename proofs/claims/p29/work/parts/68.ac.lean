/-! the law's act -/
theorem c_L_low {v p : Int32} {d : Nat} {M : am_M} {K : am_Q} (hp : p = nI d) (h0 : 0 < d) (hd : d < 2 ^ 31) (h : ∀ x, x < d → K (.inl (some (.int (nI x)))) M) : am_C mt_L_low [.int v, .int p] M K := by
  subst hp
  refine am_C_of_R am_S0 om_L_low rfl [.int v, .int (nI d)] rfl rfl (g_L_low_0 ⟨nI_ne0 h0 hd, ?_⟩)
  obtain ⟨j, hj, e⟩ := pk_andE v (m := nI 2147483647) 31 (by decide +kernel)
  show K (.inl (some (.int ((v &&& nI 2147483647) - (v &&& nI 2147483647) / nI d * nI d)))) M
  rw [e, pk_rem (by omega) h0 hd]
  exact h _ (Nat.mod_lt _ h0)
/-- what an act leaves: answer and state -/
def ao (n : Nat) (w : wS) (v : Int32) (w' : wS) : Prop := wi (n + 1) w' ∧ (v < -nI 1 → w' = w) ∧ (w_z w' 0).toInt ≤ (w_z w 0).toInt + 40
theorem ao_no {n b th : Nat} {w : wS} {r : Int32} (h : wi n w) : ao n w (lt b th r) w := ⟨wi_le h (Nat.le_succ n), fun _ => rfl, by omega⟩
theorem m1_ti : (-nI 1 : Int32).toInt = -1 := by decide +kernel
theorem ao_ok {n b : Nat} {w : wS} {z : dz} {r : Int32} (h : wi n w) (hk : wk (n + 1) (w_setz (w_rec w) z)) (ht : tl z) (h0 : (z 0).toInt ≤ (w_z w 0).toInt + 40) (hr : -1 ≤ r.toInt) : ao n w (lt b 0 r) (w_setz (w_rec w) z) := by
  refine ⟨⟨hk, wt_setz (wi_rec h).2 ht⟩, fun c => ?_, h0⟩
  have c' : r < -nI 1 := c
  have := ti_lt.mp c'
  rw [m1_ti] at this
  omega
theorem nn_ti {m : Nat} (h : m < 2 ^ 31) : -1 ≤ (nI m).toInt := by rw [nI_toInt h]; omega
theorem a_fill {n : Nat} {p q : Int32} {w : wS} (hn : n ≤ 600) (h : wi n w) : ao n w (lt 0 (m_fill p q w).1 (m_fill p q w).2.1) (m_fill p q w).2.2 := by
  have hk := k_fill (p := p) (q := q) hn h.1
  revert hk
  unfold m_fill
  split
  · rename_i hv
    split
    · rename_i hq
      obtain ⟨q1, q2⟩ := isr_ti hq (by decide) (by decide)
      obtain ⟨v, -, hv4, rfl⟩ := isr_nat (a := 0) (b := 4) hv (by decide) (by decide)
      rw [zn_nI (by omega)]
      obtain ⟨b1, b2, b3⟩ := h.1.1.1.1 v (by omega)
      split
      · exact fun hk => ao_ok h hk (tl_add h.2.1 (by omega)) (by rw [zadd_ne _ _ (by omega)]; omega) (by rw [m1_ti]; omega)
      · exact fun hk => ao_ok h hk (tl_add (tl_add h.2.1 (by omega)) (by omega)) (by rw [zadd_ne _ _ (by omega), zadd_ne _ _ (by omega)]; omega) (by rw [ti_add (by omega) (by omega)]; omega)
    · exact fun _ => ao_no h
  · exact fun _ => ao_no h
theorem a_dye {n : Nat} {p d q : Int32} {w : wS} (h : wi n w) : ao n w (lt 0 (m_dye p d q w).1 (m_dye p d q w).2.1) (m_dye p d q w).2.2 := by
  have hk := k_dye (p := p) (d := d) (q := q) h.1
  revert hk
  unfold m_dye
  split
  · rename_i hv
    split
    · rename_i hq
      obtain ⟨q1, q2⟩ := isr_ti hq (by decide) (by decide)
      obtain ⟨v, -, hv4, rfl⟩ := isr_nat (a := 0) (b := 4) hv.1 (by decide) (by decide)
      obtain ⟨e, -, he2, rfl⟩ := isr_nat (a := 0) (b := 2) hv.2 (by decide) (by decide)
      rw [zn_nI (show v < 2 ^ 31 by omega), zn_nI (show e < 2 ^ 31 by omega)]
      obtain ⟨l1, -, -, -⟩ := zgr_le h.1.1.1.2.1 h.1.1.1.2.2.1 (show v < 5 by omega) (show e < 3 by omega)
      obtain ⟨g1, -⟩ := h.1.1.1.2.1 v e (by omega) (by omega)
      split
      · exact fun _ => ao_no h
      · split
        · exact fun hk => ao_ok h hk (tl_add h.2.1 (by omega)) (by rw [zadd_ne _ _ (by omega)]; omega) (by rw [m1_ti]; omega)
        · exact fun hk => ao_ok h hk (tl_add (tl_add h.2.1 (by omega)) (by omega)) (by rw [zadd_ne _ _ (by omega), zadd_ne _ _ (by omega)]; omega) (by rw [ti_add (by omega) (by omega)]; omega)
    · exact fun _ => ao_no h
  · exact fun _ => ao_no h
theorem a_cap {n : Nat} {p q : Int32} {w : wS} (h : wi n w) : ao n w (lt 0 (m_cap p q w).1 (m_cap p q w).2.1) (m_cap p q w).2.2 := by
  have hk := k_cap (p := p) (q := q) h.1
  revert hk
  unfold m_cap
  split
  · rename_i hv
    split
    · rename_i hq
      obtain ⟨v, -, hv4, rfl⟩ := isr_nat (a := 0) (b := 4) hv (by decide) (by decide)
      rw [zn_nI (by omega)]
      obtain ⟨b1, b2, b3⟩ := h.1.1.1.1 v (by omega)
      split
      · exact fun hk => ao_ok h hk (tl_add h.2.1 (by omega)) (by rw [zadd_ne _ _ (by omega)]; omega) (by rw [m1_ti]; omega)
      · exact fun hk => ao_ok h hk (tl_upd h.2.1 (by omega)) (by rw [upd_ne _ _ (by omega)]; omega) (by dsimp only; omega)
    · exact fun _ => ao_no h
  · exact fun _ => ao_no h
theorem a_set {n : Nat} {p : Int32} {w : wS} (h : wi n w) : ao n w (lt 1 (m_set p w).1 (m_set p w).2.1) (m_set p w).2.2 := by
  have hk := k_set (p := p) h.1
  revert hk
  unfold m_set
  have := h.1.1.1.2.2.2.1
  split
  · exact fun hk => ao_ok h hk (tl_upd h.2.1 (by omega)) (by rw [upd_ne _ _ (by omega)]; omega) (by dsimp only; omega)
  · exact fun _ => ao_no h
theorem a_pipe {n : Nat} {p q : Int32} {w : wS} (h : wi n w) : ao n w (lt 0 (m_pipe p q w).1 (m_pipe p q w).2.1) (m_pipe p q w).2.2 := by
  have hk := k_pipe (p := p) (q := q) h.1
  revert hk
  unfold m_pipe
  split
  · rename_i hv
    obtain ⟨v, -, hv4, rfl⟩ := isr_nat (a := 0) (b := 4) hv.1 (by decide) (by decide)
    obtain ⟨u, -, hu4, rfl⟩ := isr_nat (a := 0) (b := 4) hv.2 (by decide) (by decide)
    rw [zn_nI (show v < 2 ^ 31 by omega), zn_nI (show u < 2 ^ 31 by omega)]
    split
    · exact fun _ => ao_no h
    · refine fun hk => ao_ok h hk (tl_upd (tl_upd h.2.1 (by omega)) (by omega)) (by rw [upd_ne _ _ (by omega), upd_ne _ _ (by omega)]; omega) ?_
      rcases and1' (upd (upd (w_z w) (6 + v) (w_z w (6 + v) ^^^ (nI 1 <<< (nI u &&& 31)))) (6 + u) (w_z w (6 + u) ^^^ (nI 1 <<< (nI v &&& 31))) (6 + v) >>> (nI u &&& 31)) with e | e
      · rw [e]; exact nn_ti (by decide)
      · rw [e]; exact nn_ti (by decide)
  · exact fun _ => ao_no h
theorem a_close {n : Nat} {p : Int32} {w : wS} (h : wi n w) : ao n w (lt 0 (m_close p w).1 (m_close p w).2.1) (m_close p w).2.2 := by
  have hk := k_close (p := p) h.1
  obtain ⟨m, hm8, hm, -⟩ := h.1.1.1.2.2.2.2.2
  revert hk
  unfold m_close
  split
  · rename_i hq
    rw [hm] at hq
    obtain ⟨v, hv, rfl⟩ := isl_nat hm8 hq
    rw [hm, zn_nI (show v < 2 ^ 31 by omega), zn_nI (show m < 2 ^ 31 by omega)]
    exact fun hk => ao_ok h hk (tl_drop h.2.1 hm8 hv) (by rw [zdrop_lo (by omega) (by omega)]; omega) (by rw [nI_sub1 (by omega)]; exact nn_ti (by omega))
  · exact fun _ => ao_no h
theorem tl_put {m : Nat} {f t r a b : Int32} {z : dz} (h : tl z) (hm : m < 8) : tl (zput m f t r a b z) := tl_upd (tl_upd (tl_upd (tl_upd (tl_upd (tl_upd (tl_upd h (by omega)) (by omega)) (by omega)) (by omega)) (by omega)) (by omega)) (by omega)
theorem a_valve {n : Nat} {f t r a b : Int32} {w : wS} (h : wi n w) : ao n w (lt 0 (m_valve f t r a b w).1 (m_valve f t r a b w).2.1) (m_valve f t r a b w).2.2 := by
  have hk := k_valve (f := f) (t := t) (r := r) (a := a) (b := b) h.1
  obtain ⟨m, hm8, hm, -⟩ := h.1.1.1.2.2.2.2.2
  revert hk
  unfold m_valve
  split
  · split
    · split
      · exact fun _ => ao_no h
      · rename_i c
        have hm7 : m < 8 := by
          have : m ≠ 8 := fun q => c (by rw [hm, q])
          omega
        rw [hm, zn_nI (show m < 2 ^ 31 by omega)]
        exact fun hk => ao_ok h hk (tl_put h.2.1 hm7) (by rw [zput_lo (by omega) (by omega)]; omega) (nn_ti (by omega))
    · exact fun _ => ao_no h
  · exact fun _ => ao_no h
theorem tl_st {v : Nat} {z : dz} (h : tl z) (hv : v < 5) : ∀ d, d ≤ 3 → tl (zst v z d)
  | 0, _ => h
  | d + 1, hd => tl_add (tl_add (tl_st h hv d (by omega)) (by omega)) (by omega)
theorem st_keep {v i : Nat} {z : dz} (hi : i < 17) : ∀ d, d ≤ 3 → zst v z d i = z i
  | 0, _ => rfl
  | d + 1, hd => by
    show zst1 v d (zst v z d) i = _
    unfold zst1
    rw [zadd_ne _ _ (by omega), zadd_ne _ _ (by omega), st_keep hi d (by omega)]
theorem zsts_ti {v : Nat} {z : dz} (h : zok z) (hv : v < 5) : ∀ d, d ≤ 3 → 0 ≤ (zsts v z d).toInt ∧ (zsts v z d).toInt ≤ 100000 * d
  | 0, _ => ⟨by show 0 ≤ (nI 0).toInt; decide +kernel, by show (nI 0).toInt ≤ 100000 * ((0 : Nat) : Int); decide +kernel⟩
  | d + 1, hd => by
    obtain ⟨a, b⟩ := zsts_ti h hv d (by omega)
    have hz := zok_st h hv d (by omega)
    obtain ⟨c1, c2⟩ := zstm_ti hz hv (show d < 3 by omega)
    obtain ⟨-, l2, -, -⟩ := zgr_le hz.2.1 hz.2.2.1 hv (show d < 3 by omega)
    show 0 ≤ (zsts v z d + zstm v d (zst v z d)).toInt ∧ (zsts v z d + zstm v d (zst v z d)).toInt ≤ 100000 * ((d + 1 : Nat) : Int)
    rw [ti_add (by omega) (by omega)]
    omega
theorem a_stir {n : Nat} {p : Int32} {w : wS} (h : wi n w) : ao n w (lt 0 (m_stir p w).1 (m_stir p w).2.1) (m_stir p w).2.2 := by
  have hk := k_stir (p := p) h.1
  revert hk
  unfold m_stir
  split
  · rename_i hv
    obtain ⟨v, -, hv4, rfl⟩ := isr_nat (a := 0) (b := 4) hv (by decide) (by decide)
    rw [zn_nI (by omega)]
    have hs := zsts_ti h.1.1.1 (show v < 5 by omega) 3 (Nat.le_refl _)
    exact fun hk => ao_ok h hk (tl_st h.2.1 (by omega) 3 (Nat.le_refl _)) (by rw [st_keep (by omega) 3 (Nat.le_refl _)]; omega) (by dsimp only; omega)
  · exact fun _ => ao_no h
theorem a_pass {n k : Nat} {w : wS} (hk40 : k ≤ 40) (h : wi n w) : ao n w (lt 1 (m_pass (nI k) w).1 (m_pass (nI k) w).2.1) (m_pass (nI k) w).2.2 := by
  have hk := k_pass (p := nI k) h.1
  revert hk
  unfold m_pass
  have h0 := h.1.1.2.2.1
  have e : (nI k).toInt = k := nI_toInt (by omega)
  split
  · rw [zn_nI (by omega)]
    split
    · exact fun _ => ao_no h
    · refine fun hk => ao_ok h hk (tl_hours h.1.1.1 h.2.1 k) ?_ ?_
      · rw [zhours_0 h.1.1.1, ti_add (by omega) (by omega)]
        omega
      · have := out_pos h.1.1.1 k
        dsimp only
        omega
  · exact fun _ => ao_no h
