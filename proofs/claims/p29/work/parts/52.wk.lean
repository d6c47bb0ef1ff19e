/-! what holds stays so through the calls -/
theorem zpk_of {z z' : dz} (h : ∀ v, v < 5 → z' (6 + v) = z (6 + v)) (hp : zpk z) : zpk z' := by
  obtain ⟨m, h1, h2⟩ := hp
  exact ⟨m, fun v hv => ⟨(h v hv).trans (h1 v hv).1, (h1 v hv).2⟩, h2⟩
theorem zok_congr {z z' : dz} (h : ∀ i, i < 105 → z' i = z i) (hz : zok z) : zok z' := by
  obtain ⟨m, hm, e, hv⟩ := hz.2.2.2.2.2
  refine zok_of hz (fun i hi _ => h i (by omega)) ((h 5 (by decide)).trans e) hm (fun k hk => ?_)
  unfold zvok
  rw [h _ (by omega), h _ (by omega), h _ (by omega), h _ (by omega), h _ (by omega)]
  exact hv k hk
theorem zko_congr {n : Nat} {z z' : dz} (h : ∀ i, i < 105 → z' i = z i) (hz : zko n z) : zko n z' :=
  ⟨zok_congr h hz.1, by rw [h 3 (by decide)]; exact hz.2.1, by rw [h 0 (by decide)]; exact hz.2.2.1, zpk_of (fun v hv => h _ (by omega)) hz.2.2.2⟩
theorem zko_cp {n : Nat} {a z : dz} (h : zko n a) : zko n (zcp a z) := zko_congr (fun i hi => by unfold zcp; rw [if_pos hi]) h
theorem zok_fill {z : dz} {v : Nat} {q : Int32} (h : zok z) (hv : v < 5) (q1 : 0 ≤ q.toInt) (q2 : q.toInt ≤ 2000) (hc : (z (18 + 8 * v)).toInt + q.toInt ≤ (z (17 + 8 * v)).toInt) (h3 : (z 3).toInt ≤ 2000000) : zok (zadd (zadd z (18 + 8 * v) q) 3 q) := by
  obtain ⟨hvt, hg, ha, hs, ⟨hw0, hw⟩, m, hm8, hm, hvs⟩ := h
  obtain ⟨b1, b2, b3⟩ := hvt v hv
  have hz3 := (zok_went ⟨hvt, hg, ha, hs, ⟨hw0, hw⟩, m, hm8, hm, hvs⟩)
  have e1 := ti_add (a := z (18 + 8 * v)) (b := q) (by omega) (by omega)
  have e2 := ti_add (a := z 3) (b := q) (by omega) (by omega)
  unfold zadd
  rw [upd_ne _ (k := 18 + 8 * v) (j := 3) _ (by omega)]
  generalize z (18 + 8 * v) + q = x at e1 ⊢
  generalize z 3 + q = y at e2 ⊢
  refine ⟨fun u hu => ?_, zgrs_ne (fun u d hu hd => by omega) (zgrs_ne (fun u d hu hd => by omega) hg), zacc_ne (fun u d hu hd => by omega) (by omega) (zacc_ne (fun u d hu hd => by omega) (by omega) ha), ?_, ?_, m, hm8, ?_, fun k hk => ?_⟩
  · rw [upd_ne _ (k := 3) (j := 18 + 8 * u) _ (by omega), upd_ne _ (k := 3) (j := 17 + 8 * u) _ (by omega), upd_ne _ (k := 18 + 8 * v) (j := 17 + 8 * u) _ (by omega)]
    by_cases c : u = v
    · subst c
      rw [upd_eq]
      omega
    · rw [upd_ne _ _ (by omega)]
      exact hvt u hu
  · rw [upd_ne _ _ (by decide), upd_ne _ _ (by omega)]; exact hs
  · rw [zwat_ne (by decide), zwat_w hv, upd_eq, upd_ne _ (k := 3) (j := 2) _ (by decide), upd_ne _ (k := 18 + 8 * v) (j := 2) _ (by omega)]
    exact ⟨hw0, by omega⟩
  · rw [upd_ne _ _ (by decide), upd_ne _ _ (by omega)]; exact hm
  · have := hvs k hk
    unfold zvok at this ⊢
    rw [upd_ne _ _ (by omega), upd_ne _ _ (by omega), upd_ne _ _ (by omega), upd_ne _ _ (by omega), upd_ne _ _ (by omega), upd_ne _ _ (by omega), upd_ne _ _ (by omega), upd_ne _ _ (by omega), upd_ne _ _ (by omega), upd_ne _ _ (by omega)]
    exact this
theorem zall_p {z : dz} {e d : Nat} {x : Int32} (he : e < 3) (hd : d < 3) : zall (upd z (11 + e) x) d = zall z d := zall_ne (by omega) (fun v hv => ⟨by omega, by omega⟩)
theorem zok_dye {z : dz} {v e : Nat} {q : Int32} (h : zok z) (hv : v < 5) (he : e < 3) (q1 : 0 ≤ q.toInt) (hc : (z (11 + e)).toInt + q.toInt ≤ 99999) : zok (zadd (zadd z (19 + 8 * v + e) q) (11 + e) q) := by
  obtain ⟨hvt, hg, ha, hs, ⟨hw0, hw⟩, m, hm8, hm, hvs⟩ := h
  obtain ⟨l1, l2, l3, l4⟩ := zgr_le hg ha hv he
  obtain ⟨g1, g2⟩ := hg v e hv he
  obtain ⟨a1, a2, a3⟩ := ha e he
  have hput : 0 ≤ (z (11 + e)).toInt := by
    have k0 := hg 0 e (by decide) he
    have k1 := hg 1 e (by decide) he
    have k2 := hg 2 e (by decide) he
    have k3 := hg 3 e (by decide) he
    have k4 := hg 4 e (by decide) he
    rw [show 19 + 8 * 0 + e = 19 + e by omega, show 22 + 8 * 0 + e = 22 + e by omega] at k0
    rw [show 19 + 8 * 1 + e = 27 + e by omega, show 22 + 8 * 1 + e = 30 + e by omega] at k1
    rw [show 19 + 8 * 2 + e = 35 + e by omega, show 22 + 8 * 2 + e = 38 + e by omega] at k2
    rw [show 19 + 8 * 3 + e = 43 + e by omega, show 22 + 8 * 3 + e = 46 + e by omega] at k3
    rw [show 19 + 8 * 4 + e = 51 + e by omega, show 22 + 8 * 4 + e = 54 + e by omega] at k4
    unfold zall at a2
    omega
  have e1 := ti_add (a := z (19 + 8 * v + e)) (b := q) (by omega) (by omega)
  have e2 := ti_add (a := z (11 + e)) (b := q) (by omega) (by omega)
  unfold zadd
  rw [upd_ne _ (k := 19 + 8 * v + e) (j := 11 + e) _ (by omega)]
  generalize z (19 + 8 * v + e) + q = x at e1 ⊢
  generalize z (11 + e) + q = y at e2 ⊢
  refine ⟨fun u hu => ?_, ?_, ?_, ?_, ?_, m, hm8, ?_, fun k hk => ?_⟩
  · rw [upd_ne _ (j := 18 + 8 * u) _ (by omega), upd_ne _ (j := 18 + 8 * u) _ (by omega), upd_ne _ (j := 17 + 8 * u) _ (by omega), upd_ne _ (j := 17 + 8 * u) _ (by omega)]
    exact hvt u hu
  · refine zgrs_ne (fun u d hu hd => by omega) (fun u d hu hd => ?_)
    obtain ⟨w1, w2⟩ := hg u d hu hd
    rw [upd_ne _ (j := 22 + 8 * u + d) _ (by omega)]
    by_cases c : 19 + 8 * u + d = 19 + 8 * v + e
    · rw [upd_eq' _ _ c]; exact ⟨by omega, w2⟩
    · rw [upd_ne _ _ c]; exact ⟨w1, w2⟩
  · intro d hd
    obtain ⟨b1, b2, b3⟩ := ha d hd
    rw [zall_p he hd, upd_ne _ (k := 11 + e) (j := 14 + d) _ (by omega), upd_ne _ (k := 19 + 8 * v + e) (j := 14 + d) _ (by omega)]
    by_cases c : d = e
    · subst c
      rw [zall_d hv, upd_eq]
      exact ⟨b1, by omega, by omega⟩
    · rw [zall_ne (by omega) (fun v hv => ⟨by omega, by omega⟩), upd_ne _ (k := 11 + e) (j := 11 + d) _ (by omega), upd_ne _ (k := 19 + 8 * v + e) (j := 11 + d) _ (by omega)]
      exact ⟨b1, b2, b3⟩
  · rw [upd_ne _ _ (by omega), upd_ne _ _ (by omega)]; exact hs
  · rw [zwat_ne (by omega), zwat_ne (by omega), upd_ne _ (j := 2) _ (by omega), upd_ne _ (j := 2) _ (by omega), upd_ne _ (j := 3) _ (by omega), upd_ne _ (j := 3) _ (by omega)]
    exact ⟨hw0, hw⟩
  · rw [upd_ne _ _ (by omega), upd_ne _ _ (by omega)]; exact hm
  · have := hvs k hk
    unfold zvok at this ⊢
    rw [upd_ne _ _ (by omega), upd_ne _ _ (by omega), upd_ne _ _ (by omega), upd_ne _ _ (by omega), upd_ne _ _ (by omega), upd_ne _ _ (by omega), upd_ne _ _ (by omega), upd_ne _ _ (by omega), upd_ne _ _ (by omega), upd_ne _ _ (by omega)]
    exact this
theorem zok_cap {z : dz} {v : Nat} {q : Int32} (h : zok z) (hv : v < 5) (q2 : q.toInt ≤ 2000) (hc : (z (18 + 8 * v)).toInt ≤ q.toInt) : zok (upd z (17 + 8 * v) q) := by
  obtain ⟨hvt, hg, ha, hs, ⟨hw0, hw⟩, m, hm8, hm, hvs⟩ := h
  refine ⟨fun u hu => ?_, zgrs_ne (fun u d hu hd => by omega) hg, zacc_ne (fun u d hu hd => by omega) (by omega) ha, ?_, ?_, m, hm8, ?_, fun k hk => ?_⟩
  · rw [upd_ne _ (j := 18 + 8 * u) _ (by omega)]
    by_cases c : u = v
    · subst c
      rw [upd_eq]
      exact ⟨(hvt u hu).1, hc, q2⟩
    · rw [upd_ne _ _ (by omega)]; exact hvt u hu
  · rw [upd_ne _ _ (by omega)]; exact hs
  · rw [zwat_ne (by omega), upd_ne _ (j := 2) _ (by omega), upd_ne _ (j := 3) _ (by omega)]
    exact ⟨hw0, hw⟩
  · rw [upd_ne _ _ (by omega)]; exact hm
  · have := hvs k hk
    unfold zvok at this ⊢
    rw [upd_ne _ _ (by omega), upd_ne _ _ (by omega), upd_ne _ _ (by omega), upd_ne _ _ (by omega), upd_ne _ _ (by omega)]
    exact this
theorem zok_sets {z : dz} {q : Int32} (h : zok z) (q1 : 0 ≤ q.toInt) (q2 : q.toInt ≤ 200) : zok (upd z 1 q) := by
  obtain ⟨hvt, hg, ha, hs, ⟨hw0, hw⟩, m, hm8, hm, hvs⟩ := h
  refine ⟨fun u hu => ?_, zgrs_ne (fun u d hu hd => by omega) hg, zacc_ne (fun u d hu hd => by omega) (by omega) ha, ?_, ?_, m, hm8, ?_, fun k hk => ?_⟩
  · rw [upd_ne _ (j := 18 + 8 * u) _ (by omega), upd_ne _ _ (by omega)]; exact hvt u hu
  · rw [upd_eq]; exact ⟨q1, q2⟩
  · rw [zwat_ne (by omega), upd_ne _ (j := 2) _ (by omega), upd_ne _ (j := 3) _ (by omega)]
    exact ⟨hw0, hw⟩
  · rw [upd_ne _ _ (by omega)]; exact hm
  · have := hvs k hk
    unfold zvok at this ⊢
    rw [upd_ne _ _ (by omega), upd_ne _ _ (by omega), upd_ne _ _ (by omega), upd_ne _ _ (by omega), upd_ne _ _ (by omega)]
    exact this
theorem zput_lo {m i : Nat} {f t r a b : Int32} {z : dz} (hi : i < 57 + 6 * m) (h5 : i ≠ 5) : zput m f t r a b z i = z i := by
  unfold zput
  rw [upd_ne _ _ h5, upd_ne _ _ (by omega), upd_ne _ _ (by omega), upd_ne _ _ (by omega), upd_ne _ _ (by omega), upd_ne _ _ (by omega), upd_ne _ _ (by omega)]
theorem zok_put {m : Nat} {f t r a b : Nat} {z : dz} (h : zok z) (hm : z 5 = nI m) (hm8 : m < 8) (hf : f < 5) (ht : t ≤ 5) (hft : f ≠ t) (hr1 : 1 ≤ r) (hr2 : r ≤ 500) (hab : a ≤ b) (hb : b ≤ 23) : zok (zput m (nI f) (nI t) (nI r) (nI a) (nI b) z) := by
  obtain ⟨m', hm', e, hvs⟩ := h.2.2.2.2.2
  have : m' = m := (nI_eq (by omega) (by omega)).mp (e.symm.trans hm)
  subst this
  refine zok_of (m := m' + 1) h (fun i h1 h2 => zput_lo (by omega) h2) (by unfold zput; rw [upd_eq]) (by omega) (fun k hk => ?_)
  by_cases c : k < m'
  · have := hvs k c
    unfold zvok at this ⊢
    rw [zput_lo (by omega) (by omega), zput_lo (by omega) (by omega), zput_lo (by omega) (by omega), zput_lo (by omega) (by omega), zput_lo (by omega) (by omega)]
    exact this
  · have ek : k = m' := by omega
    subst ek
    refine ⟨f, t, r, a, b, ?_, ?_, ?_, ?_, ?_, hf, ht, hft, hr1, hr2, hab, hb⟩
    all_goals
      unfold zput
      rw [upd_ne _ (k := 5) _ (by omega), upd_ne _ (k := 57 + 6 * k + 5) _ (by omega)]
    · rw [upd_ne _ _ (by omega), upd_ne _ _ (by omega), upd_ne _ _ (by omega), upd_ne _ _ (by omega), upd_eq]
    · rw [upd_ne _ _ (by omega), upd_ne _ _ (by omega), upd_ne _ _ (by omega), upd_eq]
    · rw [upd_ne _ _ (by omega), upd_ne _ _ (by omega), upd_eq]
    · rw [upd_ne _ _ (by omega), upd_eq]
    · rw [upd_eq]
theorem zhour_0 {z : dz} (h : zok z) : zhour z 0 = z 0 + nI 1 := by
  obtain ⟨m, hm8, hm, hv⟩ := h.2.2.2.2.2
  have e : zn (z 5) = m := by rw [hm]; exact zn_nI (by omega)
  unfold zhour
  rw [zadd_eq, e]
  have k1 : ∀ (y : dz) v, v ≤ 5 → zsettles y v 0 = y 0 := by
    intro y v
    induction v with
    | zero => intro _; rfl
    | succ v ih =>
      intro hv
      have s : ∀ (x : dz) d, d ≤ 3 → zsettle v x d 0 = x 0 := by
        intro x d
        induction d with
        | zero => intro _; rfl
        | succ d ihd =>
          intro hd
          show zset1 v d _ 0 = _
          unfold zset1
          split
          · rw [zadd_ne _ _ (by omega), zadd_ne _ _ (by omega), ihd (by omega)]
          · exact ihd (by omega)
      show zsettle v _ 3 0 = _
      rw [s _ 3 (Nat.le_refl _), ih (by omega)]
  have k2 : ∀ (y : dz) a, a ≤ 5 → zpipes y a 0 = y 0 := by
    intro y a
    induction a with
    | zero => intro _; rfl
    | succ a ih =>
      intro ha
      have s : ∀ (x : dz) k, a + k < 5 → zlevs a x k 0 = x 0 := by
        intro x k
        induction k with
        | zero => intro _; rfl
        | succ k ihk =>
          intro hk
          show zlev1 a (a + 1 + k) _ 0 = _
          unfold zlev1
          split
          · unfold zlevel
            split
            · rw [zmove_keep0 (by omega) (by omega), ihk (by omega)]
            · rw [zmove_keep0 (by omega) (by omega), ihk (by omega)]
          · exact ihk (by omega)
      show zlevs a _ (4 - a) 0 = _
      rw [s _ _ (by omega), ih (by omega)]
  rw [k1 _ 5 (Nat.le_refl _), k2 _ 5 (Nat.le_refl _), zvalves_keep0 h hm hm8 m (Nat.le_refl _)]
theorem zhours_0 {z : dz} (h : zok z) : ∀ n, zhours z n 0 = z 0 + nI n
  | 0 => (Int32.add_zero _).symm
  | n + 1 => by
    show zhour (zhours z n) 0 = _
    rw [zhour_0 (zok_hours h n).1, zhours_0 h n, Int32.add_assoc, nI_add]
theorem zko_hours {n k : Nat} {z : dz} (h : zko n z) (hk : k ≤ 240) (h0 : (z 0).toInt + k ≤ 99999) : zko n (zhours z k) := by
  obtain ⟨h1, h2⟩ := zok_hours h.1 k
  refine ⟨h1, by rw [h2 3 (by unfold zfix; omega)]; exact h.2.1, ?_, zpk_of (fun v hv => h2 _ (by unfold zfix; omega)) h.2.2.2⟩
  have e : (nI k).toInt = k := nI_toInt (by omega)
  have := h.2.2.1
  rw [zhours_0 h.1, ti_add (by omega) (by omega)]
  omega
/-- a number of others is changed -/
theorem zko_upd {n : Nat} {z z' : dz} (h : zko n z) (hz : zok z') (h3 : z' 3 = z 3) (h0 : z' 0 = z 0) (hp : ∀ v, v < 5 → z' (6 + v) = z (6 + v)) : zko n z' := ⟨hz, by rw [h3]; exact h.2.1, by rw [h0]; exact h.2.2.1, zpk_of hp h.2.2.2⟩
theorem zko_refuse {n : Nat} {z : dz} (h : zko n z) : zko n (zadd z 4 (nI 1)) := zko_upd h (zok_upd (by omega) h.1) (zadd_ne _ _ (by omega)) (zadd_ne _ _ (by omega)) (fun v hv => zadd_ne _ _ (by omega))
theorem isr_ti {p : Int32} {a b : Nat} (h : isr p a b) (ha : a < 2 ^ 31) (hb : b < 2 ^ 31) : (a : Int) ≤ p.toInt ∧ p.toInt ≤ b := by
  have h1 := Int32.le_iff_toInt_le.mp h.1
  have h2 := Int32.le_iff_toInt_le.mp h.2
  rw [nI_toInt hb] at h2
  rw [nI_toInt ha] at h1
  exact ⟨h1, h2⟩
theorem k_fill {n : Nat} {p q : Int32} {w : wS} (hn : n ≤ 600) (hk : wk n w) : wk (n + 1) (m_fill p q w).2.2 := by
  have h1 := wk_le (wk_rec hk) (Nat.le_succ n)
  unfold m_fill
  split
  · rename_i hv
    split
    · rename_i hq
      obtain ⟨q1, q2⟩ := isr_ti hq (by decide) (by decide)
      obtain ⟨v, -, hv4, rfl⟩ := isr_nat (a := 0) (b := 4) hv (by decide) (by decide)
      rw [zn_nI (by omega)]
      obtain ⟨b1, b2, b3⟩ := hk.1.1.1 v (by omega)
      have e1 := ti_add (a := w_z w (18 + 8 * v)) (b := q) (by omega) (by omega)
      split
      · exact wk_setz h1 (zko_refuse (zko_le hk.1 (Nat.le_succ n)))
      · rename_i c
        have c2 : ¬ (w_z w (17 + 8 * v)).toInt < (w_z w (18 + 8 * v) + q).toInt := fun z => c (ti_lt.mpr z)
        have h3 := hk.1.2.1
        refine wk_setz h1 ⟨zok_fill hk.1.1 (by omega) (by omega) (by omega) (by omega) (by omega), ?_, ?_, zpk_of (fun u hu => ?_) hk.1.2.2.2⟩
        · show (zadd (zadd (w_z w) (18 + 8 * v) q) 3 q 3).toInt ≤ _
          have hw := zok_went hk.1.1
          rw [zadd_eq, zadd_ne _ _ (by omega), ti_add (by omega) (by omega)]
          omega
        · rw [zadd_ne _ _ (by omega), zadd_ne _ _ (by omega)]; exact hk.1.2.2.1
        · rw [zadd_ne _ _ (by omega), zadd_ne _ _ (by omega)]
    · exact wk_le hk (Nat.le_succ n)
  · exact wk_le hk (Nat.le_succ n)
theorem k_dye {n : Nat} {p d q : Int32} {w : wS} (hk : wk n w) : wk (n + 1) (m_dye p d q w).2.2 := by
  have h1 := wk_le (wk_rec hk) (Nat.le_succ n)
  unfold m_dye
  split
  · rename_i hv
    split
    · rename_i hq
      obtain ⟨q1, q2⟩ := isr_ti hq (by decide) (by decide)
      split
      · exact wk_le hk (Nat.le_succ n)
      · rename_i c
        split
        · exact wk_setz h1 (zko_refuse (zko_le hk.1 (Nat.le_succ n)))
        · obtain ⟨v, -, hv4, rfl⟩ := isr_nat (a := 0) (b := 4) hv.1 (by decide) (by decide)
          obtain ⟨e, -, he2, rfl⟩ := isr_nat (a := 0) (b := 2) hv.2 (by decide) (by decide)
          rw [zn_nI (show v < 2 ^ 31 by omega), zn_nI (show e < 2 ^ 31 by omega)]
          rw [zn_nI (show e < 2 ^ 31 by omega)] at c
          have a3 := (hk.1.1.2.2.1 e (by omega)).2.2
          have hge := (zgr_le hk.1.1.2.1 hk.1.1.2.2.1 (show 0 < 5 by decide) (show e < 3 by omega))
          have a2 := (hk.1.1.2.2.1 e (by omega))
          have lo : -99999 ≤ (w_z w (11 + e)).toInt := by
            have := (hk.1.1.2.1 0 e (by decide) (by omega))
            have k1 := (hk.1.1.2.1 1 e (by decide) (by omega))
            have k2 := (hk.1.1.2.1 2 e (by decide) (by omega))
            have k3 := (hk.1.1.2.1 3 e (by decide) (by omega))
            have k4 := (hk.1.1.2.1 4 e (by decide) (by omega))
            rw [show 19 + 8 * 0 + e = 19 + e by omega, show 22 + 8 * 0 + e = 22 + e by omega] at this
            rw [show 19 + 8 * 1 + e = 27 + e by omega, show 22 + 8 * 1 + e = 30 + e by omega] at k1
            rw [show 19 + 8 * 2 + e = 35 + e by omega, show 22 + 8 * 2 + e = 38 + e by omega] at k2
            rw [show 19 + 8 * 3 + e = 43 + e by omega, show 22 + 8 * 3 + e = 46 + e by omega] at k3
            rw [show 19 + 8 * 4 + e = 51 + e by omega, show 22 + 8 * 4 + e = 54 + e by omega] at k4
            have := a2.2.1
            unfold zall at this
            omega
          have e1 := ti_add (a := w_z w (11 + e)) (b := q) (by omega) (by omega)
          have c2 : ¬ (nI 99999).toInt < (w_z w (11 + e) + q).toInt := fun z => c (ti_lt.mpr z)
          rw [nI_toInt (by decide)] at c2
          exact wk_setz h1 (zko_upd (zko_le hk.1 (Nat.le_succ n)) (zok_dye hk.1.1 (by omega) (by omega) (by omega) (by omega)) (by rw [zadd_ne _ _ (by omega), zadd_ne _ _ (by omega)]) (by rw [zadd_ne _ _ (by omega), zadd_ne _ _ (by omega)]) (fun u hu => by rw [zadd_ne _ _ (by omega), zadd_ne _ _ (by omega)]))
    · exact wk_le hk (Nat.le_succ n)
  · exact wk_le hk (Nat.le_succ n)
theorem k_cap {n : Nat} {p q : Int32} {w : wS} (hk : wk n w) : wk (n + 1) (m_cap p q w).2.2 := by
  have h1 := wk_le (wk_rec hk) (Nat.le_succ n)
  unfold m_cap
  split
  · rename_i hv
    split
    · rename_i hq
      obtain ⟨q1, q2⟩ := isr_ti hq (by decide) (by decide)
      obtain ⟨v, -, hv4, rfl⟩ := isr_nat (a := 0) (b := 4) hv (by decide) (by decide)
      rw [zn_nI (by omega)]
      split
      · exact wk_setz h1 (zko_refuse (zko_le hk.1 (Nat.le_succ n)))
      · rename_i c
        have c2 : ¬ q.toInt < (w_z w (18 + 8 * v)).toInt := fun z => c (ti_lt.mpr z)
        exact wk_setz h1 (zko_upd (zko_le hk.1 (Nat.le_succ n)) (zok_cap hk.1.1 (by omega) q2 (by omega)) (by rw [upd_ne _ _ (by omega)]) (by rw [upd_ne _ _ (by omega)]) (fun u hu => by rw [upd_ne _ _ (by omega)]))
    · exact wk_le hk (Nat.le_succ n)
  · exact wk_le hk (Nat.le_succ n)
theorem k_set {n : Nat} {p : Int32} {w : wS} (hk : wk n w) : wk (n + 1) (m_set p w).2.2 := by
  have h1 := wk_le (wk_rec hk) (Nat.le_succ n)
  unfold m_set
  split
  · rename_i hq
    obtain ⟨q1, q2⟩ := isr_ti hq (by decide) (by decide)
    exact wk_setz h1 (zko_upd (zko_le hk.1 (Nat.le_succ n)) (zok_sets hk.1.1 q1 q2) (by rw [upd_ne _ _ (by omega)]) (by rw [upd_ne _ _ (by omega)]) (fun u hu => by rw [upd_ne _ _ (by omega)]))
  · exact wk_le hk (Nat.le_succ n)
theorem k_stir {n : Nat} {p : Int32} {w : wS} (hk : wk n w) : wk (n + 1) (m_stir p w).2.2 := by
  have h1 := wk_le (wk_rec hk) (Nat.le_succ n)
  unfold m_stir
  split
  · rename_i hv
    obtain ⟨v, -, hv4, rfl⟩ := isr_nat (a := 0) (b := 4) hv (by decide) (by decide)
    rw [zn_nI (by omega)]
    have keep : ∀ i, i < 17 → ∀ d, d ≤ 3 → zst v (w_z w) d i = w_z w i := by
      intro i hi d
      induction d with
      | zero => intro _; rfl
      | succ d ih =>
        intro hd
        show zst1 v d _ i = _
        unfold zst1
        rw [zadd_ne _ _ (by omega), zadd_ne _ _ (by omega), ih (by omega)]
    exact wk_setz h1 (zko_upd (zko_le hk.1 (Nat.le_succ n)) (zok_st hk.1.1 (by omega) 3 (Nat.le_refl _)) (keep 3 (by decide) 3 (Nat.le_refl _)) (keep 0 (by decide) 3 (Nat.le_refl _)) (fun u hu => keep _ (by omega) 3 (Nat.le_refl _)))
  · exact wk_le hk (Nat.le_succ n)
theorem k_close {n : Nat} {p : Int32} {w : wS} (hk : wk n w) : wk (n + 1) (m_close p w).2.2 := by
  have h1 := wk_le (wk_rec hk) (Nat.le_succ n)
  obtain ⟨m, hm8, hm, -⟩ := hk.1.1.2.2.2.2.2
  unfold m_close
  split
  · rename_i hq
    rw [hm] at hq
    obtain ⟨v, hv, rfl⟩ := isl_nat hm8 hq
    rw [hm, zn_nI (show v < 2 ^ 31 by omega), zn_nI (show m < 2 ^ 31 by omega)]
    exact wk_setz h1 (zko_upd (zko_le hk.1 (Nat.le_succ n)) (zok_drop hk.1.1 hm hm8 hv) (zdrop_lo (by omega) (by omega)) (zdrop_lo (by omega) (by omega)) (fun u hu => zdrop_lo (by omega) (by omega)))
  · exact wk_le hk (Nat.le_succ n)
theorem k_valve {n : Nat} {f t r a b : Int32} {w : wS} (hk : wk n w) : wk (n + 1) (m_valve f t r a b w).2.2 := by
  have h1 := wk_le (wk_rec hk) (Nat.le_succ n)
  obtain ⟨m, hm8, hm, -⟩ := hk.1.1.2.2.2.2.2
  unfold m_valve
  split
  · rename_i hv
    split
    · rename_i hq
      split
      · exact wk_le hk (Nat.le_succ n)
      · rename_i c
        have hm7 : m < 8 := by
          have : m ≠ 8 := fun q => c (by rw [hm, q])
          omega
        obtain ⟨f', -, hf, rfl⟩ := isr_nat (a := 0) (b := 4) hv.1 (by decide) (by decide)
        obtain ⟨t', -, ht, rfl⟩ := isr_nat hv.2 (by decide) (by decide)
        obtain ⟨r', hr1, hr2, rfl⟩ := isr_nat hq.2.1 (by decide) (by decide)
        obtain ⟨a', -, ha, rfl⟩ := isr_nat hq.2.2.1 (by decide) (by decide)
        obtain ⟨b', hb1, hb2, rfl⟩ := isr_nat (a := a') (b := 23) hq.2.2.2 (by omega) (by decide)
        rw [hm, zn_nI (show m < 2 ^ 31 by omega)]
        exact wk_setz h1 (zko_upd (zko_le hk.1 (Nat.le_succ n)) (zok_put hk.1.1 hm hm7 (by omega) ht (fun q => hq.1 (by rw [q])) hr1 hr2 hb1 hb2) (zput_lo (by omega) (by omega)) (zput_lo (by omega) (by omega)) (fun u hu => zput_lo (by omega) (by omega)))
    · exact wk_le hk (Nat.le_succ n)
  · exact wk_le hk (Nat.le_succ n)
