/-! an hour of two states that differ in nothing that a look or a plan tells -/
def zD (i : Nat) : Prop := i = 0 ∨ i = 2 ∨ (14 ≤ i ∧ i < 17) ∨ (57 ≤ i ∧ (i - 57) % 6 = 5)
def ag (a b : dz) : Prop := ∀ i, ¬ zD i → a i = b i
theorem ag_refl (a : dz) : ag a a := fun _ _ => rfl
theorem ag_symm {a b : dz} (h : ag a b) : ag b a := fun i hi => (h i hi).symm
theorem ag_trans {a b c : dz} (h : ag a b) (h' : ag b c) : ag a c := fun i hi => (h i hi).trans (h' i hi)
theorem ag_add {a b : dz} (h : ag a b) (i : Nat) (x : Int32) : ag (zadd a i x) (zadd b i x) := by
  intro j hj
  by_cases c : j = i
  · subst c
    rw [zadd_eq, zadd_eq, h j hj]
  · rw [zadd_ne _ _ c, zadd_ne _ _ c, h j hj]
theorem ag_upd {a b : dz} (h : ag a b) {i : Nat} (x y : Int32) (hi : zD i) : ag (upd a i x) (upd b i y) := by
  intro j hj
  have c : j ≠ i := fun q => hj (q ▸ hi)
  rw [upd_ne _ _ c, upd_ne _ _ c, h j hj]
theorem ag_moved {a b : dz} (h : ag a b) {fr to : Nat} {much : Int32} (hf : fr < 5) (ht : to ≤ 5) : zmoved fr to much a = zmoved fr to much b := by
  unfold zmoved
  rw [h (18 + 8 * fr) (by unfold zD; omega)]
  split
  · rfl
  · rw [h (17 + 8 * to) (by unfold zD; omega), h (18 + 8 * to) (by unfold zD; omega)]
theorem ag_dyes {a b : dz} (h : ag a b) {fr to : Nat} {m had : Int32} (hf : fr < 5) : ∀ d, d ≤ 3 → ag (zdyes fr to m had a d) (zdyes fr to m had b d)
  | 0, _ => h
  | d + 1, hd => by
    have ih := ag_dyes h (fr := fr) (to := to) (m := m) (had := had) hf d (by omega)
    show ag (zdye fr to m had d _) (zdye fr to m had d _)
    unfold zdye
    have e : zgr fr m had d (zdyes fr to m had a d) = zgr fr m had d (zdyes fr to m had b d) := by
      unfold zgr
      rw [ih (19 + 8 * fr + d) (by unfold zD; omega)]
    rw [e]
    exact ag_add (ag_add ih _ _) _ _
theorem ag_move {a b : dz} (h : ag a b) {fr to : Nat} {much : Int32} (hf : fr < 5) (ht : to ≤ 5) : ag (zmove fr to much a) (zmove fr to much b) := by
  unfold zmove
  rw [ag_moved h hf ht, h (18 + 8 * fr) (by unfold zD; omega)]
  split
  · exact h
  · exact ag_add (ag_add (ag_dyes h hf 3 (Nat.le_refl _)) _ _) _ _
theorem ag_level {a b : dz} (h : ag a b) {one other : Nat} (h1 : one < 5) (h2 : other < 5) : ag (zlevel one other a) (zlevel one other b) := by
  unfold zlevel
  rw [h (18 + 8 * one) (by unfold zD; omega), h (18 + 8 * other) (by unfold zD; omega)]
  split
  · exact ag_move h h1 (by omega)
  · exact ag_move h h2 (by omega)
theorem ag_lev1 {a b : dz} (h : ag a b) {one other : Nat} (h1 : one < 5) (h2 : other < 5) : ag (zlev1 one other a) (zlev1 one other b) := by
  have e : zpipe one other a ↔ zpipe one other b := by
    unfold zpipe
    rw [h (6 + one) (by unfold zD; omega)]
  unfold zlev1
  by_cases c : zpipe one other a
  · rw [if_pos c, if_pos (e.mp c)]
    exact ag_level h h1 h2
  · rw [if_neg c, if_neg (fun q => c (e.mpr q))]
    exact h
theorem ag_levs {a b : dz} (h : ag a b) {one : Nat} (h1 : one < 5) : ∀ k, one + k < 5 → ag (zlevs one a k) (zlevs one b k)
  | 0, _ => h
  | k + 1, hk => ag_lev1 (ag_levs h h1 k (by omega)) h1 (by omega)
theorem ag_pipes {a b : dz} (h : ag a b) : ∀ k, k ≤ 5 → ag (zpipes a k) (zpipes b k)
  | 0, _ => h
  | k + 1, hk => ag_levs (ag_pipes h k (by omega)) (by omega) _ (by omega)
theorem ag_set1 {a b : dz} (h : ag a b) {v d : Nat} (hv : v < 5) (hd : d < 3) : ag (zset1 v d a) (zset1 v d b) := by
  have e : zholds v a = zholds v b := by
    unfold zholds
    rw [h (18 + 8 * v) (by unfold zD; omega), h 1 (by unfold zD; omega)]
  unfold zset1
  rw [e, h (19 + 8 * v + d) (by unfold zD; omega)]
  split
  · exact ag_add (ag_add h _ _) _ _
  · exact h
theorem ag_settle {a b : dz} (h : ag a b) {v : Nat} (hv : v < 5) : ∀ d, d ≤ 3 → ag (zsettle v a d) (zsettle v b d)
  | 0, _ => h
  | d + 1, hd => ag_set1 (ag_settle h hv d (by omega)) hv (by omega)
theorem ag_settles {a b : dz} (h : ag a b) : ∀ v, v ≤ 5 → ag (zsettles a v) (zsettles b v)
  | 0, _ => h
  | v + 1, hv => ag_settle (ag_settles h v (by omega)) (by omega) 3 (Nat.le_refl _)
theorem ag_valve {a b : dz} (h : ag a b) (hh : zhod a = zhod b) {k m : Nat} (hz : zok a) (hm : a 5 = nI m) (hm8 : m ≤ 8) (hk : k < m) : ag (zvalve k a) (zvalve k b) := by
  obtain ⟨m', hm', e, hv⟩ := hz.2.2.2.2.2
  have : m' = m := (nI_eq (by omega) (by omega)).mp (e.symm.trans hm)
  subst this
  obtain ⟨e1, e2, e3, e4, e5, e6⟩ := zvok_use (hv k hk)
  have eo : zopen k a ↔ zopen k b := by
    unfold zopen
    rw [h (57 + 6 * k + 3) (by unfold zD; omega), h (57 + 6 * k + 4) (by unfold zD; omega), hh]
  have g0 := h (57 + 6 * k) (by unfold zD; omega)
  have g1 := h (57 + 6 * k + 1) (by unfold zD; omega)
  have g2 := h (57 + 6 * k + 2) (by unfold zD; omega)
  unfold zvalve
  by_cases c : zopen k a
  · rw [if_pos c, if_pos (eo.mp c)]
    refine ag_upd ?_ _ _ (by unfold zD; omega)
    rw [← g0, ← g1, ← g2]
    exact ag_move h e3 e4
  · rw [if_neg c, if_neg (fun q => c (eo.mpr q))]
    exact h
theorem ag_valves {a b : dz} (h : ag a b) (hh : zhod a = zhod b) {m : Nat} (hza : zok a) (hzb : zok b) (hm : a 5 = nI m) (hm8 : m ≤ 8) : ∀ k, k ≤ m → ag (zvalves a k) (zvalves b k)
  | 0, _ => h
  | k + 1, hk => by
    have ih := ag_valves h hh hza hzb hm hm8 k (by omega)
    have hmb : b 5 = nI m := by rw [← h 5 (by unfold zD; omega)]; exact hm
    obtain ⟨h1, h2⟩ := zok_valves hza hm hm8 k (by omega)
    have e : zhod (zvalves a k) = zhod (zvalves b k) := by
      have ha := zvalves_keep0 hza hm hm8 k (by omega)
      have hb := zvalves_keep0 hzb hmb hm8 k (by omega)
      unfold zhod at hh ⊢
      rw [ha, hb]
      exact hh
    exact ag_valve ih e h1 (by rw [h2 5 (by unfold zfix; omega)]; exact hm) hm8 (by omega)
theorem ag_hour {a b : dz} (h : ag a b) (hh : zhod a = zhod b) (hza : zok a) (hzb : zok b) : ag (zhour a) (zhour b) := by
  obtain ⟨m, hm8, hm, hv⟩ := hza.2.2.2.2.2
  have hmb : b 5 = nI m := by rw [← h 5 (by unfold zD; omega)]; exact hm
  have ea : zn (a 5) = m := by rw [hm]; exact zn_nI (by omega)
  have eb : zn (b 5) = m := by rw [hmb]; exact zn_nI (by omega)
  unfold zhour
  rw [ea, eb]
  exact ag_add (ag_settles (ag_pipes (ag_valves h hh hza hzb hm hm8 m (Nat.le_refl _)) 5 (Nat.le_refl _)) 5 (Nat.le_refl _)) _ _
/-- the hour of the day, of hours of a small number -/
theorem zhod_ti {z : dz} (h0 : 0 ≤ (z 0).toInt) (h9 : (z 0).toInt ≤ 1000000) : (zhod z).toInt = (z 0).toInt % 24 := by
  have e24 : (nI 24).toInt = 24 := nI_toInt (by decide)
  have e1 := ti_div (a := z 0) (b := nI 24) h0 (by omega)
  rw [e24] at e1
  have e2 := ti_mul (a := z 0 / nI 24) (b := nI 24) (by rw [e1, e24]; omega) (by rw [e1, e24]; omega)
  rw [e1, e24] at e2
  have e3 := ti_sub (a := z 0) (b := z 0 / nI 24 * nI 24) (by omega) (by omega)
  unfold zhod
  omega
theorem ag_hours {a b : dz} (h : ag a b) (hza : zok a) (hzb : zok b) (a0 : 0 ≤ (a 0).toInt ∧ (a 0).toInt ≤ 500000) (b0 : 0 ≤ (b 0).toInt ∧ (b 0).toInt ≤ 500000) (hm : (a 0).toInt % 24 = (b 0).toInt % 24) : ∀ k, k ≤ 24 → ag (zhours a k) (zhours b k)
  | 0, _ => h
  | k + 1, hk => by
    have ih := ag_hours h hza hzb a0 b0 hm k (by omega)
    have ea := zhours_0 hza k
    have eb := zhours_0 hzb k
    have ek : (nI k).toInt = k := nI_toInt (by omega)
    have ta := ti_add (a := a 0) (b := nI k) (by omega) (by omega)
    have tb := ti_add (a := b 0) (b := nI k) (by omega) (by omega)
    rw [← ea] at ta
    rw [← eb] at tb
    refine ag_hour ih (ti_ext ?_) (zok_hours hza k).1 (zok_hours hzb k).1
    rw [zhod_ti (by omega) (by omega), zhod_ti (by omega) (by omega)]
    omega
