/-! the text: a machine that takes it character by character; e valves are ended, p is the part, n its number so far, r the numbers read -/
abbrev tS : Type := Nat × Nat × Option Nat × (Nat → Nat)
def tlow (p r3 : Nat) : Nat := if p = 2 then 1 else if p = 4 then r3 else 0
def tmost (p : Nat) : Nat := if p = 0 then 4 else if p = 1 then 5 else if p = 2 then 500 else 23
def tsig (p : Nat) : Nat := if p = 0 then 62 else if p = 1 then 42 else if p = 2 then 64 else if p = 3 then 45 else 59
abbrev tcan (p r0 r3 s : Nat) : Prop := ¬ (p = 1 ∧ s = r0) ∧ ((s = 0 ∧ tlow p r3 = 0) ∨ (s ≠ 0 ∧ ((s ≤ tmost p ∧ tlow p r3 ≤ s) ∨ (s * 10 ≤ tmost p ∧ tlow p r3 ≤ s * 10 + 9) ∨ (s * 100 ≤ tmost p ∧ tlow p r3 ≤ s * 100 + 99))))
def tlong (n : Option Nat) (d : Nat) : Nat := match n with
  | none => d
  | some k => k * 10 + d
def trw (r : Nat → Nat) (i s : Nat) : Nat → Nat := fun k => if k = i then s else r k
def tstep (c : Nat) (t : tS) : Option tS :=
  if 48 ≤ c ∧ c ≤ 57 then
    (if t.2.2.1 ≠ some 0 ∧ tcan t.2.1 (t.2.2.2 (5 * t.1)) (t.2.2.2 (5 * t.1 + 3)) (tlong t.2.2.1 (c - 48)) then some (t.1, t.2.1, some (tlong t.2.2.1 (c - 48)), trw t.2.2.2 (5 * t.1 + t.2.1) (tlong t.2.2.1 (c - 48))) else none)
  else match t.2.2.1 with
    | none => none
    | some m => if c = tsig t.2.1 ∧ tlow t.2.1 (t.2.2.2 (5 * t.1 + 3)) ≤ m ∧ m ≤ tmost t.2.1 then (if t.2.1 = 4 then some (t.1 + 1, 0, none, t.2.2.2) else some (t.1, t.2.1 + 1, none, t.2.2.2)) else none
theorem ts_dig {c e p s : Nat} {n : Option Nat} {r : Nat → Nat} (hc : 48 ≤ c ∧ c ≤ 57) (hs : tlong n (c - 48) = s) (h0 : n ≠ some 0) (h : tcan p (r (5 * e)) (r (5 * e + 3)) s) : tstep c (e, p, n, r) = some (e, p, some s, trw r (5 * e + p) s) := by
  subst hs
  unfold tstep
  rw [if_pos hc]
  exact if_pos ⟨h0, h⟩
theorem ts_dno {c e p : Nat} {n : Option Nat} {r : Nat → Nat} (hc : 48 ≤ c ∧ c ≤ 57) (h : ¬ (n ≠ some 0 ∧ tcan p (r (5 * e)) (r (5 * e + 3)) (tlong n (c - 48)))) : tstep c (e, p, n, r) = none := by
  unfold tstep
  rw [if_pos hc]
  exact if_neg h
theorem ts_non {c e p : Nat} {r : Nat → Nat} (hc : ¬ (48 ≤ c ∧ c ≤ 57)) : tstep c (e, p, none, r) = none := by
  unfold tstep
  rw [if_neg hc]
theorem ts_sno {c e p m : Nat} {r : Nat → Nat} (hc : ¬ (48 ≤ c ∧ c ≤ 57)) (h : ¬ (c = tsig p ∧ tlow p (r (5 * e + 3)) ≤ m ∧ m ≤ tmost p)) : tstep c (e, p, some m, r) = none := by
  unfold tstep
  rw [if_neg hc]
  exact if_neg h
theorem tsig_nd (p : Nat) : ¬ (48 ≤ tsig p ∧ tsig p ≤ 57) := by
  unfold tsig
  split
  · omega
  · split
    · omega
    · split
      · omega
      · split <;> omega
theorem ts_sig {e p m : Nat} {r : Nat → Nat} (hp : p ≠ 4) (h : tlow p (r (5 * e + 3)) ≤ m ∧ m ≤ tmost p) : tstep (tsig p) (e, p, some m, r) = some (e, p + 1, none, r) := by
  unfold tstep
  rw [if_neg (tsig_nd p)]
  show (if tsig p = tsig p ∧ tlow p (r (5 * e + 3)) ≤ m ∧ m ≤ tmost p then (if p = 4 then some (e + 1, 0, none, r) else some (e, p + 1, none, r)) else none) = _
  rw [if_pos ⟨rfl, h⟩, if_neg hp]
theorem ts_end {e m : Nat} {r : Nat → Nat} (h : r (5 * e + 3) ≤ m ∧ m ≤ 23) : tstep 59 (e, 4, some m, r) = some (e + 1, 0, none, r) := by
  unfold tstep
  rw [if_neg (by omega)]
  exact if_pos ⟨rfl, h⟩
/-- how far the text is taken, and what is held then -/
def tgo (tx : Nat → Nat) : Nat → Nat × tS
  | 0 => (0, 0, 0, none, fun _ => 0)
  | i + 1 => if (tgo tx i).1 = i then (match tstep (tx i) (tgo tx i).2 with
    | none => tgo tx i
    | some t => (i + 1, t)) else tgo tx i
theorem tgo_ok {tx : Nat → Nat} {i : Nat} {t t' : tS} (h : tgo tx i = (i, t)) (hs : tstep (tx i) t = some t') : tgo tx (i + 1) = (i + 1, t') := by
  show (if (tgo tx i).1 = i then (match tstep (tx i) (tgo tx i).2 with
    | none => tgo tx i
    | some t => (i + 1, t)) else tgo tx i) = _
  rw [h]
  show (if i = i then (match tstep (tx i) t with
    | none => (i, t)
    | some t => (i + 1, t)) else (i, t)) = _
  rw [if_pos rfl, hs]
theorem tgo_no {tx : Nat → Nat} {i : Nat} {t : tS} (h : tgo tx i = (i, t)) (hs : tstep (tx i) t = none) : ∀ j, tgo tx (i + j) = (i, t)
  | 0 => h
  | j + 1 => by
    have ih := tgo_no h hs j
    show (if (tgo tx (i + j)).1 = i + j then (match tstep (tx (i + j)) (tgo tx (i + j)).2 with
      | none => tgo tx (i + j)
      | some t => (i + j + 1, t)) else tgo tx (i + j)) = _
    rw [ih]
    by_cases c : i = i + j
    · have e : j = 0 := by omega
      subst e
      show (if i = i + 0 then (match tstep (tx i) t with
        | none => (i, t)
        | some t => (i + 0 + 1, t)) else (i, t)) = _
      rw [if_pos c, hs]
    · exact if_neg c
def tq (n : Option Nat) : Nat := match n with
  | none => 0
  | some _ => 1
def tvk (r : Nat → Nat) (v : Nat) : Prop := r (5 * v) ≤ 4 ∧ r (5 * v + 1) ≤ 5 ∧ r (5 * v) ≠ r (5 * v + 1) ∧ 1 ≤ r (5 * v + 2) ∧ r (5 * v + 2) ≤ 500 ∧ r (5 * v + 3) ≤ r (5 * v + 4) ∧ r (5 * v + 4) ≤ 23
/-- what holds of what is held -/
def tI (i : Nat) (t : tS) : Prop := t.2.1 < 5 ∧ 10 * t.1 + 2 * t.2.1 + tq t.2.2.1 ≤ i ∧ (∀ v, v < t.1 → tvk t.2.2.2 v) ∧ (1 ≤ t.2.1 → t.2.2.2 (5 * t.1) ≤ 4) ∧ (2 ≤ t.2.1 → t.2.2.2 (5 * t.1 + 1) ≤ 5 ∧ t.2.2.2 (5 * t.1) ≠ t.2.2.2 (5 * t.1 + 1)) ∧ (3 ≤ t.2.1 → 1 ≤ t.2.2.2 (5 * t.1 + 2) ∧ t.2.2.2 (5 * t.1 + 2) ≤ 500) ∧ (4 ≤ t.2.1 → t.2.2.2 (5 * t.1 + 3) ≤ 23) ∧ ∀ m, t.2.2.1 = some m → t.2.2.2 (5 * t.1 + t.2.1) = m ∧ m ≤ tmost t.2.1 ∧ (t.2.1 = 1 → t.2.2.2 (5 * t.1) ≠ m)
theorem trw_eq (r : Nat → Nat) (i s : Nat) : trw r i s i = s := if_pos rfl
theorem trw_ne (r : Nat → Nat) {i k : Nat} (s : Nat) (h : k ≠ i) : trw r i s k = r k := if_neg h
theorem tcan_most {p r0 r3 s : Nat} (h : tcan p r0 r3 s) : s ≤ tmost p := by
  rcases h.2 with c | ⟨_, c | c | c⟩ <;> omega
theorem tI_dig {i e p s : Nat} {n : Option Nat} {r : Nat → Nat} (h : tI i (e, p, n, r)) (hc : tcan p (r (5 * e)) (r (5 * e + 3)) s) : tI (i + 1) (e, p, some s, trw r (5 * e + p) s) := by
  obtain ⟨h1, h2, h3, h4, h5, h6, h7, h8⟩ := h
  simp only at h1 h2 h3 h4 h5 h6 h7 h8
  have hm := tcan_most hc
  refine ⟨h1, ?_, ?_, ?_, ?_, ?_, ?_, ?_⟩
  · show 10 * e + 2 * p + 1 ≤ i + 1
    omega
  · intro v hv
    have hv' : v < e := hv
    have := h3 v hv'
    unfold tvk at this ⊢
    show trw r (5 * e + p) s (5 * v) ≤ 4 ∧ trw r (5 * e + p) s (5 * v + 1) ≤ 5 ∧ trw r (5 * e + p) s (5 * v) ≠ trw r (5 * e + p) s (5 * v + 1) ∧ 1 ≤ trw r (5 * e + p) s (5 * v + 2) ∧ trw r (5 * e + p) s (5 * v + 2) ≤ 500 ∧ trw r (5 * e + p) s (5 * v + 3) ≤ trw r (5 * e + p) s (5 * v + 4) ∧ trw r (5 * e + p) s (5 * v + 4) ≤ 23
    rw [trw_ne _ _ (show 5 * v ≠ 5 * e + p by omega), trw_ne _ _ (show 5 * v + 1 ≠ 5 * e + p by omega), trw_ne _ _ (show 5 * v + 2 ≠ 5 * e + p by omega), trw_ne _ _ (show 5 * v + 3 ≠ 5 * e + p by omega), trw_ne _ _ (show 5 * v + 4 ≠ 5 * e + p by omega)]
    exact this
  · intro q
    have q' : 1 ≤ p := q
    show trw r (5 * e + p) s (5 * e) ≤ 4
    rw [trw_ne _ _ (by omega)]
    exact h4 q'
  · intro q
    have q' : 2 ≤ p := q
    show trw r (5 * e + p) s (5 * e + 1) ≤ 5 ∧ trw r (5 * e + p) s (5 * e) ≠ trw r (5 * e + p) s (5 * e + 1)
    rw [trw_ne _ _ (show 5 * e + 1 ≠ 5 * e + p by omega), trw_ne _ _ (show 5 * e ≠ 5 * e + p by omega)]
    exact h5 q'
  · intro q
    have q' : 3 ≤ p := q
    show 1 ≤ trw r (5 * e + p) s (5 * e + 2) ∧ trw r (5 * e + p) s (5 * e + 2) ≤ 500
    rw [trw_ne _ _ (show 5 * e + 2 ≠ 5 * e + p by omega)]
    exact h6 q'
  · intro q
    have q' : 4 ≤ p := q
    show trw r (5 * e + p) s (5 * e + 3) ≤ 23
    rw [trw_ne _ _ (show 5 * e + 3 ≠ 5 * e + p by omega)]
    exact h7 q'
  · intro m hm'
    have e1 : s = m := Option.some.inj hm'
    subst e1
    refine ⟨trw_eq r (5 * e + p) s, hm, fun q => ?_⟩
    have q' : p = 1 := q
    show trw r (5 * e + p) s (5 * e) ≠ s
    rw [trw_ne _ _ (by omega)]
    exact fun z => hc.1 ⟨q', z.symm⟩
theorem tI_sig {i e p m : Nat} {r : Nat → Nat} (h : tI i (e, p, some m, r)) (hp : p ≠ 4) (hc : tlow p (r (5 * e + 3)) ≤ m ∧ m ≤ tmost p) : tI (i + 1) (e, p + 1, none, r) := by
  obtain ⟨h1, h2, h3, h4, h5, h6, h7, h8⟩ := h
  simp only at h1 h2 h3 h4 h5 h6 h7 h8
  obtain ⟨k1, k2, k3⟩ := h8 m rfl
  have hq : tq (some m) = 1 := rfl
  refine ⟨by show p + 1 < 5; omega, ?_, h3, ?_, ?_, ?_, ?_, fun m' hm' => by cases hm'⟩
  · show 10 * e + 2 * (p + 1) + 0 ≤ i + 1
    omega
  · intro _
    show r (5 * e) ≤ 4
    by_cases c : p = 0
    · subst c
      have : tmost 0 = 4 := rfl
      rw [Nat.add_zero] at k1
      omega
    · exact h4 (by omega)
  · intro q
    have q' : 2 ≤ p + 1 := q
    show r (5 * e + 1) ≤ 5 ∧ r (5 * e) ≠ r (5 * e + 1)
    by_cases c : p = 1
    · subst c
      have : tmost 1 = 5 := rfl
      have k4 := k3 rfl
      exact ⟨by omega, by omega⟩
    · exact h5 (by omega)
  · intro q
    have q' : 3 ≤ p + 1 := q
    show 1 ≤ r (5 * e + 2) ∧ r (5 * e + 2) ≤ 500
    by_cases c : p = 2
    · subst c
      have : tmost 2 = 500 := rfl
      have : tlow 2 (r (5 * e + 3)) = 1 := rfl
      exact ⟨by omega, by omega⟩
    · exact h6 (by omega)
  · intro q
    have q' : 4 ≤ p + 1 := q
    show r (5 * e + 3) ≤ 23
    by_cases c : p = 3
    · subst c
      have : tmost 3 = 23 := rfl
      omega
    · exact h7 (by omega)
theorem tI_vk {i e m : Nat} {r : Nat → Nat} (h : tI i (e, 4, some m, r)) (hc : r (5 * e + 3) ≤ m ∧ m ≤ 23) : ∀ v, v < e + 1 → tvk r v := by
  obtain ⟨h1, h2, h3, h4, h5, h6, h7, h8⟩ := h
  simp only at h1 h2 h3 h4 h5 h6 h7 h8
  obtain ⟨k1, k2, k3⟩ := h8 m rfl
  intro v hv
  by_cases c : v = e
  · subst c
    have a4 := h4 (by omega)
    have a5 := h5 (by omega)
    have a6 := h6 (by omega)
    exact ⟨a4, a5.1, a5.2, a6.1, a6.2, by omega, by omega⟩
  · exact h3 v (by omega)
theorem tI_end {i e m : Nat} {r : Nat → Nat} (h : tI i (e, 4, some m, r)) (hc : r (5 * e + 3) ≤ m ∧ m ≤ 23) : tI (i + 1) (e + 1, 0, none, r) := by
  have hv := tI_vk h hc
  obtain ⟨h1, h2, h3, h4, h5, h6, h7, h8⟩ := h
  simp only at h2
  have hq : tq (some m) = 1 := rfl
  refine ⟨by show 0 < 5; omega, ?_, hv, ?_, ?_, ?_, ?_, fun m' hm' => by cases hm'⟩
  · show 10 * (e + 1) + 2 * 0 + 0 ≤ i + 1
    omega
  all_goals
    intro q
    have q' : _ ≤ 0 := q
    omega
theorem tI_step {i c : Nat} {t t' : tS} (h : tI i t) (hs : tstep c t = some t') : tI (i + 1) t' := by
  obtain ⟨e, p, n, r⟩ := t
  by_cases hc : 48 ≤ c ∧ c ≤ 57
  · by_cases hd : n ≠ some 0 ∧ tcan p (r (5 * e)) (r (5 * e + 3)) (tlong n (c - 48))
    · rw [ts_dig hc rfl hd.1 hd.2] at hs
      cases hs
      exact tI_dig h hd.2
    · rw [ts_dno hc hd] at hs
      cases hs
  · cases n with
    | none => rw [ts_non hc] at hs; cases hs
    | some m =>
      by_cases hw : c = tsig p ∧ tlow p (r (5 * e + 3)) ≤ m ∧ m ≤ tmost p
      · obtain ⟨rfl, hw⟩ := hw
        by_cases h4 : p = 4
        · subst h4
          rw [show tsig 4 = 59 from rfl, ts_end hw] at hs
          cases hs
          exact tI_end h hw
        · rw [ts_sig h4 hw] at hs
          cases hs
          exact tI_sig h h4 hw
      · rw [ts_sno hc hw] at hs
        cases hs
theorem tI_0 : tI 0 (0, 0, none, fun _ => 0) := by
  refine ⟨by show 0 < 5; omega, by show 10 * 0 + 2 * 0 + 0 ≤ 0; omega, fun v hv => absurd hv (Nat.not_lt_zero v), ?_, ?_, ?_, ?_, fun m hm => by cases hm⟩
  all_goals
    intro q
    have q' : _ ≤ 0 := q
    omega
theorem tgo_I (tx : Nat → Nat) : ∀ i, (tgo tx i).1 ≤ i ∧ tI (tgo tx i).1 (tgo tx i).2
  | 0 => ⟨Nat.le_refl 0, tI_0⟩
  | i + 1 => by
    obtain ⟨h1, h2⟩ := tgo_I tx i
    by_cases c : (tgo tx i).1 = i
    · have e0 : tgo tx i = (i, (tgo tx i).2) := Prod.ext c rfl
      rw [c] at h2
      cases hs : tstep (tx i) (tgo tx i).2 with
      | none =>
        rw [tgo_no e0 hs 1]
        exact ⟨by show i ≤ i + 1; omega, h2⟩
      | some t =>
        rw [tgo_ok e0 hs]
        exact ⟨Nat.le_refl _, tI_step h2 hs⟩
    · have e1 : tgo tx (i + 1) = tgo tx i := if_neg c
      rw [e1]
      exact ⟨by omega, h2⟩
def tfull (t : tS) : Prop := t.2.1 = 4 ∧ ∃ m, t.2.2.1 = some m ∧ t.2.2.2 (5 * t.1 + 3) ≤ m ∧ m ≤ 23
/-- the text is a plan -/
def tOK (tx : Nat → Nat) (ln : Nat) : Prop := (tgo tx ln).1 = ln ∧ tfull (tgo tx ln).2
/-- the text ends as no plan, with the first error at i -/
def tD (tx : Nat → Nat) (ln i : Nat) : Prop := (tgo tx ln).1 = i ∧ i ≤ ln ∧ ¬ tOK tx ln
theorem tD_of {tx : Nat → Nat} {ln i : Nat} {t : tS} (hl : i ≤ ln) (h : tgo tx i = (i, t)) (h1 : i < ln → tstep (tx i) t = none) (h2 : ¬ tfull t) : tD tx ln i := by
  by_cases c : i = ln
  · subst c
    refine ⟨by rw [h], Nat.le_refl _, fun q => h2 ?_⟩
    have := q.2
    rw [h] at this
    exact this
  · have e := tgo_no h (h1 (by omega)) (ln - i)
    rw [show i + (ln - i) = ln by omega] at e
    refine ⟨by rw [e], hl, fun q => c ?_⟩
    have := q.1
    rw [e] at this
    exact this
theorem tD_of' {tx : Nat → Nat} {ln i : Nat} {t : tS} (hl : i < ln) (h : tgo tx i = (i, t)) (h1 : tstep (tx i) t = none) : tD tx ln i := by
  have e := tgo_no h h1 (ln - i)
  rw [show i + (ln - i) = ln by omega] at e
  refine ⟨by rw [e], by omega, fun q => ?_⟩
  have := q.1
  rw [e] at this
  have q' : i = ln := this
  omega
