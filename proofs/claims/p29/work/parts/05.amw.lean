/-! what the abstract machine's words mean for the kit's: worlds and locals -/
theorem am_w_get (a : Nat → Nat) (g : ClassId × ClassId × Nat) (M : am_M) {o : Nat} (h : o < am_nc g.2.2) : (am_w a g M)[o]? = some (a o, am_e a g M o) := by
  simp [am_w, h]
theorem am_w_len (a : Nat → Nat) (g : ClassId × ClassId × Nat) (M : am_M) : (am_w a g M).length = am_nc g.2.2 := by simp [am_w]
theorem am_nc_lo {x o : Nat} (h : o < 17) : o < am_nc x := by unfold am_nc; split <;> omega
theorem am_nc_x {x k : Nat} (h : k < x) : 17 < am_nc x := by unfold am_nc; split <;> omega
theorem am_e_same {a : Nat → Nat} {g : ClassId × ClassId × Nat} {M M' : am_M} {o : Nat} (h : M' o = M o) : am_e a g M' o = am_e a g M o := by
  have hv : ∀ ci k, am_val ci o k M' = am_val ci o k M := by
    intro ci k
    unfold am_val
    split
    · rfl
    · unfold am_v0
      split
      · rw [h]
      · rfl
  unfold am_e
  split <;> first | rw [h] | (congr 3; funext k; rw [hv])
theorem am_w_set {a : Nat → Nat} {g : ClassId × ClassId × Nat} {M M' : am_M} {o : Nat} {x : va_E} (h : o < am_nc g.2.2) (hM : ∀ q, q ≠ o → M' q = M q) (hx : x = am_e a g M' o) : (am_w a g M).set o (a o, x) = am_w a g M' := by
  subst hx
  apply List.ext_getElem?
  intro k
  by_cases hk : k < am_nc g.2.2
  · rw [am_w_get a g M' hk]
    by_cases hko : k = o
    · subst hko
      rw [List.getElem?_set_self (by rw [am_w_len]; exact hk)]
    · rw [List.getElem?_set_ne (Ne.symm hko), am_w_get a g M hk, am_e_same (hM k hko)]
  · rw [List.getElem?_eq_none (by rw [List.length_set, am_w_len]; omega), List.getElem?_eq_none (by rw [am_w_len]; omega)]
theorem am_set_ne {M : am_M} {o q : Nat} {f : Nat → Int32} (h : q ≠ o) : am_set M o f q = M q := by simp [am_set, h]
theorem am_set_eq {M : am_M} {o : Nat} {f : Nat → Int32} : am_set M o f o = f := by simp [am_set]
theorem am_D_any {a : Nat → Nat} {g : ClassId × ClassId × Nat} {A : Nat → Prop} {M : am_M} (h : va_D A (am_w a g M)) (M' : am_M) : va_D A (am_w a g M') := by
  have key : ∀ (k : Nat) (q : Nat × va_E), (am_w a g M')[k]? = some q → ∃ e, (am_w a g M)[k]? = some (q.1, e) := by
    intro k q hk
    by_cases h27 : k < am_nc g.2.2
    · rw [am_w_get a g M' h27] at hk
      cases hk
      exact ⟨_, am_w_get a g M h27⟩
    · rw [List.getElem?_eq_none (by rw [am_w_len]; omega)] at hk
      cases hk
  refine ⟨fun i j p q hi hj hpq => ?_, fun k q hk => ?_⟩
  · obtain ⟨e1, h1⟩ := key i p hi
    obtain ⟨e2, h2⟩ := key j q hj
    exact h.1 i j _ _ h1 h2 hpq
  · obtain ⟨e1, h1⟩ := key k q hk
    exact h.2 k (q.1, e1) h1
theorem am_A_any {a : Nat → Nat} {g : ClassId × ClassId × Nat} {M M' : am_M} {sz q : Nat} : va_A (am_w a g M) sz q → va_A (am_w a g M') sz q := by
  rintro (⟨k, e, h⟩ | h)
  · have h27 : k < am_nc g.2.2 := by
      have := (List.getElem?_eq_some_iff.mp h).1
      rwa [am_w_len] at this
    rw [am_w_get a g M h27] at h
    have e1 : a k = q := by
      have := Option.some.inj h
      exact congrArg Prod.fst this
    exact Or.inl ⟨k, am_e a g M' k, by rw [am_w_get a g M' h27, e1]⟩
  · exact Or.inr h
theorem am_in_A {a : Nat → Nat} {g : ClassId × ClassId × Nat} {A : Nat → Prop} {M : am_M} (h : va_D A (am_w a g M)) {o : Nat} (ho : o < am_nc g.2.2) : A (a o) := h.2 o _ (am_w_get a g M ho)
/-- memories that agree on the world's places make one world -/
theorem am_w_congr {a : Nat → Nat} {g : ClassId × ClassId × Nat} {M M' : am_M} (h : ∀ o, o < am_nc g.2.2 → am_e a g M' o = am_e a g M o) : am_w a g M' = am_w a g M := by
  apply List.ext_getElem?
  intro k
  by_cases hk : k < am_nc g.2.2
  · rw [am_w_get a g M' hk, am_w_get a g M hk, h k hk]
  · rw [List.getElem?_eq_none (by rw [am_w_len]; omega), List.getElem?_eq_none (by rw [am_w_len]; omega)]
-- values
theorem am_tv_cat (a : Nat → Nat) (v : Value) : (am_tv a v).category = v.category := by cases v <;> rfl
theorem am_cat_map (a : Nat → Nat) : ∀ st : List Value, ((st.map (am_tv a)).map fun v => v.category).sum = am_cat st
  | [] => rfl
  | v :: r => by
    show (am_tv a v).category + ((r.map (am_tv a)).map fun v => v.category).sum = v.category + am_cat r
    rw [am_tv_cat, am_cat_map a r]
theorem am_args_spec : ∀ (n : Nat) (acc st : List Value) {av r : List Value}, am_args n acc st = some (av, r) → ∃ p, av = p.reverse ++ acc ∧ st = p ++ r ∧ p.length = n
  | 0, acc, st, av, r, h => by
    cases h
    exact ⟨[], rfl, rfl, rfl⟩
  | n + 1, acc, [], av, r, h => by cases h
  | n + 1, acc, v :: st, av, r, h => by
    obtain ⟨p, h1, h2, h3⟩ := am_args_spec n (v :: acc) st h
    exact ⟨v :: p, by rw [h1]; simp, by rw [h2]; rfl, by rw [List.length_cons, h3]⟩
-- locals
theorem am_lv_ld {a : Nat → Nat} {n : Nat} {ls : List Value} {la : Array Slot} (h : am_lv a n ls la) {k : Nat} {v : Value} (hk : ls[k]? = some v) (hv : v ≠ .null) : la[k]? = some (.val (am_tv a v)) := h.2.2.2 k v hk hv
def am_lw (a : Nat → Nat) (ls : List Value) : List (Nat × Value) := (List.range ls.length).filterMap (fun i => match ls[i]? with
  | some v => if v = .null then none else some (i, am_tv a v)
  | none => none)
theorem am_lw_mem {a : Nat → Nat} {ls : List Value} {q : Nat × Value} : q ∈ am_lw a ls ↔ ∃ v, ls[q.1]? = some v ∧ v ≠ .null ∧ q.2 = am_tv a v := by
  unfold am_lw
  rw [List.mem_filterMap]
  constructor
  · rintro ⟨i, hi, h⟩
    split at h
    · rename_i v hv
      split at h
      · cases h
      · rename_i hn
        cases h
        exact ⟨v, hv, hn, rfl⟩
    · cases h
  · rintro ⟨v, h1, h2, h3⟩
    refine ⟨q.1, List.mem_range.mpr (List.getElem?_eq_some_iff.mp h1).1, ?_⟩
    rw [h1]
    simp only [h2, if_false]
    rw [← h3]
theorem am_lv_has {a : Nat → Nat} {n : Nat} {ls : List Value} {la : Array Slot} (h : am_lv a n ls la) : lv_has la n (am_lw a ls) := by
  refine ⟨h.1, h.2.1, fun q hq => ?_⟩
  obtain ⟨v, h1, h2, h3⟩ := am_lw_mem.mp hq
  rw [h3]
  exact h.2.2.2 _ v h1 h2
theorem am_s1_len (ls : List Value) (k : Nat) (v : Value) : (am_s1 ls k v).length = ls.length := by
  unfold am_s1
  split
  · simp
  · split <;> simp
/-- what a store of one place leaves -/
theorem am_s1_get {ls : List Value} {k : Nat} {v : Value} {i : Nat} {w : Value} (hk : k < ls.length) (h : (am_s1 ls k v)[i]? = some w) (hw : w ≠ .null) : (i = k ∧ w = v) ∨ (i ≠ k ∧ ls[i]? = some w ∧ ¬ (i + 1 = k ∧ w.category = 2)) := by
  unfold am_s1 at h
  split at h
  · by_cases hi : i = 0
    · subst hi
      rw [List.getElem?_set_self hk] at h
      cases h
      exact Or.inl ⟨rfl, rfl⟩
    · rw [List.getElem?_set_ne (Ne.symm hi)] at h
      exact Or.inr ⟨hi, h, by omega⟩
  · rename_i j
    have hj : j < ls.length := by omega
    have two : ∀ h : ((ls.set j .null).set (j + 1) v)[i]? = some w, (i = j + 1 ∧ w = v) ∨ (i ≠ j + 1 ∧ ls[i]? = some w ∧ ¬ (i + 1 = j + 1 ∧ w.category = 2)) := by
      intro h
      by_cases hi : i = j + 1
      · subst hi
        rw [List.getElem?_set_self (by rw [List.length_set]; exact hk)] at h
        cases h
        exact Or.inl ⟨rfl, rfl⟩
      · rw [List.getElem?_set_ne (Ne.symm hi)] at h
        by_cases hij : i = j
        · subst hij
          rw [List.getElem?_set_self hj] at h
          cases h
          exact absurd rfl hw
        · rw [List.getElem?_set_ne (Ne.symm hij)] at h
          exact Or.inr ⟨hi, h, by omega⟩
    split at h
    · exact two h
    · exact two h
    · rename_i h1 h2
      by_cases hi : i = j + 1
      · subst hi
        rw [List.getElem?_set_self hk] at h
        cases h
        exact Or.inl ⟨rfl, rfl⟩
      · rw [List.getElem?_set_ne (Ne.symm hi)] at h
        refine Or.inr ⟨hi, h, fun q => ?_⟩
        have hij : i = j := by omega
        subst hij
        cases w with
        | long z => exact h1 z h
        | double z => exact h2 z h
        | int z => exact absurd q.2 (by simp [Value.category])
        | float z => exact absurd q.2 (by simp [Value.category])
        | null => exact absurd q.2 (by simp [Value.category])
        | ref z => exact absurd q.2 (by simp [Value.category])
        | retAddr z => exact absurd q.2 (by simp [Value.category])
theorem am_lv_s1 {a : Nat → Nat} {n k : Nat} {ls : List Value} {la la' : Array Slot} {v : Value} (h : am_lv a n ls la) (hk : k < n) (h' : lv_has la' n ((k, am_tv a v) :: (am_lw a ls).filter (fun q => !(q.1 == k) && !(q.1 + 1 == k && q.2.category == 2)))) : am_lv a n (am_s1 ls k v) la' := by
  refine ⟨h'.1, h'.2.1, by rw [am_s1_len]; exact h.2.2.1, fun i w hi hw => ?_⟩
  rcases am_s1_get (by rw [h.2.2.1]; exact hk) hi hw with ⟨rfl, rfl⟩ | ⟨h1, h2, h3⟩
  · exact h'.2.2 _ List.mem_cons_self
  · refine h'.2.2 (i, am_tv a w) (List.mem_cons_of_mem _ (List.mem_filter.mpr ⟨am_lw_mem.mpr ⟨w, h2, hw, rfl⟩, ?_⟩))
    simp only [am_tv_cat, Bool.and_eq_true, Bool.not_eq_true', beq_eq_false_iff_ne, ne_eq, Bool.and_eq_false_iff]
    refine ⟨h1, ?_⟩
    by_cases e : i + 1 = k
    · exact Or.inr (fun q => h3 ⟨e, q⟩)
    · exact Or.inl e
theorem am_lv_s2 {a : Nat → Nat} {n k : Nat} {ls : List Value} {la la' : Array Slot} {v : Value} (h : am_lv a n ls la) (hk : k + 1 < n) (h' : lv_has la' n ((k, am_tv a v) :: (am_lw a ls).filter (fun q => !(q.1 == k) && (!(q.1 == k + 1) && !(q.1 + 1 == k && q.2.category == 2))))) : am_lv a n (am_s2 ls k v) la' := by
  refine ⟨h'.1, h'.2.1, by unfold am_s2; rw [List.length_set, am_s1_len]; exact h.2.2.1, fun i w hi hw => ?_⟩
  unfold am_s2 at hi
  by_cases e1 : i = k + 1
  · subst e1
    rw [List.getElem?_set_self (by rw [am_s1_len, h.2.2.1]; exact hk)] at hi
    cases hi
    exact absurd rfl hw
  · rw [List.getElem?_set_ne (Ne.symm e1)] at hi
    rcases am_s1_get (by rw [h.2.2.1]; omega) hi hw with ⟨rfl, rfl⟩ | ⟨h1, h2, h3⟩
    · exact h'.2.2 _ List.mem_cons_self
    · refine h'.2.2 (i, am_tv a w) (List.mem_cons_of_mem _ (List.mem_filter.mpr ⟨am_lw_mem.mpr ⟨w, h2, hw, rfl⟩, ?_⟩))
      simp only [am_tv_cat, Bool.and_eq_true, Bool.not_eq_true', beq_eq_false_iff_ne, ne_eq, Bool.and_eq_false_iff]
      refine ⟨h1, e1, ?_⟩
      by_cases e : i + 1 = k
      · exact Or.inr (fun q => h3 ⟨e, q⟩)
      · exact Or.inl e
/-- fewer locals known -/
def am_le : List Value → List Value → Prop
  | [], [] => True
  | x :: xs, y :: ys => (x = .null ∨ x = y) ∧ am_le xs ys
  | _, _ => False
theorem am_le_get : ∀ (xs ys : List Value), am_le xs ys → xs.length = ys.length ∧ ∀ (i : Nat) (v : Value), xs[i]? = some v → v ≠ .null → ys[i]? = some v
  | [], [], _ => ⟨rfl, fun i v h => by simp at h⟩
  | x :: xs, y :: ys, h => by
    obtain ⟨h1, h2⟩ := am_le_get xs ys h.2
    refine ⟨by simp [h1], fun i v hi hv => ?_⟩
    cases i with
    | zero =>
      rw [List.getElem?_cons_zero] at hi ⊢
      cases hi
      rcases h.1 with e | e
      · exact absurd e hv
      · rw [e]
    | succ i =>
      rw [List.getElem?_cons_succ] at hi ⊢
      exact h2 i v hi hv
  | [], _ :: _, h => h.elim
  | _ :: _, [], h => h.elim
theorem am_lv_le {a : Nat → Nat} {n : Nat} {xs ys : List Value} {la : Array Slot} (h : am_lv a n ys la) (hle : am_le xs ys) : am_lv a n xs la := by
  obtain ⟨h1, h2⟩ := am_le_get xs ys hle
  exact ⟨h.1, h.2.1, h1.trans h.2.2.1, fun i v hi hv => h.2.2.2 i v (h2 i v hi hv) hv⟩
