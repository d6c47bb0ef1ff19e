/-! rounds of a row of days: what the three ways of finding them give -/
-- E tells which days look the same
def rdE (E : Nat → Nat → Prop) : Prop := (∀ i, E i i) ∧ (∀ i j, E i j → E j i) ∧ (∀ i j k, E i j → E j k → E i k) ∧ ∀ i j, i < 120 → j < 120 → E i j → E (i + 1) (j + 1)
/-- d is the first day that looks like one ahead of it, a -/
def rd1 (E : Nat → Nat → Prop) (a d : Nat) : Prop := a < d ∧ E a d ∧ ∀ j, j < d → ∀ i, i < j → ¬ E i j
theorem rd_shift {E : Nat → Nat → Prop} (h : rdE E) {i j : Nat} (hE : E i j) : ∀ k, i + k ≤ 120 → j + k ≤ 120 → E (i + k) (j + k)
  | 0, _, _ => hE
  | k + 1, h1, h2 => h.2.2.2 (i + k) (j + k) (by omega) (by omega) (rd_shift h hE k (by omega) (by omega))
/-- behind the lead, days look the same that are a whole number of rounds apart -/
theorem rd_mul {E : Nat → Nat → Prop} (h : rdE E) {a d : Nat} (h1 : rd1 E a d) : ∀ n i, a ≤ i → i + n * (d - a) ≤ 120 → E i (i + n * (d - a))
  | 0, i, _, _ => by rw [Nat.zero_mul]; exact h.1 i
  | n + 1, i, hi, hb => by
    obtain ⟨q1, q2, q3⟩ := h1
    have e : (n + 1) * (d - a) = n * (d - a) + (d - a) := Nat.succ_mul n (d - a)
    have k1 := rd_mul h ⟨q1, q2, q3⟩ n i hi (by omega)
    have k2 := rd_shift h q2 (i + n * (d - a) - a) (by omega) (by omega)
    rw [show a + (i + n * (d - a) - a) = i + n * (d - a) by omega, show d + (i + n * (d - a) - a) = i + (n * (d - a) + (d - a)) by omega] at k2
    rw [e]
    exact h.2.2.1 _ _ _ k1 k2
/-- the first day of a round that a day looks like -/
theorem rd_red {E : Nat → Nat → Prop} (h : rdE E) {a d i : Nat} (h1 : rd1 E a d) (hi : a ≤ i) (hb : i ≤ 120) : E (a + (i - a) % (d - a)) i := by
  have q1 := h1.1
  have e := Nat.div_add_mod (i - a) (d - a)
  have e2 : (i - a) / (d - a) * (d - a) = (d - a) * ((i - a) / (d - a)) := Nat.mul_comm _ _
  have k := rd_mul h h1 ((i - a) / (d - a)) (a + (i - a) % (d - a)) (by omega) (by omega)
  rw [show a + (i - a) % (d - a) + (i - a) / (d - a) * (d - a) = i by omega] at k
  exact k
/-- what looks the same: the same day, or behind the lead and a whole number of rounds apart -/
theorem rd_iff {E : Nat → Nat → Prop} (h : rdE E) {a d i j : Nat} (h1 : rd1 E a d) (hij : i < j) (hj : j ≤ 120) : E i j ↔ a ≤ i ∧ (j - i) % (d - a) = 0 := by
  obtain ⟨q1, q2, q3⟩ := h1
  have uni : ∀ x y, x < d → y < d → E x y → x = y := by
    intro x y hx hy hxy
    by_cases c : x < y
    · exact absurd hxy (q3 y hy x c)
    · by_cases c2 : y < x
      · exact absurd (h.2.1 _ _ hxy) (q3 x hx y c2)
      · omega
  have hp : 0 < d - a := by omega
  constructor
  · intro hE
    have hjd : ¬ j < d := fun c => q3 j c i hij hE
    have rj := rd_red h ⟨q1, q2, q3⟩ (show a ≤ j by omega) hj
    have mj := Nat.mod_lt (j - a) hp
    by_cases c : i < a
    · have := uni i (a + (j - a) % (d - a)) (by omega) (by omega) (h.2.2.1 _ _ _ hE (h.2.1 _ _ rj))
      omega
    · have ri := rd_red h ⟨q1, q2, q3⟩ (show a ≤ i by omega) (by omega)
      have mi := Nat.mod_lt (i - a) hp
      have e := uni _ _ (show a + (i - a) % (d - a) < d by omega) (show a + (j - a) % (d - a) < d by omega) (h.2.2.1 _ _ _ ri (h.2.2.1 _ _ _ hE (h.2.1 _ _ rj)))
      refine ⟨by omega, ?_⟩
      have em : (i - a) % (d - a) = (j - a) % (d - a) := by omega
      have e3 : j - i = (j - a) - (i - a) := by omega
      rw [e3]
      exact Nat.sub_mod_eq_zero_of_mod_eq em.symm
  · intro ⟨c1, c2⟩
    have e := Nat.div_add_mod (j - i) (d - a)
    have e2 : (j - i) / (d - a) * (d - a) = (d - a) * ((j - i) / (d - a)) := Nat.mul_comm _ _
    have k := rd_mul h ⟨q1, q2, q3⟩ ((j - i) / (d - a)) i c1 (by omega)
    rw [show i + (j - i) / (d - a) * (d - a) = j by omega] at k
    exact k
/-- no two days of the first N + 1 look the same -/
def rd0 (E : Nat → Nat → Prop) (N : Nat) : Prop := ∀ j, j ≤ N → ∀ i, i < j → ¬ E i j
theorem rd_or (E : Nat → Nat → Prop) : ∀ N, rd0 E N ∨ ∃ a d, d ≤ N ∧ rd1 E a d := by
  intro N
  induction N with
  | zero => exact Or.inl fun j hj i hi => by omega
  | succ N ih =>
    rcases ih with ih | ⟨a, d, h1, h2⟩
    · by_cases c : ∃ i, i < N + 1 ∧ E i (N + 1)
      · obtain ⟨i, hi, hE⟩ := c
        exact Or.inr ⟨i, N + 1, Nat.le_refl _, hi, hE, fun j hj i' hi' => ih j (by omega) i' hi'⟩
      · refine Or.inl fun j hj i hi hE => ?_
        by_cases c2 : j = N + 1
        · subst c2; exact c ⟨i, hi, hE⟩
        · exact ih j (by omega) i hi hE
    · exact Or.inr ⟨a, d, by omega, h2⟩
