/-! the reference's round: all pairs of days -/
def rI (E : Nat → Nat → Prop) (P : Nat → Nat → Prop) (R L : Int32) : Prop := ((∀ i j, P i j → ¬ E i j) ∧ R = -nI 1 ∧ L = -nI 1) ∨ ∃ i0 p, R = nI p ∧ L = nI i0 ∧ p ≤ 60 ∧ i0 ≤ 60 ∧ (∃ j, P i0 j ∧ E i0 j) ∧ (∃ i j, P i j ∧ E i j ∧ j - i = p) ∧ ∀ i j, P i j → E i j → i0 ≤ i ∧ p ≤ j - i
theorem rI_imp {E P Q : Nat → Nat → Prop} {R L : Int32} (h : ∀ i j, P i j ↔ Q i j) (hI : rI E P R L) : rI E Q R L := by
  rcases hI with ⟨h1, h2, h3⟩ | ⟨i0, p, h1, h2, h3, h4, ⟨j, h5, h6⟩, ⟨i, k, h7, h8, h9⟩, h10⟩
  · exact Or.inl ⟨fun i j q => h1 i j ((h i j).mpr q), h2, h3⟩
  · exact Or.inr ⟨i0, p, h1, h2, h3, h4, ⟨j, (h _ _).mp h5, h6⟩, ⟨i, k, (h _ _).mp h7, h8, h9⟩, fun i j q => h10 i j ((h i j).mpr q)⟩
/-- a pair that is none -/
theorem rI_no {E P : Nat → Nat → Prop} {R L : Int32} {x y : Nat} (hE : ¬ E x y) (hI : rI E P R L) : rI E (fun i j => P i j ∨ (i = x ∧ j = y)) R L := by
  have nope : ∀ i j, (i = x ∧ j = y) → ¬ E i j := fun i j q => by rw [q.1, q.2]; exact hE
  rcases hI with ⟨h1, h2, h3⟩ | ⟨i0, p, h1, h2, h3, h4, ⟨j, h5, h6⟩, ⟨i, k, h7, h8, h9⟩, h10⟩
  · exact Or.inl ⟨fun i j q => q.elim (h1 i j) (nope i j), h2, h3⟩
  · exact Or.inr ⟨i0, p, h1, h2, h3, h4, ⟨j, Or.inl h5, h6⟩, ⟨i, k, Or.inl h7, h8, h9⟩, fun i j q hE' => q.elim (fun q => h10 i j q hE') (fun q => absurd hE' (nope i j q))⟩
/-- a pair more, not behind the others -/
theorem rI_yes {E P : Nat → Nat → Prop} {R L : Int32} {x y : Nat} (hE : E x y) (hxy : x < y) (hy : y ≤ 60) (hP : ∀ i j, P i j → x ≤ i) (hI : rI E P R L) : rI E (fun i j => P i j ∨ (i = x ∧ j = y)) (if R < 0 ∨ nI (y - x) < R then nI (y - x) else R) (nI x) := by
  rcases hI with ⟨h1, h2, h3⟩ | ⟨i0, p, h1, h2, h3, h4, ⟨j, h5, h6⟩, ⟨i, k, h7, h8, h9⟩, h10⟩
  · rw [if_pos (Or.inl (by rw [h2]; decide +kernel))]
    refine Or.inr ⟨x, y - x, rfl, rfl, by omega, by omega, ⟨y, Or.inr ⟨rfl, rfl⟩, hE⟩, ⟨x, y, Or.inr ⟨rfl, rfl⟩, hE, rfl⟩, fun i j q hE' => ?_⟩
    rcases q with q | q
    · exact absurd hE' (h1 i j q)
    · omega
  · have n0 : ¬ R < 0 := by rw [h1]; exact nI_pos (by omega)
    by_cases c : y - x < p
    · rw [if_pos (Or.inr (by rw [h1]; exact (nI_lti (by omega) (by omega)).mpr c))]
      refine Or.inr ⟨x, y - x, rfl, rfl, by omega, by omega, ⟨y, Or.inr ⟨rfl, rfl⟩, hE⟩, ⟨x, y, Or.inr ⟨rfl, rfl⟩, hE, rfl⟩, fun i j q hE' => ?_⟩
      rcases q with q | q
      · have := hP i j q
        have := (h10 i j q hE').2
        omega
      · omega
    · have c2 : ¬ (R < 0 ∨ nI (y - x) < R) := by
        rw [h1]
        rintro (q | q)
        · exact nI_pos (by omega) q
        · exact c ((nI_lti (by omega) (by omega)).mp q)
      rw [if_neg c2]
      refine Or.inr ⟨x, p, h1, rfl, h3, by omega, ⟨y, Or.inr ⟨rfl, rfl⟩, hE⟩, ⟨i, k, Or.inl h7, h8, h9⟩, fun i j q hE' => ?_⟩
      rcases q with q | q
      · exact ⟨hP i j q, (h10 i j q hE').2⟩
      · omega
theorem rI_fin {E : Nat → Nat → Prop} (hE : rdE E) {R L : Int32} (hI : rI E (fun i j => i < j ∧ j ≤ 60) R L) : rdR E R L := by
  rcases hI with ⟨h1, h2, h3⟩ | ⟨i0, p, h1, h2, h3, h4, ⟨j, h5, h6⟩, ⟨i, k, h7, h8, h9⟩, h10⟩
  · rw [h2, h3]
    exact rdR_none (fun j hj i hi => h1 i j ⟨hi, hj⟩)
  · rcases rd_or E 60 with c | ⟨a, d, hd, c⟩
    · exact absurd h6 (c j h5.2 i0 h5.1)
    · have q1 := h10 a d ⟨c.1, hd⟩ c.2.1
      have q2 := ((rd_iff hE c h5.1 (by omega)).mp h6).1
      have q3 := ((rd_iff hE c h7.1 (by omega)).mp h8).2
      have q4 : d - a ≤ k - i := Nat.le_of_dvd (by have := h7.1; omega) (Nat.dvd_of_mod_eq_zero q3)
      rw [h1, h2, show p = d - a by omega, show i0 = a by omega]
      exact rdR_some hE hd c
