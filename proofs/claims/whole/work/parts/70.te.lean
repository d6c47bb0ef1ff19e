/-! the reference reads its text -/
def tH (M : am_M) (tx : Nat → Nat) (ln : Nat) : Prop := M 17 8 = nI ln ∧ ln ≤ 60 ∧ ∀ k, k < ln → M 23 k = nI (tx k) ∧ tx k ≤ 126
def rP (M : am_M) (i x e : Nat) : Prop := M 17 14 = nI i ∧ M 17 15 = nI x ∧ M 17 13 = nI e
def rF (M M' : am_M) : Prop := (∀ o, o ≠ 17 → o ≠ 25 → M' o = M o) ∧ ∀ k, k ≠ 13 → k ≠ 14 → k ≠ 15 → k ≠ 16 → M' 17 k = M 17 k
theorem rF_refl (M : am_M) : rF M M := ⟨fun _ _ _ => rfl, fun _ _ _ _ _ => rfl⟩
theorem rF_trans {M M' M'' : am_M} (h : rF M M') (h' : rF M' M'') : rF M M'' := ⟨fun o a b => (h'.1 o a b).trans (h.1 o a b), fun k a b c d => (h'.2 k a b c d).trans (h.2 k a b c d)⟩
theorem rF_17 {M M' : am_M} {k : Nat} {x : Int32} (h : rF M M') (hk : 13 ≤ k ∧ k ≤ 16) : rF M (am_set M' 17 (upd (M' 17) k x)) := by
  refine ⟨fun o a b => by rw [am_so _ _ a]; exact h.1 o a b, fun j a b c d => ?_⟩
  rw [am_set_eq, upd_ne _ _ (by omega)]
  exact h.2 j a b c d
theorem rF_25 {M M' : am_M} {f : Nat → Int32} (h : rF M M') : rF M (am_set M' 25 f) := by
  refine ⟨fun o a b => by rw [am_so _ _ b]; exact h.1 o a b, fun j a b c d => ?_⟩
  rw [am_so _ _ (by decide)]
  exact h.2 j a b c d
theorem tH_rF {M M' : am_M} {tx : Nat → Nat} {ln : Nat} (h : tH M tx ln) (f : rF M M') : tH M' tx ln := by
  refine ⟨(f.2 8 (by decide) (by decide) (by decide) (by decide)).trans h.1, h.2.1, fun k hk => ?_⟩
  rw [f.1 23 (by decide) (by decide)]
  exact h.2.2 k hk
def tsg (tx : Nat → Nat) (ln i : Nat) : Nat := if i < ln then tx i else 0
theorem tsg_le {M : am_M} {tx : Nat → Nat} {ln i : Nat} (h : tH M tx ln) : tsg tx ln i ≤ 126 := by
  unfold tsg
  split
  · rename_i c
    exact (h.2.2 i c).2
  · omega
theorem tsg_lt {tx : Nat → Nat} {ln i : Nat} (h : tsg tx ln i ≠ 0) : i < ln ∧ tx i = tsg tx ln i := by
  unfold tsg at h ⊢
  by_cases c : i < ln
  · rw [if_pos c]
    exact ⟨c, rfl⟩
  · rw [if_neg c] at h
    exact absurd rfl h
theorem c_Z_sign {tx : Nat → Nat} {ln i : Nat} {M : am_M} {K : am_Q} (hH : tH M tx ln) (hp : M 17 14 = nI i) (hi : i ≤ 60) (h : K (.inl (some (.int (nI (tsg tx ln i))))) M) : am_C mt_Z_sign [.ref 17] M K := by
  refine am_C_of_R am_S0 om_Z_sign rfl [.ref 17] rfl rfl (g_Z_sign_0 ⟨fun c => g_Z_sign_23 (g_Z_sign_24 ?_), fun c => ⟨i, hp, ?_, g_Z_sign_24 ?_⟩⟩)
  · have c' : M 17 8 ≤ M 17 14 := c
    rw [hH.1, hp] at c'
    have : ¬ i < ln := fun q => i_nge q (by have := hH.2.1; omega) c'
    unfold tsg at h
    rw [if_neg this] at h
    exact h
  · have := hH.2.1
    have c' : ¬ M 17 8 ≤ M 17 14 := c
    rw [hH.1, hp] at c'
    have : i < ln := Nat.lt_of_not_le (fun q => c' (i_le q (by omega)))
    show i < 60
    omega
  · have := hH.2.1
    have c' : ¬ M 17 8 ≤ M 17 14 := c
    rw [hH.1, hp] at c'
    have hlt : i < ln := Nat.lt_of_not_le (fun q => c' (i_le q (by omega)))
    unfold tsg at h
    rw [if_pos hlt, ← (hH.2.2 i hlt).1] at h
    exact h
theorem c_Z_take_ok {i e : Nat} {M : am_M} {K : am_Q} (hp : rP M i 0 e) (h : ∀ M', rP M' (i + 1) 0 e → rF M M' → M' 17 16 = M 17 16 → M' 25 = M 25 → K (.inl none) M') : am_C mt_Z_take [.ref 17, .int (nI 1)] M K := by
  obtain ⟨p1, p2, p3⟩ := hp
  refine am_C_of_R am_S0 om_Z_take rfl [.ref 17, .int (nI 1)] rfl rfl (g_Z_take_0 ⟨fun c => absurd p2 c, fun _ => ⟨fun c => g_Z_take_16 (g_Z_take_17 ⟨Or.inl rfl, fun c2 => g_Z_take_36 (g_Z_take_37 (h _ ⟨?_, ?_, ?_⟩ ?_ ?_ rfl)), fun c2 => ?_⟩), fun c => absurd nI1_ne c⟩⟩)
  · show upd (upd (M 17) 15 (nI 0)) 14 (upd (M 17) 15 (nI 0) 14 + nI 1) 14 = _
    rw [upd_eq, upd_ne _ _ (by decide), p1, nI_add]
  · show upd (upd (M 17) 15 (nI 0)) 14 (upd (M 17) 15 (nI 0) 14 + nI 1) 15 = _
    rw [upd_ne _ _ (by decide), upd_eq]
  · show upd (upd (M 17) 15 (nI 0)) 14 (upd (M 17) 15 (nI 0) 14 + nI 1) 13 = _
    rw [upd_ne _ _ (by decide), upd_ne _ _ (by decide)]
    exact p3
  · exact rF_17 (rF_17 (rF_refl M) (by decide)) (by decide)
  · show upd (upd (M 17) 15 (nI 0)) 14 (upd (M 17) 15 (nI 0) 14 + nI 1) 16 = _
    rw [upd_ne _ _ (by decide), upd_ne _ _ (by decide)]
  · have c2' : ¬ upd (M 17) 15 (nI 0) 15 = 0 := c2
    rw [upd_eq] at c2'
    exact absurd nI_0 c2'
theorem c_Z_take_no {i x e : Nat} {b : Int32} {M : am_M} {K : am_Q} (hp : rP M i x e) (hx : x = 1 ∨ (x = 0 ∧ b = nI 0)) (h : ∀ M', rP M' i 1 e → rF M M' → M' 25 = M 25 → K (.inl none) M') : am_C mt_Z_take [.ref 17, .int b] M K := by
  obtain ⟨p1, p2, p3⟩ := hp
  have key : am_R am_S0 mt_Z_take 1 12 [.ref 17, .int b] [.ref 17] M K := by
    refine g_Z_take_12 (g_Z_take_17 ⟨Or.inr rfl, fun c2 => ?_, fun c2 => g_Z_take_37 (h _ ⟨?_, ?_, ?_⟩ ?_ rfl)⟩)
    · have c2' : upd (M 17) 15 (nI 1) 15 = 0 := c2
      rw [upd_eq] at c2'
      exact absurd c2' nI1_ne
    · show upd (upd (M 17) 15 (nI 1)) 14 (upd (M 17) 15 (nI 1) 14 + nI 0) 14 = _
      rw [upd_eq, upd_ne _ _ (by decide), p1, nI_add, Nat.add_zero]
    · show upd (upd (M 17) 15 (nI 1)) 14 (upd (M 17) 15 (nI 1) 14 + nI 0) 15 = _
      rw [upd_ne _ _ (by decide), upd_eq]
    · show upd (upd (M 17) 15 (nI 1)) 14 (upd (M 17) 15 (nI 1) 14 + nI 0) 13 = _
      rw [upd_ne _ _ (by decide), upd_ne _ _ (by decide)]
      exact p3
    · exact rF_17 (rF_17 (rF_refl M) (by decide)) (by decide)
  refine am_C_of_R am_S0 om_Z_take rfl [.ref 17, .int b] rfl rfl (g_Z_take_0 ⟨fun c => key, fun c => ⟨fun c2 => ?_, fun c2 => key⟩⟩)
  have c' : M 17 15 = 0 := Classical.not_not.mp c
  have c2' : ¬ b = 0 := c2
  rcases hx with rfl | ⟨rfl, rfl⟩
  · rw [p2] at c'
    exact absurd c' nI1_ne
  · exact absurd nI_0 c2'
theorem c_Z_takeSign {tx : Nat → Nat} {ln i x e code : Nat} {M : am_M} {K : am_Q} (hH : tH M tx ln) (hp : rP M i x e) (hi : i ≤ 60) (hx : x = 0 ∨ x = 1) (hcd : code ≤ 126) (hok : x = 0 → tsg tx ln i = code → ∀ M', rP M' (i + 1) 0 e → rF M M' → M' 25 = M 25 → K (.inl none) M') (hno : (x = 1 ∨ tsg tx ln i ≠ code) → ∀ M', rP M' i 1 e → rF M M' → M' 25 = M 25 → K (.inl none) M') : am_C mt_Z_takeSign [.ref 17, .int (nI code)] M K := by
  have hs := tsg_le (i := i) hH
  refine am_C_of_R am_S0 om_Z_takeSign rfl [.ref 17, .int (nI code)] rfl rfl (g_Z_takeSign_0 (c_Z_sign hH hp.1 hi ⟨fun c => g_Z_takeSign_13 (g_Z_takeSign_14 ?_), fun c => g_Z_takeSign_14 ?_⟩))
  · have c' : ¬ nI (tsg tx ln i) = nI code := c
    have hne : tsg tx ln i ≠ code := fun q => c' (by rw [q])
    exact c_Z_take_no hp (by rcases hx with q | q; exact Or.inr ⟨q, rfl⟩; exact Or.inl q) (fun M' a b d => hno (Or.inr hne) M' a b d)
  · have c' : nI (tsg tx ln i) = nI code := Classical.not_not.mp c
    have he : tsg tx ln i = code := (nI_eq (by omega) (by omega)).mp c'
    rcases hx with q | q
    · subst q
      exact c_Z_take_ok hp (fun M' a b _ d => hok rfl he M' a b d)
    · exact c_Z_take_no hp (Or.inl q) (fun M' a b d => hno (Or.inl q) M' a b d)
theorem tin {c a m : Nat} (hc : c ≤ 126) (ha : a ≤ 1000) (hm : m ≤ 1000) : (nI a ≤ nI c - nI 48 ∧ nI c - nI 48 ≤ nI m) ↔ (48 + a ≤ c ∧ c ≤ 48 + m) := by
  have e : (nI c - nI 48).toInt = (c : Int) - 48 := by
    rw [ti_sub, nI_toInt (by omega), nI_toInt (by decide)]
    · rfl
    · rw [nI_toInt (by omega), nI_toInt (by decide)]; omega
    · rw [nI_toInt (by omega), nI_toInt (by decide)]; omega
  rw [Int32.le_iff_toInt_le, Int32.le_iff_toInt_le, e, nI_toInt (by omega), nI_toInt (by omega)]
  omega
theorem rP_num {M : am_M} {i x e : Nat} {v : Int32} (h : rP M i x e) : rP (am_set M 17 (upd (M 17) 16 v)) i x e := by
  obtain ⟨p1, p2, p3⟩ := h
  refine ⟨?_, ?_, ?_⟩
  · rw [am_set_eq, upd_ne _ _ (by decide)]; exact p1
  · rw [am_set_eq, upd_ne _ _ (by decide)]; exact p2
  · rw [am_set_eq, upd_ne _ _ (by decide)]; exact p3
theorem c_Z_takeVat {tx : Nat → Nat} {ln i e most : Nat} {other : Int32} {M : am_M} {K : am_Q} (hH : tH M tx ln) (hp : rP M i 0 e) (hi : i ≤ 60) (hmo : most ≤ 5) (hok : ∀ d, tsg tx ln i = 48 + d → d ≤ most → nI d ≠ other → ∀ M', rP M' (i + 1) 0 e → M' 17 16 = nI d → rF M M' → M' 25 = M 25 → K (.inl none) M') (hno : (∀ d, tsg tx ln i = 48 + d → d ≤ most → nI d = other) → ∀ M', rP M' i 1 e → rF M M' → M' 25 = M 25 → K (.inl none) M') : am_C mt_Z_takeVat [.ref 17, .int (nI most), .int other] M K := by
  have hs := tsg_le (i := i) hH
  have f1 : rF M (am_set M 17 (upd (M 17) 16 (nI (tsg tx ln i) - nI 48))) := rF_17 (rF_refl M) (by decide)
  have p1 : rP (am_set M 17 (upd (M 17) 16 (nI (tsg tx ln i) - nI 48))) i 0 e := rP_num hp
  have n1 : am_set M 17 (upd (M 17) 16 (nI (tsg tx ln i) - nI 48)) 17 16 = nI (tsg tx ln i) - nI 48 := upd_eq (M 17) 16 _
  refine am_C_of_R am_S0 om_Z_takeVat rfl [.ref 17, .int (nI most), .int other] rfl rfl (g_Z_takeVat_0 (c_Z_sign hH hp.1 hi (c_Z_in ⟨fun c => g_Z_takeVat_36 (g_Z_takeVat_37 ?_), fun c => ⟨fun c2 => g_Z_takeVat_36 (g_Z_takeVat_37 ?_), fun c2 => g_Z_takeVat_37 ?_⟩⟩)))
  · have c' : ¬ (nI 0 ≤ upd (M 17) 16 (nI (tsg tx ln i) - nI 48) 16 ∧ upd (M 17) 16 (nI (tsg tx ln i) - nI 48) 16 ≤ nI most) := ib_n c
    rw [upd_eq, tin hs (by decide) (by omega)] at c'
    exact c_Z_take_no p1 (Or.inr ⟨rfl, rfl⟩) (fun M' a b d => hno (fun d q1 q2 => absurd ⟨by omega, by omega⟩ c') M' a (rF_trans f1 b) d)
  · have c' : upd (M 17) 16 (nI (tsg tx ln i) - nI 48) 16 = other := c2
    rw [upd_eq] at c'
    refine c_Z_take_no p1 (Or.inr ⟨rfl, rfl⟩) (fun M' a b d => hno (fun d q1 q2 => ?_) M' a (rF_trans f1 b) d)
    rw [← c', q1, nI_subk (by omega)]
    congr 1
    omega
  · have c' : nI 0 ≤ upd (M 17) 16 (nI (tsg tx ln i) - nI 48) 16 ∧ upd (M 17) 16 (nI (tsg tx ln i) - nI 48) 16 ≤ nI most := ib_y c
    have c2' : ¬ upd (M 17) 16 (nI (tsg tx ln i) - nI 48) 16 = other := c2
    rw [upd_eq] at c2'
    rw [upd_eq, tin hs (by decide) (by omega)] at c'
    have ed : nI (tsg tx ln i) - nI 48 = nI (tsg tx ln i - 48) := nI_subk (by omega)
    rw [ed] at c2'
    refine c_Z_take_ok p1 (fun M' a b n d => hok (tsg tx ln i - 48) (by omega) (by omega) c2' M' a ?_ (rF_trans f1 b) d)
    exact n.trans (n1.trans ed)
