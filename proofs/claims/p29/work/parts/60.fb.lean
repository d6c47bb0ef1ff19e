/-! the class finds a round by looking back -/
theorem rd1_uni {E : Nat → Nat → Prop} (h : rdE E) {a d a' d' : Nat} (h1 : rd1 E a d) (h2 : rd1 E a' d') : a = a' ∧ d = d' := by
  obtain ⟨p1, p2, p3⟩ := h1
  obtain ⟨q1, q2, q3⟩ := h2
  have ed : d = d' := by
    by_cases c : d < d'
    · exact absurd p2 (q3 d c a p1)
    · by_cases c2 : d' < d
      · exact absurd q2 (p3 d' c2 a' q1)
      · omega
  subst ed
  refine ⟨?_, rfl⟩
  have e := h.2.2.1 a d a' p2 (h.2.1 _ _ q2)
  by_cases c : a < a'
  · exact absurd e (p3 a' q1 a c)
  · by_cases c2 : a' < a
    · exact absurd (h.2.1 _ _ e) (p3 a p1 a' c2)
    · omega
/-- a round of at most 60 days, in two numbers: its length, its lead -/
def rdR (E : Nat → Nat → Prop) (len lead : Int32) : Prop := (rd0 E 60 → len = -nI 1 ∧ lead = -nI 1) ∧ ∀ a d, d ≤ 60 → rd1 E a d → len = nI (d - a) ∧ lead = nI a
theorem rdR_none {E : Nat → Nat → Prop} (h : rd0 E 60) : rdR E (-nI 1) (-nI 1) := ⟨fun _ => ⟨rfl, rfl⟩, fun a d hd q => absurd q.2.1 (h d hd a q.1)⟩
theorem rdR_some {E : Nat → Nat → Prop} (hE : rdE E) {a d : Nat} (hd : d ≤ 60) (h : rd1 E a d) : rdR E (nI (d - a)) (nI a) :=
  ⟨fun q => absurd h.2.1 (q d hd a h.1), fun a' d' _ q => by obtain ⟨e1, e2⟩ := rd1_uni hE h q; rw [e1, e2]; exact ⟨rfl, rfl⟩⟩
theorem rdR_uni {E : Nat → Nat → Prop} {a b a' b' : Int32} (h : rdR E a b) (h' : rdR E a' b') : a = a' ∧ b = b' := by
  rcases rd_or E 60 with c | ⟨x, d, hd, c⟩
  · obtain ⟨e1, e2⟩ := h.1 c
    obtain ⟨e3, e4⟩ := h'.1 c
    exact ⟨e1.trans e3.symm, e2.trans e4.symm⟩
  · obtain ⟨e1, e2⟩ := h.2 x d hd c
    obtain ⟨e3, e4⟩ := h'.2 x d hd c
    exact ⟨e1.trans e3.symm, e2.trans e4.symm⟩
def dG (M M' : am_M) : Prop := ∀ o, o ≠ 5 → o ≠ 7 → o ≠ 8 → M' o = M o
theorem dG_trans {M M' M'' : am_M} (h : dG M M') (h' : dG M' M'') : dG M M'' := fun o a b c => (h' o a b c).trans (h o a b c)
/-- a field of the days is set that is not the number of days reached -/
theorem dI_5 {z : dz} {M : am_M} {r k : Nat} {x : Int32} (h : dI z M r) (hk : k ≠ 2) : dI z (am_set M 5 (upd (M 5) k x)) r := by
  obtain ⟨i1, i2, i3, i4⟩ := h
  refine ⟨?_, i2, i3, i4⟩
  rw [am_set_eq, upd_ne _ _ (Ne.symm hk)]
  exact i1
theorem dG_5 {M : am_M} {k : Nat} {x : Int32} : dG M (am_set M 5 (upd (M 5) k x)) := fun o h5 _ _ => am_so _ _ h5
theorem c_D_findByLookingBack {n r : Nat} {z : dz} {M : am_M} {K : am_Q} (hz : zko n z) (hI : dI z M r) (h : ∀ M' r', dI z M' r' → rdR (zE z) (M' 5 3) (M' 5 4) → dG M M' → K (.inl none) M') : am_C mt_D_findByLookingBack [.ref 5] M K := by
  have hE := zE_rd hz
  have key : ∀ n day, day + n = 61 → 1 ≤ day → rd0 (zE z) (day - 1) → ∀ M1 r1, dI z M1 r1 → M1 5 3 = -nI 1 → M1 5 4 = -nI 1 → dG M M1 → am_R am_S0 mt_D_findByLookingBack 1 12 [.ref 5, .int (nI day), .null] [] M1 K := by
    intro n
    induction n with
    | zero =>
      intro day hn hd h0 M1 r1 hI1 e3 e4 hG
      have : day = 61 := by omega
      subst this
      refine g_D_findByLookingBack_12 ⟨fun c => g_D_findByLookingBack_64 (h M1 r1 hI1 ?_ hG), fun c => absurd (show nI 60 < nI 61 by decide +kernel) c⟩
      rw [e3, e4]
      exact rdR_none h0
    | succ n ih =>
      intro day hn hd h0 M1 r1 hI1 e3 e4 hG
      refine g_D_findByLookingBack_12 ⟨fun c => absurd c (Int32.not_lt.mpr (i_le (show day ≤ 60 by omega) (by decide))), fun c => c_D_reachDay hz.1 hI1 (by omega) (fun M2 r2 hI2 hr2 hF => ?_)⟩
      have hG2 : dG M M2 := dG_trans hG hF.1
      have inner : ∀ n ah, ah + n = day → (∀ i, i < ah → ¬ zE z i day) → am_R am_S0 mt_D_findByLookingBack 1 25 [.ref 5, .int (nI day), .int (nI ah)] [] M2 K := by
        intro n
        induction n with
        | zero =>
          intro ah ha hno
          have : ah = day := by omega
          subst this
          refine g_D_findByLookingBack_25 ⟨fun c => g_D_findByLookingBack_58 ?_, fun c => absurd (i_le (Nat.le_refl _) (by omega)) c⟩
          have next := ih (ah + 1) (by omega) (by omega) (fun j hj i hi => by
            by_cases c2 : j = ah
            · rw [c2] at hi ⊢; exact hno i hi
            · exact h0 j (by omega) i hi) M2 r2 hI2 (hF.2.1.trans e3) (hF.2.2.trans e4) hG2
          exact am_R_le (by repeat' (first | exact trivial | exact Or.inr rfl | exact Or.inl rfl | exact Or.inr (congrArg Value.int (nI_succ _)) | refine ⟨?_, ?_⟩)) next
        | succ n ihn =>
          intro ah ha hno
          refine g_D_findByLookingBack_25 ⟨fun c => absurd c (i_nge (show ah < day by omega) (by omega)), fun c => c_D_same hz.1 hI2 (show ah ≤ r2 by omega) (show day ≤ r2 by omega) (fun hs => ⟨fun c2 => absurd c2 nI1_ne, fun c2 => ?_⟩) (fun hs => ⟨fun c2 => g_D_findByLookingBack_52 ?_, fun c2 => absurd rfl c2⟩)⟩
          · have h1 : rd1 (zE z) ah day := ⟨by omega, hs, fun j hj i hi => h0 j (by omega) i hi⟩
            have es : nI day - nI ah = nI (day - ah) := nI_subk (by omega)
            have hh := h (am_set (am_set M2 5 (upd (M2 5) 3 (nI day - nI ah))) 5 (upd (am_set M2 5 (upd (M2 5) 3 (nI day - nI ah)) 5) 4 (nI ah))) r2 (dI_5 (dI_5 hI2 (by decide)) (by decide)) (by
              show rdR (zE z) (upd (upd (M2 5) 3 (nI day - nI ah)) 4 (nI ah) 3) (upd (upd (M2 5) 3 (nI day - nI ah)) 4 (nI ah) 4)
              rw [upd_eq, upd_ne _ _ (by decide), upd_eq, es]
              exact rdR_some hE (by omega) h1) (dG_trans hG2 (dG_trans dG_5 dG_5))
            exact hh
          · have next := ihn (ah + 1) (by omega) (fun i hi => by
              by_cases c3 : i = ah
              · rw [c3]; exact hs
              · exact hno i (by omega))
            exact am_R_le (by repeat' (first | exact trivial | exact Or.inr rfl | exact Or.inl rfl | exact Or.inr (congrArg Value.int (nI_succ _)) | refine ⟨?_, ?_⟩)) next
      exact am_R_le (by repeat' (first | exact trivial | exact Or.inr rfl | exact Or.inl rfl | exact Or.inr (congrArg Value.int (nI_succ _)) | refine ⟨?_, ?_⟩)) (inner day 0 (by omega) (fun i hi => absurd hi (Nat.not_lt_zero i)))
  have k0 := key 60 1 rfl (Nat.le_refl _) (fun j hj i hi => by omega) (am_set (am_set M 5 (upd (M 5) 3 (-nI 1))) 5 (upd (am_set M 5 (upd (M 5) 3 (-nI 1)) 5) 4 (-nI 1))) r (dI_5 (dI_5 hI (by decide)) (by decide)) (by
    show upd (upd (M 5) 3 (-nI 1)) 4 (-nI 1) 3 = _
    rw [upd_ne _ _ (by decide), upd_eq]) (upd_eq (upd (M 5) 3 (-nI 1)) 4 (-nI 1)) (dG_trans dG_5 dG_5)
  exact am_C_of_R am_S0 om_D_findByLookingBack rfl [.ref 5, .null, .null] rfl rfl (g_D_findByLookingBack_0 (am_R_le (by repeat' (first | exact trivial | exact Or.inr rfl | exact Or.inl rfl | exact Or.inr (congrArg Value.int (nI_succ _)) | refine ⟨?_, ?_⟩)) k0))
