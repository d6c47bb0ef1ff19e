/-! contracts of the reference's methods: an hour -/
theorem c_Z_in {v lo hi : Int32} {M : am_M} {K : am_Q} (h : K (.inl (some (.int (ib (lo ≤ v ∧ v ≤ hi))))) M) : am_C mt_Z_in [.int v, .int lo, .int hi] M K := by
  refine am_C_of_R am_S0 om_Z_in rfl [.int v, .int lo, .int hi] rfl rfl (g_Z_in_0 ⟨fun c => g_Z_in_14 (g_Z_in_15 ⟨Or.inl rfl, ?_⟩), fun c => ⟨fun c2 => g_Z_in_14 (g_Z_in_15 ⟨Or.inl rfl, ?_⟩), fun c2 => g_Z_in_15 ⟨Or.inr rfl, ?_⟩⟩⟩)
  · rw [ib_f (fun q => Int32.not_le.mpr c q.1)] at h; exact h
  · rw [ib_f (fun q => Int32.not_le.mpr c2 q.2)] at h; exact h
  · rw [ib_t ⟨Int32.not_lt.mp c, Int32.not_lt.mp c2⟩] at h; exact h
theorem c_Z_least {a b : Int32} {M : am_M} {K : am_Q} (h : K (.inl (some (.int (ileast a b)))) M) : am_C mt_Z_least [.int a, .int b] M K := by
  refine am_C_of_R am_S0 om_Z_least rfl [.int a, .int b] rfl rfl (g_Z_least_0 ⟨fun c => g_Z_least_9 (g_Z_least_10 ?_), fun c => g_Z_least_10 ?_⟩)
  · have c' : ¬ a < b := Int32.not_lt.mpr c
    simp only [ileast, c', if_false] at h
    exact h
  · have c' : a < b := Int32.not_le.mp c
    simp only [ileast, c', if_true] at h
    exact h
theorem c_Z_of {v w : Nat} {M : am_M} {K : am_Q} (hi : 17 + 8 * v + w < 105) (h : K (.inl (some (.int (M 18 (17 + 8 * v + w))))) M) : am_C mt_Z_of [.ref 17, .int (nI v), .int (nI w)] M K :=
  am_C_of_R am_S0 om_Z_of rfl [.ref 17, .int (nI v), .int (nI w)] rfl rfl (g_Z_of_0 ⟨17 + 8 * v + w, ix4 17 8 v w, hi, h⟩)
theorem c_Z_add {v w : Nat} {x : Int32} {M : am_M} {K : am_Q} (hi : 17 + 8 * v + w < 105) (h : K (.inl none) (am_set M 18 (zadd (M 18) (17 + 8 * v + w) x))) : am_C mt_Z_add [.ref 17, .int (nI v), .int (nI w), .int x] M K :=
  am_C_of_R am_S0 om_Z_add rfl [.ref 17, .int (nI v), .int (nI w), .int x] rfl rfl (g_Z_add_0 ⟨17 + 8 * v + w, ix4 17 8 v w, hi, 17 + 8 * v + w, ix4 17 8 v w, hi, h⟩)
theorem c_Z_setVat {v w : Nat} {x : Int32} {M : am_M} {K : am_Q} (hi : 17 + 8 * v + w < 105) (h : K (.inl none) (am_set M 18 (upd (M 18) (17 + 8 * v + w) x))) : am_C mt_Z_setVat [.ref 17, .int (nI v), .int (nI w), .int x] M K :=
  am_C_of_R am_S0 om_Z_setVat rfl [.ref 17, .int (nI v), .int (nI w), .int x] rfl rfl (g_Z_setVat_0 ⟨17 + 8 * v + w, ix4 17 8 v w, hi, h⟩)
theorem c_Z_valveNow {v w : Nat} {M : am_M} {K : am_Q} (hi : 57 + 6 * v + w < 105) (h : K (.inl (some (.int (M 18 (57 + 6 * v + w))))) M) : am_C mt_Z_valveNow [.ref 17, .int (nI v), .int (nI w)] M K :=
  am_C_of_R am_S0 om_Z_valveNow rfl [.ref 17, .int (nI v), .int (nI w)] rfl rfl (g_Z_valveNow_0 ⟨57 + 6 * v + w, ix4 57 6 v w, hi, h⟩)
theorem c_Z_hourOfDay {M : am_M} {K : am_Q} (h : K (.inl (some (.int (zhod (M 18))))) M) : am_C mt_Z_hourOfDay [.ref 17] M K :=
  am_C_of_R am_S0 om_Z_hourOfDay rfl [.ref 17] rfl rfl (g_Z_hourOfDay_0 ⟨0, rfl, by decide, by decide, h⟩)
theorem c_Z_holds {v : Nat} {M : am_M} {K : am_Q} (hv : v < 5) (h : K (.inl (some (.int (zholds v (M 18))))) M) : am_C mt_Z_holds [.ref 17, .int (nI v)] M K := by
  refine am_C_of_R am_S0 om_Z_holds rfl [.ref 17, .int (nI v)] rfl rfl (g_Z_holds_0 (c_Z_of (v := v) (w := 1) (by omega) ⟨1, rfl, by decide, by decide, ?_⟩))
  rw [show zholds v (M 18) = M 18 (17 + 8 * v + 1) * M 18 1 / nI 100 from by unfold zholds; rw [show 18 + 8 * v = 17 + 8 * v + 1 by omega]] at h
  exact h
theorem c_Z_isVat {v : Int32} {M : am_M} {K : am_Q} (h : K (.inl (some (.int (ib (nI 0 ≤ v ∧ v ≤ nI 4))))) M) : am_C mt_Z_isVat [.int v] M K :=
  am_C_of_R am_S0 om_Z_isVat rfl [.int v] rfl rfl (g_Z_isVat_0 (c_Z_in ⟨ib_01 _, h⟩))
theorem c_Z_isDye {v : Int32} {M : am_M} {K : am_Q} (h : K (.inl (some (.int (ib (nI 0 ≤ v ∧ v ≤ nI 2))))) M) : am_C mt_Z_isDye [.int v] M K :=
  am_C_of_R am_S0 om_Z_isDye rfl [.int v] rfl rfl (g_Z_isDye_0 (c_Z_in ⟨ib_01 _, h⟩))
theorem c_Z_isValve {v : Int32} {M : am_M} {K : am_Q} (h : K (.inl (some (.int (ib (nI 0 ≤ v ∧ v ≤ M 18 5 - nI 1))))) M) : am_C mt_Z_isValve [.ref 17, .int v] M K :=
  am_C_of_R am_S0 om_Z_isValve rfl [.ref 17, .int v] rfl rfl (g_Z_isValve_0 ⟨5, rfl, by decide, c_Z_in ⟨ib_01 _, h⟩⟩)
theorem c_Z_isOpen {k : Nat} {M : am_M} {K : am_Q} (hk : k < 8) (h : K (.inl (some (.int (ib (M 18 (57 + 6 * k + 3) ≤ zhod (M 18) ∧ zhod (M 18) ≤ M 18 (57 + 6 * k + 4)))))) M) : am_C mt_Z_isOpen [.ref 17, .int (nI k)] M K :=
  am_C_of_R am_S0 om_Z_isOpen rfl [.ref 17, .int (nI k)] rfl rfl (g_Z_isOpen_0 (c_Z_hourOfDay (c_Z_valveNow (v := k) (w := 3) (by omega) (c_Z_valveNow (v := k) (w := 4) (by omega) (c_Z_in ⟨ib_01 _, h⟩)))))
theorem c_Z_isPipe {one other : Nat} {M : am_M} {K : am_Q} (h1 : one < 5) (h : K (.inl (some (.int (ib (M 18 (6 + one) >>> (nI other &&& 31) &&& nI 1 = nI 1))))) M) : am_C mt_Z_isPipe [.ref 17, .int (nI one), .int (nI other)] M K := by
  refine am_C_of_R am_S0 om_Z_isPipe rfl [.ref 17, .int (nI one), .int (nI other)] rfl rfl (g_Z_isPipe_0 ⟨6 + one, ix2 6 one, by show _ < 105; omega, fun c => g_Z_isPipe_21 (g_Z_isPipe_22 ⟨Or.inl rfl, ?_⟩), fun c => g_Z_isPipe_22 ⟨Or.inr rfl, ?_⟩⟩)
  · have c' : ¬ (M 18 (6 + one) >>> (nI other &&& 31) &&& nI 1 = nI 1) := c
    rw [ib_f c'] at h; exact h
  · have c' : M 18 (6 + one) >>> (nI other &&& 31) &&& nI 1 = nI 1 := Classical.not_not.mp c
    rw [ib_t c'] at h; exact h
theorem c_Z_move {fr to : Nat} {much : Int32} {M : am_M} {K : am_Q} (hf : fr < 5) (ht : to ≤ 5) (hx : zmoved fr to much (M 18) ≠ 0 → M 18 (18 + 8 * fr) ≠ 0)
    (h : K (.inl (some (.int (zmoved fr to much (M 18))))) (am_set M 18 (zmove fr to much (M 18)))) : am_C mt_Z_move [.ref 17, .int (nI fr), .int (nI to), .int much] M K := by
  have e1 : 17 + 8 * fr + 1 = 18 + 8 * fr := by omega
  -- behind the two halves: what is moved is known
  have tail : am_R am_S0 mt_Z_move 1 44 [.ref 17, .int (nI fr), .int (nI to), .int much, .int (M 18 (18 + 8 * fr)), .null, .null, .null] [.int (zmoved fr to much (M 18))] M K := by
    unfold zmove at h
    generalize hm : zmoved fr to much (M 18) = mv at h hx ⊢
    refine g_Z_move_44 ⟨fun c => ?_, fun c => ?_⟩
    · have c' : ¬ mv = 0 := c
      have hne := hx c'
      rw [if_neg c'] at h
      generalize hh : M 18 (18 + 8 * fr) = had at h hne ⊢
      refine g_Z_move_53 ?_
      refine am_R_le (xs := [.ref 17, .int (nI fr), .int (nI to), .int much, .int had, .int mv, .int (nI 0), .null]) (by repeat' (first | exact trivial | exact Or.inr rfl | exact Or.inl rfl | exact Or.inr (congrArg Value.int (nI_succ _)) | refine ⟨?_, ?_⟩)) ?_
      have h0 : M = am_set M 18 (zdyes fr to mv had (M 18) 0) := (am_set_self M 18).symm
      rw [h0]
      refine lu (P := fun i => am_R am_S0 mt_Z_move 1 56 [.ref 17, .int (nI fr), .int (nI to), .int much, .int had, .int mv, .int (nI i), .null] [] (am_set M 18 (zdyes fr to mv had (M 18) i)) K) 3 ?_ ?_
      · refine g_Z_move_56 ⟨fun c => ?_, fun c => absurd (i_le (Nat.le_refl 3) (by decide)) c⟩
        refine g_Z_move_131 (c_Z_add (v := fr) (w := 1) (by omega) ⟨fun c => ?_, fun c => ?_⟩)
        · have c5 : ¬ to = 5 := fun q => c (by rw [q]; rfl)
          refine g_Z_move_159 (c_Z_add (v := to) (w := 1) (by omega) (g_Z_move_167 ?_))
          simp only [am_set_set, am_set_eq, e1, show 17 + 8 * to + 1 = 18 + 8 * to by omega]
          have e : zmv fr to mv had (M 18) = zadd (zadd (zdyes fr to mv had (M 18) 3) (18 + 8 * fr) (-mv)) (18 + 8 * to) mv := by unfold zmv zwst; rw [if_neg c5]
          rw [← e]
          exact h
        · have c5 : to = 5 := by
            have := (nI_eq (a := to) (b := 5) (by omega) (by decide)).mp (Classical.not_not.mp c)
            exact this
          refine ⟨2, rfl, by decide, 2, rfl, by decide, g_Z_move_167 ?_⟩
          simp only [am_set_set, am_set_eq, rv18, e1]
          have e : zmv fr to mv had (M 18) = upd (zadd (zdyes fr to mv had (M 18) 3) (18 + 8 * fr) (-mv)) 2 (zadd (zdyes fr to mv had (M 18) 3) (18 + 8 * fr) (-mv) 2 + mv) := by unfold zmv zwst; rw [if_pos c5]; rfl
          rw [e] at h
          exact h
      · intro i hi ih
        refine g_Z_move_56 ⟨fun c => absurd c (i_nge hi (by decide)), fun c => ?_⟩
        have hidx : nI 2 + nI i = nI (2 + i) := ix2 2 i
        have e2 : 17 + 8 * fr + (2 + i) = 19 + 8 * fr + i := by omega
        show am_C mt_Z_of [.ref 17, .int (nI fr), .int (nI 2 + nI i)] _ _
        rw [hidx]
        refine c_Z_of (v := fr) (w := 2 + i) (by omega) ⟨hne, ?_⟩
        show am_C mt_Z_add [.ref 17, .int (nI fr), .int (nI 2 + nI i), _] _ _
        rw [hidx]
        refine c_Z_add (v := fr) (w := 2 + i) (by omega) ⟨fun c => ?_, fun c => ?_⟩
        · have c5 : ¬ to = 5 := fun q => c (by rw [q]; rfl)
          refine g_Z_move_114 ?_
          show am_C mt_Z_add [.ref 17, .int (nI to), .int (nI 2 + nI i), _] _ _
          rw [hidx]
          refine c_Z_add (v := to) (w := 2 + i) (by omega) (g_Z_move_125 ?_)
          simp only [am_set_set, am_set_eq, e2, show 17 + 8 * to + (2 + i) = 19 + 8 * to + i by omega]
          have e : zdyes fr to mv had (M 18) (i + 1) = zadd (zadd (zdyes fr to mv had (M 18) i) (19 + 8 * fr + i) (-(zdyes fr to mv had (M 18) i (19 + 8 * fr + i) * mv / had))) (19 + 8 * to + i) (zdyes fr to mv had (M 18) i (19 + 8 * fr + i) * mv / had) := by
            show zdye fr to mv had i _ = _
            unfold zdye zdst zgr
            rw [if_neg c5]
          rw [← e]
          exact am_R_le (by repeat' (first | exact trivial | exact Or.inr rfl | exact Or.inl rfl | exact Or.inr (congrArg Value.int (nI_succ _)) | refine ⟨?_, ?_⟩)) ih
        · have c5 : to = 5 := by
            have := (nI_eq (a := to) (b := 5) (by omega) (by decide)).mp (Classical.not_not.mp c)
            exact this
          refine ⟨14 + i, ix2 14 i, by show _ < 105; omega, 14 + i, ix2 14 i, by show _ < 105; omega, g_Z_move_125 ?_⟩
          simp only [am_set_set, am_set_eq, rv18, e2]
          have e : zdyes fr to mv had (M 18) (i + 1) = upd (zadd (zdyes fr to mv had (M 18) i) (19 + 8 * fr + i) (-(zdyes fr to mv had (M 18) i (19 + 8 * fr + i) * mv / had))) (14 + i) (zadd (zdyes fr to mv had (M 18) i) (19 + 8 * fr + i) (-(zdyes fr to mv had (M 18) i (19 + 8 * fr + i) * mv / had)) (14 + i) + zdyes fr to mv had (M 18) i (19 + 8 * fr + i) * mv / had) := by
            show zdye fr to mv had i _ = _
            unfold zdye zdst zgr
            rw [if_pos c5]
            rfl
          rw [e] at ih
          exact am_R_le (by repeat' (first | exact trivial | exact Or.inr rfl | exact Or.inl rfl | exact Or.inr (congrArg Value.int (nI_succ _)) | refine ⟨?_, ?_⟩)) ih
    · have c' : mv = 0 := Classical.not_not.mp c
      rw [if_pos c', am_set_self, c'] at h
      exact h
  refine am_C_of_R am_S0 om_Z_move rfl [.ref 17, .int (nI fr), .int (nI to), .int much, .null, .null, .null, .null] rfl rfl (g_Z_move_0 (c_Z_of (v := fr) (w := 1) (by omega) (c_Z_least ⟨fun c => ?_, fun c => ?_⟩)))
  · have c5 : ¬ to = 5 := fun q => c (by rw [q]; rfl)
    refine g_Z_move_26 (c_Z_of (v := to) (w := 0) (by omega) (c_Z_of (v := to) (w := 1) (by omega) (c_Z_least ?_)))
    rw [e1]
    have e : zmoved fr to much (M 18) = ileast (ileast much (M 18 (18 + 8 * fr))) (M 18 (17 + 8 * to + 0) - M 18 (17 + 8 * to + 1)) := by
      unfold zmoved
      rw [if_neg c5, show 17 + 8 * to + 1 = 18 + 8 * to by omega]
      rfl
    rw [← e]
    exact am_R_le (by repeat' (first | exact trivial | exact Or.inr rfl | exact Or.inl rfl | exact Or.inr (congrArg Value.int (nI_succ _)) | refine ⟨?_, ?_⟩)) tail
  · have c5 : to = 5 := by
      have := (nI_eq (a := to) (b := 5) (by omega) (by decide)).mp (Classical.not_not.mp c)
      exact this
    have e : zmoved fr to much (M 18) = ileast much (M 18 (18 + 8 * fr)) := by unfold zmoved; rw [if_pos c5]
    rw [e1, ← e]
    exact am_R_le (by repeat' (first | exact trivial | exact Or.inr rfl | exact Or.inl rfl | exact Or.inr (congrArg Value.int (nI_succ _)) | refine ⟨?_, ?_⟩)) tail
