/-! contracts of State's methods -/
def am_S0 : am_S := (0, fun _ => 0)
theorem c_S_hourOfDay {s : Nat} (hs : s = 1 ∨ s = 3 ∨ s = 6) {M : am_M} {K : am_Q} (h : K (.inl (some (.int (M (s + 1) 52 - M (s + 1) 52 / nI 24 * nI 24)))) M) : am_C mt_S_hourOfDay [.ref s] M K := by
  refine am_C_of_R am_S0 om_S_hourOfDay rfl [.ref s] rfl rfl (g_S_hourOfDay_0 ?_)
  rcases hs with rfl | rfl | rfl
  · exact ⟨52, rfl, by decide, by decide, h⟩
  · exact ⟨52, rfl, by decide, by decide, h⟩
  · exact ⟨52, rfl, by decide, by decide, h⟩
theorem c_S_isVat {v : Int32} {M : am_M} {K : am_Q} (h : K (.inl (some (.int (if 0 ≤ v ∧ v < 5 then 1 else 0)))) M) : am_C mt_S_isVat [.int v] M K := by
  refine am_C_of_R am_S0 om_S_isVat rfl [.int v] rfl rfl (g_S_isVat_0 ?_)
  refine ⟨fun c => ?_, fun c => ⟨fun c2 => ?_, fun c2 => ?_⟩⟩
  · sorry
  · sorry
  · sorry
theorem c_Z_of {v w : Nat} {M : am_M} {K : am_Q} (hi : 17 + 8 * v + w < 105) (h : K (.inl (some (.int (M 18 (17 + 8 * v + w))))) M) : am_C mt_Z_of [.ref 17, .int (nI v), .int (nI w)] M K :=
  am_C_of_R am_S0 om_Z_of rfl [.ref 17, .int (nI v), .int (nI w)] rfl rfl (g_Z_of_0 ⟨17 + 8 * v + w, by
    show am_k 17 + am_k 8 * nI v + nI w = _
    sorry, hi, h⟩)
theorem c_Z_least {a b : Int32} {M : am_M} {K : am_Q} (h : K (.inl (some (.int (if a < b then a else b)))) M) : am_C mt_Z_least [.int a, .int b] M K := by
  refine am_C_of_R am_S0 om_Z_least rfl [.int a, .int b] rfl rfl (g_Z_least_0 ⟨fun c => ?_, fun c => ?_⟩)
  · sorry
  · sorry
