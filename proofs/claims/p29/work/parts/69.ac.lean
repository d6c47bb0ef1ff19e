/-! act, walked -/
theorem a_passE {n k : Nat} {p : Int32} {w : wS} (hp : p = nI k) (hk40 : k ≤ 40) (h : wi n w) : ao n w (lt 1 (m_pass p w).1 (m_pass p w).2.1) (m_pass p w).2.2 := by
  subst hp
  exact a_pass hk40 h
set_option maxHeartbeats 1000000 in
theorem c_L_act {n : Nat} {w : wS} {f : dz} {x y : Int32} {M : am_M} {K : am_Q} (hn : n ≤ 600) (hr : vq w f M) (hi : wi n w) (h : ∀ v w' M', ao n w v w' → vq w' f M' → K (.inl (some (.int v))) M') : am_C mt_L_act [.ref 0, .int x, .int y] M K := by
  have e116 : ∀ (d : Nat) (a b c : Int32) (l : List Value), 0 < d → d < 5000 → l = [.ref 0, .int x, .int y, .int a, .int b, .null] → am_R am_S0 mt_L_act 1 116 l [.int (nI d), .int c, .int (nI 1), .int a, .ref 0] M K := by
    intro d a b c l h0 hd hl
    subst hl
    exact g_L_act_116 (c_L_low rfl h0 (by omega) (fun t ht => c_L_fill hr.1 hi.1 (fun M' r v => h _ _ _ (a_fill hn hi) (vq_of hr r v))))
  have e92 : ∀ a b : Int32, am_R am_S0 mt_L_act 1 92 [.ref 0, .int x, .int y, .int a, .int b, .null] [] M K := fun a b =>
    g_L_act_92 ⟨fun c => g_L_act_113 (e116 1100 a b _ _ (by decide) (by decide) rfl), fun c => e116 200 a b _ _ (by decide) (by decide) rfl⟩
  have e124 : ∀ a b : Int32, am_R am_S0 mt_L_act 1 124 [.ref 0, .int x, .int y, .int a, .int b, .null] [] M K := fun a b =>
    g_L_act_124 (c_L_low (d := 3) rfl (by decide) (by decide) (fun t ht => c_L_low (d := 400) rfl (by decide) (by decide) (fun t2 ht2 => c_L_dye hr.1 hi.1 (fun M' r v => h _ _ _ (a_dye hi) (vq_of hr r v)))))
  have e150 : ∀ a b : Int32, am_R am_S0 mt_L_act 1 150 [.ref 0, .int x, .int y, .int a, .int b, .null] [] M K := fun a b =>
    g_L_act_150 (c_L_stir hr.1 hi.1 (fun M' r v => h _ _ _ (a_stir hi) (vq_of hr r v)))
  have e156 : ∀ a b : Int32, am_R am_S0 mt_L_act 1 156 [.ref 0, .int x, .int y, .int a, .int b, .null] [] M K := fun a b =>
    g_L_act_156 (c_L_low (d := 2000) rfl (by decide) (by decide) (fun t ht => c_L_capacity hr.1 hi.1 (fun M' r v => h _ _ _ (a_cap hi) (vq_of hr r v))))
  have e223 : ∀ (d t : Nat) (a b c to : Int32), 0 < d → d < 5000 → t < 24 → am_R am_S0 mt_L_act 1 223 [.ref 0, .int x, .int y, .int a, .int b, .int (nI t)] [.int (nI d), .int c, .int (nI 1), .int to, .int a, .ref 0] M K := by
    intro d t a b c to h0 hd ht
    refine g_L_act_223 (c_L_low rfl h0 (by omega) (fun t1 ht1 => c_L_low (d := 24 - t) ?_ (by omega) (by omega) (fun t2 ht2 => c_L_valve hr.1 hi.1 (fun M' r v => h _ _ _ (a_valve hi) (vq_of hr r v)))))
    show nI 24 - nI t = nI (24 - t)
    exact pk_sub (by omega)
  have e202 : ∀ (t : Nat) (a b to : Int32), t < 24 → am_R am_S0 mt_L_act 1 202 [.ref 0, .int x, .int y, .int a, .int b, .int (nI t)] [.int to, .int a, .ref 0] M K := fun t a b to ht =>
    g_L_act_202 ⟨fun c => g_L_act_220 (e223 500 t a b _ to (by decide) (by decide) ht), fun c => e223 20 t a b _ to (by decide) (by decide) ht⟩
  have e174 : ∀ a b : Int32, am_R am_S0 mt_L_act 1 174 [.ref 0, .int x, .int y, .int a, .int b, .null] [] M K := fun a b =>
    g_L_act_174 (c_L_low (d := 24) rfl (by decide) (by decide) (fun t ht => ⟨fun c => g_L_act_200 (e202 t a b b ht), fun c => e202 t a b (nI 5) ht⟩))
  have e248 : ∀ a b : Int32, am_R am_S0 mt_L_act 1 248 [.ref 0, .int x, .int y, .int a, .int b, .null] [] M K := fun a b =>
    g_L_act_248 (c_L_low (d := 9) rfl (by decide) (by decide) (fun t ht => c_L_close hr.1 hi.1 (fun M' r v => h _ _ _ (a_close hi) (vq_of hr r v))))
  have e259 : ∀ a b : Int32, am_R am_S0 mt_L_act 1 259 [.ref 0, .int x, .int y, .int a, .int b, .null] [] M K := fun a b =>
    g_L_act_259 (c_L_pipe hr.1 hi.1 (fun M' r v => h _ _ _ (a_pipe hi) (vq_of hr r v)))
  have e267 : ∀ a b : Int32, am_R am_S0 mt_L_act 1 267 [.ref 0, .int x, .int y, .int a, .int b, .null] [] M K := fun a b =>
    g_L_act_267 (c_L_low (d := 202) rfl (by decide) (by decide) (fun t ht => c_L_set hr.1 hi.1 (fun M' r v => h _ _ _ (a_set hi) (vq_of hr r v))))
  have e279 : ∀ a b : Int32, am_R am_S0 mt_L_act 1 279 [.ref 0, .int x, .int y, .int a, .int b, .null] [] M K := fun a b =>
    g_L_act_279 (c_L_low (d := 40) rfl (by decide) (by decide) (fun t ht => c_L_pass hr.1 hi.1 (fun M' r v => h _ _ _ (a_passE (k := 1 + t) (ix2 1 t) (by omega) hi) (vq_of hr r v))))
  refine am_C_of_R am_S0 om_L_act rfl [.ref 0, .int x, .int y, .null, .null, .null] rfl rfl (g_L_act_0 (c_L_low (d := 6) rfl (by decide) (by decide) (fun t1 ht1 => c_L_low (d := 6) rfl (by decide) (by decide) (fun t2 ht2 => c_L_low (d := 16) rfl (by decide) (by decide) (fun t3 ht3 => ⟨fun _ => e279 _ _, fun _ => e92 _ _, fun _ => e92 _ _, fun _ => e92 _ _, fun _ => e124 _ _, fun _ => e124 _ _, fun _ => e150 _ _, fun _ => e156 _ _, fun _ => e174 _ _, fun _ => e174 _ _, fun _ => e174 _ _, fun _ => e248 _ _, fun _ => e259 _ _, fun _ => e259 _ _, fun _ => e267 _ _, trivial⟩)))))
