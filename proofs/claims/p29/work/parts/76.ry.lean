/-! isRound's calls of days, look and isLook: written by wip/p29/mkY.py; and what looks tell -/
theorem y_100 {b n k : Nat} {w : wS} {f : dz} {ls : List Value} {M : am_M} {Q : am_Q} (hr : vq w f M) (hi : wi n w) (hk : k ≤ 60) (h0 : (w_z w 0).toInt + 24 * k ≤ 99999) (h : ∀ M' w', vq w' f M' → wi n w' → w_z w' = zdy (w_z w) k → hsl w w' → am_R am_S35 mt_L_isRound b 103 ls [.int (nI 1)] M' Q) : am_R am_S35 mt_L_isRound (b + 64) 100 ls [.int (nI k), .ref 0] M Q :=
  x_L_isRound_100 (p0 := [.int (nI k), .ref 0]) (r := []) (av := [.ref 0, .int (nI k)]) (Nat.le_add_left 64 b) (fun h => by cases h) rfl rfl rfl (by decide) (c_L_days hr hi hk h0 (fun M' w' q i' ez hl => ⟨_, rfl, (by
    show am_R am_S35 mt_L_isRound (b + 64 - 64) 103 ls [.int (nI 1)] M' Q
    rw [Nat.add_sub_cancel]
    exact h M' w' q i' ez hl)⟩))
theorem y_111 {b : Nat} {w : wS} {f : dz} {ls : List Value} {M : am_M} {Q : am_Q} (hb : 1 ≤ b) (hr : vq w f M) (h : ∀ M' f', vq w f' M' → (∀ k, k < 35 → f' k = lk (w_z w) k) → am_R am_S35 mt_L_isRound b 114 ls [] M' Q) : am_R am_S35 mt_L_isRound b 111 ls [.ref 17, .ref 0] M Q :=
  x_L_isRound_111 (p0 := [.ref 17, .ref 0]) (r := []) (av := [.ref 0, .ref 17]) hb (fun _ => rfl) rfl rfl rfl (by decide) (c_L_look hr (fun M' f' q hf => ⟨_, rfl, h M' f' q hf⟩))
theorem y_137 {b : Nat} {w : wS} {f : dz} {ls : List Value} {M : am_M} {Q : am_Q} (hb : 1 ≤ b) (hr : vq w f M) (hy : (∀ k, k < 35 → f k = lk (w_z w) k) → ∀ M', vq w f M' → am_R am_S35 mt_L_isRound b 140 ls [.int (nI 1)] M' Q) (hn : ¬ (∀ k, k < 35 → f k = lk (w_z w) k) → ∀ M', vq w f M' → am_R am_S35 mt_L_isRound b 140 ls [.int (nI 0)] M' Q) : am_R am_S35 mt_L_isRound b 137 ls [.ref 17, .ref 0] M Q :=
  x_L_isRound_137 (p0 := [.ref 17, .ref 0]) (r := []) (av := [.ref 0, .ref 17]) hb (fun _ => rfl) rfl rfl rfl (by decide) (c_L_isLook hr (fun c M' q => ⟨_, rfl, hy c M' q⟩) (fun c M' q => ⟨_, rfl, hn c M' q⟩))
theorem y_145 {b n k : Nat} {w : wS} {f : dz} {ls : List Value} {M : am_M} {Q : am_Q} (hr : vq w f M) (hi : wi n w) (hk : k ≤ 60) (h0 : (w_z w 0).toInt + 24 * k ≤ 99999) (h : ∀ M' w', vq w' f M' → wi n w' → w_z w' = zdy (w_z w) k → hsl w w' → am_R am_S35 mt_L_isRound b 148 ls [.int (nI 1)] M' Q) : am_R am_S35 mt_L_isRound (b + 64) 145 ls [.int (nI k), .ref 0] M Q :=
  x_L_isRound_145 (p0 := [.int (nI k), .ref 0]) (r := []) (av := [.ref 0, .int (nI k)]) (Nat.le_add_left 64 b) (fun h => by cases h) rfl rfl rfl (by decide) (c_L_days hr hi hk h0 (fun M' w' q i' ez hl => ⟨_, rfl, (by
    show am_R am_S35 mt_L_isRound (b + 64 - 64) 148 ls [.int (nI 1)] M' Q
    rw [Nat.add_sub_cancel]
    exact h M' w' q i' ez hl)⟩))
theorem y_162 {b : Nat} {w : wS} {f : dz} {ls : List Value} {M : am_M} {Q : am_Q} (hb : 1 ≤ b) (hr : vq w f M) (hy : (∀ k, k < 35 → f k = lk (w_z w) k) → ∀ M', vq w f M' → am_R am_S35 mt_L_isRound b 165 ls [.int (nI 1)] M' Q) (hn : ¬ (∀ k, k < 35 → f k = lk (w_z w) k) → ∀ M', vq w f M' → am_R am_S35 mt_L_isRound b 165 ls [.int (nI 0)] M' Q) : am_R am_S35 mt_L_isRound b 162 ls [.ref 17, .ref 0] M Q :=
  x_L_isRound_162 (p0 := [.ref 17, .ref 0]) (r := []) (av := [.ref 0, .ref 17]) hb (fun _ => rfl) rfl rfl rfl (by decide) (c_L_isLook hr (fun c M' q => ⟨_, rfl, hy c M' q⟩) (fun c M' q => ⟨_, rfl, hn c M' q⟩))
theorem y_194 {b n k : Nat} {w : wS} {f : dz} {ls : List Value} {M : am_M} {Q : am_Q} (hr : vq w f M) (hi : wi n w) (hk : k ≤ 60) (h0 : (w_z w 0).toInt + 24 * k ≤ 99999) (h : ∀ M' w', vq w' f M' → wi n w' → w_z w' = zdy (w_z w) k → hsl w w' → am_R am_S35 mt_L_isRound b 197 ls [.int (nI 1)] M' Q) : am_R am_S35 mt_L_isRound (b + 64) 194 ls [.int (nI k), .ref 0] M Q :=
  x_L_isRound_194 (p0 := [.int (nI k), .ref 0]) (r := []) (av := [.ref 0, .int (nI k)]) (Nat.le_add_left 64 b) (fun h => by cases h) rfl rfl rfl (by decide) (c_L_days hr hi hk h0 (fun M' w' q i' ez hl => ⟨_, rfl, (by
    show am_R am_S35 mt_L_isRound (b + 64 - 64) 197 ls [.int (nI 1)] M' Q
    rw [Nat.add_sub_cancel]
    exact h M' w' q i' ez hl)⟩))
theorem y_205 {b : Nat} {w : wS} {f : dz} {ls : List Value} {M : am_M} {Q : am_Q} (hb : 1 ≤ b) (hr : vq w f M) (h : ∀ M' f', vq w f' M' → (∀ k, k < 35 → f' k = lk (w_z w) k) → am_R am_S35 mt_L_isRound b 208 ls [] M' Q) : am_R am_S35 mt_L_isRound b 205 ls [.ref 17, .ref 0] M Q :=
  x_L_isRound_205 (p0 := [.ref 17, .ref 0]) (r := []) (av := [.ref 0, .ref 17]) hb (fun _ => rfl) rfl rfl rfl (by decide) (c_L_look hr (fun M' f' q hf => ⟨_, rfl, h M' f' q hf⟩))
theorem y_219 {b n k : Nat} {w : wS} {f : dz} {ls : List Value} {M : am_M} {Q : am_Q} (hr : vq w f M) (hi : wi n w) (hk : k ≤ 60) (h0 : (w_z w 0).toInt + 24 * k ≤ 99999) (h : ∀ M' w', vq w' f M' → wi n w' → w_z w' = zdy (w_z w) k → hsl w w' → am_R am_S35 mt_L_isRound b 222 ls [.int (nI 1)] M' Q) : am_R am_S35 mt_L_isRound (b + 64) 219 ls [.int (nI k), .ref 0] M Q :=
  x_L_isRound_219 (p0 := [.int (nI k), .ref 0]) (r := []) (av := [.ref 0, .int (nI k)]) (Nat.le_add_left 64 b) (fun h => by cases h) rfl rfl rfl (by decide) (c_L_days hr hi hk h0 (fun M' w' q i' ez hl => ⟨_, rfl, (by
    show am_R am_S35 mt_L_isRound (b + 64 - 64) 222 ls [.int (nI 1)] M' Q
    rw [Nat.add_sub_cancel]
    exact h M' w' q i' ez hl)⟩))
theorem y_228 {b : Nat} {w : wS} {f : dz} {ls : List Value} {M : am_M} {Q : am_Q} (hb : 1 ≤ b) (hr : vq w f M) (hy : (∀ k, k < 35 → f k = lk (w_z w) k) → ∀ M', vq w f M' → am_R am_S35 mt_L_isRound b 231 ls [.int (nI 1)] M' Q) (hn : ¬ (∀ k, k < 35 → f k = lk (w_z w) k) → ∀ M', vq w f M' → am_R am_S35 mt_L_isRound b 231 ls [.int (nI 0)] M' Q) : am_R am_S35 mt_L_isRound b 228 ls [.ref 17, .ref 0] M Q :=
  x_L_isRound_228 (p0 := [.ref 17, .ref 0]) (r := []) (av := [.ref 0, .ref 17]) hb (fun _ => rfl) rfl rfl rfl (by decide) (c_L_isLook hr (fun c M' q => ⟨_, rfl, hy c M' q⟩) (fun c M' q => ⟨_, rfl, hn c M' q⟩))
theorem y_273 {b n k : Nat} {w : wS} {f : dz} {ls : List Value} {M : am_M} {Q : am_Q} (hr : vq w f M) (hi : wi n w) (hk : k ≤ 60) (h0 : (w_z w 0).toInt + 24 * k ≤ 99999) (h : ∀ M' w', vq w' f M' → wi n w' → w_z w' = zdy (w_z w) k → hsl w w' → am_R am_S35 mt_L_isRound b 276 ls [.int (nI 1)] M' Q) : am_R am_S35 mt_L_isRound (b + 64) 273 ls [.int (nI k), .ref 0] M Q :=
  x_L_isRound_273 (p0 := [.int (nI k), .ref 0]) (r := []) (av := [.ref 0, .int (nI k)]) (Nat.le_add_left 64 b) (fun h => by cases h) rfl rfl rfl (by decide) (c_L_days hr hi hk h0 (fun M' w' q i' ez hl => ⟨_, rfl, (by
    show am_R am_S35 mt_L_isRound (b + 64 - 64) 276 ls [.int (nI 1)] M' Q
    rw [Nat.add_sub_cancel]
    exact h M' w' q i' ez hl)⟩))
theorem y_284 {b : Nat} {w : wS} {f : dz} {ls : List Value} {M : am_M} {Q : am_Q} (hb : 1 ≤ b) (hr : vq w f M) (h : ∀ M' f', vq w f' M' → (∀ k, k < 35 → f' k = lk (w_z w) k) → am_R am_S35 mt_L_isRound b 287 ls [] M' Q) : am_R am_S35 mt_L_isRound b 284 ls [.ref 17, .ref 0] M Q :=
  x_L_isRound_284 (p0 := [.ref 17, .ref 0]) (r := []) (av := [.ref 0, .ref 17]) hb (fun _ => rfl) rfl rfl rfl (by decide) (c_L_look hr (fun M' f' q hf => ⟨_, rfl, h M' f' q hf⟩))
theorem y_289 {b n k : Nat} {w : wS} {f : dz} {ls : List Value} {M : am_M} {Q : am_Q} (hr : vq w f M) (hi : wi n w) (hk : k ≤ 60) (h0 : (w_z w 0).toInt + 24 * k ≤ 99999) (h : ∀ M' w', vq w' f M' → wi n w' → w_z w' = zdy (w_z w) k → hsl w w' → am_R am_S35 mt_L_isRound b 292 ls [.int (nI 1)] M' Q) : am_R am_S35 mt_L_isRound (b + 64) 289 ls [.int (nI k), .ref 0] M Q :=
  x_L_isRound_289 (p0 := [.int (nI k), .ref 0]) (r := []) (av := [.ref 0, .int (nI k)]) (Nat.le_add_left 64 b) (fun h => by cases h) rfl rfl rfl (by decide) (c_L_days hr hi hk h0 (fun M' w' q i' ez hl => ⟨_, rfl, (by
    show am_R am_S35 mt_L_isRound (b + 64 - 64) 292 ls [.int (nI 1)] M' Q
    rw [Nat.add_sub_cancel]
    exact h M' w' q i' ez hl)⟩))
theorem y_298 {b : Nat} {w : wS} {f : dz} {ls : List Value} {M : am_M} {Q : am_Q} (hb : 1 ≤ b) (hr : vq w f M) (hy : (∀ k, k < 35 → f k = lk (w_z w) k) → ∀ M', vq w f M' → am_R am_S35 mt_L_isRound b 301 ls [.int (nI 1)] M' Q) (hn : ¬ (∀ k, k < 35 → f k = lk (w_z w) k) → ∀ M', vq w f M' → am_R am_S35 mt_L_isRound b 301 ls [.int (nI 0)] M' Q) : am_R am_S35 mt_L_isRound b 298 ls [.ref 17, .ref 0] M Q :=
  x_L_isRound_298 (p0 := [.ref 17, .ref 0]) (r := []) (av := [.ref 0, .ref 17]) hb (fun _ => rfl) rfl rfl rfl (by decide) (c_L_isLook hr (fun c M' q => ⟨_, rfl, hy c M' q⟩) (fun c M' q => ⟨_, rfl, hn c M' q⟩))
theorem zdy_add (z : dz) (i k : Nat) : zdy (zdy z i) k = zdy z (i + k) := by
  unfold zdy
  rw [← zhours_add, Nat.mul_add]
theorem zdy_t {z : dz} (h : zok z) (h0 : 0 ≤ (z 0).toInt) (h9 : (z 0).toInt ≤ 50000) {i : Nat} (hi : i ≤ 1000) : (zdy z i 0).toInt = (z 0).toInt + 24 * i := by
  have ek : (nI (24 * i)).toInt = (24 * i : Nat) := nI_toInt (by omega)
  unfold zdy
  rw [zhours_0 h, ti_add (by omega) (by omega)]
  omega
theorem look_iff {z f : dz} (h : zok z) {i j : Nat} (hf : ∀ k, k < 35 → f k = lk (zdy z i) k) : (∀ k, k < 35 → f k = lk (zdy z j) k) ↔ zE z i j := by
  have e := ag_lookZ (a := zdy z i) (b := zdy z j) (fun i' hi' => ((zdy_ok h i).2 i' hi').trans ((zdy_ok h j).2 i' hi').symm)
  unfold zE
  rw [← e]
  refine ⟨fun g k hk => ?_, fun g k hk => ?_⟩
  · have e1 := hf k hk
    have e2 := g k hk
    rw [lk_eq] at e1 e2
    exact e1.symm.trans e2
  · rw [hf k hk, lk_eq, lk_eq]
    exact g k hk
/-- what round tells -/
def rl (z : dz) (r l : Int32) : Prop := (r = -nI 1 ∧ l = -nI 1 ∧ rd0 (zE z) 60) ∨ ∃ a d, d ≤ 60 ∧ rd1 (zE z) a d ∧ r = nI (d - a) ∧ l = nI a
theorem rl_rnd {n : Nat} {z : dz} (h : zko n z) : rl z (m_rnd 0 z) (m_rnd 1 z) := by
  have hE := zE_rd h
  have hR := rdL_R hE
  have e0 : m_rnd 0 z = (rdL (zE z)).1 := rfl
  have e1 : m_rnd 1 z = (rdL (zE z)).2 := rfl
  rw [e0, e1]
  rcases rd_or (zE z) 60 with c | ⟨a, d, hd, c⟩
  · obtain ⟨q1, q2⟩ := hR.1 c
    exact Or.inl ⟨q1, q2, c⟩
  · obtain ⟨q1, q2⟩ := hR.2 a d hd c
    exact Or.inr ⟨a, d, hd, c, q1, q2⟩
