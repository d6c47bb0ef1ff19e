/-! numbers, memories and loops for the walks of methods -/
def am_S0 : am_S := (0, 0, fun _ => 0)
theorem am_R_le {L : am_S} {t : am_MT} {n pc : Nat} {xs ys st : List Value} {M : am_M} {Q : am_Q} (h : am_le xs ys) (k : am_R L t n pc xs st M Q) : am_R L t n pc ys st M Q := by
  intro p l e R s m args below meth c a D g A cells slots QQ hE hC h1 h2 hEnd H locs la hW hL
  exact k p l e R s m args below meth c a D g A cells slots QQ hE hC h1 h2 hEnd H locs la hW (am_lv_le hL h)
theorem am_set_set (M : am_M) (o : Nat) (f g : Nat → Int32) : am_set (am_set M o f) o g = am_set M o g := by
  funext q
  unfold am_set
  split <;> rfl
theorem am_set_self (M : am_M) (o : Nat) : am_set M o (M o) = M := by
  funext q
  unfold am_set
  split
  · rename_i h; rw [h]
  · rfl
theorem am_set_comm (M : am_M) {o q : Nat} (h : o ≠ q) (f g : Nat → Int32) : am_set (am_set M o f) q g = am_set (am_set M q g) o f := by
  funext r
  unfold am_set
  by_cases h1 : r = q
  · by_cases h2 : r = o
    · exact absurd (h2.symm.trans h1) h
    · rw [if_pos h1, if_neg h2, if_pos h1]
  · rw [if_neg h1, if_neg h1]
theorem upd_eq (f : Nat → Int32) (k : Nat) (x : Int32) : upd f k x k = x := by simp [upd]
theorem upd_ne (f : Nat → Int32) {k j : Nat} (x : Int32) (h : j ≠ k) : upd f k x j = f j := by simp [upd, h]
theorem lu {P : Nat → Prop} (N : Nat) (he : P N) (hs : ∀ i, i < N → P (i + 1) → P i) : P 0 := by
  have key : ∀ k, k ≤ N → P (N - k) := by
    intro k
    induction k with
    | zero => intro _; exact he
    | succ k ih =>
      intro hk
      have h1 := ih (by omega)
      have e : N - k = N - (k + 1) + 1 := by omega
      rw [e] at h1
      exact hs _ (by omega) h1
  have := key N (Nat.le_refl _)
  rwa [Nat.sub_self] at this
theorem lu' {P : Nat → Prop} (a N : Nat) (ha : a ≤ N) (he : P N) (hs : ∀ i, a ≤ i → i < N → P (i + 1) → P i) : P a := by
  have key : ∀ k, k ≤ N - a → P (N - k) := by
    intro k
    induction k with
    | zero => intro _; exact he
    | succ k ih =>
      intro hk
      have h1 := ih (by omega)
      have e : N - k = N - (k + 1) + 1 := by omega
      rw [e] at h1
      exact hs _ (by omega) (by omega) h1
  have := key (N - a) (Nat.le_refl _)
  rwa [show N - (N - a) = a by omega] at this
-- places
theorem ix2 (a b : Nat) : nI a + nI b = nI (a + b) := nI_add a b
theorem ix3 (a b v : Nat) : nI a + nI b * nI v = nI (a + b * v) := by rw [pk_mul, nI_add]
theorem ix4 (a b v w : Nat) : nI a + nI b * nI v + nI w = nI (a + b * v + w) := by rw [pk_mul, nI_add, nI_add]
theorem ix4' (a b v w : Nat) : nI a + nI v * nI b + nI w = nI (a + v * b + w) := by rw [pk_mul, nI_add, nI_add]
theorem ix3' (a b v : Nat) : nI a + nI v * nI b = nI (a + v * b) := by rw [pk_mul, nI_add]
-- truth values
def ib (p : Prop) [Decidable p] : Int32 := if p then nI 1 else nI 0
theorem ib_t {p : Prop} [Decidable p] (h : p) : ib p = nI 1 := by simp [ib, h]
theorem ib_f {p : Prop} [Decidable p] (h : ¬ p) : ib p = nI 0 := by simp [ib, h]
theorem ib_01 (p : Prop) [Decidable p] : ib p = 0 ∨ ib p = 1 := by
  by_cases h : p
  · exact Or.inr (by rw [ib_t h]; rfl)
  · exact Or.inl (by rw [ib_f h]; rfl)
theorem nI1_ne : ¬ nI 1 = 0 := by decide +kernel
theorem ib_eq0 {p : Prop} [Decidable p] : ib p = 0 ↔ ¬ p := by
  by_cases h : p
  · rw [ib_t h]
    exact ⟨fun q => absurd q nI1_ne, fun q => absurd h q⟩
  · rw [ib_f h]
    exact ⟨fun _ => h, fun _ => nI_0⟩
theorem ib_cond {p q : Prop} [Decidable p] [Decidable q] (h : p ↔ q) : ib p = ib q := by
  by_cases hp : p
  · rw [ib_t hp, ib_t (h.mp hp)]
  · rw [ib_f hp, ib_f (fun z => hp (h.mpr z))]
theorem nI_lti {a b : Nat} (ha : a < 2 ^ 31) (hb : b < 2 ^ 31) : nI a < nI b ↔ a < b := nI_ltI ha hb
theorem i_nge {a b : Nat} (h : a < b) (hb : b < 2 ^ 31) : ¬ nI b ≤ nI a := nI_ge h hb
theorem i_le {a b : Nat} (h : a ≤ b) (hb : b < 2 ^ 31) : nI a ≤ nI b := nI_le h hb
theorem k_in {P : Value → Prop} {a b : Int32} (h : P (.int a)) (e : a = b) : P (.int b) := e ▸ h
def ileast (a b : Int32) : Int32 := if a < b then a else b
theorem rv2 {L : am_S} {M : am_M} {k : Nat} : am_rv L M k 2 = M 2 k := rfl
theorem rv4 {L : am_S} {M : am_M} {k : Nat} : am_rv L M k 4 = M 4 k := rfl
theorem rv7 {L : am_S} {M : am_M} {k : Nat} : am_rv L M k 7 = M 7 k := rfl
theorem rv8 {L : am_S} {M : am_M} {k : Nat} : am_rv L M k 8 = M 8 k := rfl
theorem rv10 {L : am_S} {M : am_M} {k : Nat} : am_rv L M k 10 = M 10 k := rfl
theorem rv11 {L : am_S} {M : am_M} {k : Nat} : am_rv L M k 11 = M 11 k := rfl
theorem rv12 {L : am_S} {M : am_M} {k : Nat} : am_rv L M k 12 = M 12 k := rfl
theorem rv13 {L : am_S} {M : am_M} {k : Nat} : am_rv L M k 13 = M 13 k := rfl
theorem rv14 {L : am_S} {M : am_M} {k : Nat} : am_rv L M k 14 = M 14 k := rfl
theorem rv15 {L : am_S} {M : am_M} {k : Nat} : am_rv L M k 15 = M 15 k := rfl
theorem rv16 {L : am_S} {M : am_M} {k : Nat} : am_rv L M k 16 = M 16 k := rfl
theorem rv18 {L : am_S} {M : am_M} {k : Nat} : am_rv L M k 18 = M 18 k := rfl
theorem rv19 {L : am_S} {M : am_M} {k : Nat} : am_rv L M k 19 = M 19 k := rfl
theorem rv20 {L : am_S} {M : am_M} {k : Nat} : am_rv L M k 20 = M 20 k := rfl
theorem rv21 {L : am_S} {M : am_M} {k : Nat} : am_rv L M k 21 = M 21 k := rfl
theorem rv22 {L : am_S} {M : am_M} {k : Nat} : am_rv L M k 22 = M 22 k := rfl
theorem rv23 {L : am_S} {M : am_M} {k : Nat} : am_rv L M k 23 = M 23 k := rfl
theorem rv24 {L : am_S} {M : am_M} {k : Nat} : am_rv L M k 24 = M 24 k := rfl
theorem rv25 {L : am_S} {M : am_M} {k : Nat} : am_rv L M k 25 = M 25 k := rfl
