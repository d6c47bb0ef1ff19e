/-! rules of am_R: calls, returns, exceptions -/
theorem am_good_gi : GoodIn am_good am_good := fun _ h => ⟨h, good_of_word (List.mem_filter.mp h).2⟩
def am_hw (t : am_MT) : Jvm.Cond := match mt_h t with
  | [] => Jvm.Cond.code (mt_y t) (mt_b t) (mt_l t) (mt_r t)
  | h => Jvm.Cond.codeWith (mt_y t) (mt_b t) (mt_l t) (mt_r t) h
theorem am_ws_eq (t : am_MT) : am_ws t = am_hw t :: am_good := rfl
def am_okM (t : am_MT) : Prop := am_hw t ∈ am_good ∧ Jvm.Cond.initialized (mt_y t).cls ∈ am_good ∧ (mt_y t).cls ≠ "java/lang/invoke/MethodHandle" ∧ (mt_y t).cls ≠ "java/lang/invoke/VarHandle" ∧ plainName (mt_y t).cls = true
theorem am_ws_gi {t : am_MT} (h : am_okM t) : GoodIn am_good (am_ws t) := by
  intro w hw
  rcases List.mem_cons.mp hw with rfl | hw
  · exact am_good_gi _ h.1
  · exact am_good_gi _ hw
theorem am_Ca_moved {C T : String} {u U : State} (hvm : u.vm.Alike U.vm) (h : va_Nw (.castable C T) u) : va_Nw (.castable C T) U := by
  have e := Jvm.Cond.onTables_vm (A := #[]) (A' := #[]) (U := u) (U' := U) U.vm (.castable C T) rfl
  have hU : U.setVm U.vm = U := rfl
  rw [hU] at e
  show (Jvm.Cond.castable C T).before #[] U = true
  rw [← e, Jvm.Cond.castable_setVm hvm]
  exact h
theorem am_Dc_moved {x : MethodName} {u U : State} (hvm : u.vm.Alike U.vm) (h : va_Nw (.declares x) u) : va_Nw (.declares x) U := by
  have e := Jvm.Cond.onTables_vm (A := #[]) (A' := #[]) (U := u) (U' := U) U.vm (.declares x) rfl
  have hU : U.setVm U.vm = U := rfl
  rw [hU] at e
  show (Jvm.Cond.declares x).before #[] U = true
  rw [← e, Jvm.Cond.declares_setVm hvm]
  exact h
theorem am_SF_warm {A B : Nat → Prop} {u U : State} {H0 H : Heap} (hW : u.WarmedH U.vm) (hk : ∀ a : Nat, a < H0.size → ¬ A a → H[a]? = H0[a]?) (hAB : ∀ z, B z → A z) (h : am_SF A u H0) : am_SF B U H := by
  obtain ⟨h1, h2, h3, h8, h9, h10⟩ := h
  refine ⟨((h1.moved hW.alike).kept hk).narrow hAB, ((h2.moved hW.alike).kept hk).narrow hAB, fun t ht => ?_, fun i j hij => (h8 i j hij).moved hW.alike, fun i => am_Ca_moved hW.alike (h9 i), fun x hx => am_Dc_moved hW.alike (h10 x hx)⟩
  obtain ⟨sa, hs⟩ := h3 t ht
  exact ⟨sa, vk_R.warm hW hs⟩
theorem am_blind (av : List Value) (a : Nat → Nat) (D : va_G) (g : ClassId × ClassId × Nat) (M : am_M) (sz : Nat) : FrameBlind (va_Pc av (am_Pre a D g M sz)) := by
  rintro v U g' mk ⟨h0, h1, h2, h3, h4, h5⟩
  exact ⟨h0, h1, h2, va_K.moved (u := U) (U := U.calling g' mk v) (Vm.Alike.refl U.vm) h3, h4, am_SF_warm (u := U) (U := U.calling g' mk v) (State.WarmedH.refl U) (fun _ _ _ => rfl) (fun _ h => h) h5⟩
section AMC
variable {p : Program} {l : Launch} {e : Env} {R : Room} {s : State} {m : MethodId} {args : Array Value} {below : List Frame} {meth : Method} {c : Code} {H : Heap} {locs : List Loc} {cells slots : Nat} {QQ : State → Prop}
theorem am_tight {T T' : State} {locs' : List Loc} {c' n' : Nat} (X : Stand p l e R s m args below meth c T locs cells slots) (X' : Stand p l e R s m args below meth c T' locs' c' n') (hsz : T'.heap.size = T.heap.size)
    (hsl : ∀ (a : Nat) (c0 : Cell), T.heap[a]? = some c0 → ∃ c1 : Cell, T'.heap[a]? = some c1 ∧ c1.slots.size = c0.slots.size) : Stand p l e R s m args below meth c T' locs' cells slots := by
  obtain ⟨e1, h1, h2, h3, h4, h5⟩ := X'.same
  obtain ⟨-, -, g2, -, g4, -⟩ := X.same
  have hm : T'.heap.toList.map (·.slots.size) = T.heap.toList.map (·.slots.size) := by
    apply List.ext_getElem?
    intro k
    rw [List.getElem?_map, List.getElem?_map, Array.getElem?_toList, Array.getElem?_toList]
    cases hk : T.heap[k]? with
    | none =>
      have : T'.heap[k]? = none := by
        rw [Array.getElem?_eq_none_iff] at hk ⊢
        omega
      rw [this]
    | some c0 =>
      obtain ⟨c1, q1, q2⟩ := hsl k c0 hk
      rw [q1]
      simp [q2]
  refine { X' with same := ⟨e1, h1, ?_, h3, ?_, h5⟩ }
  · show T'.heap.size ≤ s.heap.size + cells
    have g2' : T.heap.size ≤ s.heap.size + cells := g2
    omega
  · show ((T'.heap.toList.drop s.heap.size).map (·.slots.size)).sum ≤ slots
    have g4' : ((T.heap.toList.drop s.heap.size).map (·.slots.size)).sum ≤ slots := g4
    rw [List.map_drop, hm, ← List.map_drop]
    exact g4'
theorem am_run_W {L : am_S} {t u : am_MT} {a : Nat → Nat} {D : va_G} {g : ClassId × ClassId × Nat} {A : Nat → Prop} {M : am_M} {K : am_Q} {pc : Nat} {la : Array Slot} {st0 rest : List Value} {av : Array Value}
    (hC : am_Ct L t a D g A s) (hW : am_Wl L t a D g A s M H locs)
    (hr : vx_Run p l e R s m args below meth c H locs cells slots (mt_c u) (6 * mt_c u) (F0 m pc la st0) rest (am_Qc u a D g (va_A (am_w a g M) H.size) K av) (am_XC a D g (va_A (am_w a g M) H.size) K) (va_A (am_w a g M) H.size))
    (kn : ∀ (v : Option Value) (M' : am_M) (H1 : Heap) (locs1 : List Loc), K (.inl v) M' → am_Wl L t a D g A s M' H1 locs1 → W p l e R s m args below meth c H1 locs1 (if mt_g u then cells + mt_c u else cells) (if mt_g u then slots + 6 * mt_c u else slots) QQ (F0 m (pc + 3) la ((v.map (am_tv a)).toList ++ rest)))
    (kx : ∀ (E : String) (M' : am_M) (H1 : Heap) (locs1 : List Loc) (q : Addr) (ce : Cell), K (.inr E) M' → am_Wl L t a D g A s M' H1 locs1 → H1[q]? = some ce → ce.vm = .none → s.vm.findClass E = some ce.cls → vx_W p l e R s m args below meth c H1 locs1 (cells + mt_c u) (slots + 6 * mt_c u) QQ (F0 m pc la rest) q) :
    W p l e R s m args below meth c H locs cells slots QQ (F0 m pc la st0) := by
  have hA1 : ∀ q, va_A (am_w a g M) H.size q → A q := va_free (hC.2.1 M) hW.2.1 hC.2.2.1 (List.range (am_nc g.2.2)) (by
    apply List.ext_getElem?
    intro k
    by_cases hk : k < am_nc g.2.2
    · simp [hk, am_w_get a g M hk]
    · rw [List.getElem?_eq_none (by simpa using Nat.not_lt.mp hk), List.getElem?_eq_none (by simpa [am_w_len] using Nat.not_lt.mp hk)])
  intro T hT X
  rcases hr T hT X with ⟨v, st₀, t1, T', L1, h0, X', hL, e1, e2, hQ, st⟩ | ⟨q, st₀, t1, T', L1, E, ce, h0, X', hL, e1, e2, hXC, hce, hcv, hcl, st⟩
  · obtain ⟨⟨v', M', hv, hK, hP'⟩, hF, htg⟩ := hQ
    obtain ⟨k1, k2, k3⟩ := vx_keep h0 e1 hW.2.1 (fun q _ h => hA1 q h) hA1 hL hF
    have hv' : v = v'.map (am_tv a) := by
      cases hv
      rfl
    subst hv'
    have hW' : am_Wl L t a D g A s M' T'.heap (locs ++ L1) := ⟨by rw [e1]; exact hP', k3, hW.2.2⟩
    have k := kn v' M' T'.heap (locs ++ L1) hK hW'
    cases hg : mt_g u with
    | true =>
      rw [hg] at k
      obtain ⟨t2, a1, b1⟩ := k T' rfl X'
      exact ⟨t2, st t2 a1, b1⟩
    | false =>
      rw [hg] at k
      obtain ⟨L0, -, -, hsm⟩ := htg hg
      obtain ⟨-, q1, q2, -, -, q5⟩ := hsm
      have hsz : T'.heap.size = T.heap.size := by
        have q1' : st₀.heap.size ≤ t1.heap.size := q1
        have q2' : t1.heap.size ≤ st₀.heap.size + 0 := q2
        rw [e1, hT, ← h0]
        omega
      have X2 := am_tight X X' hsz (fun b c0 hb => by
        rw [hT, ← h0] at hb
        obtain ⟨c1, r1, -, r3, -⟩ := q5 b c0 hb
        exact ⟨c1, by rw [e1]; exact r1, r3⟩)
      obtain ⟨t2, a1, b1⟩ := k T' rfl X2
      exact ⟨t2, st t2 a1, b1⟩
  · obtain ⟨⟨M', hK, hP'⟩, hF⟩ := hXC
    obtain ⟨k1, k2, k3⟩ := vx_keep h0 e1 hW.2.1 (fun q _ h => hA1 q h) hA1 hL hF
    have hW' : am_Wl L t a D g A s M' T'.heap (locs ++ L1) := ⟨by rw [e1]; exact hP', k3, hW.2.2⟩
    obtain ⟨t2, a1, b1⟩ := kx E M' T'.heap (locs ++ L1) q ce hK hW' (by rw [e1]; exact hce) hcv hcl T' rfl X'
    exact ⟨t2, st.trans a1, b1⟩
theorem am_End_shift {L : am_S} {t : am_MT} {a : Nat → Nat} {D : va_G} {g : ClassId × ClassId × Nat} {A : Nat → Prop} {n w : Nat} {Q : am_Q} (hg : mt_g t = true) (h : am_End p l e R s m args below meth c L t a D g A cells slots (n + w) QQ Q) :
    am_End p l e R s m args below meth c L t a D g A (cells + w) (slots + 6 * w) n QQ Q := by
  intro k hk h0
  obtain ⟨e1, e2, e3⟩ := h (k + w) (by omega) (fun h => by rw [hg] at h; cases h)
  have c1 : cells + (k + w) = cells + w + k := by omega
  have c2 : slots + 6 * (k + w) = slots + 6 * w + 6 * k := by omega
  rw [c1, c2] at e1 e2 e3
  refine ⟨e1, ?_, ?_⟩
  · intro E M H locs pc la rest q ce z1 z2 z3 z4 z5 z6 z7
    exact e2 E M H locs pc la rest q ce z1 z2 z3 z4 z5 z6 (by omega)
  · intro x M H locs pc la rest ik ii ic z1 z2 z3 z4 z5
    exact e3 x M H locs pc la rest ik ii ic z1 z2 z3 z4 (by omega)
theorem am_End_le {L : am_S} {t : am_MT} {a : Nat → Nat} {D : va_G} {g : ClassId × ClassId × Nat} {A : Nat → Prop} {n n' : Nat} {Q : am_Q} (hn : n ≤ n') (h : am_End p l e R s m args below meth c L t a D g A cells slots n' QQ Q) :
    am_End p l e R s m args below meth c L t a D g A cells slots n QQ Q := by
  intro k hk h0
  obtain ⟨e1, e2, e3⟩ := h k (by omega) h0
  refine ⟨e1, ?_, ?_⟩
  · intro E M H locs pc la rest q ce z1 z2 z3 z4 z5 z6 z7
    exact e2 E M H locs pc la rest q ce z1 z2 z3 z4 z5 z6 (by omega)
  · intro x M H locs pc la rest ik ii ic z1 z2 z3 z4 z5
    exact e3 x M H locs pc la rest ik ii ic z1 z2 z3 z4 (by omega)
/-- more room than is asked -/
theorem am_R_nle {L : am_S} {t : am_MT} {n n' pc : Nat} {ls st : List Value} {M : am_M} {Q : am_Q} (hn : n ≤ n') (k : am_R L t n pc ls st M Q) : am_R L t n' pc ls st M Q := by
  intro p l e R s m args below meth c a D g A cells slots QQ hE hC h1 h2 hEnd H locs la hW hL
  exact k p l e R s m args below meth c a D g A cells slots QQ hE hC (by omega) (by omega) (am_End_le hn hEnd) H locs la hW hL
end AMC
