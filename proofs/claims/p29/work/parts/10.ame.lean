/-! the entry of a method: a walk of its body gives its contract -/
theorem am_cat_sum : ∀ st : List Value, (st.map fun v => v.category).sum = am_cat st
  | [] => rfl
  | v :: r => by
    show v.category + (r.map fun v => v.category).sum = v.category + am_cat r
    rw [am_cat_sum r]
def am_en0 : List Value → List Value
  | [] => []
  | v :: r => match v with
    | .long x => .long x :: .null :: am_en0 r
    | .double x => .double x :: .null :: am_en0 r
    | v => v :: am_en0 r
def am_en (n : Nat) (av : List Value) : List Value := am_en0 av ++ List.replicate (n - (am_en0 av).length) .null
theorem am_en0_cat (v : Value) (r : List Value) : am_en0 (v :: r) = v :: (if v.category = 2 then .null :: am_en0 r else am_en0 r) := by
  cases v <;> simp [am_en0, Value.category]
theorem am_en0_len (a : Nat → Nat) : ∀ av : List Value, (lg_sl (av.map (am_tv a))).length = (am_en0 av).length
  | [] => rfl
  | v :: r => by
    rw [am_en0_cat, List.map_cons]
    have ih := am_en0_len a r
    unfold lg_sl at ih ⊢
    rw [List.flatMap_cons, am_tv_cat]
    by_cases h : v.category = 2
    · simp only [h, if_true, List.length_append, List.length_cons, List.length_nil]
      omega
    · simp only [h, if_false, List.length_append, List.length_cons, List.length_nil]
      omega
theorem am_en0_get (a : Nat → Nat) : ∀ (av : List Value) (o i : Nat) (v : Value), (am_en0 av)[i]? = some v → v ≠ .null → (o + i, am_tv a v) ∈ lv_args o (av.map (am_tv a))
  | [], o, i, v, h, _ => by simp [am_en0] at h
  | w :: r, o, i, v, h, hv => by
    rw [am_en0_cat] at h
    rw [List.map_cons]
    unfold lv_args
    rw [am_tv_cat]
    cases i with
    | zero =>
      rw [List.getElem?_cons_zero] at h
      cases h
      exact List.mem_cons_self
    | succ i =>
      rw [List.getElem?_cons_succ] at h
      refine List.mem_cons_of_mem _ ?_
      by_cases hc : w.category = 2
      · simp only [hc, if_true] at h ⊢
        cases i with
        | zero =>
          rw [List.getElem?_cons_zero] at h
          cases h
          exact absurd rfl hv
        | succ i =>
          rw [List.getElem?_cons_succ] at h
          have := am_en0_get a r (o + 2) i v h hv
          rwa [show o + 2 + i = o + (i + 1 + 1) by omega] at this
      · simp only [hc, if_false] at h ⊢
        have := am_en0_get a r (o + 1) i v h hv
        rwa [show o + 1 + i = o + (i + 1) by omega] at this
theorem am_entry_lv (a : Nat → Nat) {n : Nat} {av : List Value} (h : (am_en0 av).length ≤ n) : am_lv a n (am_en n av) ((lg_sl (av.map (am_tv a)) ++ List.replicate (n - (lg_sl (av.map (am_tv a))).length) Slot.unset).toArray) := by
  obtain ⟨h1, h2, h3⟩ := lv_entry (av.map (am_tv a)) (n := n) (by rw [am_en0_len]; exact h)
  refine ⟨h1, h2, by simp [am_en]; omega, fun i v hi hv => ?_⟩
  have hi' : (am_en0 av)[i]? = some v := by
    unfold am_en at hi
    by_cases hl : i < (am_en0 av).length
    · rwa [List.getElem?_append_left hl] at hi
    · rw [List.getElem?_append_right (by omega)] at hi
      exact absurd (List.eq_of_mem_replicate (List.mem_of_getElem? hi)) hv
  have := h3 (0 + i, am_tv a v) (am_en0_get a av 0 i v hi' hv)
  simpa using this
set_option maxHeartbeats 1000000 in
theorem am_C_of_Rn {t : am_MT} {av : List Value} {M : am_M} {Q : am_Q} (L : am_S) (hk : am_okM t) (hw : (mt_v t || (mt_w t && !Nat.beq L.1 (mt_x t))) = false) (ls : List Value) (hls : am_en (mt_l t) av = ls) (hn : Nat.ble (am_en0 av).length (mt_l t) = true) (h : am_R L t (mt_c t) 0 ls [] M Q) : am_C t av M Q := by
  subst hls
  have hn := Nat.le_of_ble_eq_true hn
  intro l a D g sz hst hgx
  have hv : mt_v t = false := by
    cases h : mt_v t with
    | false => rfl
    | true => rw [h] at hw; cases hw
  have hwx : mt_w t = true → g.2.2 = L.1 := by
    intro h
    rw [hv, h] at hw
    have e : Nat.beq L.1 (mt_x t) = true := by
      cases e : Nat.beq L.1 (mt_x t) with
      | true => rfl
      | false => rw [e] at hw; cases hw
    rw [Nat.eq_of_beq_eq_true e]
    exact hgx h
  have key : ∀ (p : Program) (e : Env) (s : State) (m : MethodId) (args : Array Value) (below : List Frame) (meth : Method) (c : Code) (s₁ : State), BodyLoose p l (mt_y t) (headSpec (am_ws t) (am_rm t)) (mt_b t) (mt_l t) (mt_r t) e s m args below meth c s₁ → c.maxLocals = mt_l t → c.exceptionTable.toList = tableOf (mt_h t) → va_Pc (av.map (am_tv a)) (am_Pre a D g M sz) args s →
      W p l e (am_rm t) s m args below meth c s.heap [] 0 0 (vx_MQ below (am_Qc t a D g (va_A (am_w a g M) sz) Q) (am_XC a D g (va_A (am_w a g M) sz) Q) args s (mt_c t) (6 * mt_c t) (va_A (am_w a g M) sz)) (entryFrame m args (mt_l t)) := by
    intro p e s m args below meth c s₁ B hml htab hv9
    obtain ⟨rfl, rfl, hP, hK, hD0, hSF⟩ := hv9
    have hts0 := atoms_spec (ws := am_ws t) B.pre
    have hts : ∀ w ∈ am_good, w.before (av.map (am_tv a)).toArray s = true := fun w h => hts0 w (List.mem_cons_of_mem _ h)
    have hown : s.vm.findClass (mt_y t).cls = some m.cls := findClass_of_methodNamed B.named
    have hD := hD0.self (sz := s.heap.size)
    generalize hA : va_A (am_w a g M) s.heap.size = A at hD hSF ⊢
    have hAA : ∀ q : Nat, s.heap.size ≤ q → A q := fun q h => by rw [← hA]; exact Or.inr h
    rw [lg_entry_eq]
    refine h p l e (am_rm t) s m _ below meth c a D g A 0 0 _ ⟨B.exec, B.bytes, hml, hown, hts, B.notSynchronized, hst, htab, B.returns, Nat.le_refl _, Nat.le_refl _⟩ ⟨hK, fun M' => am_D_any hD M', hAA, hSF, (fun h => by rw [hv] at h; cases h), hwx⟩ (by show 0 + mt_c t ≤ mt_c t; omega) (by show 0 + 6 * mt_c t ≤ 6 * mt_c t; omega) ?_ s.heap [] _ ⟨hP, va_S.rf, fun h => by rw [hv] at h; cases h⟩ (am_entry_lv a hn)
    intro k hk1 hk0
    refine ⟨?_, ?_, ?_⟩
    · intro v M' H locs pc la i hQ hW hri hd hla
      have hF : ∀ u : State, u.heap = H → va_F A s u := fun u hu => hW.2.1.F hu
      have hf : ∀ q ∈ locs, A q.base := hW.2.1.2.2
      have hc1 : 0 + k ≤ mt_c t := by omega
      have hs1 : 0 + 6 * k ≤ 6 * mt_c t := by omega
      have hq : ∀ u : State, u.heap = H → s.WarmedH u.vm → FrameEnd s (.returned (v.map (am_tv a))) u locs (0 + k) (0 + 6 * k) → am_Qc t a D g A Q (av.map (am_tv a)).toArray s (.returned (v.map (am_tv a))) u := by
        intro u hu _ hfe
        refine ⟨⟨v, M', rfl, hQ, by rw [hu]; exact hW.1⟩, hF u hu, fun hg => ⟨locs, ?_⟩⟩
        have hk : k = 0 := hk0 hg
        subst hk
        exact hfe
      match v, hri with
      | none, ⟨h1, h2⟩ =>
        subst h1
        exact am_vret B.exec B.bytes (B.returns.trans h2) hq hf hd B.notSynchronized hc1 hs1
      | some (.int x), ⟨h1, ty, h2, h3⟩ =>
        subst h1
        exact am_zret B.exec B.bytes (B.returns.trans h2) h3 hq hf hd B.notSynchronized hc1 hs1
      | some (.long x), ⟨h1, h2⟩ =>
        subst h1
        exact am_lret B.exec B.bytes (B.returns.trans h2) hq hf hd B.notSynchronized hc1 hs1
      | some (.double x), ⟨h1, h2⟩ =>
        subst h1
        exact am_dret B.exec B.bytes (B.returns.trans h2) hq hf hd B.notSynchronized hc1 hs1
    · intro E M' H locs pc la rest q ce hQ hW hce hcv hcl hh hk2
      refine vx_out (fun x hx => ?_) B.notSynchronized hce hcv hcl (fun u hu _ => ⟨⟨M', hQ, by rw [hu]; exact hW.1⟩, hW.2.1.F hu⟩) hW.2.1.2.2 (by omega) (by omega)
      rw [htab, hh] at hx
      cases hx
    · intro x M' H locs pc la rest ik ii ic hQ hW hh hx3 hk2 hla hcat hRX h6 h90 hik hic htx d0 d3 d4 d6 d9
      obtain ⟨tx, htx⟩ := htx
      obtain ⟨sa, hsa⟩ := hSF.2.2.1 (ii, tx) htx
      have hown3 : s.vm.findClass RX3 = some m.cls := by rw [← hRX]; exact hown
      have hout : ∀ x ∈ c.exceptionTable.toList, covers x (pc + 9) = false := fun x hx => by
        rw [htab, hh] at hx
        cases hx
      have hxc : ∀ u : State, s.vm.Alike u.vm → H.size ≤ u.heap.size → (∀ q : Nat, q < H.size → u.heap[q]? = H[q]?) → am_XC a D g A Q (am_ex x) s u := by
        intro u _ hz hq
        refine ⟨⟨M', hQ, hW.1.kept (fun k q hkq => hq q.1 (hW.1 k q hkq).lt)⟩, Nat.le_trans hW.2.1.1 hz, fun q h1 h2 => ?_⟩
        rw [hq q (Nat.lt_of_lt_of_le h1 hW.2.1.1)]
        exact hW.2.1.2.1 q h1 h2
      have hrl : (List.map (fun v => v.category) (rest)).sum + (13 * (am_nm.length + 1) + 43) ≤ (am_rm t).locals := by
        rw [am_cat_sum]
        show am_cat rest + 82 ≤ mt_rl t
        omega
      have hrf : am_nm.length + 3 < (am_rm t).frames := by
        show 5 < mt_rf t
        omega
      match x, hx3 with
      | 0, _ =>
        subst hik; subst hic
        exact vx_throwS (names := am_nm) (text := tx) (own := RX3) (cls := am_ex 0) B.exec B.bytes hst hown3 (by decide) (by decide) (hts _ am_ck0.1) (hts _ am_ck0.2.1) hsa
          (vx_hat (fun w hw => hts w (am_at0 w hw)) am_an0 (fun w hw => by
            rcases List.mem_cons.mp hw with rfl | hw
            · exact va_Nw.use rfl (hSF.2.2.2.2.1 0)
            · obtain ⟨y, hy, rfl⟩ := List.mem_map.mp hw
              exact va_Nw.use rfl (hSF.2.2.2.2.2 y hy))) am_ag.1 hSF.1 hSF.2.1 hW.2.1 (by rw [hla]; exact hml.symm) d0 d3 d4 d6 d9 hout hrf hrl (by show 0 + k + 1 ≤ mt_c t; omega) (by show 0 + 6 * k + 6 ≤ 6 * mt_c t; omega) B.notSynchronized hxc hW.2.1.2.2 (by omega) (by omega)
      | 1, _ =>
        subst hik; subst hic
        exact vx_throwS (names := am_nm) (text := tx) (own := RX3) (cls := am_ex 1) B.exec B.bytes hst hown3 (by decide) (by decide) (hts _ am_ck0.2.2.1) (hts _ am_ck0.2.2.2.1) hsa
          (vx_hat (fun w hw => hts w (am_at1 w hw)) am_an1 (fun w hw => by
            rcases List.mem_cons.mp hw with rfl | hw
            · exact va_Nw.use rfl (hSF.2.2.2.2.1 1)
            · obtain ⟨y, hy, rfl⟩ := List.mem_map.mp hw
              exact va_Nw.use rfl (hSF.2.2.2.2.2 y hy))) am_ag.2.1 hSF.1 hSF.2.1 hW.2.1 (by rw [hla]; exact hml.symm) d0 d3 d4 d6 d9 hout hrf hrl (by show 0 + k + 1 ≤ mt_c t; omega) (by show 0 + 6 * k + 6 ≤ 6 * mt_c t; omega) B.notSynchronized hxc hW.2.1.2.2 (by omega) (by omega)
      | 2, _ =>
        subst hik; subst hic
        exact vx_throwS (names := am_nm) (text := tx) (own := RX3) (cls := am_ex 2) B.exec B.bytes hst hown3 (by decide) (by decide) (hts _ am_ck0.2.2.2.2.1) (hts _ am_ck0.2.2.2.2.2) hsa
          (vx_hat (fun w hw => hts w (am_at2 w hw)) am_an2 (fun w hw => by
            rcases List.mem_cons.mp hw with rfl | hw
            · exact va_Nw.use rfl (hSF.2.2.2.2.1 2)
            · obtain ⟨y, hy, rfl⟩ := List.mem_map.mp hw
              exact va_Nw.use rfl (hSF.2.2.2.2.2 y hy))) am_ag.2.2 hSF.1 hSF.2.1 hW.2.1 (by rw [hla]; exact hml.symm) d0 d3 d4 d6 d9 hout hrf hrl (by show 0 + k + 1 ≤ mt_c t; omega) (by show 0 + 6 * k + 6 ≤ 6 * mt_c t; omega) B.notSynchronized hxc hW.2.1.2.2 (by omega) (by omega)
  cases hh : mt_h t with
  | nil =>
    refine vx_ofW (cc := mt_b t) (maxL := mt_l t) (ret := mt_r t) (ws' := am_good) hk.2.2.2.2 (by simp [am_ws, hh]) ?_
    intro p e s m args below meth c s₁ B hml ht hv9
    exact key p e s m args below meth c s₁ B hml (by
      rw [hh]
      exact List.eq_nil_iff_forall_not_mem.mpr (fun x hx => ht x hx)) hv9
  | cons x xs =>
    refine vx_ofWH (cc := mt_b t) (maxL := mt_l t) (ret := mt_r t) (hh := x :: xs) (ws' := am_good) hk.2.2.2.2 (by simp [am_ws, hh]) ?_
    intro p e s m args below meth c s₁ B hml hv9
    refine key p e s m args below meth c s₁ B hml ?_ hv9
    rw [hh]
    exact vx_table (l := l) (x := mt_y t) (bytes := mt_b t) (maxL' := mt_l t) (ret' := mt_r t) B (atoms_spec (ws := am_ws t) B.pre _ (by simp [am_ws, hh]))
/-- a method of the class: it costs one exception at most -/
theorem am_C_of_R {t : am_MT} {av : List Value} {M : am_M} {Q : am_Q} (L : am_S) (hk : am_okM t) (hw : ((mt_v t || (mt_w t && !Nat.beq L.1 (mt_x t))) || !Nat.beq (mt_c t) 1) = false) (ls : List Value) (hls : am_en (mt_l t) av = ls) (hn : Nat.ble (am_en0 av).length (mt_l t) = true) (h : am_R L t 1 0 ls [] M Q) : am_C t av M Q := by
  have h1 : (mt_v t || (mt_w t && !Nat.beq L.1 (mt_x t))) = false := by
    cases e : (mt_v t || (mt_w t && !Nat.beq L.1 (mt_x t))) with
    | false => rfl
    | true => rw [e] at hw; cases hw
  have h2 : mt_c t = 1 := by
    rw [h1] at hw
    cases e : Nat.beq (mt_c t) 1 with
    | true => exact Nat.eq_of_beq_eq_true e
    | false => rw [e] at hw; cases hw
  exact am_C_of_Rn L hk h1 ls hls hn (by rw [h2]; exact h)
