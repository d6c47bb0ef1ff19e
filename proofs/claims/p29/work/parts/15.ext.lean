/-! the array more: made, and calls that work with it or cost more; the script's cell -/
def am_ckS (t u : am_MT) (pc idx z z2 na : Nat) : Bool := decide (decode (mt_b t) pc = .ok (.invokestatic idx, 3)) && (decide (lw_tbl[z]? = some (.methodLink (mt_y t).cls idx (mt_y u))) && (decide (lw_tbl[z2]? = some (.static (mt_y u))) && (decide (mt_c u = 1 ∨ mt_g t = true) && am_ckc t u pc na)))
section AMX
variable {L : am_S} {t : am_MT} {n pc : Nat} {ls st : List Value} {M : am_M} {Q : am_Q}
theorem am_R_special {u : am_MT} {idx z z2 na : Nat} {r av p0 : List Value} (hk : am_okM u) (hn : mt_c u ≤ n) (hc1 : 1 ≤ mt_c u) (hwx : mt_w u = true → mt_w t = true ∧ L.1 = mt_x u) (hck : am_ckS t u pc idx z z2 na = true) (hst : st = p0 ++ r) (hav : av = p0.reverse) (hlen : av.length = na) (hcat : am_cat r ≤ 8)
    (C : am_C u av M (fun oc M' => ∃ v, oc = .inl v ∧ am_R L t (if mt_g u then n - mt_c u else n) (pc + 3) ls (v.toList ++ r) M' Q)) : am_R L t n pc ls st M Q := by
  simp only [am_ckS, Bool.and_eq_true, decide_eq_true_eq] at hck
  obtain ⟨hd, hl, hs, hx0, hcc⟩ := hck
  rw [← hlen] at hcc
  obtain ⟨g1, g2, g3, g4, g5⟩ := am_ckc_spec hcc
  refine am_R_callS hn hc1 hx0 hwx hk hd hl hs g1 g2 g3 g4 g5 hst hav hcat (am_C_mono C ?_)
  rintro oc M' ⟨v, rfl, h⟩
  exact h
/-- a value that doesn't name the array more -/
def am_n17 : Value → Bool
  | .ref o => !Nat.beq o 17
  | _ => true
def am_a17 (a : Nat → Nat) (q : Nat) : Nat → Nat := fun o => if o = 17 then q else a o
theorem am_n17_of {o : Nat} (h : o ≠ 17) : am_n17 (.ref o) = true := by
  show (!Nat.beq o 17) = true
  cases e : Nat.beq o 17 with
  | false => rfl
  | true => exact absurd (Nat.eq_of_beq_eq_true e) h
theorem am_tv_17 {a : Nat → Nat} {q : Nat} {v : Value} (h : am_n17 v = true) : am_tv (am_a17 a q) v = am_tv a v := by
  cases v with
  | ref o =>
    have hne : o ≠ 17 := by
      intro e
      subst e
      cases h
    unfold am_tv am_a17
    by_cases ho : o < 29
    · simp [ho, hne]
    · simp [ho]
  | _ => rfl
theorem am_tv_17s {a : Nat → Nat} {q : Nat} : ∀ {st : List Value}, st.all am_n17 = true → st.map (am_tv (am_a17 a q)) = st.map (am_tv a)
  | [], _ => rfl
  | v :: r, h => by
    simp only [List.all_cons, Bool.and_eq_true] at h
    rw [List.map_cons, List.map_cons, am_tv_17 h.1, am_tv_17s h.2]
theorem am_val_17 : ∀ o, o < 17 → ∀ k, k < am_nf (am_ci o) → ∀ M : am_M, am_n17 (am_val (am_ci o) o k M) = true := by
  have key : ∀ o, o < 17 → ∀ k, k < am_nf (am_ci o) → am_fr (am_ci o) k ≠ 17 := by decide
  intro o ho k hk M
  unfold am_val
  split
  · rename_i h1
    have : o ≠ 16 := by
      intro e
      subst e
      cases h1
    exact am_n17_of (by omega)
  · unfold am_v0
    have hk2 := key o ho k hk
    split
    · rfl
    · rename_i r hr
      rw [hr] at hk2
      exact am_n17_of hk2
theorem am_e_17 (a : Nat → Nat) (g : ClassId × ClassId × Nat) (M : am_M) (q k : Nat) : ∀ o, o < 17 → am_e (am_a17 a q) (g.1, g.2.1, k) M o = am_e a g M o := by
  have h4 : ∀ o, o < 17 → am_kd o ≠ 4 := by decide
  intro o ho
  unfold am_e
  split
  · rfl
  · rfl
  · rename_i h
    exact absurd h (h4 o ho)
  · congr 2
    refine List.map_congr_left fun j hj => ?_
    exact am_tv_17 (am_val_17 o ho j (List.mem_range.mp hj) M)
theorem am_w_0 (a : Nat → Nat) (g : ClassId × ClassId × Nat) (M : am_M) (h : g.2.2 = 0) : am_w a g M = (List.range 17).map (fun o => (a o, am_e a g M o)) := by
  unfold am_w
  rw [h]
  rfl
theorem am_w_17 (a : Nat → Nat) (g : ClassId × ClassId × Nat) (M : am_M) (q k : Nat) (f : Nat → Int32) (h : g.2.2 = 0) (hk : 0 < k) : am_w (am_a17 a q) (g.1, g.2.1, k) (am_set M 17 f) = am_w a g M ++ [(q, .inl (g.1, k, .inl f))] := by
  have e : am_nc k = 17 + 1 := by unfold am_nc; rw [if_neg (by omega)]
  rw [am_w_0 a g M h]
  show (List.range (am_nc k)).map _ = _
  rw [e, List.range_succ, List.map_append]
  have h1 : (List.range 17).map (fun o => (am_a17 a q o, am_e (am_a17 a q) (g.1, g.2.1, k) (am_set M 17 f) o)) = (List.range 17).map (fun o => (a o, am_e a g M o)) := by
    refine List.map_congr_left fun o ho => ?_
    have ho' := List.mem_range.mp ho
    rw [am_e_17 a g _ q k o ho', am_e_same (M := M) (M' := am_set M 17 f) (am_set_ne (by omega))]
    have : am_a17 a q o = a o := by unfold am_a17; rw [if_neg (by omega)]
    rw [this]
  rw [h1]
  rfl
theorem am_P_17 {D : va_G} {a : Nat → Nat} {g : ClassId × ClassId × Nat} {M : am_M} {q k : Nat} {H : Heap} (h : g.2.2 = 0) (hk : 0 < k) (hP : va_P D am_cls (am_w (am_a17 a q) (g.1, g.2.1, k) M) H) : va_P D am_cls (am_w a g M) H := by
  intro i x hx
  have hM : M = am_set M 17 (M 17) := by
    funext o
    unfold am_set
    split
    · rename_i e; rw [e]
    · rfl
  rw [hM, am_w_17 a g M q k (M 17) h hk] at hP
  refine hP i x ?_
  have hlt := (List.getElem?_eq_some_iff.mp hx).1
  rw [List.getElem?_append_left hlt]
  exact hx
theorem am_lv_17 {a : Nat → Nat} {q n : Nat} {ls : List Value} {la : Array Slot} (hls : ls.all am_n17 = true) (h : am_lv a n ls la) : am_lv (am_a17 a q) n ls la := by
  refine ⟨h.1, h.2.1, h.2.2.1, fun i v hi hv => ?_⟩
  rw [am_tv_17 (List.all_eq_true.mp hls v (List.mem_of_getElem? hi))]
  exact h.2.2.2 i v hi hv
theorem nw_i {p : Program} {l : Launch} {e : Env} {R : Room} {s : State} {m : MethodId} {args : Array Value} {below : List Frame} {meth : Method} {c : Code} {H H0 : Heap} {locs : List Loc} {cells slots pc : Nat} {Q : State → Prop} {cc : ByteArray} {ls : Array Slot} {rest : List Value} {D : va_G} {g : ClassId × ClassId × Nat} {ws : va_W} {A : Nat → Prop}
    (hexec : p.tables.exec = Jvm.exec) (hb : c.code = cc) (harr : (Jvm.Cond.arrayClass .int).before args s = true) (hK : va_K D am_cls (am_tys g) s) (hP : va_P D am_cls ws H) (hD : va_D A ws) (hS : va_S A H0 H locs) (hA : ∀ q, H0.size ≤ q → A q) {n : Int32} {N' : Nat} (hn : n = nI N') (hN : N' ≤ 5000) (hcells : cells + 1 ≤ R.cells) (hslots : slots + N' ≤ R.slots) (hdg : decode cc pc = .ok (.newarray .int, 2))
    (kk : ∀ (q : Nat) (H1 : Heap), va_P D am_cls (ws ++ [(q, .inl (g.1, N', .inl (fun _ => 0)))]) H1 → va_D A (ws ++ [(q, .inl (g.1, N', .inl (fun _ => 0)))]) → va_S A H0 H1 locs → W p l e R s m args below meth c H1 locs (cells + 1) (slots + N') Q (F0 m (pc + 2) ls (.ref q :: rest))) : W p l e R s m args below meth c H locs cells slots Q (F0 m pc ls (.int n :: rest)) := by
  subst hn
  refine va_newa (atype := .int) (ty := .int) hexec hb harr rfl hK hP hD hS hA (N' := N') (a0 := (N', .inl (fun _ => 0))) (fun cA => rfl) (nI_pos (by omega)) (nI_clamp (by omega)) (by show N' * 4 ≤ _; omega) hcells hslots hdg (fun q cA H1 hK1 hP1 hD1 hS1 => ?_)
  have e : cA = g.1 := Option.some.inj ((va_nm_int (hK1.2 2 (cA, .int) rfl).2).symm.trans (va_nm_int (hK.2 0 (g.1, .int) rfl).2))
  subst e
  exact kk q H1 hP1 hD1 hS1
theorem am_R_newarr {z k w : Nat} {v : Int32} (hd : decode (mt_b t) pc = .ok (.newarray .int, 2)) (hw : lw_tbl[z]? = some (.arrayClass .int)) (hL : L.1 = 0) (hv : v = nI k) (hk : 0 < k) (hk5 : k ≤ 5000) (hw1 : 1 ≤ w) (hkw : k ≤ 6 * w) (htw : mt_w t = true) (htv : mt_v t = false) (htg : mt_g t = true) (hls : ls.all am_n17 = true) (hst : st.all am_n17 = true)
    (kk : am_R (k, L.2) t n (pc + 2) ls (.ref 17 :: st) (am_set M 17 (fun _ => 0)) Q) : am_R L t (n + w) pc ls (.int v :: st) M Q := by
  intro p l e R s m args below meth c a D g A cells slots QQ hE hC h1 h2 hEnd H locs la hW hLv
  have hx0 : g.2.2 = 0 := (hC.2.2.2.2.2 htw).trans hL
  refine nw_i (g := g) (N' := k) hE.1 hE.2.1 (hE.2.2.2.2.1 _ (am_good_of hw rfl)) hC.1 hW.1 (hC.2.1 M) hW.2.1 hC.2.2.1 hv hk5 (by omega) (by omega) hd (fun q H1 hP1 hD1 hS1 => ?_)
  refine W.widen (k := cells + w) (n := slots + 6 * w) (by omega) (by omega) ?_
  rw [← am_w_17 a g M q k (fun _ => 0) hx0 hk] at hP1 hD1
  have hS17 : st.map (am_tv a) = st.map (am_tv (am_a17 a q)) := (am_tv_17s hst).symm
  have e17 : Value.ref q = am_tv (am_a17 a q) (.ref 17) := rfl
  show W p l e R s m args below meth c H1 locs (cells + w) (slots + 6 * w) QQ (F0 m (pc + 2) la (.ref q :: st.map (am_tv a)))
  rw [hS17, e17, ← List.map_cons]
  have hWl : ∀ (M' : am_M) (H' : Heap) (locs' : List Loc), am_Wl (k, L.2) t (am_a17 a q) D (g.1, g.2.1, k) A s M' H' locs' → am_Wl L t a D g A s M' H' locs' := fun M' H' locs' h => ⟨am_P_17 hx0 hk h.1, h.2.1, fun h9 => by rw [htv] at h9; cases h9⟩
  refine kk p l e R s m args below meth c (am_a17 a q) D (g.1, g.2.1, k) A (cells + w) (slots + 6 * w) QQ hE ⟨hC.1, fun M' => am_D_any hD1 M', hC.2.2.1, hC.2.2.2.1, (fun h => by rw [htv] at h; cases h), fun _ => rfl⟩ (by omega) (by omega) ?_ H1 locs la ⟨hP1, hS1, fun h => by rw [htv] at h; cases h⟩ (am_lv_17 hls hLv)
  have hEnd2 := am_End_shift htg hEnd
  intro k2 hk2 h0
  obtain ⟨e1, e2, e3⟩ := hEnd2 k2 hk2 h0
  refine ⟨?_, ?_, ?_⟩
  · intro v2 M2 H2 locs2 pc2 la2 i2 q1 q2 q3 q4 q5
    have ev : v2.map (am_tv (am_a17 a q)) = v2.map (am_tv a) := by
      match v2, q3 with
      | none, _ => rfl
      | some (.int x), _ => rfl
      | some (.long x), _ => rfl
      | some (.double x), _ => rfl
    rw [ev]
    exact e1 v2 M2 H2 locs2 pc2 la2 i2 q1 (hWl _ _ _ q2) q3 q4 q5
  · intro E M2 H2 locs2 pc2 la2 rest2 q2 ce z1 z2
    exact e2 E M2 H2 locs2 pc2 la2 rest2 q2 ce z1 (hWl _ _ _ z2)
  · intro x M2 H2 locs2 pc2 la2 rest2 ik ii ic z1 z2
    exact e3 x M2 H2 locs2 pc2 la2 rest2 ik ii ic z1 (hWl _ _ _ z2)
end AMX
/-- the number that the law reads at the place k of its script -/
def lw_cell (S : Nat × (Nat → Int32)) (k : Nat) : Int32 := if k < S.1 then S.2 k else nI 668265263 * (nI k + nI 1)
theorem cell_pre_blind (av : List Value) (a : Nat → Nat) (D : va_G) (g : ClassId × ClassId × Nat) (M : am_M) (sz b n : Nat) (xs : Nat → Int32) : FrameBlind (va_Pc av (fun U => am_Pre a D g M sz U ∧ va_X b n xs U U.heap)) := by
  rintro v U g' mk ⟨h0, h1, h2⟩
  exact ⟨h0, (am_blind av a D g M sz v U g' mk ⟨h0, h1⟩).2, va_X.moved (u := U) (U := U.calling g' mk v) (Vm.Alike.refl U.vm) h2⟩
set_option maxHeartbeats 1000000 in
theorem cell_met (l : Launch) (a : Nat → Nat) (D : va_G) (g : ClassId × ClassId × Nat) (M : am_M) (sz k : Nat) (S : Nat × (Nat → Int32)) (K : am_Q) (hb : a 27 < sz) (hbA : ¬ va_A (am_w a g M) sz (a 27)) (hk : k + 1 < 2 ^ 31) (hS : S.1 < 2 ^ 31) (hK : K (.inl (some (.int (lw_cell S k)))) M) :
    vx_Met l (mt_y mt_L_cell) (am_ws mt_L_cell) (am_rm mt_L_cell) (va_Pc ([Value.ref 27, .int (nI k)].map (am_tv a)) (fun U => am_Pre a D g M sz U ∧ va_X (a 27) S.1 S.2 U U.heap)) (am_Qc mt_L_cell a D g (va_A (am_w a g M) sz) K) (am_XC a D g (va_A (am_w a g M) sz) K) 1 6 (va_A (am_w a g M) sz) := by
  refine vx_ofW (cc := mt_b mt_L_cell) (maxL := 2) (ret := some .int) (ws' := am_good) (by decide) rfl ?_
  intro p e s m args below meth c s₁ B hml ht hv
  obtain ⟨rfl, ⟨rfl, hP, hK9, hD0, hSF⟩, hX⟩ := hv
  have hts0 := atoms_spec (ws := am_ws mt_L_cell) B.pre
  have hts : ∀ w ∈ am_good, w.before (([Value.ref 27, .int (nI k)].map (am_tv a))).toArray s = true := fun w h => hts0 w (List.mem_cons_of_mem _ h)
  have hown : s.vm.findClass "DyeVatsLaw" = some m.cls := findClass_of_methodNamed B.named
  have hD := hD0.self (sz := s.heap.size)
  have hS0 : va_S (va_A (am_w a g M) s.heap.size) s.heap s.heap [] := va_S.rf
  have hl : am_lv a 2 [.ref 27, .int (nI k)] ((lg_sl ([Value.ref 27, .int (nI k)].map (am_tv a)) ++ List.replicate (2 - (lg_sl ([Value.ref 27, .int (nI k)].map (am_tv a))).length) Slot.unset).toArray) := am_entry_lv a (av := [.ref 27, .int (nI k)]) (n := 2) (Nat.le_refl 2)
  have hx := B.exec
  have hbc := B.bytes
  rw [lg_entry_eq]
  revert hl
  generalize ((lg_sl ([Value.ref 27, .int (nI k)].map (am_tv a)) ++ List.replicate (2 - (lg_sl ([Value.ref 27, .int (nI k)].map (am_tv a))).length) Slot.unset).toArray) = la
  intro hl
  have fin : ∀ pc : Nat, decode (mt_b mt_L_cell) pc = .ok (.ireturn, 1) → W p l e (headSpec (am_ws mt_L_cell) (am_rm mt_L_cell)).room s m ([Value.ref 27, .int (nI k)].map (am_tv a)).toArray below meth c s.heap [] 0 0 (vx_MQ below (am_Qc mt_L_cell a D g (va_A (am_w a g M) s.heap.size) K) (am_XC a D g (va_A (am_w a g M) s.heap.size) K) ([Value.ref 27, .int (nI k)].map (am_tv a)).toArray s 1 6 (va_A (am_w a g M) s.heap.size)) (F0 m pc la [.int (lw_cell S k)]) := by
    intro pc hd
    refine am_zret hx hbc B.returns rfl (fun u hu _ hfe => ⟨⟨some (.int (lw_cell S k)), M, rfl, hK, by rw [hu]; exact hP⟩, hS0.F hu, fun _ => ⟨[], hfe⟩⟩) (fun q hq => by cases hq) hd B.notSynchronized (by omega) (by omega)
  have e27 : am_tv a (.ref 27) = .ref (a 27) := am_tv_ref (by decide)
  refine am_pu_W (a := a) (st := []) hx hbc hl (i := .iload_n 1) (w := 1) rfl (by decide +kernel) rfl ?_
  refine am_pu_W (a := a) (st := [.int (nI k)]) hx hbc hl (i := .aload_n 0) (w := 1) rfl (by decide +kernel) rfl ?_
  show W p l e _ s m _ below meth c s.heap [] 0 0 _ (F0 m 2 la [am_tv a (.ref 27), .int (nI k)])
  rw [e27]
  refine va_slen hx hbc hX hb hbA hS0 (by decide +kernel) ?_
  refine am_if2_W hx hbc (cd := .ge) (o := 9) (by decide +kernel) (by decide) (fun c2 => ?_) (fun c2 => ?_)
  · have hge : ¬ k < S.1 := by
      intro q
      have h1 : Int32.ofNat S.1 ≤ nI k := c2
      have h2 : nI S.1 ≤ nI k := h1
      rw [Int32.le_iff_toInt_le, nI_toInt hS, nI_toInt (by omega)] at h2
      omega
    refine lv_ldc hx hbc hown (hts _ (am_good_of (k := 314) rfl rfl)) (by decide +kernel) ?_
    refine am_pu_W (a := a) (st := [.int (nI 668265263)]) hx hbc hl (i := .iload_n 1) (w := 1) rfl (by decide +kernel) rfl ?_
    refine am_pu_W (a := a) (st := [.int (nI k), .int (nI 668265263)]) hx hbc hl (i := .iconst 1) (w := 1) rfl (by decide +kernel) rfl ?_
    refine am_pu_W (a := a) (st := [.int (nI 1), .int (nI k), .int (nI 668265263)]) hx hbc hl (i := .iadd) (w := 1) rfl (by decide +kernel) rfl ?_
    refine am_pu_W (a := a) (st := [.int (nI k + nI 1), .int (nI 668265263)]) hx hbc hl (i := .imul) (w := 1) rfl (by decide +kernel) rfl ?_
    have h := fin 18 (by decide +kernel)
    rw [show lw_cell S k = nI 668265263 * (nI k + nI 1) by unfold lw_cell; rw [if_neg hge]] at h
    exact h
  · have hlt : k < S.1 := by
      have h1 : ¬ Int32.ofNat S.1 ≤ nI k := c2
      have h2 : ¬ nI S.1 ≤ nI k := h1
      rw [Int32.le_iff_toInt_le, nI_toInt hS, nI_toInt (by omega)] at h2
      omega
    refine am_pu_W (a := a) (st := []) hx hbc hl (i := .aload_n 0) (w := 1) rfl (by decide +kernel) rfl ?_
    refine am_pu_W (a := a) (st := [.ref 27]) hx hbc hl (i := .iload_n 1) (w := 1) rfl (by decide +kernel) rfl ?_
    show W p l e _ s m _ below meth c s.heap [] 0 0 _ (F0 m 8 la [.int (nI k), am_tv a (.ref 27)])
    rw [e27]
    refine va_sld hx hbc hX hb hbA hS0 (vp_in_nI hlt hS) (by decide +kernel) ?_
    rw [nI_clamp (by omega)]
    refine lv_goto hx hbc (off := 9) (show decode (mt_b mt_L_cell) 9 = .ok (.goto 9, 3) by decide +kernel) (show ((9 : Nat) : Int) + 9 = ((18 : Nat) : Int) by decide) ?_
    have h := fin 18 (by decide +kernel)
    rw [show lw_cell S k = S.2 k by unfold lw_cell; rw [if_pos hlt]] at h
    exact h
theorem am_R_cell {L : am_S} {t : am_MT} {n pc : Nat} {ls r : List Value} {M : am_M} {Q : am_Q} {idx z z2 k : Nat} (htv : mt_v t = true) (hn : 1 ≤ n) (hd : decode (mt_b t) pc = .ok (.invokestatic idx, 3)) (hl : lw_tbl[z]? = some (.methodLink (mt_y t).cls idx (mt_y mt_L_cell))) (hs : lw_tbl[z2]? = some (.static (mt_y mt_L_cell))) (hcc : am_ckc t mt_L_cell pc 2 = true) (hcat : am_cat r ≤ 8) (hk : k + 1 < 2 ^ 31) (hS : L.2.1 < 2 ^ 31)
    (kk : am_R L t n (pc + 3) ls (.int (lw_cell L.2 k) :: r) M Q) : am_R L t n pc ls (.int (nI k) :: .ref 27 :: r) M Q := by
  obtain ⟨g1, g2, g3, g4, g5⟩ := am_ckc_spec hcc
  intro p l e R s m args below meth c a D g A cells slots QQ hE hC h1 h2 hEnd H locs la hW hL
  obtain ⟨hx, hb, hml, hown, hts, hlk, hst9, htab, hret, hrfR, hrlR⟩ := id hE
  have hk9 : am_okM mt_L_cell := om_L_cell
  have hGI := am_ws_gi hk9
  have hX := hW.2.2 htv
  obtain ⟨hb27, hbA⟩ := hC.2.2.2.2.1 htv
  have hH : a 27 < H.size := Nat.lt_of_lt_of_le hb27 hW.2.1.1
  have hbA2 : ¬ va_A (am_w a g M) H.size (a 27) := by
    intro h
    rcases h with ⟨j, e9, hj⟩ | h
    · exact hbA ((hC.2.1 M).2 j _ hj)
    · omega
  have hM := cell_met l a D g M H.size k L.2 (am_KK L t mt_L_cell n pc ls r Q) hH hbA2 hk hS kk
  have hp : PreS s H (va_Pc ([Value.ref 27, .int (nI k)].map (am_tv a)) (fun U => am_Pre a D g M H.size U ∧ va_X (a 27) L.2.1 L.2.2 U U.heap)) ([Value.ref 27, .int (nI k)].map (am_tv a)) := ⟨cell_pre_blind _ _ _ _ _ _ _ _ _, fun U hU hWm => ⟨rfl, am_pre_at hC hW U hU hWm, by
    rw [hU]
    exact (va_X.moved hWm.alike hX).kept (hW.2.1.2.1 _ hb27 hbA)⟩⟩
  have hWs : 2 * (F0 m pc la ((.int (nI k) :: .ref 27 :: r : List Value).map (am_tv a))).monitorRoom + ((r.map (am_tv a)).map fun v => v.category).sum ≤ 8 := lv_room (by rw [am_cat_map]; exact hcat)
  have hrfR' : mt_rf mt_L_cell + 1 ≤ R.frames := Nat.le_trans g2 hrfR
  have hrlR' : 8 + (mt_l mt_L_cell + 11) + mt_rl mt_L_cell ≤ R.locals := Nat.le_trans g3 hrlR
  refine am_call_end hE hC hn (Nat.le_refl 1) (Or.inl rfl) h1 h2 hEnd hW hL g4 g5 ?_ (aa := ([Value.ref 27, .int (nI k)].map (am_tv a)).toArray) (r := r) (u := mt_L_cell)
  exact vx_runS (cc := mt_b t) (nL := mt_l t) (n := 2) (Ts := am_good) (own := (mt_y t).cls) (index := idx) ⟨hx, hb, hml, hown, hts⟩ hM
    ⟨callB_of (bytes := mt_b mt_L_cell) (maxL := mt_l mt_L_cell) (ret := mt_r mt_L_cell) 2 hts hGI rfl rfl rfl (hts _ hk9.2.1) (hts _ (am_good_of hl rfl)) ⟨hk9.2.2.1, hk9.2.2.2.1, g1⟩ ⟨hrfR', hrlR'⟩, hts _ (am_good_of hs rfl)⟩ hp rfl rfl hL.1 rfl hWs hd ⟨by show cells + 1 ≤ R.cells; omega, by show slots + 6 * 1 ≤ R.slots; omega⟩
