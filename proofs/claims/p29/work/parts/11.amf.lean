/-! rules of am_R: returns, throws, calls -/
section AMF
variable {L : am_S} {t : am_MT} {n pc : Nat} {ls st : List Value} {M : am_M} {Q : am_Q}
theorem am_R_ret {v : Option Value} {i : Instr} (hd : decode (mt_b t) pc = .ok (i, 1)) (hri : am_ri t v i) (hq : Q (.inl v) M) : am_R L t n pc ls v.toList M Q := by
  intro p l e R s m args below meth c a D g A cells slots QQ hE hC h1 h2 hEnd H locs la hW hL
  have h := (hEnd 0 (Nat.zero_le _) (fun _ => rfl)).1 v M H locs pc la i hq hW hri hd hL.1
  have e : (v.toList.map (am_tv a)) = (v.map (am_tv a)).toList := by cases v <;> rfl
  rw [e]
  exact h
theorem am_R_new {x ii : Nat} (hn : n ≠ 0) (hx : x < 3) (hh : mt_h t = []) (hRX : (mt_y t).cls = RX3) (h6 : 6 ≤ mt_rf t) (h90 : 90 ≤ mt_rl t) (htx : ∃ tx, (ii, tx) ∈ am_tx)
    (d0 : decode (mt_b t) pc = .ok (.new (am_kx x), 3)) (d3 : decode (mt_b t) (pc + 3) = .ok (.dup, 1)) (d4 : decode (mt_b t) (pc + 4) = .ok (.ldc ii, 2)) (d6 : decode (mt_b t) (pc + 6) = .ok (.invokespecial (am_ix x), 3)) (d9 : decode (mt_b t) (pc + 9) = .ok (.athrow, 1))
    (hq : Q (.inr (am_ex x)) M) : am_R L t n pc ls [] M Q := by
  intro p l e R s m args below meth c a D g A cells slots QQ hE hC h1 h2 hEnd H locs la hW hL
  exact (hEnd 0 (Nat.zero_le _) (fun _ => rfl)).2.2 x M H locs pc la [] (am_kx x) ii (am_ix x) hq hW hh hx (by omega) hL.1 (Nat.zero_le _) hRX h6 h90 (by unfold am_kx; rfl) (by unfold am_ix; rfl) htx d0 d3 d4 d6 d9
theorem am_R_min {idx z : Nat} {v1 v2 : Int32} {w : Jvm.Cond → Prop} (hd : decode (mt_b t) pc = .ok (.invokestatic idx, 3)) (hw : lw_tbl[z]? = some (.methodLink (mt_y t).cls idx Lib.Math.min.name)) (hw2 : Jvm.Cond.static Lib.Math.min.name ∈ am_good ∧ Jvm.Cond.initialized "java/lang/Math" ∈ am_good ∧ Jvm.Cond.code Lib.Math.min.name Lib.Math.min.code 2 (some .int) ∈ am_good) (h1' : 1 ≤ mt_rf t) (h2' : 21 ≤ mt_rl t) (hcat : am_cat st ≤ 8)
    (k : am_R L t n (pc + 3) ls (.int (if v2 < v1 then v2 else v1) :: st) M Q) : am_R L t n pc ls (.int v2 :: .int v1 :: st) M Q := by
  intro p l e R s m args below meth c a D g A cells slots QQ hE hC h1 h2 hEnd H locs la hW hL
  obtain ⟨hx, hb, hml, hown, hts, hlk, hst, htab, hret, hrf, hrl⟩ := id hE
  exact va_mmin hx hb (by rw [hL.1]; exact hml) hown (hts _ (am_good_of hw rfl)) (hts _ hw2.1) (hts _ hw2.2.1) (hts _ hw2.2.2) (by omega) (by rw [am_cat_map]; omega) (by omega) (by omega) hd
    (k p l e R s m args below meth c a D g A cells slots QQ hE hC h1 h2 hEnd H locs la hW hL)
theorem am_R_max {idx z : Nat} {v1 v2 : Int32} (hd : decode (mt_b t) pc = .ok (.invokestatic idx, 3)) (hw : lw_tbl[z]? = some (.methodLink (mt_y t).cls idx Lib.Math.max.name)) (hw2 : Jvm.Cond.static Lib.Math.max.name ∈ am_good ∧ Jvm.Cond.initialized "java/lang/Math" ∈ am_good ∧ Jvm.Cond.code Lib.Math.max.name Lib.Math.max.code 2 (some .int) ∈ am_good) (h1' : 1 ≤ mt_rf t) (h2' : 21 ≤ mt_rl t) (hcat : am_cat st ≤ 8)
    (k : am_R L t n (pc + 3) ls (.int (if v1 < v2 then v2 else v1) :: st) M Q) : am_R L t n pc ls (.int v2 :: .int v1 :: st) M Q := by
  intro p l e R s m args below meth c a D g A cells slots QQ hE hC h1 h2 hEnd H locs la hW hL
  obtain ⟨hx, hb, hml, hown, hts, hlk, hst, htab, hret, hrf, hrl⟩ := id hE
  exact va_mmax hx hb (by rw [hL.1]; exact hml) hown (hts _ (am_good_of hw rfl)) (hts _ hw2.1) (hts _ hw2.2.1) (hts _ hw2.2.2) (by omega) (by rw [am_cat_map]; omega) (by omega) (by omega) hd
    (k p l e R s m args below meth c a D g A cells slots QQ hE hC h1 h2 hEnd H locs la hW hL)
theorem am_R_copy {idx z o d sk dk nk : Nat} {sp dp nn : Int32} (hd : decode (mt_b t) pc = .ok (.invokestatic idx, 3)) (hw : lw_tbl[z]? = some (.methodLink (mt_y t).cls idx arraycopyName)) (hw2 : Jvm.Cond.native arraycopyName ∈ am_good ∧ Jvm.Cond.static arraycopyName ∈ am_good ∧ Jvm.Cond.initialized "java/lang/System" ∈ am_good) (h1' : 1 ≤ mt_rf t) (h2' : 40 ≤ mt_rl t) (hcat : am_cat st ≤ 8)
    (ho : am_kd o = 0) (hdd : am_kd d = 0) (e1 : sp = nI sk) (e2 : dp = nI dk) (e3 : nn = nI nk) (b1 : sk + nk ≤ am_len L.1 o) (b2 : dk + nk ≤ am_len L.1 d)
    (k : am_R L t n (pc + 3) ls st (am_set M d (va_cpy (M o) (M d) sk dk nk)) Q) : am_R L t n pc ls (.int nn :: .int dp :: .ref d :: .int sp :: .ref o :: st) M Q := by
  intro p l e R s m args below meth c a D g A cells slots QQ hE hC h1 h2 hEnd H locs la hW hL
  obtain ⟨hx, hb, hml, hown, hts, hlk, hst, htab, hret, hrf, hrl⟩ := id hE
  subst e1; subst e2; subst e3
  have h27 := am_kd_lt (o := o) (by omega)
  have h27d := am_kd_lt (o := d) (by omega)
  have hne : o ≠ 17 := by omega
  have hned : d ≠ 17 := by omega
  have hlt := am_len_lt (L := L.1) hne
  have hltd := am_len_lt (L := L.1) hned
  have hg := am_w_get a g M (am_nc_lo (x := g.2.2) h27)
  rw [am_e0 ho, am_len_ne (L := L.1) hne] at hg
  have hgd := am_w_get a g M (am_nc_lo (x := g.2.2) h27d)
  rw [am_e0 hdd, am_len_ne (L := L.1) hned] at hgd
  show W p l e R s m args below meth c H locs cells slots QQ (F0 m pc la (.int (nI nk) :: .int (nI dk) :: am_tv a (.ref d) :: .int (nI sk) :: am_tv a (.ref o) :: st.map (am_tv a)))
  rw [am_tv_ref (by omega), am_tv_ref (by omega)]
  have z1 := nI_clamp (n := sk) (by omega)
  have z2 := nI_clamp (n := dk) (by omega)
  have z3 := nI_clamp (n := nk) (by omega)
  refine va_copyi hx hb (by rw [hL.1]; exact hml) hown (hts _ (am_good_of hw rfl)) (hts _ hw2.1) (hts _ hw2.2.1) (hts _ hw2.2.2) hC.1 hW.1 (hC.2.1 M) hW.2.1 o d 0 0 hg hgd rfl rfl rfl (nI_pos (by omega)) (nI_pos (by omega)) (nI_pos (by omega)) (by rw [z1, z3]; exact b1) (by rw [z2, z3]; exact b2) (fun _ _ => rfl) (by omega) ?_ hd (fun H1 locs1 hP hD hS => ?_)
  · rw [am_cat_map]
    show am_cat st + (7 + 11) ≤ R.locals
    omega
  · rw [z1, z2, z3, am_w_set (M' := am_set M d (va_cpy (M o) (M d) sk dk nk)) (am_nc_lo (x := g.2.2) h27d) (fun q hq => am_set_ne hq) (by rw [am_e0 hdd, am_set_eq, am_len_ne (L := L.1) hned])] at hP
    exact k p l e R s m args below meth c a D g A cells slots QQ hE hC h1 h2 hEnd H1 locs1 la ⟨hP, hS, hW.2.2⟩ hL
/-- what a call hands on -/
def am_KK (L : am_S) (t u : am_MT) (n pc : Nat) (ls r : List Value) (Q : am_Q) : am_Q := fun oc M' => match oc with
  | .inl v => am_R L t (if mt_g u then n - mt_c u else n) (pc + 3) ls (v.toList ++ r) M' Q
  | .inr E => (mt_h t = [] ∧ Q (.inr E) M') ∨ (∃ hp, am_hd E (mt_h t) = some hp ∧ ∀ q : Nat, am_R L t (n - mt_c u) hp ls [.ref (29 + q)] M' Q)
theorem am_call_end {u : am_MT} {r : List Value} {p : Program} {l : Launch} {e : Env} {R : Room} {s : State} {m : MethodId} {args : Array Value} {below : List Frame} {meth : Method} {c : Code} {a : Nat → Nat} {D : va_G} {g : ClassId × ClassId × Nat} {A : Nat → Prop} {cells slots : Nat} {QQ : State → Prop} {H : Heap} {locs : List Loc} {la : Array Slot} {st0 : List Value} {aa : Array Value}
    (hE : am_Env p l R s m args meth c t) (hC : am_Ct L t a D g A s) (hcn : mt_c u ≤ n) (hc1 : 1 ≤ mt_c u) (hx0 : mt_c u = 1 ∨ mt_g t = true) (h1 : cells + n ≤ R.cells) (h2 : slots + 6 * n ≤ R.slots) (hEnd : am_End p l e R s m args below meth c L t a D g A cells slots n QQ Q) (hW : am_Wl L t a D g A s M H locs) (hL : am_lv a (mt_l t) ls la)
    (hg : mt_g u = true → mt_g t = true) (hht : mt_h t ≠ [] → mt_g t = true ∧ (mt_y t).cls = "DyeVatsLaw" ∧ am_cov pc (mt_h t) = true)
    (hr : vx_Run p l e R s m args below meth c H locs cells slots (mt_c u) (6 * mt_c u) (F0 m pc la st0) (r.map (am_tv a)) (am_Qc u a D g (va_A (am_w a g M) H.size) (am_KK L t u n pc ls r Q) aa) (am_XC a D g (va_A (am_w a g M) H.size) (am_KK L t u n pc ls r Q)) (va_A (am_w a g M) H.size)) :
    W p l e R s m args below meth c H locs cells slots QQ (F0 m pc la st0) := by
  refine am_run_W hC hW hr ?_ ?_
  · intro v M' H1 locs1 hK hW1
    have e1 : (v.map (am_tv a)).toList ++ r.map (am_tv a) = (v.toList ++ r).map (am_tv a) := by cases v <;> simp
    rw [e1]
    have hK' : am_R L t (if mt_g u then n - mt_c u else n) (pc + 3) ls (v.toList ++ r) M' Q := hK
    cases hgu : mt_g u with
    | true =>
      rw [hgu] at hK'
      exact hK' p l e R s m args below meth c a D g A (cells + mt_c u) (slots + 6 * mt_c u) QQ hE hC (by simp only [if_true]; omega) (by simp only [if_true]; omega) (am_End_shift (n := n - mt_c u) (w := mt_c u) (hg hgu) (by rw [Nat.sub_add_cancel hcn]; exact hEnd)) H1 locs1 la hW1 hL
    | false =>
      rw [hgu] at hK'
      exact hK' p l e R s m args below meth c a D g A cells slots QQ hE hC h1 h2 hEnd H1 locs1 la hW1 hL
  · intro E M' H1 locs1 q ce hK hW1 hce hcv hcl
    rcases hK with ⟨hh, hQ⟩ | ⟨hp, hhp, hR⟩
    · have hz := (hEnd (mt_c u - 1) (by omega) (fun hf => by
        rcases hx0 with e | e
        · omega
        · rw [e] at hf; cases hf)).2.1 E M' H1 locs1 pc la (r.map (am_tv a)) q ce hQ hW1 hce hcv hcl hh (by omega)
      have e1 : cells + (mt_c u - 1) + 1 = cells + mt_c u := by omega
      have e2 : slots + 6 * (mt_c u - 1) + 6 = slots + 6 * mt_c u := by omega
      rw [e1, e2] at hz
      exact hz
    · have hne : mt_h t ≠ [] := fun z => by rw [z] at hhp; cases hhp
      obtain ⟨z1, z2, z3⟩ := hht hne
      have k := hR q p l e R s m args below meth c a D g A (cells + mt_c u) (slots + 6 * mt_c u) QQ hE hC (by omega) (by omega) (am_End_shift (n := n - mt_c u) (w := mt_c u) z1 (by rw [Nat.sub_add_cancel hcn]; exact hEnd)) H1 locs1 la hW1 hL
      have e2 : ([Value.ref (29 + q)].map (am_tv a)) = [.ref q] := by simp [am_tv, show ¬ (29 + q < 29) from Nat.not_lt.mpr (Nat.le_add_right 29 q)]
      rw [e2] at k
      exact am_catch_W (by rw [← z2]; exact hE.2.2.2.1) hE.2.2.2.2.1 hE.2.2.2.2.2.2.2.1 z3 hhp hC.2.2.2.1.2.2.2.1 hC.2.2.2.1.2.2.2.2.1 hce hcv hcl k
theorem am_pre_at {a : Nat → Nat} {D : va_G} {g : ClassId × ClassId × Nat} {A : Nat → Prop} {s : State} {H : Heap} {locs : List Loc} (hC : am_Ct L t a D g A s) (hW : am_Wl L t a D g A s M H locs) : ∀ U : State, U.heap = H → s.WarmedH U.vm → am_Pre a D g M H.size U := by
  intro U hU hWm
  refine ⟨by rw [hU], by rw [hU]; exact hW.1, va_K.moved hWm.alike hC.1, (hC.2.1 M).weaken (fun _ _ _ _ => trivial), ?_⟩
  rw [hU]
  refine am_SF_warm hWm hW.2.1.2.1 ?_ hC.2.2.2.1
  intro z hz
  rcases hz with ⟨k, e, hk⟩ | hz
  · exact (hC.2.1 M).2 k _ hk
  · exact hC.2.2.1 z (Nat.le_trans hW.2.1.1 hz)
theorem am_R_callS {u : am_MT} {idx z z2 : Nat} {r av p0 : List Value} (hcn : mt_c u ≤ n) (hc1 : 1 ≤ mt_c u) (hx0 : mt_c u = 1 ∨ mt_g t = true) (hwx : mt_w u = true → mt_w t = true ∧ L.1 = mt_x u) (hk : am_okM u) (hd : decode (mt_b t) pc = .ok (.invokestatic idx, 3)) (hl : lw_tbl[z]? = some (.methodLink (mt_y t).cls idx (mt_y u))) (hs : lw_tbl[z2]? = some (.static (mt_y u))) (hy : (parseMethodDescriptor (mt_y u).desc).map (fun d => d.parameters.length) = some av.length)
    (hrf : mt_rf u + 1 ≤ mt_rf t) (hrl : 8 + (mt_l u + 11) + mt_rl u ≤ mt_rl t) (hg : mt_g u = true → mt_g t = true) (hht : mt_h t ≠ [] → mt_g t = true ∧ (mt_y t).cls = "DyeVatsLaw" ∧ am_cov pc (mt_h t) = true) (hst : st = p0 ++ r) (hav : av = p0.reverse) (hcat : am_cat r ≤ 8)
    (C : am_C u av M (am_KK L t u n pc ls r Q)) : am_R L t n pc ls st M Q := by
  intro p l e R s m args below meth c a D g A cells slots QQ hE hC h1 h2 hEnd H locs la hW hL
  obtain ⟨hx, hb, hml, hown, hts, hlk, hst9, htab, hret, hrfR, hrlR⟩ := id hE
  have hGI := am_ws_gi hk
  have hM := C l a D g H.size hst9 (fun h => (hC.2.2.2.2.2 (hwx h).1).trans (hwx h).2)
  have hp : PreS s H (va_Pc (av.map (am_tv a)) (am_Pre a D g M H.size)) (av.map (am_tv a)) := ⟨am_blind _ _ _ _ _ _, fun U hU hWm => ⟨rfl, am_pre_at hC hW U hU hWm⟩⟩
  have hstk : (F0 m pc la (st.map (am_tv a))).stack = (av.map (am_tv a)).reverse ++ r.map (am_tv a) := by
    show st.map (am_tv a) = _
    rw [hst, hav]
    simp
  have hWs : 2 * (F0 m pc la (st.map (am_tv a))).monitorRoom + ((r.map (am_tv a)).map fun v => v.category).sum ≤ 8 := lv_room (by rw [am_cat_map]; exact hcat)
  have hrfR' : mt_rf u + 1 ≤ R.frames := Nat.le_trans hrf hrfR
  have hrlR' : 8 + (mt_l u + 11) + mt_rl u ≤ R.locals := Nat.le_trans hrl hrlR
  refine am_call_end hE hC hcn hc1 hx0 h1 h2 hEnd hW hL hg hht ?_ (aa := (av.map (am_tv a)).toArray) (r := r) (u := u)
  cases hh : mt_h u with
  | nil =>
    have hcw : am_ws u = Jvm.Cond.code (mt_y u) (mt_b u) (mt_l u) (mt_r u) :: am_good := by simp [am_ws, hh]
    exact vx_runS (cc := mt_b t) (nL := mt_l t) (n := av.length) (Ts := am_good) (own := (mt_y t).cls) (index := idx) ⟨hx, hb, hml, hown, hts⟩ hM
      ⟨callB_of (bytes := mt_b u) (maxL := mt_l u) (ret := mt_r u) av.length hts hGI hcw rfl rfl (hts _ hk.2.1) (hts _ (am_good_of hl rfl)) ⟨hk.2.2.1, hk.2.2.2.1, hy⟩ ⟨hrfR', hrlR'⟩, hts _ (am_good_of hs rfl)⟩ hp rfl (by simp) hL.1 hstk hWs hd ⟨by show cells + mt_c u ≤ R.cells; omega, by show slots + 6 * mt_c u ≤ R.slots; omega⟩
  | cons x xs =>
    have hcw : am_ws u = Jvm.Cond.codeWith (mt_y u) (mt_b u) (mt_l u) (mt_r u) (x :: xs) :: am_good := by simp [am_ws, hh]
    have hT : GoodIn am_good (va_wsS (mt_y t).cls idx (mt_y u) (am_ws u)) := by
      intro w hw
      simp only [va_wsS, List.cons_append, List.nil_append, List.mem_cons] at hw
      rcases hw with rfl | rfl | rfl | hw
      · exact am_good_gi _ (am_good_of hl rfl)
      · exact am_good_gi _ (am_good_of hs rfl)
      · exact am_good_gi _ hk.2.1
      · exact hGI _ hw
    exact vx_runSX (cc := mt_b t) (nL := mt_l t) (n := av.length) (Ts := am_good) (own := (mt_y t).cls) (index := idx) ⟨hx, hb, hml, hown, hts⟩ hM
      (vx_cwSW (bytes := mt_b u) (maxL := mt_l u) (ret := mt_r u) (hh := x :: xs) av.length hts hT hcw rfl rfl ⟨hk.2.2.1, hk.2.2.2.1, hy⟩ ⟨hrfR', hrlR'⟩) hp rfl (by simp) hL.1 hstk hWs hd ⟨by show cells + mt_c u ≤ R.cells; omega, by show slots + 6 * mt_c u ≤ R.slots; omega⟩
theorem am_R_callV {u : am_MT} {idx z z2 z3 o ci : Nat} {r av p0 : List Value} (hcn : mt_c u ≤ n) (hc1 : mt_c u = 1) (hwx : mt_w u = true → mt_w t = true ∧ L.1 = mt_x u) (hk : am_okM u) (hd : decode (mt_b t) pc = .ok (.invokevirtual idx, 3)) (hl : lw_tbl[z]? = some (.methodLink (mt_y t).cls idx (mt_y u))) (hi : lw_tbl[z2]? = some (.instanceMethod (mt_y u))) (hse : lw_tbl[z3]? = some (.selects (mt_y u).cls (mt_y u) (mt_y u))) (hy : (parseMethodDescriptor (mt_y u).desc).map (fun d => d.parameters.length) = some av.length)
    (hci : am_ci o = ci) (hci5 : ci < 4) (hcls : (mt_y u).cls = am_Rn ci) (hhu : mt_h u = [])
    (hrf : mt_rf u + 1 ≤ mt_rf t) (hrl : 8 + (mt_l u + 11) + mt_rl u ≤ mt_rl t) (hg : mt_g u = true → mt_g t = true) (hht : mt_h t ≠ [] → mt_g t = true ∧ (mt_y t).cls = "DyeVatsLaw" ∧ am_cov pc (mt_h t) = true) (hst : st = p0 ++ r) (hav : .ref o :: av = p0.reverse) (hcat : am_cat r ≤ 8)
    (C : am_C u (.ref o :: av) M (am_KK L t u n pc ls r Q)) : am_R L t n pc ls st M Q := by
  intro p l e R s m args below meth c a D g A cells slots QQ hE hC h1 h2 hEnd H locs la hW hL
  obtain ⟨hx, hb, hml, hown, hts, hlk, hst9, htab, hret, hrfR, hrlR⟩ := id hE
  have hGI := am_ws_gi hk
  have hM := C l a D g H.size hst9 (fun h => (hC.2.2.2.2.2 (hwx h).1).trans (hwx h).2)
  obtain ⟨h27, h9⟩ := am_ci_lt (o := o) (by omega)
  have hget := am_w_get a g M (am_nc_lo (x := g.2.2) h27)
  rw [am_e9 h9, hci] at hget
  have hrecv := va_recv hC.1 hW.1 (am_cls_get hci5) hget
  rw [← hcls] at hrecv
  have hm : (Value.ref o :: av).map (am_tv a) = .ref (a o) :: av.map (am_tv a) := by
    rw [List.map_cons, am_tv_ref (by omega)]
  rw [hm] at hM
  have hp : PreV s H (mt_y u).cls (a o) (va_Pc (.ref (a o) :: av.map (am_tv a)) (am_Pre a D g M H.size)) (av.map (am_tv a)) := ⟨am_blind _ _ _ _ _ _, hrecv, fun U hU hWm => ⟨rfl, am_pre_at hC hW U hU hWm⟩⟩
  have hstk : (F0 m pc la (st.map (am_tv a))).stack = (av.map (am_tv a)).reverse ++ .ref (a o) :: r.map (am_tv a) := by
    show st.map (am_tv a) = _
    have hp0 : p0 = av.reverse ++ [.ref o] := by
      have := congrArg List.reverse hav
      rw [List.reverse_reverse] at this
      rw [← this]
      simp
    rw [hst, hp0]
    simp [am_tv_ref (a := a) (show o < 29 by omega)]
  have hWs : 2 * (F0 m pc la (st.map (am_tv a))).monitorRoom + ((r.map (am_tv a)).map fun v => v.category).sum ≤ 8 := lv_room (by rw [am_cat_map]; exact hcat)
  have hrfR' : mt_rf u + 1 ≤ R.frames := Nat.le_trans hrf hrfR
  have hrlR' : 8 + (mt_l u + 11) + mt_rl u ≤ R.locals := Nat.le_trans hrl hrlR
  refine am_call_end hE hC hcn (by omega) (Or.inl hc1) h1 h2 hEnd hW hL hg hht ?_ (aa := (Value.ref (a o) :: av.map (am_tv a)).toArray) (r := r) (u := u)
  have hcw : am_ws u = Jvm.Cond.code (mt_y u) (mt_b u) (mt_l u) (mt_r u) :: am_good := by simp [am_ws, hhu]
  exact vx_runV (cc := mt_b t) (nL := mt_l t) (n := av.length) (Ts := am_good) (own := (mt_y t).cls) (index := idx) (C := (mt_y u).cls) ⟨hx, hb, hml, hown, hts⟩ hM
    ⟨callB_of (bytes := mt_b u) (maxL := mt_l u) (ret := mt_r u) av.length hts hGI hcw rfl rfl (hts _ hk.2.1) (hts _ (am_good_of hl rfl)) ⟨hk.2.2.1, hk.2.2.2.1, hy⟩ ⟨hrfR', hrlR'⟩, hts _ (am_good_of hi rfl), hts _ (am_good_of hse rfl)⟩ hp rfl (by simp) hL.1 hstk hWs hd ⟨by show cells + mt_c u ≤ R.cells; omega, by show slots + 6 * mt_c u ≤ R.slots; omega⟩
end AMF
