/-! the reference's constructor -/
def ci_yW : MethodName := ⟨"DyeVatsModel", "setVat", "(III)V"⟩
abbrev ci_bW : ByteArray := prog_6_method_6_code
theorem ci_dW0 : decode ci_bW 0 = .ok (.aload_n 0, 1) := by decide +kernel
theorem ci_dW1 : decode ci_bW 1 = .ok (.getfield 7, 3) := by decide +kernel
theorem ci_dW4 : decode ci_bW 4 = .ok (.bipush 17, 2) := by decide +kernel
theorem ci_dW6 : decode ci_bW 6 = .ok (.bipush 8, 2) := by decide +kernel
theorem ci_dW8 : decode ci_bW 8 = .ok (.iload_n 1, 1) := by decide +kernel
theorem ci_dW9 : decode ci_bW 9 = .ok (.imul, 1) := by decide +kernel
theorem ci_dW10 : decode ci_bW 10 = .ok (.iadd, 1) := by decide +kernel
theorem ci_dW11 : decode ci_bW 11 = .ok (.iload_n 2, 1) := by decide +kernel
theorem ci_dW12 : decode ci_bW 12 = .ok (.iadd, 1) := by decide +kernel
theorem ci_dW13 : decode ci_bW 13 = .ok (.iload_n 3, 1) := by decide +kernel
theorem ci_dW14 : decode ci_bW 14 = .ok (.iastore, 1) := by decide +kernel
theorem ci_dW15 : decode ci_bW 15 = .ok (.return_, 1) := by decide +kernel
set_option maxRecDepth 200000 in
theorem ci_vat (l : Launch) (D : va_G) (g : ClassId × ClassId × ClassId) (h0 q1 sz : Nat) (fs : List Value) (f : Nat → Int32) (v w : Nat) (x : Int32) (hi : 17 + 8 * v + w < 105) (hf : fs[1]? = some (.ref q1)) : Met l ci_yW (ch_ws ci_yW ci_bW 4 none) ({ frames := 0, cells := 0, slots := 0, locals := 0 }) (va_Pc [.ref h0, .int (nI v), .int (nI w), .int x] (ci_Pre D g [(h0, .inr (4, fs)), (q1, .inl (g.1, 105, .inl f))] sz)) (va_Qv (fun (_ : Unit) => True) (fun _ t => va_P D am_cls [(h0, .inr (4, fs)), (q1, .inl (g.1, 105, .inl (upd f (17 + 8 * v + w) x)))] t.heap ∧ va_K D am_cls (am_tys g) t ∧ va_D (va_A [(h0, .inr (4, fs)), (q1, .inl (g.1, 105, .inl f))] sz) [(h0, .inr (4, fs)), (q1, .inl (g.1, 105, .inl (upd f (17 + 8 * v + w) x)))]) (va_A [(h0, .inr (4, fs)), (q1, .inl (g.1, 105, .inl f))] sz)) 0 0 (va_A [(h0, .inr (4, fs)), (q1, .inl (g.1, 105, .inl f))] sz) := by
  refine Met.ofW (cc := ci_bW) (maxL := 4) (ret := none) (by decide) rfl ?_
  intro p e s m args below meth c s₁ B hml hv
  obtain ⟨rfl, hsz, hP, hK, hD0, hN⟩ := hv
  have hx := B.exec
  have hb := B.bytes
  have hr := B.returns
  have hts := atoms_spec (ws := ch_ws ci_yW ci_bW 4 none) B.pre
  have hown : s.vm.findClass "DyeVatsModel" = some m.cls := findClass_of_methodNamed B.named
  have hlocks := B.notSynchronized
  have hg : ∀ w' ∈ am_good, w'.before ([.ref h0, .int (nI v), .int (nI w), .int x] : List Value).toArray s = true := fun w' h => hts w' (List.mem_cons_of_mem _ h)
  subst hsz
  have hD := hD0.self (sz := s.heap.size)
  generalize hAe : va_A [(h0, .inr (4, fs)), (q1, .inl (g.1, 105, .inl f))] s.heap.size = A at hD ⊢
  have hS : va_S A s.heap s.heap [] := va_S.rf
  have hl := lv_entry ([.ref h0, .int (nI v), .int (nI w), .int x]) (n := 4) (Nat.le_of_ble_eq_true rfl)
  rw [lg_entry_eq]
  generalize (lg_sl ([.ref h0, .int (nI v), .int (nI w), .int x]) ++ List.replicate (4 - (lg_sl ([.ref h0, .int (nI v), .int (nI w), .int x])).length) Slot.unset).toArray = ls at hl ⊢
  have hl : lv_has ls 4 [(0, .ref h0), (1, .int (nI v)), (2, .int (nI w)), (3, .int x)] := hl
  refine lv_aload_n hx hb ci_dW0 rfl (lv_at hl 0 rfl) ?_
  refine va_get (D := D) (ci := 4) (v := .ref q1) (C := am_Rn 4) (T := am_T 4) (N := am_nf 4) hx hb hg (am_hin (x := 4) (by decide)) hown hK hP 0 rfl rfl 1 (by decide) (hg _ (am_good_of (k := 728) rfl rfl)) (fun _ h9 => h9) hf ci_dW1 ?_
  refine lv_bipush (v := nI 17) hx hb ci_dW4 (by decide +kernel) ?_
  refine lv_bipush (v := nI 8) hx hb ci_dW6 (by decide +kernel) ?_
  refine lv_iload_n hx hb ci_dW8 rfl (lv_at hl 1 rfl) ?_
  refine lv_imul hx hb ci_dW9 ?_
  refine lv_iadd hx hb ci_dW10 ?_
  refine lv_iload_n hx hb ci_dW11 rfl (lv_at hl 2 rfl) ?_
  refine lv_iadd hx hb ci_dW12 ?_
  rw [ix4]
  refine lv_iload_n hx hb ci_dW13 rfl (lv_at hl 3 rfl) ?_
  refine va_iast hx hb hK hP hD hS 1 0 rfl rfl (vp_in_nI hi (by omega)) ci_dW14 (fun H locs hP hD hS => ?_)
  rw [nI_clamp (by omega)] at hP hD
  exact W.vret hx hb hr (fun t ht hW => ⟨⟨(), rfl, trivial, by rw [ht]; exact hP, va_K.moved hW.alike hK, hD⟩, hS.F ht⟩) hS.2.2 ci_dW15
theorem ci_dZ0 : decode ci_bZ 0 = .ok (.aload_n 0, 1) := by decide +kernel
theorem ci_dZ1 : decode ci_bZ 1 = .ok (.invokespecial 1, 3) := by decide +kernel
theorem ci_dZ4 : decode ci_bZ 4 = .ok (.aload_n 0, 1) := by decide +kernel
theorem ci_dZ5 : decode ci_bZ 5 = .ok (.bipush 105, 2) := by decide +kernel
theorem ci_dZ7 : decode ci_bZ 7 = .ok (.newarray .int, 2) := by decide +kernel
theorem ci_dZ9 : decode ci_bZ 9 = .ok (.putfield 7, 3) := by decide +kernel
theorem ci_dZ12 : decode ci_bZ 12 = .ok (.aload_n 0, 1) := by decide +kernel
theorem ci_dZ13 : decode ci_bZ 13 = .ok (.bipush 105, 2) := by decide +kernel
theorem ci_dZ15 : decode ci_bZ 15 = .ok (.newarray .int, 2) := by decide +kernel
theorem ci_dZ17 : decode ci_bZ 17 = .ok (.putfield 13, 3) := by decide +kernel
theorem ci_dZ20 : decode ci_bZ 20 = .ok (.aload_n 0, 1) := by decide +kernel
theorem ci_dZ21 : decode ci_bZ 21 = .ok (.sipush 630, 3) := by decide +kernel
theorem ci_dZ24 : decode ci_bZ 24 = .ok (.newarray .int, 2) := by decide +kernel
theorem ci_dZ26 : decode ci_bZ 26 = .ok (.putfield 16, 3) := by decide +kernel
theorem ci_dZ29 : decode ci_bZ 29 = .ok (.aload_n 0, 1) := by decide +kernel
theorem ci_dZ30 : decode ci_bZ 30 = .ok (.sipush 210, 3) := by decide +kernel
theorem ci_dZ33 : decode ci_bZ 33 = .ok (.newarray .int, 2) := by decide +kernel
theorem ci_dZ35 : decode ci_bZ 35 = .ok (.putfield 19, 3) := by decide +kernel
theorem ci_dZ38 : decode ci_bZ 38 = .ok (.aload_n 0, 1) := by decide +kernel
theorem ci_dZ39 : decode ci_bZ 39 = .ok (.iconst 2, 1) := by decide +kernel
theorem ci_dZ40 : decode ci_bZ 40 = .ok (.newarray .boolean, 2) := by decide +kernel
theorem ci_dZ42 : decode ci_bZ 42 = .ok (.putfield 22, 3) := by decide +kernel
theorem ci_dZ45 : decode ci_bZ 45 = .ok (.aload_n 0, 1) := by decide +kernel
theorem ci_dZ46 : decode ci_bZ 46 = .ok (.bipush 60, 2) := by decide +kernel
theorem ci_dZ48 : decode ci_bZ 48 = .ok (.newarray .int, 2) := by decide +kernel
theorem ci_dZ50 : decode ci_bZ 50 = .ok (.putfield 26, 3) := by decide +kernel
theorem ci_dZ53 : decode ci_bZ 53 = .ok (.aload_n 0, 1) := by decide +kernel
theorem ci_dZ54 : decode ci_bZ 54 = .ok (.sipush 2135, 3) := by decide +kernel
theorem ci_dZ57 : decode ci_bZ 57 = .ok (.newarray .int, 2) := by decide +kernel
theorem ci_dZ59 : decode ci_bZ 59 = .ok (.putfield 29, 3) := by decide +kernel
theorem ci_dZ62 : decode ci_bZ 62 = .ok (.aload_n 0, 1) := by decide +kernel
theorem ci_dZ63 : decode ci_bZ 63 = .ok (.bipush 40, 2) := by decide +kernel
theorem ci_dZ65 : decode ci_bZ 65 = .ok (.newarray .int, 2) := by decide +kernel
theorem ci_dZ67 : decode ci_bZ 67 = .ok (.putfield 32, 3) := by decide +kernel
theorem ci_dZ70 : decode ci_bZ 70 = .ok (.aload_n 0, 1) := by decide +kernel
theorem ci_dZ71 : decode ci_bZ 71 = .ok (.getfield 7, 3) := by decide +kernel
theorem ci_dZ74 : decode ci_bZ 74 = .ok (.iconst 1, 1) := by decide +kernel
theorem ci_dZ75 : decode ci_bZ 75 = .ok (.bipush 20, 2) := by decide +kernel
theorem ci_dZ77 : decode ci_bZ 77 = .ok (.iastore, 1) := by decide +kernel
theorem ci_dZ78 : decode ci_bZ 78 = .ok (.iconst 0, 1) := by decide +kernel
theorem ci_dZ79 : decode ci_bZ 79 = .ok (.istore_n 1, 1) := by decide +kernel
theorem ci_dZ80 : decode ci_bZ 80 = .ok (.iload_n 1, 1) := by decide +kernel
theorem ci_dZ81 : decode ci_bZ 81 = .ok (.iconst 5, 1) := by decide +kernel
theorem ci_dZ82 : decode ci_bZ 82 = .ok (.if_icmp .ge 18, 3) := by decide +kernel
theorem ci_dZ85 : decode ci_bZ 85 = .ok (.aload_n 0, 1) := by decide +kernel
theorem ci_dZ86 : decode ci_bZ 86 = .ok (.iload_n 1, 1) := by decide +kernel
theorem ci_dZ87 : decode ci_bZ 87 = .ok (.iconst 0, 1) := by decide +kernel
theorem ci_dZ88 : decode ci_bZ 88 = .ok (.sipush 1000, 3) := by decide +kernel
theorem ci_dZ91 : decode ci_bZ 91 = .ok (.invokevirtual 35, 3) := by decide +kernel
theorem ci_dZ94 : decode ci_bZ 94 = .ok (.iinc 1 1, 3) := by decide +kernel
theorem ci_dZ97 : decode ci_bZ 97 = .ok (.goto (-17), 3) := by decide +kernel
theorem ci_dZ100 : decode ci_bZ 100 = .ok (.return_, 1) := by decide +kernel
set_option maxHeartbeats 8000000 in
set_option maxRecDepth 200000 in
theorem ci_Z (l : Launch) (D : va_G) (g : ClassId × ClassId × ClassId) (h0 sz : Nat) : Met l ci_yZ (ch_ws ci_yZ ci_bZ 2 none) ({ frames := 1, cells := 8, slots := 3287, locals := 23 }) (va_Pc [.ref h0] (ci_Pre D g [(h0, .inr (4, [.int 0, .null, .null, .null, .int 0, .null, .null, .null, .int 0, .null, .int 0, .int 0, .null, .int 0, .int 0, .int 0, .int 0]))] sz)) (va_Qv (fun (_ : Unit) => True) (fun _ t => ∃ q1 q2 q3 q4 q5 q6 q7 q8 : Nat, va_P D am_cls [(h0, .inr (4, [.int 0, .ref q1, .ref q2, .ref q3, .int 0, .ref q4, .ref q5, .ref q6, .int 0, .ref q7, .int 0, .int 0, .ref q8, .int 0, .int 0, .int 0, .int 0])), (q1, .inl (g.1, 105, .inl (upd (upd (upd (upd (upd (upd (fun _ => 0) 1 (nI 20)) 17 (nI 1000)) 25 (nI 1000)) 33 (nI 1000)) 41 (nI 1000)) 49 (nI 1000)))), (q2, .inl (g.1, 105, .inl (fun _ => 0))), (q3, .inl (g.1, 630, .inl (fun _ => 0))), (q4, .inl (g.1, 210, .inl (fun _ => 0))), (q5, .inl (g.2.1, 2, .inl (fun _ => 0))), (q6, .inl (g.1, 60, .inl (fun _ => 0))), (q7, .inl (g.1, 2135, .inl (fun _ => 0))), (q8, .inl (g.1, 40, .inl (fun _ => 0)))] t.heap ∧ va_K D am_cls (am_tys g) t ∧ va_D (va_A [(h0, .inr (4, [.int 0, .null, .null, .null, .int 0, .null, .null, .null, .int 0, .null, .int 0, .int 0, .null, .int 0, .int 0, .int 0, .int 0]))] sz) [(h0, .inr (4, [.int 0, .ref q1, .ref q2, .ref q3, .int 0, .ref q4, .ref q5, .ref q6, .int 0, .ref q7, .int 0, .int 0, .ref q8, .int 0, .int 0, .int 0, .int 0])), (q1, .inl (g.1, 105, .inl (upd (upd (upd (upd (upd (upd (fun _ => 0) 1 (nI 20)) 17 (nI 1000)) 25 (nI 1000)) 33 (nI 1000)) 41 (nI 1000)) 49 (nI 1000)))), (q2, .inl (g.1, 105, .inl (fun _ => 0))), (q3, .inl (g.1, 630, .inl (fun _ => 0))), (q4, .inl (g.1, 210, .inl (fun _ => 0))), (q5, .inl (g.2.1, 2, .inl (fun _ => 0))), (q6, .inl (g.1, 60, .inl (fun _ => 0))), (q7, .inl (g.1, 2135, .inl (fun _ => 0))), (q8, .inl (g.1, 40, .inl (fun _ => 0)))]) (va_A [(h0, .inr (4, [.int 0, .null, .null, .null, .int 0, .null, .null, .null, .int 0, .null, .int 0, .int 0, .null, .int 0, .int 0, .int 0, .int 0]))] sz)) 8 3287 (va_A [(h0, .inr (4, [.int 0, .null, .null, .null, .int 0, .null, .null, .null, .int 0, .null, .int 0, .int 0, .null, .int 0, .int 0, .int 0, .int 0]))] sz) := by
  refine Met.ofW (cc := ci_bZ) (maxL := 2) (ret := none) (by decide) rfl ?_
  intro p e s m args below meth c s₁ B hml hv
  obtain ⟨rfl, hsz, hP, hK, hD0, hN⟩ := hv
  have hx := B.exec
  have hb := B.bytes
  have hr := B.returns
  have hts := atoms_spec (ws := ch_ws ci_yZ ci_bZ 2 none) B.pre
  have hown : s.vm.findClass "DyeVatsModel" = some m.cls := findClass_of_methodNamed B.named
  have hlocks := B.notSynchronized
  have hin : meth.name = "<init>" := (name_of_methodNamed B.named B.method).1
  have hg : ∀ w ∈ am_good, w.before ([.ref h0] : List Value).toArray s = true := fun w h => hts w (List.mem_cons_of_mem _ h)
  subst hsz
  have hD := hD0.self (sz := s.heap.size)
  generalize hAe : va_A [(h0, .inr (4, [.int 0, .null, .null, .null, .int 0, .null, .null, .null, .int 0, .null, .int 0, .int 0, .null, .int 0, .int 0, .int 0, .int 0]))] s.heap.size = A at hD ⊢
  have hA : ∀ q : Nat, s.heap.size ≤ q → A q := fun q h => by rw [← hAe]; exact Or.inr h
  have hS : va_S A s.heap s.heap [] := va_S.rf
  have hl := lv_entry ([.ref h0]) (n := 2) (Nat.le_of_ble_eq_true rfl)
  rw [lg_entry_eq]
  generalize (lg_sl ([.ref h0]) ++ List.replicate (2 - (lg_sl ([.ref h0])).length) Slot.unset).toArray = ls at hl ⊢
  have hl : lv_has ls 2 [(0, .ref h0)] := hl
  refine lv_aload_n hx hb ci_dZ0 rfl (lv_at hl 0 rfl) ?_
  refine W.objInit hx hb hown (hg _ (am_good_of (k := 722) rfl rfl)) (hg _ (am_good_of (k := 90) rfl rfl)) (hg _ (am_good_of (k := 91) rfl rfl)) rfl (by rw [hml]; exact hl.1) rfl ci_dZ1 (Nat.le_of_ble_eq_true rfl) (Nat.le_of_ble_eq_true rfl) ?_
  refine W.eq (g2 := F0 m 4 ls []) rfl ?_
  refine lv_aload_n hx hb ci_dZ4 rfl (lv_at hl 0 rfl) ?_
  refine lv_bipush (v := nI 105) hx hb ci_dZ5 (by decide +kernel) ?_
  refine nw_i (N' := 105) hx hb (hg _ (am_good_of (k := 104) rfl rfl)) hK hP hD hS hA rfl (by decide) (Nat.le_of_ble_eq_true rfl) (Nat.le_of_ble_eq_true rfl) ci_dZ7 (fun q1 H hP hD hS => ?_)
  have hP : va_P D am_cls [(h0, .inr (4, [.int 0, .null, .null, .null, .int 0, .null, .null, .null, .int 0, .null, .int 0, .int 0, .null, .int 0, .int 0, .int 0, .int 0])), (q1, .inl (g.1, 105, .inl (fun _ => 0)))] H := hP
  have hD : va_D A [(h0, .inr (4, [.int 0, .null, .null, .null, .int 0, .null, .null, .null, .int 0, .null, .int 0, .int 0, .null, .int 0, .int 0, .int 0, .int 0])), (q1, .inl (g.1, 105, .inl (fun _ => 0)))] := hD
  refine W.widen (k := 1) (n := 105) (by omega) (by omega) ?_
  refine va_putF (D := D) (ci := 4) (v := .ref q1) (ty := .array .int) (C := am_Rn 4) (T := am_T 4) (N := am_nf 4) hx hb hg (am_hin (x := 4) (by decide)) (am_ty 4) (am_tyok (x := 4) (by decide)) (am_nmok (x := 4) (by decide)) hown hK hP hD hS 0 rfl rfl 1 (by decide) (hg _ (am_good_of (k := 728) rfl rfl)) (fun _ h9 => h9) rfl hin rfl (by decide +kernel) rfl rfl (Nat.le_of_ble_eq_true rfl) ci_dZ9 (fun H locs hP hD hS => ?_)
  have hP : va_P D am_cls [(h0, .inr (4, [.int 0, .ref q1, .null, .null, .int 0, .null, .null, .null, .int 0, .null, .int 0, .int 0, .null, .int 0, .int 0, .int 0, .int 0])), (q1, .inl (g.1, 105, .inl (fun _ => 0)))] H := hP
  have hD : va_D A [(h0, .inr (4, [.int 0, .ref q1, .null, .null, .int 0, .null, .null, .null, .int 0, .null, .int 0, .int 0, .null, .int 0, .int 0, .int 0, .int 0])), (q1, .inl (g.1, 105, .inl (fun _ => 0)))] := hD
  refine lv_aload_n hx hb ci_dZ12 rfl (lv_at hl 0 rfl) ?_
  refine lv_bipush (v := nI 105) hx hb ci_dZ13 (by decide +kernel) ?_
  refine nw_i (N' := 105) hx hb (hg _ (am_good_of (k := 104) rfl rfl)) hK hP hD hS hA rfl (by decide) (Nat.le_of_ble_eq_true rfl) (Nat.le_of_ble_eq_true rfl) ci_dZ15 (fun q2 H hP hD hS => ?_)
  have hP : va_P D am_cls [(h0, .inr (4, [.int 0, .ref q1, .null, .null, .int 0, .null, .null, .null, .int 0, .null, .int 0, .int 0, .null, .int 0, .int 0, .int 0, .int 0])), (q1, .inl (g.1, 105, .inl (fun _ => 0))), (q2, .inl (g.1, 105, .inl (fun _ => 0)))] H := hP
  have hD : va_D A [(h0, .inr (4, [.int 0, .ref q1, .null, .null, .int 0, .null, .null, .null, .int 0, .null, .int 0, .int 0, .null, .int 0, .int 0, .int 0, .int 0])), (q1, .inl (g.1, 105, .inl (fun _ => 0))), (q2, .inl (g.1, 105, .inl (fun _ => 0)))] := hD
  refine W.widen (k := 2) (n := 210) (by omega) (by omega) ?_
  refine va_putF (D := D) (ci := 4) (v := .ref q2) (ty := .array .int) (C := am_Rn 4) (T := am_T 4) (N := am_nf 4) hx hb hg (am_hin (x := 4) (by decide)) (am_ty 4) (am_tyok (x := 4) (by decide)) (am_nmok (x := 4) (by decide)) hown hK hP hD hS 0 rfl rfl 2 (by decide) (hg _ (am_good_of (k := 729) rfl rfl)) (fun _ h9 => h9) rfl hin rfl (by decide +kernel) rfl rfl (Nat.le_of_ble_eq_true rfl) ci_dZ17 (fun H locs hP hD hS => ?_)
  have hP : va_P D am_cls [(h0, .inr (4, [.int 0, .ref q1, .ref q2, .null, .int 0, .null, .null, .null, .int 0, .null, .int 0, .int 0, .null, .int 0, .int 0, .int 0, .int 0])), (q1, .inl (g.1, 105, .inl (fun _ => 0))), (q2, .inl (g.1, 105, .inl (fun _ => 0)))] H := hP
  have hD : va_D A [(h0, .inr (4, [.int 0, .ref q1, .ref q2, .null, .int 0, .null, .null, .null, .int 0, .null, .int 0, .int 0, .null, .int 0, .int 0, .int 0, .int 0])), (q1, .inl (g.1, 105, .inl (fun _ => 0))), (q2, .inl (g.1, 105, .inl (fun _ => 0)))] := hD
  refine lv_aload_n hx hb ci_dZ20 rfl (lv_at hl 0 rfl) ?_
  refine lv_sipush (v := nI 630) hx hb ci_dZ21 (by decide +kernel) ?_
  refine nw_i (N' := 630) hx hb (hg _ (am_good_of (k := 104) rfl rfl)) hK hP hD hS hA rfl (by decide) (Nat.le_of_ble_eq_true rfl) (Nat.le_of_ble_eq_true rfl) ci_dZ24 (fun q3 H hP hD hS => ?_)
  have hP : va_P D am_cls [(h0, .inr (4, [.int 0, .ref q1, .ref q2, .null, .int 0, .null, .null, .null, .int 0, .null, .int 0, .int 0, .null, .int 0, .int 0, .int 0, .int 0])), (q1, .inl (g.1, 105, .inl (fun _ => 0))), (q2, .inl (g.1, 105, .inl (fun _ => 0))), (q3, .inl (g.1, 630, .inl (fun _ => 0)))] H := hP
  have hD : va_D A [(h0, .inr (4, [.int 0, .ref q1, .ref q2, .null, .int 0, .null, .null, .null, .int 0, .null, .int 0, .int 0, .null, .int 0, .int 0, .int 0, .int 0])), (q1, .inl (g.1, 105, .inl (fun _ => 0))), (q2, .inl (g.1, 105, .inl (fun _ => 0))), (q3, .inl (g.1, 630, .inl (fun _ => 0)))] := hD
  refine W.widen (k := 3) (n := 840) (by omega) (by omega) ?_
  refine va_putF (D := D) (ci := 4) (v := .ref q3) (ty := .array .int) (C := am_Rn 4) (T := am_T 4) (N := am_nf 4) hx hb hg (am_hin (x := 4) (by decide)) (am_ty 4) (am_tyok (x := 4) (by decide)) (am_nmok (x := 4) (by decide)) hown hK hP hD hS 0 rfl rfl 3 (by decide) (hg _ (am_good_of (k := 730) rfl rfl)) (fun _ h9 => h9) rfl hin rfl (by decide +kernel) rfl rfl (Nat.le_of_ble_eq_true rfl) ci_dZ26 (fun H locs hP hD hS => ?_)
  have hP : va_P D am_cls [(h0, .inr (4, [.int 0, .ref q1, .ref q2, .ref q3, .int 0, .null, .null, .null, .int 0, .null, .int 0, .int 0, .null, .int 0, .int 0, .int 0, .int 0])), (q1, .inl (g.1, 105, .inl (fun _ => 0))), (q2, .inl (g.1, 105, .inl (fun _ => 0))), (q3, .inl (g.1, 630, .inl (fun _ => 0)))] H := hP
  have hD : va_D A [(h0, .inr (4, [.int 0, .ref q1, .ref q2, .ref q3, .int 0, .null, .null, .null, .int 0, .null, .int 0, .int 0, .null, .int 0, .int 0, .int 0, .int 0])), (q1, .inl (g.1, 105, .inl (fun _ => 0))), (q2, .inl (g.1, 105, .inl (fun _ => 0))), (q3, .inl (g.1, 630, .inl (fun _ => 0)))] := hD
  refine lv_aload_n hx hb ci_dZ29 rfl (lv_at hl 0 rfl) ?_
  refine lv_sipush (v := nI 210) hx hb ci_dZ30 (by decide +kernel) ?_
  refine nw_i (N' := 210) hx hb (hg _ (am_good_of (k := 104) rfl rfl)) hK hP hD hS hA rfl (by decide) (Nat.le_of_ble_eq_true rfl) (Nat.le_of_ble_eq_true rfl) ci_dZ33 (fun q4 H hP hD hS => ?_)
  have hP : va_P D am_cls [(h0, .inr (4, [.int 0, .ref q1, .ref q2, .ref q3, .int 0, .null, .null, .null, .int 0, .null, .int 0, .int 0, .null, .int 0, .int 0, .int 0, .int 0])), (q1, .inl (g.1, 105, .inl (fun _ => 0))), (q2, .inl (g.1, 105, .inl (fun _ => 0))), (q3, .inl (g.1, 630, .inl (fun _ => 0))), (q4, .inl (g.1, 210, .inl (fun _ => 0)))] H := hP
  have hD : va_D A [(h0, .inr (4, [.int 0, .ref q1, .ref q2, .ref q3, .int 0, .null, .null, .null, .int 0, .null, .int 0, .int 0, .null, .int 0, .int 0, .int 0, .int 0])), (q1, .inl (g.1, 105, .inl (fun _ => 0))), (q2, .inl (g.1, 105, .inl (fun _ => 0))), (q3, .inl (g.1, 630, .inl (fun _ => 0))), (q4, .inl (g.1, 210, .inl (fun _ => 0)))] := hD
  refine W.widen (k := 4) (n := 1050) (by omega) (by omega) ?_
  refine va_putF (D := D) (ci := 4) (v := .ref q4) (ty := .array .int) (C := am_Rn 4) (T := am_T 4) (N := am_nf 4) hx hb hg (am_hin (x := 4) (by decide)) (am_ty 4) (am_tyok (x := 4) (by decide)) (am_nmok (x := 4) (by decide)) hown hK hP hD hS 0 rfl rfl 5 (by decide) (hg _ (am_good_of (k := 732) rfl rfl)) (fun _ h9 => h9) rfl hin rfl (by decide +kernel) rfl rfl (Nat.le_of_ble_eq_true rfl) ci_dZ35 (fun H locs hP hD hS => ?_)
  have hP : va_P D am_cls [(h0, .inr (4, [.int 0, .ref q1, .ref q2, .ref q3, .int 0, .ref q4, .null, .null, .int 0, .null, .int 0, .int 0, .null, .int 0, .int 0, .int 0, .int 0])), (q1, .inl (g.1, 105, .inl (fun _ => 0))), (q2, .inl (g.1, 105, .inl (fun _ => 0))), (q3, .inl (g.1, 630, .inl (fun _ => 0))), (q4, .inl (g.1, 210, .inl (fun _ => 0)))] H := hP
  have hD : va_D A [(h0, .inr (4, [.int 0, .ref q1, .ref q2, .ref q3, .int 0, .ref q4, .null, .null, .int 0, .null, .int 0, .int 0, .null, .int 0, .int 0, .int 0, .int 0])), (q1, .inl (g.1, 105, .inl (fun _ => 0))), (q2, .inl (g.1, 105, .inl (fun _ => 0))), (q3, .inl (g.1, 630, .inl (fun _ => 0))), (q4, .inl (g.1, 210, .inl (fun _ => 0)))] := hD
  refine lv_aload_n hx hb ci_dZ38 rfl (lv_at hl 0 rfl) ?_
  refine lv_iconst (v := nI 2) hx hb ci_dZ39 (by decide +kernel) ?_
  refine nw_z (N' := 2) hx hb (hg _ (am_good_of (k := 191) rfl rfl)) hK hP hD hS hA rfl (by decide) (Nat.le_of_ble_eq_true rfl) (Nat.le_of_ble_eq_true rfl) ci_dZ40 (fun q5 H hP hD hS => ?_)
  have hP : va_P D am_cls [(h0, .inr (4, [.int 0, .ref q1, .ref q2, .ref q3, .int 0, .ref q4, .null, .null, .int 0, .null, .int 0, .int 0, .null, .int 0, .int 0, .int 0, .int 0])), (q1, .inl (g.1, 105, .inl (fun _ => 0))), (q2, .inl (g.1, 105, .inl (fun _ => 0))), (q3, .inl (g.1, 630, .inl (fun _ => 0))), (q4, .inl (g.1, 210, .inl (fun _ => 0))), (q5, .inl (g.2.1, 2, .inl (fun _ => 0)))] H := hP
  have hD : va_D A [(h0, .inr (4, [.int 0, .ref q1, .ref q2, .ref q3, .int 0, .ref q4, .null, .null, .int 0, .null, .int 0, .int 0, .null, .int 0, .int 0, .int 0, .int 0])), (q1, .inl (g.1, 105, .inl (fun _ => 0))), (q2, .inl (g.1, 105, .inl (fun _ => 0))), (q3, .inl (g.1, 630, .inl (fun _ => 0))), (q4, .inl (g.1, 210, .inl (fun _ => 0))), (q5, .inl (g.2.1, 2, .inl (fun _ => 0)))] := hD
  refine W.widen (k := 5) (n := 1052) (by omega) (by omega) ?_
  refine va_putF (D := D) (ci := 4) (v := .ref q5) (ty := .array .boolean) (C := am_Rn 4) (T := am_T 4) (N := am_nf 4) hx hb hg (am_hin (x := 4) (by decide)) (am_ty 4) (am_tyok (x := 4) (by decide)) (am_nmok (x := 4) (by decide)) hown hK hP hD hS 0 rfl rfl 6 (by decide) (hg _ (am_good_of (k := 733) rfl rfl)) (fun _ h9 => h9) rfl hin rfl (by decide +kernel) rfl rfl (Nat.le_of_ble_eq_true rfl) ci_dZ42 (fun H locs hP hD hS => ?_)
  have hP : va_P D am_cls [(h0, .inr (4, [.int 0, .ref q1, .ref q2, .ref q3, .int 0, .ref q4, .ref q5, .null, .int 0, .null, .int 0, .int 0, .null, .int 0, .int 0, .int 0, .int 0])), (q1, .inl (g.1, 105, .inl (fun _ => 0))), (q2, .inl (g.1, 105, .inl (fun _ => 0))), (q3, .inl (g.1, 630, .inl (fun _ => 0))), (q4, .inl (g.1, 210, .inl (fun _ => 0))), (q5, .inl (g.2.1, 2, .inl (fun _ => 0)))] H := hP
  have hD : va_D A [(h0, .inr (4, [.int 0, .ref q1, .ref q2, .ref q3, .int 0, .ref q4, .ref q5, .null, .int 0, .null, .int 0, .int 0, .null, .int 0, .int 0, .int 0, .int 0])), (q1, .inl (g.1, 105, .inl (fun _ => 0))), (q2, .inl (g.1, 105, .inl (fun _ => 0))), (q3, .inl (g.1, 630, .inl (fun _ => 0))), (q4, .inl (g.1, 210, .inl (fun _ => 0))), (q5, .inl (g.2.1, 2, .inl (fun _ => 0)))] := hD
  refine lv_aload_n hx hb ci_dZ45 rfl (lv_at hl 0 rfl) ?_
  refine lv_bipush (v := nI 60) hx hb ci_dZ46 (by decide +kernel) ?_
  refine nw_i (N' := 60) hx hb (hg _ (am_good_of (k := 104) rfl rfl)) hK hP hD hS hA rfl (by decide) (Nat.le_of_ble_eq_true rfl) (Nat.le_of_ble_eq_true rfl) ci_dZ48 (fun q6 H hP hD hS => ?_)
  have hP : va_P D am_cls [(h0, .inr (4, [.int 0, .ref q1, .ref q2, .ref q3, .int 0, .ref q4, .ref q5, .null, .int 0, .null, .int 0, .int 0, .null, .int 0, .int 0, .int 0, .int 0])), (q1, .inl (g.1, 105, .inl (fun _ => 0))), (q2, .inl (g.1, 105, .inl (fun _ => 0))), (q3, .inl (g.1, 630, .inl (fun _ => 0))), (q4, .inl (g.1, 210, .inl (fun _ => 0))), (q5, .inl (g.2.1, 2, .inl (fun _ => 0))), (q6, .inl (g.1, 60, .inl (fun _ => 0)))] H := hP
  have hD : va_D A [(h0, .inr (4, [.int 0, .ref q1, .ref q2, .ref q3, .int 0, .ref q4, .ref q5, .null, .int 0, .null, .int 0, .int 0, .null, .int 0, .int 0, .int 0, .int 0])), (q1, .inl (g.1, 105, .inl (fun _ => 0))), (q2, .inl (g.1, 105, .inl (fun _ => 0))), (q3, .inl (g.1, 630, .inl (fun _ => 0))), (q4, .inl (g.1, 210, .inl (fun _ => 0))), (q5, .inl (g.2.1, 2, .inl (fun _ => 0))), (q6, .inl (g.1, 60, .inl (fun _ => 0)))] := hD
  refine W.widen (k := 6) (n := 1112) (by omega) (by omega) ?_
  refine va_putF (D := D) (ci := 4) (v := .ref q6) (ty := .array .int) (C := am_Rn 4) (T := am_T 4) (N := am_nf 4) hx hb hg (am_hin (x := 4) (by decide)) (am_ty 4) (am_tyok (x := 4) (by decide)) (am_nmok (x := 4) (by decide)) hown hK hP hD hS 0 rfl rfl 7 (by decide) (hg _ (am_good_of (k := 734) rfl rfl)) (fun _ h9 => h9) rfl hin rfl (by decide +kernel) rfl rfl (Nat.le_of_ble_eq_true rfl) ci_dZ50 (fun H locs hP hD hS => ?_)
  have hP : va_P D am_cls [(h0, .inr (4, [.int 0, .ref q1, .ref q2, .ref q3, .int 0, .ref q4, .ref q5, .ref q6, .int 0, .null, .int 0, .int 0, .null, .int 0, .int 0, .int 0, .int 0])), (q1, .inl (g.1, 105, .inl (fun _ => 0))), (q2, .inl (g.1, 105, .inl (fun _ => 0))), (q3, .inl (g.1, 630, .inl (fun _ => 0))), (q4, .inl (g.1, 210, .inl (fun _ => 0))), (q5, .inl (g.2.1, 2, .inl (fun _ => 0))), (q6, .inl (g.1, 60, .inl (fun _ => 0)))] H := hP
  have hD : va_D A [(h0, .inr (4, [.int 0, .ref q1, .ref q2, .ref q3, .int 0, .ref q4, .ref q5, .ref q6, .int 0, .null, .int 0, .int 0, .null, .int 0, .int 0, .int 0, .int 0])), (q1, .inl (g.1, 105, .inl (fun _ => 0))), (q2, .inl (g.1, 105, .inl (fun _ => 0))), (q3, .inl (g.1, 630, .inl (fun _ => 0))), (q4, .inl (g.1, 210, .inl (fun _ => 0))), (q5, .inl (g.2.1, 2, .inl (fun _ => 0))), (q6, .inl (g.1, 60, .inl (fun _ => 0)))] := hD
  refine lv_aload_n hx hb ci_dZ53 rfl (lv_at hl 0 rfl) ?_
  refine lv_sipush (v := nI 2135) hx hb ci_dZ54 (by decide +kernel) ?_
  refine nw_i (N' := 2135) hx hb (hg _ (am_good_of (k := 104) rfl rfl)) hK hP hD hS hA rfl (by decide) (Nat.le_of_ble_eq_true rfl) (Nat.le_of_ble_eq_true rfl) ci_dZ57 (fun q7 H hP hD hS => ?_)
  have hP : va_P D am_cls [(h0, .inr (4, [.int 0, .ref q1, .ref q2, .ref q3, .int 0, .ref q4, .ref q5, .ref q6, .int 0, .null, .int 0, .int 0, .null, .int 0, .int 0, .int 0, .int 0])), (q1, .inl (g.1, 105, .inl (fun _ => 0))), (q2, .inl (g.1, 105, .inl (fun _ => 0))), (q3, .inl (g.1, 630, .inl (fun _ => 0))), (q4, .inl (g.1, 210, .inl (fun _ => 0))), (q5, .inl (g.2.1, 2, .inl (fun _ => 0))), (q6, .inl (g.1, 60, .inl (fun _ => 0))), (q7, .inl (g.1, 2135, .inl (fun _ => 0)))] H := hP
  have hD : va_D A [(h0, .inr (4, [.int 0, .ref q1, .ref q2, .ref q3, .int 0, .ref q4, .ref q5, .ref q6, .int 0, .null, .int 0, .int 0, .null, .int 0, .int 0, .int 0, .int 0])), (q1, .inl (g.1, 105, .inl (fun _ => 0))), (q2, .inl (g.1, 105, .inl (fun _ => 0))), (q3, .inl (g.1, 630, .inl (fun _ => 0))), (q4, .inl (g.1, 210, .inl (fun _ => 0))), (q5, .inl (g.2.1, 2, .inl (fun _ => 0))), (q6, .inl (g.1, 60, .inl (fun _ => 0))), (q7, .inl (g.1, 2135, .inl (fun _ => 0)))] := hD
  refine W.widen (k := 7) (n := 3247) (by omega) (by omega) ?_
  refine va_putF (D := D) (ci := 4) (v := .ref q7) (ty := .array .int) (C := am_Rn 4) (T := am_T 4) (N := am_nf 4) hx hb hg (am_hin (x := 4) (by decide)) (am_ty 4) (am_tyok (x := 4) (by decide)) (am_nmok (x := 4) (by decide)) hown hK hP hD hS 0 rfl rfl 9 (by decide) (hg _ (am_good_of (k := 736) rfl rfl)) (fun _ h9 => h9) rfl hin rfl (by decide +kernel) rfl rfl (Nat.le_of_ble_eq_true rfl) ci_dZ59 (fun H locs hP hD hS => ?_)
  have hP : va_P D am_cls [(h0, .inr (4, [.int 0, .ref q1, .ref q2, .ref q3, .int 0, .ref q4, .ref q5, .ref q6, .int 0, .ref q7, .int 0, .int 0, .null, .int 0, .int 0, .int 0, .int 0])), (q1, .inl (g.1, 105, .inl (fun _ => 0))), (q2, .inl (g.1, 105, .inl (fun _ => 0))), (q3, .inl (g.1, 630, .inl (fun _ => 0))), (q4, .inl (g.1, 210, .inl (fun _ => 0))), (q5, .inl (g.2.1, 2, .inl (fun _ => 0))), (q6, .inl (g.1, 60, .inl (fun _ => 0))), (q7, .inl (g.1, 2135, .inl (fun _ => 0)))] H := hP
  have hD : va_D A [(h0, .inr (4, [.int 0, .ref q1, .ref q2, .ref q3, .int 0, .ref q4, .ref q5, .ref q6, .int 0, .ref q7, .int 0, .int 0, .null, .int 0, .int 0, .int 0, .int 0])), (q1, .inl (g.1, 105, .inl (fun _ => 0))), (q2, .inl (g.1, 105, .inl (fun _ => 0))), (q3, .inl (g.1, 630, .inl (fun _ => 0))), (q4, .inl (g.1, 210, .inl (fun _ => 0))), (q5, .inl (g.2.1, 2, .inl (fun _ => 0))), (q6, .inl (g.1, 60, .inl (fun _ => 0))), (q7, .inl (g.1, 2135, .inl (fun _ => 0)))] := hD
  refine lv_aload_n hx hb ci_dZ62 rfl (lv_at hl 0 rfl) ?_
  refine lv_bipush (v := nI 40) hx hb ci_dZ63 (by decide +kernel) ?_
  refine nw_i (N' := 40) hx hb (hg _ (am_good_of (k := 104) rfl rfl)) hK hP hD hS hA rfl (by decide) (Nat.le_of_ble_eq_true rfl) (Nat.le_of_ble_eq_true rfl) ci_dZ65 (fun q8 H hP hD hS => ?_)
  have hP : va_P D am_cls [(h0, .inr (4, [.int 0, .ref q1, .ref q2, .ref q3, .int 0, .ref q4, .ref q5, .ref q6, .int 0, .ref q7, .int 0, .int 0, .null, .int 0, .int 0, .int 0, .int 0])), (q1, .inl (g.1, 105, .inl (fun _ => 0))), (q2, .inl (g.1, 105, .inl (fun _ => 0))), (q3, .inl (g.1, 630, .inl (fun _ => 0))), (q4, .inl (g.1, 210, .inl (fun _ => 0))), (q5, .inl (g.2.1, 2, .inl (fun _ => 0))), (q6, .inl (g.1, 60, .inl (fun _ => 0))), (q7, .inl (g.1, 2135, .inl (fun _ => 0))), (q8, .inl (g.1, 40, .inl (fun _ => 0)))] H := hP
  have hD : va_D A [(h0, .inr (4, [.int 0, .ref q1, .ref q2, .ref q3, .int 0, .ref q4, .ref q5, .ref q6, .int 0, .ref q7, .int 0, .int 0, .null, .int 0, .int 0, .int 0, .int 0])), (q1, .inl (g.1, 105, .inl (fun _ => 0))), (q2, .inl (g.1, 105, .inl (fun _ => 0))), (q3, .inl (g.1, 630, .inl (fun _ => 0))), (q4, .inl (g.1, 210, .inl (fun _ => 0))), (q5, .inl (g.2.1, 2, .inl (fun _ => 0))), (q6, .inl (g.1, 60, .inl (fun _ => 0))), (q7, .inl (g.1, 2135, .inl (fun _ => 0))), (q8, .inl (g.1, 40, .inl (fun _ => 0)))] := hD
  refine W.widen (k := 8) (n := 3287) (by omega) (by omega) ?_
  refine va_putF (D := D) (ci := 4) (v := .ref q8) (ty := .array .int) (C := am_Rn 4) (T := am_T 4) (N := am_nf 4) hx hb hg (am_hin (x := 4) (by decide)) (am_ty 4) (am_tyok (x := 4) (by decide)) (am_nmok (x := 4) (by decide)) hown hK hP hD hS 0 rfl rfl 12 (by decide) (hg _ (am_good_of (k := 739) rfl rfl)) (fun _ h9 => h9) rfl hin rfl (by decide +kernel) rfl rfl (Nat.le_of_ble_eq_true rfl) ci_dZ67 (fun H locs hP hD hS => ?_)
  have hP : va_P D am_cls [(h0, .inr (4, [.int 0, .ref q1, .ref q2, .ref q3, .int 0, .ref q4, .ref q5, .ref q6, .int 0, .ref q7, .int 0, .int 0, .ref q8, .int 0, .int 0, .int 0, .int 0])), (q1, .inl (g.1, 105, .inl (fun _ => 0))), (q2, .inl (g.1, 105, .inl (fun _ => 0))), (q3, .inl (g.1, 630, .inl (fun _ => 0))), (q4, .inl (g.1, 210, .inl (fun _ => 0))), (q5, .inl (g.2.1, 2, .inl (fun _ => 0))), (q6, .inl (g.1, 60, .inl (fun _ => 0))), (q7, .inl (g.1, 2135, .inl (fun _ => 0))), (q8, .inl (g.1, 40, .inl (fun _ => 0)))] H := hP
  have hD : va_D A [(h0, .inr (4, [.int 0, .ref q1, .ref q2, .ref q3, .int 0, .ref q4, .ref q5, .ref q6, .int 0, .ref q7, .int 0, .int 0, .ref q8, .int 0, .int 0, .int 0, .int 0])), (q1, .inl (g.1, 105, .inl (fun _ => 0))), (q2, .inl (g.1, 105, .inl (fun _ => 0))), (q3, .inl (g.1, 630, .inl (fun _ => 0))), (q4, .inl (g.1, 210, .inl (fun _ => 0))), (q5, .inl (g.2.1, 2, .inl (fun _ => 0))), (q6, .inl (g.1, 60, .inl (fun _ => 0))), (q7, .inl (g.1, 2135, .inl (fun _ => 0))), (q8, .inl (g.1, 40, .inl (fun _ => 0)))] := hD
  refine lv_aload_n hx hb ci_dZ70 rfl (lv_at hl 0 rfl) ?_
  refine va_get (D := D) (ci := 4) (v := .ref q1) (C := am_Rn 4) (T := am_T 4) (N := am_nf 4) hx hb hg (am_hin (x := 4) (by decide)) hown hK hP 0 rfl rfl 1 (by decide) (hg _ (am_good_of (k := 728) rfl rfl)) (fun _ h9 => h9) rfl ci_dZ71 ?_
  refine lv_iconst (v := nI 1) hx hb ci_dZ74 (by decide +kernel) ?_
  refine lv_bipush (v := nI 20) hx hb ci_dZ75 (by decide +kernel) ?_
  refine va_iast hx hb hK hP hD hS 1 0 rfl rfl (vp_in_nI (by decide) (by decide)) ci_dZ77 (fun H locs hP hD hS => ?_)
  rw [nI_clamp (by decide)] at hP hD
  have hP : va_P D am_cls [(h0, .inr (4, [.int 0, .ref q1, .ref q2, .ref q3, .int 0, .ref q4, .ref q5, .ref q6, .int 0, .ref q7, .int 0, .int 0, .ref q8, .int 0, .int 0, .int 0, .int 0])), (q1, .inl (g.1, 105, .inl (upd (fun _ => 0) 1 (nI 20)))), (q2, .inl (g.1, 105, .inl (fun _ => 0))), (q3, .inl (g.1, 630, .inl (fun _ => 0))), (q4, .inl (g.1, 210, .inl (fun _ => 0))), (q5, .inl (g.2.1, 2, .inl (fun _ => 0))), (q6, .inl (g.1, 60, .inl (fun _ => 0))), (q7, .inl (g.1, 2135, .inl (fun _ => 0))), (q8, .inl (g.1, 40, .inl (fun _ => 0)))] H := hP
  have hD : va_D A [(h0, .inr (4, [.int 0, .ref q1, .ref q2, .ref q3, .int 0, .ref q4, .ref q5, .ref q6, .int 0, .ref q7, .int 0, .int 0, .ref q8, .int 0, .int 0, .int 0, .int 0])), (q1, .inl (g.1, 105, .inl (upd (fun _ => 0) 1 (nI 20)))), (q2, .inl (g.1, 105, .inl (fun _ => 0))), (q3, .inl (g.1, 630, .inl (fun _ => 0))), (q4, .inl (g.1, 210, .inl (fun _ => 0))), (q5, .inl (g.2.1, 2, .inl (fun _ => 0))), (q6, .inl (g.1, 60, .inl (fun _ => 0))), (q7, .inl (g.1, 2135, .inl (fun _ => 0))), (q8, .inl (g.1, 40, .inl (fun _ => 0)))] := hD
  refine lv_iconst (v := nI 0) hx hb ci_dZ78 (by decide +kernel) ?_
  refine lv_istore_n (lv' := [(1, .int (nI 0)), (0, .ref h0)]) hx hb ci_dZ79 rfl hl (by decide) rfl (fun ls hl => ?_)
  refine lv_iload_n hx hb ci_dZ80 rfl (lv_at hl 0 rfl) ?_
  refine lv_iconst (v := nI 5) hx hb ci_dZ81 (by decide +kernel) ?_
  refine lv_icmp_ge (tgt := 100) hx hb ci_dZ82 rfl (fun h => absurd h (by decide +kernel)) (fun _ => ?_)
  refine lv_aload_n hx hb ci_dZ85 rfl (lv_at hl 1 rfl) ?_
  refine lv_iload_n hx hb ci_dZ86 rfl (lv_at hl 0 rfl) ?_
  refine lv_iconst (v := nI 0) hx hb ci_dZ87 (by decide +kernel) ?_
  refine lv_sipush (v := nI 1000) hx hb ci_dZ88 (by decide +kernel) ?_
  have hPc := hP.sub (ws' := [(h0, .inr (4, [.int 0, .ref q1, .ref q2, .ref q3, .int 0, .ref q4, .ref q5, .ref q6, .int 0, .ref q7, .int 0, .int 0, .ref q8, .int 0, .int 0, .int 0, .int 0])), (q1, .inl (g.1, 105, .inl (upd (fun _ => 0) 1 (nI 20))))]) [0, 1] rfl
  have hDc := hD.sub (ws' := [(h0, .inr (4, [.int 0, .ref q1, .ref q2, .ref q3, .int 0, .ref q4, .ref q5, .ref q6, .int 0, .ref q7, .int 0, .int 0, .ref q8, .int 0, .int 0, .int 0, .int 0])), (q1, .inl (g.1, 105, .inl (upd (fun _ => 0) 1 (nI 20))))]) [0, 1] (by decide) rfl
  have hFc := va_free (wc := [(h0, .inr (4, [.int 0, .ref q1, .ref q2, .ref q3, .int 0, .ref q4, .ref q5, .ref q6, .int 0, .ref q7, .int 0, .int 0, .ref q8, .int 0, .int 0, .int 0, .int 0])), (q1, .inl (g.1, 105, .inl (upd (fun _ => 0) 1 (nI 20))))]) hD hS hA [0, 1] rfl
  refine va_callv (va_runV (As := [.int (nI 0), .int (nI 0), .int (nI 1000)]) (rest := []) (n := 3) ⟨hx, hb, hml, hown, hg⟩ (ci_vat l D g h0 q1 H.size [.int 0, .ref q1, .ref q2, .ref q3, .int 0, .ref q4, .ref q5, .ref q6, .int 0, .ref q7, .int 0, .int 0, .ref q8, .int 0, .int 0, .int 0, .int 0] (upd (fun _ => 0) 1 (nI 20)) 0 0 (nI 1000) (by decide) rfl) ⟨callB_of (R := { frames := 1, cells := 8, slots := 3287, locals := 23 }) 3 hg (ch_gi (am_good_of (k := 726) rfl rfl)) rfl rfl rfl (hg _ (am_good_of (k := 69) rfl rfl)) (hg _ (am_good_of (k := 723) rfl rfl)) ⟨by decide, by decide, by decide +kernel⟩ ⟨by decide, by decide⟩, (hg _ (am_good_of (k := 725) rfl rfl)), (hg _ (am_good_of (k := 24) rfl rfl))⟩ ⟨ci_blind _ _ _ _ _, va_recv hK hP (ci := 4) (q0 := 0) rfl rfl, fun U hU hW => ⟨rfl, by rw [hU], by rw [hU]; exact hPc, va_K.moved hW.alike hK, hDc.weaken (fun _ _ _ _ => trivial), ci_nw hW hN⟩⟩ rfl rfl hl.1 rfl (lv_room (Nat.le_of_ble_eq_true rfl)) ci_dZ91 ⟨Nat.le_of_ble_eq_true rfl, Nat.le_of_ble_eq_true rfl⟩) hS (fun q _ h => hFc q h) hFc (fun u t H1 locs ht hvm hw hB hz1 hk1 hS => ?_)
  obtain ⟨hP1, hK1, hD1⟩ := hB
  rw [ht] at hP1
  obtain ⟨hP, hD⟩ := va_join (wr := [(q2, .inl (g.1, 105, .inl (fun _ => 0))), (q3, .inl (g.1, 630, .inl (fun _ => 0))), (q4, .inl (g.1, 210, .inl (fun _ => 0))), (q5, .inl (g.2.1, 2, .inl (fun _ => 0))), (q6, .inl (g.1, 60, .inl (fun _ => 0))), (q7, .inl (g.1, 2135, .inl (fun _ => 0))), (q8, .inl (g.1, 40, .inl (fun _ => 0)))]) (w1 := [(h0, .inr (4, [.int 0, .ref q1, .ref q2, .ref q3, .int 0, .ref q4, .ref q5, .ref q6, .int 0, .ref q7, .int 0, .int 0, .ref q8, .int 0, .int 0, .int 0, .int 0])), (q1, .inl (g.1, 105, .inl (upd (upd (fun _ => 0) 1 (nI 20)) 17 (nI 1000))))]) hP hD [0, 1] [2, 3, 4, 5, 6, 7, 8] rfl rfl (by decide) (by decide) hk1 hFc hP1 hD1
  generalize H1 = H at hP hS ⊢
  have hP : va_P D am_cls [(q2, .inl (g.1, 105, .inl (fun _ => 0))), (q3, .inl (g.1, 630, .inl (fun _ => 0))), (q4, .inl (g.1, 210, .inl (fun _ => 0))), (q5, .inl (g.2.1, 2, .inl (fun _ => 0))), (q6, .inl (g.1, 60, .inl (fun _ => 0))), (q7, .inl (g.1, 2135, .inl (fun _ => 0))), (q8, .inl (g.1, 40, .inl (fun _ => 0))), (h0, .inr (4, [.int 0, .ref q1, .ref q2, .ref q3, .int 0, .ref q4, .ref q5, .ref q6, .int 0, .ref q7, .int 0, .int 0, .ref q8, .int 0, .int 0, .int 0, .int 0])), (q1, .inl (g.1, 105, .inl (upd (upd (fun _ => 0) 1 (nI 20)) 17 (nI 1000))))] H := hP
  have hD : va_D A [(q2, .inl (g.1, 105, .inl (fun _ => 0))), (q3, .inl (g.1, 630, .inl (fun _ => 0))), (q4, .inl (g.1, 210, .inl (fun _ => 0))), (q5, .inl (g.2.1, 2, .inl (fun _ => 0))), (q6, .inl (g.1, 60, .inl (fun _ => 0))), (q7, .inl (g.1, 2135, .inl (fun _ => 0))), (q8, .inl (g.1, 40, .inl (fun _ => 0))), (h0, .inr (4, [.int 0, .ref q1, .ref q2, .ref q3, .int 0, .ref q4, .ref q5, .ref q6, .int 0, .ref q7, .int 0, .int 0, .ref q8, .int 0, .int 0, .int 0, .int 0])), (q1, .inl (g.1, 105, .inl (upd (upd (fun _ => 0) 1 (nI 20)) 17 (nI 1000))))] := hD
  refine W.widen (k := 8) (n := 3287) (by omega) (by omega) ?_
  refine lv_iinc (k := 0) (v := nI 1) (lv' := [(1, .int (nI 1)), (0, .ref h0)]) hx hb ci_dZ94 hl rfl (by decide +kernel) (by decide) rfl (fun ls hl => ?_)
  refine lv_goto (tgt := 80) hx hb ci_dZ97 rfl ?_
  refine lv_iload_n hx hb ci_dZ80 rfl (lv_at hl 0 rfl) ?_
  refine lv_iconst (v := nI 5) hx hb ci_dZ81 (by decide +kernel) ?_
  refine lv_icmp_ge (tgt := 100) hx hb ci_dZ82 rfl (fun h => absurd h (by decide +kernel)) (fun _ => ?_)
  refine lv_aload_n hx hb ci_dZ85 rfl (lv_at hl 1 rfl) ?_
  refine lv_iload_n hx hb ci_dZ86 rfl (lv_at hl 0 rfl) ?_
  refine lv_iconst (v := nI 0) hx hb ci_dZ87 (by decide +kernel) ?_
  refine lv_sipush (v := nI 1000) hx hb ci_dZ88 (by decide +kernel) ?_
  have hPc := hP.sub (ws' := [(h0, .inr (4, [.int 0, .ref q1, .ref q2, .ref q3, .int 0, .ref q4, .ref q5, .ref q6, .int 0, .ref q7, .int 0, .int 0, .ref q8, .int 0, .int 0, .int 0, .int 0])), (q1, .inl (g.1, 105, .inl (upd (upd (fun _ => 0) 1 (nI 20)) 17 (nI 1000))))]) [7, 8] rfl
  have hDc := hD.sub (ws' := [(h0, .inr (4, [.int 0, .ref q1, .ref q2, .ref q3, .int 0, .ref q4, .ref q5, .ref q6, .int 0, .ref q7, .int 0, .int 0, .ref q8, .int 0, .int 0, .int 0, .int 0])), (q1, .inl (g.1, 105, .inl (upd (upd (fun _ => 0) 1 (nI 20)) 17 (nI 1000))))]) [7, 8] (by decide) rfl
  have hFc := va_free (wc := [(h0, .inr (4, [.int 0, .ref q1, .ref q2, .ref q3, .int 0, .ref q4, .ref q5, .ref q6, .int 0, .ref q7, .int 0, .int 0, .ref q8, .int 0, .int 0, .int 0, .int 0])), (q1, .inl (g.1, 105, .inl (upd (upd (fun _ => 0) 1 (nI 20)) 17 (nI 1000))))]) hD hS hA [7, 8] rfl
  refine va_callv (va_runV (As := [.int (nI 1), .int (nI 0), .int (nI 1000)]) (rest := []) (n := 3) ⟨hx, hb, hml, hown, hg⟩ (ci_vat l D g h0 q1 H.size [.int 0, .ref q1, .ref q2, .ref q3, .int 0, .ref q4, .ref q5, .ref q6, .int 0, .ref q7, .int 0, .int 0, .ref q8, .int 0, .int 0, .int 0, .int 0] (upd (upd (fun _ => 0) 1 (nI 20)) 17 (nI 1000)) 1 0 (nI 1000) (by decide) rfl) ⟨callB_of (R := { frames := 1, cells := 8, slots := 3287, locals := 23 }) 3 hg (ch_gi (am_good_of (k := 726) rfl rfl)) rfl rfl rfl (hg _ (am_good_of (k := 69) rfl rfl)) (hg _ (am_good_of (k := 723) rfl rfl)) ⟨by decide, by decide, by decide +kernel⟩ ⟨by decide, by decide⟩, (hg _ (am_good_of (k := 725) rfl rfl)), (hg _ (am_good_of (k := 24) rfl rfl))⟩ ⟨ci_blind _ _ _ _ _, va_recv hK hP (ci := 4) (q0 := 7) rfl rfl, fun U hU hW => ⟨rfl, by rw [hU], by rw [hU]; exact hPc, va_K.moved hW.alike hK, hDc.weaken (fun _ _ _ _ => trivial), ci_nw hW hN⟩⟩ rfl rfl hl.1 rfl (lv_room (Nat.le_of_ble_eq_true rfl)) ci_dZ91 ⟨Nat.le_of_ble_eq_true rfl, Nat.le_of_ble_eq_true rfl⟩) hS (fun q _ h => hFc q h) hFc (fun u t H1 locs ht hvm hw hB hz1 hk1 hS => ?_)
  obtain ⟨hP1, hK1, hD1⟩ := hB
  rw [ht] at hP1
  obtain ⟨hP, hD⟩ := va_join (wr := [(q2, .inl (g.1, 105, .inl (fun _ => 0))), (q3, .inl (g.1, 630, .inl (fun _ => 0))), (q4, .inl (g.1, 210, .inl (fun _ => 0))), (q5, .inl (g.2.1, 2, .inl (fun _ => 0))), (q6, .inl (g.1, 60, .inl (fun _ => 0))), (q7, .inl (g.1, 2135, .inl (fun _ => 0))), (q8, .inl (g.1, 40, .inl (fun _ => 0)))]) (w1 := [(h0, .inr (4, [.int 0, .ref q1, .ref q2, .ref q3, .int 0, .ref q4, .ref q5, .ref q6, .int 0, .ref q7, .int 0, .int 0, .ref q8, .int 0, .int 0, .int 0, .int 0])), (q1, .inl (g.1, 105, .inl (upd (upd (upd (fun _ => 0) 1 (nI 20)) 17 (nI 1000)) 25 (nI 1000))))]) hP hD [7, 8] [0, 1, 2, 3, 4, 5, 6] rfl rfl (by decide) (by decide) hk1 hFc hP1 hD1
  generalize H1 = H at hP hS ⊢
  have hP : va_P D am_cls [(q2, .inl (g.1, 105, .inl (fun _ => 0))), (q3, .inl (g.1, 630, .inl (fun _ => 0))), (q4, .inl (g.1, 210, .inl (fun _ => 0))), (q5, .inl (g.2.1, 2, .inl (fun _ => 0))), (q6, .inl (g.1, 60, .inl (fun _ => 0))), (q7, .inl (g.1, 2135, .inl (fun _ => 0))), (q8, .inl (g.1, 40, .inl (fun _ => 0))), (h0, .inr (4, [.int 0, .ref q1, .ref q2, .ref q3, .int 0, .ref q4, .ref q5, .ref q6, .int 0, .ref q7, .int 0, .int 0, .ref q8, .int 0, .int 0, .int 0, .int 0])), (q1, .inl (g.1, 105, .inl (upd (upd (upd (fun _ => 0) 1 (nI 20)) 17 (nI 1000)) 25 (nI 1000))))] H := hP
  have hD : va_D A [(q2, .inl (g.1, 105, .inl (fun _ => 0))), (q3, .inl (g.1, 630, .inl (fun _ => 0))), (q4, .inl (g.1, 210, .inl (fun _ => 0))), (q5, .inl (g.2.1, 2, .inl (fun _ => 0))), (q6, .inl (g.1, 60, .inl (fun _ => 0))), (q7, .inl (g.1, 2135, .inl (fun _ => 0))), (q8, .inl (g.1, 40, .inl (fun _ => 0))), (h0, .inr (4, [.int 0, .ref q1, .ref q2, .ref q3, .int 0, .ref q4, .ref q5, .ref q6, .int 0, .ref q7, .int 0, .int 0, .ref q8, .int 0, .int 0, .int 0, .int 0])), (q1, .inl (g.1, 105, .inl (upd (upd (upd (fun _ => 0) 1 (nI 20)) 17 (nI 1000)) 25 (nI 1000))))] := hD
  refine W.widen (k := 8) (n := 3287) (by omega) (by omega) ?_
  refine lv_iinc (k := 0) (v := nI 2) (lv' := [(1, .int (nI 2)), (0, .ref h0)]) hx hb ci_dZ94 hl rfl (by decide +kernel) (by decide) rfl (fun ls hl => ?_)
  refine lv_goto (tgt := 80) hx hb ci_dZ97 rfl ?_
  refine lv_iload_n hx hb ci_dZ80 rfl (lv_at hl 0 rfl) ?_
  refine lv_iconst (v := nI 5) hx hb ci_dZ81 (by decide +kernel) ?_
  refine lv_icmp_ge (tgt := 100) hx hb ci_dZ82 rfl (fun h => absurd h (by decide +kernel)) (fun _ => ?_)
  refine lv_aload_n hx hb ci_dZ85 rfl (lv_at hl 1 rfl) ?_
  refine lv_iload_n hx hb ci_dZ86 rfl (lv_at hl 0 rfl) ?_
  refine lv_iconst (v := nI 0) hx hb ci_dZ87 (by decide +kernel) ?_
  refine lv_sipush (v := nI 1000) hx hb ci_dZ88 (by decide +kernel) ?_
  have hPc := hP.sub (ws' := [(h0, .inr (4, [.int 0, .ref q1, .ref q2, .ref q3, .int 0, .ref q4, .ref q5, .ref q6, .int 0, .ref q7, .int 0, .int 0, .ref q8, .int 0, .int 0, .int 0, .int 0])), (q1, .inl (g.1, 105, .inl (upd (upd (upd (fun _ => 0) 1 (nI 20)) 17 (nI 1000)) 25 (nI 1000))))]) [7, 8] rfl
  have hDc := hD.sub (ws' := [(h0, .inr (4, [.int 0, .ref q1, .ref q2, .ref q3, .int 0, .ref q4, .ref q5, .ref q6, .int 0, .ref q7, .int 0, .int 0, .ref q8, .int 0, .int 0, .int 0, .int 0])), (q1, .inl (g.1, 105, .inl (upd (upd (upd (fun _ => 0) 1 (nI 20)) 17 (nI 1000)) 25 (nI 1000))))]) [7, 8] (by decide) rfl
  have hFc := va_free (wc := [(h0, .inr (4, [.int 0, .ref q1, .ref q2, .ref q3, .int 0, .ref q4, .ref q5, .ref q6, .int 0, .ref q7, .int 0, .int 0, .ref q8, .int 0, .int 0, .int 0, .int 0])), (q1, .inl (g.1, 105, .inl (upd (upd (upd (fun _ => 0) 1 (nI 20)) 17 (nI 1000)) 25 (nI 1000))))]) hD hS hA [7, 8] rfl
  refine va_callv (va_runV (As := [.int (nI 2), .int (nI 0), .int (nI 1000)]) (rest := []) (n := 3) ⟨hx, hb, hml, hown, hg⟩ (ci_vat l D g h0 q1 H.size [.int 0, .ref q1, .ref q2, .ref q3, .int 0, .ref q4, .ref q5, .ref q6, .int 0, .ref q7, .int 0, .int 0, .ref q8, .int 0, .int 0, .int 0, .int 0] (upd (upd (upd (fun _ => 0) 1 (nI 20)) 17 (nI 1000)) 25 (nI 1000)) 2 0 (nI 1000) (by decide) rfl) ⟨callB_of (R := { frames := 1, cells := 8, slots := 3287, locals := 23 }) 3 hg (ch_gi (am_good_of (k := 726) rfl rfl)) rfl rfl rfl (hg _ (am_good_of (k := 69) rfl rfl)) (hg _ (am_good_of (k := 723) rfl rfl)) ⟨by decide, by decide, by decide +kernel⟩ ⟨by decide, by decide⟩, (hg _ (am_good_of (k := 725) rfl rfl)), (hg _ (am_good_of (k := 24) rfl rfl))⟩ ⟨ci_blind _ _ _ _ _, va_recv hK hP (ci := 4) (q0 := 7) rfl rfl, fun U hU hW => ⟨rfl, by rw [hU], by rw [hU]; exact hPc, va_K.moved hW.alike hK, hDc.weaken (fun _ _ _ _ => trivial), ci_nw hW hN⟩⟩ rfl rfl hl.1 rfl (lv_room (Nat.le_of_ble_eq_true rfl)) ci_dZ91 ⟨Nat.le_of_ble_eq_true rfl, Nat.le_of_ble_eq_true rfl⟩) hS (fun q _ h => hFc q h) hFc (fun u t H1 locs ht hvm hw hB hz1 hk1 hS => ?_)
  obtain ⟨hP1, hK1, hD1⟩ := hB
  rw [ht] at hP1
  obtain ⟨hP, hD⟩ := va_join (wr := [(q2, .inl (g.1, 105, .inl (fun _ => 0))), (q3, .inl (g.1, 630, .inl (fun _ => 0))), (q4, .inl (g.1, 210, .inl (fun _ => 0))), (q5, .inl (g.2.1, 2, .inl (fun _ => 0))), (q6, .inl (g.1, 60, .inl (fun _ => 0))), (q7, .inl (g.1, 2135, .inl (fun _ => 0))), (q8, .inl (g.1, 40, .inl (fun _ => 0)))]) (w1 := [(h0, .inr (4, [.int 0, .ref q1, .ref q2, .ref q3, .int 0, .ref q4, .ref q5, .ref q6, .int 0, .ref q7, .int 0, .int 0, .ref q8, .int 0, .int 0, .int 0, .int 0])), (q1, .inl (g.1, 105, .inl (upd (upd (upd (upd (fun _ => 0) 1 (nI 20)) 17 (nI 1000)) 25 (nI 1000)) 33 (nI 1000))))]) hP hD [7, 8] [0, 1, 2, 3, 4, 5, 6] rfl rfl (by decide) (by decide) hk1 hFc hP1 hD1
  generalize H1 = H at hP hS ⊢
  have hP : va_P D am_cls [(q2, .inl (g.1, 105, .inl (fun _ => 0))), (q3, .inl (g.1, 630, .inl (fun _ => 0))), (q4, .inl (g.1, 210, .inl (fun _ => 0))), (q5, .inl (g.2.1, 2, .inl (fun _ => 0))), (q6, .inl (g.1, 60, .inl (fun _ => 0))), (q7, .inl (g.1, 2135, .inl (fun _ => 0))), (q8, .inl (g.1, 40, .inl (fun _ => 0))), (h0, .inr (4, [.int 0, .ref q1, .ref q2, .ref q3, .int 0, .ref q4, .ref q5, .ref q6, .int 0, .ref q7, .int 0, .int 0, .ref q8, .int 0, .int 0, .int 0, .int 0])), (q1, .inl (g.1, 105, .inl (upd (upd (upd (upd (fun _ => 0) 1 (nI 20)) 17 (nI 1000)) 25 (nI 1000)) 33 (nI 1000))))] H := hP
  have hD : va_D A [(q2, .inl (g.1, 105, .inl (fun _ => 0))), (q3, .inl (g.1, 630, .inl (fun _ => 0))), (q4, .inl (g.1, 210, .inl (fun _ => 0))), (q5, .inl (g.2.1, 2, .inl (fun _ => 0))), (q6, .inl (g.1, 60, .inl (fun _ => 0))), (q7, .inl (g.1, 2135, .inl (fun _ => 0))), (q8, .inl (g.1, 40, .inl (fun _ => 0))), (h0, .inr (4, [.int 0, .ref q1, .ref q2, .ref q3, .int 0, .ref q4, .ref q5, .ref q6, .int 0, .ref q7, .int 0, .int 0, .ref q8, .int 0, .int 0, .int 0, .int 0])), (q1, .inl (g.1, 105, .inl (upd (upd (upd (upd (fun _ => 0) 1 (nI 20)) 17 (nI 1000)) 25 (nI 1000)) 33 (nI 1000))))] := hD
  refine W.widen (k := 8) (n := 3287) (by omega) (by omega) ?_
  refine lv_iinc (k := 0) (v := nI 3) (lv' := [(1, .int (nI 3)), (0, .ref h0)]) hx hb ci_dZ94 hl rfl (by decide +kernel) (by decide) rfl (fun ls hl => ?_)
  refine lv_goto (tgt := 80) hx hb ci_dZ97 rfl ?_
  refine lv_iload_n hx hb ci_dZ80 rfl (lv_at hl 0 rfl) ?_
  refine lv_iconst (v := nI 5) hx hb ci_dZ81 (by decide +kernel) ?_
  refine lv_icmp_ge (tgt := 100) hx hb ci_dZ82 rfl (fun h => absurd h (by decide +kernel)) (fun _ => ?_)
  refine lv_aload_n hx hb ci_dZ85 rfl (lv_at hl 1 rfl) ?_
  refine lv_iload_n hx hb ci_dZ86 rfl (lv_at hl 0 rfl) ?_
  refine lv_iconst (v := nI 0) hx hb ci_dZ87 (by decide +kernel) ?_
  refine lv_sipush (v := nI 1000) hx hb ci_dZ88 (by decide +kernel) ?_
  have hPc := hP.sub (ws' := [(h0, .inr (4, [.int 0, .ref q1, .ref q2, .ref q3, .int 0, .ref q4, .ref q5, .ref q6, .int 0, .ref q7, .int 0, .int 0, .ref q8, .int 0, .int 0, .int 0, .int 0])), (q1, .inl (g.1, 105, .inl (upd (upd (upd (upd (fun _ => 0) 1 (nI 20)) 17 (nI 1000)) 25 (nI 1000)) 33 (nI 1000))))]) [7, 8] rfl
  have hDc := hD.sub (ws' := [(h0, .inr (4, [.int 0, .ref q1, .ref q2, .ref q3, .int 0, .ref q4, .ref q5, .ref q6, .int 0, .ref q7, .int 0, .int 0, .ref q8, .int 0, .int 0, .int 0, .int 0])), (q1, .inl (g.1, 105, .inl (upd (upd (upd (upd (fun _ => 0) 1 (nI 20)) 17 (nI 1000)) 25 (nI 1000)) 33 (nI 1000))))]) [7, 8] (by decide) rfl
  have hFc := va_free (wc := [(h0, .inr (4, [.int 0, .ref q1, .ref q2, .ref q3, .int 0, .ref q4, .ref q5, .ref q6, .int 0, .ref q7, .int 0, .int 0, .ref q8, .int 0, .int 0, .int 0, .int 0])), (q1, .inl (g.1, 105, .inl (upd (upd (upd (upd (fun _ => 0) 1 (nI 20)) 17 (nI 1000)) 25 (nI 1000)) 33 (nI 1000))))]) hD hS hA [7, 8] rfl
  refine va_callv (va_runV (As := [.int (nI 3), .int (nI 0), .int (nI 1000)]) (rest := []) (n := 3) ⟨hx, hb, hml, hown, hg⟩ (ci_vat l D g h0 q1 H.size [.int 0, .ref q1, .ref q2, .ref q3, .int 0, .ref q4, .ref q5, .ref q6, .int 0, .ref q7, .int 0, .int 0, .ref q8, .int 0, .int 0, .int 0, .int 0] (upd (upd (upd (upd (fun _ => 0) 1 (nI 20)) 17 (nI 1000)) 25 (nI 1000)) 33 (nI 1000)) 3 0 (nI 1000) (by decide) rfl) ⟨callB_of (R := { frames := 1, cells := 8, slots := 3287, locals := 23 }) 3 hg (ch_gi (am_good_of (k := 726) rfl rfl)) rfl rfl rfl (hg _ (am_good_of (k := 69) rfl rfl)) (hg _ (am_good_of (k := 723) rfl rfl)) ⟨by decide, by decide, by decide +kernel⟩ ⟨by decide, by decide⟩, (hg _ (am_good_of (k := 725) rfl rfl)), (hg _ (am_good_of (k := 24) rfl rfl))⟩ ⟨ci_blind _ _ _ _ _, va_recv hK hP (ci := 4) (q0 := 7) rfl rfl, fun U hU hW => ⟨rfl, by rw [hU], by rw [hU]; exact hPc, va_K.moved hW.alike hK, hDc.weaken (fun _ _ _ _ => trivial), ci_nw hW hN⟩⟩ rfl rfl hl.1 rfl (lv_room (Nat.le_of_ble_eq_true rfl)) ci_dZ91 ⟨Nat.le_of_ble_eq_true rfl, Nat.le_of_ble_eq_true rfl⟩) hS (fun q _ h => hFc q h) hFc (fun u t H1 locs ht hvm hw hB hz1 hk1 hS => ?_)
  obtain ⟨hP1, hK1, hD1⟩ := hB
  rw [ht] at hP1
  obtain ⟨hP, hD⟩ := va_join (wr := [(q2, .inl (g.1, 105, .inl (fun _ => 0))), (q3, .inl (g.1, 630, .inl (fun _ => 0))), (q4, .inl (g.1, 210, .inl (fun _ => 0))), (q5, .inl (g.2.1, 2, .inl (fun _ => 0))), (q6, .inl (g.1, 60, .inl (fun _ => 0))), (q7, .inl (g.1, 2135, .inl (fun _ => 0))), (q8, .inl (g.1, 40, .inl (fun _ => 0)))]) (w1 := [(h0, .inr (4, [.int 0, .ref q1, .ref q2, .ref q3, .int 0, .ref q4, .ref q5, .ref q6, .int 0, .ref q7, .int 0, .int 0, .ref q8, .int 0, .int 0, .int 0, .int 0])), (q1, .inl (g.1, 105, .inl (upd (upd (upd (upd (upd (fun _ => 0) 1 (nI 20)) 17 (nI 1000)) 25 (nI 1000)) 33 (nI 1000)) 41 (nI 1000))))]) hP hD [7, 8] [0, 1, 2, 3, 4, 5, 6] rfl rfl (by decide) (by decide) hk1 hFc hP1 hD1
  generalize H1 = H at hP hS ⊢
  have hP : va_P D am_cls [(q2, .inl (g.1, 105, .inl (fun _ => 0))), (q3, .inl (g.1, 630, .inl (fun _ => 0))), (q4, .inl (g.1, 210, .inl (fun _ => 0))), (q5, .inl (g.2.1, 2, .inl (fun _ => 0))), (q6, .inl (g.1, 60, .inl (fun _ => 0))), (q7, .inl (g.1, 2135, .inl (fun _ => 0))), (q8, .inl (g.1, 40, .inl (fun _ => 0))), (h0, .inr (4, [.int 0, .ref q1, .ref q2, .ref q3, .int 0, .ref q4, .ref q5, .ref q6, .int 0, .ref q7, .int 0, .int 0, .ref q8, .int 0, .int 0, .int 0, .int 0])), (q1, .inl (g.1, 105, .inl (upd (upd (upd (upd (upd (fun _ => 0) 1 (nI 20)) 17 (nI 1000)) 25 (nI 1000)) 33 (nI 1000)) 41 (nI 1000))))] H := hP
  have hD : va_D A [(q2, .inl (g.1, 105, .inl (fun _ => 0))), (q3, .inl (g.1, 630, .inl (fun _ => 0))), (q4, .inl (g.1, 210, .inl (fun _ => 0))), (q5, .inl (g.2.1, 2, .inl (fun _ => 0))), (q6, .inl (g.1, 60, .inl (fun _ => 0))), (q7, .inl (g.1, 2135, .inl (fun _ => 0))), (q8, .inl (g.1, 40, .inl (fun _ => 0))), (h0, .inr (4, [.int 0, .ref q1, .ref q2, .ref q3, .int 0, .ref q4, .ref q5, .ref q6, .int 0, .ref q7, .int 0, .int 0, .ref q8, .int 0, .int 0, .int 0, .int 0])), (q1, .inl (g.1, 105, .inl (upd (upd (upd (upd (upd (fun _ => 0) 1 (nI 20)) 17 (nI 1000)) 25 (nI 1000)) 33 (nI 1000)) 41 (nI 1000))))] := hD
  refine W.widen (k := 8) (n := 3287) (by omega) (by omega) ?_
  refine lv_iinc (k := 0) (v := nI 4) (lv' := [(1, .int (nI 4)), (0, .ref h0)]) hx hb ci_dZ94 hl rfl (by decide +kernel) (by decide) rfl (fun ls hl => ?_)
  refine lv_goto (tgt := 80) hx hb ci_dZ97 rfl ?_
  refine lv_iload_n hx hb ci_dZ80 rfl (lv_at hl 0 rfl) ?_
  refine lv_iconst (v := nI 5) hx hb ci_dZ81 (by decide +kernel) ?_
  refine lv_icmp_ge (tgt := 100) hx hb ci_dZ82 rfl (fun h => absurd h (by decide +kernel)) (fun _ => ?_)
  refine lv_aload_n hx hb ci_dZ85 rfl (lv_at hl 1 rfl) ?_
  refine lv_iload_n hx hb ci_dZ86 rfl (lv_at hl 0 rfl) ?_
  refine lv_iconst (v := nI 0) hx hb ci_dZ87 (by decide +kernel) ?_
  refine lv_sipush (v := nI 1000) hx hb ci_dZ88 (by decide +kernel) ?_
  have hPc := hP.sub (ws' := [(h0, .inr (4, [.int 0, .ref q1, .ref q2, .ref q3, .int 0, .ref q4, .ref q5, .ref q6, .int 0, .ref q7, .int 0, .int 0, .ref q8, .int 0, .int 0, .int 0, .int 0])), (q1, .inl (g.1, 105, .inl (upd (upd (upd (upd (upd (fun _ => 0) 1 (nI 20)) 17 (nI 1000)) 25 (nI 1000)) 33 (nI 1000)) 41 (nI 1000))))]) [7, 8] rfl
  have hDc := hD.sub (ws' := [(h0, .inr (4, [.int 0, .ref q1, .ref q2, .ref q3, .int 0, .ref q4, .ref q5, .ref q6, .int 0, .ref q7, .int 0, .int 0, .ref q8, .int 0, .int 0, .int 0, .int 0])), (q1, .inl (g.1, 105, .inl (upd (upd (upd (upd (upd (fun _ => 0) 1 (nI 20)) 17 (nI 1000)) 25 (nI 1000)) 33 (nI 1000)) 41 (nI 1000))))]) [7, 8] (by decide) rfl
  have hFc := va_free (wc := [(h0, .inr (4, [.int 0, .ref q1, .ref q2, .ref q3, .int 0, .ref q4, .ref q5, .ref q6, .int 0, .ref q7, .int 0, .int 0, .ref q8, .int 0, .int 0, .int 0, .int 0])), (q1, .inl (g.1, 105, .inl (upd (upd (upd (upd (upd (fun _ => 0) 1 (nI 20)) 17 (nI 1000)) 25 (nI 1000)) 33 (nI 1000)) 41 (nI 1000))))]) hD hS hA [7, 8] rfl
  refine va_callv (va_runV (As := [.int (nI 4), .int (nI 0), .int (nI 1000)]) (rest := []) (n := 3) ⟨hx, hb, hml, hown, hg⟩ (ci_vat l D g h0 q1 H.size [.int 0, .ref q1, .ref q2, .ref q3, .int 0, .ref q4, .ref q5, .ref q6, .int 0, .ref q7, .int 0, .int 0, .ref q8, .int 0, .int 0, .int 0, .int 0] (upd (upd (upd (upd (upd (fun _ => 0) 1 (nI 20)) 17 (nI 1000)) 25 (nI 1000)) 33 (nI 1000)) 41 (nI 1000)) 4 0 (nI 1000) (by decide) rfl) ⟨callB_of (R := { frames := 1, cells := 8, slots := 3287, locals := 23 }) 3 hg (ch_gi (am_good_of (k := 726) rfl rfl)) rfl rfl rfl (hg _ (am_good_of (k := 69) rfl rfl)) (hg _ (am_good_of (k := 723) rfl rfl)) ⟨by decide, by decide, by decide +kernel⟩ ⟨by decide, by decide⟩, (hg _ (am_good_of (k := 725) rfl rfl)), (hg _ (am_good_of (k := 24) rfl rfl))⟩ ⟨ci_blind _ _ _ _ _, va_recv hK hP (ci := 4) (q0 := 7) rfl rfl, fun U hU hW => ⟨rfl, by rw [hU], by rw [hU]; exact hPc, va_K.moved hW.alike hK, hDc.weaken (fun _ _ _ _ => trivial), ci_nw hW hN⟩⟩ rfl rfl hl.1 rfl (lv_room (Nat.le_of_ble_eq_true rfl)) ci_dZ91 ⟨Nat.le_of_ble_eq_true rfl, Nat.le_of_ble_eq_true rfl⟩) hS (fun q _ h => hFc q h) hFc (fun u t H1 locs ht hvm hw hB hz1 hk1 hS => ?_)
  obtain ⟨hP1, hK1, hD1⟩ := hB
  rw [ht] at hP1
  obtain ⟨hP, hD⟩ := va_join (wr := [(q2, .inl (g.1, 105, .inl (fun _ => 0))), (q3, .inl (g.1, 630, .inl (fun _ => 0))), (q4, .inl (g.1, 210, .inl (fun _ => 0))), (q5, .inl (g.2.1, 2, .inl (fun _ => 0))), (q6, .inl (g.1, 60, .inl (fun _ => 0))), (q7, .inl (g.1, 2135, .inl (fun _ => 0))), (q8, .inl (g.1, 40, .inl (fun _ => 0)))]) (w1 := [(h0, .inr (4, [.int 0, .ref q1, .ref q2, .ref q3, .int 0, .ref q4, .ref q5, .ref q6, .int 0, .ref q7, .int 0, .int 0, .ref q8, .int 0, .int 0, .int 0, .int 0])), (q1, .inl (g.1, 105, .inl (upd (upd (upd (upd (upd (upd (fun _ => 0) 1 (nI 20)) 17 (nI 1000)) 25 (nI 1000)) 33 (nI 1000)) 41 (nI 1000)) 49 (nI 1000))))]) hP hD [7, 8] [0, 1, 2, 3, 4, 5, 6] rfl rfl (by decide) (by decide) hk1 hFc hP1 hD1
  generalize H1 = H at hP hS ⊢
  have hP : va_P D am_cls [(q2, .inl (g.1, 105, .inl (fun _ => 0))), (q3, .inl (g.1, 630, .inl (fun _ => 0))), (q4, .inl (g.1, 210, .inl (fun _ => 0))), (q5, .inl (g.2.1, 2, .inl (fun _ => 0))), (q6, .inl (g.1, 60, .inl (fun _ => 0))), (q7, .inl (g.1, 2135, .inl (fun _ => 0))), (q8, .inl (g.1, 40, .inl (fun _ => 0))), (h0, .inr (4, [.int 0, .ref q1, .ref q2, .ref q3, .int 0, .ref q4, .ref q5, .ref q6, .int 0, .ref q7, .int 0, .int 0, .ref q8, .int 0, .int 0, .int 0, .int 0])), (q1, .inl (g.1, 105, .inl (upd (upd (upd (upd (upd (upd (fun _ => 0) 1 (nI 20)) 17 (nI 1000)) 25 (nI 1000)) 33 (nI 1000)) 41 (nI 1000)) 49 (nI 1000))))] H := hP
  have hD : va_D A [(q2, .inl (g.1, 105, .inl (fun _ => 0))), (q3, .inl (g.1, 630, .inl (fun _ => 0))), (q4, .inl (g.1, 210, .inl (fun _ => 0))), (q5, .inl (g.2.1, 2, .inl (fun _ => 0))), (q6, .inl (g.1, 60, .inl (fun _ => 0))), (q7, .inl (g.1, 2135, .inl (fun _ => 0))), (q8, .inl (g.1, 40, .inl (fun _ => 0))), (h0, .inr (4, [.int 0, .ref q1, .ref q2, .ref q3, .int 0, .ref q4, .ref q5, .ref q6, .int 0, .ref q7, .int 0, .int 0, .ref q8, .int 0, .int 0, .int 0, .int 0])), (q1, .inl (g.1, 105, .inl (upd (upd (upd (upd (upd (upd (fun _ => 0) 1 (nI 20)) 17 (nI 1000)) 25 (nI 1000)) 33 (nI 1000)) 41 (nI 1000)) 49 (nI 1000))))] := hD
  refine W.widen (k := 8) (n := 3287) (by omega) (by omega) ?_
  refine lv_iinc (k := 0) (v := nI 5) (lv' := [(1, .int (nI 5)), (0, .ref h0)]) hx hb ci_dZ94 hl rfl (by decide +kernel) (by decide) rfl (fun ls hl => ?_)
  refine lv_goto (tgt := 80) hx hb ci_dZ97 rfl ?_
  refine lv_iload_n hx hb ci_dZ80 rfl (lv_at hl 0 rfl) ?_
  refine lv_iconst (v := nI 5) hx hb ci_dZ81 (by decide +kernel) ?_
  refine lv_icmp_ge (tgt := 100) hx hb ci_dZ82 rfl (fun _ => ?_) (fun h => absurd (by decide +kernel) h)
  have hP := hP.sub (ws' := [(h0, .inr (4, [.int 0, .ref q1, .ref q2, .ref q3, .int 0, .ref q4, .ref q5, .ref q6, .int 0, .ref q7, .int 0, .int 0, .ref q8, .int 0, .int 0, .int 0, .int 0])), (q1, .inl (g.1, 105, .inl (upd (upd (upd (upd (upd (upd (fun _ => 0) 1 (nI 20)) 17 (nI 1000)) 25 (nI 1000)) 33 (nI 1000)) 41 (nI 1000)) 49 (nI 1000)))), (q2, .inl (g.1, 105, .inl (fun _ => 0))), (q3, .inl (g.1, 630, .inl (fun _ => 0))), (q4, .inl (g.1, 210, .inl (fun _ => 0))), (q5, .inl (g.2.1, 2, .inl (fun _ => 0))), (q6, .inl (g.1, 60, .inl (fun _ => 0))), (q7, .inl (g.1, 2135, .inl (fun _ => 0))), (q8, .inl (g.1, 40, .inl (fun _ => 0)))]) [7, 8, 0, 1, 2, 3, 4, 5, 6] rfl
  have hD := hD.sub (ws' := [(h0, .inr (4, [.int 0, .ref q1, .ref q2, .ref q3, .int 0, .ref q4, .ref q5, .ref q6, .int 0, .ref q7, .int 0, .int 0, .ref q8, .int 0, .int 0, .int 0, .int 0])), (q1, .inl (g.1, 105, .inl (upd (upd (upd (upd (upd (upd (fun _ => 0) 1 (nI 20)) 17 (nI 1000)) 25 (nI 1000)) 33 (nI 1000)) 41 (nI 1000)) 49 (nI 1000)))), (q2, .inl (g.1, 105, .inl (fun _ => 0))), (q3, .inl (g.1, 630, .inl (fun _ => 0))), (q4, .inl (g.1, 210, .inl (fun _ => 0))), (q5, .inl (g.2.1, 2, .inl (fun _ => 0))), (q6, .inl (g.1, 60, .inl (fun _ => 0))), (q7, .inl (g.1, 2135, .inl (fun _ => 0))), (q8, .inl (g.1, 40, .inl (fun _ => 0)))]) [7, 8, 0, 1, 2, 3, 4, 5, 6] (by decide) rfl
  refine W.widen (k := 8) (n := 3287) (Nat.le_of_ble_eq_true rfl) (Nat.le_of_ble_eq_true rfl) ?_
  exact W.vret hx hb hr (fun t ht hW => ⟨⟨(), rfl, trivial, q1, q2, q3, q4, q5, q6, q7, q8, by rw [ht]; exact hP, va_K.moved hW.alike hK, hD⟩, hS.F ht⟩) hS.2.2 ci_dZ100
