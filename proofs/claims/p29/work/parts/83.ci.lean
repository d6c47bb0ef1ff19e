/-! the constructors, by contract: written by wip/p29/mkC.py -/
def ci_yS : MethodName := ⟨"DyeVats$State", "<init>", "()V"⟩
abbrev ci_bS : ByteArray := prog_3_method_1_code
def ci_yD : MethodName := ⟨"DyeVats$Days", "<init>", "()V"⟩
abbrev ci_bD : ByteArray := prog_2_method_1_code
def ci_yT : MethodName := ⟨"DyeVats$Text", "<init>", "()V"⟩
abbrev ci_bT : ByteArray := prog_4_method_1_code
def ci_yV : MethodName := ⟨"DyeVats", "<init>", "()V"⟩
abbrev ci_bV : ByteArray := prog_1_method_1_code
theorem ci_def0 : ∀ j, j < am_nf 0 → defaultValue (am_ty 0 j) = vp_V [.null, .null, .int 0, .int 0, .int 0] j := by decide +kernel
theorem ci_def1 : ∀ j, j < am_nf 1 → defaultValue (am_ty 1 j) = vp_V [.null] j := by decide +kernel
theorem ci_def2 : ∀ j, j < am_nf 2 → defaultValue (am_ty 2 j) = vp_V [.null, .int 0, .null, .int 0, .null, .int 0, .int 0] j := by decide +kernel
theorem ci_def3 : ∀ j, j < am_nf 3 → defaultValue (am_ty 3 j) = vp_V [.null, .null, .null, .null, .null, .null, .null, .null, .int 0] j := by decide +kernel
def ch_ws (y : MethodName) (b : ByteArray) (n : Nat) (r : Option FieldType) : List Jvm.Cond := Jvm.Cond.code y b n r :: am_good
theorem ch_gi {y : MethodName} {b : ByteArray} {n : Nat} {r : Option FieldType} (h : Jvm.Cond.code y b n r ∈ am_good) : GoodIn am_good (ch_ws y b n r) := by
  intro w hw
  rcases List.mem_cons.mp hw with rfl | hw
  · exact am_good_gi _ h
  · exact am_good_gi _ hw
/-- the words of nest mates that the constructors link -/
def ci_n (U : State) : Prop := va_Nw (.methodLinkNest "DyeVats" 11 ci_yS "DyeVats") U ∧ va_Nw (.methodLinkNest "DyeVats" 21 ci_yD "DyeVats") U ∧ va_Nw (.methodLinkNest "DyeVats" 28 ci_yT "DyeVats") U ∧ va_Nw (.methodLinkNest "DyeVats$Days" 11 ci_yS "DyeVats") U
theorem ci_nw {s U : State} (hW : s.WarmedH U.vm) (h : ci_n s) : ci_n U := ⟨va_Nw.warmM hW h.1, va_Nw.warmM hW h.2.1, va_Nw.warmM hW h.2.2.1, va_Nw.warmM hW h.2.2.2⟩
def ci_Pre (D : va_G) (g : ClassId × ClassId × Nat) (ws : va_W) (sz : Nat) (U : State) : Prop := U.heap.size = sz ∧ va_P D am_cls ws U.heap ∧ va_K D am_cls (am_tys g) U ∧ va_D (fun _ => True) ws ∧ ci_n U
theorem ci_blind (av : List Value) (D : va_G) (g : ClassId × ClassId × Nat) (ws : va_W) (sz : Nat) : FrameBlind (va_Pc av (ci_Pre D g ws sz)) := by
  rintro v U g' mk ⟨h0, h1, h2, h3, h4, h5⟩
  exact ⟨h0, h1, h2, va_K.moved (u := U) (U := U.calling g' mk v) (Vm.Alike.refl U.vm) h3, h4, ci_nw (s := U) (U := U.calling g' mk v) (State.WarmedH.refl U) h5⟩
section NW
variable {p : Program} {l : Launch} {e : Env} {R : Room} {s : State} {m : MethodId} {args : Array Value} {below : List Frame} {meth : Method} {c : Code} {H H0 : Heap} {locs : List Loc} {cells slots : Nat} {Q : State → Prop}
variable {cc : ByteArray} {pc : Nat} {ls : Array Slot} {rest : List Value} {D : va_G} {g : ClassId × ClassId × Nat} {A : Nat → Prop} {ws : va_W}
theorem nw_z (hexec : p.tables.exec = Jvm.exec) (hb : c.code = cc) (harr : (Jvm.Cond.arrayClass .boolean).before args s = true) (hK : va_K D am_cls (am_tys g) s) (hP : va_P D am_cls ws H) (hD : va_D A ws) (hS : va_S A H0 H locs) (hA : ∀ q, H0.size ≤ q → A q) {n : Int32} {N' : Nat} (hn : n = nI N') (hN : N' ≤ 5000) (hcells : cells + 1 ≤ R.cells) (hslots : slots + N' ≤ R.slots) (hdg : decode cc pc = .ok (.newarray .boolean, 2))
    (kk : ∀ (q : Nat) (H1 : Heap), va_P D am_cls (ws ++ [(q, .inl (g.2.1, N', .inl (fun _ => 0)))]) H1 → va_D A (ws ++ [(q, .inl (g.2.1, N', .inl (fun _ => 0)))]) → va_S A H0 H1 locs → W p l e R s m args below meth c H1 locs (cells + 1) (slots + N') Q (F0 m (pc + 2) ls (.ref q :: rest))) : W p l e R s m args below meth c H locs cells slots Q (F0 m pc ls (.int n :: rest)) := by
  subst hn
  refine va_newa (atype := .boolean) (ty := .boolean) hexec hb harr rfl hK hP hD hS hA (N' := N') (a0 := (N', .inl (fun _ => 0))) (fun cA => rfl) (nI_pos (by omega)) (nI_clamp (by omega)) (by show N' * 1 ≤ _; omega) hcells hslots hdg (fun q cA H1 hK1 hP1 hD1 hS1 => ?_)
  have e : cA = g.2.1 := Option.some.inj ((va_nm_boolean (hK1.2 2 (cA, .boolean) rfl).2).symm.trans (va_nm_boolean (hK.2 1 (g.2.1, .boolean) rfl).2))
  subst e
  exact kk q H1 hP1 hD1 hS1
end NW
theorem ci_dS0 : decode ci_bS 0 = .ok (.aload_n 0, 1) := by decide +kernel
theorem ci_dS1 : decode ci_bS 1 = .ok (.invokespecial 3, 3) := by decide +kernel
theorem ci_dS4 : decode ci_bS 4 = .ok (.aload_n 0, 1) := by decide +kernel
theorem ci_dS5 : decode ci_bS 5 = .ok (.bipush 105, 2) := by decide +kernel
theorem ci_dS7 : decode ci_bS 7 = .ok (.newarray .int, 2) := by decide +kernel
theorem ci_dS9 : decode ci_bS 9 = .ok (.putfield 9, 3) := by decide +kernel
theorem ci_dS12 : decode ci_bS 12 = .ok (.return_, 1) := by decide +kernel
set_option maxHeartbeats 8000000 in
set_option maxRecDepth 200000 in
theorem ci_S (l : Launch) (D : va_G) (g : ClassId × ClassId × Nat) (h0 sz : Nat) : Met l ci_yS (ch_ws ci_yS ci_bS 1 none) ({ frames := 1, cells := 1, slots := 105, locals := 12 }) (va_Pc [.ref h0] (ci_Pre D g [(h0, .inr (1, [.null]))] sz)) (va_Qv (fun (_ : Unit) => True) (fun _ t => ∃ q1 : Nat, va_P D am_cls [(h0, .inr (1, [.ref q1])), (q1, .inl (g.1, 105, .inl (fun _ => 0)))] t.heap ∧ va_K D am_cls (am_tys g) t ∧ va_D (va_A [(h0, .inr (1, [.null]))] sz) [(h0, .inr (1, [.ref q1])), (q1, .inl (g.1, 105, .inl (fun _ => 0)))]) (va_A [(h0, .inr (1, [.null]))] sz)) 1 105 (va_A [(h0, .inr (1, [.null]))] sz) := by
  refine Met.ofW (cc := ci_bS) (maxL := 1) (ret := none) (by decide) rfl ?_
  intro p e s m args below meth c s₁ B hml hv
  obtain ⟨rfl, hsz, hP, hK, hD0, hN⟩ := hv
  have hx := B.exec
  have hb := B.bytes
  have hr := B.returns
  have hts := atoms_spec (ws := ch_ws ci_yS ci_bS 1 none) B.pre
  have hown : s.vm.findClass "DyeVats$State" = some m.cls := findClass_of_methodNamed B.named
  have hlocks := B.notSynchronized
  have hin : meth.name = "<init>" := (name_of_methodNamed B.named B.method).1
  have hg : ∀ w ∈ am_good, w.before ([.ref h0] : List Value).toArray s = true := fun w h => hts w (List.mem_cons_of_mem _ h)
  subst hsz
  have hD := hD0.self (sz := s.heap.size)
  generalize hAe : va_A [(h0, .inr (1, [.null]))] s.heap.size = A at hD ⊢
  have hA : ∀ q : Nat, s.heap.size ≤ q → A q := fun q h => by rw [← hAe]; exact Or.inr h
  have hS : va_S A s.heap s.heap [] := va_S.rf
  have hl := lv_entry ([.ref h0]) (n := 1) (Nat.le_of_ble_eq_true rfl)
  rw [lg_entry_eq]
  generalize (lg_sl ([.ref h0]) ++ List.replicate (1 - (lg_sl ([.ref h0])).length) Slot.unset).toArray = ls at hl ⊢
  have hl : lv_has ls 1 [(0, .ref h0)] := hl
  refine lv_aload_n hx hb ci_dS0 rfl (lv_at hl 0 rfl) ?_
  refine W.objInit hx hb hown (hg _ (am_good_of (k := 42) rfl rfl)) (hg _ (am_good_of (k := 35) rfl rfl)) (hg _ (am_good_of (k := 36) rfl rfl)) rfl (by rw [hml]; exact hl.1) rfl ci_dS1 (Nat.le_of_ble_eq_true rfl) (Nat.le_of_ble_eq_true rfl) ?_
  refine W.eq (g2 := F0 m 4 ls []) rfl ?_
  refine lv_aload_n hx hb ci_dS4 rfl (lv_at hl 0 rfl) ?_
  refine lv_bipush (v := nI 105) hx hb ci_dS5 (by decide +kernel) ?_
  refine nw_i (N' := 105) hx hb (hg _ (am_good_of (k := 49) rfl rfl)) hK hP hD hS hA rfl (by decide) (Nat.le_of_ble_eq_true rfl) (Nat.le_of_ble_eq_true rfl) ci_dS7 (fun q1 H hP hD hS => ?_)
  have hP : va_P D am_cls [(h0, .inr (1, [.null])), (q1, .inl (g.1, 105, .inl (fun _ => 0)))] H := hP
  have hD : va_D A [(h0, .inr (1, [.null])), (q1, .inl (g.1, 105, .inl (fun _ => 0)))] := hD
  refine W.widen (k := 1) (n := 105) (by omega) (by omega) ?_
  refine va_putF (D := D) (ci := 1) (v := .ref q1) (ty := .array .int) (C := am_Rn 1) (T := am_T 1) (N := am_nf 1) hx hb hg (am_hin (x := 1) (by decide)) (am_ty 1) (am_tyok (x := 1) (by decide)) (am_nmok (x := 1) (by decide)) hown hK hP hD hS 0 rfl rfl 0 (by decide) (hg _ (am_good_of (k := 43) rfl rfl)) (fun _ h9 => h9) rfl hin rfl (by decide +kernel) rfl rfl (Nat.le_of_ble_eq_true rfl) ci_dS9 (fun H locs hP hD hS => ?_)
  have hP : va_P D am_cls [(h0, .inr (1, [.ref q1])), (q1, .inl (g.1, 105, .inl (fun _ => 0)))] H := hP
  have hD : va_D A [(h0, .inr (1, [.ref q1])), (q1, .inl (g.1, 105, .inl (fun _ => 0)))] := hD
  refine W.widen (k := 1) (n := 105) (Nat.le_of_ble_eq_true rfl) (Nat.le_of_ble_eq_true rfl) ?_
  exact W.vret hx hb hr (fun t ht hW => ⟨⟨(), rfl, trivial, q1, by rw [ht]; exact hP, va_K.moved hW.alike hK, hD⟩, hS.F ht⟩) hS.2.2 ci_dS12
theorem ci_dT0 : decode ci_bT 0 = .ok (.aload_n 0, 1) := by decide +kernel
theorem ci_dT1 : decode ci_bT 1 = .ok (.invokespecial 3, 3) := by decide +kernel
theorem ci_dT4 : decode ci_bT 4 = .ok (.aload_n 0, 1) := by decide +kernel
theorem ci_dT5 : decode ci_bT 5 = .ok (.bipush 60, 2) := by decide +kernel
theorem ci_dT7 : decode ci_bT 7 = .ok (.newarray .int, 2) := by decide +kernel
theorem ci_dT9 : decode ci_bT 9 = .ok (.putfield 9, 3) := by decide +kernel
theorem ci_dT12 : decode ci_bT 12 = .ok (.aload_n 0, 1) := by decide +kernel
theorem ci_dT13 : decode ci_bT 13 = .ok (.iconst 0, 1) := by decide +kernel
theorem ci_dT14 : decode ci_bT 14 = .ok (.putfield 15, 3) := by decide +kernel
theorem ci_dT17 : decode ci_bT 17 = .ok (.aload_n 0, 1) := by decide +kernel
theorem ci_dT18 : decode ci_bT 18 = .ok (.bipush 40, 2) := by decide +kernel
theorem ci_dT20 : decode ci_bT 20 = .ok (.newarray .int, 2) := by decide +kernel
theorem ci_dT22 : decode ci_bT 22 = .ok (.putfield 19, 3) := by decide +kernel
theorem ci_dT25 : decode ci_bT 25 = .ok (.aload_n 0, 1) := by decide +kernel
theorem ci_dT26 : decode ci_bT 26 = .ok (.iconst 0, 1) := by decide +kernel
theorem ci_dT27 : decode ci_bT 27 = .ok (.putfield 22, 3) := by decide +kernel
theorem ci_dT30 : decode ci_bT 30 = .ok (.aload_n 0, 1) := by decide +kernel
theorem ci_dT31 : decode ci_bT 31 = .ok (.iconst 5, 1) := by decide +kernel
theorem ci_dT32 : decode ci_bT 32 = .ok (.newarray .int, 2) := by decide +kernel
theorem ci_dT34 : decode ci_bT 34 = .ok (.putfield 25, 3) := by decide +kernel
theorem ci_dT37 : decode ci_bT 37 = .ok (.aload_n 0, 1) := by decide +kernel
theorem ci_dT38 : decode ci_bT 38 = .ok (.iconst 0, 1) := by decide +kernel
theorem ci_dT39 : decode ci_bT 39 = .ok (.putfield 28, 3) := by decide +kernel
theorem ci_dT42 : decode ci_bT 42 = .ok (.aload_n 0, 1) := by decide +kernel
theorem ci_dT43 : decode ci_bT 43 = .ok (.iconst (-1), 1) := by decide +kernel
theorem ci_dT44 : decode ci_bT 44 = .ok (.putfield 31, 3) := by decide +kernel
theorem ci_dT47 : decode ci_bT 47 = .ok (.return_, 1) := by decide +kernel
set_option maxHeartbeats 8000000 in
set_option maxRecDepth 200000 in
theorem ci_T (l : Launch) (D : va_G) (g : ClassId × ClassId × Nat) (h0 sz : Nat) : Met l ci_yT (ch_ws ci_yT ci_bT 1 none) ({ frames := 1, cells := 3, slots := 105, locals := 12 }) (va_Pc [.ref h0] (ci_Pre D g [(h0, .inr (2, [.null, .int 0, .null, .int 0, .null, .int 0, .int 0]))] sz)) (va_Qv (fun (_ : Unit) => True) (fun _ t => ∃ q1 q2 q3 : Nat, va_P D am_cls [(h0, .inr (2, [.ref q1, .int (nI 0), .ref q2, .int (nI 0), .ref q3, .int (nI 0), .int (-nI 1)])), (q1, .inl (g.1, 60, .inl (fun _ => 0))), (q2, .inl (g.1, 40, .inl (fun _ => 0))), (q3, .inl (g.1, 5, .inl (fun _ => 0)))] t.heap ∧ va_K D am_cls (am_tys g) t ∧ va_D (va_A [(h0, .inr (2, [.null, .int 0, .null, .int 0, .null, .int 0, .int 0]))] sz) [(h0, .inr (2, [.ref q1, .int (nI 0), .ref q2, .int (nI 0), .ref q3, .int (nI 0), .int (-nI 1)])), (q1, .inl (g.1, 60, .inl (fun _ => 0))), (q2, .inl (g.1, 40, .inl (fun _ => 0))), (q3, .inl (g.1, 5, .inl (fun _ => 0)))]) (va_A [(h0, .inr (2, [.null, .int 0, .null, .int 0, .null, .int 0, .int 0]))] sz)) 3 105 (va_A [(h0, .inr (2, [.null, .int 0, .null, .int 0, .null, .int 0, .int 0]))] sz) := by
  refine Met.ofW (cc := ci_bT) (maxL := 1) (ret := none) (by decide) rfl ?_
  intro p e s m args below meth c s₁ B hml hv
  obtain ⟨rfl, hsz, hP, hK, hD0, hN⟩ := hv
  have hx := B.exec
  have hb := B.bytes
  have hr := B.returns
  have hts := atoms_spec (ws := ch_ws ci_yT ci_bT 1 none) B.pre
  have hown : s.vm.findClass "DyeVats$Text" = some m.cls := findClass_of_methodNamed B.named
  have hlocks := B.notSynchronized
  have hin : meth.name = "<init>" := (name_of_methodNamed B.named B.method).1
  have hg : ∀ w ∈ am_good, w.before ([.ref h0] : List Value).toArray s = true := fun w h => hts w (List.mem_cons_of_mem _ h)
  subst hsz
  have hD := hD0.self (sz := s.heap.size)
  generalize hAe : va_A [(h0, .inr (2, [.null, .int 0, .null, .int 0, .null, .int 0, .int 0]))] s.heap.size = A at hD ⊢
  have hA : ∀ q : Nat, s.heap.size ≤ q → A q := fun q h => by rw [← hAe]; exact Or.inr h
  have hS : va_S A s.heap s.heap [] := va_S.rf
  have hl := lv_entry ([.ref h0]) (n := 1) (Nat.le_of_ble_eq_true rfl)
  rw [lg_entry_eq]
  generalize (lg_sl ([.ref h0]) ++ List.replicate (1 - (lg_sl ([.ref h0])).length) Slot.unset).toArray = ls at hl ⊢
  have hl : lv_has ls 1 [(0, .ref h0)] := hl
  refine lv_aload_n hx hb ci_dT0 rfl (lv_at hl 0 rfl) ?_
  refine W.objInit hx hb hown (hg _ (am_good_of (k := 81) rfl rfl)) (hg _ (am_good_of (k := 35) rfl rfl)) (hg _ (am_good_of (k := 36) rfl rfl)) rfl (by rw [hml]; exact hl.1) rfl ci_dT1 (Nat.le_of_ble_eq_true rfl) (Nat.le_of_ble_eq_true rfl) ?_
  refine W.eq (g2 := F0 m 4 ls []) rfl ?_
  refine lv_aload_n hx hb ci_dT4 rfl (lv_at hl 0 rfl) ?_
  refine lv_bipush (v := nI 60) hx hb ci_dT5 (by decide +kernel) ?_
  refine nw_i (N' := 60) hx hb (hg _ (am_good_of (k := 49) rfl rfl)) hK hP hD hS hA rfl (by decide) (Nat.le_of_ble_eq_true rfl) (Nat.le_of_ble_eq_true rfl) ci_dT7 (fun q1 H hP hD hS => ?_)
  have hP : va_P D am_cls [(h0, .inr (2, [.null, .int 0, .null, .int 0, .null, .int 0, .int 0])), (q1, .inl (g.1, 60, .inl (fun _ => 0)))] H := hP
  have hD : va_D A [(h0, .inr (2, [.null, .int 0, .null, .int 0, .null, .int 0, .int 0])), (q1, .inl (g.1, 60, .inl (fun _ => 0)))] := hD
  refine W.widen (k := 1) (n := 60) (by omega) (by omega) ?_
  refine va_putF (D := D) (ci := 2) (v := .ref q1) (ty := .array .int) (C := am_Rn 2) (T := am_T 2) (N := am_nf 2) hx hb hg (am_hin (x := 2) (by decide)) (am_ty 2) (am_tyok (x := 2) (by decide)) (am_nmok (x := 2) (by decide)) hown hK hP hD hS 0 rfl rfl 0 (by decide) (hg _ (am_good_of (k := 82) rfl rfl)) (fun _ h9 => h9) rfl hin rfl (by decide +kernel) rfl rfl (Nat.le_of_ble_eq_true rfl) ci_dT9 (fun H locs hP hD hS => ?_)
  have hP : va_P D am_cls [(h0, .inr (2, [.ref q1, .int 0, .null, .int 0, .null, .int 0, .int 0])), (q1, .inl (g.1, 60, .inl (fun _ => 0)))] H := hP
  have hD : va_D A [(h0, .inr (2, [.ref q1, .int 0, .null, .int 0, .null, .int 0, .int 0])), (q1, .inl (g.1, 60, .inl (fun _ => 0)))] := hD
  refine lv_aload_n hx hb ci_dT12 rfl (lv_at hl 0 rfl) ?_
  refine lv_iconst (v := nI 0) hx hb ci_dT13 (by decide +kernel) ?_
  refine va_put (D := D) (ci := 2) (v := .int (nI 0)) (ty := .int) (C := am_Rn 2) (T := am_T 2) (N := am_nf 2) hx hb hg (am_hin (x := 2) (by decide)) (am_ty 2) (am_tyok (x := 2) (by decide)) (am_nmok (x := 2) (by decide)) hown hK hP hD hS 0 rfl rfl 1 (by decide) (hg _ (am_good_of (k := 83) rfl rfl)) (fun _ h9 => h9) rfl (by decide +kernel) rfl rfl (Nat.le_of_ble_eq_true rfl) ci_dT14 (fun H locs hP hD hS => ?_)
  have hP : va_P D am_cls [(h0, .inr (2, [.ref q1, .int (nI 0), .null, .int 0, .null, .int 0, .int 0])), (q1, .inl (g.1, 60, .inl (fun _ => 0)))] H := hP
  have hD : va_D A [(h0, .inr (2, [.ref q1, .int (nI 0), .null, .int 0, .null, .int 0, .int 0])), (q1, .inl (g.1, 60, .inl (fun _ => 0)))] := hD
  refine lv_aload_n hx hb ci_dT17 rfl (lv_at hl 0 rfl) ?_
  refine lv_bipush (v := nI 40) hx hb ci_dT18 (by decide +kernel) ?_
  refine nw_i (N' := 40) hx hb (hg _ (am_good_of (k := 49) rfl rfl)) hK hP hD hS hA rfl (by decide) (Nat.le_of_ble_eq_true rfl) (Nat.le_of_ble_eq_true rfl) ci_dT20 (fun q2 H hP hD hS => ?_)
  have hP : va_P D am_cls [(h0, .inr (2, [.ref q1, .int (nI 0), .null, .int 0, .null, .int 0, .int 0])), (q1, .inl (g.1, 60, .inl (fun _ => 0))), (q2, .inl (g.1, 40, .inl (fun _ => 0)))] H := hP
  have hD : va_D A [(h0, .inr (2, [.ref q1, .int (nI 0), .null, .int 0, .null, .int 0, .int 0])), (q1, .inl (g.1, 60, .inl (fun _ => 0))), (q2, .inl (g.1, 40, .inl (fun _ => 0)))] := hD
  refine W.widen (k := 2) (n := 100) (by omega) (by omega) ?_
  refine va_putF (D := D) (ci := 2) (v := .ref q2) (ty := .array .int) (C := am_Rn 2) (T := am_T 2) (N := am_nf 2) hx hb hg (am_hin (x := 2) (by decide)) (am_ty 2) (am_tyok (x := 2) (by decide)) (am_nmok (x := 2) (by decide)) hown hK hP hD hS 0 rfl rfl 2 (by decide) (hg _ (am_good_of (k := 84) rfl rfl)) (fun _ h9 => h9) rfl hin rfl (by decide +kernel) rfl rfl (Nat.le_of_ble_eq_true rfl) ci_dT22 (fun H locs hP hD hS => ?_)
  have hP : va_P D am_cls [(h0, .inr (2, [.ref q1, .int (nI 0), .ref q2, .int 0, .null, .int 0, .int 0])), (q1, .inl (g.1, 60, .inl (fun _ => 0))), (q2, .inl (g.1, 40, .inl (fun _ => 0)))] H := hP
  have hD : va_D A [(h0, .inr (2, [.ref q1, .int (nI 0), .ref q2, .int 0, .null, .int 0, .int 0])), (q1, .inl (g.1, 60, .inl (fun _ => 0))), (q2, .inl (g.1, 40, .inl (fun _ => 0)))] := hD
  refine lv_aload_n hx hb ci_dT25 rfl (lv_at hl 0 rfl) ?_
  refine lv_iconst (v := nI 0) hx hb ci_dT26 (by decide +kernel) ?_
  refine va_put (D := D) (ci := 2) (v := .int (nI 0)) (ty := .int) (C := am_Rn 2) (T := am_T 2) (N := am_nf 2) hx hb hg (am_hin (x := 2) (by decide)) (am_ty 2) (am_tyok (x := 2) (by decide)) (am_nmok (x := 2) (by decide)) hown hK hP hD hS 0 rfl rfl 3 (by decide) (hg _ (am_good_of (k := 85) rfl rfl)) (fun _ h9 => h9) rfl (by decide +kernel) rfl rfl (Nat.le_of_ble_eq_true rfl) ci_dT27 (fun H locs hP hD hS => ?_)
  have hP : va_P D am_cls [(h0, .inr (2, [.ref q1, .int (nI 0), .ref q2, .int (nI 0), .null, .int 0, .int 0])), (q1, .inl (g.1, 60, .inl (fun _ => 0))), (q2, .inl (g.1, 40, .inl (fun _ => 0)))] H := hP
  have hD : va_D A [(h0, .inr (2, [.ref q1, .int (nI 0), .ref q2, .int (nI 0), .null, .int 0, .int 0])), (q1, .inl (g.1, 60, .inl (fun _ => 0))), (q2, .inl (g.1, 40, .inl (fun _ => 0)))] := hD
  refine lv_aload_n hx hb ci_dT30 rfl (lv_at hl 0 rfl) ?_
  refine lv_iconst (v := nI 5) hx hb ci_dT31 (by decide +kernel) ?_
  refine nw_i (N' := 5) hx hb (hg _ (am_good_of (k := 49) rfl rfl)) hK hP hD hS hA rfl (by decide) (Nat.le_of_ble_eq_true rfl) (Nat.le_of_ble_eq_true rfl) ci_dT32 (fun q3 H hP hD hS => ?_)
  have hP : va_P D am_cls [(h0, .inr (2, [.ref q1, .int (nI 0), .ref q2, .int (nI 0), .null, .int 0, .int 0])), (q1, .inl (g.1, 60, .inl (fun _ => 0))), (q2, .inl (g.1, 40, .inl (fun _ => 0))), (q3, .inl (g.1, 5, .inl (fun _ => 0)))] H := hP
  have hD : va_D A [(h0, .inr (2, [.ref q1, .int (nI 0), .ref q2, .int (nI 0), .null, .int 0, .int 0])), (q1, .inl (g.1, 60, .inl (fun _ => 0))), (q2, .inl (g.1, 40, .inl (fun _ => 0))), (q3, .inl (g.1, 5, .inl (fun _ => 0)))] := hD
  refine W.widen (k := 3) (n := 105) (by omega) (by omega) ?_
  refine va_putF (D := D) (ci := 2) (v := .ref q3) (ty := .array .int) (C := am_Rn 2) (T := am_T 2) (N := am_nf 2) hx hb hg (am_hin (x := 2) (by decide)) (am_ty 2) (am_tyok (x := 2) (by decide)) (am_nmok (x := 2) (by decide)) hown hK hP hD hS 0 rfl rfl 4 (by decide) (hg _ (am_good_of (k := 86) rfl rfl)) (fun _ h9 => h9) rfl hin rfl (by decide +kernel) rfl rfl (Nat.le_of_ble_eq_true rfl) ci_dT34 (fun H locs hP hD hS => ?_)
  have hP : va_P D am_cls [(h0, .inr (2, [.ref q1, .int (nI 0), .ref q2, .int (nI 0), .ref q3, .int 0, .int 0])), (q1, .inl (g.1, 60, .inl (fun _ => 0))), (q2, .inl (g.1, 40, .inl (fun _ => 0))), (q3, .inl (g.1, 5, .inl (fun _ => 0)))] H := hP
  have hD : va_D A [(h0, .inr (2, [.ref q1, .int (nI 0), .ref q2, .int (nI 0), .ref q3, .int 0, .int 0])), (q1, .inl (g.1, 60, .inl (fun _ => 0))), (q2, .inl (g.1, 40, .inl (fun _ => 0))), (q3, .inl (g.1, 5, .inl (fun _ => 0)))] := hD
  refine lv_aload_n hx hb ci_dT37 rfl (lv_at hl 0 rfl) ?_
  refine lv_iconst (v := nI 0) hx hb ci_dT38 (by decide +kernel) ?_
  refine va_put (D := D) (ci := 2) (v := .int (nI 0)) (ty := .int) (C := am_Rn 2) (T := am_T 2) (N := am_nf 2) hx hb hg (am_hin (x := 2) (by decide)) (am_ty 2) (am_tyok (x := 2) (by decide)) (am_nmok (x := 2) (by decide)) hown hK hP hD hS 0 rfl rfl 5 (by decide) (hg _ (am_good_of (k := 87) rfl rfl)) (fun _ h9 => h9) rfl (by decide +kernel) rfl rfl (Nat.le_of_ble_eq_true rfl) ci_dT39 (fun H locs hP hD hS => ?_)
  have hP : va_P D am_cls [(h0, .inr (2, [.ref q1, .int (nI 0), .ref q2, .int (nI 0), .ref q3, .int (nI 0), .int 0])), (q1, .inl (g.1, 60, .inl (fun _ => 0))), (q2, .inl (g.1, 40, .inl (fun _ => 0))), (q3, .inl (g.1, 5, .inl (fun _ => 0)))] H := hP
  have hD : va_D A [(h0, .inr (2, [.ref q1, .int (nI 0), .ref q2, .int (nI 0), .ref q3, .int (nI 0), .int 0])), (q1, .inl (g.1, 60, .inl (fun _ => 0))), (q2, .inl (g.1, 40, .inl (fun _ => 0))), (q3, .inl (g.1, 5, .inl (fun _ => 0)))] := hD
  refine lv_aload_n hx hb ci_dT42 rfl (lv_at hl 0 rfl) ?_
  refine lv_iconst (v := -nI 1) hx hb ci_dT43 (by decide +kernel) ?_
  refine va_put (D := D) (ci := 2) (v := .int (-nI 1)) (ty := .int) (C := am_Rn 2) (T := am_T 2) (N := am_nf 2) hx hb hg (am_hin (x := 2) (by decide)) (am_ty 2) (am_tyok (x := 2) (by decide)) (am_nmok (x := 2) (by decide)) hown hK hP hD hS 0 rfl rfl 6 (by decide) (hg _ (am_good_of (k := 88) rfl rfl)) (fun _ h9 => h9) rfl (by decide +kernel) rfl rfl (Nat.le_of_ble_eq_true rfl) ci_dT44 (fun H locs hP hD hS => ?_)
  have hP : va_P D am_cls [(h0, .inr (2, [.ref q1, .int (nI 0), .ref q2, .int (nI 0), .ref q3, .int (nI 0), .int (-nI 1)])), (q1, .inl (g.1, 60, .inl (fun _ => 0))), (q2, .inl (g.1, 40, .inl (fun _ => 0))), (q3, .inl (g.1, 5, .inl (fun _ => 0)))] H := hP
  have hD : va_D A [(h0, .inr (2, [.ref q1, .int (nI 0), .ref q2, .int (nI 0), .ref q3, .int (nI 0), .int (-nI 1)])), (q1, .inl (g.1, 60, .inl (fun _ => 0))), (q2, .inl (g.1, 40, .inl (fun _ => 0))), (q3, .inl (g.1, 5, .inl (fun _ => 0)))] := hD
  refine W.widen (k := 3) (n := 105) (Nat.le_of_ble_eq_true rfl) (Nat.le_of_ble_eq_true rfl) ?_
  exact W.vret hx hb hr (fun t ht hW => ⟨⟨(), rfl, trivial, q1, q2, q3, by rw [ht]; exact hP, va_K.moved hW.alike hK, hD⟩, hS.F ht⟩) hS.2.2 ci_dT47
theorem ci_dD0 : decode ci_bD 0 = .ok (.aload_n 0, 1) := by decide +kernel
theorem ci_dD1 : decode ci_bD 1 = .ok (.invokespecial 3, 3) := by decide +kernel
theorem ci_dD4 : decode ci_bD 4 = .ok (.aload_n 0, 1) := by decide +kernel
theorem ci_dD5 : decode ci_bD 5 = .ok (.new 9, 3) := by decide +kernel
theorem ci_dD8 : decode ci_bD 8 = .ok (.dup, 1) := by decide +kernel
theorem ci_dD9 : decode ci_bD 9 = .ok (.invokespecial 11, 3) := by decide +kernel
theorem ci_dD12 : decode ci_bD 12 = .ok (.putfield 12, 3) := by decide +kernel
theorem ci_dD15 : decode ci_bD 15 = .ok (.aload_n 0, 1) := by decide +kernel
theorem ci_dD16 : decode ci_bD 16 = .ok (.sipush 4235, 3) := by decide +kernel
theorem ci_dD19 : decode ci_bD 19 = .ok (.newarray .int, 2) := by decide +kernel
theorem ci_dD21 : decode ci_bD 21 = .ok (.putfield 18, 3) := by decide +kernel
theorem ci_dD24 : decode ci_bD 24 = .ok (.aload_n 0, 1) := by decide +kernel
theorem ci_dD25 : decode ci_bD 25 = .ok (.iconst 0, 1) := by decide +kernel
theorem ci_dD26 : decode ci_bD 26 = .ok (.putfield 22, 3) := by decide +kernel
theorem ci_dD29 : decode ci_bD 29 = .ok (.aload_n 0, 1) := by decide +kernel
theorem ci_dD30 : decode ci_bD 30 = .ok (.iconst (-1), 1) := by decide +kernel
theorem ci_dD31 : decode ci_bD 31 = .ok (.putfield 26, 3) := by decide +kernel
theorem ci_dD34 : decode ci_bD 34 = .ok (.aload_n 0, 1) := by decide +kernel
theorem ci_dD35 : decode ci_bD 35 = .ok (.iconst (-1), 1) := by decide +kernel
theorem ci_dD36 : decode ci_bD 36 = .ok (.putfield 29, 3) := by decide +kernel
theorem ci_dD39 : decode ci_bD 39 = .ok (.return_, 1) := by decide +kernel
set_option maxHeartbeats 8000000 in
set_option maxRecDepth 200000 in
theorem ci_D (l : Launch) (D : va_G) (g : ClassId × ClassId × Nat) (h0 sz : Nat) : Met l ci_yD (ch_ws ci_yD ci_bD 1 none) ({ frames := 2, cells := 3, slots := 4341, locals := 32 }) (va_Pc [.ref h0] (ci_Pre D g [(h0, .inr (0, [.null, .null, .int 0, .int 0, .int 0]))] sz)) (va_Qv (fun (_ : Unit) => True) (fun _ t => ∃ q1 q2 q3 : Nat, va_P D am_cls [(h0, .inr (0, [.ref q1, .ref q3, .int (nI 0), .int (-nI 1), .int (-nI 1)])), (q1, .inr (1, [.ref q2])), (q2, .inl (g.1, 105, .inl (fun _ => 0))), (q3, .inl (g.1, 4235, .inl (fun _ => 0)))] t.heap ∧ va_K D am_cls (am_tys g) t ∧ va_D (va_A [(h0, .inr (0, [.null, .null, .int 0, .int 0, .int 0]))] sz) [(h0, .inr (0, [.ref q1, .ref q3, .int (nI 0), .int (-nI 1), .int (-nI 1)])), (q1, .inr (1, [.ref q2])), (q2, .inl (g.1, 105, .inl (fun _ => 0))), (q3, .inl (g.1, 4235, .inl (fun _ => 0)))]) (va_A [(h0, .inr (0, [.null, .null, .int 0, .int 0, .int 0]))] sz)) 3 4341 (va_A [(h0, .inr (0, [.null, .null, .int 0, .int 0, .int 0]))] sz) := by
  refine Met.ofW (cc := ci_bD) (maxL := 1) (ret := none) (by decide) rfl ?_
  intro p e s m args below meth c s₁ B hml hv
  obtain ⟨rfl, hsz, hP, hK, hD0, hN⟩ := hv
  have hx := B.exec
  have hb := B.bytes
  have hr := B.returns
  have hts := atoms_spec (ws := ch_ws ci_yD ci_bD 1 none) B.pre
  have hown : s.vm.findClass "DyeVats$Days" = some m.cls := findClass_of_methodNamed B.named
  have hlocks := B.notSynchronized
  have hin : meth.name = "<init>" := (name_of_methodNamed B.named B.method).1
  have hg : ∀ w ∈ am_good, w.before ([.ref h0] : List Value).toArray s = true := fun w h => hts w (List.mem_cons_of_mem _ h)
  subst hsz
  have hD := hD0.self (sz := s.heap.size)
  generalize hAe : va_A [(h0, .inr (0, [.null, .null, .int 0, .int 0, .int 0]))] s.heap.size = A at hD ⊢
  have hA : ∀ q : Nat, s.heap.size ≤ q → A q := fun q h => by rw [← hAe]; exact Or.inr h
  have hS : va_S A s.heap s.heap [] := va_S.rf
  have hl := lv_entry ([.ref h0]) (n := 1) (Nat.le_of_ble_eq_true rfl)
  rw [lg_entry_eq]
  generalize (lg_sl ([.ref h0]) ++ List.replicate (1 - (lg_sl ([.ref h0])).length) Slot.unset).toArray = ls at hl ⊢
  have hl : lv_has ls 1 [(0, .ref h0)] := hl
  refine lv_aload_n hx hb ci_dD0 rfl (lv_at hl 0 rfl) ?_
  refine W.objInit hx hb hown (hg _ (am_good_of (k := 55) rfl rfl)) (hg _ (am_good_of (k := 35) rfl rfl)) (hg _ (am_good_of (k := 36) rfl rfl)) rfl (by rw [hml]; exact hl.1) rfl ci_dD1 (Nat.le_of_ble_eq_true rfl) (Nat.le_of_ble_eq_true rfl) ?_
  refine W.eq (g2 := F0 m 4 ls []) rfl ?_
  refine lv_aload_n hx hb ci_dD4 rfl (lv_at hl 0 rfl) ?_
  refine va_new (ci := 1) (fs := [.null]) (C := am_Rn 1) (T := am_T 1) (N := am_nf 1) hx hb hg (am_hin (x := 1) (by decide)) (am_ty 1) (am_tyok (x := 1) (by decide)) hown (hg _ (am_good_of (k := 56) rfl rfl)) (hg _ (am_good_of (k := 38) rfl rfl)) (hg _ (am_good_of (k := 17) rfl rfl)) hK hP hD hS hA rfl (fun j hj => ci_def1 j hj) (Nat.le_of_ble_eq_true rfl) (Nat.le_of_ble_eq_true rfl) ci_dD5 (fun q1 H hP hD hS => ?_)
  have hP : va_P D am_cls [(h0, .inr (0, [.null, .null, .int 0, .int 0, .int 0])), (q1, .inr (1, [.null]))] H := hP
  have hD : va_D A [(h0, .inr (0, [.null, .null, .int 0, .int 0, .int 0])), (q1, .inr (1, [.null]))] := hD
  refine W.widen (k := 1) (n := 1) (by show _ ≤ _; omega) (Nat.le_of_ble_eq_true rfl) ?_
  refine lv_dup hx hb ci_dD8 rfl ?_
  have hPc := hP.sub (ws' := [(q1, .inr (1, [.null]))]) [1] rfl
  have hDc := hD.sub (ws' := [(q1, .inr (1, [.null]))]) [1] (by decide) rfl
  have hFc := va_free (wc := [(q1, .inr (1, [.null]))]) hD hS hA [1] rfl
  refine va_callv (va_runIN (As := []) (rest := [.ref q1, .ref h0]) (n := 0) ⟨hx, hb, hml, hown, hg⟩ (ci_S l D g q1 H.size) ⟨va_cnB (R := { frames := 2, cells := 3, slots := 4341, locals := 32 }) 0 hg (ch_gi (am_good_of (k := 41) rfl rfl)) rfl rfl rfl hN.2.2.2 (hg _ (am_good_of (k := 17) rfl rfl)) ⟨by decide, by decide, by decide +kernel⟩ ⟨by decide, by decide⟩, rfl, (hg _ (am_good_of (k := 40) rfl rfl))⟩ ⟨ci_blind _ _ _ _ _, fun U hU hW => ⟨rfl, by rw [hU], by rw [hU]; exact hPc, va_K.moved hW.alike hK, hDc.weaken (fun _ _ _ _ => trivial), ci_nw hW hN⟩⟩ rfl rfl hl.1 rfl (lv_room (Nat.le_of_ble_eq_true rfl)) ci_dD9 ⟨Nat.le_of_ble_eq_true rfl, Nat.le_of_ble_eq_true rfl⟩) hS (fun q _ h => hFc q h) hFc (fun u t H1 locs ht hvm hw hB hz1 hk1 hS => ?_)
  obtain ⟨q2, hP1, hK1, hD1⟩ := hB
  rw [ht] at hP1
  obtain ⟨hP, hD⟩ := va_join (wr := [(h0, .inr (0, [.null, .null, .int 0, .int 0, .int 0]))]) (w1 := [(q1, .inr (1, [.ref q2])), (q2, .inl (g.1, 105, .inl (fun _ => 0)))]) hP hD [1] [0] rfl rfl (by decide) (by decide) hk1 hFc hP1 hD1
  generalize H1 = H at hP hS ⊢
  have hP : va_P D am_cls [(h0, .inr (0, [.null, .null, .int 0, .int 0, .int 0])), (q1, .inr (1, [.ref q2])), (q2, .inl (g.1, 105, .inl (fun _ => 0)))] H := hP
  have hD : va_D A [(h0, .inr (0, [.null, .null, .int 0, .int 0, .int 0])), (q1, .inr (1, [.ref q2])), (q2, .inl (g.1, 105, .inl (fun _ => 0)))] := hD
  refine W.widen (k := 2) (n := 106) (by omega) (by omega) ?_
  refine va_putF (D := D) (ci := 0) (v := .ref q1) (ty := .object "DyeVats$State") (C := am_Rn 0) (T := am_T 0) (N := am_nf 0) hx hb hg (am_hin (x := 0) (by decide)) (am_ty 0) (am_tyok (x := 0) (by decide)) (am_nmok (x := 0) (by decide)) hown hK hP hD hS 0 rfl rfl 0 (by decide) (hg _ (am_good_of (k := 58) rfl rfl)) (fun _ h9 => h9) rfl hin rfl (by decide +kernel) rfl rfl (Nat.le_of_ble_eq_true rfl) ci_dD12 (fun H locs hP hD hS => ?_)
  have hP : va_P D am_cls [(h0, .inr (0, [.ref q1, .null, .int 0, .int 0, .int 0])), (q1, .inr (1, [.ref q2])), (q2, .inl (g.1, 105, .inl (fun _ => 0)))] H := hP
  have hD : va_D A [(h0, .inr (0, [.ref q1, .null, .int 0, .int 0, .int 0])), (q1, .inr (1, [.ref q2])), (q2, .inl (g.1, 105, .inl (fun _ => 0)))] := hD
  refine lv_aload_n hx hb ci_dD15 rfl (lv_at hl 0 rfl) ?_
  refine lv_sipush (v := nI 4235) hx hb ci_dD16 (by decide +kernel) ?_
  refine nw_i (N' := 4235) hx hb (hg _ (am_good_of (k := 49) rfl rfl)) hK hP hD hS hA rfl (by decide) (Nat.le_of_ble_eq_true rfl) (Nat.le_of_ble_eq_true rfl) ci_dD19 (fun q3 H hP hD hS => ?_)
  have hP : va_P D am_cls [(h0, .inr (0, [.ref q1, .null, .int 0, .int 0, .int 0])), (q1, .inr (1, [.ref q2])), (q2, .inl (g.1, 105, .inl (fun _ => 0))), (q3, .inl (g.1, 4235, .inl (fun _ => 0)))] H := hP
  have hD : va_D A [(h0, .inr (0, [.ref q1, .null, .int 0, .int 0, .int 0])), (q1, .inr (1, [.ref q2])), (q2, .inl (g.1, 105, .inl (fun _ => 0))), (q3, .inl (g.1, 4235, .inl (fun _ => 0)))] := hD
  refine W.widen (k := 3) (n := 4341) (by omega) (by omega) ?_
  refine va_putF (D := D) (ci := 0) (v := .ref q3) (ty := .array .int) (C := am_Rn 0) (T := am_T 0) (N := am_nf 0) hx hb hg (am_hin (x := 0) (by decide)) (am_ty 0) (am_tyok (x := 0) (by decide)) (am_nmok (x := 0) (by decide)) hown hK hP hD hS 0 rfl rfl 1 (by decide) (hg _ (am_good_of (k := 59) rfl rfl)) (fun _ h9 => h9) rfl hin rfl (by decide +kernel) rfl rfl (Nat.le_of_ble_eq_true rfl) ci_dD21 (fun H locs hP hD hS => ?_)
  have hP : va_P D am_cls [(h0, .inr (0, [.ref q1, .ref q3, .int 0, .int 0, .int 0])), (q1, .inr (1, [.ref q2])), (q2, .inl (g.1, 105, .inl (fun _ => 0))), (q3, .inl (g.1, 4235, .inl (fun _ => 0)))] H := hP
  have hD : va_D A [(h0, .inr (0, [.ref q1, .ref q3, .int 0, .int 0, .int 0])), (q1, .inr (1, [.ref q2])), (q2, .inl (g.1, 105, .inl (fun _ => 0))), (q3, .inl (g.1, 4235, .inl (fun _ => 0)))] := hD
  refine lv_aload_n hx hb ci_dD24 rfl (lv_at hl 0 rfl) ?_
  refine lv_iconst (v := nI 0) hx hb ci_dD25 (by decide +kernel) ?_
  refine va_put (D := D) (ci := 0) (v := .int (nI 0)) (ty := .int) (C := am_Rn 0) (T := am_T 0) (N := am_nf 0) hx hb hg (am_hin (x := 0) (by decide)) (am_ty 0) (am_tyok (x := 0) (by decide)) (am_nmok (x := 0) (by decide)) hown hK hP hD hS 0 rfl rfl 2 (by decide) (hg _ (am_good_of (k := 60) rfl rfl)) (fun _ h9 => h9) rfl (by decide +kernel) rfl rfl (Nat.le_of_ble_eq_true rfl) ci_dD26 (fun H locs hP hD hS => ?_)
  have hP : va_P D am_cls [(h0, .inr (0, [.ref q1, .ref q3, .int (nI 0), .int 0, .int 0])), (q1, .inr (1, [.ref q2])), (q2, .inl (g.1, 105, .inl (fun _ => 0))), (q3, .inl (g.1, 4235, .inl (fun _ => 0)))] H := hP
  have hD : va_D A [(h0, .inr (0, [.ref q1, .ref q3, .int (nI 0), .int 0, .int 0])), (q1, .inr (1, [.ref q2])), (q2, .inl (g.1, 105, .inl (fun _ => 0))), (q3, .inl (g.1, 4235, .inl (fun _ => 0)))] := hD
  refine lv_aload_n hx hb ci_dD29 rfl (lv_at hl 0 rfl) ?_
  refine lv_iconst (v := -nI 1) hx hb ci_dD30 (by decide +kernel) ?_
  refine va_put (D := D) (ci := 0) (v := .int (-nI 1)) (ty := .int) (C := am_Rn 0) (T := am_T 0) (N := am_nf 0) hx hb hg (am_hin (x := 0) (by decide)) (am_ty 0) (am_tyok (x := 0) (by decide)) (am_nmok (x := 0) (by decide)) hown hK hP hD hS 0 rfl rfl 3 (by decide) (hg _ (am_good_of (k := 61) rfl rfl)) (fun _ h9 => h9) rfl (by decide +kernel) rfl rfl (Nat.le_of_ble_eq_true rfl) ci_dD31 (fun H locs hP hD hS => ?_)
  have hP : va_P D am_cls [(h0, .inr (0, [.ref q1, .ref q3, .int (nI 0), .int (-nI 1), .int 0])), (q1, .inr (1, [.ref q2])), (q2, .inl (g.1, 105, .inl (fun _ => 0))), (q3, .inl (g.1, 4235, .inl (fun _ => 0)))] H := hP
  have hD : va_D A [(h0, .inr (0, [.ref q1, .ref q3, .int (nI 0), .int (-nI 1), .int 0])), (q1, .inr (1, [.ref q2])), (q2, .inl (g.1, 105, .inl (fun _ => 0))), (q3, .inl (g.1, 4235, .inl (fun _ => 0)))] := hD
  refine lv_aload_n hx hb ci_dD34 rfl (lv_at hl 0 rfl) ?_
  refine lv_iconst (v := -nI 1) hx hb ci_dD35 (by decide +kernel) ?_
  refine va_put (D := D) (ci := 0) (v := .int (-nI 1)) (ty := .int) (C := am_Rn 0) (T := am_T 0) (N := am_nf 0) hx hb hg (am_hin (x := 0) (by decide)) (am_ty 0) (am_tyok (x := 0) (by decide)) (am_nmok (x := 0) (by decide)) hown hK hP hD hS 0 rfl rfl 4 (by decide) (hg _ (am_good_of (k := 63) rfl rfl)) (fun _ h9 => h9) rfl (by decide +kernel) rfl rfl (Nat.le_of_ble_eq_true rfl) ci_dD36 (fun H locs hP hD hS => ?_)
  have hP : va_P D am_cls [(h0, .inr (0, [.ref q1, .ref q3, .int (nI 0), .int (-nI 1), .int (-nI 1)])), (q1, .inr (1, [.ref q2])), (q2, .inl (g.1, 105, .inl (fun _ => 0))), (q3, .inl (g.1, 4235, .inl (fun _ => 0)))] H := hP
  have hD : va_D A [(h0, .inr (0, [.ref q1, .ref q3, .int (nI 0), .int (-nI 1), .int (-nI 1)])), (q1, .inr (1, [.ref q2])), (q2, .inl (g.1, 105, .inl (fun _ => 0))), (q3, .inl (g.1, 4235, .inl (fun _ => 0)))] := hD
  refine W.widen (k := 3) (n := 4341) (Nat.le_of_ble_eq_true rfl) (Nat.le_of_ble_eq_true rfl) ?_
  exact W.vret hx hb hr (fun t ht hW => ⟨⟨(), rfl, trivial, q1, q2, q3, by rw [ht]; exact hP, va_K.moved hW.alike hK, hD⟩, hS.F ht⟩) hS.2.2 ci_dD39
