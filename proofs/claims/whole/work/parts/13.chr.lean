/-! the char of a constant: the JDK's five methods by contract -/
def ch_yI : MethodName := ⟨"java/lang/String", "isLatin1", "()Z"⟩
def ch_yP : MethodName := ⟨"jdk/internal/util/Preconditions", "checkIndex", "(IILjava/util/function/BiFunction;)I"⟩
def ch_yK : MethodName := ⟨"java/lang/String", "checkIndex", "(II)V"⟩
def ch_yL : MethodName := ⟨"java/lang/StringLatin1", "charAt", "([BI)C"⟩
def ch_yC : MethodName := ⟨"java/lang/String", "charAt", "(I)C"⟩
abbrev ch_bI : ByteArray := prog_15_method_154_code
abbrev ch_bP : ByteArray := prog_20_method_11_code
abbrev ch_bK : ByteArray := prog_15_method_155_code
abbrev ch_bL : ByteArray := prog_16_method_2_code
abbrev ch_bC : ByteArray := prog_15_method_56_code
theorem ch_dI0 : decode ch_bI 0 = .ok (.getstatic 38, 3) := by decide +kernel
theorem ch_dI3 : decode ch_bI 3 = .ok (.ifCond .eq 14, 3) := by decide +kernel
theorem ch_dI6 : decode ch_bI 6 = .ok (.aload_n 0, 1) := by decide +kernel
theorem ch_dI7 : decode ch_bI 7 = .ok (.getfield 15, 3) := by decide +kernel
theorem ch_dI10 : decode ch_bI 10 = .ok (.ifCond .ne 7, 3) := by decide +kernel
theorem ch_dI13 : decode ch_bI 13 = .ok (.iconst 1, 1) := by decide +kernel
theorem ch_dI14 : decode ch_bI 14 = .ok (.goto 4, 3) := by decide +kernel
theorem ch_dI18 : decode ch_bI 18 = .ok (.ireturn, 1) := by decide +kernel
theorem ch_dP0 : decode ch_bP 0 = .ok (.iload_n 0, 1) := by decide +kernel
theorem ch_dP1 : decode ch_bP 1 = .ok (.ifCond .lt 8, 3) := by decide +kernel
theorem ch_dP4 : decode ch_bP 4 = .ok (.iload_n 0, 1) := by decide +kernel
theorem ch_dP5 : decode ch_bP 5 = .ok (.iload_n 1, 1) := by decide +kernel
theorem ch_dP6 : decode ch_bP 6 = .ok (.if_icmp .lt 10, 3) := by decide +kernel
theorem ch_dP16 : decode ch_bP 16 = .ok (.iload_n 0, 1) := by decide +kernel
theorem ch_dP17 : decode ch_bP 17 = .ok (.ireturn, 1) := by decide +kernel
theorem ch_dK0 : decode ch_bK 0 = .ok (.iload_n 0, 1) := by decide +kernel
theorem ch_dK1 : decode ch_bK 1 = .ok (.iload_n 1, 1) := by decide +kernel
theorem ch_dK2 : decode ch_bK 2 = .ok (.getstatic 1053, 3) := by decide +kernel
theorem ch_dK5 : decode ch_bK 5 = .ok (.invokestatic 1059, 3) := by decide +kernel
theorem ch_dK8 : decode ch_bK 8 = .ok (.pop, 1) := by decide +kernel
theorem ch_dK9 : decode ch_bK 9 = .ok (.return_, 1) := by decide +kernel
theorem ch_dL0 : decode ch_bL 0 = .ok (.iload_n 1, 1) := by decide +kernel
theorem ch_dL1 : decode ch_bL 1 = .ok (.aload_n 0, 1) := by decide +kernel
theorem ch_dL2 : decode ch_bL 2 = .ok (.arraylength, 1) := by decide +kernel
theorem ch_dL3 : decode ch_bL 3 = .ok (.invokestatic 9, 3) := by decide +kernel
theorem ch_dL6 : decode ch_bL 6 = .ok (.aload_n 0, 1) := by decide +kernel
theorem ch_dL7 : decode ch_bL 7 = .ok (.iload_n 1, 1) := by decide +kernel
theorem ch_dL8 : decode ch_bL 8 = .ok (.baload, 1) := by decide +kernel
theorem ch_dL9 : decode ch_bL 9 = .ok (.sipush 255, 3) := by decide +kernel
theorem ch_dL12 : decode ch_bL 12 = .ok (.iand, 1) := by decide +kernel
theorem ch_dL13 : decode ch_bL 13 = .ok (.i2c, 1) := by decide +kernel
theorem ch_dL14 : decode ch_bL 14 = .ok (.ireturn, 1) := by decide +kernel
theorem ch_dC0 : decode ch_bC 0 = .ok (.aload_n 0, 1) := by decide +kernel
theorem ch_dC1 : decode ch_bC 1 = .ok (.invokevirtual 492, 3) := by decide +kernel
theorem ch_dC4 : decode ch_bC 4 = .ok (.ifCond .eq 12, 3) := by decide +kernel
theorem ch_dC7 : decode ch_bC 7 = .ok (.aload_n 0, 1) := by decide +kernel
theorem ch_dC8 : decode ch_bC 8 = .ok (.getfield 9, 3) := by decide +kernel
theorem ch_dC11 : decode ch_bC 11 = .ok (.iload_n 1, 1) := by decide +kernel
theorem ch_dC12 : decode ch_bC 12 = .ok (.invokestatic 495, 3) := by decide +kernel
theorem ch_dC15 : decode ch_bC 15 = .ok (.ireturn, 1) := by decide +kernel
def ch_ws (y : MethodName) (b : ByteArray) (n : Nat) (r : Option FieldType) : List Jvm.Cond := Jvm.Cond.code y b n r :: am_good
theorem ch_gi {y : MethodName} {b : ByteArray} {n : Nat} {r : Option FieldType} (h : Jvm.Cond.code y b n r ∈ am_good) : GoodIn am_good (ch_ws y b n r) := by
  intro w hw
  rcases List.mem_cons.mp hw with rfl | hw
  · exact am_good_gi _ h
  · exact am_good_gi _ hw
theorem ch_giS {own : String} {idx : Nat} {y : MethodName} {b : ByteArray} {n : Nat} {r : Option FieldType} (h : Jvm.Cond.code y b n r ∈ am_good) (h1 : Jvm.Cond.methodLink own idx y ∈ am_good) (h2 : Jvm.Cond.static y ∈ am_good) (h3 : Jvm.Cond.initialized y.cls ∈ am_good) : GoodIn am_good (va_wsS own idx y (ch_ws y b n r)) := by
  intro w hw
  simp only [va_wsS, List.cons_append, List.nil_append, List.mem_cons] at hw
  rcases hw with rfl | rfl | rfl | hw
  · exact am_good_gi _ h1
  · exact am_good_gi _ h2
  · exact am_good_gi _ h3
  · exact ch_gi h _ hw
def ch_N : Nat → Prop := fun _ => False
theorem ch_SA {A : Nat → Prop} {H0 H : Heap} {locs : List Loc} (h : va_S ch_N H0 H locs) : va_S A H0 H locs := ⟨h.1, fun q a _ => h.2.1 q a (fun z => z), fun q hq => (h.2.2 q hq).elim⟩
theorem am_CH_warm {q : Nat} {A B : Nat → Prop} {u U : State} {H0 H : Heap} (hW : u.WarmedH U.vm) (hk : ∀ a : Nat, a < H0.size → ¬ A a → H[a]? = H0[a]?) (hAB : ∀ z, B z → A z) (h : am_CH q A u H0) : am_CH q B U H := by
  obtain ⟨h4, ⟨adV, h5⟩, h6, h7⟩ := h
  exact ⟨vk_R.warm hW h4, ⟨adV, ((h5.moved hW.alike).kept hk).narrow hAB⟩, ((h6.moved hW.alike).kept hk).narrow hAB, ((h7.moved hW.alike).kept hk).narrow hAB⟩
set_option maxRecDepth 100000 in
theorem ch_isLatin1 (l : Launch) (q : Nat) (A : Nat → Prop) : Met l ch_yI (ch_ws ch_yI ch_bI 1 (some .boolean)) ({ frames := 0, cells := 0, slots := 0, locals := 0 }) (va_Pc [.ref q] (fun U => am_CH q A U U.heap)) (va_Qi (fun (r : Int32) (_ : Unit) => r = 1) (fun _ _ => True) ch_N) 0 0 ch_N := by
  refine Met.ofW (cc := ch_bI) (maxL := 1) (ret := some .boolean) (by decide) rfl ?_
  intro p e s m args below meth c s₁ B hml hv
  obtain ⟨rfl, hC⟩ := hv
  obtain ⟨hR, ⟨adV, hVS⟩, hCS, hSI⟩ := hC
  have hx := B.exec
  have hb := B.bytes
  have hr := B.returns
  have hts := atoms_spec (ws := ch_ws ch_yI ch_bI 1 (some .boolean)) B.pre
  have hown : s.vm.findClass "java/lang/String" = some m.cls := findClass_of_methodNamed B.named
  have hlocks := B.notSynchronized
  have hS : va_S A s.heap s.heap [] := va_S.rf
  have hg : ∀ w ∈ am_good, w.before ([.ref q] : List Value).toArray s = true := fun w h => hts w (List.mem_cons_of_mem _ h)
  have hl := lv_entry ([.ref q]) (n := 1) (Nat.le_of_ble_eq_true rfl)
  rw [lg_entry_eq]
  generalize (lg_sl ([.ref q]) ++ List.replicate (1 - (lg_sl ([.ref q])).length) Slot.unset).toArray = ls at hl ⊢
  have hl : lv_has ls 1 [(0, .ref q)] := hl
  refine va_gets hx hb hCS hS hown (hg _ (am_good_of (k := 233) rfl rfl)) (fun _ h9 => h9) ch_dI0 ?_
  refine lv_if_eq hx hb ch_dI3 (tgt := 17) rfl (fun h => absurd h (by decide)) (fun _ => ?_)
  refine lv_aload_n hx hb ch_dI6 rfl (lv_at hl 0 rfl) ?_
  refine vk_getf hx hb (hVS.1 0 (by decide)).2.1 hS hown (hg _ (am_good_of (k := 1073) rfl rfl)) (fun _ h9 => h9) ch_dI7 ?_
  refine lv_if_ne hx hb ch_dI10 (tgt := 17) rfl (fun h => absurd rfl h) (fun _ => ?_)
  refine lv_iconst (v := 1) hx hb ch_dI13 (by decide) ?_
  refine lv_goto hx hb ch_dI14 (tgt := 18) rfl ?_
  exact W.zret (v := 1) hx hb hr rfl (fun t ht hW => ⟨⟨1, (), rfl, rfl, trivial⟩, (va_S.rf (A := ch_N)).F ht⟩) (fun _ h => by cases h) ch_dI18
theorem ch_pre (l : Launch) (i n : Nat) (v : Value) (hi : i < n) (hn : n < 2 ^ 31) (hv : v = .null ∨ ∃ t, v = .ref t) : Met l ch_yP (ch_ws ch_yP ch_bP 3 (some .int)) ({ frames := 0, cells := 0, slots := 0, locals := 0 }) (va_Pc [.int (nI i), .int (nI n), v] (fun _ => True)) (va_Qi (fun (_ : Int32) (_ : Unit) => True) (fun _ _ => True) ch_N) 0 0 ch_N := by
  refine Met.ofW (cc := ch_bP) (maxL := 3) (ret := some .int) (by decide) rfl ?_
  intro p e s m args below meth c s₁ B hml hv'
  obtain ⟨rfl, -⟩ := hv'
  have hx := B.exec
  have hb := B.bytes
  have hr := B.returns
  have hlocks := B.notSynchronized
  rw [lg_entry_eq]
  have hl : ∃ ls, (lg_sl ([.int (nI i), .int (nI n), v]) ++ List.replicate (3 - (lg_sl ([.int (nI i), .int (nI n), v])).length) Slot.unset).toArray = ls ∧ ls[0]? = some (.val (.int (nI i))) ∧ ls[1]? = some (.val (.int (nI n))) := by
    rcases hv with rfl | ⟨t, rfl⟩
    · exact ⟨_, rfl, rfl, rfl⟩
    · exact ⟨_, rfl, rfl, rfl⟩
  obtain ⟨ls, e1, l0, l1⟩ := hl
  rw [e1]
  refine lv_iload_n hx hb ch_dP0 rfl l0 ?_
  refine lv_if_lt hx hb ch_dP1 (tgt := 9) rfl (fun h => absurd h (nI_pos (by omega))) (fun _ => ?_)
  refine lv_iload_n hx hb ch_dP4 rfl l0 ?_
  refine lv_iload_n hx hb ch_dP5 rfl l1 ?_
  refine lv_icmp_lt hx hb ch_dP6 (tgt := 16) rfl (fun _ => ?_) (fun h => absurd (nI_lt hi hn) h)
  refine lv_iload_n hx hb ch_dP16 rfl l0 ?_
  exact W.iret (v := nI i) hx hb hr (fun t ht hW => ⟨⟨nI i, (), rfl, trivial, trivial⟩, (va_S.rf (A := ch_N)).F ht⟩) (fun _ h => by cases h) ch_dP17
theorem ch_check (l : Launch) (A : Nat → Prop) (i n : Nat) (hi : i < n) (hn : n < 2 ^ 31) : Met l ch_yK (ch_ws ch_yK ch_bK 2 none) ({ frames := 1, cells := 0, slots := 0, locals := 22 }) (va_Pc [.int (nI i), .int (nI n)] (fun U => va_Zq "jdk/internal/util/Preconditions" "SIOOBE_FORMATTER" "Ljava/util/function/BiFunction;" A U U.heap)) (va_Qv (fun (_ : Unit) => True) (fun _ _ => True) ch_N) 0 0 ch_N := by
  refine Met.ofW (cc := ch_bK) (maxL := 2) (ret := none) (by decide) rfl ?_
  intro p e s m args below meth c s₁ B hml hv
  obtain ⟨rfl, hZ⟩ := hv
  have hx := B.exec
  have hb := B.bytes
  have hr := B.returns
  have hts := atoms_spec (ws := ch_ws ch_yK ch_bK 2 none) B.pre
  have hown : s.vm.findClass "java/lang/String" = some m.cls := findClass_of_methodNamed B.named
  have hlocks := B.notSynchronized
  have hS : va_S A s.heap s.heap [] := va_S.rf
  have hS0 : va_S ch_N s.heap s.heap [] := va_S.rf
  have hg : ∀ w ∈ am_good, w.before ([.int (nI i), .int (nI n)] : List Value).toArray s = true := fun w h => hts w (List.mem_cons_of_mem _ h)
  have hl := lv_entry ([.int (nI i), .int (nI n)]) (n := 2) (Nat.le_of_ble_eq_true rfl)
  rw [lg_entry_eq]
  generalize (lg_sl ([.int (nI i), .int (nI n)]) ++ List.replicate (2 - (lg_sl ([.int (nI i), .int (nI n)])).length) Slot.unset).toArray = ls at hl ⊢
  have hl : lv_has ls 2 [(0, .int (nI i)), (1, .int (nI n))] := hl
  refine lv_iload_n hx hb ch_dK0 rfl (lv_at hl 0 rfl) ?_
  refine lv_iload_n hx hb ch_dK1 rfl (lv_at hl 1 rfl) ?_
  have go : ∀ v : Value, (v = .null ∨ ∃ t, v = .ref t) → W p l e { frames := 1, cells := 0, slots := 0, locals := 22 } s m ([.int (nI i), .int (nI n)] : List Value).toArray below meth c s.heap [] 0 0 (MQ below (va_Qv (fun (_ : Unit) => True) (fun _ _ => True) ch_N) ([.int (nI i), .int (nI n)] : List Value).toArray s 0 0 ch_N) (F0 m 5 ls [v, .int (nI n), .int (nI i)]) := by
    intro v hv
    refine va_calli (va_runS (As := [.int (nI i), .int (nI n), v]) (rest := []) ⟨hx, hb, hml, hown, hg⟩ (ch_pre l i n v hi hn hv) (va_cwS (R := { frames := 1, cells := 0, slots := 0, locals := 22 }) 3 hg (ch_giS (am_good_of (k := 245) rfl rfl) (am_good_of (k := 243) rfl rfl) (am_good_of (k := 244) rfl rfl) (am_good_of (k := 80) rfl rfl)) rfl rfl rfl ⟨by decide, by decide, by decide +kernel⟩ ⟨by decide, by decide⟩) ⟨fun a U g mk q => ⟨q.1, trivial⟩, fun U _ _ => ⟨rfl, trivial⟩⟩ rfl rfl hl.1 rfl (lv_room (Nat.le_of_ble_eq_true rfl)) ch_dK5 ⟨Nat.le_refl _, Nat.le_refl _⟩) hS0 (fun _ _ h => h) (fun _ h => h) (fun r u t H1 locs1 ht hvm hw hB hk1 hk2 hS1 => ?_)
    refine lv_pop hx hb ch_dK8 rfl ?_
    exact W.vret hx hb hr (fun t ht hW => ⟨⟨(), rfl, trivial, trivial⟩, hS1.F ht⟩) hS1.2.2 ch_dK9
  rcases hZ with hZ | ⟨t, hZ⟩
  · exact va_gets hx hb hZ hS hown (hg _ (am_good_of (k := 241) rfl rfl)) (fun _ h9 => h9) ch_dK2 (go .null (Or.inl rfl))
  · exact va_gets hx hb hZ hS hown (hg _ (am_good_of (k := 241) rfl rfl)) (fun _ h9 => h9) ch_dK2 (go (.ref t) (Or.inr ⟨t, rfl⟩))
theorem ch_val : ∀ k, k < 5 → ((([[62, 42, 64, 45, 59]] : List (List Int32)).getD 0 []).getD k 0 &&& 255) = am_sg k ∧ ((am_sg k).toUInt32 % 65536).toInt32 = am_sg k ∧ narrow .char (.int (am_sg k)) = .int (am_sg k) := by decide +kernel
theorem ch_latin (l : Launch) (A : Nat → Prop) (tv k : Nat) (hk : k < 5) : Met l ch_yL (ch_ws ch_yL ch_bL 2 (some .char)) ({ frames := 2, cells := 0, slots := 0, locals := 43 }) (va_Pc [.ref tv, .int (nI k)] (fun U => va_Zq "jdk/internal/util/Preconditions" "SIOOBE_FORMATTER" "Ljava/util/function/BiFunction;" A U U.heap ∧ va_T .byte tv 5 (fun j => .int ((([[62, 42, 64, 45, 59]] : List (List Int32)).getD 0 []).getD j 0)) A U U.heap)) (va_Qi (fun (r : Int32) (_ : Unit) => r = am_sg k) (fun _ _ => True) ch_N) 0 0 ch_N := by
  refine Met.ofW (cc := ch_bL) (maxL := 2) (ret := some .char) (by decide) rfl ?_
  intro p e s m args below meth c s₁ B hml hv
  obtain ⟨rfl, hZ, hT⟩ := hv
  have hx := B.exec
  have hb := B.bytes
  have hr := B.returns
  have hts := atoms_spec (ws := ch_ws ch_yL ch_bL 2 (some .char)) B.pre
  have hown : s.vm.findClass "java/lang/StringLatin1" = some m.cls := findClass_of_methodNamed B.named
  have hlocks := B.notSynchronized
  have hS : va_S A s.heap s.heap [] := va_S.rf
  have hS0 : va_S ch_N s.heap s.heap [] := va_S.rf
  have hg : ∀ w ∈ am_good, w.before ([.ref tv, .int (nI k)] : List Value).toArray s = true := fun w h => hts w (List.mem_cons_of_mem _ h)
  have hl := lv_entry ([.ref tv, .int (nI k)]) (n := 2) (Nat.le_of_ble_eq_true rfl)
  rw [lg_entry_eq]
  generalize (lg_sl ([.ref tv, .int (nI k)]) ++ List.replicate (2 - (lg_sl ([.ref tv, .int (nI k)])).length) Slot.unset).toArray = ls at hl ⊢
  have hl : lv_has ls 2 [(0, .ref tv), (1, .int (nI k))] := hl
  obtain ⟨v1, v2, v3⟩ := ch_val k hk
  refine lv_iload_n hx hb ch_dL0 rfl (lv_at hl 1 rfl) ?_
  refine lv_aload_n hx hb ch_dL1 rfl (lv_at hl 0 rfl) ?_
  refine va_tlen (v := nI 5) hx hb hT hS rfl ch_dL2 ?_
  refine va_callv (va_runS (As := [.int (nI k), .int (nI 5)]) (rest := []) ⟨hx, hb, hml, hown, hg⟩ (ch_check l A k 5 hk (by decide)) (va_cwS (R := { frames := 2, cells := 0, slots := 0, locals := 43 }) 2 hg (ch_giS (am_good_of (k := 240) rfl rfl) (am_good_of (k := 238) rfl rfl) (am_good_of (k := 239) rfl rfl) (am_good_of (k := 78) rfl rfl)) rfl rfl rfl ⟨by decide, by decide, by decide +kernel⟩ ⟨by decide, by decide⟩) ⟨fun a U g mk q => ⟨q.1, va_Zq.moved (u := U) (U := U.calling g mk a) (Vm.Alike.refl U.vm) q.2⟩, fun U hU hW => ⟨rfl, by show va_Zq _ _ _ A U U.heap; rw [hU]; exact va_Zq.moved hW.alike hZ⟩⟩ rfl rfl hl.1 rfl (lv_room (Nat.le_of_ble_eq_true rfl)) ch_dL3 ⟨Nat.le_refl _, Nat.le_refl _⟩) hS0 (fun _ _ h => h) (fun _ h => h) (fun u t H1 locs1 ht hvm hw hB hk1 hk2 hS1 => ?_)
  refine lv_aload_n hx hb ch_dL6 rfl (lv_at hl 0 rfl) ?_
  refine lv_iload_n hx hb ch_dL7 rfl (lv_at hl 1 rfl) ?_
  refine va_tb hx hb hT (ch_SA hS1) (vp_in_nI hk (by decide)) rfl ch_dL8 ?_
  rw [nI_clamp (by omega)]
  refine lv_sipush (v := 255) hx hb ch_dL9 (by decide) ?_
  refine lv_iand hx hb ch_dL12 ?_
  rw [v1]
  refine lv_i2c hx hb ch_dL13 v2 ?_
  exact W.zret (v := am_sg k) hx hb hr v3 (fun t ht hW => ⟨⟨am_sg k, (), rfl, rfl, trivial⟩, hS1.F ht⟩) hS1.2.2 ch_dL14
set_option maxRecDepth 100000 in
theorem ch_charAt (l : Launch) (q : Nat) (A : Nat → Prop) (k : Nat) (hk : k < 5) : Met l ch_yC (ch_ws ch_yC ch_bC 2 (some .char)) ({ frames := 3, cells := 0, slots := 0, locals := 64 }) (va_Pc [.ref q, .int (nI k)] (fun U => am_CH q A U U.heap)) (va_Qi (fun (r : Int32) (_ : Unit) => r = am_sg k) (fun _ _ => True) ch_N) 0 0 ch_N := by
  refine Met.ofW (cc := ch_bC) (maxL := 2) (ret := some .char) (by decide) rfl ?_
  intro p e s m args below meth c s₁ B hml hv
  obtain ⟨rfl, hC⟩ := hv
  have hC' := hC
  obtain ⟨hR, ⟨adV, hVS⟩, hCS, hSI⟩ := hC'
  have hx := B.exec
  have hb := B.bytes
  have hr := B.returns
  have hts := atoms_spec (ws := ch_ws ch_yC ch_bC 2 (some .char)) B.pre
  have hown : s.vm.findClass "java/lang/String" = some m.cls := findClass_of_methodNamed B.named
  have hlocks := B.notSynchronized
  have hS : va_S A s.heap s.heap [] := va_S.rf
  have hS0 : va_S ch_N s.heap s.heap [] := va_S.rf
  have hg : ∀ w ∈ am_good, w.before ([.ref q, .int (nI k)] : List Value).toArray s = true := fun w h => hts w (List.mem_cons_of_mem _ h)
  have hl := lv_entry ([.ref q, .int (nI k)]) (n := 2) (Nat.le_of_ble_eq_true rfl)
  rw [lg_entry_eq]
  generalize (lg_sl ([.ref q, .int (nI k)]) ++ List.replicate (2 - (lg_sl ([.ref q, .int (nI k)])).length) Slot.unset).toArray = ls at hl ⊢
  have hl : lv_has ls 2 [(0, .ref q), (1, .int (nI k))] := hl
  obtain ⟨v1, v2, v3⟩ := ch_val k hk
  refine lv_aload_n hx hb ch_dC0 rfl (lv_at hl 0 rfl) ?_
  have cw : CallW { frames := 3, cells := 0, slots := 0, locals := 64 } s ([.ref q, .int (nI k)] : List Value).toArray "java/lang/String" "java/lang/String" 492 ch_yI ch_bI 1 (some .boolean) (ch_ws ch_yI ch_bI 1 (some .boolean)) { frames := 0, cells := 0, slots := 0, locals := 0 } 0 0 0 :=
    ⟨callB_of 0 hg (ch_gi (am_good_of (k := 232) rfl rfl)) rfl rfl rfl (hg _ (am_good_of (k := 78) rfl rfl)) (hg _ (am_good_of (k := 229) rfl rfl)) ⟨by decide, by decide, by decide +kernel⟩ ⟨by decide, by decide⟩, hg _ (am_good_of (k := 230) rfl rfl), hg _ (am_good_of (k := 231) rfl rfl)⟩
  refine va_calli (va_runV (As := []) (rest := []) (n := 0) ⟨hx, hb, hml, hown, hg⟩ (ch_isLatin1 l q A) cw ⟨fun a U g mk q9 => ⟨q9.1, am_CH_warm (u := U) (U := U.calling g mk a) (State.WarmedH.refl U) (fun _ _ _ => rfl) (fun _ h => h) q9.2⟩, vk_recv hVS (i := 0) (by decide) hS, fun U hU hW => ⟨rfl, by show am_CH q A U U.heap; rw [hU]; exact am_CH_warm hW (fun _ _ _ => rfl) (fun _ h => h) hC⟩⟩ rfl rfl hl.1 rfl (lv_room (Nat.le_of_ble_eq_true rfl)) ch_dC1 ⟨Nat.le_refl _, Nat.le_refl _⟩) hS0 (fun _ _ h => h) (fun _ h => h) (fun r u t H1 locs1 ht hvm hw hB hk1 hk2 hS1 => ?_)
  subst hw
  refine lv_if_eq hx hb ch_dC4 (tgt := 16) rfl (fun h => absurd h (by decide)) (fun _ => ?_)
  refine lv_aload_n hx hb ch_dC7 rfl (lv_at hl 0 rfl) ?_
  refine vk_getf hx hb (hVS.1 0 (by decide)).2.2.1 (ch_SA hS1) hown (hg _ (am_good_of (k := 1074) rfl rfl)) (fun _ h9 => h9) ch_dC8 ?_
  refine lv_iload_n hx hb ch_dC11 rfl (lv_at hl 1 rfl) ?_
  have hk2' : ∀ z : Nat, z < s.heap.size → ¬ A z → H1[z]? = s.heap[z]? := fun z a _ => hk2 z a (fun q => q)
  have hZ1 : va_Zq "jdk/internal/util/Preconditions" "SIOOBE_FORMATTER" "Ljava/util/function/BiFunction;" A s H1 := hSI.kept hk2'
  have hT1 := ((hVS.1 0 (by decide)).2.2.2).kept hk2'
  refine va_calli (va_runS (As := [.ref (adV 0), .int (nI k)]) (rest := []) (n := 2) ⟨hx, hb, hml, hown, hg⟩ (ch_latin l A (adV 0) k hk) (va_cwS (R := { frames := 3, cells := 0, slots := 0, locals := 64 }) 2 hg (ch_giS (am_good_of (k := 237) rfl rfl) (am_good_of (k := 235) rfl rfl) (am_good_of (k := 236) rfl rfl) (am_good_of (k := 79) rfl rfl)) rfl rfl rfl ⟨by decide, by decide, by decide +kernel⟩ ⟨by decide, by decide⟩) ⟨fun a U g mk q9 => ⟨q9.1, va_Zq.moved (u := U) (U := U.calling g mk a) (Vm.Alike.refl U.vm) q9.2.1, va_T.moved (u := U) (U := U.calling g mk a) (Vm.Alike.refl U.vm) q9.2.2⟩, fun U hU hW => ⟨rfl, by rw [hU]; exact va_Zq.moved hW.alike hZ1, by rw [hU]; exact va_T.moved hW.alike hT1⟩⟩ rfl rfl hl.1 rfl (lv_room (Nat.le_of_ble_eq_true rfl)) ch_dC12 ⟨Nat.le_refl _, Nat.le_refl _⟩) hS1 (fun _ _ h => h) (fun _ h => h) (fun r u t H2 locs2 ht2 hvm2 hw2 hB2 hk3 hk4 hS2 => ?_)
  subst hw2
  exact W.zret (v := am_sg k) hx hb hr v3 (fun t ht hW => ⟨⟨am_sg k, (), rfl, rfl, trivial⟩, hS2.F ht⟩) hS2.2.2 ch_dC15
theorem am_R_chr {L : am_S} {t : am_MT} {n pc : Nat} {ls st : List Value} {M : am_M} {Q : am_Q} {idx z k : Nat} {v : Int32} (hd : decode (mt_b t) pc = .ok (.invokevirtual idx, 3)) (hw : lw_tbl[z]? = some (.methodLink (mt_y t).cls idx ⟨"java/lang/String", "charAt", "(I)C"⟩)) (h1' : 4 ≤ mt_rf t) (h2' : 85 ≤ mt_rl t) (hcat : am_cat st ≤ 8) (hv : v = nI k) (hk : k < 5)
    (kk : am_R L t n (pc + 3) ls (.int (am_sg k) :: st) M Q) : am_R L t n pc ls (.int v :: .ref 28 :: st) M Q := by
  intro p l e R s m args below meth c a D g A cells slots QQ hE hC h1 h2 hEnd H locs la hW hL
  obtain ⟨hx, hb, hml, hown, hts, hlk, hst, htab, hret, hrf, hrl⟩ := id hE
  subst hv
  show W p l e R s m args below meth c H locs cells slots QQ (F0 m pc la (.int (nI k) :: am_tv a (.ref 28) :: st.map (am_tv a)))
  rw [am_tv_ref (by decide)]
  have hCH : am_CH (a 28) A s H := am_CH_warm (State.WarmedH.refl s) hW.2.1.2.1 (fun _ h => h) hC.2.2.2.1.2.2.2.1
  obtain ⟨-, ⟨adV, hVS⟩, -, -⟩ := hC.2.2.2.1.2.2.2.1
  have cw : CallW R s args (mt_y t).cls "java/lang/String" idx ch_yC ch_bC 2 (some .char) (ch_ws ch_yC ch_bC 2 (some .char)) { frames := 3, cells := 0, slots := 0, locals := 64 } 0 0 1 :=
    ⟨callB_of 1 hts (ch_gi (am_good_of (k := 228) rfl rfl)) rfl rfl rfl (hts _ (am_good_of (k := 78) rfl rfl)) (hts _ (am_good_of hw rfl)) ⟨by decide, by decide, by decide +kernel⟩ ⟨by show 3 + 1 ≤ R.frames; omega, by show 8 + (2 + 11) + 64 ≤ R.locals; omega⟩, hts _ (am_good_of (k := 226) rfl rfl), hts _ (am_good_of (k := 227) rfl rfl)⟩
  refine va_calli (va_runV (As := [.int (nI k)]) (rest := st.map (am_tv a)) (n := 1) ⟨hx, hb, hml, hown, hts⟩ (ch_charAt l (a 28) A k hk) cw ⟨fun a' U g mk q9 => ⟨q9.1, am_CH_warm (u := U) (U := U.calling g mk a') (State.WarmedH.refl U) (fun _ _ _ => rfl) (fun _ h => h) q9.2⟩, vk_recv hVS (i := 0) (by decide) hW.2.1, fun U hU hWm => ⟨rfl, by show am_CH (a 28) A U U.heap; rw [hU]; exact am_CH_warm hWm (fun _ _ _ => rfl) (fun _ h => h) hCH⟩⟩ rfl rfl hL.1 rfl (lv_room (by rw [am_cat_map]; exact hcat)) hd ⟨by omega, by omega⟩) hW.2.1 (fun _ _ h => h.elim) (fun _ h => h.elim) (fun r u t' H1 locs1 ht hvm hw' hB hk1 hk2 hS1 => ?_)
  subst hw'
  refine kk p l e R s m args below meth c a D g A cells slots QQ hE hC h1 h2 hEnd H1 locs1 la ⟨fun i x hi => ?_, hS1, hW.2.2⟩ hL
  have hq := hW.1 i x hi
  exact hq.kept (hk2 x.1 hq.lt (fun z => z))
