section AMD
variable {p : Program} {l : Launch} {e : Env} {R : Room} {s : State} {m : MethodId} {args : Array Value} {below : List Frame} {meth : Method} {c : Code} {H : Heap} {locs : List Loc} {cells slots : Nat} {QQ : State → Prop}
variable {Qc : Array Value → State → Outcome → State → Prop} {XC : String → State → State → Prop} {free : Addr → Prop} {cc : ByteArray} {pc : Nat} {la : Array Slot} {mc ms : Nat}
/-- returns that say what was made -/
theorem am_zret {v : Int32} {ty : FieldType} (hexec : p.tables.exec = Jvm.exec) (hb : c.code = cc) (hr : meth.sig.returnType = some ty) (hn : narrow ty (.int v) = .int v)
    (hq : ∀ t : State, t.heap = H → s.WarmedH t.vm → FrameEnd s (.returned (some (.int v))) t locs cells slots → Qc args s (.returned (some (.int v))) t) (hf : ∀ q ∈ locs, free q.base)
    (hdg : decode cc pc = .ok (.ireturn, 1)) (hlocks : meth.locks = false) (hc : cells ≤ mc) (hs : slots ≤ ms) : W p l e R s m args below meth c H locs cells slots (vx_MQ below Qc XC args s mc ms free) (F0 m pc la [.int v]) := by
  intro T hT X
  obtain ⟨fs, hret, hrun, hended, hW, hframe⟩ := X.leave (v := some (.int v)) (hlocks := hlocks) (fun h => by rw [hr] at h; cases h)
  have hmeth' : T.vm.method? m = some meth := X.method'
  refine ⟨T.setFrames fs, ?_, .returned (some (.int v)), hrun, hended, Or.inl ⟨hq _ hT hW ⟨⟨_, rfl⟩, hW, hframe⟩, locs, ⟨⟨_, rfl⟩, hW, hframe.mono hc hs⟩, hf⟩⟩
  jvm_step X.here [X.here.top, hexec, hb, hdg, hmeth', hr, hn]
  (try refine ⟨rfl, ?_⟩); (try refine ⟨rfl, ?_⟩)
  first | (intro acts; rw [hret _ acts rfl rfl rfl]) | rw [hret _ _ rfl rfl rfl]
  exact Steps.refl _
theorem am_lret {v : Int64} (hexec : p.tables.exec = Jvm.exec) (hb : c.code = cc) (hr : meth.sig.returnType = some .long)
    (hq : ∀ t : State, t.heap = H → s.WarmedH t.vm → FrameEnd s (.returned (some (.long v))) t locs cells slots → Qc args s (.returned (some (.long v))) t) (hf : ∀ q ∈ locs, free q.base)
    (hdg : decode cc pc = .ok (.lreturn, 1)) (hlocks : meth.locks = false) (hc : cells ≤ mc) (hs : slots ≤ ms) : W p l e R s m args below meth c H locs cells slots (vx_MQ below Qc XC args s mc ms free) (F0 m pc la [.long v]) := by
  intro T hT X
  obtain ⟨fs, hret, hrun, hended, hW, hframe⟩ := X.leave (v := some (.long v)) (hlocks := hlocks) (fun h => by rw [hr] at h; cases h)
  have hmeth' : T.vm.method? m = some meth := X.method'
  refine ⟨T.setFrames fs, ?_, .returned (some (.long v)), hrun, hended, Or.inl ⟨hq _ hT hW ⟨⟨_, rfl⟩, hW, hframe⟩, locs, ⟨⟨_, rfl⟩, hW, hframe.mono hc hs⟩, hf⟩⟩
  jvm_step X.here [X.here.top, hexec, hb, hdg, hmeth', hr, narrow]
  (try refine ⟨rfl, ?_⟩); (try refine ⟨rfl, ?_⟩)
  first | (intro acts; rw [hret _ acts rfl rfl rfl]) | rw [hret _ _ rfl rfl rfl]
  exact Steps.refl _
theorem am_dret {v : UInt64} (hexec : p.tables.exec = Jvm.exec) (hb : c.code = cc) (hr : meth.sig.returnType = some .double)
    (hq : ∀ t : State, t.heap = H → s.WarmedH t.vm → FrameEnd s (.returned (some (.double v))) t locs cells slots → Qc args s (.returned (some (.double v))) t) (hf : ∀ q ∈ locs, free q.base)
    (hdg : decode cc pc = .ok (.dreturn, 1)) (hlocks : meth.locks = false) (hc : cells ≤ mc) (hs : slots ≤ ms) : W p l e R s m args below meth c H locs cells slots (vx_MQ below Qc XC args s mc ms free) (F0 m pc la [.double v]) := by
  intro T hT X
  obtain ⟨fs, hret, hrun, hended, hW, hframe⟩ := X.leave (v := some (.double v)) (hlocks := hlocks) (fun h => by rw [hr] at h; cases h)
  have hmeth' : T.vm.method? m = some meth := X.method'
  refine ⟨T.setFrames fs, ?_, .returned (some (.double v)), hrun, hended, Or.inl ⟨hq _ hT hW ⟨⟨_, rfl⟩, hW, hframe⟩, locs, ⟨⟨_, rfl⟩, hW, hframe.mono hc hs⟩, hf⟩⟩
  jvm_step X.here [X.here.top, hexec, hb, hdg, hmeth', hr, narrow]
  (try refine ⟨rfl, ?_⟩); (try refine ⟨rfl, ?_⟩)
  first | (intro acts; rw [hret _ acts rfl rfl rfl]) | rw [hret _ _ rfl rfl rfl]
  exact Steps.refl _
theorem am_vret (hexec : p.tables.exec = Jvm.exec) (hb : c.code = cc) (hr : meth.sig.returnType = none)
    (hq : ∀ t : State, t.heap = H → s.WarmedH t.vm → FrameEnd s (.returned none) t locs cells slots → Qc args s (.returned none) t) (hf : ∀ q ∈ locs, free q.base)
    (hdg : decode cc pc = .ok (.return_, 1)) (hlocks : meth.locks = false) (hc : cells ≤ mc) (hs : slots ≤ ms) : W p l e R s m args below meth c H locs cells slots (vx_MQ below Qc XC args s mc ms free) (F0 m pc la []) := by
  intro T hT X
  obtain ⟨fs, hret, hrun, hended, hW, hframe⟩ := X.leave (v := none) (hlocks := hlocks) (fun _ => rfl)
  have hmeth' : T.vm.method? m = some meth := X.method'
  refine ⟨T.setFrames fs, ?_, .returned none, hrun, hended, Or.inl ⟨hq _ hT hW ⟨⟨_, rfl⟩, hW, hframe⟩, locs, ⟨⟨_, rfl⟩, hW, hframe.mono hc hs⟩, hf⟩⟩
  jvm_step X.here [X.here.top, hexec, hb, hdg, hmeth', hr]
  (try refine ⟨rfl, ?_⟩); (try refine ⟨rfl, ?_⟩)
  first | (intro acts; rw [hret _ acts rfl rfl rfl]) | rw [hret _ _ rfl rfl rfl]
  exact Steps.refl _
end AMD
theorem am_hd_split {E : String} {hp : Nat} : ∀ hs : List (Nat × Nat × Nat × Nat), am_hd E hs = some hp → ∃ pre x suf, hs = pre ++ x :: suf ∧ x.2.2.1 = hp ∧ am_xl x.2.2.2 = E ∧ ∀ z ∈ pre, am_xl z.2.2.2 ≠ E
  | [], h => by cases h
  | x :: hs, h => by
    unfold am_hd at h
    split at h
    · rename_i hx
      cases h
      exact ⟨[], x, hs, rfl, rfl, hx, fun z hz => by cases hz⟩
    · rename_i hx
      obtain ⟨pre, y, suf, h1, h2, h3, h4⟩ := am_hd_split hs h
      exact ⟨x :: pre, y, suf, by rw [h1]; rfl, h2, h3, fun z hz => by
        rcases List.mem_cons.mp hz with rfl | hz
        · exact hx
        · exact h4 z hz⟩
theorem am_cl13 : Jvm.Cond.classLink "DyeVatsLaw" 15 "java/lang/IndexOutOfBoundsException" ∈ am_good := by decide +kernel
theorem am_cl15 : Jvm.Cond.classLink "DyeVatsLaw" 17 "java/lang/IllegalArgumentException" ∈ am_good := by decide +kernel
theorem am_cl21 : Jvm.Cond.classLink "DyeVatsLaw" 23 "java/lang/IllegalStateException" ∈ am_good := by decide +kernel
/-- the rows of a table: they cover the place, they name the three classes -/
def am_cov (pc : Nat) (hs : List (Nat × Nat × Nat × Nat)) : Bool := hs.all fun h => decide (h.1 ≤ pc) && (decide (pc < h.2.1) && (decide (h.2.2.2 = 15) || (decide (h.2.2.2 = 17) || decide (h.2.2.2 = 23))))
theorem am_xl_ct {k : Nat} (h : k = 15 ∨ k = 17 ∨ k = 23) : Jvm.Cond.classLink "DyeVatsLaw" k (am_xl k) ∈ am_good ∧ k ≠ 0 ∧ ∃ i, am_xl k = am_ex i := by
  rcases h with rfl | rfl | rfl
  · exact ⟨am_cl13, by decide, 0, rfl⟩
  · exact ⟨am_cl15, by decide, 1, rfl⟩
  · exact ⟨am_cl21, by decide, 2, rfl⟩
theorem am_covers {z : ExceptionTableEntry} {pc : Nat} (h1 : z.startPc ≤ pc) (h2 : pc < z.endPc) : covers z pc = true := by
  simp [covers, h1, h2]
theorem am_catch_W {p : Program} {l : Launch} {e : Env} {R : Room} {s : State} {m : MethodId} {args : Array Value} {below : List Frame} {meth : Method} {c : Code} {H : Heap} {locs : List Loc} {cells slots : Nat} {QQ : State → Prop} {pc hp : Nat} {la : Array Slot} {rest : List Value} {E : String} {hs : List (Nat × Nat × Nat × Nat)} {q : Addr} {ce : Cell}
    (hown : s.vm.findClass "DyeVatsLaw" = some m.cls) (hts : ∀ w ∈ am_good, w.before args s = true) (htab : c.exceptionTable.toList = tableOf hs) (hcov : am_cov pc hs = true) (hh : am_hd E hs = some hp) (hNc : ∀ i j : Nat, am_ex i ≠ am_ex j → va_Nc (am_ex i) (am_ex j) s) (hCa : ∀ i : Nat, va_Nw (.castable (am_ex i) (am_ex i)) s)
    (hcell : H[q]? = some ce) (hv : ce.vm = .none) (hcl : s.vm.findClass E = some ce.cls) (kk : W p l e R s m args below meth c H locs cells slots QQ (F0 m hp la [.ref q])) : vx_W p l e R s m args below meth c H locs cells slots QQ (F0 m pc la rest) q := by
  obtain ⟨pre, x, suf, h1, h2, h3, h4⟩ := am_hd_split hs hh
  have hall : ∀ z ∈ hs, z.1 ≤ pc ∧ pc < z.2.1 ∧ (z.2.2.2 = 15 ∨ z.2.2.2 = 17 ∨ z.2.2.2 = 23) := by
    intro z hz
    have := List.all_eq_true.mp hcov z hz
    simpa using this
  have hxm : x ∈ hs := by rw [h1]; simp
  obtain ⟨x1, x2, x3⟩ := hall x hxm
  obtain ⟨w1, w3, i, hi⟩ := am_xl_ct x3
  have hsplit : c.exceptionTable.toList = tableOf pre ++ (⟨x.1, x.2.1, x.2.2.1, x.2.2.2⟩ : ExceptionTableEntry) :: tableOf suf := by
    rw [htab, h1]
    simp [tableOf]
  refine vx_catch (own := "DyeVatsLaw") (name := am_xl x.2.2.2) (E := E) hown (tableOf pre) _ (tableOf suf) hsplit ?_ (am_covers x1 x2) w3 (hts _ w1) (by rw [← h3, hi]; exact va_Nw.use rfl (hCa i)) hcell hv hcl (by rw [h2]; exact kk)
  intro z hz
  obtain ⟨y, hy, rfl⟩ := List.mem_map.mp hz
  have hym : y ∈ hs := by rw [h1]; exact List.mem_append_left _ hy
  obtain ⟨y1, y2, y3⟩ := hall y hym
  obtain ⟨v1, v3, j, hj⟩ := am_xl_ct y3
  refine Or.inr ⟨v3, am_xl y.2.2.2, hts _ v1, ?_⟩
  rw [← h3, hi, hj]
  exact hNc i j (by rw [← hi, ← hj, h3]; exact fun z => h4 y hy z.symm)
def am_nm : List String := ["java/lang/RuntimeException", "java/lang/Exception"]
def am_ix : Nat → Nat
  | 0 => 220 | 1 => 88 | _ => 77
def am_kx : Nat → Nat
  | 0 => 216 | 1 => 84 | _ => 73
theorem am_at0 : ∀ w ∈ (vx_atS RX3 220 "java/lang/IndexOutOfBoundsException" am_nm).filter goodWord, w ∈ am_good := by decide +kernel
theorem am_at1 : ∀ w ∈ (vx_atS RX3 88 "java/lang/IllegalArgumentException" am_nm).filter goodWord, w ∈ am_good := by decide +kernel
theorem am_at2 : ∀ w ∈ (vx_atS RX3 77 "java/lang/IllegalStateException" am_nm).filter goodWord, w ∈ am_good := by decide +kernel
theorem am_an0 : ∀ w ∈ (vx_atS RX3 220 "java/lang/IndexOutOfBoundsException" am_nm).filter (fun w => !goodWord w), w ∈ Jvm.Cond.castable "java/lang/IndexOutOfBoundsException" "java/lang/IndexOutOfBoundsException" :: am_dn.map Jvm.Cond.declares := by decide +kernel
theorem am_an1 : ∀ w ∈ (vx_atS RX3 88 "java/lang/IllegalArgumentException" am_nm).filter (fun w => !goodWord w), w ∈ Jvm.Cond.castable "java/lang/IllegalArgumentException" "java/lang/IllegalArgumentException" :: am_dn.map Jvm.Cond.declares := by decide +kernel
theorem am_an2 : ∀ w ∈ (vx_atS RX3 77 "java/lang/IllegalStateException" am_nm).filter (fun w => !goodWord w), w ∈ Jvm.Cond.castable "java/lang/IllegalStateException" "java/lang/IllegalStateException" :: am_dn.map Jvm.Cond.declares := by decide +kernel
theorem am_ck0 : Jvm.Cond.classLink RX3 216 "java/lang/IndexOutOfBoundsException" ∈ am_good ∧ Jvm.Cond.initialized "java/lang/IndexOutOfBoundsException" ∈ am_good ∧ Jvm.Cond.classLink RX3 84 "java/lang/IllegalArgumentException" ∈ am_good ∧ Jvm.Cond.initialized "java/lang/IllegalArgumentException" ∈ am_good ∧ Jvm.Cond.classLink RX3 73 "java/lang/IllegalStateException" ∈ am_good ∧ Jvm.Cond.initialized "java/lang/IllegalStateException" ∈ am_good := by decide +kernel
theorem am_ag : (∀ w ∈ Jvm.Cond.classLink RX3 216 "java/lang/IndexOutOfBoundsException" :: Jvm.Cond.initialized "java/lang/IndexOutOfBoundsException" :: vx_atS RX3 220 "java/lang/IndexOutOfBoundsException" am_nm, vx_ot w = true) ∧ (∀ w ∈ Jvm.Cond.classLink RX3 84 "java/lang/IllegalArgumentException" :: Jvm.Cond.initialized "java/lang/IllegalArgumentException" :: vx_atS RX3 88 "java/lang/IllegalArgumentException" am_nm, vx_ot w = true) ∧ (∀ w ∈ Jvm.Cond.classLink RX3 73 "java/lang/IllegalStateException" :: Jvm.Cond.initialized "java/lang/IllegalStateException" :: vx_atS RX3 77 "java/lang/IllegalStateException" am_nm, vx_ot w = true) := by decide +kernel
