/-! THE ABSTRACT MACHINE: a method's code over a world of 17 cells whose references never change, and one more array (cell 17, its length g.2.2; none while that is 0); its memory is a number for each place of each cell.
References on the stack are the numbers of cells (27: the script, 29 + q: the address q). -/
abbrev am_M : Type := Nat → Nat → Int32
/-- the length of the array more; the script: its length and its numbers -/
abbrev am_S : Type := Nat × Nat × (Nat → Int32)
def am_rv (_ : am_S) (M : am_M) (k : Nat) : Nat → Int32 := fun o => M o k
abbrev am_O : Type := Option Value ⊕ String
abbrev am_Q : Type := am_O → am_M → Prop
/-- an instruction, its length, and three numbers that say what it links -/
abbrev am_I : Type := Instr × Nat × Nat × Nat × Nat
def am_k : Int → Int32
  | .ofNat n => nI n
  | .negSucc n => -nI (n + 1)
def am_set (M : am_M) (o : Nat) (f : Nat → Int32) : am_M := fun q => if q = o then f else M q
abbrev am_cls : List vw_C := [(RX0, TX0, 5), (RX1, TX1, 1), (RX2, TX2, 7), (RX3, TX3, 9)]
/-- a cell's class -/
def am_ci : Nat → Nat
  | 0 => 3 | 1 => 1 | 3 => 1 | 5 => 0 | 6 => 1 | 9 => 2 | _ => 9
/-- fields of a class -/
def am_nf : Nat → Nat
  | 0 => 5 | 1 => 1 | 2 => 7 | 3 => 9 | _ => 0
/-- the cell that a field refers to; 0: a number -/
def am_fr : Nat → Nat → Nat
  | 0, 0 => 6 | 0, 1 => 8
  | 2, 0 => 10 | 2, 2 => 11 | 2, 4 => 12
  | 3, 0 => 1 | 3, 1 => 3 | 3, 2 => 5 | 3, 3 => 9 | 3, 4 => 13 | 3, 5 => 14 | 3, 6 => 15 | 3, 7 => 16
  | _, _ => 0
def am_v0 (o k : Nat) (M : am_M) : Nat → Value
  | 0 => .int (M o k)
  | r + 1 => .ref (r + 1)
def am_val (ci o k : Nat) (M : am_M) : Value := match ci with
  | 1 => .ref (o + 1)
  | _ => am_v0 o k M (am_fr ci k)
/-- an array's length; L: that of the array more -/
def am_len (L : Nat) : Nat → Nat
  | 2 => 105 | 4 => 105 | 7 => 105 | 8 => 4235 | 10 => 60 | 11 => 40 | 12 => 5 | 13 => 5 | 14 => 210 | 15 => 2 | 16 => 630
  | 17 => L | _ => 0
/-- 0: an array of ints, 1: of booleans, 4: the array more, 9: an object -/
def am_kd : Nat → Nat
  | 0 => 9 | 1 => 9 | 3 => 9 | 5 => 9 | 6 => 9 | 9 => 9 | 15 => 1 | 17 => 4
  | 2 => 0 | 4 => 0 | 7 => 0 | 8 => 0 | 10 => 0 | 11 => 0 | 12 => 0 | 13 => 0 | 14 => 0 | 16 => 0 | _ => 9
def am_tv (a : Nat → Nat) : Value → Value
  | .ref o => .ref (if o < 29 then a o else o - 29)
  | v => v
def am_e (a : Nat → Nat) (g : ClassId × ClassId × Nat) (M : am_M) (o : Nat) : va_E := match am_kd o with
  | 0 => .inl (g.1, am_len 0 o, .inl (M o))
  | 1 => .inl (g.2.1, am_len 0 o, .inl (M o))
  | 4 => .inl (g.1, g.2.2, .inl (M o))
  | _ => .inr (am_ci o, (List.range (am_nf (am_ci o))).map (fun k => am_tv a (am_val (am_ci o) o k M)))
/-- how many cells the world has -/
def am_nc (x : Nat) : Nat := if x = 0 then 17 else 18
def am_w (a : Nat → Nat) (g : ClassId × ClassId × Nat) (M : am_M) : va_W := (List.range (am_nc g.2.2)).map (fun o => (a o, am_e a g M o))
def am_tys (g : ClassId × ClassId × Nat) : List (ClassId × FieldType) := [(g.1, .int), (g.2.1, .boolean)]
-- locals
def am_s1 (ls : List Value) (k : Nat) (v : Value) : List Value := match k with
  | 0 => ls.set 0 v
  | j + 1 => match ls[j]? with
    | some (.long _) => (ls.set j .null).set (j + 1) v
    | some (.double _) => (ls.set j .null).set (j + 1) v
    | _ => ls.set (j + 1) v
def am_s2 (ls : List Value) (k : Nat) (v : Value) : List Value := (am_s1 ls k v).set (k + 1) .null
def am_li (ls st : List Value) (k : Nat) : Option (List Value) := match ls[k]? with
  | some (.int x) => some (.int x :: st)
  | _ => none
def am_la (ls st : List Value) (k : Nat) : Option (List Value) := match ls[k]? with
  | some (.ref x) => some (.ref x :: st)
  | _ => none
def am_ll (ls st : List Value) (k : Nat) : Option (List Value) := match ls[k]? with
  | some (.long x) => some (.long x :: st)
  | _ => none
def am_ld (ls st : List Value) (k : Nat) : Option (List Value) := match ls[k]? with
  | some (.double x) => some (.double x :: st)
  | _ => none
def am_i2 (f : Int32 → Int32 → Int32) (st : List Value) : Option (List Value) := match st with
  | .int y :: .int x :: r => some (.int (f x y) :: r)
  | _ => none
def am_l2 (f : Int64 → Int64 → Int64) (st : List Value) : Option (List Value) := match st with
  | .long y :: .long x :: r => some (.long (f x y) :: r)
  | _ => none
/-- what only moves the stack -/
def am_pu (i : Instr) (ls st : List Value) : Option (List Value) := match i with
  | .iconst k => some (.int (am_k k) :: st)
  | .bipush k => some (.int (am_k k) :: st)
  | .sipush k => some (.int (am_k k) :: st)
  | .lconst k => some (.long (lN k) :: st)
  | .dconst k => some (.double (if k = 0 then FP.dconst0 else FP.dconst1) :: st)
  | .iload_n k => am_li ls st k
  | .iload k => am_li ls st k
  | .aload_n k => am_la ls st k
  | .aload k => am_la ls st k
  | .lload_n k => am_ll ls st k
  | .lload k => am_ll ls st k
  | .dload_n k => am_ld ls st k
  | .dload k => am_ld ls st k
  | .iadd => am_i2 (fun x y => x + y) st
  | .isub => am_i2 (fun x y => x - y) st
  | .imul => am_i2 (fun x y => x * y) st
  | .iand => am_i2 (fun x y => x &&& y) st
  | .ixor => am_i2 (fun x y => x ^^^ y) st
  | .ishl => am_i2 (fun x y => x <<< (y &&& 31)) st
  | .ishr => am_i2 (fun x y => x >>> (y &&& 31)) st
  | .iushr => am_i2 (fun x y => (x.toUInt32 >>> (y.toUInt32 &&& Int32.toUInt32 31)).toInt32) st
  | .ladd => am_l2 (fun x y => x + y) st
  | .lsub => am_l2 (fun x y => x - y) st
  | .lmul => am_l2 (fun x y => x * y) st
  | .ineg => match st with
    | .int x :: r => some (.int (-x) :: r)
    | _ => none
  | .lshl => match st with
    | .int y :: .long x :: r => some (.long (x <<< (y.toInt64 &&& 63)) :: r)
    | _ => none
  | .lcmp => match st with
    | .long y :: .long x :: r => some (.int (lg_cmp x y) :: r)
    | _ => none
  | .dcmp op => match st with
    | .double y :: .double x :: r => some (.int (Op.cmpValue (FP.dcmp x y) op) :: r)
    | _ => none
  | .i2l => match st with
    | .int x :: r => some (.long x.toInt64 :: r)
    | _ => none
  | .i2d => match st with
    | .int x :: r => some (.double (FP.i2d x) :: r)
    | _ => none
  | .d2l => match st with
    | .double x :: r => some (.long (FP.d2l x) :: r)
    | _ => none
  | .dup => match st with
    | .int x :: r => some (.int x :: .int x :: r)
    | .ref x :: r => some (.ref x :: .ref x :: r)
    | _ => none
  | .dup2 => match st with
    | .int x :: .ref y :: r => some (.int x :: .ref y :: .int x :: .ref y :: r)
    | _ => none
  | .pop => match st with
    | .int _ :: r => some r
    | _ => none
  | _ => none
/-- what writes a local -/
def am_sto (i : Instr) (ls st : List Value) : Option (List Value × List Value) := match i with
  | .istore_n k => match st with
    | .int x :: r => some (am_s1 ls k (.int x), r)
    | _ => none
  | .istore k => match st with
    | .int x :: r => some (am_s1 ls k (.int x), r)
    | _ => none
  | .astore_n k => match st with
    | .ref x :: r => some (am_s1 ls k (.ref x), r)
    | _ => none
  | .astore k => match st with
    | .ref x :: r => some (am_s1 ls k (.ref x), r)
    | _ => none
  | .lstore_n k => match st with
    | .long x :: r => some (am_s2 ls k (.long x), r)
    | _ => none
  | .lstore k => match st with
    | .long x :: r => some (am_s2 ls k (.long x), r)
    | _ => none
  | .dstore_n k => match st with
    | .double x :: r => some (am_s2 ls k (.double x), r)
    | _ => none
  | .dstore k => match st with
    | .double x :: r => some (am_s2 ls k (.double x), r)
    | _ => none
  | .iinc k d => match ls[k]? with
    | some (.int x) => some (am_s1 ls k (.int (x + am_k d)), st)
    | _ => none
  | _ => none
def am_c1 : ClassFile.Cond → Int32 → Prop
  | .eq, x => x = 0
  | .ne, x => ¬ x = 0
  | .lt, x => x < 0
  | .ge, x => 0 ≤ x
  | .gt, x => 0 < x
  | .le, x => x ≤ 0
def am_c2 : ClassFile.Cond → Int32 → Int32 → Prop
  | .eq, x, y => x = y
  | .ne, x, y => ¬ x = y
  | .lt, x, y => x < y
  | .ge, x, y => y ≤ x
  | .gt, x, y => y < x
  | .le, x, y => x ≤ y
def am_args : Nat → List Value → List Value → Option (List Value × List Value)
  | 0, acc, st => some (acc, st)
  | n + 1, acc, v :: st => am_args n (v :: acc) st
  | _ + 1, _, [] => none
def am_cat : List Value → Nat
  | [] => 0
  | v :: r => v.category + am_cat r
def am_ex : Nat → String
  | 0 => "java/lang/IndexOutOfBoundsException"
  | 1 => "java/lang/IllegalArgumentException"
  | _ => "java/lang/IllegalStateException"
/-- the law's class links of the three -/
def am_xl : Nat → String
  | 15 => "java/lang/IndexOutOfBoundsException"
  | 17 => "java/lang/IllegalArgumentException"
  | _ => "java/lang/IllegalStateException"
/-- where a table catches -/
def am_hd (E : String) : List (Nat × Nat × Nat × Nat) → Option Nat
  | [] => none
  | h :: r => if am_xl h.2.2.2 = E then some h.2.2.1 else am_hd E r
def am_sg : Nat → Int32
  | 0 => nI 62 | 1 => nI 42 | 2 => nI 64 | 3 => nI 45 | _ => nI 59
/-- the texts of the system's exceptions: their places -/
abbrev am_tx : List (Nat × String) := [(75, "too many grains of this dye"), (86, "a valve goes to another vat"), (89, "no more valves"), (97, "a pipe goes to another vat"), (99, "too many hours"), (142, "no snapshot in the slot"), (144, "nothing to undo"), (218, "no such vat"), (221, "no such dye"), (223, "no such valve"), (225, "out of range")]
-- what of the launch is asked, beside the tables' words
abbrev am_dn : List MethodName := [⟨"java/lang/RuntimeException", "<init>", "(Ljava/lang/String;)V"⟩, ⟨"java/lang/Exception", "<init>", "(Ljava/lang/String;)V"⟩, ⟨"java/lang/Throwable", "<init>", "(Ljava/lang/String;)V"⟩]
def am_SF (A : Nat → Prop) (s : State) (H : Heap) : Prop := vx_Zq Bundle.tN "UNASSIGNED_STACK" Bundle.steD A s H ∧ vx_Zq Bundle.tN "SUPPRESSED_SENTINEL" Bundle.listD A s H ∧ (∀ t ∈ am_tx, ∃ sa : Nat, vk_R RX3 t.1 t.2 sa s) ∧ (∀ i j : Nat, am_ex i ≠ am_ex j → va_Nc (am_ex i) (am_ex j) s) ∧ (∀ i : Nat, va_Nw (.castable (am_ex i) (am_ex i)) s) ∧ ∀ x ∈ am_dn, va_Nw (.declares x) s
abbrev am_good : List Jvm.Cond := lw_tbl.filter goodWord
def am_ws (t : am_MT) : List Jvm.Cond := (match mt_h t with
  | [] => Jvm.Cond.code (mt_y t) (mt_b t) (mt_l t) (mt_r t)
  | h => Jvm.Cond.codeWith (mt_y t) (mt_b t) (mt_l t) (mt_r t) h) :: am_good
def am_rm (t : am_MT) : Room := { frames := mt_rf t, cells := mt_c t, slots := 6 * mt_c t, locals := mt_rl t }
-- a method's contract
def am_Pre (a : Nat → Nat) (D : va_G) (g : ClassId × ClassId × Nat) (M : am_M) (sz : Nat) (U : State) : Prop := U.heap.size = sz ∧ va_P D am_cls (am_w a g M) U.heap ∧ va_K D am_cls (am_tys g) U ∧ va_D (fun _ => True) (am_w a g M) ∧ am_SF (va_A (am_w a g M) sz) U U.heap
def am_Qc (t : am_MT) (a : Nat → Nat) (D : va_G) (g : ClassId × ClassId × Nat) (A : Nat → Prop) (K : am_Q) : Array Value → State → Outcome → State → Prop := fun _ st oc u =>
  (∃ (v : Option Value) (M : am_M), oc = .returned (v.map (am_tv a)) ∧ K (.inl v) M ∧ va_P D am_cls (am_w a g M) u.heap) ∧ va_F A st u ∧ (mt_g t = false → ∃ L, FrameEnd st oc u L 0 0)
def am_XC (a : Nat → Nat) (D : va_G) (g : ClassId × ClassId × Nat) (A : Nat → Prop) (K : am_Q) : String → State → State → Prop := fun E st u =>
  (∃ M : am_M, K (.inr E) M ∧ va_P D am_cls (am_w a g M) u.heap) ∧ va_F A st u
/-- called with the arguments av in the memory M, the method comes to an outcome and a memory with K -/
def am_C (t : am_MT) (av : List Value) (M : am_M) (K : am_Q) : Prop := ∀ (l : Launch) (a : Nat → Nat) (D : va_G) (g : ClassId × ClassId × Nat) (sz : Nat), l.stackTraces = false → (mt_w t = true → g.2.2 = mt_x t) →
  vx_Met l (mt_y t) (am_ws t) (am_rm t) (va_Pc (av.map (am_tv a)) (am_Pre a D g M sz)) (am_Qc t a D g (va_A (am_w a g M) sz) K) (am_XC a D g (va_A (am_w a g M) sz) K) (mt_c t) (6 * mt_c t) (va_A (am_w a g M) sz)
-- inside a method
def am_Env (p : Program) (l : Launch) (R : Room) (s : State) (m : MethodId) (args : Array Value) (meth : Method) (c : Code) (t : am_MT) : Prop :=
  p.tables.exec = Jvm.exec ∧ c.code = mt_b t ∧ c.maxLocals = mt_l t ∧ s.vm.findClass (mt_y t).cls = some m.cls ∧ (∀ w ∈ am_good, w.before args s = true) ∧ meth.locks = false ∧ l.stackTraces = false ∧ c.exceptionTable.toList = tableOf (mt_h t) ∧ meth.sig.returnType = mt_r t ∧ mt_rf t ≤ R.frames ∧ mt_rl t ≤ R.locals
def am_Wl (L : am_S) (t : am_MT) (a : Nat → Nat) (D : va_G) (g : ClassId × ClassId × Nat) (A : Nat → Prop) (s : State) (M : am_M) (H : Heap) (locs : List Loc) : Prop :=
  va_P D am_cls (am_w a g M) H ∧ va_S A s.heap H locs ∧ (mt_v t = true → va_X (a 27) L.2.1 L.2.2 s s.heap)
def am_Ct (L : am_S) (t : am_MT) (a : Nat → Nat) (D : va_G) (g : ClassId × ClassId × Nat) (A : Nat → Prop) (s : State) : Prop :=
  va_K D am_cls (am_tys g) s ∧ (∀ M : am_M, va_D A (am_w a g M)) ∧ (∀ q : Nat, s.heap.size ≤ q → A q) ∧ am_SF A s s.heap ∧ (mt_v t = true → a 27 < s.heap.size ∧ ¬ A (a 27)) ∧ (mt_w t = true → g.2.2 = L.1)
def am_lv (a : Nat → Nat) (n : Nat) (ls : List Value) (la : Array Slot) : Prop := la.size = n ∧ lv_wf la ∧ ls.length = n ∧ ∀ (i : Nat) (v : Value), ls[i]? = some v → v ≠ .null → la[i]? = some (.val (am_tv a v))
/-- an instruction that returns v -/
def am_ri (t : am_MT) (v : Option Value) (i : Instr) : Prop := match v with
  | none => i = .return_ ∧ mt_r t = none
  | some (.int x) => i = .ireturn ∧ ∃ ty, mt_r t = some ty ∧ narrow ty (.int x) = .int x
  | some (.long _) => i = .lreturn ∧ mt_r t = some .long
  | some (.double _) => i = .dreturn ∧ mt_r t = some .double
  | _ => False
def am_End (p : Program) (l : Launch) (e : Env) (R : Room) (s : State) (m : MethodId) (args : Array Value) (below : List Frame) (meth : Method) (c : Code) (L : am_S) (t : am_MT) (a : Nat → Nat) (D : va_G) (g : ClassId × ClassId × Nat) (A : Nat → Prop) (cells slots n : Nat) (QQ : State → Prop) (Q : am_Q) : Prop :=
  ∀ k : Nat, k ≤ n → (mt_g t = false → k = 0) →
    (∀ (v : Option Value) (M : am_M) (H : Heap) (locs : List Loc) (pc : Nat) (la : Array Slot) (i : Instr), Q (.inl v) M → am_Wl L t a D g A s M H locs → am_ri t v i → decode (mt_b t) pc = .ok (i, 1) → la.size = mt_l t →
      W p l e R s m args below meth c H locs (cells + k) (slots + 6 * k) QQ (F0 m pc la ((v.map (am_tv a)).toList))) ∧
    (∀ (E : String) (M : am_M) (H : Heap) (locs : List Loc) (pc : Nat) (la : Array Slot) (rest : List Value) (q : Addr) (ce : Cell), Q (.inr E) M → am_Wl L t a D g A s M H locs → H[q]? = some ce → ce.vm = .none → s.vm.findClass E = some ce.cls → mt_h t = [] → k + 1 ≤ n →
      vx_W p l e R s m args below meth c H locs (cells + k + 1) (slots + 6 * k + 6) QQ (F0 m pc la rest) q) ∧
    (∀ (x : Nat) (M : am_M) (H : Heap) (locs : List Loc) (pc : Nat) (la : Array Slot) (rest : List Value) (ik ii ic : Nat), Q (.inr (am_ex x)) M → am_Wl L t a D g A s M H locs → mt_h t = [] → x < 3 → k + 1 ≤ n → la.size = mt_l t → am_cat rest ≤ 8 → (mt_y t).cls = RX3 → 6 ≤ mt_rf t → 90 ≤ mt_rl t →
      ik = (match x with | 0 => 216 | 1 => 84 | _ => 73) → ic = (match x with | 0 => 220 | 1 => 88 | _ => 77) → (∃ tx, (ii, tx) ∈ am_tx) →
      decode (mt_b t) pc = .ok (.new ik, 3) → decode (mt_b t) (pc + 3) = .ok (.dup, 1) → decode (mt_b t) (pc + 4) = .ok (.ldc ii, 2) → decode (mt_b t) (pc + 6) = .ok (.invokespecial ic, 3) → decode (mt_b t) (pc + 9) = .ok (.athrow, 1) →
      W p l e R s m args below meth c H locs (cells + k) (slots + 6 * k) QQ (F0 m pc la rest))
/-- from the place pc of the method t, with locals ls, stack st and memory M, with n exceptions still free: the method comes to an end with Q -/
def am_R (L : am_S) (t : am_MT) (n pc : Nat) (ls st : List Value) (M : am_M) (Q : am_Q) : Prop :=
  ∀ (p : Program) (l : Launch) (e : Env) (R : Room) (s : State) (m : MethodId) (args : Array Value) (below : List Frame) (meth : Method) (c : Code) (a : Nat → Nat) (D : va_G) (g : ClassId × ClassId × Nat) (A : Nat → Prop) (cells slots : Nat) (QQ : State → Prop),
    am_Env p l R s m args meth c t → am_Ct L t a D g A s → cells + n ≤ R.cells → slots + 6 * n ≤ R.slots → am_End p l e R s m args below meth c L t a D g A cells slots n QQ Q →
    ∀ (H : Heap) (locs : List Loc) (la : Array Slot), am_Wl L t a D g A s M H locs → am_lv a (mt_l t) ls la → W p l e R s m args below meth c H locs cells slots QQ (F0 m pc la (st.map (am_tv a)))
def am_rd (t : am_MT) (a : Nat) : Bool := Nat.beq (am_kd a) 0 || (Nat.beq a 17 && mt_w t)
/-- the class number of a method's own class -/
def am_cx (x : Nat) : Nat := if x < 1 then 8 else if x < 20 then 1 else if x < 25 then 0 else if x < 54 then 3 else 8
def am_sw (r : Nat → Prop) (x : Int32) (pc : Nat) : List Int → Int → Prop
  | [], _ => True
  | o :: os, k => (x.toInt = k → r ((pc : Int) + o).toNat) ∧ am_sw r x pc os (k + 1)
def am_ls (r : Nat → Prop) (x : Int32) (pc : Nat) (d : Int) : List (Int × Int) → Prop
  | [] => r ((pc : Int) + d).toNat
  | q :: os => (x.toInt = q.1 → r ((pc : Int) + q.2).toNat) ∧ (¬ x.toInt = q.1 → am_ls r x pc d os)
/-- what a straight stretch of code asks -/
def am_B (L : am_S) (t : am_MT) : List am_I → Nat → Nat → List Value → List Value → am_M → am_Q → Prop
  | [], n, pc, ls, st, M, Q => am_R L t n pc ls st M Q
  | (i, w, x, y, _) :: is, n, pc, ls, st, M, Q => match am_pu i ls st with
    | some st' => am_B L t is n (pc + w) ls st' M Q
    | none => match am_sto i ls st with
      | some q => am_B L t is n (pc + w) q.1 q.2 M Q
      | none => match i, st with
        | .ifCond cd o, .int v :: r => (am_c1 cd v → am_R L t n ((pc : Int) + o).toNat ls r M Q) ∧ (¬ am_c1 cd v → am_B L t is n (pc + w) ls r M Q)
        | .if_icmp cd o, .int v2 :: .int v1 :: r => (am_c2 cd v1 v2 → am_R L t n ((pc : Int) + o).toNat ls r M Q) ∧ (¬ am_c2 cd v1 v2 → am_B L t is n (pc + w) ls r M Q)
        | .goto o, r => am_R L t n ((pc : Int) + o).toNat ls r M Q
        | .tableswitch d lo hi os, .int v :: r => ((v.toInt < lo ∨ hi < v.toInt) → am_R L t n ((pc : Int) + d).toNat ls r M Q) ∧ am_sw (fun tg => am_R L t n tg ls r M Q) v pc os.toList lo
        | .lookupswitch d ps, .int v :: r => am_ls (fun tg => am_R L t n tg ls r M Q) v pc d ps.toList
        | .ldc _, r => match y with
          | 0 => am_B L t is n (pc + w) ls (.int (nI x) :: r) M Q
          | _ => False
        | .ldc_w _, r => am_B L t is n (pc + w) ls (.int (nI x) :: r) M Q
        | .ldc2_w _, r => match y with
          | 0 => am_B L t is n (pc + w) ls (.long (lN x) :: r) M Q
          | _ => am_B L t is n (pc + w) ls (.double (UInt64.ofNat x) :: r) M Q
        | .idiv, .int v2 :: .int v1 :: r => ¬ v2 = 0 ∧ am_B L t is n (pc + w) ls (.int (v1 / v2) :: r) M Q
        | .irem, .int v2 :: .int v1 :: r => ¬ v2 = 0 ∧ am_B L t is n (pc + w) ls (.int (v1 - v1 / v2 * v2) :: r) M Q
        | .ddiv, .double v2 :: .double v1 :: r => vf_n64 (FP.ddiv v1 v2) ∧ am_B L t is n (pc + w) ls (.double (FP.ddiv v1 v2) :: r) M Q
        | .getfield _, .ref o :: r => match Nat.beq (am_ci o) x with
          | true => am_B L t is n (pc + w) ls (am_val x o y M :: r) M Q
          | false => False
        | .putfield _, .int v :: .ref o :: r => match Nat.beq (am_ci o) x with
          | true => am_B L t is n (pc + w) ls r (am_set M o (upd (M o) y v)) Q
          | false => False
        | .iaload, .int v :: .ref o :: r => match am_rd t o with
          | true => ∃ k : Nat, v = nI k ∧ k < am_len L.1 o ∧ am_B L t is n (pc + w) ls (.int (am_rv L M k o) :: r) M Q
          | false => False
        | .baload, .int v :: .ref o :: r => match Nat.beq (am_kd o) 1 with
          | true => ∃ k : Nat, v = nI k ∧ k < am_len L.1 o ∧ am_B L t is n (pc + w) ls (.int (M o k) :: r) M Q
          | false => False
        | .iastore, .int z :: .int v :: .ref o :: r => match am_rd t o with
          | true => ∃ k : Nat, v = nI k ∧ k < am_len L.1 o ∧ am_B L t is n (pc + w) ls r (am_set M o (upd (M o) k z)) Q
          | false => False
        | .bastore, .int z :: .int v :: .ref o :: r => match Nat.beq (am_kd o) 1 with
          | true => (z = 0 ∨ z = 1) ∧ ∃ k : Nat, v = nI k ∧ k < am_len L.1 o ∧ am_B L t is n (pc + w) ls r (am_set M o (upd (M o) k z)) Q
          | false => False
        | .ireturn, [.int v] => match mt_r t with
          | some .int => Q (.inl (some (.int v))) M
          | some .boolean => (v = 0 ∨ v = 1) ∧ Q (.inl (some (.int v))) M
          | _ => False
        | .lreturn, [.long v] => match mt_r t with
          | some .long => Q (.inl (some (.long v))) M
          | _ => False
        | .dreturn, [.double v] => match mt_r t with
          | some .double => Q (.inl (some (.double v))) M
          | _ => False
        | .return_, [] => match mt_r t with
          | none => Q (.inl none) M
          | _ => False
        | .new _, [] => match n with
          | 0 => False
          | _ + 1 => Q (.inr (am_ex x)) M
        | .invokestatic _, st => match x with
          | 200 => match st with
            | .int v2 :: .int v1 :: r => match Nat.ble (am_cat r) 8 with
              | true => am_B L t is n (pc + w) ls (.int (if v2 < v1 then v2 else v1) :: r) M Q
              | false => False
            | _ => False
          | 201 => match st with
            | .int v2 :: .int v1 :: r => match Nat.ble (am_cat r) 8 with
              | true => am_B L t is n (pc + w) ls (.int (if v1 < v2 then v2 else v1) :: r) M Q
              | false => False
            | _ => False
          | 202 => match st with
            | .int nn :: .int dp :: .ref d :: .int sp :: .ref o :: r => match Nat.ble (am_cat r) 8 && (Nat.beq (am_kd o) 0 && Nat.beq (am_kd d) 0) with
              | true => ∃ sk dk nk : Nat, sp = nI sk ∧ dp = nI dk ∧ nn = nI nk ∧ sk + nk ≤ am_len L.1 o ∧ dk + nk ≤ am_len L.1 d ∧ am_B L t is n (pc + w) ls r (am_set M d (va_cpy (M o) (M d) sk dk nk)) Q
              | false => False
            | _ => False
          | _ => match am_args y [] st with
            | some (av, r) => match n, Nat.ble (am_cat r) 8 with
              | n + 1, true => am_C (am_mt x) av M (fun oc M' => match oc with
                | .inl none => am_B L t is (if mt_g (am_mt x) then n else n + 1) (pc + w) ls r M' Q
                | .inl (some v) => am_B L t is (if mt_g (am_mt x) then n else n + 1) (pc + w) ls (v :: r) M' Q
                | .inr E => match mt_h t with
                  | [] => Q (.inr E) M'
                  | h => ∃ hp, am_hd E h = some hp ∧ ∀ q : Nat, am_R L t n hp ls [.ref (29 + q)] M' Q)
              | _, _ => False
            | none => False
        | .invokevirtual _, st => match am_args y [] st with
            | some (.ref o :: av, r) => match n, Nat.ble (am_cat r) 8 && Nat.beq (am_ci o) (am_cx x) with
              | n + 1, true => am_C (am_mt x) (.ref o :: av) M (fun oc M' => match oc with
                | .inl none => am_B L t is (n + 1) (pc + w) ls r M' Q
                | .inl (some v) => am_B L t is (n + 1) (pc + w) ls (v :: r) M' Q
                | .inr E => match mt_h t with
                  | [] => Q (.inr E) M'
                  | h => ∃ hp, am_hd E h = some hp ∧ ∀ q : Nat, am_R L t n hp ls [.ref (29 + q)] M' Q)
              | _, _ => False
            | _ => False
        | _, _ => False
