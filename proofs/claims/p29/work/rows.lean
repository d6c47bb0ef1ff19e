section
-- ===== PART A: goes FIRST, ahead of the names: the tables' words, and 'selects' of the private methods out of them =====
/-- a private method of a class that the tables say can be made, by its rows of tables_1 -/
def lw_okq (q : MethodName × Nat) : Prop := (q.1.cls ≠ "java/lang/invoke/MethodHandle" ∧ q.1.cls ≠ "java/lang/invoke/VarHandle") ∧ Cond.instantiable q.1.cls q.2 ∈ tables_1 ∧ Cond.privateMethod q.1 ∈ tables_1 ∧ Cond.instanceMethod q.1 ∈ tables_1
theorem lw_p0 : lw_okq (⟨"java/lang/Throwable", "fillInStackTrace", "(I)Ljava/lang/Throwable;"⟩, 6) := ⟨⟨by decide +kernel, by decide +kernel⟩, List.mem_of_getElem? (i := 164) (by decide +kernel), List.mem_of_getElem? (i := 162) (by decide +kernel), List.mem_of_getElem? (i := 163) (by decide +kernel)⟩
theorem lw_p1 : lw_okq (⟨"DyeVats", "findEmptyHours", "()V"⟩, 9) := ⟨⟨by decide +kernel, by decide +kernel⟩, List.mem_of_getElem? (i := 15) (by decide +kernel), List.mem_of_getElem? (i := 194) (by decide +kernel), List.mem_of_getElem? (i := 195) (by decide +kernel)⟩
theorem lw_p2 : lw_okq (⟨"DyeVats$State", "runValves", "()V"⟩, 1) := ⟨⟨by decide +kernel, by decide +kernel⟩, List.mem_of_getElem? (i := 23) (by decide +kernel), List.mem_of_getElem? (i := 209) (by decide +kernel), List.mem_of_getElem? (i := 210) (by decide +kernel)⟩
theorem lw_p3 : lw_okq (⟨"DyeVats$State", "isOpen", "(II)Z"⟩, 1) := ⟨⟨by decide +kernel, by decide +kernel⟩, List.mem_of_getElem? (i := 23) (by decide +kernel), List.mem_of_getElem? (i := 217) (by decide +kernel), List.mem_of_getElem? (i := 218) (by decide +kernel)⟩
theorem lw_p4 : lw_okq (⟨"DyeVats$State", "moveWater", "(III)I"⟩, 1) := ⟨⟨by decide +kernel, by decide +kernel⟩, List.mem_of_getElem? (i := 23) (by decide +kernel), List.mem_of_getElem? (i := 221) (by decide +kernel), List.mem_of_getElem? (i := 222) (by decide +kernel)⟩
theorem lw_p5 : lw_okq (⟨"DyeVats$State", "levelPipes", "()V"⟩, 1) := ⟨⟨by decide +kernel, by decide +kernel⟩, List.mem_of_getElem? (i := 23) (by decide +kernel), List.mem_of_getElem? (i := 231) (by decide +kernel), List.mem_of_getElem? (i := 232) (by decide +kernel)⟩
theorem lw_p6 : lw_okq (⟨"DyeVats$State", "settleGrains", "()V"⟩, 1) := ⟨⟨by decide +kernel, by decide +kernel⟩, List.mem_of_getElem? (i := 23) (by decide +kernel), List.mem_of_getElem? (i := 235) (by decide +kernel), List.mem_of_getElem? (i := 236) (by decide +kernel)⟩
theorem lw_p7 : lw_okq (⟨"DyeVats$Days", "reachDay", "(I)V"⟩, 5) := ⟨⟨by decide +kernel, by decide +kernel⟩, List.mem_of_getElem? (i := 36) (by decide +kernel), List.mem_of_getElem? (i := 276) (by decide +kernel), List.mem_of_getElem? (i := 277) (by decide +kernel)⟩
theorem lw_p8 : lw_okq (⟨"DyeVats$Days", "isSameLook", "(II)Z"⟩, 5) := ⟨⟨by decide +kernel, by decide +kernel⟩, List.mem_of_getElem? (i := 36) (by decide +kernel), List.mem_of_getElem? (i := 281) (by decide +kernel), List.mem_of_getElem? (i := 282) (by decide +kernel)⟩
theorem lw_p9 : lw_okq (⟨"DyeVats", "saveState", "()V"⟩, 9) := ⟨⟨by decide +kernel, by decide +kernel⟩, List.mem_of_getElem? (i := 15) (by decide +kernel), List.mem_of_getElem? (i := 330) (by decide +kernel), List.mem_of_getElem? (i := 331) (by decide +kernel)⟩
theorem lw_p10 : lw_okq (⟨"DyeVats", "numberOf", "(I)I"⟩, 9) := ⟨⟨by decide +kernel, by decide +kernel⟩, List.mem_of_getElem? (i := 15) (by decide +kernel), List.mem_of_getElem? (i := 353) (by decide +kernel), List.mem_of_getElem? (i := 354) (by decide +kernel)⟩
theorem lw_p11 : lw_okq (⟨"DyeVats", "requireValve", "(I)V"⟩, 9) := ⟨⟨by decide +kernel, by decide +kernel⟩, List.mem_of_getElem? (i := 15) (by decide +kernel), List.mem_of_getElem? (i := 385) (by decide +kernel), List.mem_of_getElem? (i := 386) (by decide +kernel)⟩
theorem lw_p12 : lw_okq (⟨"DyeVats$State", "grainsInAll", "(I)I"⟩, 1) := ⟨⟨by decide +kernel, by decide +kernel⟩, List.mem_of_getElem? (i := 23) (by decide +kernel), List.mem_of_getElem? (i := 407) (by decide +kernel), List.mem_of_getElem? (i := 408) (by decide +kernel)⟩
theorem lw_p13 : lw_okq (⟨"DyeVats$State", "strongestVat", "(I)I"⟩, 1) := ⟨⟨by decide +kernel, by decide +kernel⟩, List.mem_of_getElem? (i := 23) (by decide +kernel), List.mem_of_getElem? (i := 411) (by decide +kernel), List.mem_of_getElem? (i := 412) (by decide +kernel)⟩
theorem lw_p14 : lw_okq (⟨"DyeVats", "refuse", "()I"⟩, 9) := ⟨⟨by decide +kernel, by decide +kernel⟩, List.mem_of_getElem? (i := 15) (by decide +kernel), List.mem_of_getElem? (i := 426) (by decide +kernel), List.mem_of_getElem? (i := 427) (by decide +kernel)⟩
def lw_privs_1 : List (MethodName × Nat) := [(⟨"java/lang/Throwable", "fillInStackTrace", "(I)Ljava/lang/Throwable;"⟩, 6), (⟨"DyeVats", "findEmptyHours", "()V"⟩, 9), (⟨"DyeVats$State", "runValves", "()V"⟩, 1), (⟨"DyeVats$State", "isOpen", "(II)Z"⟩, 1), (⟨"DyeVats$State", "moveWater", "(III)I"⟩, 1), (⟨"DyeVats$State", "levelPipes", "()V"⟩, 1), (⟨"DyeVats$State", "settleGrains", "()V"⟩, 1), (⟨"DyeVats$Days", "reachDay", "(I)V"⟩, 5), (⟨"DyeVats$Days", "isSameLook", "(II)Z"⟩, 5), (⟨"DyeVats", "saveState", "()V"⟩, 9), (⟨"DyeVats", "numberOf", "(I)I"⟩, 9), (⟨"DyeVats", "requireValve", "(I)V"⟩, 9), (⟨"DyeVats$State", "grainsInAll", "(I)I"⟩, 1), (⟨"DyeVats$State", "strongestVat", "(I)I"⟩, 1), (⟨"DyeVats", "refuse", "()I"⟩, 9)]
theorem lw_r1 : ∀ q ∈ lw_privs_1, lw_okq q := List.forall_mem_cons.mpr ⟨lw_p0, List.forall_mem_cons.mpr ⟨lw_p1, List.forall_mem_cons.mpr ⟨lw_p2, List.forall_mem_cons.mpr ⟨lw_p3, List.forall_mem_cons.mpr ⟨lw_p4, List.forall_mem_cons.mpr ⟨lw_p5, List.forall_mem_cons.mpr ⟨lw_p6, List.forall_mem_cons.mpr ⟨lw_p7, List.forall_mem_cons.mpr ⟨lw_p8, List.forall_mem_cons.mpr ⟨lw_p9, List.forall_mem_cons.mpr ⟨lw_p10, List.forall_mem_cons.mpr ⟨lw_p11, List.forall_mem_cons.mpr ⟨lw_p12, List.forall_mem_cons.mpr ⟨lw_p13, List.forall_mem_cons.mpr ⟨lw_p14, fun _ h => absurd h List.not_mem_nil⟩⟩⟩⟩⟩⟩⟩⟩⟩⟩⟩⟩⟩⟩⟩
def lw_privs : List (MethodName × Nat) := lw_privs_1
def lw_tbl : List Cond := k2_sels lw_privs ++ tables_1
theorem lw_privs_ok : ∀ q ∈ lw_privs, lw_okq q := lw_r1
/-- the streams that the claim lets the run draw from -/
abbrev lw_cs : List Choice := [Jvm.Choice.named "NaN.bits"]
theorem lw_bits : nanBits ∈ lw_cs := by first | decide | exact List.mem_cons_self | simp [lw_cs, nanBits]
end
section
/-! ===== BEGIN words of one list among another's, by their places ===== -/
theorem goodIn_r {big : List Cond} (ws : List Cond) (ps : List Nat) (hp : ws = ps.filterMap (fun i => big[i]?)) (h : ws.all goodWord = true) : GoodIn big ws := by
  intro w hw
  have h1 := List.all_eq_true.mp h w hw
  rw [hp] at hw
  obtain ⟨i, -, hi⟩ := List.mem_filterMap.mp hw
  have hm : w ∈ big := by first | exact List.mem_of_getElem? hi | exact List.getElem?_mem hi
  exact ⟨hm, good_of_word h1⟩
theorem goodIn_app {big a b : List Cond} (ha : GoodIn big a) (hb : GoodIn big b) : GoodIn big (a ++ b) := fun w h => (List.mem_append.mp h).elim (ha w) (hb w)
theorem goodIn_ca {big a b : List Cond} {c : Cond} (ha : GoodIn big (c :: a)) (hb : GoodIn big b) : GoodIn big (c :: (a ++ b)) := fun w h => (List.mem_cons.mp h).elim (fun e => ha w (List.mem_cons.mpr (Or.inl e))) (fun h => (List.mem_append.mp h).elim (fun h => ha w (List.mem_cons.mpr (Or.inr h))) (hb w))
theorem goodIn_sub {big ws : List Cond} (hm : ∀ w ∈ ws, w ∈ big) (h : ws.all goodWord = true) : GoodIn big ws := fun w hw => ⟨hm w hw, good_of_word (List.all_eq_true.mp h w hw)⟩
/-! ===== END ===== -/

/-! ===== BEGIN exceptions that leave a method, and their catching by the caller (launches without stack traces) ===== -/
section VXA
/-! The laws vx_back, vx_callV, vx_callS, vx_callSW, vx_throw0, vx_throwS follow proofs of the library, with one case more: JvmDerived/Free/Laws.lean (Back.of_free), Shelf42/LK1.lean (callV, callS), Shelf/KitTraced.lean (throwNew0V, throwNewS). -/
/-- where a method has thrown q: the class by its name, the cell, what was written, the world -/
def vx_T (XC : String → State → State → Prop) (st : State) (q : Addr) (t : State) (mc ms : Nat) (free : Addr → Prop) : Prop :=
  ∃ (E : String) (ce : Cell) (L : List Loc), XC E st t ∧ t.heap[q]? = some ce ∧ ce.vm = .none ∧ st.vm.findClass E = some ce.cls ∧ st.WarmedH t.vm ∧ st.sameButNew ({ t with vm := st.vm } : State) L mc ms ∧ ∀ z ∈ L, free z.base
def vx_Q (Qc : Array Value → State → Outcome → State → Prop) (XC : String → State → State → Prop) (mc ms : Nat) (free : Addr → Prop) : Array Value → State → Outcome → State → Prop := fun a st o t =>
  (Qc a st o t ∧ ∃ L, FrameEnd st o t L mc ms ∧ ∀ q ∈ L, free q.base) ∨ ∃ q, o = .threw q ∧ vx_T XC st q t mc ms free
/-- a callee that returns or throws -/
def vx_Met (l : Launch) (y : MethodName) (ws : List Cond) (rm : Room) (Pc : Array Value → State → Prop) (Qc : Array Value → State → Outcome → State → Prop) (XC : String → State → State → Prop) (mc ms : Nat) (free : Addr → Prop) : Prop :=
  MetFree l y (headSpec ws rm) Pc (fun _ _ _ _ _ => True) (vx_Q Qc XC mc ms free)
def vx_Post (XC : String → State → State → Prop) (mc ms : Nat) (free : Addr → Prop) : Pt → Array Value → Addr → Pt → Prop := fun A a q B =>
  ∃ (g : JFrame) (mk : MethodId) (t : State) (L : List Loc) (E : String) (ce : Cell), B.U.heap = t.heap ∧ B.U.vm = t.vm ∧ XC E (A.U.calling g mk a) t ∧ t.heap[q]? = some ce ∧ ce.vm = .none ∧ A.U.vm.findClass E = some ce.cls ∧ B.locs = A.locs ++ L ∧ (∀ z ∈ L, free z.base) ∧ B.cells = A.cells + mc ∧ B.slots = A.slots + ms
def vx_Back (l : Launch) (R : Room) (p : Program) (e : Env) (below : List Frame) (s : State) (sargs : Array Value) (y : MethodName) (len W9 : Nat)
    (Pre : Pt → Array Value → Prop) (Post : Pt → Array Value → Option Value → Pt → Prop) (PostX : Pt → Array Value → Addr → Pt → Prop) : Prop :=
  ∀ (m : MethodId) (meth : Method) (c : Code) (A : Pt) (g : JFrame) (ig : Instr) (mk : MethodId) (a : Array Value),
    Stand p l e R s m sargs below meth c A.U A.locs A.cells A.slots → g.method = m → g.locals.size = c.maxLocals → decode c.code g.pc = .ok (ig, len) →
    2 * g.monitorRoom + (g.stack.map fun v => v.category).sum ≤ W9 → A.U.methodNamed? y = some mk → Pre A a →
    (∃ (v : Option Value) (B : Pt), Stand p l e R s m sargs below meth c B.U B.locs B.cells B.slots ∧ Post A a v B ∧
      Steps p.tables e below (doInvoke e (A.U.setTop g) [] mk a).1 (B.U.setTop { g with pc := g.pc + len, stack := v.toList ++ g.stack })) ∨
    (∃ (q : Addr) (B : Pt), Stand p l e R s m sargs below meth c B.U B.locs B.cells B.slots ∧ PostX A a q B ∧
      Steps p.tables e below (doInvoke e (A.U.setTop g) [] mk a).1 ((B.U.setTop g).pushFrame (.throwing q)))
section Payer
variable {l : Launch} {R : Room} {p : Program} {e : Env} {below : List Frame} {s : State} {sargs : Array Value} {y : MethodName} {len W9 : Nat}
theorem vx_back {ws : List Cond} {rm : Room} {Pc : Array Value → State → Prop} {Qc : Array Value → State → Outcome → State → Prop} {XC : String → State → State → Prop} {mc ms : Nat} {free : Addr → Prop} {bytes : ByteArray} {maxL : Nat} {ret : Option FieldType}
    (hM : vx_Met l y ws rm Pc Qc XC mc ms free) (hblind : FrameBlind Pc) (hrc : rm.cells = mc) (hrs : rm.slots = ms)
    (hframes : rm.frames + 1 ≤ R.frames) (hlocals : W9 + (maxL + 11) + rm.locals ≤ R.locals)
    (hws : ∀ w ∈ ws, ∀ a' U, s.WarmedH U.vm → w.before a' U = true) (hcode : Cond.code y bytes maxL ret ∈ ws) (hinit : ∀ a' U, s.WarmedH U.vm → (Cond.initialized y.cls).before a' U = true) :
    vx_Back l R p e below s sargs y len W9 (PreOf R mc ms Pc) (PostOf Qc mc ms free) (vx_Post XC mc ms free) := by
  intro m meth c A g ig mk a X hg hsize hdg hW hn hp
  have h1 : (headSpec ws rm).pre.before a A.U = true := atoms_intro fun w hw => hws w hw _ _ X.warmed
  have h2 : (Cond.code y bytes maxL ret).before a A.U = true := hws _ hcode _ _ X.warmed
  have h3 : (Cond.initialized y.cls).before a A.U = true := hinit _ _ X.warmed
  have h4 : A.cells + (headSpec ws rm).room.cells ≤ R.cells := by rw [show (headSpec ws rm).room.cells = mc from hrc]; exact hp.1
  have h5 : A.slots + (headSpec ws rm).room.slots ≤ R.slots := by rw [show (headSpec ws rm).room.slots = ms from hrs]; exact hp.2.1
  have hPc : Pc a (A.U.calling g mk a) := hblind _ _ _ _ hp.2.2
  obtain ⟨U, Ls, c0, s0⟩ := A
  dsimp only [Pt.U, Pt.locs, Pt.cells, Pt.slots] at h1 h2 h3 h4 h5 X hn hPc ⊢
  obtain ⟨methY, cY, hmY, hcY, -, hlY, -, -, -, -⟩ := Cond.code_spec hn h2
  obtain ⟨kY, hkY, -⟩ := className_of_methodNamed hn
  have hinitY : kY.init = .initialized := Cond.initialized_spec (findClass_of_methodNamed hn) hkY h3
  have h : At U g.method c below := by rw [hg]; exact X.here
  have hlocals9 : W9 + (maxL + 11) + (headSpec ws rm).room.locals ≤ R.locals := hlocals
  have happ : (headSpec ws rm).appliesLoose y e.platform (U.calling g mk a) = true :=
    Spec.appliesLoose_calling (g := g) h hdg hn hkY hinitY
      (X.room_calling (g := g) (R' := (headSpec ws rm).room) hsize hmY hcY hframes (by rw [hlY]; omega) h4 h5) h1
  obtain ⟨mid, hmid⟩ := h.above
  have hfr : (U.setTop g).frames = (.java g :: mid) ++ below := by rw [State.frames_setTop' g h.top, hmid]; rfl
  obtain ⟨o, s₂, hsteps, -, hend, hq⟩ := Steps.callFree hM p X.admits X.cas X.clock (acts := []) hfr happ hPc trivial
  have hq' : vx_Q Qc XC mc ms free a (U.calling g mk a) o s₂ := hq
  rw [State.frames_setTop' g h.top] at hend
  obtain ⟨g₀, hg0⟩ := Option.isSome_iff_exists.mp h.top
  obtain ⟨r, hr⟩ := State.topJava?_eq_some.mp hg0
  have hr' : (({ U with heap := s₂.heap, slotsUsed := s₂.slotsUsed } : State).setVm s₂.vm).frames = .java g₀ :: r := hr
  rcases hq' with ⟨hqc, L, hfe, hL⟩ | ⟨q, rfl, E, ce, L, hx, hce, hcv, hcl, hW₂, hsm, hL⟩
  · obtain ⟨⟨v, rfl⟩, hW₂, e2, q2, q3, q4, q5, q6⟩ := id hfe
    have e3 : s₂ = ({ (U.calling g mk a).setFrames s₂.frames with heap := s₂.heap, slotsUsed := s₂.slotsUsed } : State).setVm s₂.vm := by
      have : s₂ = ({ s₂ with vm := (U.calling g mk a).vm } : State).setVm s₂.vm := rfl
      rw [e2] at this
      exact this
    obtain ⟨c₂, i₂, len₂, hc₂, hd₂, hf₂⟩ := hend
    have hW' : U.WarmedH s₂.vm := hW₂
    have hcc : c₂ = c := by
      have h1 : s₂.code? g.method = U.code? g.method := by
        rw [State.code?_eq, State.code?_eq, hW'.alike.method?]
      exact Option.some.inj (hc₂.symm.trans (h1.trans h.code))
    subst hcc
    have hlen : len₂ = len := by rw [hdg] at hd₂; cases hd₂; rfl
    subst hlen
    have hs₂ : s₂ = (({ U with heap := s₂.heap, slotsUsed := s₂.slotsUsed } : State).setVm s₂.vm).setTop { g with pc := g.pc + len₂, stack := v.toList ++ g.stack } := by
      refine e3.trans ?_
      rw [hf₂, State.calling_eq h.top, State.setFrames_setFrames, State.setTop_of_frames _ hr', hr]
      rfl
    have hsame : U.sameButNew ({ U with heap := s₂.heap, slotsUsed := s₂.slotsUsed } : State) L mc ms := by
      refine ⟨?_, q2, q3, q4, q5, q6⟩
      obtain ⟨t, ht, -⟩ := State.frames_cons hr
      show ({ U with heap := s₂.heap, slotsUsed := s₂.slotsUsed } : State) = { U.setFrames U.frames with heap := s₂.heap, slotsUsed := s₂.slotsUsed }
      rw [State.setFrames_self ht]
    subst hg
    refine Or.inl ⟨v, ⟨(({ U with heap := s₂.heap, slotsUsed := s₂.slotsUsed } : State).setVm s₂.vm), Ls ++ L, c0 + mc, s0 + ms⟩,
      ⟨X.admits, X.cas, X.clock, X.frames, X.room, X.hears, X.method, X.code, (X.here.setHeapUsed s₂.heap s₂.slotsUsed).setVm hW'.alike, X.tail, State.WarmedH.trans X.warmed hW', X.limits, X.bytes, X.same.trans (hsame.setVm s.vm)⟩,
      ⟨g, mk, s₂, L, rfl, rfl, hqc, rfl, hL, rfl, rfl⟩, ?_⟩
    show Steps p.tables e below _ ((({ U with heap := s₂.heap, slotsUsed := s₂.slotsUsed } : State).setVm s₂.vm).setTop { g with pc := g.pc + len₂, stack := v.toList ++ g.stack })
    rw [← hs₂]
    exact hsteps
  · obtain ⟨e2, q2, q3, q4, q5, q6⟩ := id hsm
    have e3 : s₂ = ({ (U.calling g mk a).setFrames s₂.frames with heap := s₂.heap, slotsUsed := s₂.slotsUsed } : State).setVm s₂.vm := by
      have : s₂ = ({ s₂ with vm := (U.calling g mk a).vm } : State).setVm s₂.vm := rfl
      rw [e2] at this
      exact this
    have hf₂ : s₂.frames = .throwing q :: .java g :: U.frames.tail := hend
    have hW' : U.WarmedH s₂.vm := hW₂
    have hs₂ : s₂ = ((({ U with heap := s₂.heap, slotsUsed := s₂.slotsUsed } : State).setVm s₂.vm).setTop g).pushFrame (.throwing q) := by
      refine e3.trans ?_
      rw [hf₂, State.calling_eq h.top, State.setFrames_setFrames, State.pushFrame, State.frames_setTop _ hr', State.setTop_of_frames _ hr', State.setFrames_setFrames, hr]
      rfl
    have hsame : U.sameButNew ({ U with heap := s₂.heap, slotsUsed := s₂.slotsUsed } : State) L mc ms := by
      refine ⟨?_, q2, q3, q4, q5, q6⟩
      obtain ⟨t, ht, -⟩ := State.frames_cons hr
      show ({ U with heap := s₂.heap, slotsUsed := s₂.slotsUsed } : State) = { U.setFrames U.frames with heap := s₂.heap, slotsUsed := s₂.slotsUsed }
      rw [State.setFrames_self ht]
    subst hg
    refine Or.inr ⟨q, ⟨(({ U with heap := s₂.heap, slotsUsed := s₂.slotsUsed } : State).setVm s₂.vm), Ls ++ L, c0 + mc, s0 + ms⟩,
      ⟨X.admits, X.cas, X.clock, X.frames, X.room, X.hears, X.method, X.code, (X.here.setHeapUsed s₂.heap s₂.slotsUsed).setVm hW'.alike, X.tail, State.WarmedH.trans X.warmed hW', X.limits, X.bytes, X.same.trans (hsame.setVm s.vm)⟩,
      ⟨g, mk, s₂, L, E, ce, rfl, rfl, hx, hce, hcv, hcl, rfl, hL, rfl, rfl⟩, ?_⟩
    show Steps p.tables e below _ (((({ U with heap := s₂.heap, slotsUsed := s₂.slotsUsed } : State).setVm s₂.vm).setTop g).pushFrame (.throwing q))
    rw [← hs₂]
    exact hsteps
end Payer
section Calls
variable {p : Program} {l : Launch} {e : Env} {R : Room} {s : State} {m : MethodId} {args : Array Value} {below : List Frame} {meth : Method} {c : Code} {T : State} {locs : List Loc} {cells slots : Nat}
theorem vx_callV (X : Stand p l e R s m args below meth c T locs cells slots) (hexec : p.tables.exec = Jvm.exec) {own C : String} {index : Nat} {y : MethodName} {bytes : ByteArray} {maxL : Nat} {ret : Option FieldType}
    (hown : s.vm.findClass own = some m.cls) (hlink : (Cond.methodLink own index y).before args s = true) (hinst : (Cond.instanceMethod y).before args s = true) (hsel : (Cond.selects C y y).before args s = true)
    (hcode : (Cond.code y bytes maxL ret).before args s = true) (hy : y.cls ≠ "java/lang/invoke/MethodHandle" ∧ y.cls ≠ "java/lang/invoke/VarHandle")
    {W9 : Nat} {Pre : Pt → Array Value → Prop} {Post : Pt → Array Value → Option Value → Pt → Prop} {PostX : Pt → Array Value → Addr → Pt → Prop} (hK : vx_Back l R p e below s args y 3 W9 Pre Post PostX)
    {b : Addr} {cellB : Cell} (hcell : T.heap[b]? = some cellB) (hobj : cellB.vm.isStatics = false) (hcls : s.vm.findClass C = some cellB.cls)
    {g : JFrame} (hg : g.method = m) (hsize : g.locals.size = c.maxLocals) {argsL rest : List Value} (hlen : ∀ sig, parseMethodDescriptor y.desc = some sig → argsL.length = sig.parameters.length)
    (hstack : g.stack = argsL.reverse ++ .ref b :: rest) (hW : 2 * g.monitorRoom + (rest.map fun v => v.category).sum ≤ W9) (hdg : decode c.code g.pc = .ok (.invokevirtual index, 3))
    (hpre : ∀ vm₁, s.WarmedH vm₁ → Pre ⟨T.setVm vm₁, locs, cells, slots⟩ (Value.ref b :: argsL).toArray) :
    (∃ (v : Option Value) (vm₁ : Vm) (B : Pt), s.WarmedH vm₁ ∧ Stand p l e R s m args below meth c B.U B.locs B.cells B.slots ∧ Post ⟨T.setVm vm₁, locs, cells, slots⟩ (Value.ref b :: argsL).toArray v B ∧
      ∀ target, Steps p.tables e below (B.U.setTop { g with pc := g.pc + 3, stack := v.toList ++ rest }) target → Steps p.tables e below (T.setTop g) target) ∨
    (∃ (q : Addr) (vm₁ : Vm) (B : Pt), s.WarmedH vm₁ ∧ Stand p l e R s m args below meth c B.U B.locs B.cells B.slots ∧ PostX ⟨T.setVm vm₁, locs, cells, slots⟩ (Value.ref b :: argsL).toArray q B ∧
      Steps p.tables e below (T.setTop g) ((B.U.setTop { g with stack := rest }).pushFrame (.throwing q))) := by
  obtain ⟨mk, methM, hnamed, hmethM, hstM, habM⟩ := Cond.instanceMethod_spec hinst
  obtain ⟨methM', cM, hmethM', -, -, -, -, -, -, hsigM⟩ := Cond.code_spec hnamed hcode
  cases hmethM.symm.trans hmethM'
  obtain ⟨c2, r2, m2, q1, q2, q3, q4, kP, hkP, hkPi⟩ := Cond.selects_spec hsel
  cases hcls.symm.trans q1
  cases (State.methodFound?_of_named hnamed hy).symm.trans q2
  cases hnamed.symm.trans q3
  have hselP : selectMethod e.platform s.vm cellB.cls mk = .method mk := by rw [Launch.admits_selectMethod X.admits]; exact q4
  obtain ⟨vm₁, X₁, hstep₁⟩ := X.invokevirtual hexec hown hlink hnamed hmethM hstM hkP hkPi hy (a := b) (cell := cellB) hcell
    (fun z h => by rw [h] at hobj; cases hobj) hselP hmethM habM hkP hkPi (g := g) hg (argsL := argsL) (rest := rest) (hlen _ hsigM) hstack hdg
  rcases hK m meth c ⟨T.setVm vm₁, locs, cells, slots⟩ { g with stack := rest } (.invokevirtual index) mk (Value.ref b :: argsL).toArray X₁ hg hsize hdg hW (X₁.named hnamed) (hpre vm₁ X₁.warmed) with ⟨v, B, X', hpost, hsteps⟩ | ⟨q, B, X', hpost, hsteps⟩
  · exact Or.inl ⟨v, vm₁, B, X₁.warmed, X', hpost, fun target h => hstep₁ _ fun acts => by rw [doInvoke_state]; exact hsteps.trans h⟩
  · exact Or.inr ⟨q, vm₁, B, X₁.warmed, X', hpost, hstep₁ _ fun acts => by rw [doInvoke_state]; exact hsteps⟩
theorem vx_callS (X : Stand p l e R s m args below meth c T locs cells slots) (hexec : p.tables.exec = Jvm.exec) {own : String} {index : Nat} {y : MethodName} {bytes : ByteArray} {maxL : Nat} {ret : Option FieldType}
    (hown : s.vm.findClass own = some m.cls) (hlink : (Cond.methodLink own index y).before args s = true) (hstat : (Cond.static y).before args s = true) (hinit : (Cond.initialized y.cls).before args s = true)
    (hcode : (Cond.code y bytes maxL ret).before args s = true) (hy : y.cls ≠ "java/lang/invoke/MethodHandle" ∧ y.cls ≠ "java/lang/invoke/VarHandle")
    {W9 : Nat} {Pre : Pt → Array Value → Prop} {Post : Pt → Array Value → Option Value → Pt → Prop} {PostX : Pt → Array Value → Addr → Pt → Prop} (hK : vx_Back l R p e below s args y 3 W9 Pre Post PostX)
    {g : JFrame} (hg : g.method = m) (hsize : g.locals.size = c.maxLocals) {argsL rest : List Value} (hlen : ∀ sig, parseMethodDescriptor y.desc = some sig → argsL.length = sig.parameters.length)
    (hstack : g.stack = argsL.reverse ++ rest) (hW : 2 * g.monitorRoom + (rest.map fun v => v.category).sum ≤ W9) (hdg : decode c.code g.pc = .ok (.invokestatic index, 3))
    (hpre : ∀ vm₁, s.WarmedH vm₁ → Pre ⟨T.setVm vm₁, locs, cells, slots⟩ argsL.toArray) :
    (∃ (v : Option Value) (vm₁ : Vm) (B : Pt), s.WarmedH vm₁ ∧ Stand p l e R s m args below meth c B.U B.locs B.cells B.slots ∧ Post ⟨T.setVm vm₁, locs, cells, slots⟩ argsL.toArray v B ∧
      ∀ target, Steps p.tables e below (B.U.setTop { g with pc := g.pc + 3, stack := v.toList ++ rest }) target → Steps p.tables e below (T.setTop g) target) ∨
    (∃ (q : Addr) (vm₁ : Vm) (B : Pt), s.WarmedH vm₁ ∧ Stand p l e R s m args below meth c B.U B.locs B.cells B.slots ∧ PostX ⟨T.setVm vm₁, locs, cells, slots⟩ argsL.toArray q B ∧
      Steps p.tables e below (T.setTop g) ((B.U.setTop { g with stack := rest }).pushFrame (.throwing q))) := by
  obtain ⟨mk, hnamed⟩ := Cond.code_named hcode
  obtain ⟨methM, cM, hmethM, -, -, -, -, -, -, hsigM⟩ := Cond.code_spec hnamed hcode
  have hstatic : methM.isStatic = true := Cond.static_spec hnamed hmethM hstat
  obtain ⟨kP, hkP, -⟩ := className_of_methodNamed hnamed
  have hinitP : kP.init = .initialized := Cond.initialized_spec (findClass_of_methodNamed hnamed) hkP hinit
  obtain ⟨vm₁, X₁, hstep₁⟩ := X.invokestatic hexec hown hlink hnamed hmethM hstatic hkP hinitP hy (g := g) hg (argsL := argsL) (rest := rest) (hlen _ hsigM) hstack hdg
  rcases hK m meth c ⟨T.setVm vm₁, locs, cells, slots⟩ { g with stack := rest } (.invokestatic index) mk argsL.toArray X₁ hg hsize hdg hW (X₁.named hnamed) (hpre vm₁ X₁.warmed) with ⟨v, B, X', hpost, hsteps⟩ | ⟨q, B, X', hpost, hsteps⟩
  · exact Or.inl ⟨v, vm₁, B, X₁.warmed, X', hpost, fun target h => hstep₁ _ fun acts => by rw [doInvoke_state]; exact hsteps.trans h⟩
  · exact Or.inr ⟨q, vm₁, B, X₁.warmed, X', hpost, hstep₁ _ fun acts => by rw [doInvoke_state]; exact hsteps⟩
end Calls
theorem vx_cls {s : State} {T : State} {vm₁ : Vm} {E : String} {k : ClassId} (hW : s.WarmedH vm₁) (h : (T.setVm vm₁).vm.findClass E = some k) : s.vm.findClass E = some k := by
  have h1 : vm₁.findClass E = some k := h
  rw [hW.alike.findClass] at h1
  exact h1
/-- the method's frame g, with q thrown over it -/
def vx_W (p : Program) (l : Launch) (e : Env) (R : Room) (s : State) (m : MethodId) (args : Array Value) (below : List Frame) (meth : Method) (c : Code) (H : Heap) (locs : List Loc) (cells slots : Nat) (Q : State → Prop) (g : JFrame) (q : Addr) : Prop :=
  ∀ T : State, T.heap = H → Stand p l e R s m args below meth c T locs cells slots → ∃ t, Steps p.tables e below ((T.setTop g).pushFrame (.throwing q)) t ∧ Q t
def vx_Run (p : Program) (l : Launch) (e : Env) (R : Room) (s : State) (m : MethodId) (args : Array Value) (below : List Frame) (meth : Method) (c : Code) (H : Heap) (locs : List Loc) (cells slots mc ms : Nat) (g : JFrame) (rest : List Value) (Qa : State → Outcome → State → Prop) (XC : String → State → State → Prop) (free : Addr → Prop) : Prop :=
  ∀ T : State, T.heap = H → Stand p l e R s m args below meth c T locs cells slots →
    (∃ (v : Option Value) (st₀ t T' : State) (L : List Loc), st₀.heap = H ∧ Stand p l e R s m args below meth c T' (locs ++ L) (cells + mc) (slots + ms) ∧ (∀ q ∈ L, free q.base) ∧ T'.heap = t.heap ∧ T'.vm = t.vm ∧ Qa st₀ (.returned v) t ∧
      Goes p e below T g T' { g with pc := g.pc + 3, stack := v.toList ++ rest }) ∨
    (∃ (q : Addr) (st₀ t T' : State) (L : List Loc) (E : String) (ce : Cell), st₀.heap = H ∧ Stand p l e R s m args below meth c T' (locs ++ L) (cells + mc) (slots + ms) ∧ (∀ z ∈ L, free z.base) ∧ T'.heap = t.heap ∧ T'.vm = t.vm ∧ XC E st₀ t ∧ t.heap[q]? = some ce ∧ ce.vm = .none ∧ s.vm.findClass E = some ce.cls ∧
      Steps p.tables e below (T.setTop g) ((T'.setTop { g with stack := rest }).pushFrame (.throwing q)))
def vx_X {S : Type} (px : S → Prop) (B : String → S → State → Prop) (A : Nat → Prop) : String → State → State → Prop := fun E st t => ∃ u : S, px u ∧ B E u t ∧ va_F A st t
section Runs
variable {p : Program} {l : Launch} {e : Env} {R : Room} {s : State} {m : MethodId} {args : Array Value} {below : List Frame} {meth : Method} {c : Code} {H : Heap} {locs : List Loc} {cells slots : Nat}
variable {y : MethodName} {bytes cc : ByteArray} {maxL nL mc ms n index : Nat} {ret : Option FieldType} {ws : List Cond} {rm : Room} {Pc : Array Value → State → Prop} {Qc : Array Value → State → Outcome → State → Prop} {XC : String → State → State → Prop} {free : Addr → Prop} {Ts : List Cond} {own C : String} {b : Addr} {As rest : List Value} {g : JFrame}
theorem vx_callBack (cb : CallB R s args own index y bytes maxL ret ws rm mc ms n) (hM : vx_Met l y ws rm Pc Qc XC mc ms free) (hbl : FrameBlind Pc) : vx_Back l R p e below s args y 3 8 (PreOf R mc ms Pc) (PostOf Qc mc ms free) (vx_Post XC mc ms free) := by
  obtain ⟨hrc, hrs, hfr, hlo, hws, hcw, -, hini, -⟩ := cb
  exact vx_back (bytes := bytes) (maxL := maxL) (ret := ret) hM hbl hrc hrs hfr hlo hws hcw (fun a' U hW => word_at hW (Or.inl (by first | rfl | simp [Cond.onTables, Cond.keeps, Cond.steady])) hini)
theorem vx_runV (S : CallFix p m c cc nL s args Ts own) (hM : vx_Met l y ws rm Pc Qc XC mc ms free) (cw : CallW R s args own C index y bytes maxL ret ws rm mc ms n) (hp : PreV s H C b Pc As)
    (hg : g.method = m) (hn : As.length = n) (hsize : g.locals.size = nL) (hstack : g.stack = As.reverse ++ .ref b :: rest) (hW : 2 * g.monitorRoom + (rest.map fun v => v.category).sum ≤ 8) (hdg : decode cc g.pc = .ok (.invokevirtual index, 3)) (hf : cells + mc ≤ R.cells ∧ slots + ms ≤ R.slots) :
    vx_Run p l e R s m args below meth c H locs cells slots mc ms g rest (Qc (Value.ref b :: As).toArray) XC free := by
  have hK : vx_Back l R p e below s args y 3 8 (PreOf R mc ms Pc) (PostOf Qc mc ms free) (vx_Post XC mc ms free) := vx_callBack cw.1 hM hp.1
  obtain ⟨⟨-, -, -, -, -, -, hcode, -, hy, hlen, hl⟩, hin, hse⟩ := cw
  obtain ⟨hx, hb, hml, ho, -⟩ := S
  obtain ⟨-, ⟨cellB, hcB, hoB, hclB⟩, hPc⟩ := hp
  intro T hT X
  rcases vx_callV X hx (C := C) (bytes := bytes) (maxL := maxL) (ret := ret) ho hl hin hse hcode hy hK (by rw [hT]; exact hcB) hoB hclB hg (hsize.trans hml.symm) (argsL := As) (rest := rest) (fun sig h => hn.trans (hlen sig h)) hstack hW (by rw [hb]; exact hdg)
    (fun vm₁ hW₁ => ⟨hf.1, hf.2, hPc (T.setVm vm₁) hT hW₁⟩) with ⟨v, vm₁, ⟨U', l2, c2, s2⟩, hW₁, X', ⟨g', mk, t, L, e1, e2, hq, h1, hL, h2, h3⟩, st⟩ | ⟨q, vm₁, ⟨U', l2, c2, s2⟩, hW₁, X', ⟨g', mk, t, L, E, ce, e1, e2, hq, hce, hcv, hcl, h1, hL, h2, h3⟩, st⟩
  · dsimp only [Pt.U, Pt.locs, Pt.cells, Pt.slots] at X' e1 e2 h1 h2 h3 st
    subst h1; subst h2; subst h3
    exact Or.inl ⟨v, (T.setVm vm₁).calling g' mk (Value.ref b :: As).toArray, t, U', L, hT, X', hL, e1, e2, hq, st⟩
  · dsimp only [Pt.U, Pt.locs, Pt.cells, Pt.slots] at X' e1 e2 h1 h2 h3 st hcl
    subst h1; subst h2; subst h3
    exact Or.inr ⟨q, (T.setVm vm₁).calling g' mk (Value.ref b :: As).toArray, t, U', L, E, ce, hT, X', hL, e1, e2, hq, hce, hcv, vx_cls hW₁ hcl, st⟩
theorem vx_runS (S : CallFix p m c cc nL s args Ts own) (hM : vx_Met l y ws rm Pc Qc XC mc ms free) (cw : CallB R s args own index y bytes maxL ret ws rm mc ms n ∧ (Cond.static y).before args s = true) (hp : PreS s H Pc As)
    (hg : g.method = m) (hn : As.length = n) (hsize : g.locals.size = nL) (hstack : g.stack = As.reverse ++ rest) (hW : 2 * g.monitorRoom + (rest.map fun v => v.category).sum ≤ 8) (hdg : decode cc g.pc = .ok (.invokestatic index, 3)) (hf : cells + mc ≤ R.cells ∧ slots + ms ≤ R.slots) :
    vx_Run p l e R s m args below meth c H locs cells slots mc ms g rest (Qc As.toArray) XC free := by
  have hK : vx_Back l R p e below s args y 3 8 (PreOf R mc ms Pc) (PostOf Qc mc ms free) (vx_Post XC mc ms free) := vx_callBack cw.1 hM hp.1
  obtain ⟨⟨-, -, -, -, -, -, hcode, hini, hy, hlen, hl⟩, hstt⟩ := cw
  obtain ⟨hx, hb, hml, ho, -⟩ := S
  intro T hT X
  rcases vx_callS X hx (bytes := bytes) (maxL := maxL) (ret := ret) ho hl hstt hini hcode hy hK hg (hsize.trans hml.symm) (argsL := As) (rest := rest) (fun sig h => hn.trans (hlen sig h)) hstack hW (by rw [hb]; exact hdg)
    (fun vm₁ hW₁ => ⟨hf.1, hf.2, hp.2 (T.setVm vm₁) hT hW₁⟩) with ⟨v, vm₁, ⟨U', l2, c2, s2⟩, hW₁, X', ⟨g', mk, t, L, e1, e2, hq, h1, hL, h2, h3⟩, st⟩ | ⟨q, vm₁, ⟨U', l2, c2, s2⟩, hW₁, X', ⟨g', mk, t, L, E, ce, e1, e2, hq, hce, hcv, hcl, h1, hL, h2, h3⟩, st⟩
  · dsimp only [Pt.U, Pt.locs, Pt.cells, Pt.slots] at X' e1 e2 h1 h2 h3 st
    subst h1; subst h2; subst h3
    exact Or.inl ⟨v, (T.setVm vm₁).calling g' mk As.toArray, t, U', L, hT, X', hL, e1, e2, hq, st⟩
  · dsimp only [Pt.U, Pt.locs, Pt.cells, Pt.slots] at X' e1 e2 h1 h2 h3 st hcl
    subst h1; subst h2; subst h3
    exact Or.inr ⟨q, (T.setVm vm₁).calling g' mk As.toArray, t, U', L, E, ce, hT, X', hL, e1, e2, hq, hce, hcv, vx_cls hW₁ hcl, st⟩
end Runs
section Rows
variable {p : Program} {l : Launch} {e : Env} {R : Room} {s : State} {m : MethodId} {args : Array Value} {below : List Frame} {meth : Method} {c : Code} {H : Heap} {locs : List Loc} {cells slots : Nat} {Q : State → Prop}
variable {mc ms : Nat} {free : Addr → Prop} {A0 A1 : Nat → Prop} {H0 : Heap} {a : Array Value} {pc : Nat} {ls : Array Slot} {st0 rest : List Value}
theorem vx_keep {st₀ t T' : State} {L : List Loc} (h0 : st₀.heap = H) (e1 : T'.heap = t.heap) (hS : va_S A0 H0 H locs) (hA : ∀ q, q < H.size → A1 q → A0 q) (hf : ∀ q, free q → A0 q) (hL : ∀ q ∈ L, free q.base) (hF : va_F A1 st₀ t) :
    H.size ≤ T'.heap.size ∧ (∀ q : Nat, q < H.size → ¬ A1 q → T'.heap[q]? = H[q]?) ∧ va_S A0 H0 T'.heap (locs ++ L) := by
  obtain ⟨hz, hk⟩ := hF
  rw [h0] at hz hk
  exact ⟨by rw [e1]; exact hz, fun q h1 h2 => by rw [e1]; exact hk q h1 h2,
    ⟨Nat.le_trans hS.1 (by rw [e1]; exact hz), fun q h1 h2 => by rw [e1, hk q (Nat.lt_of_lt_of_le h1 hS.1) (fun z => h2 (hA q (Nat.lt_of_lt_of_le h1 hS.1) z))]; exact hS.2.1 q h1 h2, fun q hq => by
      rcases List.mem_append.mp hq with h | h
      · exact hS.2.2 q h
      · exact hf _ (hL q h)⟩⟩
theorem vx_calli {S SX : Type} {post : Int32 → S → Prop} {px : SX → Prop} {B : S → State → Prop} {BX : String → SX → State → Prop} {AX : Nat → Prop} (hr : vx_Run p l e R s m args below meth c H locs cells slots mc ms (F0 m pc ls st0) rest (va_Qi post B A1 a) (vx_X px BX AX) free) (hS : va_S A0 H0 H locs) (hA : ∀ q, q < H.size → A1 q → A0 q) (hf : ∀ q, free q → A0 q) (hAX : ∀ q, q < H.size → AX q → A0 q)
    (kx : ∀ (E : String) (ce : Cell) (q9 : Addr) (u : SX) (t : State) (H1 : Heap) (locs1 : List Loc), t.heap = H1 → s.vm.Alike t.vm → px u → BX E u t → H.size ≤ H1.size → (∀ q : Nat, q < H.size → ¬ AX q → H1[q]? = H[q]?) → va_S A0 H0 H1 locs1 → H1[q9]? = some ce → ce.vm = .none → s.vm.findClass E = some ce.cls → vx_W p l e R s m args below meth c H1 locs1 (cells + mc) (slots + ms) Q (F0 m pc ls rest) q9)
    (kk : ∀ (r : Int32) (u : S) (t : State) (H1 : Heap) (locs1 : List Loc), t.heap = H1 → s.vm.Alike t.vm → post r u → B u t → H.size ≤ H1.size → (∀ q : Nat, q < H.size → ¬ A1 q → H1[q]? = H[q]?) → va_S A0 H0 H1 locs1 → W p l e R s m args below meth c H1 locs1 (cells + mc) (slots + ms) Q (F0 m (pc + 3) ls (.int r :: rest))) : W p l e R s m args below meth c H locs cells slots Q (F0 m pc ls st0) := by
  intro T hT X
  rcases hr T hT X with ⟨v, st₀, t, T', L, h0, X', hL, e1, e2, ⟨⟨r, u, hv, hp, hb⟩, hF⟩, st⟩ | ⟨q, st₀, t, T', L, E, ce, h0, X', hL, e1, e2, ⟨u, hp, hb, hF⟩, hce, hcv, hcl, st⟩
  · cases hv
    obtain ⟨k1, k2, k3⟩ := vx_keep h0 e1 hS hA hf hL hF
    obtain ⟨t2, a1, b1⟩ := kk r u t T'.heap (locs ++ L) e1.symm (by rw [← e2]; exact X'.warmed.alike) hp hb k1 k2 k3 T' rfl X'
    exact ⟨t2, st t2 a1, b1⟩
  · obtain ⟨k1, k2, k3⟩ := vx_keep h0 e1 hS hAX hf hL hF
    obtain ⟨t2, a1, b1⟩ := kx E ce q u t T'.heap (locs ++ L) e1.symm (by rw [← e2]; exact X'.warmed.alike) hp hb k1 k2 k3 (by rw [e1]; exact hce) hcv hcl T' rfl X'
    exact ⟨t2, st.trans a1, b1⟩
theorem vx_calll {S SX : Type} {post : Int64 → S → Prop} {px : SX → Prop} {B : S → State → Prop} {BX : String → SX → State → Prop} {AX : Nat → Prop} (hr : vx_Run p l e R s m args below meth c H locs cells slots mc ms (F0 m pc ls st0) rest (va_Ql post B A1 a) (vx_X px BX AX) free) (hS : va_S A0 H0 H locs) (hA : ∀ q, q < H.size → A1 q → A0 q) (hf : ∀ q, free q → A0 q) (hAX : ∀ q, q < H.size → AX q → A0 q)
    (kx : ∀ (E : String) (ce : Cell) (q9 : Addr) (u : SX) (t : State) (H1 : Heap) (locs1 : List Loc), t.heap = H1 → s.vm.Alike t.vm → px u → BX E u t → H.size ≤ H1.size → (∀ q : Nat, q < H.size → ¬ AX q → H1[q]? = H[q]?) → va_S A0 H0 H1 locs1 → H1[q9]? = some ce → ce.vm = .none → s.vm.findClass E = some ce.cls → vx_W p l e R s m args below meth c H1 locs1 (cells + mc) (slots + ms) Q (F0 m pc ls rest) q9)
    (kk : ∀ (r : Int64) (u : S) (t : State) (H1 : Heap) (locs1 : List Loc), t.heap = H1 → s.vm.Alike t.vm → post r u → B u t → H.size ≤ H1.size → (∀ q : Nat, q < H.size → ¬ A1 q → H1[q]? = H[q]?) → va_S A0 H0 H1 locs1 → W p l e R s m args below meth c H1 locs1 (cells + mc) (slots + ms) Q (F0 m (pc + 3) ls (.long r :: rest))) : W p l e R s m args below meth c H locs cells slots Q (F0 m pc ls st0) := by
  intro T hT X
  rcases hr T hT X with ⟨v, st₀, t, T', L, h0, X', hL, e1, e2, ⟨⟨r, u, hv, hp, hb⟩, hF⟩, st⟩ | ⟨q, st₀, t, T', L, E, ce, h0, X', hL, e1, e2, ⟨u, hp, hb, hF⟩, hce, hcv, hcl, st⟩
  · cases hv
    obtain ⟨k1, k2, k3⟩ := vx_keep h0 e1 hS hA hf hL hF
    obtain ⟨t2, a1, b1⟩ := kk r u t T'.heap (locs ++ L) e1.symm (by rw [← e2]; exact X'.warmed.alike) hp hb k1 k2 k3 T' rfl X'
    exact ⟨t2, st t2 a1, b1⟩
  · obtain ⟨k1, k2, k3⟩ := vx_keep h0 e1 hS hAX hf hL hF
    obtain ⟨t2, a1, b1⟩ := kx E ce q u t T'.heap (locs ++ L) e1.symm (by rw [← e2]; exact X'.warmed.alike) hp hb k1 k2 k3 (by rw [e1]; exact hce) hcv hcl T' rfl X'
    exact ⟨t2, st.trans a1, b1⟩
theorem vx_callf {S SX : Type} {post : UInt32 → S → Prop} {px : SX → Prop} {B : S → State → Prop} {BX : String → SX → State → Prop} {AX : Nat → Prop} (hr : vx_Run p l e R s m args below meth c H locs cells slots mc ms (F0 m pc ls st0) rest (va_Qf post B A1 a) (vx_X px BX AX) free) (hS : va_S A0 H0 H locs) (hA : ∀ q, q < H.size → A1 q → A0 q) (hf : ∀ q, free q → A0 q) (hAX : ∀ q, q < H.size → AX q → A0 q)
    (kx : ∀ (E : String) (ce : Cell) (q9 : Addr) (u : SX) (t : State) (H1 : Heap) (locs1 : List Loc), t.heap = H1 → s.vm.Alike t.vm → px u → BX E u t → H.size ≤ H1.size → (∀ q : Nat, q < H.size → ¬ AX q → H1[q]? = H[q]?) → va_S A0 H0 H1 locs1 → H1[q9]? = some ce → ce.vm = .none → s.vm.findClass E = some ce.cls → vx_W p l e R s m args below meth c H1 locs1 (cells + mc) (slots + ms) Q (F0 m pc ls rest) q9)
    (kk : ∀ (r : UInt32) (u : S) (t : State) (H1 : Heap) (locs1 : List Loc), t.heap = H1 → s.vm.Alike t.vm → post r u → B u t → H.size ≤ H1.size → (∀ q : Nat, q < H.size → ¬ A1 q → H1[q]? = H[q]?) → va_S A0 H0 H1 locs1 → W p l e R s m args below meth c H1 locs1 (cells + mc) (slots + ms) Q (F0 m (pc + 3) ls (.float r :: rest))) : W p l e R s m args below meth c H locs cells slots Q (F0 m pc ls st0) := by
  intro T hT X
  rcases hr T hT X with ⟨v, st₀, t, T', L, h0, X', hL, e1, e2, ⟨⟨r, u, hv, hp, hb⟩, hF⟩, st⟩ | ⟨q, st₀, t, T', L, E, ce, h0, X', hL, e1, e2, ⟨u, hp, hb, hF⟩, hce, hcv, hcl, st⟩
  · cases hv
    obtain ⟨k1, k2, k3⟩ := vx_keep h0 e1 hS hA hf hL hF
    obtain ⟨t2, a1, b1⟩ := kk r u t T'.heap (locs ++ L) e1.symm (by rw [← e2]; exact X'.warmed.alike) hp hb k1 k2 k3 T' rfl X'
    exact ⟨t2, st t2 a1, b1⟩
  · obtain ⟨k1, k2, k3⟩ := vx_keep h0 e1 hS hAX hf hL hF
    obtain ⟨t2, a1, b1⟩ := kx E ce q u t T'.heap (locs ++ L) e1.symm (by rw [← e2]; exact X'.warmed.alike) hp hb k1 k2 k3 (by rw [e1]; exact hce) hcv hcl T' rfl X'
    exact ⟨t2, st.trans a1, b1⟩
theorem vx_calld {S SX : Type} {post : UInt64 → S → Prop} {px : SX → Prop} {B : S → State → Prop} {BX : String → SX → State → Prop} {AX : Nat → Prop} (hr : vx_Run p l e R s m args below meth c H locs cells slots mc ms (F0 m pc ls st0) rest (va_Qd post B A1 a) (vx_X px BX AX) free) (hS : va_S A0 H0 H locs) (hA : ∀ q, q < H.size → A1 q → A0 q) (hf : ∀ q, free q → A0 q) (hAX : ∀ q, q < H.size → AX q → A0 q)
    (kx : ∀ (E : String) (ce : Cell) (q9 : Addr) (u : SX) (t : State) (H1 : Heap) (locs1 : List Loc), t.heap = H1 → s.vm.Alike t.vm → px u → BX E u t → H.size ≤ H1.size → (∀ q : Nat, q < H.size → ¬ AX q → H1[q]? = H[q]?) → va_S A0 H0 H1 locs1 → H1[q9]? = some ce → ce.vm = .none → s.vm.findClass E = some ce.cls → vx_W p l e R s m args below meth c H1 locs1 (cells + mc) (slots + ms) Q (F0 m pc ls rest) q9)
    (kk : ∀ (r : UInt64) (u : S) (t : State) (H1 : Heap) (locs1 : List Loc), t.heap = H1 → s.vm.Alike t.vm → post r u → B u t → H.size ≤ H1.size → (∀ q : Nat, q < H.size → ¬ A1 q → H1[q]? = H[q]?) → va_S A0 H0 H1 locs1 → W p l e R s m args below meth c H1 locs1 (cells + mc) (slots + ms) Q (F0 m (pc + 3) ls (.double r :: rest))) : W p l e R s m args below meth c H locs cells slots Q (F0 m pc ls st0) := by
  intro T hT X
  rcases hr T hT X with ⟨v, st₀, t, T', L, h0, X', hL, e1, e2, ⟨⟨r, u, hv, hp, hb⟩, hF⟩, st⟩ | ⟨q, st₀, t, T', L, E, ce, h0, X', hL, e1, e2, ⟨u, hp, hb, hF⟩, hce, hcv, hcl, st⟩
  · cases hv
    obtain ⟨k1, k2, k3⟩ := vx_keep h0 e1 hS hA hf hL hF
    obtain ⟨t2, a1, b1⟩ := kk r u t T'.heap (locs ++ L) e1.symm (by rw [← e2]; exact X'.warmed.alike) hp hb k1 k2 k3 T' rfl X'
    exact ⟨t2, st t2 a1, b1⟩
  · obtain ⟨k1, k2, k3⟩ := vx_keep h0 e1 hS hAX hf hL hF
    obtain ⟨t2, a1, b1⟩ := kx E ce q u t T'.heap (locs ++ L) e1.symm (by rw [← e2]; exact X'.warmed.alike) hp hb k1 k2 k3 (by rw [e1]; exact hce) hcv hcl T' rfl X'
    exact ⟨t2, st.trans a1, b1⟩
theorem vx_callv {S SX : Type} {post : S → Prop} {px : SX → Prop} {B : S → State → Prop} {BX : String → SX → State → Prop} {AX : Nat → Prop} (hr : vx_Run p l e R s m args below meth c H locs cells slots mc ms (F0 m pc ls st0) rest (va_Qv post B A1 a) (vx_X px BX AX) free) (hS : va_S A0 H0 H locs) (hA : ∀ q, q < H.size → A1 q → A0 q) (hf : ∀ q, free q → A0 q) (hAX : ∀ q, q < H.size → AX q → A0 q)
    (kx : ∀ (E : String) (ce : Cell) (q9 : Addr) (u : SX) (t : State) (H1 : Heap) (locs1 : List Loc), t.heap = H1 → s.vm.Alike t.vm → px u → BX E u t → H.size ≤ H1.size → (∀ q : Nat, q < H.size → ¬ AX q → H1[q]? = H[q]?) → va_S A0 H0 H1 locs1 → H1[q9]? = some ce → ce.vm = .none → s.vm.findClass E = some ce.cls → vx_W p l e R s m args below meth c H1 locs1 (cells + mc) (slots + ms) Q (F0 m pc ls rest) q9)
    (kk : ∀ (u : S) (t : State) (H1 : Heap) (locs1 : List Loc), t.heap = H1 → s.vm.Alike t.vm → post u → B u t → H.size ≤ H1.size → (∀ q : Nat, q < H.size → ¬ A1 q → H1[q]? = H[q]?) → va_S A0 H0 H1 locs1 → W p l e R s m args below meth c H1 locs1 (cells + mc) (slots + ms) Q (F0 m (pc + 3) ls (rest))) : W p l e R s m args below meth c H locs cells slots Q (F0 m pc ls st0) := by
  intro T hT X
  rcases hr T hT X with ⟨v, st₀, t, T', L, h0, X', hL, e1, e2, ⟨⟨u, hv, hp, hb⟩, hF⟩, st⟩ | ⟨q, st₀, t, T', L, E, ce, h0, X', hL, e1, e2, ⟨u, hp, hb, hF⟩, hce, hcv, hcl, st⟩
  · cases hv
    obtain ⟨k1, k2, k3⟩ := vx_keep h0 e1 hS hA hf hL hF
    obtain ⟨t2, a1, b1⟩ := kk u t T'.heap (locs ++ L) e1.symm (by rw [← e2]; exact X'.warmed.alike) hp hb k1 k2 k3 T' rfl X'
    exact ⟨t2, st t2 a1, b1⟩
  · obtain ⟨k1, k2, k3⟩ := vx_keep h0 e1 hS hAX hf hL hF
    obtain ⟨t2, a1, b1⟩ := kx E ce q u t T'.heap (locs ++ L) e1.symm (by rw [← e2]; exact X'.warmed.alike) hp hb k1 k2 k3 (by rw [e1]; exact hce) hcv hcl T' rfl X'
    exact ⟨t2, st.trans a1, b1⟩
/-- caught by the row x of this method's table; the rows ahead don't take it -/
theorem vx_catch {own name : String} {E : String} {ce : Cell} {q : Addr} (hown : s.vm.findClass own = some m.cls) (pre : List ExceptionTableEntry) (x : ExceptionTableEntry) (suf : List ExceptionTableEntry) (hsplit : c.exceptionTable.toList = pre ++ x :: suf)
    (hpass : ∀ z ∈ pre, covers z pc = false ∨ (z.catchType ≠ 0 ∧ ∃ nm : String, (Cond.classLink own z.catchType nm).before args s = true ∧ va_Nc E nm s)) (hx : covers x pc = true) (h0 : x.catchType ≠ 0)
    (hlink : (Cond.classLink own x.catchType name).before args s = true) (hcast : (Cond.castable E name).before args s = true) (hcell : H[q]? = some ce) (hv : ce.vm = .none) (hcl : s.vm.findClass E = some ce.cls)
    (kk : W p l e R s m args below meth c H locs cells slots Q (F0 m x.handlerPc ls [.ref q])) : vx_W p l e R s m args below meth c H locs cells slots Q (F0 m pc ls rest) q := by
  intro T hT X
  have hpl : e.platform.magicAccessors = ({} : Platform).magicAccessors := by rw [X.admits.platform]
  obtain ⟨c3, c4, hc3, hc4, hasg⟩ := Cond.castable_spec hcast
  cases Option.some.inj (hc3.symm.trans hcl)
  obtain ⟨c5, hc5, hcl5⟩ := Cond.classLink_spec hown hlink e.platform hpl
  cases Option.some.inj (hc4.symm.trans hc5)
  obtain ⟨vm', X', st⟩ := X.thenCaughtThrough q (g := F0 m pc ls rest) rfl (Steps.refl _) (by rw [hT]; exact hcell) (by rw [hv]; rfl) (by obtain ⟨k9, h9, -⟩ := Vm.findClass_spec hcl; exact ⟨k9, h9⟩) pre x suf hsplit
    (fun z hz => by
      rcases hpass z hz with h | ⟨hz0, nm, hl1, hn1⟩
      · exact Or.inl h
      · obtain ⟨c6, hc6, hcl6⟩ := Cond.classLink_spec hown hl1 e.platform hpl
        obtain ⟨a8, b8, h1, h2, h3⟩ := hn1
        cases Option.some.inj (h1.symm.trans hcl)
        cases Option.some.inj (h2.symm.trans hc6)
        exact Or.inr ⟨hz0, _, hcl6, h3⟩) hx (Or.inr ⟨h0, c4, hcl5, hasg⟩)
  obtain ⟨t, a1, b1⟩ := kk (T.setVm vm') hT X'
  exact ⟨t, st.trans a1, b1⟩
end Rows
section Ends
variable {p : Program} {l : Launch} {e : Env} {R : Room} {s : State} {m : MethodId} {args : Array Value} {below : List Frame} {meth : Method} {c : Code} {H : Heap} {locs : List Loc} {cells slots : Nat} {Q : State → Prop}
variable {mc ms : Nat} {free : Addr → Prop} {A0 A1 : Nat → Prop} {H0 : Heap} {a : Array Value} {ls : Array Slot} {st0 rest : List Value}
variable {Qc : Array Value → State → Outcome → State → Prop} {XC : String → State → State → Prop}
/-- what a body that may throw owes at its end -/
def vx_MQ (below : List Frame) (Qc : Array Value → State → Outcome → State → Prop) (XC : String → State → State → Prop) (a : Array Value) (s : State) (mc ms : Nat) (free : Addr → Prop) : State → Prop := fun t =>
  ∃ o, t.status = .running ∧ Ended t below o ∧ vx_Q Qc XC mc ms free a s o t
theorem vx_ret {g : JFrame} {mc ms : Nat} (k : W p l e R s m args below meth c H locs cells slots (MQ below Qc args s mc ms free) g) : W p l e R s m args below meth c H locs cells slots (vx_MQ below Qc XC args s mc ms free) g := by
  intro T hT X
  obtain ⟨t, a1, o, b1, b2, b3, b4⟩ := k T hT X
  exact ⟨t, a1, o, b1, b2, Or.inl ⟨b3, b4⟩⟩
/-- not caught here: it goes on to the caller -/
theorem vx_widen {g : JFrame} {q : Addr} {k n : Nat} (h1 : cells ≤ k) (h2 : slots ≤ n) (kk : vx_W p l e R s m args below meth c H locs k n Q g q) : vx_W p l e R s m args below meth c H locs cells slots Q g q := fun T hT X => kk T hT (stand_widen X h1 h2)
theorem vx_out {pc : Nat} {E : String} {ce : Cell} {q : Addr} {mc ms : Nat} (hout : ∀ x ∈ c.exceptionTable.toList, covers x pc = false) (hlocks : meth.locks = false) (hcell : H[q]? = some ce) (hv : ce.vm = .none) (hcl : s.vm.findClass E = some ce.cls)
    (hx : ∀ t : State, t.heap = H → s.vm.Alike t.vm → XC E s t) (hf : ∀ z ∈ locs, free z.base) (hc : cells ≤ mc) (hs : slots ≤ ms) :
    vx_W p l e R s m args below meth c H locs cells slots (vx_MQ below Qc XC args s mc ms free) (F0 m pc ls rest) q := by
  intro T hT X
  obtain ⟨st1, hrun, hend, hW, hsm⟩ := X.leaveThrown q (g := F0 m pc ls rest) rfl rfl rfl hout hlocks
  have hcell9 : (T.setFrames (.throwing q :: below)).heap[q]? = some ce := by
    show T.heap[q]? = some ce
    rw [hT]; exact hcell
  exact ⟨_, st1, .threw q, hrun, hend, Or.inr ⟨q, rfl, E, ce, locs, hx _ hT hW.alike, hcell9, hv, hcl, hW, hsm.mono hc hs, hf⟩⟩
theorem vx_frame {U : State} {k n : Nat} (h : s.sameButNew ({ U with vm := s.vm } : State) locs k n) : s.heap.size ≤ U.heap.size ∧ ∀ q : Nat, q < s.heap.size → (∀ z ∈ locs, z.base ≠ q) → U.heap[q]? = s.heap[q]? := by
  obtain ⟨-, h2, -, -, -, h6⟩ := h
  refine ⟨h2, fun q hq hz => ?_⟩
  obtain ⟨c9, e1, e2, e3, e4⟩ := h6 q _ (Array.getElem?_eq_getElem hq)
  have hs : c9.slots = (s.heap[q]).slots := Array.ext_getElem? fun i => e4 i fun hm => hz _ hm rfl
  have h9 : c9 = s.heap[q] := by
    rw [hs] at e2
    exact e2
  have e5 : U.heap[q]? = some c9 := e1
  rw [e5, h9, Array.getElem?_eq_getElem hq]
/-- the words of a throw but the four that speak of the heap -/
def vx_no (w : Cond) : Bool := decide (w ≠ .isRef (.static Bundle.tN "UNASSIGNED_STACK" Bundle.steD)) && decide (w ≠ .isRef (.static Bundle.tN "SUPPRESSED_SENTINEL" Bundle.listD)) && decide (w ≠ .laysStatic Bundle.tN "UNASSIGNED_STACK" Bundle.steD) && decide (w ≠ .laysStatic Bundle.tN "SUPPRESSED_SENTINEL" Bundle.listD)
def vx_at0 (own : String) (ic : Nat) (X : String) (names : List String) : List Cond := (Bundle.ownAtoms0 own ic X names).filter vx_no
def vx_atS (own : String) (ic : Nat) (X : String) (names : List String) : List Cond := (Bundle.ownAtoms own ic X names).filter vx_no
/-- a word that the tables alone decide, or a good one -/
def vx_ot (w : Cond) : Bool := w.onTables || goodWord w
theorem vx_ot_at {args a' : Array Value} {s U : State} {w : Cond} (hW : s.WarmedH U.vm) (hvm : s.vm = U.vm) (hg : vx_ot w = true) (h : w.before args s = true) : w.before a' U = true := by
  simp only [vx_ot, Bool.or_eq_true] at hg
  rcases hg with hg | hg
  · exact va_tabs hg hvm h
  · exact word_at hW (good_of_word hg) h
/-- a list's words: the good ones out of the method's own list, the others by premises of their own -/
theorem vx_hat {args : Array Value} {s : State} {L B : List Cond} (h1 : ∀ w ∈ L.filter goodWord, w.before args s = true) (h2 : ∀ w ∈ L.filter (fun w => !goodWord w), w ∈ B) (h3 : ∀ w ∈ B, w.before args s = true) : ∀ w ∈ L, w.before args s = true := by
  intro w hw
  by_cases g : goodWord w = true
  · exact h1 w (List.mem_filter.mpr ⟨hw, g⟩)
  · refine h3 w (h2 w (List.mem_filter.mpr ⟨hw, ?_⟩))
    show (!goodWord w) = true
    cases hgw : goodWord w
    · rfl
    · exact absurd hgw g
theorem vx_c {args : Array Value} {s : State} {w : Cond} {B : List Cond} (h : w.before args s = true) (t : ∀ w ∈ B, w.before args s = true) : ∀ w' ∈ w :: B, w'.before args s = true := fun w' h' => (List.mem_cons.mp h').elim (fun e => by rw [e]; exact h) (t w')
theorem vx_n {args : Array Value} {s : State} : ∀ w ∈ ([] : List Cond), w.before args s = true := fun _ h => nomatch h
theorem vx_own {args : Array Value} {s : State} {L : List Cond} (h1 : ∀ w ∈ L.filter vx_no, w.before args s = true)
    (hU : (Cond.isRef (.static Bundle.tN "UNASSIGNED_STACK" Bundle.steD)).before args s = true) (hN : (Cond.isRef (.static Bundle.tN "SUPPRESSED_SENTINEL" Bundle.listD)).before args s = true)
    (lU : (Cond.laysStatic Bundle.tN "UNASSIGNED_STACK" Bundle.steD).before args s = true) (lN : (Cond.laysStatic Bundle.tN "SUPPRESSED_SENTINEL" Bundle.listD).before args s = true) : ∀ w ∈ L, w.before args s = true := by
  intro w hw
  by_cases e1 : w = .isRef (.static Bundle.tN "UNASSIGNED_STACK" Bundle.steD)
  · rw [e1]; exact hU
  · by_cases e2 : w = .isRef (.static Bundle.tN "SUPPRESSED_SENTINEL" Bundle.listD)
    · rw [e2]; exact hN
    · by_cases e3 : w = .laysStatic Bundle.tN "UNASSIGNED_STACK" Bundle.steD
      · rw [e3]; exact lU
      · by_cases e4 : w = .laysStatic Bundle.tN "SUPPRESSED_SENTINEL" Bundle.listD
        · rw [e4]; exact lN
        · exact h1 w (List.mem_filter.mpr ⟨hw, by unfold vx_no; rw [decide_eq_true e1, decide_eq_true e2, decide_eq_true e3, decide_eq_true e4]; rfl⟩)
/-- where a static field lies, its class's statics cell in H -/
def vx_L (C n d : String) (A : Nat → Prop) (U : State) (H : Heap) : Prop := ∃ (c : ClassId) (k : Class) (i : Nat) (f : Field) (a : Nat) (cell : Cell), U.vm.findClass C = some c ∧ U.fieldFound? C n d = some (c, k, i, f) ∧ f.isStatic = true ∧ k.statics = some a ∧ H[a]? = some cell ∧ cell.vm.isStatics = true ∧ cell.cls = c ∧ f.slot < cell.slots.size ∧ k.staticTypes[f.slot]? = some f.type ∧ ¬ A a
theorem vx_L.moved {C n d : String} {A : Nat → Prop} {u U : State} {H : Heap} (hvm : u.vm.Alike U.vm) (h : vx_L C n d A u H) : vx_L C n d A U H := by
  obtain ⟨c, k, i, f, a, cell, h1, h2, h3, h4, h5, h6, h7, h8, h9, h10⟩ := h
  obtain ⟨k', hi', he⟩ := State.fieldFound?_setVm hvm h2
  exact ⟨c, k', i, f, a, cell, by rw [hvm.findClass]; exact h1, hi', h3, by rw [he]; exact h4, h5, h6, h7, h8, by rw [he]; exact h9, h10⟩
theorem vx_L.kept {C n d : String} {A : Nat → Prop} {U : State} {H H1 : Heap} (h : vx_L C n d A U H) (hq : ∀ a : Nat, a < H.size → ¬ A a → H1[a]? = H[a]?) : vx_L C n d A U H1 := by
  obtain ⟨c, k, i, f, a, cell, h1, h2, h3, h4, h5, h6, h7, h8, h9, h10⟩ := h
  exact ⟨c, k, i, f, a, cell, h1, h2, h3, h4, by rw [hq a (Array.getElem?_eq_some_iff.mp h5).1 h10]; exact h5, h6, h7, h8, h9, h10⟩
theorem vx_L.narrow {C n d : String} {A B : Nat → Prop} {U : State} {H : Heap} (h : vx_L C n d A U H) (hAB : ∀ q, B q → A q) : vx_L C n d B U H := by
  obtain ⟨c, k, i, f, a, cell, h1, h2, h3, h4, h5, h6, h7, h8, h9, h10⟩ := h
  exact ⟨c, k, i, f, a, cell, h1, h2, h3, h4, h5, h6, h7, h8, h9, fun z => h10 (hAB _ z)⟩
theorem vx_L.word {C n d : String} {A : Nat → Prop} {s : State} {args : Array Value} (h : vx_L C n d A s s.heap) : (Cond.laysStatic C n d).before args s = true := by
  obtain ⟨c, k, i, f, a, cell, h1, h2, h3, h4, h5, h6, h7, h8, h9, -⟩ := h
  show (Cond.laysStatic C n d).holds args s none s [] = true
  exact Cond.laysStatic_of h1 h2 h3 h4 h5 h6 h7 h8 h9
/-- .. and what it holds: null or some reference -/
def vx_Zq (C n d : String) (A : Nat → Prop) (U : State) (H : Heap) : Prop := va_Zq C n d A U H ∧ vx_L C n d A U H
theorem vx_Zq.moved {C n d : String} {A : Nat → Prop} {u U : State} {H : Heap} (hvm : u.vm.Alike U.vm) (h : vx_Zq C n d A u H) : vx_Zq C n d A U H := ⟨va_Zq.moved hvm h.1, vx_L.moved hvm h.2⟩
theorem vx_Zq.kept {C n d : String} {A : Nat → Prop} {U : State} {H H1 : Heap} (h : vx_Zq C n d A U H) (hq : ∀ a : Nat, a < H.size → ¬ A a → H1[a]? = H[a]?) : vx_Zq C n d A U H1 := ⟨va_Zq.kept h.1 hq, vx_L.kept h.2 hq⟩
theorem vx_Zq.narrow {C n d : String} {A B : Nat → Prop} {U : State} {H : Heap} (h : vx_Zq C n d A U H) (hAB : ∀ q, B q → A q) : vx_Zq C n d B U H := ⟨va_Zq.narrow h.1 hAB, vx_L.narrow h.2 hAB⟩
theorem vx_Zqof {args : Array Value} {s : State} {C n d : String} {A : Nat → Prop} (hl : (Cond.laysStatic C n d).before args s = true) (hini : (Cond.initialized C).before args s = true) (h : (Cond.isRef (.static C n d)).before args s = true) (hA : ∀ a : Nat, a < s.heap.size → ¬ A a) : vx_Zq C n d A s s.heap := by
  refine ⟨va_Zqof hl hini h hA, ?_⟩
  obtain ⟨c, k, i, f, a, cell, h1, h2, h3, h4, h5, h6, h7, h8, h9⟩ := Cond.laysStatic_spec hl
  exact ⟨c, k, i, f, a, cell, h1, h2, h3, h4, h5, h6, h7, h8, h9, hA a (Array.getElem?_eq_some_iff.mp h5).1⟩
theorem vx_isRef {C n d : String} {v : Value} {A : Nat → Prop} {s : State} {args : Array Value} (h : va_Z C n d v A s s.heap) (hv : v.isRef = true) : (Cond.isRef (.static C n d)).before args s = true := by
  obtain ⟨cf, kf, fi, f, a, cell, h1, h2, h3, h4, h5, h6, h7, -⟩ := h
  have he : (Term.static C n d).eval args s none [] s = some v := by
    simp [Term.eval, State.fieldNamed?, h1, h2, h4, h5, h6, h7]
  simp only [Cond.before, Cond.holds, Cond.value, he]
  cases v <;> simp_all [Value.isRef]
theorem vx_isRefq {C n d : String} {A : Nat → Prop} {s : State} {args : Array Value} (h : va_Zq C n d A s s.heap) : (Cond.isRef (.static C n d)).before args s = true := by
  rcases h with h | ⟨t, h⟩
  · exact vx_isRef h rfl
  · exact vx_isRef h rfl
/-- the same frame, seen from here: as if the method were called anew in this heap -/
theorem vx_rebase {T : State} (X : Stand p l e R s m args below meth c T locs cells slots) {R' : Room} (hf : R'.frames ≤ R.frames) (hl : R'.locals ≤ R.locals) (hc : cells + R'.cells ≤ R.cells) (hs : slots + R'.slots ≤ R.slots) :
    Stand p l e R' ((T.setVm s.vm).setFrames (.invoking m args :: below)) m args below meth c T [] 0 0 := by
  have htop : (T.setVm s.vm).topJava?.isSome := X.here.top
  have hF : ((T.setVm s.vm).setFrames (.invoking m args :: below)).frames = .invoking m args :: below := State.frames_setFrames _ (State.cur_lt_of_top htop)
  obtain ⟨g₀, hg0⟩ := Option.isSome_iff_exists.mp htop
  obtain ⟨r, hr⟩ := State.topJava?_eq_some.mp hg0
  have hl9 : e.platform.stackLimits (T.setVm s.vm).me = e.platform.stackLimits s.me := X.limits
  have hb9 : (T.setVm s.vm).me.stackBytes = s.me.stackBytes := X.bytes
  refine ⟨X.admits, X.cas, X.clock, hF, ?_, X.hears, X.method, X.code, X.here, X.tail, X.warmed, ?_, ?_, ?_⟩
  · have h := X.room
    have hU : ((T.setVm s.vm).setFrames (.invoking m args :: below)).localsInUse = s.localsInUse := by
      rw [State.localsInUse_invoking hF (meth := meth) (c := c) X.method X.code, State.localsInUse_invoking X.frames X.method X.code]
    simp only [State.hasRoom, Bool.and_eq_true, decide_eq_true_eq] at h ⊢
    obtain ⟨⟨⟨⟨h1, h2, h3, h4, h5, h6⟩, h7⟩, h8⟩, h9⟩ := h
    rw [X.frames, List.length_cons] at h2 h3
    have q1 := X.heapSize
    have q2 := X.used
    simp only [hF, hU, List.length_cons, State.stackLimits_setFrames, State.stackBytes_setFrames, hl9, hb9]
    refine ⟨⟨⟨⟨by omega, by omega, by omega, by omega, by omega, h6⟩, ?_⟩, ?_⟩, X.book⟩
    · show T.heap.size + R'.cells ≤ e.platform.maxCells
      omega
    · show T.slotsUsed + R'.slots ≤ e.platform.maxSlots
      omega
  · rw [State.stackLimits_setFrames]; rfl
  · rw [State.stackBytes_setFrames]; rfl
  · refine ⟨?_, Nat.le_refl _, Nat.le_refl _, ?_, ?_, fun a c9 h9 => ⟨c9, h9, rfl, rfl, fun _ _ => rfl⟩⟩
    · obtain ⟨t, ht, -⟩ := State.frames_cons hr
      show T.setVm s.vm = { ((T.setVm s.vm).setFrames (.invoking m args :: below)).setFrames (T.setVm s.vm).frames with heap := T.heap, slotsUsed := T.slotsUsed }
      rw [State.setFrames_setFrames, State.setFrames_self ht]
      rfl
    · show T.slotsUsed = T.slotsUsed + ((T.heap.toList.drop T.heap.size).map (·.slots.size)).sum
      rw [List.drop_eq_nil_of_le (Nat.le_of_eq Array.length_toList)]
      rfl
    · show ((T.heap.toList.drop T.heap.size).map (·.slots.size)).sum ≤ 0
      rw [List.drop_eq_nil_of_le (Nat.le_of_eq Array.length_toList)]
      exact Nat.le_refl _
/-- 'throw new E()': new; dup; invokespecial; athrow -/
theorem vx_throw0 {cc : ByteArray} {pc : Nat} (hexec : p.tables.exec = Jvm.exec) (hb : c.code = cc) (hl : l.stackTraces = false) {own cls : String} {names : List String} {ik ic mc ms : Nat} {A : Nat → Prop}
    (hown : s.vm.findClass own = some m.cls) (hcls : Bundle.fit cls = true) (hnames : ∀ n ∈ names, Bundle.fit n = true)
    (hk : (Cond.classLink own ik cls).before args s = true) (hini : (Cond.initialized cls).before args s = true) (hat : ∀ w ∈ vx_at0 own ic cls names, w.before args s = true)
    (hgood : ∀ w ∈ Cond.classLink own ik cls :: Cond.initialized cls :: vx_at0 own ic cls names, vx_ot w = true)
    (hU : vx_Zq Bundle.tN "UNASSIGNED_STACK" Bundle.steD A s s.heap) (hN : vx_Zq Bundle.tN "SUPPRESSED_SENTINEL" Bundle.listD A s s.heap) (hS : va_S A s.heap H locs) (hsize : ls.size = c.maxLocals)
    (d0 : decode cc pc = .ok (.new ik, 3)) (d3 : decode cc (pc + 3) = .ok (.dup, 1)) (d4 : decode cc (pc + 4) = .ok (.invokespecial ic, 3)) (d7 : decode cc (pc + 7) = .ok (.athrow, 1))
    (hout : ∀ x ∈ c.exceptionTable.toList, covers x (pc + 7) = false)
    (hRframes : names.length + 3 < R.frames) (hRlocals : (rest.map fun v => v.category).sum + (13 * (names.length + 1) + 42) ≤ R.locals) (hRcells : cells + 1 ≤ R.cells) (hRslots : slots + 6 ≤ R.slots) (hlocks : meth.locks = false)
    (hx : ∀ t : State, s.vm.Alike t.vm → H.size ≤ t.heap.size → (∀ q : Nat, q < H.size → t.heap[q]? = H[q]?) → XC cls s t)
    (hf : ∀ z ∈ locs, free z.base) (hc : cells + 1 ≤ mc) (hs : slots + 6 ≤ ms) :
    W p l e R s m args below meth c H locs cells slots (vx_MQ below Qc XC args s mc ms free) (F0 m pc ls rest) := by
  intro T hT X
  have htr : e.platform.stackTraces = false := (show e.platform.stackTraces = l.stackTraces by rw [X.admits.platform]).trans hl
  have Y := vx_rebase X (R' := { frames := R.frames, locals := R.locals, cells := 1, slots := 6 }) (Nat.le_refl _) (Nat.le_refl _) hRcells hRslots
  obtain ⟨s', hA⟩ : ∃ z, z = (T.setVm s.vm).setFrames (.invoking m args :: below) := ⟨_, rfl⟩
  rw [← hA] at Y
  have hvm : s'.vm = s.vm := by rw [hA]; rfl
  have hhp : s'.heap = H := by rw [hA]; exact hT
  have hW0 : s.WarmedH s'.vm := by rw [hvm]; exact State.WarmedH.refl s
  have hat' : ∀ w ∈ vx_at0 own ic cls names, w.before args s' = true := fun w hw => vx_ot_at hW0 hvm.symm (hgood w (List.mem_cons_of_mem _ (List.mem_cons_of_mem _ hw))) (hat w hw)
  have hk' : (Cond.classLink own ik cls).before args s' = true := vx_ot_at hW0 hvm.symm (hgood _ List.mem_cons_self) hk
  have hini' : (Cond.initialized cls).before args s' = true := vx_ot_at hW0 hvm.symm (hgood _ (List.mem_cons_of_mem _ List.mem_cons_self)) hini
  have hU' : vx_Zq Bundle.tN "UNASSIGNED_STACK" Bundle.steD A s' s'.heap := by rw [hhp]; exact vx_Zq.moved hW0.alike (hU.kept hS.2.1)
  have hN' : vx_Zq Bundle.tN "SUPPRESSED_SENTINEL" Bundle.listD A s' s'.heap := by rw [hhp]; exact vx_Zq.moved hW0.alike (hN.kept hS.2.1)
  have h : ∀ w ∈ Bundle.ownAtoms0 own ic cls names, w.before args s' = true := vx_own hat' (vx_isRefq hU'.1) (vx_isRefq hN'.1) hU'.2.word hN'.2.word
  have hown' : s'.vm.findClass own = some m.cls := by rw [hvm]; exact hown
  have hins : (Cond.instantiable cls 6).before args s' = true := h _ (by simp [Bundle.ownAtoms0])
  obtain ⟨vm₁, cX, kX, hfX, hkX, -, -, X₁, st1⟩ := Y.newCold hexec (own := own) (C := cls) (index := ik) (n := 6) hown' hk' hins hini'
    (g := F0 m pc ls rest) rfl (by rw [hb]; exact d0) (Nat.le_refl _) (Nat.le_refl _)
  generalize hT1 : (T.setVm vm₁).pushCell { cls := cX, slots := kX.instanceTypes.map defaultValue, vm := .none } = T1 at X₁ st1
  have hcat : (Value.ref T.heap.size).category = 1 := rfl
  have hcellA : T1.heap[T.heap.size]? = some (freshCell cX kX) := by rw [← hT1]; exact State.heap_pushCell_size _ _
  have d3' : decode c.code (pc + 3) = .ok (.dup, 1) := by rw [hb]; exact d3
  obtain ⟨U, hsteps, hrun, hend, hW, hsame, ce, hce, hO⟩ := X₁.ctorThrow0 hexec htr (own := own) (cls := cls) (names := names) (ic := ic) hown' hcls hnames h (fun x hx => nomatch hx) hfX hkX hcellA (by rw [hhp, hT]; exact Nat.le_refl _)
    (g := { method := m, pc := pc + 4, locals := ls, stack := .ref T.heap.size :: .ref T.heap.size :: rest, locked := none }) rfl hsize rfl rfl (rest := rest) rfl
    (by rw [hb]; exact d4) (by rw [hb]; exact d7) hout hRframes (by simp only [List.map_cons, List.sum_cons, hcat]; omega) hlocks
  obtain ⟨f1, f2⟩ := vx_frame hsame
  rw [hhp] at f1 f2
  have hWs : s.WarmedH U.vm := State.WarmedH.trans hW0 hW
  have hcl : s.vm.findClass cls = some ce.cls := by
    have h9 := hO.cls
    rw [hvm] at h9
    exact h9
  have hall : s.sameButNew ({ U with vm := s.vm } : State) locs mc ms := by
    subst hA
    obtain ⟨e1, e2⟩ := hsame
    rw [State.setFrames_setFrames] at e1
    have h2 : (T.setVm s.vm).sameButNew ({ U with vm := s.vm } : State) [] (0 + 1) (0 + 6) := ⟨e1, e2⟩
    have h3 := X.same.trans h2
    rw [List.append_nil] at h3
    exact h3.mono hc hs
  refine ⟨U, ?_, .threw T.heap.size, hrun, hend, Or.inr ⟨T.heap.size, rfl, cls, ce, locs, hx U hWs.alike f1 (fun q hq => f2 q hq (fun z hz => nomatch hz)), hce, hO.vm, hcl, hWs, hall, hf⟩⟩
  refine st1 _ ?_
  show Steps p.tables e below (T1.setTop { method := m, pc := pc + 3, locals := ls, stack := .ref T.heap.size :: rest, locked := none }) _
  jvm_step X₁.here [X₁.here.top, hexec, d3', Value.category]
  exact hsteps
/-- 'throw new E("text")': new; dup; ldc; invokespecial; athrow -/
theorem vx_throwS {cc : ByteArray} {pc : Nat} (hexec : p.tables.exec = Jvm.exec) (hb : c.code = cc) (hl : l.stackTraces = false) {own cls text : String} {names : List String} {ik is ic mc ms sa : Nat} {A : Nat → Prop}
    (hown : s.vm.findClass own = some m.cls) (hcls : Bundle.fit cls = true) (hnames : ∀ n ∈ names, Bundle.fit n = true)
    (hk : (Cond.classLink own ik cls).before args s = true) (hini : (Cond.initialized cls).before args s = true) (hstr : vk_R own is text sa s) (hat : ∀ w ∈ vx_atS own ic cls names, w.before args s = true)
    (hgood : ∀ w ∈ Cond.classLink own ik cls :: Cond.initialized cls :: vx_atS own ic cls names, vx_ot w = true)
    (hU : vx_Zq Bundle.tN "UNASSIGNED_STACK" Bundle.steD A s s.heap) (hN : vx_Zq Bundle.tN "SUPPRESSED_SENTINEL" Bundle.listD A s s.heap) (hS : va_S A s.heap H locs) (hsize : ls.size = c.maxLocals)
    (d0 : decode cc pc = .ok (.new ik, 3)) (d3 : decode cc (pc + 3) = .ok (.dup, 1)) (d4 : decode cc (pc + 4) = .ok (.ldc is, 2)) (d6 : decode cc (pc + 6) = .ok (.invokespecial ic, 3)) (d9 : decode cc (pc + 9) = .ok (.athrow, 1))
    (hout : ∀ x ∈ c.exceptionTable.toList, covers x (pc + 9) = false)
    (hRframes : names.length + 3 < R.frames) (hRlocals : (rest.map fun v => v.category).sum + (13 * (names.length + 1) + 43) ≤ R.locals) (hRcells : cells + 1 ≤ R.cells) (hRslots : slots + 6 ≤ R.slots) (hlocks : meth.locks = false)
    (hx : ∀ t : State, s.vm.Alike t.vm → H.size ≤ t.heap.size → (∀ q : Nat, q < H.size → t.heap[q]? = H[q]?) → XC cls s t)
    (hf : ∀ z ∈ locs, free z.base) (hc : cells + 1 ≤ mc) (hs : slots + 6 ≤ ms) :
    W p l e R s m args below meth c H locs cells slots (vx_MQ below Qc XC args s mc ms free) (F0 m pc ls rest) := by
  intro T hT X
  have htr : e.platform.stackTraces = false := (show e.platform.stackTraces = l.stackTraces by rw [X.admits.platform]).trans hl
  have Y := vx_rebase X (R' := { frames := R.frames, locals := R.locals, cells := 1, slots := 6 }) (Nat.le_refl _) (Nat.le_refl _) hRcells hRslots
  obtain ⟨s', hA⟩ : ∃ z, z = (T.setVm s.vm).setFrames (.invoking m args :: below) := ⟨_, rfl⟩
  rw [← hA] at Y
  have hvm : s'.vm = s.vm := by rw [hA]; rfl
  have hhp : s'.heap = H := by rw [hA]; exact hT
  have hW0 : s.WarmedH s'.vm := by rw [hvm]; exact State.WarmedH.refl s
  have hat' : ∀ w ∈ vx_atS own ic cls names, w.before args s' = true := fun w hw => vx_ot_at hW0 hvm.symm (hgood w (List.mem_cons_of_mem _ (List.mem_cons_of_mem _ hw))) (hat w hw)
  have hk' : (Cond.classLink own ik cls).before args s' = true := vx_ot_at hW0 hvm.symm (hgood _ List.mem_cons_self) hk
  have hini' : (Cond.initialized cls).before args s' = true := vx_ot_at hW0 hvm.symm (hgood _ (List.mem_cons_of_mem _ List.mem_cons_self)) hini
  have hU' : vx_Zq Bundle.tN "UNASSIGNED_STACK" Bundle.steD A s' s'.heap := by rw [hhp]; exact vx_Zq.moved hW0.alike (hU.kept hS.2.1)
  have hN' : vx_Zq Bundle.tN "SUPPRESSED_SENTINEL" Bundle.listD A s' s'.heap := by rw [hhp]; exact vx_Zq.moved hW0.alike (hN.kept hS.2.1)
  have h : ∀ w ∈ Bundle.ownAtoms own ic cls names, w.before args s' = true := vx_own hat' (vx_isRefq hU'.1) (vx_isRefq hN'.1) hU'.2.word hN'.2.word
  have hown' : s'.vm.findClass own = some m.cls := by rw [hvm]; exact hown
  have hins : (Cond.instantiable cls 6).before args s' = true := h _ (by simp [Bundle.ownAtoms])
  obtain ⟨vm₁, cX, kX, hfX, hkX, -, -, X₁, st1⟩ := Y.newCold hexec (own := own) (C := cls) (index := ik) (n := 6) hown' hk' hins hini'
    (g := F0 m pc ls rest) rfl (by rw [hb]; exact d0) (Nat.le_refl _) (Nat.le_refl _)
  generalize hT1 : (T.setVm vm₁).pushCell { cls := cX, slots := kX.instanceTypes.map defaultValue, vm := .none } = T1 at X₁ st1
  have hcat : (Value.ref T.heap.size).category = 1 := rfl
  have hcellA : T1.heap[T.heap.size]? = some (freshCell cX kX) := by rw [← hT1]; exact State.heap_pushCell_size _ _
  have d3' : decode c.code (pc + 3) = .ok (.dup, 1) := by rw [hb]; exact d3
  have d4' : decode c.code (pc + 4) = .ok (.ldc is, 2) := by rw [hb]; exact d4
  have hstr' : vk_R own is text sa s' := vk_R.warm hW0 hstr
  obtain ⟨U, hsteps, hrun, hend, hW, hsame, ce, hce, hO⟩ := X₁.ctorThrowS hexec htr (own := own) (cls := cls) (names := names) (ic := ic) hown' hcls hnames h (fun x hx => nomatch hx) hfX hkX hcellA (by rw [hhp, hT]; exact Nat.le_refl _) (msg := .ref sa) rfl
    (g := { method := m, pc := pc + 6, locals := ls, stack := .ref sa :: .ref T.heap.size :: .ref T.heap.size :: rest, locked := none }) rfl hsize rfl rfl (rest := rest) rfl
    (by rw [hb]; exact d6) (by rw [hb]; exact d9) hout hRframes (by simp only [List.map_cons, List.sum_cons, hcat]; omega) hlocks
  obtain ⟨f1, f2⟩ := vx_frame hsame
  rw [hhp] at f1 f2
  have hWs : s.WarmedH U.vm := State.WarmedH.trans hW0 hW
  have hcl : s.vm.findClass cls = some ce.cls := by
    have h9 := hO.cls
    rw [hvm] at h9
    exact h9
  have hall : s.sameButNew ({ U with vm := s.vm } : State) locs mc ms := by
    subst hA
    obtain ⟨e1, e2⟩ := hsame
    rw [State.setFrames_setFrames] at e1
    have h2 : (T.setVm s.vm).sameButNew ({ U with vm := s.vm } : State) [] (0 + 1) (0 + 6) := ⟨e1, e2⟩
    have h3 := X.same.trans h2
    rw [List.append_nil] at h3
    exact h3.mono hc hs
  refine ⟨U, ?_, .threw T.heap.size, hrun, hend, Or.inr ⟨T.heap.size, rfl, cls, ce, locs, hx U hWs.alike f1 (fun q hq => f2 q hq (fun z hz => nomatch hz)), hce, hO.vm, hcl, hWs, hall, hf⟩⟩
  refine st1 _ ?_
  show Steps p.tables e below (T1.setTop { method := m, pc := pc + 3, locals := ls, stack := .ref T.heap.size :: rest, locked := none }) _
  jvm_step X₁.here [X₁.here.top, hexec, d3', Value.category]
  exact X₁.ldcString hexec (own := own) (text := text) (index := is) (a := sa) hown' hstr'.1 hstr'.2
    (g := { method := m, pc := pc + 4, locals := ls, stack := .ref T.heap.size :: .ref T.heap.size :: rest, locked := none }) rfl d4' _ hsteps
/-- 'throw new E("text")', the text by a wide index -/
theorem vx_throwSW {cc : ByteArray} {pc : Nat} (hexec : p.tables.exec = Jvm.exec) (hb : c.code = cc) (hl : l.stackTraces = false) {own cls text : String} {names : List String} {ik is ic mc ms sa : Nat} {A : Nat → Prop}
    (hown : s.vm.findClass own = some m.cls) (hcls : Bundle.fit cls = true) (hnames : ∀ n ∈ names, Bundle.fit n = true)
    (hk : (Cond.classLink own ik cls).before args s = true) (hini : (Cond.initialized cls).before args s = true) (hstr : vk_R own is text sa s) (hat : ∀ w ∈ vx_atS own ic cls names, w.before args s = true)
    (hgood : ∀ w ∈ Cond.classLink own ik cls :: Cond.initialized cls :: vx_atS own ic cls names, vx_ot w = true)
    (hU : vx_Zq Bundle.tN "UNASSIGNED_STACK" Bundle.steD A s s.heap) (hN : vx_Zq Bundle.tN "SUPPRESSED_SENTINEL" Bundle.listD A s s.heap) (hS : va_S A s.heap H locs) (hsize : ls.size = c.maxLocals)
    (d0 : decode cc pc = .ok (.new ik, 3)) (d3 : decode cc (pc + 3) = .ok (.dup, 1)) (d4 : decode cc (pc + 4) = .ok (.ldc_w is, 3)) (d7 : decode cc (pc + 7) = .ok (.invokespecial ic, 3)) (d10 : decode cc (pc + 10) = .ok (.athrow, 1))
    (hout : ∀ x ∈ c.exceptionTable.toList, covers x (pc + 10) = false)
    (hRframes : names.length + 3 < R.frames) (hRlocals : (rest.map fun v => v.category).sum + (13 * (names.length + 1) + 43) ≤ R.locals) (hRcells : cells + 1 ≤ R.cells) (hRslots : slots + 6 ≤ R.slots) (hlocks : meth.locks = false)
    (hx : ∀ t : State, s.vm.Alike t.vm → H.size ≤ t.heap.size → (∀ q : Nat, q < H.size → t.heap[q]? = H[q]?) → XC cls s t)
    (hf : ∀ z ∈ locs, free z.base) (hc : cells + 1 ≤ mc) (hs : slots + 6 ≤ ms) :
    W p l e R s m args below meth c H locs cells slots (vx_MQ below Qc XC args s mc ms free) (F0 m pc ls rest) := by
  intro T hT X
  have htr : e.platform.stackTraces = false := (show e.platform.stackTraces = l.stackTraces by rw [X.admits.platform]).trans hl
  have Y := vx_rebase X (R' := { frames := R.frames, locals := R.locals, cells := 1, slots := 6 }) (Nat.le_refl _) (Nat.le_refl _) hRcells hRslots
  obtain ⟨s', hA⟩ : ∃ z, z = (T.setVm s.vm).setFrames (.invoking m args :: below) := ⟨_, rfl⟩
  rw [← hA] at Y
  have hvm : s'.vm = s.vm := by rw [hA]; rfl
  have hhp : s'.heap = H := by rw [hA]; exact hT
  have hW0 : s.WarmedH s'.vm := by rw [hvm]; exact State.WarmedH.refl s
  have hat' : ∀ w ∈ vx_atS own ic cls names, w.before args s' = true := fun w hw => vx_ot_at hW0 hvm.symm (hgood w (List.mem_cons_of_mem _ (List.mem_cons_of_mem _ hw))) (hat w hw)
  have hk' : (Cond.classLink own ik cls).before args s' = true := vx_ot_at hW0 hvm.symm (hgood _ List.mem_cons_self) hk
  have hini' : (Cond.initialized cls).before args s' = true := vx_ot_at hW0 hvm.symm (hgood _ (List.mem_cons_of_mem _ List.mem_cons_self)) hini
  have hU' : vx_Zq Bundle.tN "UNASSIGNED_STACK" Bundle.steD A s' s'.heap := by rw [hhp]; exact vx_Zq.moved hW0.alike (hU.kept hS.2.1)
  have hN' : vx_Zq Bundle.tN "SUPPRESSED_SENTINEL" Bundle.listD A s' s'.heap := by rw [hhp]; exact vx_Zq.moved hW0.alike (hN.kept hS.2.1)
  have h : ∀ w ∈ Bundle.ownAtoms own ic cls names, w.before args s' = true := vx_own hat' (vx_isRefq hU'.1) (vx_isRefq hN'.1) hU'.2.word hN'.2.word
  have hown' : s'.vm.findClass own = some m.cls := by rw [hvm]; exact hown
  have hins : (Cond.instantiable cls 6).before args s' = true := h _ (by simp [Bundle.ownAtoms])
  obtain ⟨vm₁, cX, kX, hfX, hkX, -, -, X₁, st1⟩ := Y.newCold hexec (own := own) (C := cls) (index := ik) (n := 6) hown' hk' hins hini'
    (g := F0 m pc ls rest) rfl (by rw [hb]; exact d0) (Nat.le_refl _) (Nat.le_refl _)
  generalize hT1 : (T.setVm vm₁).pushCell { cls := cX, slots := kX.instanceTypes.map defaultValue, vm := .none } = T1 at X₁ st1
  have hcat : (Value.ref T.heap.size).category = 1 := rfl
  have hcellA : T1.heap[T.heap.size]? = some (freshCell cX kX) := by rw [← hT1]; exact State.heap_pushCell_size _ _
  have d3' : decode c.code (pc + 3) = .ok (.dup, 1) := by rw [hb]; exact d3
  have d4' : decode c.code (pc + 4) = .ok (.ldc_w is, 3) := by rw [hb]; exact d4
  have hstr' : vk_R own is text sa s' := vk_R.warm hW0 hstr
  obtain ⟨U, hsteps, hrun, hend, hW, hsame, ce, hce, hO⟩ := X₁.ctorThrowS hexec htr (own := own) (cls := cls) (names := names) (ic := ic) hown' hcls hnames h (fun x hx => nomatch hx) hfX hkX hcellA (by rw [hhp, hT]; exact Nat.le_refl _) (msg := .ref sa) rfl
    (g := { method := m, pc := pc + 7, locals := ls, stack := .ref sa :: .ref T.heap.size :: .ref T.heap.size :: rest, locked := none }) rfl hsize rfl rfl (rest := rest) rfl
    (by rw [hb]; exact d7) (by rw [hb]; exact d10) hout hRframes (by simp only [List.map_cons, List.sum_cons, hcat]; omega) hlocks
  obtain ⟨f1, f2⟩ := vx_frame hsame
  rw [hhp] at f1 f2
  have hWs : s.WarmedH U.vm := State.WarmedH.trans hW0 hW
  have hcl : s.vm.findClass cls = some ce.cls := by
    have h9 := hO.cls
    rw [hvm] at h9
    exact h9
  have hall : s.sameButNew ({ U with vm := s.vm } : State) locs mc ms := by
    subst hA
    obtain ⟨e1, e2⟩ := hsame
    rw [State.setFrames_setFrames] at e1
    have h2 : (T.setVm s.vm).sameButNew ({ U with vm := s.vm } : State) [] (0 + 1) (0 + 6) := ⟨e1, e2⟩
    have h3 := X.same.trans h2
    rw [List.append_nil] at h3
    exact h3.mono hc hs
  refine ⟨U, ?_, .threw T.heap.size, hrun, hend, Or.inr ⟨T.heap.size, rfl, cls, ce, locs, hx U hWs.alike f1 (fun q hq => f2 q hq (fun z hz => nomatch hz)), hce, hO.vm, hcl, hWs, hall, hf⟩⟩
  refine st1 _ ?_
  show Steps p.tables e below (T1.setTop { method := m, pc := pc + 3, locals := ls, stack := .ref T.heap.size :: rest, locked := none }) _
  jvm_step X₁.here [X₁.here.top, hexec, d3', Value.category]
  exact X₁.ldcStringW hexec (own := own) (text := text) (index := is) (a := sa) hown' hstr'.1 hstr'.2
    (g := { method := m, pc := pc + 4, locals := ls, stack := .ref T.heap.size :: .ref T.heap.size :: rest, locked := none }) rfl d4' _ hsteps
end Ends
section Bodies
variable {l : Launch}
theorem vx_ofW {y : MethodName} {ws ws' : List Cond} {rm : Room} {Pc : Array Value → State → Prop} {Qc : Array Value → State → Outcome → State → Prop} {XC : String → State → State → Prop} {mc ms : Nat} {free : Addr → Prop} {cc : ByteArray} {maxL : Nat} {ret : Option FieldType}
    (hy : plainName y.cls = true) (hw : ws = Cond.code y cc maxL ret :: ws')
    (body : ∀ p e s m args below meth c s₁, BodyLoose p l y (headSpec ws rm) cc maxL ret e s m args below meth c s₁ → c.maxLocals = maxL → (∀ x ∈ c.exceptionTable.toList, False) → Pc args s →
      W p l e (headSpec ws rm).room s m args below meth c s.heap [] 0 0 (vx_MQ below Qc XC args s mc ms free) (entryFrame m args maxL)) : vx_Met l y ws rm Pc Qc XC mc ms free := by
  refine MetFree.of_bodyS (code := cc) (maxLocals := maxL) (ret := ret) hy ?_ ?_
  · intro args s m h hn
    obtain ⟨meth, c, h1, h2, h3, h4, h5, h6, -, -⟩ := Cond.code_spec hn (atoms_spec (ws := ws) h _ (by rw [hw]; exact List.mem_cons_self))
    exact ⟨meth, c, h1, h2, h3, h4, h5, h6⟩
  · intro p e s m args below meth c s₁ B hml hP _
    have hh0 : s₁.heap = s.heap := by rw [B.state]; rfl
    have ht : ∀ x ∈ c.exceptionTable.toList, False := by
      obtain ⟨meth9, c9, h1, h2, -, -, -, -, h7, -⟩ := Cond.code_spec B.named (atoms_spec (ws := ws) B.pre _ (by rw [hw]; exact List.mem_cons_self))
      cases Option.some.inj (h1.symm.trans B.method)
      cases Option.some.inj (h2.symm.trans (Stand.of_body B).code)
      intro x hx
      rw [Array.isEmpty_iff.mp h7] at hx
      cases hx
    obtain ⟨t, a1, o, b1, b2, b3⟩ := body p e s m args below meth c s₁ B hml ht hP s₁ hh0 (Stand.of_body B)
    exact ⟨t, o, a1, b1, b2, b3⟩
/-- the table of a body with handlers -/
theorem vx_table {p : Program} {x y : MethodName} {S : Spec} {cc bytes : ByteArray} {maxL maxL' : Nat} {ret ret' : Option FieldType} {e : Env} {s s₁ : State} {m : MethodId} {args : Array Value} {below : List Frame} {meth : Method} {c : Code} {hh : List (Nat × Nat × Nat × Nat)}
    (B : BodyLoose p l y S cc maxL ret e s m args below meth c s₁) (h : (Cond.codeWith y bytes maxL' ret' hh).before args s = true) : c.exceptionTable.toList = tableOf hh := by
  obtain ⟨m9, meth9, c9, hn9, h1, h2, -, -, h6, -⟩ := Cond.codeWith_spec h
  cases Option.some.inj (hn9.symm.trans B.named)
  cases Option.some.inj (h1.symm.trans B.method)
  cases Option.some.inj (h2.symm.trans (Stand.of_body B).code)
  rw [← h6, table_eq]
end Bodies
end VXA
/-! ===== END ===== -/
/-! ===== BEGIN a static call of a method with an exception table ===== -/
section VXS
variable {p : Program} {l : Launch} {e : Env} {R : Room} {s : State} {m : MethodId} {args : Array Value} {below : List Frame} {meth : Method} {c : Code} {T : State} {H : Heap} {locs : List Loc} {cells slots : Nat}
abbrev vx_CSW (R : Room) (s : State) (args : Array Value) (own : String) (index : Nat) (y : MethodName) (bytes : ByteArray) (maxL : Nat) (ret : Option FieldType) (hh : List (Nat × Nat × Nat × Nat)) (ws : List Cond) (rm : Room) (mc ms n : Nat) : Prop :=
  (rm.cells = mc ∧ rm.slots = ms ∧ rm.frames + 1 ≤ R.frames ∧ 8 + (maxL + 11) + rm.locals ≤ R.locals ∧ (∀ w ∈ ws, ∀ (a' : Array Value) (U : State), s.WarmedH U.vm → w.before a' U = true) ∧ Cond.codeWith y bytes maxL ret hh ∈ ws) ∧
  (Cond.codeWith y bytes maxL ret hh).before args s = true ∧ (Cond.initialized y.cls).before args s = true ∧ (y.cls ≠ "java/lang/invoke/MethodHandle" ∧ y.cls ≠ "java/lang/invoke/VarHandle") ∧
  (∀ sig, parseMethodDescriptor y.desc = some sig → n = sig.parameters.length) ∧ (Cond.methodLink own index y).before args s = true ∧ (Cond.static y).before args s = true
theorem vx_cwSW {own : String} {index maxL mc ms : Nat} {y : MethodName} {bytes : ByteArray} {ret : Option FieldType} {hh : List (Nat × Nat × Nat × Nat)} {Ts ws ws' : List Cond} {rm : Room} (n : Nat) (ht : ∀ w ∈ Ts, w.before args s = true) (hT : GoodIn Ts (va_wsS own index y ws)) (hw : ws = Cond.codeWith y bytes maxL ret hh :: ws') (hrc : rm.cells = mc) (hrs : rm.slots = ms)
    (hd : y.cls ≠ "java/lang/invoke/MethodHandle" ∧ y.cls ≠ "java/lang/invoke/VarHandle" ∧ (parseMethodDescriptor y.desc).map (fun d => d.parameters.length) = some n) (hR : rm.frames + 1 ≤ R.frames ∧ 8 + (maxL + 11) + rm.locals ≤ R.locals) :
    vx_CSW R s args own index y bytes maxL ret hh ws rm mc ms n := by
  have ok : ∀ w ∈ va_wsS own index y ws, w.before args s = true := fun w h => ht w (hT w h).1
  have hG : GoodIn Ts ws := fun w h => hT w (by unfold va_wsS; exact List.mem_append_right _ h)
  have hc : Cond.codeWith y bytes maxL ret hh ∈ ws := by rw [hw]; exact List.mem_cons_self
  refine ⟨⟨hrc, hrs, hR.1, hR.2, pay_in ht hG, hc⟩, ht _ (hG _ hc).1, ok _ (by simp [va_wsS]), ⟨hd.1, hd.2.1⟩, fun sig h => ?_, ok _ (by simp [va_wsS]), ok _ (by simp [va_wsS])⟩
  have h2 := hd.2.2
  rw [h] at h2
  exact (Option.some.inj h2).symm
theorem vx_callSW (X : Stand p l e R s m args below meth c T locs cells slots) (hexec : p.tables.exec = Jvm.exec) {own : String} {index : Nat} {y : MethodName} {bytes : ByteArray} {maxL : Nat} {ret : Option FieldType} {hh : List (Nat × Nat × Nat × Nat)}
    (hown : s.vm.findClass own = some m.cls) (hlink : (Cond.methodLink own index y).before args s = true) (hstat : (Cond.static y).before args s = true) (hinit : (Cond.initialized y.cls).before args s = true)
    (hcode : (Cond.codeWith y bytes maxL ret hh).before args s = true) (hy : y.cls ≠ "java/lang/invoke/MethodHandle" ∧ y.cls ≠ "java/lang/invoke/VarHandle")
    {W9 : Nat} {Pre : Pt → Array Value → Prop} {Post : Pt → Array Value → Option Value → Pt → Prop} (hK : Back l R p e below s args y 3 W9 Pre Post)
    {g : JFrame} (hg : g.method = m) (hsize : g.locals.size = c.maxLocals) {argsL rest : List Value} (hlen : ∀ sig, parseMethodDescriptor y.desc = some sig → argsL.length = sig.parameters.length)
    (hstack : g.stack = argsL.reverse ++ rest) (hW : 2 * g.monitorRoom + (rest.map fun v => v.category).sum ≤ W9) (hdg : decode c.code g.pc = .ok (.invokestatic index, 3))
    (hpre : ∀ vm₁, s.WarmedH vm₁ → Pre ⟨T.setVm vm₁, locs, cells, slots⟩ argsL.toArray) :
    ∃ (v : Option Value) (vm₁ : Vm) (B : Pt), s.WarmedH vm₁ ∧ Stand p l e R s m args below meth c B.U B.locs B.cells B.slots ∧ Post ⟨T.setVm vm₁, locs, cells, slots⟩ argsL.toArray v B ∧
      ∀ target, Steps p.tables e below (B.U.setTop { g with pc := g.pc + 3, stack := v.toList ++ rest }) target → Steps p.tables e below (T.setTop g) target := by
  obtain ⟨mk, methM, cM, hnamed, hmethM, -, -, -, -, -, -, hsigM⟩ := Cond.codeWith_spec hcode
  have hstatic : methM.isStatic = true := Cond.static_spec hnamed hmethM hstat
  obtain ⟨kP, hkP, -⟩ := className_of_methodNamed hnamed
  have hinitP : kP.init = .initialized := Cond.initialized_spec (findClass_of_methodNamed hnamed) hkP hinit
  obtain ⟨vm₁, X₁, hstep₁⟩ := X.invokestatic hexec hown hlink hnamed hmethM hstatic hkP hinitP hy (g := g) hg (argsL := argsL) (rest := rest) (hlen _ hsigM) hstack hdg
  obtain ⟨v, B, X', hpost, hsteps⟩ := hK m meth c ⟨T.setVm vm₁, locs, cells, slots⟩ { g with stack := rest } (.invokestatic index) mk argsL.toArray X₁ hg hsize hdg hW (X₁.named hnamed) (hpre vm₁ X₁.warmed)
  exact ⟨v, vm₁, B, X₁.warmed, X', hpost, fun target h => hstep₁ _ fun acts => by rw [doInvoke_state]; exact hsteps.trans h⟩
theorem vx_runSW {y : MethodName} {bytes cc : ByteArray} {maxL nL mc ms n index : Nat} {ret : Option FieldType} {hh : List (Nat × Nat × Nat × Nat)} {ws : List Cond} {rm : Room} {Pc : Array Value → State → Prop} {Qc : Array Value → State → Outcome → State → Prop} {free : Addr → Prop} {Ts : List Cond} {own : String} {As rest : List Value} {g : JFrame}
    (S : CallFix p m c cc nL s args Ts own) (hM : Met l y ws rm Pc Qc mc ms free) (cw : vx_CSW R s args own index y bytes maxL ret hh ws rm mc ms n) (hp : PreS s H Pc As)
    (hg : g.method = m) (hn : As.length = n) (hsize : g.locals.size = nL) (hstack : g.stack = As.reverse ++ rest) (hW : 2 * g.monitorRoom + (rest.map fun v => v.category).sum ≤ 8) (hdg : decode cc g.pc = .ok (.invokestatic index, 3)) (hf : cells + mc ≤ R.cells ∧ slots + ms ≤ R.slots) :
    va_Run p l e R s m args below meth c H locs cells slots mc ms g rest (Qc As.toArray) (free) := by
  obtain ⟨⟨hrc, hrs, hfr, hlo, hws, hcw⟩, hcode, hini, hy, hlen, hl, hstt⟩ := cw
  have hK : Back l R p e below s args y 3 8 (PreOf R mc ms Pc) (PostOf Qc mc ms free) := va_backW (hh := hh) (bytes := bytes) (maxL := maxL) (ret := ret) hM hp.1 hrc hrs hfr hlo hws hcw (fun a' U hW => word_at hW (Or.inl (by first | rfl | simp [Cond.onTables, Cond.keeps, Cond.steady])) hini)
  obtain ⟨hx, hb, hml, ho, -⟩ := S
  intro T hT X
  obtain ⟨v, vm₁, ⟨U', l2, c2, s2⟩, hW₁, X', ⟨g', mk, t, L, e1, e2, hq, h1, hL, h2, h3⟩, st⟩ := vx_callSW X hx (hh := hh) (bytes := bytes) (maxL := maxL) (ret := ret) ho hl hstt hini hcode hy hK hg (hsize.trans hml.symm) (argsL := As) (rest := rest) (fun sig h => hn.trans (hlen sig h)) hstack hW (by rw [hb]; exact hdg)
    (fun vm₁ hW₁ => ⟨hf.1, hf.2, hp.2 (T.setVm vm₁) hT hW₁⟩)
  dsimp only [Pt.U, Pt.locs, Pt.cells, Pt.slots] at X' e1 e2 h1 h2 h3 st
  subst h1; subst h2; subst h3
  exact ⟨v, (T.setVm vm₁).calling g' mk As.toArray, t, U', L, hT, X', hL, e1, e2, hq, st⟩
/-- not caught here, past rows that name other classes: it goes on to the caller -/
theorem vx_outP {p : Program} {l : Launch} {e : Env} {R : Room} {s : State} {m : MethodId} {args : Array Value} {below : List Frame} {meth : Method} {c : Code} {H : Heap} {locs : List Loc} {cells slots : Nat} {free : Addr → Prop} {ls : Array Slot} {rest : List Value} {Qc : Array Value → State → Outcome → State → Prop} {XC : String → State → State → Prop}
    {pc : Nat} {own E : String} {ce : Cell} {q : Addr} {mc ms : Nat} (hown : s.vm.findClass own = some m.cls) (hlocks : meth.locks = false)
    (hpass : ∀ z ∈ c.exceptionTable.toList, covers z pc = false ∨ (z.catchType ≠ 0 ∧ ∃ nm : String, (Cond.classLink own z.catchType nm).before args s = true ∧ va_Nc E nm s)) (hcell : H[q]? = some ce) (hv : ce.vm = .none) (hcl : s.vm.findClass E = some ce.cls)
    (hx : ∀ t : State, t.heap = H → s.vm.Alike t.vm → XC E s t) (hf : ∀ z ∈ locs, free z.base) (hc : cells ≤ mc) (hs : slots ≤ ms) :
    vx_W p l e R s m args below meth c H locs cells slots (vx_MQ below Qc XC args s mc ms free) (F0 m pc ls rest) q := by
  intro T hT X
  have hpl : e.platform.magicAccessors = ({} : Platform).magicAccessors := by rw [X.admits.platform]
  obtain ⟨vm', hW', X', st⟩ := X.outThrough hlocks q (g := F0 m pc ls rest) rfl rfl rfl (cell := ce) (by rw [hT]; exact hcell) (by rw [hv]; rfl)
    (by obtain ⟨k9, h9, -⟩ := Vm.findClass_spec hcl; exact ⟨k9, h9⟩) (fun z hz => by
      rcases hpass z hz with h | ⟨hz0, nm, hl1, hn1⟩
      · exact Or.inl h
      · obtain ⟨c6, hc6, hcl6⟩ := Cond.classLink_spec hown hl1 e.platform hpl
        obtain ⟨a8, b8, h1, h2, h3⟩ := hn1
        cases Option.some.inj (h1.symm.trans hcl)
        cases Option.some.inj (h2.symm.trans hc6)
        exact Or.inr ⟨hz0, _, hcl6, h3⟩)
  obtain ⟨g₀, hfr⟩ := X'.frames_eq
  have hcell9 : ((T.setVm vm').setFrames (.throwing q :: below)).heap[q]? = some ce := by
    show T.heap[q]? = some ce
    rw [hT]; exact hcell
  have hend : Ended ((T.setVm vm').setFrames (.throwing q :: below)) below (.threw q) := State.frames_setFrames _ (State.cur_lt_of_frames hfr)
  refine ⟨(T.setVm vm').setFrames (.throwing q :: below), ?_, .threw q, X'.here.running, hend, Or.inr ⟨q, rfl, E, ce, locs, hx _ hT (X'.ends _).1.alike, hcell9, hv, hcl, (X'.ends _).1, (X'.ends _).2.mono hc hs, hf⟩⟩
  rw [X.pushThrowing_eq]
  exact st
/-- a thing of a world lies in the heap -/
theorem vx_lt {D : va_G} {cl : List vw_C} {ws : va_W} {H1 : Heap} (h : va_P D cl ws H1) {k : Nat} {q : Nat × va_E} (hk : ws[k]? = some q) : q.1 < H1.size := (h k q hk).lt
end VXS
/-! ===== END ===== -/
/-! ===== BEGIN methods with a table of their own: called by a name, returning or throwing ===== -/
section VXH
/-! vx_backW, vx_callVX, vx_callSX, vx_callVW, vx_runVW, vx_runVX, vx_runSX, vx_ofWH follow the same proofs as their sisters above (Free/Laws.lean, Shelf42/LK1.lean); vx_outP calls Shelf42/NT130.lean (outThrough). -/
section
variable {l : Launch} {R : Room} {p : Program} {e : Env} {below : List Frame} {s : State} {sargs : Array Value} {y : MethodName} {len W9 : Nat}
theorem vx_backW {ws : List Cond} {rm : Room} {Pc : Array Value → State → Prop} {Qc : Array Value → State → Outcome → State → Prop} {XC : String → State → State → Prop} {mc ms : Nat} {free : Addr → Prop} {bytes : ByteArray} {maxL : Nat} {ret : Option FieldType} {hh : List (Nat × Nat × Nat × Nat)}
    (hM : vx_Met l y ws rm Pc Qc XC mc ms free) (hblind : FrameBlind Pc) (hrc : rm.cells = mc) (hrs : rm.slots = ms)
    (hframes : rm.frames + 1 ≤ R.frames) (hlocals : W9 + (maxL + 11) + rm.locals ≤ R.locals)
    (hws : ∀ w ∈ ws, ∀ a' U, s.WarmedH U.vm → w.before a' U = true) (hcode : Cond.codeWith y bytes maxL ret hh ∈ ws) (hinit : ∀ a' U, s.WarmedH U.vm → (Cond.initialized y.cls).before a' U = true) :
    vx_Back l R p e below s sargs y len W9 (PreOf R mc ms Pc) (PostOf Qc mc ms free) (vx_Post XC mc ms free) := by
  intro m meth c A g ig mk a X hg hsize hdg hW hn hp
  have h1 : (headSpec ws rm).pre.before a A.U = true := atoms_intro fun w hw => hws w hw _ _ X.warmed
  have h2 : (Cond.codeWith y bytes maxL ret hh).before a A.U = true := hws _ hcode _ _ X.warmed
  have h3 : (Cond.initialized y.cls).before a A.U = true := hinit _ _ X.warmed
  have h4 : A.cells + (headSpec ws rm).room.cells ≤ R.cells := by rw [show (headSpec ws rm).room.cells = mc from hrc]; exact hp.1
  have h5 : A.slots + (headSpec ws rm).room.slots ≤ R.slots := by rw [show (headSpec ws rm).room.slots = ms from hrs]; exact hp.2.1
  have hPc : Pc a (A.U.calling g mk a) := hblind _ _ _ _ hp.2.2
  obtain ⟨U, Ls, c0, s0⟩ := A
  dsimp only [Pt.U, Pt.locs, Pt.cells, Pt.slots] at h1 h2 h3 h4 h5 X hn hPc ⊢
  obtain ⟨m9, methY, cY, hn9, hmY, hcY, -, hlY, -⟩ := Cond.codeWith_spec h2
  cases Option.some.inj (hn9.symm.trans hn)
  obtain ⟨kY, hkY, -⟩ := className_of_methodNamed hn
  have hinitY : kY.init = .initialized := Cond.initialized_spec (findClass_of_methodNamed hn) hkY h3
  have h : At U g.method c below := by rw [hg]; exact X.here
  have hlocals9 : W9 + (maxL + 11) + (headSpec ws rm).room.locals ≤ R.locals := hlocals
  have happ : (headSpec ws rm).appliesLoose y e.platform (U.calling g mk a) = true :=
    Spec.appliesLoose_calling (g := g) h hdg hn hkY hinitY
      (X.room_calling (g := g) (R' := (headSpec ws rm).room) hsize hmY hcY hframes (by rw [hlY]; omega) h4 h5) h1
  obtain ⟨mid, hmid⟩ := h.above
  have hfr : (U.setTop g).frames = (.java g :: mid) ++ below := by rw [State.frames_setTop' g h.top, hmid]; rfl
  obtain ⟨o, s₂, hsteps, -, hend, hq⟩ := Steps.callFree hM p X.admits X.cas X.clock (acts := []) hfr happ hPc trivial
  have hq' : vx_Q Qc XC mc ms free a (U.calling g mk a) o s₂ := hq
  rw [State.frames_setTop' g h.top] at hend
  obtain ⟨g₀, hg0⟩ := Option.isSome_iff_exists.mp h.top
  obtain ⟨r, hr⟩ := State.topJava?_eq_some.mp hg0
  have hr' : (({ U with heap := s₂.heap, slotsUsed := s₂.slotsUsed } : State).setVm s₂.vm).frames = .java g₀ :: r := hr
  rcases hq' with ⟨hqc, L, hfe, hL⟩ | ⟨q, rfl, E, ce, L, hx, hce, hcv, hcl, hW₂, hsm, hL⟩
  · obtain ⟨⟨v, rfl⟩, hW₂, e2, q2, q3, q4, q5, q6⟩ := id hfe
    have e3 : s₂ = ({ (U.calling g mk a).setFrames s₂.frames with heap := s₂.heap, slotsUsed := s₂.slotsUsed } : State).setVm s₂.vm := by
      have : s₂ = ({ s₂ with vm := (U.calling g mk a).vm } : State).setVm s₂.vm := rfl
      rw [e2] at this
      exact this
    obtain ⟨c₂, i₂, len₂, hc₂, hd₂, hf₂⟩ := hend
    have hW' : U.WarmedH s₂.vm := hW₂
    have hcc : c₂ = c := by
      have h1 : s₂.code? g.method = U.code? g.method := by
        rw [State.code?_eq, State.code?_eq, hW'.alike.method?]
      exact Option.some.inj (hc₂.symm.trans (h1.trans h.code))
    subst hcc
    have hlen : len₂ = len := by rw [hdg] at hd₂; cases hd₂; rfl
    subst hlen
    have hs₂ : s₂ = (({ U with heap := s₂.heap, slotsUsed := s₂.slotsUsed } : State).setVm s₂.vm).setTop { g with pc := g.pc + len₂, stack := v.toList ++ g.stack } := by
      refine e3.trans ?_
      rw [hf₂, State.calling_eq h.top, State.setFrames_setFrames, State.setTop_of_frames _ hr', hr]
      rfl
    have hsame : U.sameButNew ({ U with heap := s₂.heap, slotsUsed := s₂.slotsUsed } : State) L mc ms := by
      refine ⟨?_, q2, q3, q4, q5, q6⟩
      obtain ⟨t, ht, -⟩ := State.frames_cons hr
      show ({ U with heap := s₂.heap, slotsUsed := s₂.slotsUsed } : State) = { U.setFrames U.frames with heap := s₂.heap, slotsUsed := s₂.slotsUsed }
      rw [State.setFrames_self ht]
    subst hg
    refine Or.inl ⟨v, ⟨(({ U with heap := s₂.heap, slotsUsed := s₂.slotsUsed } : State).setVm s₂.vm), Ls ++ L, c0 + mc, s0 + ms⟩,
      ⟨X.admits, X.cas, X.clock, X.frames, X.room, X.hears, X.method, X.code, (X.here.setHeapUsed s₂.heap s₂.slotsUsed).setVm hW'.alike, X.tail, State.WarmedH.trans X.warmed hW', X.limits, X.bytes, X.same.trans (hsame.setVm s.vm)⟩,
      ⟨g, mk, s₂, L, rfl, rfl, hqc, rfl, hL, rfl, rfl⟩, ?_⟩
    show Steps p.tables e below _ ((({ U with heap := s₂.heap, slotsUsed := s₂.slotsUsed } : State).setVm s₂.vm).setTop { g with pc := g.pc + len₂, stack := v.toList ++ g.stack })
    rw [← hs₂]
    exact hsteps
  · obtain ⟨e2, q2, q3, q4, q5, q6⟩ := id hsm
    have e3 : s₂ = ({ (U.calling g mk a).setFrames s₂.frames with heap := s₂.heap, slotsUsed := s₂.slotsUsed } : State).setVm s₂.vm := by
      have : s₂ = ({ s₂ with vm := (U.calling g mk a).vm } : State).setVm s₂.vm := rfl
      rw [e2] at this
      exact this
    have hf₂ : s₂.frames = .throwing q :: .java g :: U.frames.tail := hend
    have hW' : U.WarmedH s₂.vm := hW₂
    have hs₂ : s₂ = ((({ U with heap := s₂.heap, slotsUsed := s₂.slotsUsed } : State).setVm s₂.vm).setTop g).pushFrame (.throwing q) := by
      refine e3.trans ?_
      rw [hf₂, State.calling_eq h.top, State.setFrames_setFrames, State.pushFrame, State.frames_setTop _ hr', State.setTop_of_frames _ hr', State.setFrames_setFrames, hr]
      rfl
    have hsame : U.sameButNew ({ U with heap := s₂.heap, slotsUsed := s₂.slotsUsed } : State) L mc ms := by
      refine ⟨?_, q2, q3, q4, q5, q6⟩
      obtain ⟨t, ht, -⟩ := State.frames_cons hr
      show ({ U with heap := s₂.heap, slotsUsed := s₂.slotsUsed } : State) = { U.setFrames U.frames with heap := s₂.heap, slotsUsed := s₂.slotsUsed }
      rw [State.setFrames_self ht]
    subst hg
    refine Or.inr ⟨q, ⟨(({ U with heap := s₂.heap, slotsUsed := s₂.slotsUsed } : State).setVm s₂.vm), Ls ++ L, c0 + mc, s0 + ms⟩,
      ⟨X.admits, X.cas, X.clock, X.frames, X.room, X.hears, X.method, X.code, (X.here.setHeapUsed s₂.heap s₂.slotsUsed).setVm hW'.alike, X.tail, State.WarmedH.trans X.warmed hW', X.limits, X.bytes, X.same.trans (hsame.setVm s.vm)⟩,
      ⟨g, mk, s₂, L, E, ce, rfl, rfl, hx, hce, hcv, hcl, rfl, hL, rfl, rfl⟩, ?_⟩
    show Steps p.tables e below _ (((({ U with heap := s₂.heap, slotsUsed := s₂.slotsUsed } : State).setVm s₂.vm).setTop g).pushFrame (.throwing q))
    rw [← hs₂]
    exact hsteps
end
variable {p : Program} {l : Launch} {e : Env} {R : Room} {s : State} {m : MethodId} {args : Array Value} {below : List Frame} {meth : Method} {c : Code} {T : State} {H : Heap} {locs : List Loc} {cells slots : Nat}
theorem vx_callVX (X : Stand p l e R s m args below meth c T locs cells slots) (hexec : p.tables.exec = Jvm.exec) {own C : String} {index : Nat} {y : MethodName} {bytes : ByteArray} {maxL : Nat} {ret : Option FieldType} {hh : List (Nat × Nat × Nat × Nat)}
    (hown : s.vm.findClass own = some m.cls) (hlink : (Cond.methodLink own index y).before args s = true) (hinst : (Cond.instanceMethod y).before args s = true) (hsel : (Cond.selects C y y).before args s = true)
    (hcode : (Cond.codeWith y bytes maxL ret hh).before args s = true) (hy : y.cls ≠ "java/lang/invoke/MethodHandle" ∧ y.cls ≠ "java/lang/invoke/VarHandle")
    {W9 : Nat} {Pre : Pt → Array Value → Prop} {Post : Pt → Array Value → Option Value → Pt → Prop} {PostX : Pt → Array Value → Addr → Pt → Prop} (hK : vx_Back l R p e below s args y 3 W9 Pre Post PostX)
    {b : Addr} {cellB : Cell} (hcell : T.heap[b]? = some cellB) (hobj : cellB.vm.isStatics = false) (hcls : s.vm.findClass C = some cellB.cls)
    {g : JFrame} (hg : g.method = m) (hsize : g.locals.size = c.maxLocals) {argsL rest : List Value} (hlen : ∀ sig, parseMethodDescriptor y.desc = some sig → argsL.length = sig.parameters.length)
    (hstack : g.stack = argsL.reverse ++ .ref b :: rest) (hW : 2 * g.monitorRoom + (rest.map fun v => v.category).sum ≤ W9) (hdg : decode c.code g.pc = .ok (.invokevirtual index, 3))
    (hpre : ∀ vm₁, s.WarmedH vm₁ → Pre ⟨T.setVm vm₁, locs, cells, slots⟩ (Value.ref b :: argsL).toArray) :
    (∃ (v : Option Value) (vm₁ : Vm) (B : Pt), s.WarmedH vm₁ ∧ Stand p l e R s m args below meth c B.U B.locs B.cells B.slots ∧ Post ⟨T.setVm vm₁, locs, cells, slots⟩ (Value.ref b :: argsL).toArray v B ∧
      ∀ target, Steps p.tables e below (B.U.setTop { g with pc := g.pc + 3, stack := v.toList ++ rest }) target → Steps p.tables e below (T.setTop g) target) ∨
    (∃ (q : Addr) (vm₁ : Vm) (B : Pt), s.WarmedH vm₁ ∧ Stand p l e R s m args below meth c B.U B.locs B.cells B.slots ∧ PostX ⟨T.setVm vm₁, locs, cells, slots⟩ (Value.ref b :: argsL).toArray q B ∧
      Steps p.tables e below (T.setTop g) ((B.U.setTop { g with stack := rest }).pushFrame (.throwing q))) := by
  obtain ⟨mk, methM, hnamed, hmethM, hstM, habM⟩ := Cond.instanceMethod_spec hinst
  obtain ⟨m8, methM', cM, hn8, hmethM', -, -, -, -, -, -, hsigM⟩ := Cond.codeWith_spec hcode
  cases Option.some.inj (hn8.symm.trans hnamed)
  cases hmethM.symm.trans hmethM'
  obtain ⟨c2, r2, m2, q1, q2, q3, q4, kP, hkP, hkPi⟩ := Cond.selects_spec hsel
  cases hcls.symm.trans q1
  cases (State.methodFound?_of_named hnamed hy).symm.trans q2
  cases hnamed.symm.trans q3
  have hselP : selectMethod e.platform s.vm cellB.cls mk = .method mk := by rw [Launch.admits_selectMethod X.admits]; exact q4
  obtain ⟨vm₁, X₁, hstep₁⟩ := X.invokevirtual hexec hown hlink hnamed hmethM hstM hkP hkPi hy (a := b) (cell := cellB) hcell
    (fun z h => by rw [h] at hobj; cases hobj) hselP hmethM habM hkP hkPi (g := g) hg (argsL := argsL) (rest := rest) (hlen _ hsigM) hstack hdg
  rcases hK m meth c ⟨T.setVm vm₁, locs, cells, slots⟩ { g with stack := rest } (.invokevirtual index) mk (Value.ref b :: argsL).toArray X₁ hg hsize hdg hW (X₁.named hnamed) (hpre vm₁ X₁.warmed) with ⟨v, B, X', hpost, hsteps⟩ | ⟨q, B, X', hpost, hsteps⟩
  · exact Or.inl ⟨v, vm₁, B, X₁.warmed, X', hpost, fun target h => hstep₁ _ fun acts => by rw [doInvoke_state]; exact hsteps.trans h⟩
  · exact Or.inr ⟨q, vm₁, B, X₁.warmed, X', hpost, hstep₁ _ fun acts => by rw [doInvoke_state]; exact hsteps⟩
theorem vx_callSX (X : Stand p l e R s m args below meth c T locs cells slots) (hexec : p.tables.exec = Jvm.exec) {own : String} {index : Nat} {y : MethodName} {bytes : ByteArray} {maxL : Nat} {ret : Option FieldType} {hh : List (Nat × Nat × Nat × Nat)}
    (hown : s.vm.findClass own = some m.cls) (hlink : (Cond.methodLink own index y).before args s = true) (hstat : (Cond.static y).before args s = true) (hinit : (Cond.initialized y.cls).before args s = true)
    (hcode : (Cond.codeWith y bytes maxL ret hh).before args s = true) (hy : y.cls ≠ "java/lang/invoke/MethodHandle" ∧ y.cls ≠ "java/lang/invoke/VarHandle")
    {W9 : Nat} {Pre : Pt → Array Value → Prop} {Post : Pt → Array Value → Option Value → Pt → Prop} {PostX : Pt → Array Value → Addr → Pt → Prop} (hK : vx_Back l R p e below s args y 3 W9 Pre Post PostX)
    {g : JFrame} (hg : g.method = m) (hsize : g.locals.size = c.maxLocals) {argsL rest : List Value} (hlen : ∀ sig, parseMethodDescriptor y.desc = some sig → argsL.length = sig.parameters.length)
    (hstack : g.stack = argsL.reverse ++ rest) (hW : 2 * g.monitorRoom + (rest.map fun v => v.category).sum ≤ W9) (hdg : decode c.code g.pc = .ok (.invokestatic index, 3))
    (hpre : ∀ vm₁, s.WarmedH vm₁ → Pre ⟨T.setVm vm₁, locs, cells, slots⟩ argsL.toArray) :
    (∃ (v : Option Value) (vm₁ : Vm) (B : Pt), s.WarmedH vm₁ ∧ Stand p l e R s m args below meth c B.U B.locs B.cells B.slots ∧ Post ⟨T.setVm vm₁, locs, cells, slots⟩ argsL.toArray v B ∧
      ∀ target, Steps p.tables e below (B.U.setTop { g with pc := g.pc + 3, stack := v.toList ++ rest }) target → Steps p.tables e below (T.setTop g) target) ∨
    (∃ (q : Addr) (vm₁ : Vm) (B : Pt), s.WarmedH vm₁ ∧ Stand p l e R s m args below meth c B.U B.locs B.cells B.slots ∧ PostX ⟨T.setVm vm₁, locs, cells, slots⟩ argsL.toArray q B ∧
      Steps p.tables e below (T.setTop g) ((B.U.setTop { g with stack := rest }).pushFrame (.throwing q))) := by
  obtain ⟨mk, methM, cM, hnamed, hmethM, -, -, -, -, -, -, hsigM⟩ := Cond.codeWith_spec hcode
  have hstatic : methM.isStatic = true := Cond.static_spec hnamed hmethM hstat
  obtain ⟨kP, hkP, -⟩ := className_of_methodNamed hnamed
  have hinitP : kP.init = .initialized := Cond.initialized_spec (findClass_of_methodNamed hnamed) hkP hinit
  obtain ⟨vm₁, X₁, hstep₁⟩ := X.invokestatic hexec hown hlink hnamed hmethM hstatic hkP hinitP hy (g := g) hg (argsL := argsL) (rest := rest) (hlen _ hsigM) hstack hdg
  rcases hK m meth c ⟨T.setVm vm₁, locs, cells, slots⟩ { g with stack := rest } (.invokestatic index) mk argsL.toArray X₁ hg hsize hdg hW (X₁.named hnamed) (hpre vm₁ X₁.warmed) with ⟨v, B, X', hpost, hsteps⟩ | ⟨q, B, X', hpost, hsteps⟩
  · exact Or.inl ⟨v, vm₁, B, X₁.warmed, X', hpost, fun target h => hstep₁ _ fun acts => by rw [doInvoke_state]; exact hsteps.trans h⟩
  · exact Or.inr ⟨q, vm₁, B, X₁.warmed, X', hpost, hstep₁ _ fun acts => by rw [doInvoke_state]; exact hsteps⟩
theorem vx_callVW (X : Stand p l e R s m args below meth c T locs cells slots) (hexec : p.tables.exec = Jvm.exec) {own C : String} {index : Nat} {y : MethodName} {bytes : ByteArray} {maxL : Nat} {ret : Option FieldType} {hh : List (Nat × Nat × Nat × Nat)}
    (hown : s.vm.findClass own = some m.cls) (hlink : (Cond.methodLink own index y).before args s = true) (hinst : (Cond.instanceMethod y).before args s = true) (hsel : (Cond.selects C y y).before args s = true)
    (hcode : (Cond.codeWith y bytes maxL ret hh).before args s = true) (hy : y.cls ≠ "java/lang/invoke/MethodHandle" ∧ y.cls ≠ "java/lang/invoke/VarHandle")
    {W9 : Nat} {Pre : Pt → Array Value → Prop} {Post : Pt → Array Value → Option Value → Pt → Prop} (hK : Back l R p e below s args y 3 W9 Pre Post)
    {b : Addr} {cellB : Cell} (hcell : T.heap[b]? = some cellB) (hobj : cellB.vm.isStatics = false) (hcls : s.vm.findClass C = some cellB.cls)
    {g : JFrame} (hg : g.method = m) (hsize : g.locals.size = c.maxLocals) {argsL rest : List Value} (hlen : ∀ sig, parseMethodDescriptor y.desc = some sig → argsL.length = sig.parameters.length)
    (hstack : g.stack = argsL.reverse ++ .ref b :: rest) (hW : 2 * g.monitorRoom + (rest.map fun v => v.category).sum ≤ W9) (hdg : decode c.code g.pc = .ok (.invokevirtual index, 3))
    (hpre : ∀ vm₁, s.WarmedH vm₁ → Pre ⟨T.setVm vm₁, locs, cells, slots⟩ (Value.ref b :: argsL).toArray) :
    ∃ (v : Option Value) (vm₁ : Vm) (B : Pt), s.WarmedH vm₁ ∧ Stand p l e R s m args below meth c B.U B.locs B.cells B.slots ∧ Post ⟨T.setVm vm₁, locs, cells, slots⟩ (Value.ref b :: argsL).toArray v B ∧
      ∀ target, Steps p.tables e below (B.U.setTop { g with pc := g.pc + 3, stack := v.toList ++ rest }) target → Steps p.tables e below (T.setTop g) target := by
  obtain ⟨mk, methM, hnamed, hmethM, hstM, habM⟩ := Cond.instanceMethod_spec hinst
  obtain ⟨m8, methM', cM, hn8, hmethM', -, -, -, -, -, -, hsigM⟩ := Cond.codeWith_spec hcode
  cases Option.some.inj (hn8.symm.trans hnamed)
  cases hmethM.symm.trans hmethM'
  obtain ⟨c2, r2, m2, q1, q2, q3, q4, kP, hkP, hkPi⟩ := Cond.selects_spec hsel
  cases hcls.symm.trans q1
  cases (State.methodFound?_of_named hnamed hy).symm.trans q2
  cases hnamed.symm.trans q3
  have hselP : selectMethod e.platform s.vm cellB.cls mk = .method mk := by rw [Launch.admits_selectMethod X.admits]; exact q4
  obtain ⟨vm₁, X₁, hstep₁⟩ := X.invokevirtual hexec hown hlink hnamed hmethM hstM hkP hkPi hy (a := b) (cell := cellB) hcell
    (fun z h => by rw [h] at hobj; cases hobj) hselP hmethM habM hkP hkPi (g := g) hg (argsL := argsL) (rest := rest) (hlen _ hsigM) hstack hdg
  obtain ⟨v, B, X', hpost, hsteps⟩ := hK m meth c ⟨T.setVm vm₁, locs, cells, slots⟩ { g with stack := rest } (.invokevirtual index) mk (Value.ref b :: argsL).toArray X₁ hg hsize hdg hW (X₁.named hnamed) (hpre vm₁ X₁.warmed)
  exact ⟨v, vm₁, B, X₁.warmed, X', hpost, fun target h => hstep₁ _ fun acts => by rw [doInvoke_state]; exact hsteps.trans h⟩
abbrev vx_CVW (R : Room) (s : State) (args : Array Value) (own C : String) (index : Nat) (y : MethodName) (bytes : ByteArray) (maxL : Nat) (ret : Option FieldType) (hh : List (Nat × Nat × Nat × Nat)) (ws : List Cond) (rm : Room) (mc ms n : Nat) : Prop :=
  (rm.cells = mc ∧ rm.slots = ms ∧ rm.frames + 1 ≤ R.frames ∧ 8 + (maxL + 11) + rm.locals ≤ R.locals ∧ (∀ w ∈ ws, ∀ (a' : Array Value) (U : State), s.WarmedH U.vm → w.before a' U = true) ∧ Cond.codeWith y bytes maxL ret hh ∈ ws) ∧
  (Cond.codeWith y bytes maxL ret hh).before args s = true ∧ (Cond.initialized y.cls).before args s = true ∧ (y.cls ≠ "java/lang/invoke/MethodHandle" ∧ y.cls ≠ "java/lang/invoke/VarHandle") ∧
  (∀ sig, parseMethodDescriptor y.desc = some sig → n = sig.parameters.length) ∧ (Cond.methodLink own index y).before args s = true ∧ (Cond.instanceMethod y).before args s = true ∧ (Cond.selects C y y).before args s = true
theorem vx_cwVW {own C : String} {index maxL mc ms : Nat} {y : MethodName} {bytes : ByteArray} {ret : Option FieldType} {hh : List (Nat × Nat × Nat × Nat)} {Ts ws ws' : List Cond} {rm : Room} (n : Nat) (ht : ∀ w ∈ Ts, w.before args s = true) (hT : GoodIn Ts (wsV own index C y ws)) (hw : ws = Cond.codeWith y bytes maxL ret hh :: ws') (hrc : rm.cells = mc) (hrs : rm.slots = ms)
    (hd : y.cls = C ∧ y.cls ≠ "java/lang/invoke/MethodHandle" ∧ y.cls ≠ "java/lang/invoke/VarHandle" ∧ (parseMethodDescriptor y.desc).map (fun d => d.parameters.length) = some n) (hR : rm.frames + 1 ≤ R.frames ∧ 8 + (maxL + 11) + rm.locals ≤ R.locals) :
    vx_CVW R s args own C index y bytes maxL ret hh ws rm mc ms n := by
  obtain ⟨hC, hd⟩ := hd
  subst hC
  have ok : ∀ w ∈ wsV own index y.cls y ws, w.before args s = true := fun w h => ht w (hT w h).1
  have hG : GoodIn Ts ws := fun w h => hT w (by unfold wsV; exact List.mem_append_right _ h)
  have hc : Cond.codeWith y bytes maxL ret hh ∈ ws := by rw [hw]; exact List.mem_cons_self
  refine ⟨⟨hrc, hrs, hR.1, hR.2, pay_in ht hG, hc⟩, ht _ (hG _ hc).1, ok _ (by simp [wsV]), ⟨hd.1, hd.2.1⟩, fun sig h => ?_, ok _ (by simp [wsV]), ok _ (by simp [wsV]), ok _ (by simp [wsV])⟩
  have h2 := hd.2.2
  rw [h] at h2
  exact (Option.some.inj h2).symm
theorem vx_runVW {y : MethodName} {bytes cc : ByteArray} {maxL nL mc ms n index : Nat} {ret : Option FieldType} {hh : List (Nat × Nat × Nat × Nat)} {ws : List Cond} {rm : Room} {Pc : Array Value → State → Prop} {Qc : Array Value → State → Outcome → State → Prop} {free : Addr → Prop} {Ts : List Cond} {own C : String} {b : Addr} {As rest : List Value} {g : JFrame}
    (S : CallFix p m c cc nL s args Ts own) (hM : Met l y ws rm Pc Qc mc ms free) (cw : vx_CVW R s args own C index y bytes maxL ret hh ws rm mc ms n) (hp : PreV s H C b Pc As)
    (hg : g.method = m) (hn : As.length = n) (hsize : g.locals.size = nL) (hstack : g.stack = As.reverse ++ .ref b :: rest) (hW : 2 * g.monitorRoom + (rest.map fun v => v.category).sum ≤ 8) (hdg : decode cc g.pc = .ok (.invokevirtual index, 3)) (hf : cells + mc ≤ R.cells ∧ slots + ms ≤ R.slots) :
    va_Run p l e R s m args below meth c H locs cells slots mc ms g rest (Qc (Value.ref b :: As).toArray) free := by
  obtain ⟨⟨hrc, hrs, hfr, hlo, hws, hcw⟩, hcode, hini, hy, hlen, hl, hin, hse⟩ := cw
  have hK : Back l R p e below s args y 3 8 (PreOf R mc ms Pc) (PostOf Qc mc ms free) := va_backW (hh := hh) (bytes := bytes) (maxL := maxL) (ret := ret) hM hp.1 hrc hrs hfr hlo hws hcw (fun a' U hW => word_at hW (Or.inl (by first | rfl | simp [Cond.onTables, Cond.keeps, Cond.steady])) hini)
  obtain ⟨hx, hb, hml, ho, -⟩ := S
  obtain ⟨-, ⟨cellB, hcB, hoB, hclB⟩, hPc⟩ := hp
  intro T hT X
  obtain ⟨v, vm₁, ⟨U', l2, c2, s2⟩, hW₁, X', ⟨g', mk, t, L, e1, e2, hq, h1, hL, h2, h3⟩, st⟩ := vx_callVW X hx (C := C) (hh := hh) (bytes := bytes) (maxL := maxL) (ret := ret) ho hl hin hse hcode hy hK (by rw [hT]; exact hcB) hoB hclB hg (hsize.trans hml.symm) (argsL := As) (rest := rest) (fun sig h => hn.trans (hlen sig h)) hstack hW (by rw [hb]; exact hdg)
    (fun vm₁ hW₁ => ⟨hf.1, hf.2, hPc (T.setVm vm₁) hT hW₁⟩)
  dsimp only [Pt.U, Pt.locs, Pt.cells, Pt.slots] at X' e1 e2 h1 h2 h3 st
  subst h1; subst h2; subst h3
  exact ⟨v, (T.setVm vm₁).calling g' mk (Value.ref b :: As).toArray, t, U', L, hT, X', hL, e1, e2, hq, st⟩
section
variable {y : MethodName} {bytes cc : ByteArray} {maxL nL mc ms n index : Nat} {ret : Option FieldType} {ws : List Cond} {rm : Room} {Pc : Array Value → State → Prop} {Qc : Array Value → State → Outcome → State → Prop} {XC : String → State → State → Prop} {free : Addr → Prop} {Ts : List Cond} {own C : String} {b : Addr} {As rest : List Value} {g : JFrame}
theorem vx_runVX {hh : List (Nat × Nat × Nat × Nat)} (S : CallFix p m c cc nL s args Ts own) (hM : vx_Met l y ws rm Pc Qc XC mc ms free) (cw : vx_CVW R s args own C index y bytes maxL ret hh ws rm mc ms n) (hp : PreV s H C b Pc As)
    (hg : g.method = m) (hn : As.length = n) (hsize : g.locals.size = nL) (hstack : g.stack = As.reverse ++ .ref b :: rest) (hW : 2 * g.monitorRoom + (rest.map fun v => v.category).sum ≤ 8) (hdg : decode cc g.pc = .ok (.invokevirtual index, 3)) (hf : cells + mc ≤ R.cells ∧ slots + ms ≤ R.slots) :
    vx_Run p l e R s m args below meth c H locs cells slots mc ms g rest (Qc (Value.ref b :: As).toArray) XC free := by
  obtain ⟨⟨hrc, hrs, hfr, hlo, hws, hcw⟩, hcode, hini, hy, hlen, hl, hin, hse⟩ := cw
  have hK : vx_Back l R p e below s args y 3 8 (PreOf R mc ms Pc) (PostOf Qc mc ms free) (vx_Post XC mc ms free) := vx_backW (hh := hh) (bytes := bytes) (maxL := maxL) (ret := ret) hM hp.1 hrc hrs hfr hlo hws hcw (fun a' U hW => word_at hW (Or.inl (by first | rfl | simp [Cond.onTables, Cond.keeps, Cond.steady])) hini)
  obtain ⟨hx, hb, hml, ho, -⟩ := S
  obtain ⟨-, ⟨cellB, hcB, hoB, hclB⟩, hPc⟩ := hp
  intro T hT X
  rcases vx_callVX X hx (C := C) (hh := hh) (bytes := bytes) (maxL := maxL) (ret := ret) ho hl hin hse hcode hy hK (by rw [hT]; exact hcB) hoB hclB hg (hsize.trans hml.symm) (argsL := As) (rest := rest) (fun sig h => hn.trans (hlen sig h)) hstack hW (by rw [hb]; exact hdg)
    (fun vm₁ hW₁ => ⟨hf.1, hf.2, hPc (T.setVm vm₁) hT hW₁⟩) with ⟨v, vm₁, ⟨U', l2, c2, s2⟩, hW₁, X', ⟨g', mk, t, L, e1, e2, hq, h1, hL, h2, h3⟩, st⟩ | ⟨q, vm₁, ⟨U', l2, c2, s2⟩, hW₁, X', ⟨g', mk, t, L, E, ce, e1, e2, hq, hce, hcv, hcl, h1, hL, h2, h3⟩, st⟩
  · dsimp only [Pt.U, Pt.locs, Pt.cells, Pt.slots] at X' e1 e2 h1 h2 h3 st
    subst h1; subst h2; subst h3
    exact Or.inl ⟨v, (T.setVm vm₁).calling g' mk (Value.ref b :: As).toArray, t, U', L, hT, X', hL, e1, e2, hq, st⟩
  · dsimp only [Pt.U, Pt.locs, Pt.cells, Pt.slots] at X' e1 e2 h1 h2 h3 st hcl
    subst h1; subst h2; subst h3
    exact Or.inr ⟨q, (T.setVm vm₁).calling g' mk (Value.ref b :: As).toArray, t, U', L, E, ce, hT, X', hL, e1, e2, hq, hce, hcv, vx_cls hW₁ hcl, st⟩
theorem vx_runSX {hh : List (Nat × Nat × Nat × Nat)} (S : CallFix p m c cc nL s args Ts own) (hM : vx_Met l y ws rm Pc Qc XC mc ms free) (cw : vx_CSW R s args own index y bytes maxL ret hh ws rm mc ms n) (hp : PreS s H Pc As)
    (hg : g.method = m) (hn : As.length = n) (hsize : g.locals.size = nL) (hstack : g.stack = As.reverse ++ rest) (hW : 2 * g.monitorRoom + (rest.map fun v => v.category).sum ≤ 8) (hdg : decode cc g.pc = .ok (.invokestatic index, 3)) (hf : cells + mc ≤ R.cells ∧ slots + ms ≤ R.slots) :
    vx_Run p l e R s m args below meth c H locs cells slots mc ms g rest (Qc As.toArray) XC free := by
  obtain ⟨⟨hrc, hrs, hfr, hlo, hws, hcw⟩, hcode, hini, hy, hlen, hl, hstt⟩ := cw
  have hK : vx_Back l R p e below s args y 3 8 (PreOf R mc ms Pc) (PostOf Qc mc ms free) (vx_Post XC mc ms free) := vx_backW (hh := hh) (bytes := bytes) (maxL := maxL) (ret := ret) hM hp.1 hrc hrs hfr hlo hws hcw (fun a' U hW => word_at hW (Or.inl (by first | rfl | simp [Cond.onTables, Cond.keeps, Cond.steady])) hini)
  obtain ⟨hx, hb, hml, ho, -⟩ := S
  intro T hT X
  rcases vx_callSX X hx (hh := hh) (bytes := bytes) (maxL := maxL) (ret := ret) ho hl hstt hini hcode hy hK hg (hsize.trans hml.symm) (argsL := As) (rest := rest) (fun sig h => hn.trans (hlen sig h)) hstack hW (by rw [hb]; exact hdg)
    (fun vm₁ hW₁ => ⟨hf.1, hf.2, hp.2 (T.setVm vm₁) hT hW₁⟩) with ⟨v, vm₁, ⟨U', l2, c2, s2⟩, hW₁, X', ⟨g', mk, t, L, e1, e2, hq, h1, hL, h2, h3⟩, st⟩ | ⟨q, vm₁, ⟨U', l2, c2, s2⟩, hW₁, X', ⟨g', mk, t, L, E, ce, e1, e2, hq, hce, hcv, hcl, h1, hL, h2, h3⟩, st⟩
  · dsimp only [Pt.U, Pt.locs, Pt.cells, Pt.slots] at X' e1 e2 h1 h2 h3 st
    subst h1; subst h2; subst h3
    exact Or.inl ⟨v, (T.setVm vm₁).calling g' mk As.toArray, t, U', L, hT, X', hL, e1, e2, hq, st⟩
  · dsimp only [Pt.U, Pt.locs, Pt.cells, Pt.slots] at X' e1 e2 h1 h2 h3 st hcl
    subst h1; subst h2; subst h3
    exact Or.inr ⟨q, (T.setVm vm₁).calling g' mk As.toArray, t, U', L, E, ce, hT, X', hL, e1, e2, hq, hce, hcv, vx_cls hW₁ hcl, st⟩
end
end VXH
theorem vx_ofWH {l : Launch} {y : MethodName} {ws ws' : List Cond} {rm : Room} {Pc : Array Value → State → Prop} {Qc : Array Value → State → Outcome → State → Prop} {XC : String → State → State → Prop} {mc ms : Nat} {free : Addr → Prop} {cc : ByteArray} {maxL : Nat} {ret : Option FieldType} {hh : List (Nat × Nat × Nat × Nat)}
    (hy : plainName y.cls = true) (hw : ws = Cond.codeWith y cc maxL ret hh :: ws')
    (body : ∀ p e s m args below meth c s₁, BodyLoose p l y (headSpec ws rm) cc maxL ret e s m args below meth c s₁ → c.maxLocals = maxL → Pc args s →
      W p l e (headSpec ws rm).room s m args below meth c s.heap [] 0 0 (vx_MQ below Qc XC args s mc ms free) (entryFrame m args maxL)) : vx_Met l y ws rm Pc Qc XC mc ms free := by
  refine MetFree.of_bodyS (code := cc) (maxLocals := maxL) (ret := ret) hy ?_ ?_
  · intro args s m h hn
    obtain ⟨m9, meth, c, hn9, h1, h2, h3, h4, -, h5, h6, -⟩ := Cond.codeWith_spec (atoms_spec (ws := ws) h _ (by rw [hw]; exact List.mem_cons_self))
    cases hn.symm.trans hn9
    exact ⟨meth, c, h1, h2, h3, h4, h5, h6⟩
  · intro p e s m args below meth c s₁ B hml hP _
    have hh0 : s₁.heap = s.heap := by rw [B.state]; rfl
    obtain ⟨t, a1, o, b1, b2, b3⟩ := body p e s m args below meth c s₁ B hml hP s₁ hh0 (Stand.of_body B)
    exact ⟨t, o, a1, b1, b2, b3⟩
/-! ===== END ===== -/
end
section
/-! names, fields, records of methods: written by wip/p29/mk03.py out of what TURN printed of the program -/
def RX0 : String := "DyeVats$Days"
def TX0 : u_T := fun k => match k with
  | 0 => ("DyeVats$Days", "runner", "LDyeVats$State;", true)
  | 1 => ("DyeVats$Days", "looks", "[I", true)
  | 2 => ("DyeVats$Days", "reached", "I", false)
  | 3 => ("DyeVats$Days", "length", "I", false)
  | _ => ("DyeVats$Days", "lead", "I", false)
def tyX0 : Nat → FieldType := fun k => match k with
  | 0 => .object "DyeVats$State"
  | 1 => .array .int
  | 2 => .int
  | 3 => .int
  | _ => .int
theorem nmX0 : ∀ a, a < 5 → ∀ b, b < 5 → a ≠ b → (TX0 a).2.1 ≠ (TX0 b).2.1 := by decide +kernel
theorem tyX0_ok : ∀ k, k < 5 → parseFieldDescriptor (TX0 k).2.2.1 = some (tyX0 k) := by decide +kernel
def RX1 : String := "DyeVats$State"
def TX1 : u_T := fun k => match k with
  | _ => ("DyeVats$State", "cells", "[I", true)
def tyX1 : Nat → FieldType := fun k => match k with
  | _ => .array .int
theorem nmX1 : ∀ a, a < 1 → ∀ b, b < 1 → a ≠ b → (TX1 a).2.1 ≠ (TX1 b).2.1 := by decide +kernel
theorem tyX1_ok : ∀ k, k < 1 → parseFieldDescriptor (TX1 k).2.2.1 = some (tyX1 k) := by decide +kernel
def RX2 : String := "DyeVats$Text"
def TX2 : u_T := fun k => match k with
  | 0 => ("DyeVats$Text", "codes", "[I", true)
  | 1 => ("DyeVats$Text", "length", "I", false)
  | 2 => ("DyeVats$Text", "read", "[I", true)
  | 3 => ("DyeVats$Text", "endedValves", "I", false)
  | 4 => ("DyeVats$Text", "valve", "[I", true)
  | 5 => ("DyeVats$Text", "part", "I", false)
  | _ => ("DyeVats$Text", "number", "I", false)
def tyX2 : Nat → FieldType := fun k => match k with
  | 0 => .array .int
  | 1 => .int
  | 2 => .array .int
  | 3 => .int
  | 4 => .array .int
  | 5 => .int
  | _ => .int
theorem nmX2 : ∀ a, a < 7 → ∀ b, b < 7 → a ≠ b → (TX2 a).2.1 ≠ (TX2 b).2.1 := by decide +kernel
theorem tyX2_ok : ∀ k, k < 7 → parseFieldDescriptor (TX2 k).2.2.1 = some (tyX2 k) := by decide +kernel
def RX3 : String := "DyeVats"
def TX3 : u_T := fun k => match k with
  | 0 => ("DyeVats", "now", "LDyeVats$State;", true)
  | 1 => ("DyeVats", "trial", "LDyeVats$State;", true)
  | 2 => ("DyeVats", "days", "LDyeVats$Days;", true)
  | 3 => ("DyeVats", "text", "LDyeVats$Text;", true)
  | 4 => ("DyeVats", "emptyHours", "[I", true)
  | 5 => ("DyeVats", "slots", "[I", true)
  | 6 => ("DyeVats", "slotTaken", "[Z", true)
  | 7 => ("DyeVats", "saved", "[I", true)
  | _ => ("DyeVats", "savedCount", "I", false)
def tyX3 : Nat → FieldType := fun k => match k with
  | 0 => .object "DyeVats$State"
  | 1 => .object "DyeVats$State"
  | 2 => .object "DyeVats$Days"
  | 3 => .object "DyeVats$Text"
  | 4 => .array .int
  | 5 => .array .int
  | 6 => .array .boolean
  | 7 => .array .int
  | _ => .int
theorem nmX3 : ∀ a, a < 9 → ∀ b, b < 9 → a ≠ b → (TX3 a).2.1 ≠ (TX3 b).2.1 := by decide +kernel
theorem tyX3_ok : ∀ k, k < 9 → parseFieldDescriptor (TX3 k).2.2.1 = some (tyX3 k) := by decide +kernel
def RJ6 : String := "java/lang/Integer"
def RL : String := "DyeVatsLaw"
abbrev cJ6_bitCount_0f7a4 : ByteArray := prog_11_method_49_code
def yJ6_bitCount_0f7a4 : MethodName := ⟨RJ6, "bitCount", "(I)I"⟩
abbrev cX1_takeFrom : ByteArray := prog_3_method_2_code
def yX1_takeFrom : MethodName := ⟨RX1, "takeFrom", "(LDyeVats$State;)V"⟩
abbrev cX1_hourOfDay : ByteArray := prog_3_method_3_code
def yX1_hourOfDay : MethodName := ⟨RX1, "hourOfDay", "()I"⟩
abbrev cX1_limitIn : ByteArray := prog_3_method_4_code
def yX1_limitIn : MethodName := ⟨RX1, "limitIn", "(I)I"⟩
abbrev cX1_pipesLaid : ByteArray := prog_3_method_5_code
def yX1_pipesLaid : MethodName := ⟨RX1, "pipesLaid", "()I"⟩
abbrev cX1_waterInAll : ByteArray := prog_3_method_6_code
def yX1_waterInAll : MethodName := ⟨RX1, "waterInAll", "()I"⟩
abbrev cX1_vatProperty : ByteArray := prog_3_method_7_code
def yX1_vatProperty : MethodName := ⟨RX1, "vatProperty", "(II)I"⟩
abbrev cX1_valveProperty : ByteArray := prog_3_method_8_code
def yX1_valveProperty : MethodName := ⟨RX1, "valveProperty", "(II)I"⟩
abbrev cX1_dyeProperty : ByteArray := prog_3_method_9_code
def yX1_dyeProperty : MethodName := ⟨RX1, "dyeProperty", "(II)I"⟩
abbrev cX1_removeValve : ByteArray := prog_3_method_10_code
def yX1_removeValve : MethodName := ⟨RX1, "removeValve", "(I)V"⟩
abbrev cX1_dissolveSettled : ByteArray := prog_3_method_12_code
def yX1_dissolveSettled : MethodName := ⟨RX1, "dissolveSettled", "(I)I"⟩
abbrev cX1_runHours : ByteArray := prog_3_method_13_code
def yX1_runHours : MethodName := ⟨RX1, "runHours", "(I)V"⟩
abbrev cX1_runValves : ByteArray := prog_3_method_14_code
def yX1_runValves : MethodName := ⟨RX1, "runValves", "()V"⟩
abbrev cX1_levelPipes : ByteArray := prog_3_method_15_code
def yX1_levelPipes : MethodName := ⟨RX1, "levelPipes", "()V"⟩
abbrev cX1_settleGrains : ByteArray := prog_3_method_16_code
def yX1_settleGrains : MethodName := ⟨RX1, "settleGrains", "()V"⟩
abbrev cX1_moveWater : ByteArray := prog_3_method_17_code
def yX1_moveWater : MethodName := ⟨RX1, "moveWater", "(III)I"⟩
abbrev cX1_isOpen : ByteArray := prog_3_method_18_code
def yX1_isOpen : MethodName := ⟨RX1, "isOpen", "(II)Z"⟩
abbrev cX1_grainsInAll : ByteArray := prog_3_method_19_code
def yX1_grainsInAll : MethodName := ⟨RX1, "grainsInAll", "(I)I"⟩
abbrev cX1_strongestVat : ByteArray := prog_3_method_20_code
def yX1_strongestVat : MethodName := ⟨RX1, "strongestVat", "(I)I"⟩
abbrev cX1_isVat : ByteArray := prog_3_method_21_code
def yX1_isVat : MethodName := ⟨RX1, "isVat", "(I)Z"⟩
abbrev cX0_beginWith : ByteArray := prog_2_method_2_code
def yX0_beginWith : MethodName := ⟨RX0, "beginWith", "(LDyeVats$State;)V"⟩
abbrev cX0_findByRunners : ByteArray := prog_2_method_3_code
def yX0_findByRunners : MethodName := ⟨RX0, "findByRunners", "()V"⟩
abbrev cX0_findByLookingBack : ByteArray := prog_2_method_4_code
def yX0_findByLookingBack : MethodName := ⟨RX0, "findByLookingBack", "()V"⟩
abbrev cX0_reachDay : ByteArray := prog_2_method_5_code
def yX0_reachDay : MethodName := ⟨RX0, "reachDay", "(I)V"⟩
abbrev cX0_isSameLook : ByteArray := prog_2_method_6_code
def yX0_isSameLook : MethodName := ⟨RX0, "isSameLook", "(II)Z"⟩
abbrev cX3_fill : ByteArray := prog_1_method_2_code
def yX3_fill : MethodName := ⟨RX3, "fill", "(II)I"⟩
abbrev cX3_dye : ByteArray := prog_1_method_3_code
def yX3_dye : MethodName := ⟨RX3, "dye", "(III)I"⟩
abbrev cX3_stir : ByteArray := prog_1_method_4_code
def yX3_stir : MethodName := ⟨RX3, "stir", "(I)I"⟩
abbrev cX3_capacity : ByteArray := prog_1_method_5_code
def yX3_capacity : MethodName := ⟨RX3, "capacity", "(II)I"⟩
abbrev cX3_valve : ByteArray := prog_1_method_6_code
def yX3_valve : MethodName := ⟨RX3, "valve", "(IIIII)I"⟩
abbrev cX3_close : ByteArray := prog_1_method_7_code
def yX3_close : MethodName := ⟨RX3, "close", "(I)I"⟩
abbrev cX3_pipe : ByteArray := prog_1_method_8_code
def yX3_pipe : MethodName := ⟨RX3, "pipe", "(II)I"⟩
abbrev cX3_set : ByteArray := prog_1_method_9_code
def yX3_set : MethodName := ⟨RX3, "set", "(I)I"⟩
abbrev cX3_pass : ByteArray := prog_1_method_10_code
def yX3_pass : MethodName := ⟨RX3, "pass", "(I)I"⟩
abbrev cX3_keep : ByteArray := prog_1_method_15_code
def yX3_keep : MethodName := ⟨RX3, "keep", "(I)I"⟩
abbrev cX3_goBack : ByteArray := prog_1_method_16_code
def yX3_goBack : MethodName := ⟨RX3, "goBack", "(I)I"⟩
abbrev cX3_undo : ByteArray := prog_1_method_17_code
def yX3_undo : MethodName := ⟨RX3, "undo", "()I"⟩
abbrev cX3_vatOf : ByteArray := prog_1_method_18_code
def yX3_vatOf : MethodName := ⟨RX3, "vatOf", "(II)I"⟩
abbrev cX3_valveOf : ByteArray := prog_1_method_19_code
def yX3_valveOf : MethodName := ⟨RX3, "valveOf", "(II)I"⟩
abbrev cX3_dyeOf : ByteArray := prog_1_method_20_code
def yX3_dyeOf : MethodName := ⟨RX3, "dyeOf", "(II)I"⟩
abbrev cX3_count : ByteArray := prog_1_method_21_code
def yX3_count : MethodName := ⟨RX3, "count", "(I)I"⟩
abbrev cX3_ifPassed : ByteArray := prog_1_method_22_code
def yX3_ifPassed : MethodName := ⟨RX3, "ifPassed", "(III)I"⟩
abbrev cX3_emptyIn : ByteArray := prog_1_method_23_code
def yX3_emptyIn : MethodName := ⟨RX3, "emptyIn", "(I)I"⟩
abbrev cX3_round : ByteArray := prog_1_method_24_code
def yX3_round : MethodName := ⟨RX3, "round", "(I)I"⟩
abbrev cX3_mainValve : ByteArray := prog_1_method_25_code
def yX3_mainValve : MethodName := ⟨RX3, "mainValve", "()I"⟩
abbrev cX3_goneShare : ByteArray := prog_1_method_26_code
def yX3_goneShare : MethodName := ⟨RX3, "goneShare", "()D"⟩
abbrev cX3_numberOf : ByteArray := prog_1_method_32_code
def yX3_numberOf : MethodName := ⟨RX3, "numberOf", "(I)I"⟩
abbrev cX3_findEmptyHours : ByteArray := prog_1_method_33_code
def yX3_findEmptyHours : MethodName := ⟨RX3, "findEmptyHours", "()V"⟩
abbrev cX3_saveState : ByteArray := prog_1_method_34_code
def yX3_saveState : MethodName := ⟨RX3, "saveState", "()V"⟩
abbrev cX3_refuse : ByteArray := prog_1_method_35_code
def yX3_refuse : MethodName := ⟨RX3, "refuse", "()I"⟩
abbrev cX3_requireVat : ByteArray := prog_1_method_36_code
def yX3_requireVat : MethodName := ⟨RX3, "requireVat", "(I)V"⟩
abbrev cX3_requireDye : ByteArray := prog_1_method_37_code
def yX3_requireDye : MethodName := ⟨RX3, "requireDye", "(I)V"⟩
abbrev cX3_requireValve : ByteArray := prog_1_method_38_code
def yX3_requireValve : MethodName := ⟨RX3, "requireValve", "(I)V"⟩
abbrev cX3_requireRange : ByteArray := prog_1_method_39_code
def yX3_requireRange : MethodName := ⟨RX3, "requireRange", "(III)V"⟩
abbrev cL_cell : ByteArray := method_2_code
def yL_cell : MethodName := ⟨RL, "cell", "([II)I"⟩
abbrev cL_low : ByteArray := method_3_code
def yL_low : MethodName := ⟨RL, "low", "(II)I"⟩
abbrev cL_fill : ByteArray := method_4_code
def yL_fill : MethodName := ⟨RL, "fill", "(LDyeVats;II)I"⟩
abbrev cL_dye : ByteArray := method_5_code
def yL_dye : MethodName := ⟨RL, "dye", "(LDyeVats;III)I"⟩
abbrev cL_stir : ByteArray := method_6_code
def yL_stir : MethodName := ⟨RL, "stir", "(LDyeVats;I)I"⟩
abbrev cL_capacity : ByteArray := method_7_code
def yL_capacity : MethodName := ⟨RL, "capacity", "(LDyeVats;II)I"⟩
abbrev cL_valve : ByteArray := method_8_code
def yL_valve : MethodName := ⟨RL, "valve", "(LDyeVats;IIIII)I"⟩
abbrev cL_close : ByteArray := method_9_code
def yL_close : MethodName := ⟨RL, "close", "(LDyeVats;I)I"⟩
abbrev cL_pipe : ByteArray := method_10_code
def yL_pipe : MethodName := ⟨RL, "pipe", "(LDyeVats;II)I"⟩
abbrev cL_set : ByteArray := method_11_code
def yL_set : MethodName := ⟨RL, "set", "(LDyeVats;I)I"⟩
abbrev cL_pass : ByteArray := method_12_code
def yL_pass : MethodName := ⟨RL, "pass", "(LDyeVats;I)I"⟩
abbrev cL_goBack : ByteArray := method_13_code
def yL_goBack : MethodName := ⟨RL, "goBack", "(LDyeVats;I)I"⟩
abbrev cL_undo : ByteArray := method_14_code
def yL_undo : MethodName := ⟨RL, "undo", "(LDyeVats;)I"⟩
abbrev cL_keep : ByteArray := method_15_code
def yL_keep : MethodName := ⟨RL, "keep", "(LDyeVats;I)I"⟩
abbrev cL_tale : ByteArray := method_16_code
def yL_tale : MethodName := ⟨RL, "tale", "(LDyeVats;)J"⟩
abbrev cL_act : ByteArray := method_17_code
def yL_act : MethodName := ⟨RL, "act", "(LDyeVats;II)I"⟩
abbrev cL_addsUp : ByteArray := method_18_code
def yL_addsUp : MethodName := ⟨RL, "addsUp", "(LDyeVats;)Z"⟩
abbrev cL_isAhead : ByteArray := method_19_code
def yL_isAhead : MethodName := ⟨RL, "isAhead", "(LDyeVats;II)Z"⟩
abbrev cL_look : ByteArray := method_20_code
def yL_look : MethodName := ⟨RL, "look", "(LDyeVats;[I)V"⟩
abbrev cL_isLook : ByteArray := method_21_code
def yL_isLook : MethodName := ⟨RL, "isLook", "(LDyeVats;[I)Z"⟩
abbrev cL_days : ByteArray := method_22_code
def yL_days : MethodName := ⟨RL, "days", "(LDyeVats;I)Z"⟩
abbrev cL_isRound : ByteArray := method_23_code
def yL_isRound : MethodName := ⟨RL, "isRound", "(LDyeVats;)Z"⟩
abbrev cL_isMain : ByteArray := method_24_code
def yL_isMain : MethodName := ⟨RL, "isMain", "(LDyeVats;)Z"⟩
abbrev cL_law : ByteArray := code
def yL_law : MethodName := ⟨RL, "law", "([I)Z"⟩
abbrev am_MT : Type := MethodName × ByteArray × Nat × Option FieldType × Nat × Nat × List (Nat × Nat × Nat × Nat) × Bool × Bool × Nat × Nat × Bool
def mt_y (t : am_MT) : MethodName := t.1
def mt_b (t : am_MT) : ByteArray := t.2.1
def mt_l (t : am_MT) : Nat := t.2.2.1
def mt_r (t : am_MT) : Option FieldType := t.2.2.2.1
def mt_rf (t : am_MT) : Nat := t.2.2.2.2.1
def mt_rl (t : am_MT) : Nat := t.2.2.2.2.2.1
def mt_h (t : am_MT) : List (Nat × Nat × Nat × Nat) := t.2.2.2.2.2.2.1
/-- may make cells and go on -/
def mt_g (t : am_MT) : Bool := t.2.2.2.2.2.2.2.1
/-- it works with the array more -/
def mt_w (t : am_MT) : Bool := t.2.2.2.2.2.2.2.2.1
/-- what it costs at most -/
def mt_c (t : am_MT) : Nat := t.2.2.2.2.2.2.2.2.2.1
/-- the length of the array more at its entry -/
def mt_x (t : am_MT) : Nat := t.2.2.2.2.2.2.2.2.2.2.1
/-- it is the law -/
def mt_v (t : am_MT) : Bool := t.2.2.2.2.2.2.2.2.2.2.2
def mt_J_bitCount : am_MT := (yJ6_bitCount_0f7a4, cJ6_bitCount_0f7a4, 1, (some .int), 0, 0, [], false, false, 1, 0, false)
def mt_S_takeFrom : am_MT := (yX1_takeFrom, cX1_takeFrom, 2, none, 1, 40, [], false, false, 1, 0, false)
def mt_S_hourOfDay : am_MT := (yX1_hourOfDay, cX1_hourOfDay, 1, (some .int), 0, 0, [], false, false, 1, 0, false)
def mt_S_limitIn : am_MT := (yX1_limitIn, cX1_limitIn, 2, (some .int), 1, 20, [], false, false, 1, 0, false)
def mt_S_pipesLaid : am_MT := (yX1_pipesLaid, cX1_pipesLaid, 3, (some .int), 1, 20, [], false, false, 1, 0, false)
def mt_S_waterInAll : am_MT := (yX1_waterInAll, cX1_waterInAll, 3, (some .int), 0, 0, [], false, false, 1, 0, false)
def mt_S_vatProperty : am_MT := (yX1_vatProperty, cX1_vatProperty, 3, (some .int), 2, 41, [], false, false, 1, 0, false)
def mt_S_valveProperty : am_MT := (yX1_valveProperty, cX1_valveProperty, 4, (some .int), 1, 22, [], false, false, 1, 0, false)
def mt_S_dyeProperty : am_MT := (yX1_dyeProperty, cX1_dyeProperty, 3, (some .int), 1, 27, [], false, false, 1, 0, false)
def mt_S_removeValve : am_MT := (yX1_removeValve, cX1_removeValve, 4, none, 1, 40, [], false, false, 1, 0, false)
def mt_S_dissolveSettled : am_MT := (yX1_dissolveSettled, cX1_dissolveSettled, 7, (some .int), 2, 41, [], false, false, 1, 0, false)
def mt_S_runHours : am_MT := (yX1_runHours, cX1_runHours, 3, none, 3, 72, [], false, false, 1, 0, false)
def mt_S_runValves : am_MT := (yX1_runValves, cX1_runValves, 4, none, 2, 48, [], false, false, 1, 0, false)
def mt_S_levelPipes : am_MT := (yX1_levelPipes, cX1_levelPipes, 5, none, 2, 48, [], false, false, 1, 0, false)
def mt_S_settleGrains : am_MT := (yX1_settleGrains, cX1_settleGrains, 6, none, 2, 41, [], false, false, 1, 0, false)
def mt_S_moveWater : am_MT := (yX1_moveWater, cX1_moveWater, 8, (some .int), 1, 21, [], false, false, 1, 0, false)
def mt_S_isOpen : am_MT := (yX1_isOpen, cX1_isOpen, 3, (some .boolean), 0, 0, [], false, false, 1, 0, false)
def mt_S_grainsInAll : am_MT := (yX1_grainsInAll, cX1_grainsInAll, 5, (some .int), 0, 0, [], false, false, 1, 0, false)
def mt_S_strongestVat : am_MT := (yX1_strongestVat, cX1_strongestVat, 8, (some .int), 0, 0, [], false, false, 1, 0, false)
def mt_S_isVat : am_MT := (yX1_isVat, cX1_isVat, 1, (some .boolean), 0, 0, [], false, false, 1, 0, false)
def mt_D_beginWith : am_MT := (yX0_beginWith, cX0_beginWith, 2, none, 2, 61, [], false, false, 1, 0, false)
def mt_D_findByRunners : am_MT := (yX0_findByRunners, cX0_findByRunners, 4, none, 5, 115, [], false, false, 1, 0, false)
def mt_D_findByLookingBack : am_MT := (yX0_findByLookingBack, cX0_findByLookingBack, 3, none, 5, 115, [], false, false, 1, 0, false)
def mt_D_reachDay : am_MT := (yX0_reachDay, cX0_reachDay, 2, none, 4, 94, [], false, false, 1, 0, false)
def mt_D_isSameLook : am_MT := (yX0_isSameLook, cX0_isSameLook, 4, (some .boolean), 0, 0, [], false, false, 1, 0, false)
def mt_V_fill : am_MT := (yX3_fill, cX3_fill, 3, (some .int), 7, 112, [], false, false, 1, 0, false)
def mt_V_dye : am_MT := (yX3_dye, cX3_dye, 5, (some .int), 7, 112, [], false, false, 1, 0, false)
def mt_V_stir : am_MT := (yX3_stir, cX3_stir, 2, (some .int), 7, 110, [], false, false, 1, 0, false)
def mt_V_capacity : am_MT := (yX3_capacity, cX3_capacity, 4, (some .int), 7, 112, [], false, false, 1, 0, false)
def mt_V_valve : am_MT := (yX3_valve, cX3_valve, 8, (some .int), 7, 112, [], false, false, 1, 0, false)
def mt_V_close : am_MT := (yX3_close, cX3_close, 2, (some .int), 7, 111, [], false, false, 1, 0, false)
def mt_V_pipe : am_MT := (yX3_pipe, cX3_pipe, 3, (some .int), 7, 110, [], false, false, 1, 0, false)
def mt_V_set : am_MT := (yX3_set, cX3_set, 3, (some .int), 7, 112, [], false, false, 1, 0, false)
def mt_V_pass : am_MT := (yX3_pass, cX3_pass, 3, (some .int), 7, 112, [], false, false, 1, 0, false)
def mt_V_keep : am_MT := (yX3_keep, cX3_keep, 2, (some .int), 7, 112, [], false, false, 1, 0, false)
def mt_V_goBack : am_MT := (yX3_goBack, cX3_goBack, 2, (some .int), 7, 112, [], false, false, 1, 0, false)
def mt_V_undo : am_MT := (yX3_undo, cX3_undo, 1, (some .int), 6, 90, [], false, false, 1, 0, false)
def mt_V_vatOf : am_MT := (yX3_vatOf, cX3_vatOf, 3, (some .int), 7, 112, [], false, false, 1, 0, false)
def mt_V_valveOf : am_MT := (yX3_valveOf, cX3_valveOf, 3, (some .int), 7, 112, [], false, false, 1, 0, false)
def mt_V_dyeOf : am_MT := (yX3_dyeOf, cX3_dyeOf, 3, (some .int), 7, 112, [], false, false, 1, 0, false)
def mt_V_count : am_MT := (yX3_count, cX3_count, 2, (some .int), 7, 112, [], false, false, 1, 0, false)
def mt_V_ifPassed : am_MT := (yX3_ifPassed, cX3_ifPassed, 4, (some .int), 7, 112, [], false, false, 1, 0, false)
def mt_V_emptyIn : am_MT := (yX3_emptyIn, cX3_emptyIn, 2, (some .int), 7, 116, [], false, false, 1, 0, false)
def mt_V_round : am_MT := (yX3_round, cX3_round, 2, (some .int), 7, 138, [], false, false, 1, 0, false)
def mt_V_mainValve : am_MT := (yX3_mainValve, cX3_mainValve, 5, (some .int), 4, 94, [], false, false, 1, 0, false)
def mt_V_goneShare : am_MT := (yX3_goneShare, cX3_goneShare, 4, (some .double), 0, 0, [], false, false, 1, 0, false)
def mt_V_numberOf : am_MT := (yX3_numberOf, cX3_numberOf, 2, (some .int), 2, 42, [], false, false, 1, 0, false)
def mt_V_findEmptyHours : am_MT := (yX3_findEmptyHours, cX3_findEmptyHours, 3, none, 4, 94, [], false, false, 1, 0, false)
def mt_V_saveState : am_MT := (yX3_saveState, cX3_saveState, 1, none, 1, 40, [], false, false, 1, 0, false)
def mt_V_refuse : am_MT := (yX3_refuse, cX3_refuse, 1, (some .int), 0, 0, [], false, false, 1, 0, false)
def mt_V_requireVat : am_MT := (yX3_requireVat, cX3_requireVat, 1, none, 6, 90, [], false, false, 1, 0, false)
def mt_V_requireDye : am_MT := (yX3_requireDye, cX3_requireDye, 1, none, 6, 90, [], false, false, 1, 0, false)
def mt_V_requireValve : am_MT := (yX3_requireValve, cX3_requireValve, 2, none, 6, 90, [], false, false, 1, 0, false)
def mt_V_requireRange : am_MT := (yX3_requireRange, cX3_requireRange, 3, none, 6, 90, [], false, false, 1, 0, false)
def mt_L_cell : am_MT := (yL_cell, cL_cell, 2, (some .int), 0, 0, [], false, false, 1, 0, false)
def mt_L_low : am_MT := (yL_low, cL_low, 2, (some .int), 0, 0, [], false, false, 1, 0, false)
def mt_L_fill : am_MT := (yL_fill, cL_fill, 5, (some .int), 8, 134, [(0, 7, 10, 15), (0, 7, 15, 17)], true, false, 1, 0, false)
def mt_L_dye : am_MT := (yL_dye, cL_dye, 6, (some .int), 8, 136, [(0, 9, 12, 15), (0, 9, 17, 17), (0, 9, 22, 23)], true, false, 1, 0, false)
def mt_L_stir : am_MT := (yL_stir, cL_stir, 4, (some .int), 8, 131, [(0, 6, 9, 15)], true, false, 1, 0, false)
def mt_L_capacity : am_MT := (yL_capacity, cL_capacity, 5, (some .int), 8, 135, [(0, 7, 10, 15), (0, 7, 15, 17)], true, false, 1, 0, false)
def mt_L_valve : am_MT := (yL_valve, cL_valve, 8, (some .int), 8, 139, [(0, 13, 16, 15), (0, 13, 21, 17), (0, 13, 26, 23)], true, false, 1, 0, false)
def mt_L_close : am_MT := (yL_close, cL_close, 4, (some .int), 8, 132, [(0, 6, 9, 15)], true, false, 1, 0, false)
def mt_L_pipe : am_MT := (yL_pipe, cL_pipe, 5, (some .int), 8, 132, [(0, 7, 10, 15), (0, 7, 15, 17)], true, false, 1, 0, false)
def mt_L_set : am_MT := (yL_set, cL_set, 4, (some .int), 8, 134, [(0, 6, 9, 17)], true, false, 1, 0, false)
def mt_L_pass : am_MT := (yL_pass, cL_pass, 4, (some .int), 8, 134, [(0, 6, 9, 17), (0, 6, 13, 23)], true, false, 1, 0, false)
def mt_L_goBack : am_MT := (yL_goBack, cL_goBack, 4, (some .int), 8, 133, [(0, 6, 9, 17), (0, 6, 13, 23)], true, false, 1, 0, false)
def mt_L_undo : am_MT := (yL_undo, cL_undo, 3, (some .int), 7, 110, [(0, 5, 8, 23)], true, false, 1, 0, false)
def mt_L_keep : am_MT := (yL_keep, cL_keep, 4, (some .int), 8, 133, [(0, 6, 9, 17)], true, false, 1, 0, false)
def mt_L_tale : am_MT := (yL_tale, cL_tale, 4, (some .long), 8, 134, [], false, false, 1, 0, false)
def mt_L_act : am_MT := (yL_act, cL_act, 6, (some .int), 9, 166, [], true, false, 1, 0, false)
def mt_L_addsUp : am_MT := (yL_addsUp, cL_addsUp, 9, (some .boolean), 8, 134, [], false, false, 1, 0, false)
def mt_L_isAhead : am_MT := (yL_isAhead, cL_isAhead, 10, (some .boolean), 9, 157, [], true, true, 80, 0, false)
def mt_L_look : am_MT := (yL_look, cL_look, 3, none, 8, 134, [], false, true, 1, 35, false)
def mt_L_isLook : am_MT := (yL_isLook, cL_isLook, 4, (some .boolean), 8, 134, [], false, true, 1, 35, false)
def mt_L_days : am_MT := (yL_days, cL_days, 4, (some .boolean), 9, 157, [], true, false, 64, 0, false)
def mt_L_isRound : am_MT := (yL_isRound, cL_isRound, 7, (some .boolean), 10, 180, [], true, true, 6000, 0, false)
def mt_L_isMain : am_MT := (yL_isMain, cL_isMain, 9, (some .boolean), 9, 157, [], true, false, 40, 0, false)
def mt_L_law : am_MT := (yL_law, cL_law, 8, (some .boolean), 13, 482, [], true, true, 200000, 0, true)
def am_mts : List am_MT := [mt_J_bitCount, mt_S_takeFrom, mt_S_hourOfDay, mt_S_limitIn, mt_S_pipesLaid, mt_S_waterInAll, mt_S_vatProperty, mt_S_valveProperty, mt_S_dyeProperty, mt_S_removeValve, mt_S_dissolveSettled, mt_S_runHours, mt_S_runValves, mt_S_levelPipes, mt_S_settleGrains, mt_S_moveWater, mt_S_isOpen, mt_S_grainsInAll, mt_S_strongestVat, mt_S_isVat, mt_D_beginWith, mt_D_findByRunners, mt_D_findByLookingBack, mt_D_reachDay, mt_D_isSameLook, mt_V_fill, mt_V_dye, mt_V_stir, mt_V_capacity, mt_V_valve, mt_V_close, mt_V_pipe, mt_V_set, mt_V_pass, mt_V_keep, mt_V_goBack, mt_V_undo, mt_V_vatOf, mt_V_valveOf, mt_V_dyeOf, mt_V_count, mt_V_ifPassed, mt_V_emptyIn, mt_V_round, mt_V_mainValve, mt_V_goneShare, mt_V_numberOf, mt_V_findEmptyHours, mt_V_saveState, mt_V_refuse, mt_V_requireVat, mt_V_requireDye, mt_V_requireValve, mt_V_requireRange, mt_L_cell, mt_L_low, mt_L_fill, mt_L_dye, mt_L_stir, mt_L_capacity, mt_L_valve, mt_L_close, mt_L_pipe, mt_L_set, mt_L_pass, mt_L_goBack, mt_L_undo, mt_L_keep, mt_L_tale, mt_L_act, mt_L_addsUp, mt_L_isAhead, mt_L_look, mt_L_isLook, mt_L_days, mt_L_isRound, mt_L_isMain]
def am_nth : List am_MT → Nat → am_MT
  | [], _ => mt_J_bitCount
  | t :: _, 0 => t
  | _ :: r, k + 1 => am_nth r k
def am_mt (k : Nat) : am_MT := am_nth am_mts k
end
section
/-! THE ABSTRACT MACHINE: a method's code over a world of 17 cells whose references never change, and one more array (cell 17, its length g.2.2; none while that is 0); its memory is a number for each place of each cell.
References on the stack are the numbers of cells (27: the script, 29 + q: the address q). -/
abbrev am_M : Type := Nat → Nat → Int32
/-- the length of the array more; the script: its length and its numbers -/
abbrev am_S : Type := Nat × Nat × (Nat → Int32)
def am_rv (_ : am_S) (M : am_M) (k : Nat) : Nat → Int32 := fun o => M o k
abbrev am_O : Type := Option Value ⊕ String
abbrev am_Q : Type := am_O → am_M → Prop
/-- an instruction, its length, and three numbers that say what it links -/
abbrev am_I : Type := Instr × Nat × Nat × Nat × Nat
def am_k : Int → Int32
  | .ofNat n => nI n
  | .negSucc n => -nI (n + 1)
def am_set (M : am_M) (o : Nat) (f : Nat → Int32) : am_M := fun q => if q = o then f else M q
abbrev am_cls : List vw_C := [(RX0, TX0, 5), (RX1, TX1, 1), (RX2, TX2, 7), (RX3, TX3, 9)]
/-- a cell's class -/
def am_ci : Nat → Nat
  | 0 => 3 | 1 => 1 | 3 => 1 | 5 => 0 | 6 => 1 | 9 => 2 | _ => 9
/-- fields of a class -/
def am_nf : Nat → Nat
  | 0 => 5 | 1 => 1 | 2 => 7 | 3 => 9 | _ => 0
/-- the cell that a field refers to; 0: a number -/
def am_fr : Nat → Nat → Nat
  | 0, 0 => 6 | 0, 1 => 8
  | 2, 0 => 10 | 2, 2 => 11 | 2, 4 => 12
  | 3, 0 => 1 | 3, 1 => 3 | 3, 2 => 5 | 3, 3 => 9 | 3, 4 => 13 | 3, 5 => 14 | 3, 6 => 15 | 3, 7 => 16
  | _, _ => 0
def am_v0 (o k : Nat) (M : am_M) : Nat → Value
  | 0 => .int (M o k)
  | r + 1 => .ref (r + 1)
def am_val (ci o k : Nat) (M : am_M) : Value := match ci with
  | 1 => .ref (o + 1)
  | _ => am_v0 o k M (am_fr ci k)
/-- an array's length; L: that of the array more -/
def am_len (L : Nat) : Nat → Nat
  | 2 => 105 | 4 => 105 | 7 => 105 | 8 => 4235 | 10 => 60 | 11 => 40 | 12 => 5 | 13 => 5 | 14 => 210 | 15 => 2 | 16 => 630
  | 17 => L | _ => 0
/-- 0: an array of ints, 1: of booleans, 4: the array more, 9: an object -/
def am_kd : Nat → Nat
  | 0 => 9 | 1 => 9 | 3 => 9 | 5 => 9 | 6 => 9 | 9 => 9 | 15 => 1 | 17 => 4
  | 2 => 0 | 4 => 0 | 7 => 0 | 8 => 0 | 10 => 0 | 11 => 0 | 12 => 0 | 13 => 0 | 14 => 0 | 16 => 0 | _ => 9
def am_tv (a : Nat → Nat) : Value → Value
  | .ref o => .ref (if o < 29 then a o else o - 29)
  | v => v
def am_e (a : Nat → Nat) (g : ClassId × ClassId × Nat) (M : am_M) (o : Nat) : va_E := match am_kd o with
  | 0 => .inl (g.1, am_len 0 o, .inl (M o))
  | 1 => .inl (g.2.1, am_len 0 o, .inl (M o))
  | 4 => .inl (g.1, g.2.2, .inl (M o))
  | _ => .inr (am_ci o, (List.range (am_nf (am_ci o))).map (fun k => am_tv a (am_val (am_ci o) o k M)))
/-- how many cells the world has -/
def am_nc (x : Nat) : Nat := if x = 0 then 17 else 18
def am_w (a : Nat → Nat) (g : ClassId × ClassId × Nat) (M : am_M) : va_W := (List.range (am_nc g.2.2)).map (fun o => (a o, am_e a g M o))
def am_tys (g : ClassId × ClassId × Nat) : List (ClassId × FieldType) := [(g.1, .int), (g.2.1, .boolean)]
-- locals
def am_s1 (ls : List Value) (k : Nat) (v : Value) : List Value := match k with
  | 0 => ls.set 0 v
  | j + 1 => match ls[j]? with
    | some (.long _) => (ls.set j .null).set (j + 1) v
    | some (.double _) => (ls.set j .null).set (j + 1) v
    | _ => ls.set (j + 1) v
def am_s2 (ls : List Value) (k : Nat) (v : Value) : List Value := (am_s1 ls k v).set (k + 1) .null
def am_li (ls st : List Value) (k : Nat) : Option (List Value) := match ls[k]? with
  | some (.int x) => some (.int x :: st)
  | _ => none
def am_la (ls st : List Value) (k : Nat) : Option (List Value) := match ls[k]? with
  | some (.ref x) => some (.ref x :: st)
  | _ => none
def am_ll (ls st : List Value) (k : Nat) : Option (List Value) := match ls[k]? with
  | some (.long x) => some (.long x :: st)
  | _ => none
def am_ld (ls st : List Value) (k : Nat) : Option (List Value) := match ls[k]? with
  | some (.double x) => some (.double x :: st)
  | _ => none
def am_i2 (f : Int32 → Int32 → Int32) (st : List Value) : Option (List Value) := match st with
  | .int y :: .int x :: r => some (.int (f x y) :: r)
  | _ => none
def am_l2 (f : Int64 → Int64 → Int64) (st : List Value) : Option (List Value) := match st with
  | .long y :: .long x :: r => some (.long (f x y) :: r)
  | _ => none
/-- what only moves the stack -/
def am_pu (i : Instr) (ls st : List Value) : Option (List Value) := match i with
  | .iconst k => some (.int (am_k k) :: st)
  | .bipush k => some (.int (am_k k) :: st)
  | .sipush k => some (.int (am_k k) :: st)
  | .lconst k => some (.long (lN k) :: st)
  | .dconst k => some (.double (if k = 0 then FP.dconst0 else FP.dconst1) :: st)
  | .iload_n k => am_li ls st k
  | .iload k => am_li ls st k
  | .aload_n k => am_la ls st k
  | .aload k => am_la ls st k
  | .lload_n k => am_ll ls st k
  | .lload k => am_ll ls st k
  | .dload_n k => am_ld ls st k
  | .dload k => am_ld ls st k
  | .iadd => am_i2 (fun x y => x + y) st
  | .isub => am_i2 (fun x y => x - y) st
  | .imul => am_i2 (fun x y => x * y) st
  | .iand => am_i2 (fun x y => x &&& y) st
  | .ixor => am_i2 (fun x y => x ^^^ y) st
  | .ishl => am_i2 (fun x y => x <<< (y &&& 31)) st
  | .ishr => am_i2 (fun x y => x >>> (y &&& 31)) st
  | .iushr => am_i2 (fun x y => (x.toUInt32 >>> (y.toUInt32 &&& Int32.toUInt32 31)).toInt32) st
  | .ladd => am_l2 (fun x y => x + y) st
  | .lsub => am_l2 (fun x y => x - y) st
  | .lmul => am_l2 (fun x y => x * y) st
  | .ineg => match st with
    | .int x :: r => some (.int (-x) :: r)
    | _ => none
  | .lshl => match st with
    | .int y :: .long x :: r => some (.long (x <<< (y.toInt64 &&& 63)) :: r)
    | _ => none
  | .lcmp => match st with
    | .long y :: .long x :: r => some (.int (lg_cmp x y) :: r)
    | _ => none
  | .dcmp op => match st with
    | .double y :: .double x :: r => some (.int (Op.cmpValue (FP.dcmp x y) op) :: r)
    | _ => none
  | .i2l => match st with
    | .int x :: r => some (.long x.toInt64 :: r)
    | _ => none
  | .i2d => match st with
    | .int x :: r => some (.double (FP.i2d x) :: r)
    | _ => none
  | .d2l => match st with
    | .double x :: r => some (.long (FP.d2l x) :: r)
    | _ => none
  | .dup => match st with
    | .int x :: r => some (.int x :: .int x :: r)
    | .ref x :: r => some (.ref x :: .ref x :: r)
    | _ => none
  | .dup2 => match st with
    | .int x :: .ref y :: r => some (.int x :: .ref y :: .int x :: .ref y :: r)
    | _ => none
  | .pop => match st with
    | .int _ :: r => some r
    | _ => none
  | _ => none
/-- what writes a local -/
def am_sto (i : Instr) (ls st : List Value) : Option (List Value × List Value) := match i with
  | .istore_n k => match st with
    | .int x :: r => some (am_s1 ls k (.int x), r)
    | _ => none
  | .istore k => match st with
    | .int x :: r => some (am_s1 ls k (.int x), r)
    | _ => none
  | .astore_n k => match st with
    | .ref x :: r => some (am_s1 ls k (.ref x), r)
    | _ => none
  | .astore k => match st with
    | .ref x :: r => some (am_s1 ls k (.ref x), r)
    | _ => none
  | .lstore_n k => match st with
    | .long x :: r => some (am_s2 ls k (.long x), r)
    | _ => none
  | .lstore k => match st with
    | .long x :: r => some (am_s2 ls k (.long x), r)
    | _ => none
  | .dstore_n k => match st with
    | .double x :: r => some (am_s2 ls k (.double x), r)
    | _ => none
  | .dstore k => match st with
    | .double x :: r => some (am_s2 ls k (.double x), r)
    | _ => none
  | .iinc k d => match ls[k]? with
    | some (.int x) => some (am_s1 ls k (.int (x + am_k d)), st)
    | _ => none
  | _ => none
def am_c1 : ClassFile.Cond → Int32 → Prop
  | .eq, x => x = 0
  | .ne, x => ¬ x = 0
  | .lt, x => x < 0
  | .ge, x => 0 ≤ x
  | .gt, x => 0 < x
  | .le, x => x ≤ 0
def am_c2 : ClassFile.Cond → Int32 → Int32 → Prop
  | .eq, x, y => x = y
  | .ne, x, y => ¬ x = y
  | .lt, x, y => x < y
  | .ge, x, y => y ≤ x
  | .gt, x, y => y < x
  | .le, x, y => x ≤ y
def am_args : Nat → List Value → List Value → Option (List Value × List Value)
  | 0, acc, st => some (acc, st)
  | n + 1, acc, v :: st => am_args n (v :: acc) st
  | _ + 1, _, [] => none
def am_cat : List Value → Nat
  | [] => 0
  | v :: r => v.category + am_cat r
def am_ex : Nat → String
  | 0 => "java/lang/IndexOutOfBoundsException"
  | 1 => "java/lang/IllegalArgumentException"
  | _ => "java/lang/IllegalStateException"
/-- the law's class links of the three -/
def am_xl : Nat → String
  | 15 => "java/lang/IndexOutOfBoundsException"
  | 17 => "java/lang/IllegalArgumentException"
  | _ => "java/lang/IllegalStateException"
/-- where a table catches -/
def am_hd (E : String) : List (Nat × Nat × Nat × Nat) → Option Nat
  | [] => none
  | h :: r => if am_xl h.2.2.2 = E then some h.2.2.1 else am_hd E r
def am_sg : Nat → Int32
  | 0 => nI 62 | 1 => nI 42 | 2 => nI 64 | 3 => nI 45 | _ => nI 59
/-- the texts of the system's exceptions: their places -/
abbrev am_tx : List (Nat × String) := [(75, "too many grains of this dye"), (86, "a valve goes to another vat"), (89, "no more valves"), (97, "a pipe goes to another vat"), (99, "too many hours"), (142, "no snapshot in the slot"), (144, "nothing to undo"), (218, "no such vat"), (221, "no such dye"), (223, "no such valve"), (225, "out of range")]
-- what of the launch is asked, beside the tables' words
abbrev am_dn : List MethodName := [⟨"java/lang/RuntimeException", "<init>", "(Ljava/lang/String;)V"⟩, ⟨"java/lang/Exception", "<init>", "(Ljava/lang/String;)V"⟩, ⟨"java/lang/Throwable", "<init>", "(Ljava/lang/String;)V"⟩]
def am_SF (A : Nat → Prop) (s : State) (H : Heap) : Prop := vx_Zq Bundle.tN "UNASSIGNED_STACK" Bundle.steD A s H ∧ vx_Zq Bundle.tN "SUPPRESSED_SENTINEL" Bundle.listD A s H ∧ (∀ t ∈ am_tx, ∃ sa : Nat, vk_R RX3 t.1 t.2 sa s) ∧ (∀ i j : Nat, am_ex i ≠ am_ex j → va_Nc (am_ex i) (am_ex j) s) ∧ (∀ i : Nat, va_Nw (.castable (am_ex i) (am_ex i)) s) ∧ ∀ x ∈ am_dn, va_Nw (.declares x) s
abbrev am_good : List Jvm.Cond := lw_tbl.filter goodWord
def am_ws (t : am_MT) : List Jvm.Cond := (match mt_h t with
  | [] => Jvm.Cond.code (mt_y t) (mt_b t) (mt_l t) (mt_r t)
  | h => Jvm.Cond.codeWith (mt_y t) (mt_b t) (mt_l t) (mt_r t) h) :: am_good
def am_rm (t : am_MT) : Room := { frames := mt_rf t, cells := mt_c t, slots := 6 * mt_c t, locals := mt_rl t }
-- a method's contract
def am_Pre (a : Nat → Nat) (D : va_G) (g : ClassId × ClassId × Nat) (M : am_M) (sz : Nat) (U : State) : Prop := U.heap.size = sz ∧ va_P D am_cls (am_w a g M) U.heap ∧ va_K D am_cls (am_tys g) U ∧ va_D (fun _ => True) (am_w a g M) ∧ am_SF (va_A (am_w a g M) sz) U U.heap
def am_Qc (t : am_MT) (a : Nat → Nat) (D : va_G) (g : ClassId × ClassId × Nat) (A : Nat → Prop) (K : am_Q) : Array Value → State → Outcome → State → Prop := fun _ st oc u =>
  (∃ (v : Option Value) (M : am_M), oc = .returned (v.map (am_tv a)) ∧ K (.inl v) M ∧ va_P D am_cls (am_w a g M) u.heap) ∧ va_F A st u ∧ (mt_g t = false → ∃ L, FrameEnd st oc u L 0 0)
def am_XC (a : Nat → Nat) (D : va_G) (g : ClassId × ClassId × Nat) (A : Nat → Prop) (K : am_Q) : String → State → State → Prop := fun E st u =>
  (∃ M : am_M, K (.inr E) M ∧ va_P D am_cls (am_w a g M) u.heap) ∧ va_F A st u
/-- called with the arguments av in the memory M, the method comes to an outcome and a memory with K -/
def am_C (t : am_MT) (av : List Value) (M : am_M) (K : am_Q) : Prop := ∀ (l : Launch) (a : Nat → Nat) (D : va_G) (g : ClassId × ClassId × Nat) (sz : Nat), l.stackTraces = false → (mt_w t = true → g.2.2 = mt_x t) →
  vx_Met l (mt_y t) (am_ws t) (am_rm t) (va_Pc (av.map (am_tv a)) (am_Pre a D g M sz)) (am_Qc t a D g (va_A (am_w a g M) sz) K) (am_XC a D g (va_A (am_w a g M) sz) K) (mt_c t) (6 * mt_c t) (va_A (am_w a g M) sz)
-- inside a method
def am_Env (p : Program) (l : Launch) (R : Room) (s : State) (m : MethodId) (args : Array Value) (meth : Method) (c : Code) (t : am_MT) : Prop :=
  p.tables.exec = Jvm.exec ∧ c.code = mt_b t ∧ c.maxLocals = mt_l t ∧ s.vm.findClass (mt_y t).cls = some m.cls ∧ (∀ w ∈ am_good, w.before args s = true) ∧ meth.locks = false ∧ l.stackTraces = false ∧ c.exceptionTable.toList = tableOf (mt_h t) ∧ meth.sig.returnType = mt_r t ∧ mt_rf t ≤ R.frames ∧ mt_rl t ≤ R.locals
def am_Wl (L : am_S) (t : am_MT) (a : Nat → Nat) (D : va_G) (g : ClassId × ClassId × Nat) (A : Nat → Prop) (s : State) (M : am_M) (H : Heap) (locs : List Loc) : Prop :=
  va_P D am_cls (am_w a g M) H ∧ va_S A s.heap H locs ∧ (mt_v t = true → va_X (a 27) L.2.1 L.2.2 s s.heap)
def am_Ct (L : am_S) (t : am_MT) (a : Nat → Nat) (D : va_G) (g : ClassId × ClassId × Nat) (A : Nat → Prop) (s : State) : Prop :=
  va_K D am_cls (am_tys g) s ∧ (∀ M : am_M, va_D A (am_w a g M)) ∧ (∀ q : Nat, s.heap.size ≤ q → A q) ∧ am_SF A s s.heap ∧ (mt_v t = true → a 27 < s.heap.size ∧ ¬ A (a 27)) ∧ (mt_w t = true → g.2.2 = L.1)
def am_lv (a : Nat → Nat) (n : Nat) (ls : List Value) (la : Array Slot) : Prop := la.size = n ∧ lv_wf la ∧ ls.length = n ∧ ∀ (i : Nat) (v : Value), ls[i]? = some v → v ≠ .null → la[i]? = some (.val (am_tv a v))
/-- an instruction that returns v -/
def am_ri (t : am_MT) (v : Option Value) (i : Instr) : Prop := match v with
  | none => i = .return_ ∧ mt_r t = none
  | some (.int x) => i = .ireturn ∧ ∃ ty, mt_r t = some ty ∧ narrow ty (.int x) = .int x
  | some (.long _) => i = .lreturn ∧ mt_r t = some .long
  | some (.double _) => i = .dreturn ∧ mt_r t = some .double
  | _ => False
def am_End (p : Program) (l : Launch) (e : Env) (R : Room) (s : State) (m : MethodId) (args : Array Value) (below : List Frame) (meth : Method) (c : Code) (L : am_S) (t : am_MT) (a : Nat → Nat) (D : va_G) (g : ClassId × ClassId × Nat) (A : Nat → Prop) (cells slots n : Nat) (QQ : State → Prop) (Q : am_Q) : Prop :=
  ∀ k : Nat, k ≤ n → (mt_g t = false → k = 0) →
    (∀ (v : Option Value) (M : am_M) (H : Heap) (locs : List Loc) (pc : Nat) (la : Array Slot) (i : Instr), Q (.inl v) M → am_Wl L t a D g A s M H locs → am_ri t v i → decode (mt_b t) pc = .ok (i, 1) → la.size = mt_l t →
      W p l e R s m args below meth c H locs (cells + k) (slots + 6 * k) QQ (F0 m pc la ((v.map (am_tv a)).toList))) ∧
    (∀ (E : String) (M : am_M) (H : Heap) (locs : List Loc) (pc : Nat) (la : Array Slot) (rest : List Value) (q : Addr) (ce : Cell), Q (.inr E) M → am_Wl L t a D g A s M H locs → H[q]? = some ce → ce.vm = .none → s.vm.findClass E = some ce.cls → mt_h t = [] → k + 1 ≤ n →
      vx_W p l e R s m args below meth c H locs (cells + k + 1) (slots + 6 * k + 6) QQ (F0 m pc la rest) q) ∧
    (∀ (x : Nat) (M : am_M) (H : Heap) (locs : List Loc) (pc : Nat) (la : Array Slot) (rest : List Value) (ik ii ic : Nat), Q (.inr (am_ex x)) M → am_Wl L t a D g A s M H locs → mt_h t = [] → x < 3 → k + 1 ≤ n → la.size = mt_l t → am_cat rest ≤ 8 → (mt_y t).cls = RX3 → 6 ≤ mt_rf t → 90 ≤ mt_rl t →
      ik = (match x with | 0 => 216 | 1 => 84 | _ => 73) → ic = (match x with | 0 => 220 | 1 => 88 | _ => 77) → (∃ tx, (ii, tx) ∈ am_tx) →
      decode (mt_b t) pc = .ok (.new ik, 3) → decode (mt_b t) (pc + 3) = .ok (.dup, 1) → decode (mt_b t) (pc + 4) = .ok (.ldc ii, 2) → decode (mt_b t) (pc + 6) = .ok (.invokespecial ic, 3) → decode (mt_b t) (pc + 9) = .ok (.athrow, 1) →
      W p l e R s m args below meth c H locs (cells + k) (slots + 6 * k) QQ (F0 m pc la rest))
/-- from the place pc of the method t, with locals ls, stack st and memory M, with n exceptions still free: the method comes to an end with Q -/
def am_R (L : am_S) (t : am_MT) (n pc : Nat) (ls st : List Value) (M : am_M) (Q : am_Q) : Prop :=
  ∀ (p : Program) (l : Launch) (e : Env) (R : Room) (s : State) (m : MethodId) (args : Array Value) (below : List Frame) (meth : Method) (c : Code) (a : Nat → Nat) (D : va_G) (g : ClassId × ClassId × Nat) (A : Nat → Prop) (cells slots : Nat) (QQ : State → Prop),
    am_Env p l R s m args meth c t → am_Ct L t a D g A s → cells + n ≤ R.cells → slots + 6 * n ≤ R.slots → am_End p l e R s m args below meth c L t a D g A cells slots n QQ Q →
    ∀ (H : Heap) (locs : List Loc) (la : Array Slot), am_Wl L t a D g A s M H locs → am_lv a (mt_l t) ls la → W p l e R s m args below meth c H locs cells slots QQ (F0 m pc la (st.map (am_tv a)))
def am_rd (t : am_MT) (a : Nat) : Bool := Nat.beq (am_kd a) 0 || (Nat.beq a 17 && mt_w t)
/-- the class number of a method's own class -/
def am_cx (x : Nat) : Nat := if x < 1 then 8 else if x < 20 then 1 else if x < 25 then 0 else if x < 54 then 3 else 8
def am_sw (r : Nat → Prop) (x : Int32) (pc : Nat) : List Int → Int → Prop
  | [], _ => True
  | o :: os, k => (x.toInt = k → r ((pc : Int) + o).toNat) ∧ am_sw r x pc os (k + 1)
def am_ls (r : Nat → Prop) (x : Int32) (pc : Nat) (d : Int) : List (Int × Int) → Prop
  | [] => r ((pc : Int) + d).toNat
  | q :: os => (x.toInt = q.1 → r ((pc : Int) + q.2).toNat) ∧ (¬ x.toInt = q.1 → am_ls r x pc d os)
/-- what a straight stretch of code asks -/
def am_B (L : am_S) (t : am_MT) : List am_I → Nat → Nat → List Value → List Value → am_M → am_Q → Prop
  | [], n, pc, ls, st, M, Q => am_R L t n pc ls st M Q
  | (i, w, x, y, _) :: is, n, pc, ls, st, M, Q => match am_pu i ls st with
    | some st' => am_B L t is n (pc + w) ls st' M Q
    | none => match am_sto i ls st with
      | some q => am_B L t is n (pc + w) q.1 q.2 M Q
      | none => match i, st with
        | .ifCond cd o, .int v :: r => (am_c1 cd v → am_R L t n ((pc : Int) + o).toNat ls r M Q) ∧ (¬ am_c1 cd v → am_B L t is n (pc + w) ls r M Q)
        | .if_icmp cd o, .int v2 :: .int v1 :: r => (am_c2 cd v1 v2 → am_R L t n ((pc : Int) + o).toNat ls r M Q) ∧ (¬ am_c2 cd v1 v2 → am_B L t is n (pc + w) ls r M Q)
        | .goto o, r => am_R L t n ((pc : Int) + o).toNat ls r M Q
        | .tableswitch d lo hi os, .int v :: r => ((v.toInt < lo ∨ hi < v.toInt) → am_R L t n ((pc : Int) + d).toNat ls r M Q) ∧ am_sw (fun tg => am_R L t n tg ls r M Q) v pc os.toList lo
        | .lookupswitch d ps, .int v :: r => am_ls (fun tg => am_R L t n tg ls r M Q) v pc d ps.toList
        | .ldc _, r => match y with
          | 0 => am_B L t is n (pc + w) ls (.int (nI x) :: r) M Q
          | _ => False
        | .ldc_w _, r => am_B L t is n (pc + w) ls (.int (nI x) :: r) M Q
        | .ldc2_w _, r => match y with
          | 0 => am_B L t is n (pc + w) ls (.long (lN x) :: r) M Q
          | _ => am_B L t is n (pc + w) ls (.double (UInt64.ofNat x) :: r) M Q
        | .idiv, .int v2 :: .int v1 :: r => ¬ v2 = 0 ∧ am_B L t is n (pc + w) ls (.int (v1 / v2) :: r) M Q
        | .irem, .int v2 :: .int v1 :: r => ¬ v2 = 0 ∧ am_B L t is n (pc + w) ls (.int (v1 - v1 / v2 * v2) :: r) M Q
        | .ddiv, .double v2 :: .double v1 :: r => vf_n64 (FP.ddiv v1 v2) ∧ am_B L t is n (pc + w) ls (.double (FP.ddiv v1 v2) :: r) M Q
        | .getfield _, .ref o :: r => match Nat.beq (am_ci o) x with
          | true => am_B L t is n (pc + w) ls (am_val x o y M :: r) M Q
          | false => False
        | .putfield _, .int v :: .ref o :: r => match Nat.beq (am_ci o) x with
          | true => am_B L t is n (pc + w) ls r (am_set M o (upd (M o) y v)) Q
          | false => False
        | .iaload, .int v :: .ref o :: r => match am_rd t o with
          | true => ∃ k : Nat, v = nI k ∧ k < am_len L.1 o ∧ am_B L t is n (pc + w) ls (.int (am_rv L M k o) :: r) M Q
          | false => False
        | .baload, .int v :: .ref o :: r => match Nat.beq (am_kd o) 1 with
          | true => ∃ k : Nat, v = nI k ∧ k < am_len L.1 o ∧ am_B L t is n (pc + w) ls (.int (M o k) :: r) M Q
          | false => False
        | .iastore, .int z :: .int v :: .ref o :: r => match am_rd t o with
          | true => ∃ k : Nat, v = nI k ∧ k < am_len L.1 o ∧ am_B L t is n (pc + w) ls r (am_set M o (upd (M o) k z)) Q
          | false => False
        | .bastore, .int z :: .int v :: .ref o :: r => match Nat.beq (am_kd o) 1 with
          | true => (z = 0 ∨ z = 1) ∧ ∃ k : Nat, v = nI k ∧ k < am_len L.1 o ∧ am_B L t is n (pc + w) ls r (am_set M o (upd (M o) k z)) Q
          | false => False
        | .ireturn, [.int v] => match mt_r t with
          | some .int => Q (.inl (some (.int v))) M
          | some .boolean => (v = 0 ∨ v = 1) ∧ Q (.inl (some (.int v))) M
          | _ => False
        | .lreturn, [.long v] => match mt_r t with
          | some .long => Q (.inl (some (.long v))) M
          | _ => False
        | .dreturn, [.double v] => match mt_r t with
          | some .double => Q (.inl (some (.double v))) M
          | _ => False
        | .return_, [] => match mt_r t with
          | none => Q (.inl none) M
          | _ => False
        | .new _, [] => match n with
          | 0 => False
          | _ + 1 => Q (.inr (am_ex x)) M
        | .invokestatic _, st => match x with
          | 200 => match st with
            | .int v2 :: .int v1 :: r => match Nat.ble (am_cat r) 8 with
              | true => am_B L t is n (pc + w) ls (.int (if v2 < v1 then v2 else v1) :: r) M Q
              | false => False
            | _ => False
          | 201 => match st with
            | .int v2 :: .int v1 :: r => match Nat.ble (am_cat r) 8 with
              | true => am_B L t is n (pc + w) ls (.int (if v1 < v2 then v2 else v1) :: r) M Q
              | false => False
            | _ => False
          | 202 => match st with
            | .int nn :: .int dp :: .ref d :: .int sp :: .ref o :: r => match Nat.ble (am_cat r) 8 && (Nat.beq (am_kd o) 0 && Nat.beq (am_kd d) 0) with
              | true => ∃ sk dk nk : Nat, sp = nI sk ∧ dp = nI dk ∧ nn = nI nk ∧ sk + nk ≤ am_len L.1 o ∧ dk + nk ≤ am_len L.1 d ∧ am_B L t is n (pc + w) ls r (am_set M d (va_cpy (M o) (M d) sk dk nk)) Q
              | false => False
            | _ => False
          | _ => match am_args y [] st with
            | some (av, r) => match n, Nat.ble (am_cat r) 8 with
              | n + 1, true => am_C (am_mt x) av M (fun oc M' => match oc with
                | .inl none => am_B L t is (if mt_g (am_mt x) then n else n + 1) (pc + w) ls r M' Q
                | .inl (some v) => am_B L t is (if mt_g (am_mt x) then n else n + 1) (pc + w) ls (v :: r) M' Q
                | .inr E => match mt_h t with
                  | [] => Q (.inr E) M'
                  | h => ∃ hp, am_hd E h = some hp ∧ ∀ q : Nat, am_R L t n hp ls [.ref (29 + q)] M' Q)
              | _, _ => False
            | none => False
        | .invokevirtual _, st => match am_args y [] st with
            | some (.ref o :: av, r) => match n, Nat.ble (am_cat r) 8 && Nat.beq (am_ci o) (am_cx x) with
              | n + 1, true => am_C (am_mt x) (.ref o :: av) M (fun oc M' => match oc with
                | .inl none => am_B L t is (n + 1) (pc + w) ls r M' Q
                | .inl (some v) => am_B L t is (n + 1) (pc + w) ls (v :: r) M' Q
                | .inr E => match mt_h t with
                  | [] => Q (.inr E) M'
                  | h => ∃ hp, am_hd E h = some hp ∧ ∀ q : Nat, am_R L t n hp ls [.ref (29 + q)] M' Q)
              | _, _ => False
            | _ => False
        | _, _ => False
end
section
/-! what the abstract machine's words mean for the kit's: worlds and locals -/
theorem am_w_get (a : Nat → Nat) (g : ClassId × ClassId × Nat) (M : am_M) {o : Nat} (h : o < am_nc g.2.2) : (am_w a g M)[o]? = some (a o, am_e a g M o) := by
  simp [am_w, h]
theorem am_w_len (a : Nat → Nat) (g : ClassId × ClassId × Nat) (M : am_M) : (am_w a g M).length = am_nc g.2.2 := by simp [am_w]
theorem am_nc_lo {x o : Nat} (h : o < 17) : o < am_nc x := by unfold am_nc; split <;> omega
theorem am_nc_x {x k : Nat} (h : k < x) : 17 < am_nc x := by unfold am_nc; split <;> omega
theorem am_e_same {a : Nat → Nat} {g : ClassId × ClassId × Nat} {M M' : am_M} {o : Nat} (h : M' o = M o) : am_e a g M' o = am_e a g M o := by
  have hv : ∀ ci k, am_val ci o k M' = am_val ci o k M := by
    intro ci k
    unfold am_val
    split
    · rfl
    · unfold am_v0
      split
      · rw [h]
      · rfl
  unfold am_e
  split <;> first | rw [h] | (congr 3; funext k; rw [hv])
theorem am_w_set {a : Nat → Nat} {g : ClassId × ClassId × Nat} {M M' : am_M} {o : Nat} {x : va_E} (h : o < am_nc g.2.2) (hM : ∀ q, q ≠ o → M' q = M q) (hx : x = am_e a g M' o) : (am_w a g M).set o (a o, x) = am_w a g M' := by
  subst hx
  apply List.ext_getElem?
  intro k
  by_cases hk : k < am_nc g.2.2
  · rw [am_w_get a g M' hk]
    by_cases hko : k = o
    · subst hko
      rw [List.getElem?_set_self (by rw [am_w_len]; exact hk)]
    · rw [List.getElem?_set_ne (Ne.symm hko), am_w_get a g M hk, am_e_same (hM k hko)]
  · rw [List.getElem?_eq_none (by rw [List.length_set, am_w_len]; omega), List.getElem?_eq_none (by rw [am_w_len]; omega)]
theorem am_set_ne {M : am_M} {o q : Nat} {f : Nat → Int32} (h : q ≠ o) : am_set M o f q = M q := by simp [am_set, h]
theorem am_set_eq {M : am_M} {o : Nat} {f : Nat → Int32} : am_set M o f o = f := by simp [am_set]
theorem am_D_any {a : Nat → Nat} {g : ClassId × ClassId × Nat} {A : Nat → Prop} {M : am_M} (h : va_D A (am_w a g M)) (M' : am_M) : va_D A (am_w a g M') := by
  have key : ∀ (k : Nat) (q : Nat × va_E), (am_w a g M')[k]? = some q → ∃ e, (am_w a g M)[k]? = some (q.1, e) := by
    intro k q hk
    by_cases h27 : k < am_nc g.2.2
    · rw [am_w_get a g M' h27] at hk
      cases hk
      exact ⟨_, am_w_get a g M h27⟩
    · rw [List.getElem?_eq_none (by rw [am_w_len]; omega)] at hk
      cases hk
  refine ⟨fun i j p q hi hj hpq => ?_, fun k q hk => ?_⟩
  · obtain ⟨e1, h1⟩ := key i p hi
    obtain ⟨e2, h2⟩ := key j q hj
    exact h.1 i j _ _ h1 h2 hpq
  · obtain ⟨e1, h1⟩ := key k q hk
    exact h.2 k (q.1, e1) h1
theorem am_A_any {a : Nat → Nat} {g : ClassId × ClassId × Nat} {M M' : am_M} {sz q : Nat} : va_A (am_w a g M) sz q → va_A (am_w a g M') sz q := by
  rintro (⟨k, e, h⟩ | h)
  · have h27 : k < am_nc g.2.2 := by
      have := (List.getElem?_eq_some_iff.mp h).1
      rwa [am_w_len] at this
    rw [am_w_get a g M h27] at h
    have e1 : a k = q := by
      have := Option.some.inj h
      exact congrArg Prod.fst this
    exact Or.inl ⟨k, am_e a g M' k, by rw [am_w_get a g M' h27, e1]⟩
  · exact Or.inr h
theorem am_in_A {a : Nat → Nat} {g : ClassId × ClassId × Nat} {A : Nat → Prop} {M : am_M} (h : va_D A (am_w a g M)) {o : Nat} (ho : o < am_nc g.2.2) : A (a o) := h.2 o _ (am_w_get a g M ho)
/-- memories that agree on the world's places make one world -/
theorem am_w_congr {a : Nat → Nat} {g : ClassId × ClassId × Nat} {M M' : am_M} (h : ∀ o, o < am_nc g.2.2 → am_e a g M' o = am_e a g M o) : am_w a g M' = am_w a g M := by
  apply List.ext_getElem?
  intro k
  by_cases hk : k < am_nc g.2.2
  · rw [am_w_get a g M' hk, am_w_get a g M hk, h k hk]
  · rw [List.getElem?_eq_none (by rw [am_w_len]; omega), List.getElem?_eq_none (by rw [am_w_len]; omega)]
-- values
theorem am_tv_cat (a : Nat → Nat) (v : Value) : (am_tv a v).category = v.category := by cases v <;> rfl
theorem am_cat_map (a : Nat → Nat) : ∀ st : List Value, ((st.map (am_tv a)).map fun v => v.category).sum = am_cat st
  | [] => rfl
  | v :: r => by
    show (am_tv a v).category + ((r.map (am_tv a)).map fun v => v.category).sum = v.category + am_cat r
    rw [am_tv_cat, am_cat_map a r]
theorem am_args_spec : ∀ (n : Nat) (acc st : List Value) {av r : List Value}, am_args n acc st = some (av, r) → ∃ p, av = p.reverse ++ acc ∧ st = p ++ r ∧ p.length = n
  | 0, acc, st, av, r, h => by
    cases h
    exact ⟨[], rfl, rfl, rfl⟩
  | n + 1, acc, [], av, r, h => by cases h
  | n + 1, acc, v :: st, av, r, h => by
    obtain ⟨p, h1, h2, h3⟩ := am_args_spec n (v :: acc) st h
    exact ⟨v :: p, by rw [h1]; simp, by rw [h2]; rfl, by rw [List.length_cons, h3]⟩
-- locals
theorem am_lv_ld {a : Nat → Nat} {n : Nat} {ls : List Value} {la : Array Slot} (h : am_lv a n ls la) {k : Nat} {v : Value} (hk : ls[k]? = some v) (hv : v ≠ .null) : la[k]? = some (.val (am_tv a v)) := h.2.2.2 k v hk hv
def am_lw (a : Nat → Nat) (ls : List Value) : List (Nat × Value) := (List.range ls.length).filterMap (fun i => match ls[i]? with
  | some v => if v = .null then none else some (i, am_tv a v)
  | none => none)
theorem am_lw_mem {a : Nat → Nat} {ls : List Value} {q : Nat × Value} : q ∈ am_lw a ls ↔ ∃ v, ls[q.1]? = some v ∧ v ≠ .null ∧ q.2 = am_tv a v := by
  unfold am_lw
  rw [List.mem_filterMap]
  constructor
  · rintro ⟨i, hi, h⟩
    split at h
    · rename_i v hv
      split at h
      · cases h
      · rename_i hn
        cases h
        exact ⟨v, hv, hn, rfl⟩
    · cases h
  · rintro ⟨v, h1, h2, h3⟩
    refine ⟨q.1, List.mem_range.mpr (List.getElem?_eq_some_iff.mp h1).1, ?_⟩
    rw [h1]
    simp only [h2, if_false]
    rw [← h3]
theorem am_lv_has {a : Nat → Nat} {n : Nat} {ls : List Value} {la : Array Slot} (h : am_lv a n ls la) : lv_has la n (am_lw a ls) := by
  refine ⟨h.1, h.2.1, fun q hq => ?_⟩
  obtain ⟨v, h1, h2, h3⟩ := am_lw_mem.mp hq
  rw [h3]
  exact h.2.2.2 _ v h1 h2
theorem am_s1_len (ls : List Value) (k : Nat) (v : Value) : (am_s1 ls k v).length = ls.length := by
  unfold am_s1
  split
  · simp
  · split <;> simp
/-- what a store of one place leaves -/
theorem am_s1_get {ls : List Value} {k : Nat} {v : Value} {i : Nat} {w : Value} (hk : k < ls.length) (h : (am_s1 ls k v)[i]? = some w) (hw : w ≠ .null) : (i = k ∧ w = v) ∨ (i ≠ k ∧ ls[i]? = some w ∧ ¬ (i + 1 = k ∧ w.category = 2)) := by
  unfold am_s1 at h
  split at h
  · by_cases hi : i = 0
    · subst hi
      rw [List.getElem?_set_self hk] at h
      cases h
      exact Or.inl ⟨rfl, rfl⟩
    · rw [List.getElem?_set_ne (Ne.symm hi)] at h
      exact Or.inr ⟨hi, h, by omega⟩
  · rename_i j
    have hj : j < ls.length := by omega
    have two : ∀ h : ((ls.set j .null).set (j + 1) v)[i]? = some w, (i = j + 1 ∧ w = v) ∨ (i ≠ j + 1 ∧ ls[i]? = some w ∧ ¬ (i + 1 = j + 1 ∧ w.category = 2)) := by
      intro h
      by_cases hi : i = j + 1
      · subst hi
        rw [List.getElem?_set_self (by rw [List.length_set]; exact hk)] at h
        cases h
        exact Or.inl ⟨rfl, rfl⟩
      · rw [List.getElem?_set_ne (Ne.symm hi)] at h
        by_cases hij : i = j
        · subst hij
          rw [List.getElem?_set_self hj] at h
          cases h
          exact absurd rfl hw
        · rw [List.getElem?_set_ne (Ne.symm hij)] at h
          exact Or.inr ⟨hi, h, by omega⟩
    split at h
    · exact two h
    · exact two h
    · rename_i h1 h2
      by_cases hi : i = j + 1
      · subst hi
        rw [List.getElem?_set_self hk] at h
        cases h
        exact Or.inl ⟨rfl, rfl⟩
      · rw [List.getElem?_set_ne (Ne.symm hi)] at h
        refine Or.inr ⟨hi, h, fun q => ?_⟩
        have hij : i = j := by omega
        subst hij
        cases w with
        | long z => exact h1 z h
        | double z => exact h2 z h
        | int z => exact absurd q.2 (by simp [Value.category])
        | float z => exact absurd q.2 (by simp [Value.category])
        | null => exact absurd q.2 (by simp [Value.category])
        | ref z => exact absurd q.2 (by simp [Value.category])
        | retAddr z => exact absurd q.2 (by simp [Value.category])
theorem am_lv_s1 {a : Nat → Nat} {n k : Nat} {ls : List Value} {la la' : Array Slot} {v : Value} (h : am_lv a n ls la) (hk : k < n) (h' : lv_has la' n ((k, am_tv a v) :: (am_lw a ls).filter (fun q => !(q.1 == k) && !(q.1 + 1 == k && q.2.category == 2)))) : am_lv a n (am_s1 ls k v) la' := by
  refine ⟨h'.1, h'.2.1, by rw [am_s1_len]; exact h.2.2.1, fun i w hi hw => ?_⟩
  rcases am_s1_get (by rw [h.2.2.1]; exact hk) hi hw with ⟨rfl, rfl⟩ | ⟨h1, h2, h3⟩
  · exact h'.2.2 _ List.mem_cons_self
  · refine h'.2.2 (i, am_tv a w) (List.mem_cons_of_mem _ (List.mem_filter.mpr ⟨am_lw_mem.mpr ⟨w, h2, hw, rfl⟩, ?_⟩))
    simp only [am_tv_cat, Bool.and_eq_true, Bool.not_eq_true', beq_eq_false_iff_ne, ne_eq, Bool.and_eq_false_iff]
    refine ⟨h1, ?_⟩
    by_cases e : i + 1 = k
    · exact Or.inr (fun q => h3 ⟨e, q⟩)
    · exact Or.inl e
theorem am_lv_s2 {a : Nat → Nat} {n k : Nat} {ls : List Value} {la la' : Array Slot} {v : Value} (h : am_lv a n ls la) (hk : k + 1 < n) (h' : lv_has la' n ((k, am_tv a v) :: (am_lw a ls).filter (fun q => !(q.1 == k) && (!(q.1 == k + 1) && !(q.1 + 1 == k && q.2.category == 2))))) : am_lv a n (am_s2 ls k v) la' := by
  refine ⟨h'.1, h'.2.1, by unfold am_s2; rw [List.length_set, am_s1_len]; exact h.2.2.1, fun i w hi hw => ?_⟩
  unfold am_s2 at hi
  by_cases e1 : i = k + 1
  · subst e1
    rw [List.getElem?_set_self (by rw [am_s1_len, h.2.2.1]; exact hk)] at hi
    cases hi
    exact absurd rfl hw
  · rw [List.getElem?_set_ne (Ne.symm e1)] at hi
    rcases am_s1_get (by rw [h.2.2.1]; omega) hi hw with ⟨rfl, rfl⟩ | ⟨h1, h2, h3⟩
    · exact h'.2.2 _ List.mem_cons_self
    · refine h'.2.2 (i, am_tv a w) (List.mem_cons_of_mem _ (List.mem_filter.mpr ⟨am_lw_mem.mpr ⟨w, h2, hw, rfl⟩, ?_⟩))
      simp only [am_tv_cat, Bool.and_eq_true, Bool.not_eq_true', beq_eq_false_iff_ne, ne_eq, Bool.and_eq_false_iff]
      refine ⟨h1, e1, ?_⟩
      by_cases e : i + 1 = k
      · exact Or.inr (fun q => h3 ⟨e, q⟩)
      · exact Or.inl e
/-- fewer locals known -/
def am_le : List Value → List Value → Prop
  | [], [] => True
  | x :: xs, y :: ys => (x = .null ∨ x = y) ∧ am_le xs ys
  | _, _ => False
theorem am_le_get : ∀ (xs ys : List Value), am_le xs ys → xs.length = ys.length ∧ ∀ (i : Nat) (v : Value), xs[i]? = some v → v ≠ .null → ys[i]? = some v
  | [], [], _ => ⟨rfl, fun i v h => by simp at h⟩
  | x :: xs, y :: ys, h => by
    obtain ⟨h1, h2⟩ := am_le_get xs ys h.2
    refine ⟨by simp [h1], fun i v hi hv => ?_⟩
    cases i with
    | zero =>
      rw [List.getElem?_cons_zero] at hi ⊢
      cases hi
      rcases h.1 with e | e
      · exact absurd e hv
      · rw [e]
    | succ i =>
      rw [List.getElem?_cons_succ] at hi ⊢
      exact h2 i v hi hv
  | [], _ :: _, h => h.elim
  | _ :: _, [], h => h.elim
theorem am_lv_le {a : Nat → Nat} {n : Nat} {xs ys : List Value} {la : Array Slot} (h : am_lv a n ys la) (hle : am_le xs ys) : am_lv a n xs la := by
  obtain ⟨h1, h2⟩ := am_le_get xs ys hle
  exact ⟨h.1, h.2.1, h1.trans h.2.2.1, fun i v hi hv => h.2.2.2 i v (h2 i v hi hv) hv⟩
end
section
/-! the abstract machine's steps are the machine's: stack, locals, branches -/
theorem am_li_spec {ls st st' : List Value} {k : Nat} (h : am_li ls st k = some st') : ∃ x, ls[k]? = some (.int x) ∧ st' = .int x :: st := by
  unfold am_li at h
  split at h
  · cases h; exact ⟨_, by assumption, rfl⟩
  · cases h
theorem am_la_spec {ls st st' : List Value} {k : Nat} (h : am_la ls st k = some st') : ∃ x, ls[k]? = some (.ref x) ∧ st' = .ref x :: st := by
  unfold am_la at h
  split at h
  · cases h; exact ⟨_, by assumption, rfl⟩
  · cases h
theorem am_ll_spec {ls st st' : List Value} {k : Nat} (h : am_ll ls st k = some st') : ∃ x, ls[k]? = some (.long x) ∧ st' = .long x :: st := by
  unfold am_ll at h
  split at h
  · cases h; exact ⟨_, by assumption, rfl⟩
  · cases h
theorem am_ld_spec {ls st st' : List Value} {k : Nat} (h : am_ld ls st k = some st') : ∃ x, ls[k]? = some (.double x) ∧ st' = .double x :: st := by
  unfold am_ld at h
  split at h
  · cases h; exact ⟨_, by assumption, rfl⟩
  · cases h
theorem am_i2_spec {f : Int32 → Int32 → Int32} {st st' : List Value} (h : am_i2 f st = some st') : ∃ x y r, st = .int y :: .int x :: r ∧ st' = .int (f x y) :: r := by
  unfold am_i2 at h
  split at h
  · cases h; exact ⟨_, _, _, rfl, rfl⟩
  · cases h
theorem am_l2_spec {f : Int64 → Int64 → Int64} {st st' : List Value} (h : am_l2 f st = some st') : ∃ x y r, st = .long y :: .long x :: r ∧ st' = .long (f x y) :: r := by
  unfold am_l2 at h
  split at h
  · cases h; exact ⟨_, _, _, rfl, rfl⟩
  · cases h
/-- what a program checks of an instruction that moves the stack alone -/
def am_ckp (i : Instr) (w : Nat) : Bool := match i with
  | .iconst k => decide (Int32.ofInt k = am_k k) && decide (w = 1)
  | .bipush k => decide ((Int8.ofInt k).toInt32 = am_k k) && decide (w = 2)
  | .sipush k => decide ((Int16.ofInt k).toInt32 = am_k k) && decide (w = 3)
  | .iload _ => decide (w = 2)
  | .aload _ => decide (w = 2)
  | .lload _ => decide (w = 2)
  | .dload _ => decide (w = 2)
  | _ => decide (w = 1)
def am_cks (nL : Nat) (i : Instr) (w : Nat) : Bool := match i with
  | .istore_n k => decide ((k : Nat) < nL) && decide (w = 1)
  | .astore_n k => decide ((k : Nat) < nL) && decide (w = 1)
  | .lstore_n k => decide ((k : Nat) + 1 < nL) && decide (w = 1)
  | .dstore_n k => decide ((k : Nat) + 1 < nL) && decide (w = 1)
  | .istore k => decide (k < nL) && decide (w = 2)
  | .astore k => decide (k < nL) && decide (w = 2)
  | .lstore k => decide (k + 1 < nL) && decide (w = 2)
  | .dstore k => decide (k + 1 < nL) && decide (w = 2)
  | .iinc k d => decide (Int32.ofInt d = am_k d) && (decide (k < nL) && decide (w = 3))
  | _ => false
section AMS
variable {p : Program} {l : Launch} {e : Env} {R : Room} {s : State} {m : MethodId} {args : Array Value} {below : List Frame} {meth : Method} {c : Code} {H : Heap} {locs : List Loc} {cells slots : Nat} {QQ : State → Prop} {cc : ByteArray} {pc : Nat} {la : Array Slot} {a : Nat → Nat} {nL : Nat} {ls : List Value}
set_option maxHeartbeats 2000000 in
theorem am_pu_W (hx : p.tables.exec = Jvm.exec) (hb : c.code = cc) (hl : am_lv a nL ls la) {i : Instr} {w : Nat} {st st' : List Value} (h : am_pu i ls st = some st') (hd : decode cc pc = .ok (i, w)) (hck : am_ckp i w = true)
    (k : W p l e R s m args below meth c H locs cells slots QQ (F0 m (pc + w) la (st'.map (am_tv a)))) : W p l e R s m args below meth c H locs cells slots QQ (F0 m pc la (st.map (am_tv a))) := by
  cases i
  case iconst z =>
    obtain ⟨h1, rfl⟩ : Int32.ofInt z = am_k z ∧ w = 1 := by simpa [am_ckp] using hck
    cases h
    exact lv_iconst hx hb hd h1 k
  case bipush z =>
    obtain ⟨h1, rfl⟩ : (Int8.ofInt z).toInt32 = am_k z ∧ w = 2 := by simpa [am_ckp] using hck
    cases h
    exact lv_bipush hx hb hd h1 k
  case sipush z =>
    obtain ⟨h1, rfl⟩ : (Int16.ofInt z).toInt32 = am_k z ∧ w = 3 := by simpa [am_ckp] using hck
    cases h
    exact lv_sipush hx hb hd h1 k
  case lconst z =>
    obtain rfl : w = 1 := by simpa [am_ckp] using hck
    cases h
    exact lv_lconst hx hb hd rfl k
  case dconst z =>
    obtain rfl : w = 1 := by simpa [am_ckp] using hck
    cases h
    match z, hd, k with
    | 0, hd, k => exact lv_dconst0 hx hb hd k
    | 1, hd, k => exact lv_dconst1 hx hb hd k
  case iload_n z =>
    obtain rfl : w = 1 := by simpa [am_ckp] using hck
    obtain ⟨x, h1, rfl⟩ := am_li_spec h
    exact lv_iload_n hx hb hd rfl (am_lv_ld hl h1 (fun q => by cases q)) k
  case iload z =>
    obtain rfl : w = 2 := by simpa [am_ckp] using hck
    obtain ⟨x, h1, rfl⟩ := am_li_spec h
    exact lv_iload hx hb hd (am_lv_ld hl h1 (fun q => by cases q)) k
  case aload_n z =>
    obtain rfl : w = 1 := by simpa [am_ckp] using hck
    obtain ⟨x, h1, rfl⟩ := am_la_spec h
    exact lv_aload_n hx hb hd rfl (am_lv_ld hl h1 (fun q => by cases q)) k
  case aload z =>
    obtain rfl : w = 2 := by simpa [am_ckp] using hck
    obtain ⟨x, h1, rfl⟩ := am_la_spec h
    exact lv_aload hx hb hd (am_lv_ld hl h1 (fun q => by cases q)) k
  case lload_n z =>
    obtain rfl : w = 1 := by simpa [am_ckp] using hck
    obtain ⟨x, h1, rfl⟩ := am_ll_spec h
    exact lv_lload_n hx hb hd rfl (am_lv_ld hl h1 (fun q => by cases q)) k
  case lload z =>
    obtain rfl : w = 2 := by simpa [am_ckp] using hck
    obtain ⟨x, h1, rfl⟩ := am_ll_spec h
    exact lv_lload hx hb hd (am_lv_ld hl h1 (fun q => by cases q)) k
  case dload_n z =>
    obtain rfl : w = 1 := by simpa [am_ckp] using hck
    obtain ⟨x, h1, rfl⟩ := am_ld_spec h
    exact lv_dload_n hx hb hd rfl (am_lv_ld hl h1 (fun q => by cases q)) k
  case dload z =>
    obtain rfl : w = 2 := by simpa [am_ckp] using hck
    obtain ⟨x, h1, rfl⟩ := am_ld_spec h
    exact lv_dload hx hb hd (am_lv_ld hl h1 (fun q => by cases q)) k
  case iadd =>
    obtain rfl : w = 1 := by simpa [am_ckp] using hck
    obtain ⟨x, y, r, rfl, rfl⟩ := am_i2_spec h
    exact lv_iadd hx hb hd k
  case isub =>
    obtain rfl : w = 1 := by simpa [am_ckp] using hck
    obtain ⟨x, y, r, rfl, rfl⟩ := am_i2_spec h
    exact lv_isub hx hb hd k
  case imul =>
    obtain rfl : w = 1 := by simpa [am_ckp] using hck
    obtain ⟨x, y, r, rfl, rfl⟩ := am_i2_spec h
    exact lv_imul hx hb hd k
  case iand =>
    obtain rfl : w = 1 := by simpa [am_ckp] using hck
    obtain ⟨x, y, r, rfl, rfl⟩ := am_i2_spec h
    exact lv_iand hx hb hd k
  case ixor =>
    obtain rfl : w = 1 := by simpa [am_ckp] using hck
    obtain ⟨x, y, r, rfl, rfl⟩ := am_i2_spec h
    exact lv_ixor hx hb hd k
  case ishl =>
    obtain rfl : w = 1 := by simpa [am_ckp] using hck
    obtain ⟨x, y, r, rfl, rfl⟩ := am_i2_spec h
    exact lv_ishl hx hb hd k
  case ishr =>
    obtain rfl : w = 1 := by simpa [am_ckp] using hck
    obtain ⟨x, y, r, rfl, rfl⟩ := am_i2_spec h
    exact lv_ishr hx hb hd k
  case iushr =>
    obtain rfl : w = 1 := by simpa [am_ckp] using hck
    obtain ⟨x, y, r, rfl, rfl⟩ := am_i2_spec h
    exact lv_iushr hx hb hd rfl k
  case ladd =>
    obtain rfl : w = 1 := by simpa [am_ckp] using hck
    obtain ⟨x, y, r, rfl, rfl⟩ := am_l2_spec h
    exact lv_ladd hx hb hd k
  case lsub =>
    obtain rfl : w = 1 := by simpa [am_ckp] using hck
    obtain ⟨x, y, r, rfl, rfl⟩ := am_l2_spec h
    exact lv_lsub hx hb hd k
  case lmul =>
    obtain rfl : w = 1 := by simpa [am_ckp] using hck
    obtain ⟨x, y, r, rfl, rfl⟩ := am_l2_spec h
    exact lv_lmul hx hb hd k
  case ineg =>
    obtain rfl : w = 1 := by simpa [am_ckp] using hck
    simp only [am_pu] at h
    split at h
    · cases h
      exact lv_ineg hx hb hd k
    · cases h
  case lshl =>
    obtain rfl : w = 1 := by simpa [am_ckp] using hck
    simp only [am_pu] at h
    split at h
    · cases h
      exact lv_lshl hx hb hd rfl k
    · cases h
  case lcmp =>
    obtain rfl : w = 1 := by simpa [am_ckp] using hck
    simp only [am_pu] at h
    split at h
    · cases h
      exact W.lcmp hx hb hd k
    · cases h
  case dcmp op =>
    obtain rfl : w = 1 := by simpa [am_ckp] using hck
    simp only [am_pu] at h
    split at h
    · cases h
      exact lv_dcmp hx hb hd k
    · cases h
  case i2l =>
    obtain rfl : w = 1 := by simpa [am_ckp] using hck
    simp only [am_pu] at h
    split at h
    · cases h
      exact lv_i2l hx hb hd rfl k
    · cases h
  case i2d =>
    obtain rfl : w = 1 := by simpa [am_ckp] using hck
    simp only [am_pu] at h
    split at h
    · cases h
      exact lv_i2d hx hb hd k
    · cases h
  case d2l =>
    obtain rfl : w = 1 := by simpa [am_ckp] using hck
    simp only [am_pu] at h
    split at h
    · cases h
      exact lv_d2l hx hb hd k
    · cases h
  case dup =>
    obtain rfl : w = 1 := by simpa [am_ckp] using hck
    simp only [am_pu] at h
    split at h
    · cases h
      exact lv_dup hx hb hd rfl k
    · cases h
      exact lv_dup hx hb hd rfl k
    · cases h
  case dup2 =>
    obtain rfl : w = 1 := by simpa [am_ckp] using hck
    simp only [am_pu] at h
    split at h
    · cases h
      exact lv_dup2_11 hx hb hd rfl rfl k
    · cases h
  case pop =>
    obtain rfl : w = 1 := by simpa [am_ckp] using hck
    simp only [am_pu] at h
    split at h
    · cases h
      exact lv_pop hx hb hd rfl k
    · cases h
  all_goals exact absurd h (by simp [am_pu])
set_option maxHeartbeats 2000000 in
theorem am_sto_W (hx : p.tables.exec = Jvm.exec) (hb : c.code = cc) (hl : am_lv a nL ls la) {i : Instr} {w : Nat} {st : List Value} {q : List Value × List Value} (h : am_sto i ls st = some q) (hd : decode cc pc = .ok (i, w)) (hck : am_cks nL i w = true)
    (k : ∀ la' : Array Slot, am_lv a nL q.1 la' → W p l e R s m args below meth c H locs cells slots QQ (F0 m (pc + w) la' (q.2.map (am_tv a)))) : W p l e R s m args below meth c H locs cells slots QQ (F0 m pc la (st.map (am_tv a))) := by
  cases i
  case istore_n z =>
    obtain ⟨hn, rfl⟩ : (z : Nat) < nL ∧ w = 1 := by simpa [am_cks] using hck
    simp only [am_sto] at h
    split at h
    · cases h
      exact lv_istore_n hx hb hd rfl (am_lv_has hl) hn rfl (fun la' h' => k la' (am_lv_s1 hl hn h'))
    · cases h
  case astore_n z =>
    obtain ⟨hn, rfl⟩ : (z : Nat) < nL ∧ w = 1 := by simpa [am_cks] using hck
    simp only [am_sto] at h
    split at h
    · cases h
      exact lv_astore_n hx hb hd rfl (am_lv_has hl) hn rfl (fun la' h' => k la' (am_lv_s1 hl hn h'))
    · cases h
  case lstore_n z =>
    obtain ⟨hn, rfl⟩ : (z : Nat) + 1 < nL ∧ w = 1 := by simpa [am_cks] using hck
    simp only [am_sto] at h
    split at h
    · cases h
      exact lv_lstore_n hx hb hd rfl (am_lv_has hl) hn rfl (fun la' h' => k la' (am_lv_s2 hl hn h'))
    · cases h
  case dstore_n z =>
    obtain ⟨hn, rfl⟩ : (z : Nat) + 1 < nL ∧ w = 1 := by simpa [am_cks] using hck
    simp only [am_sto] at h
    split at h
    · cases h
      exact lv_dstore_n hx hb hd rfl (am_lv_has hl) hn rfl (fun la' h' => k la' (am_lv_s2 hl hn h'))
    · cases h
  case istore z =>
    obtain ⟨hn, rfl⟩ : z < nL ∧ w = 2 := by simpa [am_cks] using hck
    simp only [am_sto] at h
    split at h
    · cases h
      exact lv_istore hx hb hd (am_lv_has hl) hn rfl (fun la' h' => k la' (am_lv_s1 hl hn h'))
    · cases h
  case astore z =>
    obtain ⟨hn, rfl⟩ : z < nL ∧ w = 2 := by simpa [am_cks] using hck
    simp only [am_sto] at h
    split at h
    · cases h
      exact lv_astore hx hb hd (am_lv_has hl) hn rfl (fun la' h' => k la' (am_lv_s1 hl hn h'))
    · cases h
  case lstore z =>
    obtain ⟨hn, rfl⟩ : z + 1 < nL ∧ w = 2 := by simpa [am_cks] using hck
    simp only [am_sto] at h
    split at h
    · cases h
      exact lv_lstore hx hb hd (am_lv_has hl) hn rfl (fun la' h' => k la' (am_lv_s2 hl hn h'))
    · cases h
  case dstore z =>
    obtain ⟨hn, rfl⟩ : z + 1 < nL ∧ w = 2 := by simpa [am_cks] using hck
    simp only [am_sto] at h
    split at h
    · cases h
      exact lv_dstore hx hb hd (am_lv_has hl) hn rfl (fun la' h' => k la' (am_lv_s2 hl hn h'))
    · cases h
  case iinc z d =>
    obtain ⟨hk, hn, rfl⟩ : Int32.ofInt d = am_k d ∧ z < nL ∧ w = 3 := by simpa [am_cks] using hck
    simp only [am_sto] at h
    split at h
    · rename_i x hx'
      cases h
      obtain ⟨j, hj⟩ := List.getElem?_of_mem (am_lw_mem.mpr ⟨.int x, hx', (fun q => by cases q), rfl⟩ : (z, Value.int x) ∈ am_lw a ls)
      exact lv_iinc hx hb hd (am_lv_has hl) hj (by rw [hk]) hn rfl (fun la' h' => k la' (am_lv_s1 hl hn h'))
    · cases h
  all_goals exact absurd h (by simp [am_sto])
theorem am_if1_W (hx : p.tables.exec = Jvm.exec) (hb : c.code = cc) {cd : ClassFile.Cond} {o : Int} {st : List Value} {v : Int32} (hd : decode cc pc = .ok (.ifCond cd o, 3)) (ho : 0 ≤ (pc : Int) + o)
    (kt : am_c1 cd v → W p l e R s m args below meth c H locs cells slots QQ (F0 m ((pc : Int) + o).toNat la st)) (kf : ¬ am_c1 cd v → W p l e R s m args below meth c H locs cells slots QQ (F0 m (pc + 3) la st)) : W p l e R s m args below meth c H locs cells slots QQ (F0 m pc la (.int v :: st)) := by
  have ht : (pc : Int) + o = ((((pc : Int) + o).toNat : Nat) : Int) := by omega
  cases cd
  · exact lv_if_eq hx hb hd ht kt kf
  · exact lv_if_ne hx hb hd ht kt (fun q => kf (fun z => z q))
  · exact lv_if_lt hx hb hd ht kt kf
  · exact lv_if_ge hx hb hd ht kt kf
  · exact lv_if_gt hx hb hd ht kt kf
  · exact lv_if_le hx hb hd ht kt kf
theorem am_if2_W (hx : p.tables.exec = Jvm.exec) (hb : c.code = cc) {cd : ClassFile.Cond} {o : Int} {st : List Value} {v1 v2 : Int32} (hd : decode cc pc = .ok (.if_icmp cd o, 3)) (ho : 0 ≤ (pc : Int) + o)
    (kt : am_c2 cd v1 v2 → W p l e R s m args below meth c H locs cells slots QQ (F0 m ((pc : Int) + o).toNat la st)) (kf : ¬ am_c2 cd v1 v2 → W p l e R s m args below meth c H locs cells slots QQ (F0 m (pc + 3) la st)) : W p l e R s m args below meth c H locs cells slots QQ (F0 m pc la (.int v2 :: .int v1 :: st)) := by
  have ht : (pc : Int) + o = ((((pc : Int) + o).toNat : Nat) : Int) := by omega
  cases cd
  · exact lv_icmp_eq hx hb hd ht kt kf
  · exact lv_icmp_ne hx hb hd ht kt (fun q => kf (fun z => z q))
  · exact lv_icmp_lt hx hb hd ht kt kf
  · exact lv_icmp_ge hx hb hd ht kt kf
  · exact lv_icmp_gt hx hb hd ht kt kf
  · exact lv_icmp_le hx hb hd ht kt kf
theorem am_sw_get {r : Nat → Prop} {x : Int32} {pc : Nat} : ∀ (os : List Int) (k : Int), am_sw r x pc os k → ∀ (j : Nat) (o : Int), os[j]? = some o → x.toInt = k + j → r ((pc : Int) + o).toNat
  | [], k, _, j, o, h, _ => by simp at h
  | o1 :: os, k, h, j, o, hj, hx => by
    cases j with
    | zero =>
      rw [List.getElem?_cons_zero] at hj
      cases hj
      exact h.1 (by omega)
    | succ j =>
      rw [List.getElem?_cons_succ] at hj
      exact am_sw_get os (k + 1) h.2 j o hj (by omega)
theorem am_tsw_W (hx : p.tables.exec = Jvm.exec) (hb : c.code = cc) {d lo hi : Int} {os : Array Int} {w : Nat} {st : List Value} {v : Int32} (hd : decode cc pc = .ok (.tableswitch d lo hi os, w)) (ho : 0 ≤ (pc : Int) + d) (hos : ∀ o ∈ os.toList, 0 ≤ (pc : Int) + o) (hsz : hi < lo + os.size)
    (kd : (v.toInt < lo ∨ hi < v.toInt) → W p l e R s m args below meth c H locs cells slots QQ (F0 m ((pc : Int) + d).toNat la st)) (ks : am_sw (fun tg => W p l e R s m args below meth c H locs cells slots QQ (F0 m tg la st)) v pc os.toList lo) : W p l e R s m args below meth c H locs cells slots QQ (F0 m pc la (.int v :: st)) := by
  by_cases h : v.toInt < lo ∨ hi < v.toInt
  · exact lv_tableOut hx hb hd h (show (pc : Int) + d = ((((pc : Int) + d).toNat : Nat) : Int) by omega) (kd h)
  · have h1 : ¬ v.toInt < lo := fun q => h (Or.inl q)
    have h2 : ¬ hi < v.toInt := fun q => h (Or.inr q)
    have hlt : (v.toInt - lo).toNat < os.size := by omega
    have hget : os[(v.toInt - lo).toNat]? = some os[(v.toInt - lo).toNat] := Array.getElem?_eq_getElem hlt
    have hgl : os.toList[(v.toInt - lo).toNat]? = some os[(v.toInt - lo).toNat] := by rw [Array.getElem?_toList]; exact hget
    have hm := hos _ (List.mem_of_getElem? hgl)
    exact lv_tableIn hx hb hd h1 h2 hget (show (pc : Int) + _ = ((((pc : Int) + _).toNat : Nat) : Int) by omega) (am_sw_get _ _ ks _ _ hgl (by omega))
theorem am_ls_get {r : Nat → Prop} {x : Int32} {pc : Nat} {d : Int} : ∀ (ps : List (Int × Int)), am_ls r x pc d ps → r ((pc : Int) + Op.lookupswitch.offset ps d x.toInt).toNat
  | [], h => h
  | q :: os, h => by
    by_cases e : x.toInt = q.1
    · have h1 : Op.lookupswitch.offset (q :: os) d x.toInt = q.2 := by simp [Op.lookupswitch.offset, e]
      rw [h1]
      exact h.1 e
    · have h1 : Op.lookupswitch.offset (q :: os) d x.toInt = Op.lookupswitch.offset os d x.toInt := by simp [Op.lookupswitch.offset, show ¬ q.1 = x.toInt from fun z => e z.symm]
      rw [h1]
      exact am_ls_get os (h.2 e)
theorem am_lso {x d : Int} {P : Int → Prop} : ∀ (ps : List (Int × Int)), P d → (∀ q ∈ ps, P q.2) → P (Op.lookupswitch.offset ps d x)
  | [], h, _ => h
  | q :: os, h, hq => by
    by_cases e : x = q.1
    · have h1 : Op.lookupswitch.offset (q :: os) d x = q.2 := by simp [Op.lookupswitch.offset, e]
      rw [h1]
      exact hq q List.mem_cons_self
    · have h1 : Op.lookupswitch.offset (q :: os) d x = Op.lookupswitch.offset os d x := by simp [Op.lookupswitch.offset, show ¬ q.1 = x from fun z => e z.symm]
      rw [h1]
      exact am_lso os h (fun q' h' => hq q' (List.mem_cons_of_mem _ h'))
theorem am_lsw_W (hx : p.tables.exec = Jvm.exec) (hb : c.code = cc) {d : Int} {ps : Array (Int × Int)} {w : Nat} {st : List Value} {v : Int32} (hd : decode cc pc = .ok (.lookupswitch d ps, w)) (ho : 0 ≤ (pc : Int) + d) (hos : ∀ q ∈ ps.toList, 0 ≤ (pc : Int) + q.2) (hp : (ps.toList.zip (ps.toList.drop 1)).all (fun (a, next) => a.1 < next.1) = true)
    (ks : am_ls (fun tg => W p l e R s m args below meth c H locs cells slots QQ (F0 m tg la st)) v pc d ps.toList) : W p l e R s m args below meth c H locs cells slots QQ (F0 m pc la (.int v :: st)) := by
  have h0 : 0 ≤ (pc : Int) + Op.lookupswitch.offset ps.toList d v.toInt := am_lso (P := fun o => 0 ≤ (pc : Int) + o) _ ho hos
  exact lv_lookup hx hb hd hp rfl (show (pc : Int) + _ = ((((pc : Int) + _).toNat : Nat) : Int) by omega) (am_ls_get _ ks)
end AMS
end
section
/-! rules of am_R, an instruction each: memory and constants -/
theorem am_good_of {w : Jvm.Cond} {k : Nat} (h : lw_tbl[k]? = some w) (g : goodWord w = true) : w ∈ am_good := List.mem_filter.mpr ⟨List.mem_of_getElem? h, g⟩
def am_Rn : Nat → String
  | 0 => RX0 | 1 => RX1 | 2 => RX2 | _ => RX3
def am_T : Nat → u_T
  | 0 => TX0 | 1 => TX1 | 2 => TX2 | _ => TX3
def am_ty : Nat → Nat → FieldType
  | 0 => tyX0 | 1 => tyX1 | 2 => tyX2 | _ => tyX3
theorem am_cls_get {x : Nat} (h : x < 4) : am_cls[x]? = some (am_Rn x, am_T x, am_nf x) := by
  match x, h with
  | 0, _ => rfl
  | 1, _ => rfl
  | 2, _ => rfl
  | 3, _ => rfl
theorem am_hinX0 : ∀ w ∈ u_ws RX0 TX0 5, w ∈ am_good := by decide +kernel
theorem am_hinX1 : ∀ w ∈ u_ws RX1 TX1 1, w ∈ am_good := by decide +kernel
theorem am_hinX2 : ∀ w ∈ u_ws RX2 TX2 7, w ∈ am_good := by decide +kernel
theorem am_hinX3 : ∀ w ∈ u_ws RX3 TX3 9, w ∈ am_good := by decide +kernel
theorem am_hin {x : Nat} (h : x < 4) : ∀ w ∈ u_ws (am_Rn x) (am_T x) (am_nf x), w ∈ am_good := by
  match x, h with
  | 0, _ => exact am_hinX0
  | 1, _ => exact am_hinX1
  | 2, _ => exact am_hinX2
  | 3, _ => exact am_hinX3
theorem am_tyok {x : Nat} (h : x < 4) : ∀ k, k < am_nf x → parseFieldDescriptor (am_T x k).2.2.1 = some (am_ty x k) := by
  match x, h with
  | 0, _ => exact tyX0_ok
  | 1, _ => exact tyX1_ok
  | 2, _ => exact tyX2_ok
  | 3, _ => exact tyX3_ok
theorem am_nmok {x : Nat} (h : x < 4) : ∀ a, a < am_nf x → ∀ b, b < am_nf x → a ≠ b → (am_T x a).2.1 ≠ (am_T x b).2.1 := by
  match x, h with
  | 0, _ => exact nmX0
  | 1, _ => exact nmX1
  | 2, _ => exact nmX2
  | 3, _ => exact nmX3
theorem am_kd_lt {o : Nat} (h : am_kd o < 3) : o < 17 := by
  unfold am_kd at h
  split at h <;> omega
theorem am_ci_lt {o : Nat} (h : am_ci o < 4) : o < 17 ∧ am_kd o = 9 := by
  unfold am_ci at h
  split at h <;> first | exact ⟨by omega, rfl⟩ | omega
theorem am_kd9' : ∀ o, o < 17 → am_kd o = 9 → am_ci o < 4 := by decide
theorem am_kd9 {o : Nat} (h : am_kd o = 9) (ho : o < 17) : am_ci o < 4 := am_kd9' o ho h
theorem am_len_ne {L o : Nat} (h : o ≠ 17) : am_len 0 o = am_len L o := by
  unfold am_len
  split <;> first | rfl | omega
theorem am_len_lt {L o : Nat} (h : o ≠ 17) : am_len L o < 5000 := by
  unfold am_len
  split <;> omega
theorem am_tv_ref {a : Nat → Nat} {o : Nat} (h : o < 29) : am_tv a (.ref o) = .ref (a o) := by simp [am_tv, h]
theorem am_e0 {a : Nat → Nat} {g : ClassId × ClassId × Nat} {M : am_M} {o : Nat} (h : am_kd o = 0) : am_e a g M o = .inl (g.1, am_len 0 o, .inl (M o)) := by simp [am_e, h]
theorem am_e1 {a : Nat → Nat} {g : ClassId × ClassId × Nat} {M : am_M} {o : Nat} (h : am_kd o = 1) : am_e a g M o = .inl (g.2.1, am_len 0 o, .inl (M o)) := by simp [am_e, h]
theorem am_e4 {a : Nat → Nat} {g : ClassId × ClassId × Nat} {M : am_M} {o : Nat} (h : am_kd o = 4) : am_e a g M o = .inl (g.1, g.2.2, .inl (M o)) := by simp [am_e, h]
theorem am_e9 {a : Nat → Nat} {g : ClassId × ClassId × Nat} {M : am_M} {o : Nat} (h : am_kd o = 9) : am_e a g M o = .inr (am_ci o, (List.range (am_nf (am_ci o))).map (fun k => am_tv a (am_val (am_ci o) o k M))) := by simp [am_e, h]
theorem am_rd_spec {t : am_MT} {o : Nat} (h : am_rd t o = true) : am_kd o = 0 ∨ (o = 17 ∧ mt_w t = true) := by
  simpa [am_rd, Nat.beq_eq] using h
theorem am_inL {k n : Nat} (h : k < n) (hn : n < 2 ^ 31) : vp_in (nI k) n := vp_in_nI h hn
section AMR
variable {L : am_S} {t : am_MT} {n pc : Nat} {ls st : List Value} {M : am_M} {Q : am_Q}
theorem am_R_pu {i : Instr} {w : Nat} {st' : List Value} (h : am_pu i ls st = some st') (hd : decode (mt_b t) pc = .ok (i, w)) (hck : am_ckp i w = true) (k : am_R L t n (pc + w) ls st' M Q) : am_R L t n pc ls st M Q := by
  intro p l e R s m args below meth c a D g A cells slots QQ hE hC h1 h2 hEnd H locs la hW hL
  exact am_pu_W hE.1 hE.2.1 hL h hd hck (k p l e R s m args below meth c a D g A cells slots QQ hE hC h1 h2 hEnd H locs la hW hL)
theorem am_R_sto {i : Instr} {w : Nat} {q : List Value × List Value} (h : am_sto i ls st = some q) (hd : decode (mt_b t) pc = .ok (i, w)) (hck : am_cks (mt_l t) i w = true) (k : am_R L t n (pc + w) q.1 q.2 M Q) : am_R L t n pc ls st M Q := by
  intro p l e R s m args below meth c a D g A cells slots QQ hE hC h1 h2 hEnd H locs la hW hL
  exact am_sto_W hE.1 hE.2.1 hL h hd hck (fun la' hL' => k p l e R s m args below meth c a D g A cells slots QQ hE hC h1 h2 hEnd H locs la' hW hL')
theorem am_R_if1 {cd : ClassFile.Cond} {o : Int} {v : Int32} (hd : decode (mt_b t) pc = .ok (.ifCond cd o, 3)) (ho : 0 ≤ (pc : Int) + o) (kt : am_c1 cd v → am_R L t n ((pc : Int) + o).toNat ls st M Q) (kf : ¬ am_c1 cd v → am_R L t n (pc + 3) ls st M Q) : am_R L t n pc ls (.int v :: st) M Q := by
  intro p l e R s m args below meth c a D g A cells slots QQ hE hC h1 h2 hEnd H locs la hW hL
  exact am_if1_W hE.1 hE.2.1 hd ho (fun q => kt q p l e R s m args below meth c a D g A cells slots QQ hE hC h1 h2 hEnd H locs la hW hL) (fun q => kf q p l e R s m args below meth c a D g A cells slots QQ hE hC h1 h2 hEnd H locs la hW hL)
theorem am_R_if2 {cd : ClassFile.Cond} {o : Int} {v1 v2 : Int32} (hd : decode (mt_b t) pc = .ok (.if_icmp cd o, 3)) (ho : 0 ≤ (pc : Int) + o) (kt : am_c2 cd v1 v2 → am_R L t n ((pc : Int) + o).toNat ls st M Q) (kf : ¬ am_c2 cd v1 v2 → am_R L t n (pc + 3) ls st M Q) : am_R L t n pc ls (.int v2 :: .int v1 :: st) M Q := by
  intro p l e R s m args below meth c a D g A cells slots QQ hE hC h1 h2 hEnd H locs la hW hL
  exact am_if2_W hE.1 hE.2.1 hd ho (fun q => kt q p l e R s m args below meth c a D g A cells slots QQ hE hC h1 h2 hEnd H locs la hW hL) (fun q => kf q p l e R s m args below meth c a D g A cells slots QQ hE hC h1 h2 hEnd H locs la hW hL)
theorem am_R_goto {o : Int} (hd : decode (mt_b t) pc = .ok (.goto o, 3)) (ho : 0 ≤ (pc : Int) + o) (k : am_R L t n ((pc : Int) + o).toNat ls st M Q) : am_R L t n pc ls st M Q := by
  intro p l e R s m args below meth c a D g A cells slots QQ hE hC h1 h2 hEnd H locs la hW hL
  exact lv_goto hE.1 hE.2.1 hd (show (pc : Int) + o = ((((pc : Int) + o).toNat : Nat) : Int) by omega) (k p l e R s m args below meth c a D g A cells slots QQ hE hC h1 h2 hEnd H locs la hW hL)
theorem am_sw_mono {r r' : Nat → Prop} {x : Int32} {pc : Nat} (h : ∀ q, r q → r' q) : ∀ (os : List Int) (k : Int), am_sw r x pc os k → am_sw r' x pc os k
  | [], _, _ => trivial
  | _ :: os, k, q => ⟨fun e => h _ (q.1 e), am_sw_mono h os (k + 1) q.2⟩
theorem am_ls_mono {r r' : Nat → Prop} {x : Int32} {pc : Nat} {d : Int} (h : ∀ q, r q → r' q) : ∀ (os : List (Int × Int)), am_ls r x pc d os → am_ls r' x pc d os
  | [], q => h _ q
  | _ :: os, q => ⟨fun e => h _ (q.1 e), fun e => am_ls_mono h os (q.2 e)⟩
theorem am_R_tsw {d lo hi : Int} {os : Array Int} {w : Nat} {v : Int32} (hd : decode (mt_b t) pc = .ok (.tableswitch d lo hi os, w)) (ho : 0 ≤ (pc : Int) + d) (hos : ∀ o ∈ os.toList, 0 ≤ (pc : Int) + o) (hsz : hi < lo + os.size)
    (kd : (v.toInt < lo ∨ hi < v.toInt) → am_R L t n ((pc : Int) + d).toNat ls st M Q) (ks : am_sw (fun tg => am_R L t n tg ls st M Q) v pc os.toList lo) : am_R L t n pc ls (.int v :: st) M Q := by
  intro p l e R s m args below meth c a D g A cells slots QQ hE hC h1 h2 hEnd H locs la hW hL
  exact am_tsw_W hE.1 hE.2.1 hd ho hos hsz (fun q => kd q p l e R s m args below meth c a D g A cells slots QQ hE hC h1 h2 hEnd H locs la hW hL) (am_sw_mono (fun q k => k p l e R s m args below meth c a D g A cells slots QQ hE hC h1 h2 hEnd H locs la hW hL) _ _ ks)
theorem am_R_lsw {d : Int} {ps : Array (Int × Int)} {w : Nat} {v : Int32} (hd : decode (mt_b t) pc = .ok (.lookupswitch d ps, w)) (ho : 0 ≤ (pc : Int) + d) (hos : ∀ q ∈ ps.toList, 0 ≤ (pc : Int) + q.2) (hp : (ps.toList.zip (ps.toList.drop 1)).all (fun (a, next) => a.1 < next.1) = true)
    (ks : am_ls (fun tg => am_R L t n tg ls st M Q) v pc d ps.toList) : am_R L t n pc ls (.int v :: st) M Q := by
  intro p l e R s m args below meth c a D g A cells slots QQ hE hC h1 h2 hEnd H locs la hW hL
  exact am_lsw_W hE.1 hE.2.1 hd ho hos hp (am_ls_mono (fun q k => k p l e R s m args below meth c a D g A cells slots QQ hE hC h1 h2 hEnd H locs la hW hL) _ ks)
theorem am_R_ldc {idx z : Nat} {v : Int32} (hd : decode (mt_b t) pc = .ok (.ldc idx, 2)) (hw : lw_tbl[z]? = some (.constant (mt_y t).cls idx v)) (k : am_R L t n (pc + 2) ls (.int v :: st) M Q) : am_R L t n pc ls st M Q := by
  intro p l e R s m args below meth c a D g A cells slots QQ hE hC h1 h2 hEnd H locs la hW hL
  exact lv_ldc hE.1 hE.2.1 hE.2.2.2.1 (hE.2.2.2.2.1 _ (am_good_of hw rfl)) hd (k p l e R s m args below meth c a D g A cells slots QQ hE hC h1 h2 hEnd H locs la hW hL)
theorem am_R_ldcw {idx z : Nat} {v : Int32} (hd : decode (mt_b t) pc = .ok (.ldc_w idx, 3)) (hw : lw_tbl[z]? = some (.constant (mt_y t).cls idx v)) (k : am_R L t n (pc + 3) ls (.int v :: st) M Q) : am_R L t n pc ls st M Q := by
  intro p l e R s m args below meth c a D g A cells slots QQ hE hC h1 h2 hEnd H locs la hW hL
  exact lv_ldcw hE.1 hE.2.1 hE.2.2.2.1 (hE.2.2.2.2.1 _ (am_good_of hw rfl)) hd (k p l e R s m args below meth c a D g A cells slots QQ hE hC h1 h2 hEnd H locs la hW hL)
theorem am_R_ldc2 {idx z : Nat} {v : Int64} (hd : decode (mt_b t) pc = .ok (.ldc2_w idx, 3)) (hw : lw_tbl[z]? = some (.constantLong (mt_y t).cls idx v)) (k : am_R L t n (pc + 3) ls (.long v :: st) M Q) : am_R L t n pc ls st M Q := by
  intro p l e R s m args below meth c a D g A cells slots QQ hE hC h1 h2 hEnd H locs la hW hL
  exact lv_ldc2 hE.1 hE.2.1 hE.2.2.2.1 (hE.2.2.2.2.1 _ (am_good_of hw rfl)) hd (k p l e R s m args below meth c a D g A cells slots QQ hE hC h1 h2 hEnd H locs la hW hL)
theorem am_R_ldc2d {idx z : Nat} {v : UInt64} (hd : decode (mt_b t) pc = .ok (.ldc2_w idx, 3)) (hw : lw_tbl[z]? = some (.constantDouble (mt_y t).cls idx v)) (k : am_R L t n (pc + 3) ls (.double v :: st) M Q) : am_R L t n pc ls st M Q := by
  intro p l e R s m args below meth c a D g A cells slots QQ hE hC h1 h2 hEnd H locs la hW hL
  exact lv_ldc2d hE.1 hE.2.1 hE.2.2.2.1 (hE.2.2.2.2.1 _ (am_good_of hw rfl)) hd (k p l e R s m args below meth c a D g A cells slots QQ hE hC h1 h2 hEnd H locs la hW hL)
theorem am_R_idiv {v1 v2 : Int32} (hd : decode (mt_b t) pc = .ok (.idiv, 1)) (hne : ¬ v2 = 0) (k : am_R L t n (pc + 1) ls (.int (v1 / v2) :: st) M Q) : am_R L t n pc ls (.int v2 :: .int v1 :: st) M Q := by
  intro p l e R s m args below meth c a D g A cells slots QQ hE hC h1 h2 hEnd H locs la hW hL
  exact lv_idiv hE.1 hE.2.1 hd hne (k p l e R s m args below meth c a D g A cells slots QQ hE hC h1 h2 hEnd H locs la hW hL)
theorem am_R_irem {v1 v2 : Int32} (hd : decode (mt_b t) pc = .ok (.irem, 1)) (hne : ¬ v2 = 0) (k : am_R L t n (pc + 1) ls (.int (v1 - v1 / v2 * v2) :: st) M Q) : am_R L t n pc ls (.int v2 :: .int v1 :: st) M Q := by
  intro p l e R s m args below meth c a D g A cells slots QQ hE hC h1 h2 hEnd H locs la hW hL
  exact lv_irem hE.1 hE.2.1 hd hne (k p l e R s m args below meth c a D g A cells slots QQ hE hC h1 h2 hEnd H locs la hW hL)
theorem am_R_ddiv {v1 v2 : UInt64} (hd : decode (mt_b t) pc = .ok (.ddiv, 1)) (hne : vf_n64 (FP.ddiv v1 v2)) (k : am_R L t n (pc + 1) ls (.double (FP.ddiv v1 v2) :: st) M Q) : am_R L t n pc ls (.double v2 :: .double v1 :: st) M Q := by
  intro p l e R s m args below meth c a D g A cells slots QQ hE hC h1 h2 hEnd H locs la hW hL
  exact lv_ddiv hE.1 hE.2.1 hd hne (k p l e R s m args below meth c a D g A cells slots QQ hE hC h1 h2 hEnd H locs la hW hL)
-- fields
theorem am_R_get {idx x y z o : Nat} (hd : decode (mt_b t) pc = .ok (.getfield idx, 3)) (hw : lw_tbl[z]? = some (.fieldLink (mt_y t).cls idx (am_T x y).1 (am_T x y).2.1 (am_T x y).2.2.1)) (hx : x < 4) (hy : y < am_nf x) (ho : am_ci o = x) (k : am_R L t n (pc + 3) ls (am_val x o y M :: st) M Q) : am_R L t n pc ls (.ref o :: st) M Q := by
  intro p l e R s m args below meth c a D g A cells slots QQ hE hC h1 h2 hEnd H locs la hW hL
  obtain ⟨h27, h9⟩ := am_ci_lt (o := o) (by omega)
  have hg := am_w_get a g M (am_nc_lo (x := g.2.2) h27)
  rw [am_e9 h9, ho] at hg
  have hv : ((List.range (am_nf x)).map (fun k => am_tv a (am_val x o k M)))[y]? = some (am_tv a (am_val x o y M)) := by simp [hy]
  show W p l e R s m args below meth c H locs cells slots QQ (F0 m pc la (am_tv a (.ref o) :: st.map (am_tv a)))
  rw [am_tv_ref (by omega)]
  exact va_get hE.1 hE.2.1 hE.2.2.2.2.1 (am_hin hx) hE.2.2.2.1 hC.1 hW.1 o hg (am_cls_get hx) y hy (hE.2.2.2.2.1 _ (am_good_of hw rfl)) (fun _ h => h) hv hd
    (k p l e R s m args below meth c a D g A cells slots QQ hE hC h1 h2 hEnd H locs la hW hL)
theorem am_val_set {M : am_M} {x o y j : Nat} {v : Int32} (h : j ≠ y) : am_val x o j (am_set M o (upd (M o) y v)) = am_val x o j M := by
  unfold am_val
  split
  · rfl
  · unfold am_v0
    split
    · rw [am_set_eq]
      simp [upd, h]
    · rfl
theorem am_R_put {idx x y z o : Nat} {v : Int32} {ty : FieldType} (hd : decode (mt_b t) pc = .ok (.putfield idx, 3)) (hw : lw_tbl[z]? = some (.fieldLink (mt_y t).cls idx (am_T x y).1 (am_T x y).2.1 (am_T x y).2.2.1)) (hx : x < 4) (hy : y < am_nf x) (hfin : (am_T x y).2.2.2 = false) (hty : parseFieldDescriptor (am_T x y).2.2.1 = some ty) (hfit : fits ty (.int v) = true) (hr : am_fr x y = 0) (hx1 : x ≠ 1) (ho : am_ci o = x) (hn : narrow ty (.int v) = .int v)
    (k : am_R L t n (pc + 3) ls st (am_set M o (upd (M o) y v)) Q) : am_R L t n pc ls (.int v :: .ref o :: st) M Q := by
  intro p l e R s m args below meth c a D g A cells slots QQ hE hC h1 h2 hEnd H locs la hW hL
  obtain ⟨h27, h9⟩ := am_ci_lt (o := o) (by omega)
  have hg := am_w_get a g M (am_nc_lo (x := g.2.2) h27)
  rw [am_e9 h9, ho] at hg
  show W p l e R s m args below meth c H locs cells slots QQ (F0 m pc la (.int v :: am_tv a (.ref o) :: st.map (am_tv a)))
  rw [am_tv_ref (by omega)]
  have he : ∀ (f : List Value), f = ((List.range (am_nf x)).map (fun k => am_tv a (am_val x o k M))).set y (.int v) → Sum.inr (x, f) = am_e a g (am_set M o (upd (M o) y v)) o := by
    rintro f rfl
    rw [am_e9 h9, ho]
    congr 2
    apply List.ext_getElem?
    intro j
    by_cases hj : j = y
    · subst hj
      rw [List.getElem?_set_self (by simpa using hy)]
      have h3 : am_val x o j (am_set M o (upd (M o) j v)) = .int v := by
        unfold am_val
        split
        · exact absurd rfl hx1
        · rw [hr]
          show Value.int _ = _
          rw [am_set_eq]
          simp [upd]
      simp [hy, h3, am_tv]
    · rw [List.getElem?_set_ne (Ne.symm hj)]
      by_cases hjn : j < am_nf x
      · simp [hjn, am_val_set hj]
      · rw [List.getElem?_eq_none (by simpa using Nat.not_lt.mp hjn), List.getElem?_eq_none (by simpa using Nat.not_lt.mp hjn)]
  refine va_put hE.1 hE.2.1 hE.2.2.2.2.1 (am_hin hx) (am_ty x) (am_tyok hx) (am_nmok hx) hE.2.2.2.1 hC.1 hW.1 (hC.2.1 M) hW.2.1 o hg (am_cls_get hx) y hy (hE.2.2.2.2.1 _ (am_good_of hw rfl)) (fun _ h => h) hfin hty hn hfit (by simpa using hy) hd (fun H1 locs1 hP hD hS => ?_)
  rw [am_w_set (am_nc_lo (x := g.2.2) h27) (fun q hq => am_set_ne hq) (he _ rfl)] at hP
  exact k p l e R s m args below meth c a D g A cells slots QQ hE hC h1 h2 hEnd H1 locs1 la ⟨hP, hS, hW.2.2⟩ hL
-- arrays
theorem am_R_iald {o kk : Nat} {v : Int32} (hd : decode (mt_b t) pc = .ok (.iaload, 1)) (hL31 : mt_w t = true → L.1 < 2 ^ 31) (hr : am_rd t o = true) (hv : v = nI kk) (hk : kk < am_len L.1 o) (k : am_R L t n (pc + 1) ls (.int (am_rv L M kk o) :: st) M Q) : am_R L t n pc ls (.int v :: .ref o :: st) M Q := by
  intro p l e R s m args below meth c a D g A cells slots QQ hE hC h1 h2 hEnd H locs la hW hL
  subst hv
  have kk' := k p l e R s m args below meth c a D g A cells slots QQ hE hC h1 h2 hEnd H locs la hW hL
  show W p l e R s m args below meth c H locs cells slots QQ (F0 m pc la (.int (nI kk) :: am_tv a (.ref o) :: st.map (am_tv a)))
  rcases am_rd_spec hr with h0 | ⟨rfl, hw⟩
  · have h27 := am_kd_lt (o := o) (by omega)
    have hne : o ≠ 17 := by omega
    have hlt := am_len_lt (L := L.1) hne
    rw [am_tv_ref (by omega)]
    have hg := am_w_get a g M (am_nc_lo (x := g.2.2) h27)
    rw [am_e0 h0, am_len_ne (L := L.1) hne] at hg
    refine va_iald hE.1 hE.2.1 hC.1 hW.1 o 0 hg rfl (vp_in_nI hk (by omega)) hd ?_
    rw [nI_clamp (by omega)]
    exact kk'
  · rw [am_tv_ref (by omega)]
    have hx := hC.2.2.2.2.2 hw
    have hk' : kk < L.1 := hk
    have hg := am_w_get a g M (o := 17) (am_nc_x (k := kk) (by omega))
    rw [am_e4 rfl, hx] at hg
    refine va_iald hE.1 hE.2.1 hC.1 hW.1 17 0 hg rfl (vp_in_nI hk' (hL31 hw)) hd ?_
    rw [nI_clamp (by have := hL31 hw; omega)]
    exact kk'
theorem am_R_zald {o kk : Nat} {v : Int32} (hd : decode (mt_b t) pc = .ok (.baload, 1)) (h0 : am_kd o = 1) (hv : v = nI kk) (hk : kk < am_len L.1 o) (k : am_R L t n (pc + 1) ls (.int (M o kk) :: st) M Q) : am_R L t n pc ls (.int v :: .ref o :: st) M Q := by
  intro p l e R s m args below meth c a D g A cells slots QQ hE hC h1 h2 hEnd H locs la hW hL
  subst hv
  have kk' := k p l e R s m args below meth c a D g A cells slots QQ hE hC h1 h2 hEnd H locs la hW hL
  show W p l e R s m args below meth c H locs cells slots QQ (F0 m pc la (.int (nI kk) :: am_tv a (.ref o) :: st.map (am_tv a)))
  have h27 := am_kd_lt (o := o) (by omega)
  have hne : o ≠ 17 := by omega
  have hlt := am_len_lt (L := L.1) hne
  rw [am_tv_ref (by omega)]
  have hg := am_w_get a g M (am_nc_lo (x := g.2.2) h27)
  rw [am_e1 h0, am_len_ne (L := L.1) hne] at hg
  refine va_zald hE.1 hE.2.1 hC.1 hW.1 o 1 hg rfl (vp_in_nI hk (by omega)) hd ?_
  rw [nI_clamp (by omega)]
  exact kk'
theorem am_R_iast {o kk : Nat} {v z : Int32} (hd : decode (mt_b t) pc = .ok (.iastore, 1)) (hL31 : mt_w t = true → L.1 < 2 ^ 31) (hr : am_rd t o = true) (hv : v = nI kk) (hk : kk < am_len L.1 o) (k : am_R L t n (pc + 1) ls st (am_set M o (upd (M o) kk z)) Q) : am_R L t n pc ls (.int z :: .int v :: .ref o :: st) M Q := by
  intro p l e R s m args below meth c a D g A cells slots QQ hE hC h1 h2 hEnd H locs la hW hL
  subst hv
  show W p l e R s m args below meth c H locs cells slots QQ (F0 m pc la (.int z :: .int (nI kk) :: am_tv a (.ref o) :: st.map (am_tv a)))
  rcases am_rd_spec hr with h0 | ⟨rfl, hw⟩
  · have h27 := am_kd_lt (o := o) (by omega)
    have hne : o ≠ 17 := by omega
    have hlt := am_len_lt (L := L.1) hne
    rw [am_tv_ref (by omega)]
    have hg := am_w_get a g M (am_nc_lo (x := g.2.2) h27)
    rw [am_e0 h0, am_len_ne (L := L.1) hne] at hg
    refine va_iast hE.1 hE.2.1 hC.1 hW.1 (hC.2.1 M) hW.2.1 o 0 hg rfl (vp_in_nI hk (by omega)) hd (fun H1 locs1 hP hD hS => ?_)
    rw [nI_clamp (by omega), am_w_set (M' := am_set M o (upd (M o) kk z)) (am_nc_lo (x := g.2.2) h27) (fun q hq => am_set_ne hq) (by rw [am_e0 h0, am_set_eq, am_len_ne (L := L.1) hne])] at hP
    exact k p l e R s m args below meth c a D g A cells slots QQ hE hC h1 h2 hEnd H1 locs1 la ⟨hP, hS, hW.2.2⟩ hL
  · rw [am_tv_ref (by omega)]
    have hx := hC.2.2.2.2.2 hw
    have hk' : kk < L.1 := hk
    have hg := am_w_get a g M (o := 17) (am_nc_x (k := kk) (by omega))
    rw [am_e4 rfl, hx] at hg
    refine va_iast hE.1 hE.2.1 hC.1 hW.1 (hC.2.1 M) hW.2.1 17 0 hg rfl (vp_in_nI hk' (hL31 hw)) hd (fun H1 locs1 hP hD hS => ?_)
    rw [nI_clamp (by have := hL31 hw; omega), am_w_set (M' := am_set M 17 (upd (M 17) kk z)) (am_nc_x (k := kk) (by omega)) (fun q hq => am_set_ne hq) (by rw [am_e4 rfl, am_set_eq, hx])] at hP
    exact k p l e R s m args below meth c a D g A cells slots QQ hE hC h1 h2 hEnd H1 locs1 la ⟨hP, hS, hW.2.2⟩ hL
theorem am_R_zast {o kk : Nat} {v z : Int32} (hd : decode (mt_b t) pc = .ok (.bastore, 1)) (h0 : am_kd o = 1) (hz : vp_nar .boolean z = z) (hv : v = nI kk) (hk : kk < am_len L.1 o) (k : am_R L t n (pc + 1) ls st (am_set M o (upd (M o) kk z)) Q) : am_R L t n pc ls (.int z :: .int v :: .ref o :: st) M Q := by
  intro p l e R s m args below meth c a D g A cells slots QQ hE hC h1 h2 hEnd H locs la hW hL
  subst hv
  show W p l e R s m args below meth c H locs cells slots QQ (F0 m pc la (.int z :: .int (nI kk) :: am_tv a (.ref o) :: st.map (am_tv a)))
  have h27 := am_kd_lt (o := o) (by omega)
  have hne : o ≠ 17 := by omega
  have hlt := am_len_lt (L := L.1) hne
  rw [am_tv_ref (by omega)]
  have hg := am_w_get a g M (am_nc_lo (x := g.2.2) h27)
  rw [am_e1 h0, am_len_ne (L := L.1) hne] at hg
  refine va_zast hE.1 hE.2.1 hC.1 hW.1 (hC.2.1 M) hW.2.1 o 1 hg rfl (vp_in_nI hk (by omega)) hd (fun H1 locs1 hP hD hS => ?_)
  rw [nI_clamp (by omega), hz, am_w_set (M' := am_set M o (upd (M o) kk z)) (am_nc_lo (x := g.2.2) h27) (fun q hq => am_set_ne hq) (by rw [am_e1 h0, am_set_eq, am_len_ne (L := L.1) hne])] at hP
  exact k p l e R s m args below meth c a D g A cells slots QQ hE hC h1 h2 hEnd H1 locs1 la ⟨hP, hS, hW.2.2⟩ hL
end AMR
end
section
/-! rules of am_R: calls, returns, exceptions -/
theorem am_good_gi : GoodIn am_good am_good := fun _ h => ⟨h, good_of_word (List.mem_filter.mp h).2⟩
def am_hw (t : am_MT) : Jvm.Cond := match mt_h t with
  | [] => Jvm.Cond.code (mt_y t) (mt_b t) (mt_l t) (mt_r t)
  | h => Jvm.Cond.codeWith (mt_y t) (mt_b t) (mt_l t) (mt_r t) h
theorem am_ws_eq (t : am_MT) : am_ws t = am_hw t :: am_good := rfl
def am_okM (t : am_MT) : Prop := am_hw t ∈ am_good ∧ Jvm.Cond.initialized (mt_y t).cls ∈ am_good ∧ (mt_y t).cls ≠ "java/lang/invoke/MethodHandle" ∧ (mt_y t).cls ≠ "java/lang/invoke/VarHandle" ∧ plainName (mt_y t).cls = true
theorem am_ws_gi {t : am_MT} (h : am_okM t) : GoodIn am_good (am_ws t) := by
  intro w hw
  rcases List.mem_cons.mp hw with rfl | hw
  · exact am_good_gi _ h.1
  · exact am_good_gi _ hw
theorem am_Ca_moved {C T : String} {u U : State} (hvm : u.vm.Alike U.vm) (h : va_Nw (.castable C T) u) : va_Nw (.castable C T) U := by
  have e := Jvm.Cond.onTables_vm (A := #[]) (A' := #[]) (U := u) (U' := U) U.vm (.castable C T) rfl
  have hU : U.setVm U.vm = U := rfl
  rw [hU] at e
  show (Jvm.Cond.castable C T).before #[] U = true
  rw [← e, Jvm.Cond.castable_setVm hvm]
  exact h
theorem am_Dc_moved {x : MethodName} {u U : State} (hvm : u.vm.Alike U.vm) (h : va_Nw (.declares x) u) : va_Nw (.declares x) U := by
  have e := Jvm.Cond.onTables_vm (A := #[]) (A' := #[]) (U := u) (U' := U) U.vm (.declares x) rfl
  have hU : U.setVm U.vm = U := rfl
  rw [hU] at e
  show (Jvm.Cond.declares x).before #[] U = true
  rw [← e, Jvm.Cond.declares_setVm hvm]
  exact h
theorem am_SF_warm {A B : Nat → Prop} {u U : State} {H0 H : Heap} (hW : u.WarmedH U.vm) (hk : ∀ a : Nat, a < H0.size → ¬ A a → H[a]? = H0[a]?) (hAB : ∀ z, B z → A z) (h : am_SF A u H0) : am_SF B U H := by
  obtain ⟨h1, h2, h3, h8, h9, h10⟩ := h
  refine ⟨((h1.moved hW.alike).kept hk).narrow hAB, ((h2.moved hW.alike).kept hk).narrow hAB, fun t ht => ?_, fun i j hij => (h8 i j hij).moved hW.alike, fun i => am_Ca_moved hW.alike (h9 i), fun x hx => am_Dc_moved hW.alike (h10 x hx)⟩
  obtain ⟨sa, hs⟩ := h3 t ht
  exact ⟨sa, vk_R.warm hW hs⟩
theorem am_blind (av : List Value) (a : Nat → Nat) (D : va_G) (g : ClassId × ClassId × Nat) (M : am_M) (sz : Nat) : FrameBlind (va_Pc av (am_Pre a D g M sz)) := by
  rintro v U g' mk ⟨h0, h1, h2, h3, h4, h5⟩
  exact ⟨h0, h1, h2, va_K.moved (u := U) (U := U.calling g' mk v) (Vm.Alike.refl U.vm) h3, h4, am_SF_warm (u := U) (U := U.calling g' mk v) (State.WarmedH.refl U) (fun _ _ _ => rfl) (fun _ h => h) h5⟩
section AMC
variable {p : Program} {l : Launch} {e : Env} {R : Room} {s : State} {m : MethodId} {args : Array Value} {below : List Frame} {meth : Method} {c : Code} {H : Heap} {locs : List Loc} {cells slots : Nat} {QQ : State → Prop}
theorem am_tight {T T' : State} {locs' : List Loc} {c' n' : Nat} (X : Stand p l e R s m args below meth c T locs cells slots) (X' : Stand p l e R s m args below meth c T' locs' c' n') (hsz : T'.heap.size = T.heap.size)
    (hsl : ∀ (a : Nat) (c0 : Cell), T.heap[a]? = some c0 → ∃ c1 : Cell, T'.heap[a]? = some c1 ∧ c1.slots.size = c0.slots.size) : Stand p l e R s m args below meth c T' locs' cells slots := by
  obtain ⟨e1, h1, h2, h3, h4, h5⟩ := X'.same
  obtain ⟨-, -, g2, -, g4, -⟩ := X.same
  have hm : T'.heap.toList.map (·.slots.size) = T.heap.toList.map (·.slots.size) := by
    apply List.ext_getElem?
    intro k
    rw [List.getElem?_map, List.getElem?_map, Array.getElem?_toList, Array.getElem?_toList]
    cases hk : T.heap[k]? with
    | none =>
      have : T'.heap[k]? = none := by
        rw [Array.getElem?_eq_none_iff] at hk ⊢
        omega
      rw [this]
    | some c0 =>
      obtain ⟨c1, q1, q2⟩ := hsl k c0 hk
      rw [q1]
      simp [q2]
  refine { X' with same := ⟨e1, h1, ?_, h3, ?_, h5⟩ }
  · show T'.heap.size ≤ s.heap.size + cells
    have g2' : T.heap.size ≤ s.heap.size + cells := g2
    omega
  · show ((T'.heap.toList.drop s.heap.size).map (·.slots.size)).sum ≤ slots
    have g4' : ((T.heap.toList.drop s.heap.size).map (·.slots.size)).sum ≤ slots := g4
    rw [List.map_drop, hm, ← List.map_drop]
    exact g4'
theorem am_run_W {L : am_S} {t u : am_MT} {a : Nat → Nat} {D : va_G} {g : ClassId × ClassId × Nat} {A : Nat → Prop} {M : am_M} {K : am_Q} {pc : Nat} {la : Array Slot} {st0 rest : List Value} {av : Array Value}
    (hC : am_Ct L t a D g A s) (hW : am_Wl L t a D g A s M H locs)
    (hr : vx_Run p l e R s m args below meth c H locs cells slots (mt_c u) (6 * mt_c u) (F0 m pc la st0) rest (am_Qc u a D g (va_A (am_w a g M) H.size) K av) (am_XC a D g (va_A (am_w a g M) H.size) K) (va_A (am_w a g M) H.size))
    (kn : ∀ (v : Option Value) (M' : am_M) (H1 : Heap) (locs1 : List Loc), K (.inl v) M' → am_Wl L t a D g A s M' H1 locs1 → W p l e R s m args below meth c H1 locs1 (if mt_g u then cells + mt_c u else cells) (if mt_g u then slots + 6 * mt_c u else slots) QQ (F0 m (pc + 3) la ((v.map (am_tv a)).toList ++ rest)))
    (kx : ∀ (E : String) (M' : am_M) (H1 : Heap) (locs1 : List Loc) (q : Addr) (ce : Cell), K (.inr E) M' → am_Wl L t a D g A s M' H1 locs1 → H1[q]? = some ce → ce.vm = .none → s.vm.findClass E = some ce.cls → vx_W p l e R s m args below meth c H1 locs1 (cells + mt_c u) (slots + 6 * mt_c u) QQ (F0 m pc la rest) q) :
    W p l e R s m args below meth c H locs cells slots QQ (F0 m pc la st0) := by
  have hA1 : ∀ q, va_A (am_w a g M) H.size q → A q := va_free (hC.2.1 M) hW.2.1 hC.2.2.1 (List.range (am_nc g.2.2)) (by
    apply List.ext_getElem?
    intro k
    by_cases hk : k < am_nc g.2.2
    · simp [hk, am_w_get a g M hk]
    · rw [List.getElem?_eq_none (by simpa using Nat.not_lt.mp hk), List.getElem?_eq_none (by simpa [am_w_len] using Nat.not_lt.mp hk)])
  intro T hT X
  rcases hr T hT X with ⟨v, st₀, t1, T', L1, h0, X', hL, e1, e2, hQ, st⟩ | ⟨q, st₀, t1, T', L1, E, ce, h0, X', hL, e1, e2, hXC, hce, hcv, hcl, st⟩
  · obtain ⟨⟨v', M', hv, hK, hP'⟩, hF, htg⟩ := hQ
    obtain ⟨k1, k2, k3⟩ := vx_keep h0 e1 hW.2.1 (fun q _ h => hA1 q h) hA1 hL hF
    have hv' : v = v'.map (am_tv a) := by
      cases hv
      rfl
    subst hv'
    have hW' : am_Wl L t a D g A s M' T'.heap (locs ++ L1) := ⟨by rw [e1]; exact hP', k3, hW.2.2⟩
    have k := kn v' M' T'.heap (locs ++ L1) hK hW'
    cases hg : mt_g u with
    | true =>
      rw [hg] at k
      obtain ⟨t2, a1, b1⟩ := k T' rfl X'
      exact ⟨t2, st t2 a1, b1⟩
    | false =>
      rw [hg] at k
      obtain ⟨L0, -, -, hsm⟩ := htg hg
      obtain ⟨-, q1, q2, -, -, q5⟩ := hsm
      have hsz : T'.heap.size = T.heap.size := by
        have q1' : st₀.heap.size ≤ t1.heap.size := q1
        have q2' : t1.heap.size ≤ st₀.heap.size + 0 := q2
        rw [e1, hT, ← h0]
        omega
      have X2 := am_tight X X' hsz (fun b c0 hb => by
        rw [hT, ← h0] at hb
        obtain ⟨c1, r1, -, r3, -⟩ := q5 b c0 hb
        exact ⟨c1, by rw [e1]; exact r1, r3⟩)
      obtain ⟨t2, a1, b1⟩ := k T' rfl X2
      exact ⟨t2, st t2 a1, b1⟩
  · obtain ⟨⟨M', hK, hP'⟩, hF⟩ := hXC
    obtain ⟨k1, k2, k3⟩ := vx_keep h0 e1 hW.2.1 (fun q _ h => hA1 q h) hA1 hL hF
    have hW' : am_Wl L t a D g A s M' T'.heap (locs ++ L1) := ⟨by rw [e1]; exact hP', k3, hW.2.2⟩
    obtain ⟨t2, a1, b1⟩ := kx E M' T'.heap (locs ++ L1) q ce hK hW' (by rw [e1]; exact hce) hcv hcl T' rfl X'
    exact ⟨t2, st.trans a1, b1⟩
theorem am_End_shift {L : am_S} {t : am_MT} {a : Nat → Nat} {D : va_G} {g : ClassId × ClassId × Nat} {A : Nat → Prop} {n w : Nat} {Q : am_Q} (hg : mt_g t = true) (h : am_End p l e R s m args below meth c L t a D g A cells slots (n + w) QQ Q) :
    am_End p l e R s m args below meth c L t a D g A (cells + w) (slots + 6 * w) n QQ Q := by
  intro k hk h0
  obtain ⟨e1, e2, e3⟩ := h (k + w) (by omega) (fun h => by rw [hg] at h; cases h)
  have c1 : cells + (k + w) = cells + w + k := by omega
  have c2 : slots + 6 * (k + w) = slots + 6 * w + 6 * k := by omega
  rw [c1, c2] at e1 e2 e3
  refine ⟨e1, ?_, ?_⟩
  · intro E M H locs pc la rest q ce z1 z2 z3 z4 z5 z6 z7
    exact e2 E M H locs pc la rest q ce z1 z2 z3 z4 z5 z6 (by omega)
  · intro x M H locs pc la rest ik ii ic z1 z2 z3 z4 z5
    exact e3 x M H locs pc la rest ik ii ic z1 z2 z3 z4 (by omega)
theorem am_End_le {L : am_S} {t : am_MT} {a : Nat → Nat} {D : va_G} {g : ClassId × ClassId × Nat} {A : Nat → Prop} {n n' : Nat} {Q : am_Q} (hn : n ≤ n') (h : am_End p l e R s m args below meth c L t a D g A cells slots n' QQ Q) :
    am_End p l e R s m args below meth c L t a D g A cells slots n QQ Q := by
  intro k hk h0
  obtain ⟨e1, e2, e3⟩ := h k (by omega) h0
  refine ⟨e1, ?_, ?_⟩
  · intro E M H locs pc la rest q ce z1 z2 z3 z4 z5 z6 z7
    exact e2 E M H locs pc la rest q ce z1 z2 z3 z4 z5 z6 (by omega)
  · intro x M H locs pc la rest ik ii ic z1 z2 z3 z4 z5
    exact e3 x M H locs pc la rest ik ii ic z1 z2 z3 z4 (by omega)
/-- more room than is asked -/
theorem am_R_nle {L : am_S} {t : am_MT} {n n' pc : Nat} {ls st : List Value} {M : am_M} {Q : am_Q} (hn : n ≤ n') (k : am_R L t n pc ls st M Q) : am_R L t n' pc ls st M Q := by
  intro p l e R s m args below meth c a D g A cells slots QQ hE hC h1 h2 hEnd H locs la hW hL
  exact k p l e R s m args below meth c a D g A cells slots QQ hE hC (by omega) (by omega) (am_End_le hn hEnd) H locs la hW hL
end AMC
end
section
section AMD
variable {p : Program} {l : Launch} {e : Env} {R : Room} {s : State} {m : MethodId} {args : Array Value} {below : List Frame} {meth : Method} {c : Code} {H : Heap} {locs : List Loc} {cells slots : Nat} {QQ : State → Prop}
variable {Qc : Array Value → State → Outcome → State → Prop} {XC : String → State → State → Prop} {free : Addr → Prop} {cc : ByteArray} {pc : Nat} {la : Array Slot} {mc ms : Nat}
/-- returns that say what was made -/
theorem am_zret {v : Int32} {ty : FieldType} (hexec : p.tables.exec = Jvm.exec) (hb : c.code = cc) (hr : meth.sig.returnType = some ty) (hn : narrow ty (.int v) = .int v)
    (hq : ∀ t : State, t.heap = H → s.WarmedH t.vm → FrameEnd s (.returned (some (.int v))) t locs cells slots → Qc args s (.returned (some (.int v))) t) (hf : ∀ q ∈ locs, free q.base)
    (hdg : decode cc pc = .ok (.ireturn, 1)) (hlocks : meth.locks = false) (hc : cells ≤ mc) (hs : slots ≤ ms) : W p l e R s m args below meth c H locs cells slots (vx_MQ below Qc XC args s mc ms free) (F0 m pc la [.int v]) := by
  intro T hT X
  obtain ⟨fs, hret, hrun, hended, hW, hframe⟩ := X.leave (v := some (.int v)) (hlocks := hlocks) (fun h => by rw [hr] at h; cases h)
  have hmeth' : T.vm.method? m = some meth := X.method'
  refine ⟨T.setFrames fs, ?_, .returned (some (.int v)), hrun, hended, Or.inl ⟨hq _ hT hW ⟨⟨_, rfl⟩, hW, hframe⟩, locs, ⟨⟨_, rfl⟩, hW, hframe.mono hc hs⟩, hf⟩⟩
  jvm_step X.here [X.here.top, hexec, hb, hdg, hmeth', hr, hn]
  (try refine ⟨rfl, ?_⟩); (try refine ⟨rfl, ?_⟩)
  first | (intro acts; rw [hret _ acts rfl rfl rfl]) | rw [hret _ _ rfl rfl rfl]
  exact Steps.refl _
theorem am_lret {v : Int64} (hexec : p.tables.exec = Jvm.exec) (hb : c.code = cc) (hr : meth.sig.returnType = some .long)
    (hq : ∀ t : State, t.heap = H → s.WarmedH t.vm → FrameEnd s (.returned (some (.long v))) t locs cells slots → Qc args s (.returned (some (.long v))) t) (hf : ∀ q ∈ locs, free q.base)
    (hdg : decode cc pc = .ok (.lreturn, 1)) (hlocks : meth.locks = false) (hc : cells ≤ mc) (hs : slots ≤ ms) : W p l e R s m args below meth c H locs cells slots (vx_MQ below Qc XC args s mc ms free) (F0 m pc la [.long v]) := by
  intro T hT X
  obtain ⟨fs, hret, hrun, hended, hW, hframe⟩ := X.leave (v := some (.long v)) (hlocks := hlocks) (fun h => by rw [hr] at h; cases h)
  have hmeth' : T.vm.method? m = some meth := X.method'
  refine ⟨T.setFrames fs, ?_, .returned (some (.long v)), hrun, hended, Or.inl ⟨hq _ hT hW ⟨⟨_, rfl⟩, hW, hframe⟩, locs, ⟨⟨_, rfl⟩, hW, hframe.mono hc hs⟩, hf⟩⟩
  jvm_step X.here [X.here.top, hexec, hb, hdg, hmeth', hr, narrow]
  (try refine ⟨rfl, ?_⟩); (try refine ⟨rfl, ?_⟩)
  first | (intro acts; rw [hret _ acts rfl rfl rfl]) | rw [hret _ _ rfl rfl rfl]
  exact Steps.refl _
theorem am_dret {v : UInt64} (hexec : p.tables.exec = Jvm.exec) (hb : c.code = cc) (hr : meth.sig.returnType = some .double)
    (hq : ∀ t : State, t.heap = H → s.WarmedH t.vm → FrameEnd s (.returned (some (.double v))) t locs cells slots → Qc args s (.returned (some (.double v))) t) (hf : ∀ q ∈ locs, free q.base)
    (hdg : decode cc pc = .ok (.dreturn, 1)) (hlocks : meth.locks = false) (hc : cells ≤ mc) (hs : slots ≤ ms) : W p l e R s m args below meth c H locs cells slots (vx_MQ below Qc XC args s mc ms free) (F0 m pc la [.double v]) := by
  intro T hT X
  obtain ⟨fs, hret, hrun, hended, hW, hframe⟩ := X.leave (v := some (.double v)) (hlocks := hlocks) (fun h => by rw [hr] at h; cases h)
  have hmeth' : T.vm.method? m = some meth := X.method'
  refine ⟨T.setFrames fs, ?_, .returned (some (.double v)), hrun, hended, Or.inl ⟨hq _ hT hW ⟨⟨_, rfl⟩, hW, hframe⟩, locs, ⟨⟨_, rfl⟩, hW, hframe.mono hc hs⟩, hf⟩⟩
  jvm_step X.here [X.here.top, hexec, hb, hdg, hmeth', hr, narrow]
  (try refine ⟨rfl, ?_⟩); (try refine ⟨rfl, ?_⟩)
  first | (intro acts; rw [hret _ acts rfl rfl rfl]) | rw [hret _ _ rfl rfl rfl]
  exact Steps.refl _
theorem am_vret (hexec : p.tables.exec = Jvm.exec) (hb : c.code = cc) (hr : meth.sig.returnType = none)
    (hq : ∀ t : State, t.heap = H → s.WarmedH t.vm → FrameEnd s (.returned none) t locs cells slots → Qc args s (.returned none) t) (hf : ∀ q ∈ locs, free q.base)
    (hdg : decode cc pc = .ok (.return_, 1)) (hlocks : meth.locks = false) (hc : cells ≤ mc) (hs : slots ≤ ms) : W p l e R s m args below meth c H locs cells slots (vx_MQ below Qc XC args s mc ms free) (F0 m pc la []) := by
  intro T hT X
  obtain ⟨fs, hret, hrun, hended, hW, hframe⟩ := X.leave (v := none) (hlocks := hlocks) (fun _ => rfl)
  have hmeth' : T.vm.method? m = some meth := X.method'
  refine ⟨T.setFrames fs, ?_, .returned none, hrun, hended, Or.inl ⟨hq _ hT hW ⟨⟨_, rfl⟩, hW, hframe⟩, locs, ⟨⟨_, rfl⟩, hW, hframe.mono hc hs⟩, hf⟩⟩
  jvm_step X.here [X.here.top, hexec, hb, hdg, hmeth', hr]
  (try refine ⟨rfl, ?_⟩); (try refine ⟨rfl, ?_⟩)
  first | (intro acts; rw [hret _ acts rfl rfl rfl]) | rw [hret _ _ rfl rfl rfl]
  exact Steps.refl _
end AMD
theorem am_hd_split {E : String} {hp : Nat} : ∀ hs : List (Nat × Nat × Nat × Nat), am_hd E hs = some hp → ∃ pre x suf, hs = pre ++ x :: suf ∧ x.2.2.1 = hp ∧ am_xl x.2.2.2 = E ∧ ∀ z ∈ pre, am_xl z.2.2.2 ≠ E
  | [], h => by cases h
  | x :: hs, h => by
    unfold am_hd at h
    split at h
    · rename_i hx
      cases h
      exact ⟨[], x, hs, rfl, rfl, hx, fun z hz => by cases hz⟩
    · rename_i hx
      obtain ⟨pre, y, suf, h1, h2, h3, h4⟩ := am_hd_split hs h
      exact ⟨x :: pre, y, suf, by rw [h1]; rfl, h2, h3, fun z hz => by
        rcases List.mem_cons.mp hz with rfl | hz
        · exact hx
        · exact h4 z hz⟩
theorem am_cl13 : Jvm.Cond.classLink "DyeVatsLaw" 15 "java/lang/IndexOutOfBoundsException" ∈ am_good := by decide +kernel
theorem am_cl15 : Jvm.Cond.classLink "DyeVatsLaw" 17 "java/lang/IllegalArgumentException" ∈ am_good := by decide +kernel
theorem am_cl21 : Jvm.Cond.classLink "DyeVatsLaw" 23 "java/lang/IllegalStateException" ∈ am_good := by decide +kernel
/-- the rows of a table: they cover the place, they name the three classes -/
def am_cov (pc : Nat) (hs : List (Nat × Nat × Nat × Nat)) : Bool := hs.all fun h => decide (h.1 ≤ pc) && (decide (pc < h.2.1) && (decide (h.2.2.2 = 15) || (decide (h.2.2.2 = 17) || decide (h.2.2.2 = 23))))
theorem am_xl_ct {k : Nat} (h : k = 15 ∨ k = 17 ∨ k = 23) : Jvm.Cond.classLink "DyeVatsLaw" k (am_xl k) ∈ am_good ∧ k ≠ 0 ∧ ∃ i, am_xl k = am_ex i := by
  rcases h with rfl | rfl | rfl
  · exact ⟨am_cl13, by decide, 0, rfl⟩
  · exact ⟨am_cl15, by decide, 1, rfl⟩
  · exact ⟨am_cl21, by decide, 2, rfl⟩
theorem am_covers {z : ExceptionTableEntry} {pc : Nat} (h1 : z.startPc ≤ pc) (h2 : pc < z.endPc) : covers z pc = true := by
  simp [covers, h1, h2]
theorem am_catch_W {p : Program} {l : Launch} {e : Env} {R : Room} {s : State} {m : MethodId} {args : Array Value} {below : List Frame} {meth : Method} {c : Code} {H : Heap} {locs : List Loc} {cells slots : Nat} {QQ : State → Prop} {pc hp : Nat} {la : Array Slot} {rest : List Value} {E : String} {hs : List (Nat × Nat × Nat × Nat)} {q : Addr} {ce : Cell}
    (hown : s.vm.findClass "DyeVatsLaw" = some m.cls) (hts : ∀ w ∈ am_good, w.before args s = true) (htab : c.exceptionTable.toList = tableOf hs) (hcov : am_cov pc hs = true) (hh : am_hd E hs = some hp) (hNc : ∀ i j : Nat, am_ex i ≠ am_ex j → va_Nc (am_ex i) (am_ex j) s) (hCa : ∀ i : Nat, va_Nw (.castable (am_ex i) (am_ex i)) s)
    (hcell : H[q]? = some ce) (hv : ce.vm = .none) (hcl : s.vm.findClass E = some ce.cls) (kk : W p l e R s m args below meth c H locs cells slots QQ (F0 m hp la [.ref q])) : vx_W p l e R s m args below meth c H locs cells slots QQ (F0 m pc la rest) q := by
  obtain ⟨pre, x, suf, h1, h2, h3, h4⟩ := am_hd_split hs hh
  have hall : ∀ z ∈ hs, z.1 ≤ pc ∧ pc < z.2.1 ∧ (z.2.2.2 = 15 ∨ z.2.2.2 = 17 ∨ z.2.2.2 = 23) := by
    intro z hz
    have := List.all_eq_true.mp hcov z hz
    simpa using this
  have hxm : x ∈ hs := by rw [h1]; simp
  obtain ⟨x1, x2, x3⟩ := hall x hxm
  obtain ⟨w1, w3, i, hi⟩ := am_xl_ct x3
  have hsplit : c.exceptionTable.toList = tableOf pre ++ (⟨x.1, x.2.1, x.2.2.1, x.2.2.2⟩ : ExceptionTableEntry) :: tableOf suf := by
    rw [htab, h1]
    simp [tableOf]
  refine vx_catch (own := "DyeVatsLaw") (name := am_xl x.2.2.2) (E := E) hown (tableOf pre) _ (tableOf suf) hsplit ?_ (am_covers x1 x2) w3 (hts _ w1) (by rw [← h3, hi]; exact va_Nw.use rfl (hCa i)) hcell hv hcl (by rw [h2]; exact kk)
  intro z hz
  obtain ⟨y, hy, rfl⟩ := List.mem_map.mp hz
  have hym : y ∈ hs := by rw [h1]; exact List.mem_append_left _ hy
  obtain ⟨y1, y2, y3⟩ := hall y hym
  obtain ⟨v1, v3, j, hj⟩ := am_xl_ct y3
  refine Or.inr ⟨v3, am_xl y.2.2.2, hts _ v1, ?_⟩
  rw [← h3, hi, hj]
  exact hNc i j (by rw [← hi, ← hj, h3]; exact fun z => h4 y hy z.symm)
def am_nm : List String := ["java/lang/RuntimeException", "java/lang/Exception"]
def am_ix : Nat → Nat
  | 0 => 220 | 1 => 88 | _ => 77
def am_kx : Nat → Nat
  | 0 => 216 | 1 => 84 | _ => 73
theorem am_at0 : ∀ w ∈ (vx_atS RX3 220 "java/lang/IndexOutOfBoundsException" am_nm).filter goodWord, w ∈ am_good := by decide +kernel
theorem am_at1 : ∀ w ∈ (vx_atS RX3 88 "java/lang/IllegalArgumentException" am_nm).filter goodWord, w ∈ am_good := by decide +kernel
theorem am_at2 : ∀ w ∈ (vx_atS RX3 77 "java/lang/IllegalStateException" am_nm).filter goodWord, w ∈ am_good := by decide +kernel
theorem am_an0 : ∀ w ∈ (vx_atS RX3 220 "java/lang/IndexOutOfBoundsException" am_nm).filter (fun w => !goodWord w), w ∈ Jvm.Cond.castable "java/lang/IndexOutOfBoundsException" "java/lang/IndexOutOfBoundsException" :: am_dn.map Jvm.Cond.declares := by decide +kernel
theorem am_an1 : ∀ w ∈ (vx_atS RX3 88 "java/lang/IllegalArgumentException" am_nm).filter (fun w => !goodWord w), w ∈ Jvm.Cond.castable "java/lang/IllegalArgumentException" "java/lang/IllegalArgumentException" :: am_dn.map Jvm.Cond.declares := by decide +kernel
theorem am_an2 : ∀ w ∈ (vx_atS RX3 77 "java/lang/IllegalStateException" am_nm).filter (fun w => !goodWord w), w ∈ Jvm.Cond.castable "java/lang/IllegalStateException" "java/lang/IllegalStateException" :: am_dn.map Jvm.Cond.declares := by decide +kernel
theorem am_ck0 : Jvm.Cond.classLink RX3 216 "java/lang/IndexOutOfBoundsException" ∈ am_good ∧ Jvm.Cond.initialized "java/lang/IndexOutOfBoundsException" ∈ am_good ∧ Jvm.Cond.classLink RX3 84 "java/lang/IllegalArgumentException" ∈ am_good ∧ Jvm.Cond.initialized "java/lang/IllegalArgumentException" ∈ am_good ∧ Jvm.Cond.classLink RX3 73 "java/lang/IllegalStateException" ∈ am_good ∧ Jvm.Cond.initialized "java/lang/IllegalStateException" ∈ am_good := by decide +kernel
theorem am_ag : (∀ w ∈ Jvm.Cond.classLink RX3 216 "java/lang/IndexOutOfBoundsException" :: Jvm.Cond.initialized "java/lang/IndexOutOfBoundsException" :: vx_atS RX3 220 "java/lang/IndexOutOfBoundsException" am_nm, vx_ot w = true) ∧ (∀ w ∈ Jvm.Cond.classLink RX3 84 "java/lang/IllegalArgumentException" :: Jvm.Cond.initialized "java/lang/IllegalArgumentException" :: vx_atS RX3 88 "java/lang/IllegalArgumentException" am_nm, vx_ot w = true) ∧ (∀ w ∈ Jvm.Cond.classLink RX3 73 "java/lang/IllegalStateException" :: Jvm.Cond.initialized "java/lang/IllegalStateException" :: vx_atS RX3 77 "java/lang/IllegalStateException" am_nm, vx_ot w = true) := by decide +kernel
end
section
/-! the entry of a method: a walk of its body gives its contract -/
theorem am_cat_sum : ∀ st : List Value, (st.map fun v => v.category).sum = am_cat st
  | [] => rfl
  | v :: r => by
    show v.category + (r.map fun v => v.category).sum = v.category + am_cat r
    rw [am_cat_sum r]
def am_en0 : List Value → List Value
  | [] => []
  | v :: r => match v with
    | .long x => .long x :: .null :: am_en0 r
    | .double x => .double x :: .null :: am_en0 r
    | v => v :: am_en0 r
def am_en (n : Nat) (av : List Value) : List Value := am_en0 av ++ List.replicate (n - (am_en0 av).length) .null
theorem am_en0_cat (v : Value) (r : List Value) : am_en0 (v :: r) = v :: (if v.category = 2 then .null :: am_en0 r else am_en0 r) := by
  cases v <;> simp [am_en0, Value.category]
theorem am_en0_len (a : Nat → Nat) : ∀ av : List Value, (lg_sl (av.map (am_tv a))).length = (am_en0 av).length
  | [] => rfl
  | v :: r => by
    rw [am_en0_cat, List.map_cons]
    have ih := am_en0_len a r
    unfold lg_sl at ih ⊢
    rw [List.flatMap_cons, am_tv_cat]
    by_cases h : v.category = 2
    · simp only [h, if_true, List.length_append, List.length_cons, List.length_nil]
      omega
    · simp only [h, if_false, List.length_append, List.length_cons, List.length_nil]
      omega
theorem am_en0_get (a : Nat → Nat) : ∀ (av : List Value) (o i : Nat) (v : Value), (am_en0 av)[i]? = some v → v ≠ .null → (o + i, am_tv a v) ∈ lv_args o (av.map (am_tv a))
  | [], o, i, v, h, _ => by simp [am_en0] at h
  | w :: r, o, i, v, h, hv => by
    rw [am_en0_cat] at h
    rw [List.map_cons]
    unfold lv_args
    rw [am_tv_cat]
    cases i with
    | zero =>
      rw [List.getElem?_cons_zero] at h
      cases h
      exact List.mem_cons_self
    | succ i =>
      rw [List.getElem?_cons_succ] at h
      refine List.mem_cons_of_mem _ ?_
      by_cases hc : w.category = 2
      · simp only [hc, if_true] at h ⊢
        cases i with
        | zero =>
          rw [List.getElem?_cons_zero] at h
          cases h
          exact absurd rfl hv
        | succ i =>
          rw [List.getElem?_cons_succ] at h
          have := am_en0_get a r (o + 2) i v h hv
          rwa [show o + 2 + i = o + (i + 1 + 1) by omega] at this
      · simp only [hc, if_false] at h ⊢
        have := am_en0_get a r (o + 1) i v h hv
        rwa [show o + 1 + i = o + (i + 1) by omega] at this
theorem am_entry_lv (a : Nat → Nat) {n : Nat} {av : List Value} (h : (am_en0 av).length ≤ n) : am_lv a n (am_en n av) ((lg_sl (av.map (am_tv a)) ++ List.replicate (n - (lg_sl (av.map (am_tv a))).length) Slot.unset).toArray) := by
  obtain ⟨h1, h2, h3⟩ := lv_entry (av.map (am_tv a)) (n := n) (by rw [am_en0_len]; exact h)
  refine ⟨h1, h2, by simp [am_en]; omega, fun i v hi hv => ?_⟩
  have hi' : (am_en0 av)[i]? = some v := by
    unfold am_en at hi
    by_cases hl : i < (am_en0 av).length
    · rwa [List.getElem?_append_left hl] at hi
    · rw [List.getElem?_append_right (by omega)] at hi
      exact absurd (List.eq_of_mem_replicate (List.mem_of_getElem? hi)) hv
  have := h3 (0 + i, am_tv a v) (am_en0_get a av 0 i v hi' hv)
  simpa using this
set_option maxHeartbeats 1000000 in
theorem am_C_of_Rn {t : am_MT} {av : List Value} {M : am_M} {Q : am_Q} (L : am_S) (hk : am_okM t) (hw : (mt_v t || (mt_w t && !Nat.beq L.1 (mt_x t))) = false) (ls : List Value) (hls : am_en (mt_l t) av = ls) (hn : Nat.ble (am_en0 av).length (mt_l t) = true) (h : am_R L t (mt_c t) 0 ls [] M Q) : am_C t av M Q := by
  subst hls
  have hn := Nat.le_of_ble_eq_true hn
  intro l a D g sz hst hgx
  have hv : mt_v t = false := by
    cases h : mt_v t with
    | false => rfl
    | true => rw [h] at hw; cases hw
  have hwx : mt_w t = true → g.2.2 = L.1 := by
    intro h
    rw [hv, h] at hw
    have e : Nat.beq L.1 (mt_x t) = true := by
      cases e : Nat.beq L.1 (mt_x t) with
      | true => rfl
      | false => rw [e] at hw; cases hw
    rw [Nat.eq_of_beq_eq_true e]
    exact hgx h
  have key : ∀ (p : Program) (e : Env) (s : State) (m : MethodId) (args : Array Value) (below : List Frame) (meth : Method) (c : Code) (s₁ : State), BodyLoose p l (mt_y t) (headSpec (am_ws t) (am_rm t)) (mt_b t) (mt_l t) (mt_r t) e s m args below meth c s₁ → c.maxLocals = mt_l t → c.exceptionTable.toList = tableOf (mt_h t) → va_Pc (av.map (am_tv a)) (am_Pre a D g M sz) args s →
      W p l e (am_rm t) s m args below meth c s.heap [] 0 0 (vx_MQ below (am_Qc t a D g (va_A (am_w a g M) sz) Q) (am_XC a D g (va_A (am_w a g M) sz) Q) args s (mt_c t) (6 * mt_c t) (va_A (am_w a g M) sz)) (entryFrame m args (mt_l t)) := by
    intro p e s m args below meth c s₁ B hml htab hv9
    obtain ⟨rfl, rfl, hP, hK, hD0, hSF⟩ := hv9
    have hts0 := atoms_spec (ws := am_ws t) B.pre
    have hts : ∀ w ∈ am_good, w.before (av.map (am_tv a)).toArray s = true := fun w h => hts0 w (List.mem_cons_of_mem _ h)
    have hown : s.vm.findClass (mt_y t).cls = some m.cls := findClass_of_methodNamed B.named
    have hD := hD0.self (sz := s.heap.size)
    generalize hA : va_A (am_w a g M) s.heap.size = A at hD hSF ⊢
    have hAA : ∀ q : Nat, s.heap.size ≤ q → A q := fun q h => by rw [← hA]; exact Or.inr h
    rw [lg_entry_eq]
    refine h p l e (am_rm t) s m _ below meth c a D g A 0 0 _ ⟨B.exec, B.bytes, hml, hown, hts, B.notSynchronized, hst, htab, B.returns, Nat.le_refl _, Nat.le_refl _⟩ ⟨hK, fun M' => am_D_any hD M', hAA, hSF, (fun h => by rw [hv] at h; cases h), hwx⟩ (by show 0 + mt_c t ≤ mt_c t; omega) (by show 0 + 6 * mt_c t ≤ 6 * mt_c t; omega) ?_ s.heap [] _ ⟨hP, va_S.rf, fun h => by rw [hv] at h; cases h⟩ (am_entry_lv a hn)
    intro k hk1 hk0
    refine ⟨?_, ?_, ?_⟩
    · intro v M' H locs pc la i hQ hW hri hd hla
      have hF : ∀ u : State, u.heap = H → va_F A s u := fun u hu => hW.2.1.F hu
      have hf : ∀ q ∈ locs, A q.base := hW.2.1.2.2
      have hc1 : 0 + k ≤ mt_c t := by omega
      have hs1 : 0 + 6 * k ≤ 6 * mt_c t := by omega
      have hq : ∀ u : State, u.heap = H → s.WarmedH u.vm → FrameEnd s (.returned (v.map (am_tv a))) u locs (0 + k) (0 + 6 * k) → am_Qc t a D g A Q (av.map (am_tv a)).toArray s (.returned (v.map (am_tv a))) u := by
        intro u hu _ hfe
        refine ⟨⟨v, M', rfl, hQ, by rw [hu]; exact hW.1⟩, hF u hu, fun hg => ⟨locs, ?_⟩⟩
        have hk : k = 0 := hk0 hg
        subst hk
        exact hfe
      match v, hri with
      | none, ⟨h1, h2⟩ =>
        subst h1
        exact am_vret B.exec B.bytes (B.returns.trans h2) hq hf hd B.notSynchronized hc1 hs1
      | some (.int x), ⟨h1, ty, h2, h3⟩ =>
        subst h1
        exact am_zret B.exec B.bytes (B.returns.trans h2) h3 hq hf hd B.notSynchronized hc1 hs1
      | some (.long x), ⟨h1, h2⟩ =>
        subst h1
        exact am_lret B.exec B.bytes (B.returns.trans h2) hq hf hd B.notSynchronized hc1 hs1
      | some (.double x), ⟨h1, h2⟩ =>
        subst h1
        exact am_dret B.exec B.bytes (B.returns.trans h2) hq hf hd B.notSynchronized hc1 hs1
    · intro E M' H locs pc la rest q ce hQ hW hce hcv hcl hh hk2
      refine vx_out (fun x hx => ?_) B.notSynchronized hce hcv hcl (fun u hu _ => ⟨⟨M', hQ, by rw [hu]; exact hW.1⟩, hW.2.1.F hu⟩) hW.2.1.2.2 (by omega) (by omega)
      rw [htab, hh] at hx
      cases hx
    · intro x M' H locs pc la rest ik ii ic hQ hW hh hx3 hk2 hla hcat hRX h6 h90 hik hic htx d0 d3 d4 d6 d9
      obtain ⟨tx, htx⟩ := htx
      obtain ⟨sa, hsa⟩ := hSF.2.2.1 (ii, tx) htx
      have hown3 : s.vm.findClass RX3 = some m.cls := by rw [← hRX]; exact hown
      have hout : ∀ x ∈ c.exceptionTable.toList, covers x (pc + 9) = false := fun x hx => by
        rw [htab, hh] at hx
        cases hx
      have hxc : ∀ u : State, s.vm.Alike u.vm → H.size ≤ u.heap.size → (∀ q : Nat, q < H.size → u.heap[q]? = H[q]?) → am_XC a D g A Q (am_ex x) s u := by
        intro u _ hz hq
        refine ⟨⟨M', hQ, hW.1.kept (fun k q hkq => hq q.1 (hW.1 k q hkq).lt)⟩, Nat.le_trans hW.2.1.1 hz, fun q h1 h2 => ?_⟩
        rw [hq q (Nat.lt_of_lt_of_le h1 hW.2.1.1)]
        exact hW.2.1.2.1 q h1 h2
      have hrl : (List.map (fun v => v.category) (rest)).sum + (13 * (am_nm.length + 1) + 43) ≤ (am_rm t).locals := by
        rw [am_cat_sum]
        show am_cat rest + 82 ≤ mt_rl t
        omega
      have hrf : am_nm.length + 3 < (am_rm t).frames := by
        show 5 < mt_rf t
        omega
      match x, hx3 with
      | 0, _ =>
        subst hik; subst hic
        exact vx_throwS (names := am_nm) (text := tx) (own := RX3) (cls := am_ex 0) B.exec B.bytes hst hown3 (by decide) (by decide) (hts _ am_ck0.1) (hts _ am_ck0.2.1) hsa
          (vx_hat (fun w hw => hts w (am_at0 w hw)) am_an0 (fun w hw => by
            rcases List.mem_cons.mp hw with rfl | hw
            · exact va_Nw.use rfl (hSF.2.2.2.2.1 0)
            · obtain ⟨y, hy, rfl⟩ := List.mem_map.mp hw
              exact va_Nw.use rfl (hSF.2.2.2.2.2 y hy))) am_ag.1 hSF.1 hSF.2.1 hW.2.1 (by rw [hla]; exact hml.symm) d0 d3 d4 d6 d9 hout hrf hrl (by show 0 + k + 1 ≤ mt_c t; omega) (by show 0 + 6 * k + 6 ≤ 6 * mt_c t; omega) B.notSynchronized hxc hW.2.1.2.2 (by omega) (by omega)
      | 1, _ =>
        subst hik; subst hic
        exact vx_throwS (names := am_nm) (text := tx) (own := RX3) (cls := am_ex 1) B.exec B.bytes hst hown3 (by decide) (by decide) (hts _ am_ck0.2.2.1) (hts _ am_ck0.2.2.2.1) hsa
          (vx_hat (fun w hw => hts w (am_at1 w hw)) am_an1 (fun w hw => by
            rcases List.mem_cons.mp hw with rfl | hw
            · exact va_Nw.use rfl (hSF.2.2.2.2.1 1)
            · obtain ⟨y, hy, rfl⟩ := List.mem_map.mp hw
              exact va_Nw.use rfl (hSF.2.2.2.2.2 y hy))) am_ag.2.1 hSF.1 hSF.2.1 hW.2.1 (by rw [hla]; exact hml.symm) d0 d3 d4 d6 d9 hout hrf hrl (by show 0 + k + 1 ≤ mt_c t; omega) (by show 0 + 6 * k + 6 ≤ 6 * mt_c t; omega) B.notSynchronized hxc hW.2.1.2.2 (by omega) (by omega)
      | 2, _ =>
        subst hik; subst hic
        exact vx_throwS (names := am_nm) (text := tx) (own := RX3) (cls := am_ex 2) B.exec B.bytes hst hown3 (by decide) (by decide) (hts _ am_ck0.2.2.2.2.1) (hts _ am_ck0.2.2.2.2.2) hsa
          (vx_hat (fun w hw => hts w (am_at2 w hw)) am_an2 (fun w hw => by
            rcases List.mem_cons.mp hw with rfl | hw
            · exact va_Nw.use rfl (hSF.2.2.2.2.1 2)
            · obtain ⟨y, hy, rfl⟩ := List.mem_map.mp hw
              exact va_Nw.use rfl (hSF.2.2.2.2.2 y hy))) am_ag.2.2 hSF.1 hSF.2.1 hW.2.1 (by rw [hla]; exact hml.symm) d0 d3 d4 d6 d9 hout hrf hrl (by show 0 + k + 1 ≤ mt_c t; omega) (by show 0 + 6 * k + 6 ≤ 6 * mt_c t; omega) B.notSynchronized hxc hW.2.1.2.2 (by omega) (by omega)
  cases hh : mt_h t with
  | nil =>
    refine vx_ofW (cc := mt_b t) (maxL := mt_l t) (ret := mt_r t) (ws' := am_good) hk.2.2.2.2 (by simp [am_ws, hh]) ?_
    intro p e s m args below meth c s₁ B hml ht hv9
    exact key p e s m args below meth c s₁ B hml (by
      rw [hh]
      exact List.eq_nil_iff_forall_not_mem.mpr (fun x hx => ht x hx)) hv9
  | cons x xs =>
    refine vx_ofWH (cc := mt_b t) (maxL := mt_l t) (ret := mt_r t) (hh := x :: xs) (ws' := am_good) hk.2.2.2.2 (by simp [am_ws, hh]) ?_
    intro p e s m args below meth c s₁ B hml hv9
    refine key p e s m args below meth c s₁ B hml ?_ hv9
    rw [hh]
    exact vx_table (l := l) (x := mt_y t) (bytes := mt_b t) (maxL' := mt_l t) (ret' := mt_r t) B (atoms_spec (ws := am_ws t) B.pre _ (by simp [am_ws, hh]))
/-- a method of the class: it costs one exception at most -/
theorem am_C_of_R {t : am_MT} {av : List Value} {M : am_M} {Q : am_Q} (L : am_S) (hk : am_okM t) (hw : ((mt_v t || (mt_w t && !Nat.beq L.1 (mt_x t))) || !Nat.beq (mt_c t) 1) = false) (ls : List Value) (hls : am_en (mt_l t) av = ls) (hn : Nat.ble (am_en0 av).length (mt_l t) = true) (h : am_R L t 1 0 ls [] M Q) : am_C t av M Q := by
  have h1 : (mt_v t || (mt_w t && !Nat.beq L.1 (mt_x t))) = false := by
    cases e : (mt_v t || (mt_w t && !Nat.beq L.1 (mt_x t))) with
    | false => rfl
    | true => rw [e] at hw; cases hw
  have h2 : mt_c t = 1 := by
    rw [h1] at hw
    cases e : Nat.beq (mt_c t) 1 with
    | true => exact Nat.eq_of_beq_eq_true e
    | false => rw [e] at hw; cases hw
  exact am_C_of_Rn L hk h1 ls hls hn (by rw [h2]; exact h)
end
section
/-! rules of am_R: returns, throws, calls -/
section AMF
variable {L : am_S} {t : am_MT} {n pc : Nat} {ls st : List Value} {M : am_M} {Q : am_Q}
theorem am_R_ret {v : Option Value} {i : Instr} (hd : decode (mt_b t) pc = .ok (i, 1)) (hri : am_ri t v i) (hq : Q (.inl v) M) : am_R L t n pc ls v.toList M Q := by
  intro p l e R s m args below meth c a D g A cells slots QQ hE hC h1 h2 hEnd H locs la hW hL
  have h := (hEnd 0 (Nat.zero_le _) (fun _ => rfl)).1 v M H locs pc la i hq hW hri hd hL.1
  have e : (v.toList.map (am_tv a)) = (v.map (am_tv a)).toList := by cases v <;> rfl
  rw [e]
  exact h
theorem am_R_new {x ii : Nat} (hn : n ≠ 0) (hx : x < 3) (hh : mt_h t = []) (hRX : (mt_y t).cls = RX3) (h6 : 6 ≤ mt_rf t) (h90 : 90 ≤ mt_rl t) (htx : ∃ tx, (ii, tx) ∈ am_tx)
    (d0 : decode (mt_b t) pc = .ok (.new (am_kx x), 3)) (d3 : decode (mt_b t) (pc + 3) = .ok (.dup, 1)) (d4 : decode (mt_b t) (pc + 4) = .ok (.ldc ii, 2)) (d6 : decode (mt_b t) (pc + 6) = .ok (.invokespecial (am_ix x), 3)) (d9 : decode (mt_b t) (pc + 9) = .ok (.athrow, 1))
    (hq : Q (.inr (am_ex x)) M) : am_R L t n pc ls [] M Q := by
  intro p l e R s m args below meth c a D g A cells slots QQ hE hC h1 h2 hEnd H locs la hW hL
  exact (hEnd 0 (Nat.zero_le _) (fun _ => rfl)).2.2 x M H locs pc la [] (am_kx x) ii (am_ix x) hq hW hh hx (by omega) hL.1 (Nat.zero_le _) hRX h6 h90 (by unfold am_kx; rfl) (by unfold am_ix; rfl) htx d0 d3 d4 d6 d9
theorem am_R_min {idx z : Nat} {v1 v2 : Int32} {w : Jvm.Cond → Prop} (hd : decode (mt_b t) pc = .ok (.invokestatic idx, 3)) (hw : lw_tbl[z]? = some (.methodLink (mt_y t).cls idx Lib.Math.min.name)) (hw2 : Jvm.Cond.static Lib.Math.min.name ∈ am_good ∧ Jvm.Cond.initialized "java/lang/Math" ∈ am_good ∧ Jvm.Cond.code Lib.Math.min.name Lib.Math.min.code 2 (some .int) ∈ am_good) (h1' : 1 ≤ mt_rf t) (h2' : 21 ≤ mt_rl t) (hcat : am_cat st ≤ 8)
    (k : am_R L t n (pc + 3) ls (.int (if v2 < v1 then v2 else v1) :: st) M Q) : am_R L t n pc ls (.int v2 :: .int v1 :: st) M Q := by
  intro p l e R s m args below meth c a D g A cells slots QQ hE hC h1 h2 hEnd H locs la hW hL
  obtain ⟨hx, hb, hml, hown, hts, hlk, hst, htab, hret, hrf, hrl⟩ := id hE
  exact va_mmin hx hb (by rw [hL.1]; exact hml) hown (hts _ (am_good_of hw rfl)) (hts _ hw2.1) (hts _ hw2.2.1) (hts _ hw2.2.2) (by omega) (by rw [am_cat_map]; omega) (by omega) (by omega) hd
    (k p l e R s m args below meth c a D g A cells slots QQ hE hC h1 h2 hEnd H locs la hW hL)
theorem am_R_max {idx z : Nat} {v1 v2 : Int32} (hd : decode (mt_b t) pc = .ok (.invokestatic idx, 3)) (hw : lw_tbl[z]? = some (.methodLink (mt_y t).cls idx Lib.Math.max.name)) (hw2 : Jvm.Cond.static Lib.Math.max.name ∈ am_good ∧ Jvm.Cond.initialized "java/lang/Math" ∈ am_good ∧ Jvm.Cond.code Lib.Math.max.name Lib.Math.max.code 2 (some .int) ∈ am_good) (h1' : 1 ≤ mt_rf t) (h2' : 21 ≤ mt_rl t) (hcat : am_cat st ≤ 8)
    (k : am_R L t n (pc + 3) ls (.int (if v1 < v2 then v2 else v1) :: st) M Q) : am_R L t n pc ls (.int v2 :: .int v1 :: st) M Q := by
  intro p l e R s m args below meth c a D g A cells slots QQ hE hC h1 h2 hEnd H locs la hW hL
  obtain ⟨hx, hb, hml, hown, hts, hlk, hst, htab, hret, hrf, hrl⟩ := id hE
  exact va_mmax hx hb (by rw [hL.1]; exact hml) hown (hts _ (am_good_of hw rfl)) (hts _ hw2.1) (hts _ hw2.2.1) (hts _ hw2.2.2) (by omega) (by rw [am_cat_map]; omega) (by omega) (by omega) hd
    (k p l e R s m args below meth c a D g A cells slots QQ hE hC h1 h2 hEnd H locs la hW hL)
theorem am_R_copy {idx z o d sk dk nk : Nat} {sp dp nn : Int32} (hd : decode (mt_b t) pc = .ok (.invokestatic idx, 3)) (hw : lw_tbl[z]? = some (.methodLink (mt_y t).cls idx arraycopyName)) (hw2 : Jvm.Cond.native arraycopyName ∈ am_good ∧ Jvm.Cond.static arraycopyName ∈ am_good ∧ Jvm.Cond.initialized "java/lang/System" ∈ am_good) (h1' : 1 ≤ mt_rf t) (h2' : 40 ≤ mt_rl t) (hcat : am_cat st ≤ 8)
    (ho : am_kd o = 0) (hdd : am_kd d = 0) (e1 : sp = nI sk) (e2 : dp = nI dk) (e3 : nn = nI nk) (b1 : sk + nk ≤ am_len L.1 o) (b2 : dk + nk ≤ am_len L.1 d)
    (k : am_R L t n (pc + 3) ls st (am_set M d (va_cpy (M o) (M d) sk dk nk)) Q) : am_R L t n pc ls (.int nn :: .int dp :: .ref d :: .int sp :: .ref o :: st) M Q := by
  intro p l e R s m args below meth c a D g A cells slots QQ hE hC h1 h2 hEnd H locs la hW hL
  obtain ⟨hx, hb, hml, hown, hts, hlk, hst, htab, hret, hrf, hrl⟩ := id hE
  subst e1; subst e2; subst e3
  have h27 := am_kd_lt (o := o) (by omega)
  have h27d := am_kd_lt (o := d) (by omega)
  have hne : o ≠ 17 := by omega
  have hned : d ≠ 17 := by omega
  have hlt := am_len_lt (L := L.1) hne
  have hltd := am_len_lt (L := L.1) hned
  have hg := am_w_get a g M (am_nc_lo (x := g.2.2) h27)
  rw [am_e0 ho, am_len_ne (L := L.1) hne] at hg
  have hgd := am_w_get a g M (am_nc_lo (x := g.2.2) h27d)
  rw [am_e0 hdd, am_len_ne (L := L.1) hned] at hgd
  show W p l e R s m args below meth c H locs cells slots QQ (F0 m pc la (.int (nI nk) :: .int (nI dk) :: am_tv a (.ref d) :: .int (nI sk) :: am_tv a (.ref o) :: st.map (am_tv a)))
  rw [am_tv_ref (by omega), am_tv_ref (by omega)]
  have z1 := nI_clamp (n := sk) (by omega)
  have z2 := nI_clamp (n := dk) (by omega)
  have z3 := nI_clamp (n := nk) (by omega)
  refine va_copyi hx hb (by rw [hL.1]; exact hml) hown (hts _ (am_good_of hw rfl)) (hts _ hw2.1) (hts _ hw2.2.1) (hts _ hw2.2.2) hC.1 hW.1 (hC.2.1 M) hW.2.1 o d 0 0 hg hgd rfl rfl rfl (nI_pos (by omega)) (nI_pos (by omega)) (nI_pos (by omega)) (by rw [z1, z3]; exact b1) (by rw [z2, z3]; exact b2) (fun _ _ => rfl) (by omega) ?_ hd (fun H1 locs1 hP hD hS => ?_)
  · rw [am_cat_map]
    show am_cat st + (7 + 11) ≤ R.locals
    omega
  · rw [z1, z2, z3, am_w_set (M' := am_set M d (va_cpy (M o) (M d) sk dk nk)) (am_nc_lo (x := g.2.2) h27d) (fun q hq => am_set_ne hq) (by rw [am_e0 hdd, am_set_eq, am_len_ne (L := L.1) hned])] at hP
    exact k p l e R s m args below meth c a D g A cells slots QQ hE hC h1 h2 hEnd H1 locs1 la ⟨hP, hS, hW.2.2⟩ hL
/-- what a call hands on -/
def am_KK (L : am_S) (t u : am_MT) (n pc : Nat) (ls r : List Value) (Q : am_Q) : am_Q := fun oc M' => match oc with
  | .inl v => am_R L t (if mt_g u then n - mt_c u else n) (pc + 3) ls (v.toList ++ r) M' Q
  | .inr E => (mt_h t = [] ∧ Q (.inr E) M') ∨ (∃ hp, am_hd E (mt_h t) = some hp ∧ ∀ q : Nat, am_R L t (n - mt_c u) hp ls [.ref (29 + q)] M' Q)
theorem am_call_end {u : am_MT} {r : List Value} {p : Program} {l : Launch} {e : Env} {R : Room} {s : State} {m : MethodId} {args : Array Value} {below : List Frame} {meth : Method} {c : Code} {a : Nat → Nat} {D : va_G} {g : ClassId × ClassId × Nat} {A : Nat → Prop} {cells slots : Nat} {QQ : State → Prop} {H : Heap} {locs : List Loc} {la : Array Slot} {st0 : List Value} {aa : Array Value}
    (hE : am_Env p l R s m args meth c t) (hC : am_Ct L t a D g A s) (hcn : mt_c u ≤ n) (hc1 : 1 ≤ mt_c u) (hx0 : mt_c u = 1 ∨ mt_g t = true) (h1 : cells + n ≤ R.cells) (h2 : slots + 6 * n ≤ R.slots) (hEnd : am_End p l e R s m args below meth c L t a D g A cells slots n QQ Q) (hW : am_Wl L t a D g A s M H locs) (hL : am_lv a (mt_l t) ls la)
    (hg : mt_g u = true → mt_g t = true) (hht : mt_h t ≠ [] → mt_g t = true ∧ (mt_y t).cls = "DyeVatsLaw" ∧ am_cov pc (mt_h t) = true)
    (hr : vx_Run p l e R s m args below meth c H locs cells slots (mt_c u) (6 * mt_c u) (F0 m pc la st0) (r.map (am_tv a)) (am_Qc u a D g (va_A (am_w a g M) H.size) (am_KK L t u n pc ls r Q) aa) (am_XC a D g (va_A (am_w a g M) H.size) (am_KK L t u n pc ls r Q)) (va_A (am_w a g M) H.size)) :
    W p l e R s m args below meth c H locs cells slots QQ (F0 m pc la st0) := by
  refine am_run_W hC hW hr ?_ ?_
  · intro v M' H1 locs1 hK hW1
    have e1 : (v.map (am_tv a)).toList ++ r.map (am_tv a) = (v.toList ++ r).map (am_tv a) := by cases v <;> simp
    rw [e1]
    have hK' : am_R L t (if mt_g u then n - mt_c u else n) (pc + 3) ls (v.toList ++ r) M' Q := hK
    cases hgu : mt_g u with
    | true =>
      rw [hgu] at hK'
      exact hK' p l e R s m args below meth c a D g A (cells + mt_c u) (slots + 6 * mt_c u) QQ hE hC (by simp only [if_true]; omega) (by simp only [if_true]; omega) (am_End_shift (n := n - mt_c u) (w := mt_c u) (hg hgu) (by rw [Nat.sub_add_cancel hcn]; exact hEnd)) H1 locs1 la hW1 hL
    | false =>
      rw [hgu] at hK'
      exact hK' p l e R s m args below meth c a D g A cells slots QQ hE hC h1 h2 hEnd H1 locs1 la hW1 hL
  · intro E M' H1 locs1 q ce hK hW1 hce hcv hcl
    rcases hK with ⟨hh, hQ⟩ | ⟨hp, hhp, hR⟩
    · have hz := (hEnd (mt_c u - 1) (by omega) (fun hf => by
        rcases hx0 with e | e
        · omega
        · rw [e] at hf; cases hf)).2.1 E M' H1 locs1 pc la (r.map (am_tv a)) q ce hQ hW1 hce hcv hcl hh (by omega)
      have e1 : cells + (mt_c u - 1) + 1 = cells + mt_c u := by omega
      have e2 : slots + 6 * (mt_c u - 1) + 6 = slots + 6 * mt_c u := by omega
      rw [e1, e2] at hz
      exact hz
    · have hne : mt_h t ≠ [] := fun z => by rw [z] at hhp; cases hhp
      obtain ⟨z1, z2, z3⟩ := hht hne
      have k := hR q p l e R s m args below meth c a D g A (cells + mt_c u) (slots + 6 * mt_c u) QQ hE hC (by omega) (by omega) (am_End_shift (n := n - mt_c u) (w := mt_c u) z1 (by rw [Nat.sub_add_cancel hcn]; exact hEnd)) H1 locs1 la hW1 hL
      have e2 : ([Value.ref (29 + q)].map (am_tv a)) = [.ref q] := by simp [am_tv, show ¬ (29 + q < 29) from Nat.not_lt.mpr (Nat.le_add_right 29 q)]
      rw [e2] at k
      exact am_catch_W (by rw [← z2]; exact hE.2.2.2.1) hE.2.2.2.2.1 hE.2.2.2.2.2.2.2.1 z3 hhp hC.2.2.2.1.2.2.2.1 hC.2.2.2.1.2.2.2.2.1 hce hcv hcl k
theorem am_pre_at {a : Nat → Nat} {D : va_G} {g : ClassId × ClassId × Nat} {A : Nat → Prop} {s : State} {H : Heap} {locs : List Loc} (hC : am_Ct L t a D g A s) (hW : am_Wl L t a D g A s M H locs) : ∀ U : State, U.heap = H → s.WarmedH U.vm → am_Pre a D g M H.size U := by
  intro U hU hWm
  refine ⟨by rw [hU], by rw [hU]; exact hW.1, va_K.moved hWm.alike hC.1, (hC.2.1 M).weaken (fun _ _ _ _ => trivial), ?_⟩
  rw [hU]
  refine am_SF_warm hWm hW.2.1.2.1 ?_ hC.2.2.2.1
  intro z hz
  rcases hz with ⟨k, e, hk⟩ | hz
  · exact (hC.2.1 M).2 k _ hk
  · exact hC.2.2.1 z (Nat.le_trans hW.2.1.1 hz)
theorem am_R_callS {u : am_MT} {idx z z2 : Nat} {r av p0 : List Value} (hcn : mt_c u ≤ n) (hc1 : 1 ≤ mt_c u) (hx0 : mt_c u = 1 ∨ mt_g t = true) (hwx : mt_w u = true → mt_w t = true ∧ L.1 = mt_x u) (hk : am_okM u) (hd : decode (mt_b t) pc = .ok (.invokestatic idx, 3)) (hl : lw_tbl[z]? = some (.methodLink (mt_y t).cls idx (mt_y u))) (hs : lw_tbl[z2]? = some (.static (mt_y u))) (hy : (parseMethodDescriptor (mt_y u).desc).map (fun d => d.parameters.length) = some av.length)
    (hrf : mt_rf u + 1 ≤ mt_rf t) (hrl : 8 + (mt_l u + 11) + mt_rl u ≤ mt_rl t) (hg : mt_g u = true → mt_g t = true) (hht : mt_h t ≠ [] → mt_g t = true ∧ (mt_y t).cls = "DyeVatsLaw" ∧ am_cov pc (mt_h t) = true) (hst : st = p0 ++ r) (hav : av = p0.reverse) (hcat : am_cat r ≤ 8)
    (C : am_C u av M (am_KK L t u n pc ls r Q)) : am_R L t n pc ls st M Q := by
  intro p l e R s m args below meth c a D g A cells slots QQ hE hC h1 h2 hEnd H locs la hW hL
  obtain ⟨hx, hb, hml, hown, hts, hlk, hst9, htab, hret, hrfR, hrlR⟩ := id hE
  have hGI := am_ws_gi hk
  have hM := C l a D g H.size hst9 (fun h => (hC.2.2.2.2.2 (hwx h).1).trans (hwx h).2)
  have hp : PreS s H (va_Pc (av.map (am_tv a)) (am_Pre a D g M H.size)) (av.map (am_tv a)) := ⟨am_blind _ _ _ _ _ _, fun U hU hWm => ⟨rfl, am_pre_at hC hW U hU hWm⟩⟩
  have hstk : (F0 m pc la (st.map (am_tv a))).stack = (av.map (am_tv a)).reverse ++ r.map (am_tv a) := by
    show st.map (am_tv a) = _
    rw [hst, hav]
    simp
  have hWs : 2 * (F0 m pc la (st.map (am_tv a))).monitorRoom + ((r.map (am_tv a)).map fun v => v.category).sum ≤ 8 := lv_room (by rw [am_cat_map]; exact hcat)
  have hrfR' : mt_rf u + 1 ≤ R.frames := Nat.le_trans hrf hrfR
  have hrlR' : 8 + (mt_l u + 11) + mt_rl u ≤ R.locals := Nat.le_trans hrl hrlR
  refine am_call_end hE hC hcn hc1 hx0 h1 h2 hEnd hW hL hg hht ?_ (aa := (av.map (am_tv a)).toArray) (r := r) (u := u)
  cases hh : mt_h u with
  | nil =>
    have hcw : am_ws u = Jvm.Cond.code (mt_y u) (mt_b u) (mt_l u) (mt_r u) :: am_good := by simp [am_ws, hh]
    exact vx_runS (cc := mt_b t) (nL := mt_l t) (n := av.length) (Ts := am_good) (own := (mt_y t).cls) (index := idx) ⟨hx, hb, hml, hown, hts⟩ hM
      ⟨callB_of (bytes := mt_b u) (maxL := mt_l u) (ret := mt_r u) av.length hts hGI hcw rfl rfl (hts _ hk.2.1) (hts _ (am_good_of hl rfl)) ⟨hk.2.2.1, hk.2.2.2.1, hy⟩ ⟨hrfR', hrlR'⟩, hts _ (am_good_of hs rfl)⟩ hp rfl (by simp) hL.1 hstk hWs hd ⟨by show cells + mt_c u ≤ R.cells; omega, by show slots + 6 * mt_c u ≤ R.slots; omega⟩
  | cons x xs =>
    have hcw : am_ws u = Jvm.Cond.codeWith (mt_y u) (mt_b u) (mt_l u) (mt_r u) (x :: xs) :: am_good := by simp [am_ws, hh]
    have hT : GoodIn am_good (va_wsS (mt_y t).cls idx (mt_y u) (am_ws u)) := by
      intro w hw
      simp only [va_wsS, List.cons_append, List.nil_append, List.mem_cons] at hw
      rcases hw with rfl | rfl | rfl | hw
      · exact am_good_gi _ (am_good_of hl rfl)
      · exact am_good_gi _ (am_good_of hs rfl)
      · exact am_good_gi _ hk.2.1
      · exact hGI _ hw
    exact vx_runSX (cc := mt_b t) (nL := mt_l t) (n := av.length) (Ts := am_good) (own := (mt_y t).cls) (index := idx) ⟨hx, hb, hml, hown, hts⟩ hM
      (vx_cwSW (bytes := mt_b u) (maxL := mt_l u) (ret := mt_r u) (hh := x :: xs) av.length hts hT hcw rfl rfl ⟨hk.2.2.1, hk.2.2.2.1, hy⟩ ⟨hrfR', hrlR'⟩) hp rfl (by simp) hL.1 hstk hWs hd ⟨by show cells + mt_c u ≤ R.cells; omega, by show slots + 6 * mt_c u ≤ R.slots; omega⟩
theorem am_R_callV {u : am_MT} {idx z z2 z3 o ci : Nat} {r av p0 : List Value} (hcn : mt_c u ≤ n) (hc1 : mt_c u = 1) (hwx : mt_w u = true → mt_w t = true ∧ L.1 = mt_x u) (hk : am_okM u) (hd : decode (mt_b t) pc = .ok (.invokevirtual idx, 3)) (hl : lw_tbl[z]? = some (.methodLink (mt_y t).cls idx (mt_y u))) (hi : lw_tbl[z2]? = some (.instanceMethod (mt_y u))) (hse : lw_tbl[z3]? = some (.selects (mt_y u).cls (mt_y u) (mt_y u))) (hy : (parseMethodDescriptor (mt_y u).desc).map (fun d => d.parameters.length) = some av.length)
    (hci : am_ci o = ci) (hci5 : ci < 4) (hcls : (mt_y u).cls = am_Rn ci) (hhu : mt_h u = [])
    (hrf : mt_rf u + 1 ≤ mt_rf t) (hrl : 8 + (mt_l u + 11) + mt_rl u ≤ mt_rl t) (hg : mt_g u = true → mt_g t = true) (hht : mt_h t ≠ [] → mt_g t = true ∧ (mt_y t).cls = "DyeVatsLaw" ∧ am_cov pc (mt_h t) = true) (hst : st = p0 ++ r) (hav : .ref o :: av = p0.reverse) (hcat : am_cat r ≤ 8)
    (C : am_C u (.ref o :: av) M (am_KK L t u n pc ls r Q)) : am_R L t n pc ls st M Q := by
  intro p l e R s m args below meth c a D g A cells slots QQ hE hC h1 h2 hEnd H locs la hW hL
  obtain ⟨hx, hb, hml, hown, hts, hlk, hst9, htab, hret, hrfR, hrlR⟩ := id hE
  have hGI := am_ws_gi hk
  have hM := C l a D g H.size hst9 (fun h => (hC.2.2.2.2.2 (hwx h).1).trans (hwx h).2)
  obtain ⟨h27, h9⟩ := am_ci_lt (o := o) (by omega)
  have hget := am_w_get a g M (am_nc_lo (x := g.2.2) h27)
  rw [am_e9 h9, hci] at hget
  have hrecv := va_recv hC.1 hW.1 (am_cls_get hci5) hget
  rw [← hcls] at hrecv
  have hm : (Value.ref o :: av).map (am_tv a) = .ref (a o) :: av.map (am_tv a) := by
    rw [List.map_cons, am_tv_ref (by omega)]
  rw [hm] at hM
  have hp : PreV s H (mt_y u).cls (a o) (va_Pc (.ref (a o) :: av.map (am_tv a)) (am_Pre a D g M H.size)) (av.map (am_tv a)) := ⟨am_blind _ _ _ _ _ _, hrecv, fun U hU hWm => ⟨rfl, am_pre_at hC hW U hU hWm⟩⟩
  have hstk : (F0 m pc la (st.map (am_tv a))).stack = (av.map (am_tv a)).reverse ++ .ref (a o) :: r.map (am_tv a) := by
    show st.map (am_tv a) = _
    have hp0 : p0 = av.reverse ++ [.ref o] := by
      have := congrArg List.reverse hav
      rw [List.reverse_reverse] at this
      rw [← this]
      simp
    rw [hst, hp0]
    simp [am_tv_ref (a := a) (show o < 29 by omega)]
  have hWs : 2 * (F0 m pc la (st.map (am_tv a))).monitorRoom + ((r.map (am_tv a)).map fun v => v.category).sum ≤ 8 := lv_room (by rw [am_cat_map]; exact hcat)
  have hrfR' : mt_rf u + 1 ≤ R.frames := Nat.le_trans hrf hrfR
  have hrlR' : 8 + (mt_l u + 11) + mt_rl u ≤ R.locals := Nat.le_trans hrl hrlR
  refine am_call_end hE hC hcn (by omega) (Or.inl hc1) h1 h2 hEnd hW hL hg hht ?_ (aa := (Value.ref (a o) :: av.map (am_tv a)).toArray) (r := r) (u := u)
  have hcw : am_ws u = Jvm.Cond.code (mt_y u) (mt_b u) (mt_l u) (mt_r u) :: am_good := by simp [am_ws, hhu]
  exact vx_runV (cc := mt_b t) (nL := mt_l t) (n := av.length) (Ts := am_good) (own := (mt_y t).cls) (index := idx) (C := (mt_y u).cls) ⟨hx, hb, hml, hown, hts⟩ hM
    ⟨callB_of (bytes := mt_b u) (maxL := mt_l u) (ret := mt_r u) av.length hts hGI hcw rfl rfl (hts _ hk.2.1) (hts _ (am_good_of hl rfl)) ⟨hk.2.2.1, hk.2.2.2.1, hy⟩ ⟨hrfR', hrlR'⟩, hts _ (am_good_of hi rfl), hts _ (am_good_of hse rfl)⟩ hp rfl (by simp) hL.1 hstk hWs hd ⟨by show cells + mt_c u ≤ R.cells; omega, by show slots + 6 * mt_c u ≤ R.slots; omega⟩
end AMF
end
section
/-! charAt of the constant of signs; the check of a stretch of code; the rule of a stretch: written by wip/p29/mk12.py -/
theorem am_C_mono {t : am_MT} {av : List Value} {M : am_M} {K K' : am_Q} (h : am_C t av M K) (hK : ∀ (o : am_O) (M' : am_M), K o M' → K' o M') : am_C t av M K' := by
  intro l a D g sz hst hgx
  have h1 := h l a D g sz hst hgx
  intro p e ha hc hk s m args below hf happ hP hT
  obtain ⟨k, oc, q1, q2, q3, hQ⟩ := h1 p e ha hc hk s m args below hf happ hP hT
  refine ⟨k, oc, q1, q2, q3, ?_⟩
  rcases hQ with ⟨⟨⟨v, M', e1, e2, e3⟩, e4, e5⟩, e6⟩ | ⟨q, e1, E, ce, Lc, ⟨⟨M', f1, f2⟩, f3⟩, e3⟩
  · exact Or.inl ⟨⟨⟨v, M', e1, hK _ _ e2, e3⟩, e4, e5⟩, e6⟩
  · exact Or.inr ⟨q, e1, E, ce, Lc, ⟨⟨M', hK _ _ f1, f2⟩, f3⟩, e3⟩
def am_pls : List (Nat × Nat) := [(376, 0), (213, 214), (228, 229), (254, 255), (372, 373), (382, 383), (391, 392), (405, 406), (418, 419), (308, 309), (461, 462), (220, 221), (225, 2), (247, 5), (251, 6), (237, 4), (233, 3), (423, 12), (427, 13), (240, 0), (281, 282), (287, 288), (300, 301), (292, 7), (297, 8), (437, 438), (448, 449), (457, 458), (471, 472), (478, 479), (487, 488), (494, 495), (502, 503), (509, 510), (531, 532), (325, 326), (354, 355), (387, 388), (396, 397), (410, 411), (364, 365), (524, 525), (134, 135), (258, 259), (304, 305), (517, 518), (369, 10), (210, 1), (346, 9), (442, 14), (138, 0), (414, 0), (401, 11), (262, 0), (0, 0), (316, 0), (433, 0), (445, 0), (454, 0), (468, 0), (475, 0), (484, 0), (491, 0), (499, 0), (506, 0), (320, 0), (351, 0), (528, 0), (359, 0), (430, 0), (514, 0), (521, 0), (541, 0), (544, 0), (538, 0), (535, 0), (547, 0), (0, 0)]
def am_pl (k : Nat) : Nat × Nat := am_pls.getD k (0, 0)
def am_isp : Instr → Bool
  | .iconst _ => true | .bipush _ => true | .sipush _ => true | .lconst _ => true | .dconst _ => true | .iload_n _ => true | .iload _ => true | .aload_n _ => true | .aload _ => true | .lload_n _ => true | .lload _ => true | .dload_n _ => true | .dload _ => true
  | .iadd => true | .isub => true | .imul => true | .iand => true | .ixor => true | .ishl => true | .ishr => true | .iushr => true | .ladd => true | .lsub => true | .lmul => true | .ineg => true | .lshl => true | .lcmp => true | .dcmp _ => true | .i2l => true | .i2d => true | .d2l => true | .dup => true | .dup2 => true | .pop => true
  | _ => false
def am_iss : Instr → Bool
  | .istore_n _ => true | .istore _ => true | .astore_n _ => true | .astore _ => true | .lstore_n _ => true | .lstore _ => true | .dstore_n _ => true | .dstore _ => true | .iinc _ _ => true
  | _ => false
theorem am_isp_of {i : Instr} {ls st st' : List Value} (h : am_pu i ls st = some st') : am_isp i = true := by
  cases i <;> first | rfl | (exact absurd h (by simp [am_pu]))
theorem am_iss_of {i : Instr} {ls st : List Value} {q : List Value × List Value} (h : am_sto i ls st = some q) : am_iss i = true := by
  cases i <;> first | rfl | (exact absurd h (by simp [am_sto]))
/-- what a program checks of a call of a method of ours -/
def am_ckc (t u : am_MT) (pc na : Nat) : Bool := decide ((parseMethodDescriptor (mt_y u).desc).map (fun d => d.parameters.length) = some na) && (decide (mt_rf u + 1 ≤ mt_rf t) && (decide (8 + (mt_l u + 11) + mt_rl u ≤ mt_rl t) && ((!mt_g u || mt_g t) && (decide (mt_h t = []) || (mt_g t && (decide ((mt_y t).cls = "DyeVatsLaw") && am_cov pc (mt_h t)))))))
def am_ck (t : am_MT) (pc : Nat) (i : Instr) (w x y z : Nat) : Bool := match i with
  | .ifCond _ o => decide (w = 3) && decide (0 ≤ (pc : Int) + o)
  | .if_icmp _ o => decide (w = 3) && decide (0 ≤ (pc : Int) + o)
  | .goto o => decide (w = 3) && decide (0 ≤ (pc : Int) + o)
  | .tableswitch d lo hi os => decide (0 ≤ (pc : Int) + d) && (os.toList.all (fun o => decide (0 ≤ (pc : Int) + o)) && decide (hi < lo + os.size))
  | .lookupswitch d ps => decide (0 ≤ (pc : Int) + d) && (ps.toList.all (fun q => decide (0 ≤ (pc : Int) + q.2)) && (ps.toList.zip (ps.toList.drop 1)).all (fun (a, next) => a.1 < next.1))
  | .ldc idx => decide (w = 2) && (match y with
    | 0 => decide (lw_tbl[z]? = some (.constant (mt_y t).cls idx (nI x)))
    | _ => false)
  | .ldc_w idx => decide (w = 3) && decide (lw_tbl[z]? = some (.constant (mt_y t).cls idx (nI x)))
  | .ldc2_w idx => decide (w = 3) && (match y with
    | 0 => decide (lw_tbl[z]? = some (.constantLong (mt_y t).cls idx (lN x)))
    | _ => decide (lw_tbl[z]? = some (.constantDouble (mt_y t).cls idx (UInt64.ofNat x))))
  | .getfield idx => decide (w = 3) && (decide (lw_tbl[z]? = some (.fieldLink (mt_y t).cls idx (am_T x y).1 (am_T x y).2.1 (am_T x y).2.2.1)) && (decide (x < 4) && decide (y < am_nf x)))
  | .putfield idx => decide (w = 3) && (decide (lw_tbl[z]? = some (.fieldLink (mt_y t).cls idx (am_T x y).1 (am_T x y).2.1 (am_T x y).2.2.1)) && (decide (x < 4) && (decide (y < am_nf x) && (decide ((am_T x y).2.2.2 = false) && (decide (parseFieldDescriptor (am_T x y).2.2.1 = some .int) && (decide (am_fr x y = 0) && decide (x ≠ 1)))))))
  | .invokestatic idx => decide (w = 3) && (match x with
    | 200 => decide (lw_tbl[z]? = some (.methodLink (mt_y t).cls idx Lib.Math.min.name)) && (decide (1 ≤ mt_rf t) && decide (21 ≤ mt_rl t))
    | 201 => decide (lw_tbl[z]? = some (.methodLink (mt_y t).cls idx Lib.Math.max.name)) && (decide (1 ≤ mt_rf t) && decide (21 ≤ mt_rl t))
    | 202 => decide (lw_tbl[z]? = some (.methodLink (mt_y t).cls idx arraycopyName)) && (decide (1 ≤ mt_rf t) && decide (40 ≤ mt_rl t))
    | _ => decide (x < 77) && (decide (mt_c (am_mt x) = 1) && (decide (mt_w (am_mt x) = false) && (decide (lw_tbl[z]? = some (.methodLink (mt_y t).cls idx (mt_y (am_mt x)))) && (decide (lw_tbl[(am_pl x).1]? = some (.static (mt_y (am_mt x)))) && am_ckc t (am_mt x) pc y)))))
  | .invokevirtual idx => decide (w = 3) && (decide (x < 77) && (decide (mt_c (am_mt x) = 1) && (decide (mt_w (am_mt x) = false) && (decide (1 ≤ y) && (decide (lw_tbl[z]? = some (.methodLink (mt_y t).cls idx (mt_y (am_mt x)))) && (decide (lw_tbl[(am_pl x).1]? = some (.instanceMethod (mt_y (am_mt x)))) && (decide (lw_tbl[(am_pl x).2]? = some (.selects (mt_y (am_mt x)).cls (mt_y (am_mt x)) (mt_y (am_mt x)))) && (decide (am_cx x < 4) && (decide ((mt_y (am_mt x)).cls = am_Rn (am_cx x)) && (decide (mt_h (am_mt x) = []) && (decide (mt_g (am_mt x) = false) && am_ckc t (am_mt x) pc (y - 1))))))))))))
  | .new idx => decide (x < 3) && (decide (idx = am_kx x) && (decide (w = 3) && (decide (mt_h t = []) && (decide ((mt_y t).cls = RX3) && (decide (6 ≤ mt_rf t) && (decide (90 ≤ mt_rl t) && (am_tx.any (fun q => decide (q.1 = y)) && (decide (decode (mt_b t) (pc + 3) = .ok (.dup, 1)) && (decide (decode (mt_b t) (pc + 4) = .ok (.ldc y, 2)) && (decide (decode (mt_b t) (pc + 6) = .ok (.invokespecial (am_ix x), 3)) && decide (decode (mt_b t) (pc + 9) = .ok (.athrow, 1))))))))))))
  | i => decide (w = 1) || (am_isp i || am_iss i)
def am_okB (t : am_MT) : Nat → List am_I → Bool
  | _, [] => true
  | pc, (i, w, x, y, z) :: is => decide (decode (mt_b t) pc = .ok (i, w)) && ((!am_isp i || am_ckp i w) && ((!am_iss i || am_cks (mt_l t) i w) && (am_ck t pc i w x y z && am_okB t (pc + w) is)))
theorem am_wmin : Jvm.Cond.static Lib.Math.min.name ∈ am_good ∧ Jvm.Cond.initialized "java/lang/Math" ∈ am_good ∧ Jvm.Cond.code Lib.Math.min.name Lib.Math.min.code 2 (some .int) ∈ am_good := by decide +kernel
theorem am_wmax : Jvm.Cond.static Lib.Math.max.name ∈ am_good ∧ Jvm.Cond.initialized "java/lang/Math" ∈ am_good ∧ Jvm.Cond.code Lib.Math.max.name Lib.Math.max.code 2 (some .int) ∈ am_good := by decide +kernel
theorem am_wcpy : Jvm.Cond.native arraycopyName ∈ am_good ∧ Jvm.Cond.static arraycopyName ∈ am_good ∧ Jvm.Cond.initialized "java/lang/System" ∈ am_good := by decide +kernel
set_option maxRecDepth 20000 in
theorem om_J_bitCount : am_okM mt_J_bitCount := ⟨am_good_of (k := 377) rfl rfl, am_good_of (k := 28) rfl rfl, by decide, by decide, by decide⟩
set_option maxRecDepth 20000 in
theorem om_S_takeFrom : am_okM mt_S_takeFrom := ⟨am_good_of (k := 215) rfl rfl, am_good_of (k := 17) rfl rfl, by decide, by decide, by decide⟩
set_option maxRecDepth 20000 in
theorem om_S_hourOfDay : am_okM mt_S_hourOfDay := ⟨am_good_of (k := 230) rfl rfl, am_good_of (k := 17) rfl rfl, by decide, by decide, by decide⟩
set_option maxRecDepth 20000 in
theorem om_S_limitIn : am_okM mt_S_limitIn := ⟨am_good_of (k := 256) rfl rfl, am_good_of (k := 17) rfl rfl, by decide, by decide, by decide⟩
set_option maxRecDepth 20000 in
theorem om_S_pipesLaid : am_okM mt_S_pipesLaid := ⟨am_good_of (k := 374) rfl rfl, am_good_of (k := 17) rfl rfl, by decide, by decide, by decide⟩
set_option maxRecDepth 20000 in
theorem om_S_waterInAll : am_okM mt_S_waterInAll := ⟨am_good_of (k := 384) rfl rfl, am_good_of (k := 17) rfl rfl, by decide, by decide, by decide⟩
set_option maxRecDepth 20000 in
theorem om_S_vatProperty : am_okM mt_S_vatProperty := ⟨am_good_of (k := 393) rfl rfl, am_good_of (k := 17) rfl rfl, by decide, by decide, by decide⟩
set_option maxRecDepth 20000 in
theorem om_S_valveProperty : am_okM mt_S_valveProperty := ⟨am_good_of (k := 407) rfl rfl, am_good_of (k := 17) rfl rfl, by decide, by decide, by decide⟩
set_option maxRecDepth 20000 in
theorem om_S_dyeProperty : am_okM mt_S_dyeProperty := ⟨am_good_of (k := 420) rfl rfl, am_good_of (k := 17) rfl rfl, by decide, by decide, by decide⟩
set_option maxRecDepth 20000 in
theorem om_S_removeValve : am_okM mt_S_removeValve := ⟨am_good_of (k := 310) rfl rfl, am_good_of (k := 17) rfl rfl, by decide, by decide, by decide⟩
set_option maxRecDepth 20000 in
theorem om_S_dissolveSettled : am_okM mt_S_dissolveSettled := ⟨am_good_of (k := 463) rfl rfl, am_good_of (k := 17) rfl rfl, by decide, by decide, by decide⟩
set_option maxRecDepth 20000 in
theorem om_S_runHours : am_okM mt_S_runHours := ⟨am_good_of (k := 222) rfl rfl, am_good_of (k := 17) rfl rfl, by decide, by decide, by decide⟩
set_option maxRecDepth 20000 in
theorem om_S_runValves : am_okM mt_S_runValves := ⟨am_good_of (k := 226) rfl rfl, am_good_of (k := 17) rfl rfl, by decide, by decide, by decide⟩
set_option maxRecDepth 20000 in
theorem om_S_levelPipes : am_okM mt_S_levelPipes := ⟨am_good_of (k := 248) rfl rfl, am_good_of (k := 17) rfl rfl, by decide, by decide, by decide⟩
set_option maxRecDepth 20000 in
theorem om_S_settleGrains : am_okM mt_S_settleGrains := ⟨am_good_of (k := 252) rfl rfl, am_good_of (k := 17) rfl rfl, by decide, by decide, by decide⟩
set_option maxRecDepth 20000 in
theorem om_S_moveWater : am_okM mt_S_moveWater := ⟨am_good_of (k := 238) rfl rfl, am_good_of (k := 17) rfl rfl, by decide, by decide, by decide⟩
set_option maxRecDepth 20000 in
theorem om_S_isOpen : am_okM mt_S_isOpen := ⟨am_good_of (k := 234) rfl rfl, am_good_of (k := 17) rfl rfl, by decide, by decide, by decide⟩
set_option maxRecDepth 20000 in
theorem om_S_grainsInAll : am_okM mt_S_grainsInAll := ⟨am_good_of (k := 424) rfl rfl, am_good_of (k := 17) rfl rfl, by decide, by decide, by decide⟩
set_option maxRecDepth 20000 in
theorem om_S_strongestVat : am_okM mt_S_strongestVat := ⟨am_good_of (k := 428) rfl rfl, am_good_of (k := 17) rfl rfl, by decide, by decide, by decide⟩
set_option maxRecDepth 20000 in
theorem om_S_isVat : am_okM mt_S_isVat := ⟨am_good_of (k := 241) rfl rfl, am_good_of (k := 17) rfl rfl, by decide, by decide, by decide⟩
set_option maxRecDepth 20000 in
theorem om_D_beginWith : am_okM mt_D_beginWith := ⟨am_good_of (k := 283) rfl rfl, am_good_of (k := 18) rfl rfl, by decide, by decide, by decide⟩
set_option maxRecDepth 20000 in
theorem om_D_findByRunners : am_okM mt_D_findByRunners := ⟨am_good_of (k := 289) rfl rfl, am_good_of (k := 18) rfl rfl, by decide, by decide, by decide⟩
set_option maxRecDepth 20000 in
theorem om_D_findByLookingBack : am_okM mt_D_findByLookingBack := ⟨am_good_of (k := 302) rfl rfl, am_good_of (k := 18) rfl rfl, by decide, by decide, by decide⟩
set_option maxRecDepth 20000 in
theorem om_D_reachDay : am_okM mt_D_reachDay := ⟨am_good_of (k := 293) rfl rfl, am_good_of (k := 18) rfl rfl, by decide, by decide, by decide⟩
set_option maxRecDepth 20000 in
theorem om_D_isSameLook : am_okM mt_D_isSameLook := ⟨am_good_of (k := 298) rfl rfl, am_good_of (k := 18) rfl rfl, by decide, by decide, by decide⟩
set_option maxRecDepth 20000 in
theorem om_V_fill : am_okM mt_V_fill := ⟨am_good_of (k := 439) rfl rfl, am_good_of (k := 16) rfl rfl, by decide, by decide, by decide⟩
set_option maxRecDepth 20000 in
theorem om_V_dye : am_okM mt_V_dye := ⟨am_good_of (k := 450) rfl rfl, am_good_of (k := 16) rfl rfl, by decide, by decide, by decide⟩
set_option maxRecDepth 20000 in
theorem om_V_stir : am_okM mt_V_stir := ⟨am_good_of (k := 459) rfl rfl, am_good_of (k := 16) rfl rfl, by decide, by decide, by decide⟩
set_option maxRecDepth 20000 in
theorem om_V_capacity : am_okM mt_V_capacity := ⟨am_good_of (k := 473) rfl rfl, am_good_of (k := 16) rfl rfl, by decide, by decide, by decide⟩
set_option maxRecDepth 20000 in
theorem om_V_valve : am_okM mt_V_valve := ⟨am_good_of (k := 480) rfl rfl, am_good_of (k := 16) rfl rfl, by decide, by decide, by decide⟩
set_option maxRecDepth 20000 in
theorem om_V_close : am_okM mt_V_close := ⟨am_good_of (k := 489) rfl rfl, am_good_of (k := 16) rfl rfl, by decide, by decide, by decide⟩
set_option maxRecDepth 20000 in
theorem om_V_pipe : am_okM mt_V_pipe := ⟨am_good_of (k := 496) rfl rfl, am_good_of (k := 16) rfl rfl, by decide, by decide, by decide⟩
set_option maxRecDepth 20000 in
theorem om_V_set : am_okM mt_V_set := ⟨am_good_of (k := 504) rfl rfl, am_good_of (k := 16) rfl rfl, by decide, by decide, by decide⟩
set_option maxRecDepth 20000 in
theorem om_V_pass : am_okM mt_V_pass := ⟨am_good_of (k := 511) rfl rfl, am_good_of (k := 16) rfl rfl, by decide, by decide, by decide⟩
set_option maxRecDepth 20000 in
theorem om_V_keep : am_okM mt_V_keep := ⟨am_good_of (k := 533) rfl rfl, am_good_of (k := 16) rfl rfl, by decide, by decide, by decide⟩
set_option maxRecDepth 20000 in
theorem om_V_goBack : am_okM mt_V_goBack := ⟨am_good_of (k := 327) rfl rfl, am_good_of (k := 16) rfl rfl, by decide, by decide, by decide⟩
set_option maxRecDepth 20000 in
theorem om_V_undo : am_okM mt_V_undo := ⟨am_good_of (k := 356) rfl rfl, am_good_of (k := 16) rfl rfl, by decide, by decide, by decide⟩
set_option maxRecDepth 20000 in
theorem om_V_vatOf : am_okM mt_V_vatOf := ⟨am_good_of (k := 389) rfl rfl, am_good_of (k := 16) rfl rfl, by decide, by decide, by decide⟩
set_option maxRecDepth 20000 in
theorem om_V_valveOf : am_okM mt_V_valveOf := ⟨am_good_of (k := 398) rfl rfl, am_good_of (k := 16) rfl rfl, by decide, by decide, by decide⟩
set_option maxRecDepth 20000 in
theorem om_V_dyeOf : am_okM mt_V_dyeOf := ⟨am_good_of (k := 412) rfl rfl, am_good_of (k := 16) rfl rfl, by decide, by decide, by decide⟩
set_option maxRecDepth 20000 in
theorem om_V_count : am_okM mt_V_count := ⟨am_good_of (k := 366) rfl rfl, am_good_of (k := 16) rfl rfl, by decide, by decide, by decide⟩
set_option maxRecDepth 20000 in
theorem om_V_ifPassed : am_okM mt_V_ifPassed := ⟨am_good_of (k := 526) rfl rfl, am_good_of (k := 16) rfl rfl, by decide, by decide, by decide⟩
set_option maxRecDepth 20000 in
theorem om_V_emptyIn : am_okM mt_V_emptyIn := ⟨am_good_of (k := 136) rfl rfl, am_good_of (k := 16) rfl rfl, by decide, by decide, by decide⟩
set_option maxRecDepth 20000 in
theorem om_V_round : am_okM mt_V_round := ⟨am_good_of (k := 260) rfl rfl, am_good_of (k := 16) rfl rfl, by decide, by decide, by decide⟩
set_option maxRecDepth 20000 in
theorem om_V_mainValve : am_okM mt_V_mainValve := ⟨am_good_of (k := 306) rfl rfl, am_good_of (k := 16) rfl rfl, by decide, by decide, by decide⟩
set_option maxRecDepth 20000 in
theorem om_V_goneShare : am_okM mt_V_goneShare := ⟨am_good_of (k := 519) rfl rfl, am_good_of (k := 16) rfl rfl, by decide, by decide, by decide⟩
set_option maxRecDepth 20000 in
theorem om_V_numberOf : am_okM mt_V_numberOf := ⟨am_good_of (k := 370) rfl rfl, am_good_of (k := 16) rfl rfl, by decide, by decide, by decide⟩
set_option maxRecDepth 20000 in
theorem om_V_findEmptyHours : am_okM mt_V_findEmptyHours := ⟨am_good_of (k := 211) rfl rfl, am_good_of (k := 16) rfl rfl, by decide, by decide, by decide⟩
set_option maxRecDepth 20000 in
theorem om_V_saveState : am_okM mt_V_saveState := ⟨am_good_of (k := 347) rfl rfl, am_good_of (k := 16) rfl rfl, by decide, by decide, by decide⟩
set_option maxRecDepth 20000 in
theorem om_V_refuse : am_okM mt_V_refuse := ⟨am_good_of (k := 443) rfl rfl, am_good_of (k := 16) rfl rfl, by decide, by decide, by decide⟩
set_option maxRecDepth 20000 in
theorem om_V_requireVat : am_okM mt_V_requireVat := ⟨am_good_of (k := 139) rfl rfl, am_good_of (k := 16) rfl rfl, by decide, by decide, by decide⟩
set_option maxRecDepth 20000 in
theorem om_V_requireDye : am_okM mt_V_requireDye := ⟨am_good_of (k := 415) rfl rfl, am_good_of (k := 16) rfl rfl, by decide, by decide, by decide⟩
set_option maxRecDepth 20000 in
theorem om_V_requireValve : am_okM mt_V_requireValve := ⟨am_good_of (k := 402) rfl rfl, am_good_of (k := 16) rfl rfl, by decide, by decide, by decide⟩
set_option maxRecDepth 20000 in
theorem om_V_requireRange : am_okM mt_V_requireRange := ⟨am_good_of (k := 263) rfl rfl, am_good_of (k := 16) rfl rfl, by decide, by decide, by decide⟩
set_option maxRecDepth 20000 in
theorem om_L_cell : am_okM mt_L_cell := ⟨am_good_of (k := 313) rfl rfl, am_good_of (k := 15) rfl rfl, by decide, by decide, by decide⟩
set_option maxRecDepth 20000 in
theorem om_L_low : am_okM mt_L_low := ⟨am_good_of (k := 317) rfl rfl, am_good_of (k := 15) rfl rfl, by decide, by decide, by decide⟩
set_option maxRecDepth 20000 in
theorem om_L_fill : am_okM mt_L_fill := ⟨am_good_of (k := 434) rfl rfl, am_good_of (k := 15) rfl rfl, by decide, by decide, by decide⟩
set_option maxRecDepth 20000 in
theorem om_L_dye : am_okM mt_L_dye := ⟨am_good_of (k := 446) rfl rfl, am_good_of (k := 15) rfl rfl, by decide, by decide, by decide⟩
set_option maxRecDepth 20000 in
theorem om_L_stir : am_okM mt_L_stir := ⟨am_good_of (k := 455) rfl rfl, am_good_of (k := 15) rfl rfl, by decide, by decide, by decide⟩
set_option maxRecDepth 20000 in
theorem om_L_capacity : am_okM mt_L_capacity := ⟨am_good_of (k := 469) rfl rfl, am_good_of (k := 15) rfl rfl, by decide, by decide, by decide⟩
set_option maxRecDepth 20000 in
theorem om_L_valve : am_okM mt_L_valve := ⟨am_good_of (k := 476) rfl rfl, am_good_of (k := 15) rfl rfl, by decide, by decide, by decide⟩
set_option maxRecDepth 20000 in
theorem om_L_close : am_okM mt_L_close := ⟨am_good_of (k := 485) rfl rfl, am_good_of (k := 15) rfl rfl, by decide, by decide, by decide⟩
set_option maxRecDepth 20000 in
theorem om_L_pipe : am_okM mt_L_pipe := ⟨am_good_of (k := 492) rfl rfl, am_good_of (k := 15) rfl rfl, by decide, by decide, by decide⟩
set_option maxRecDepth 20000 in
theorem om_L_set : am_okM mt_L_set := ⟨am_good_of (k := 500) rfl rfl, am_good_of (k := 15) rfl rfl, by decide, by decide, by decide⟩
set_option maxRecDepth 20000 in
theorem om_L_pass : am_okM mt_L_pass := ⟨am_good_of (k := 507) rfl rfl, am_good_of (k := 15) rfl rfl, by decide, by decide, by decide⟩
set_option maxRecDepth 20000 in
theorem om_L_goBack : am_okM mt_L_goBack := ⟨am_good_of (k := 321) rfl rfl, am_good_of (k := 15) rfl rfl, by decide, by decide, by decide⟩
set_option maxRecDepth 20000 in
theorem om_L_undo : am_okM mt_L_undo := ⟨am_good_of (k := 352) rfl rfl, am_good_of (k := 15) rfl rfl, by decide, by decide, by decide⟩
set_option maxRecDepth 20000 in
theorem om_L_keep : am_okM mt_L_keep := ⟨am_good_of (k := 529) rfl rfl, am_good_of (k := 15) rfl rfl, by decide, by decide, by decide⟩
set_option maxRecDepth 20000 in
theorem om_L_tale : am_okM mt_L_tale := ⟨am_good_of (k := 360) rfl rfl, am_good_of (k := 15) rfl rfl, by decide, by decide, by decide⟩
set_option maxRecDepth 20000 in
theorem om_L_act : am_okM mt_L_act := ⟨am_good_of (k := 431) rfl rfl, am_good_of (k := 15) rfl rfl, by decide, by decide, by decide⟩
set_option maxRecDepth 20000 in
theorem om_L_addsUp : am_okM mt_L_addsUp := ⟨am_good_of (k := 515) rfl rfl, am_good_of (k := 15) rfl rfl, by decide, by decide, by decide⟩
set_option maxRecDepth 20000 in
theorem om_L_isAhead : am_okM mt_L_isAhead := ⟨am_good_of (k := 522) rfl rfl, am_good_of (k := 15) rfl rfl, by decide, by decide, by decide⟩
set_option maxRecDepth 20000 in
theorem om_L_look : am_okM mt_L_look := ⟨am_good_of (k := 542) rfl rfl, am_good_of (k := 15) rfl rfl, by decide, by decide, by decide⟩
set_option maxRecDepth 20000 in
theorem om_L_isLook : am_okM mt_L_isLook := ⟨am_good_of (k := 545) rfl rfl, am_good_of (k := 15) rfl rfl, by decide, by decide, by decide⟩
set_option maxRecDepth 20000 in
theorem om_L_days : am_okM mt_L_days := ⟨am_good_of (k := 539) rfl rfl, am_good_of (k := 15) rfl rfl, by decide, by decide, by decide⟩
set_option maxRecDepth 20000 in
theorem om_L_isRound : am_okM mt_L_isRound := ⟨am_good_of (k := 536) rfl rfl, am_good_of (k := 15) rfl rfl, by decide, by decide, by decide⟩
set_option maxRecDepth 20000 in
theorem om_L_isMain : am_okM mt_L_isMain := ⟨am_good_of (k := 548) rfl rfl, am_good_of (k := 15) rfl rfl, by decide, by decide, by decide⟩
def am_okL : List am_MT → Prop
  | [] => True
  | t :: r => am_okM t ∧ am_okL r
theorem am_okL_nth : ∀ (l : List am_MT) (k : Nat), am_okL l → am_okM (am_nth l k)
  | [], _, _ => om_J_bitCount
  | _ :: _, 0, h => h.1
  | _ :: r, k + 1, h => am_okL_nth r k h.2
theorem am_okL_all : am_okL am_mts := ⟨om_J_bitCount, om_S_takeFrom, om_S_hourOfDay, om_S_limitIn, om_S_pipesLaid, om_S_waterInAll, om_S_vatProperty, om_S_valveProperty, om_S_dyeProperty, om_S_removeValve, om_S_dissolveSettled, om_S_runHours, om_S_runValves, om_S_levelPipes, om_S_settleGrains, om_S_moveWater, om_S_isOpen, om_S_grainsInAll, om_S_strongestVat, om_S_isVat, om_D_beginWith, om_D_findByRunners, om_D_findByLookingBack, om_D_reachDay, om_D_isSameLook, om_V_fill, om_V_dye, om_V_stir, om_V_capacity, om_V_valve, om_V_close, om_V_pipe, om_V_set, om_V_pass, om_V_keep, om_V_goBack, om_V_undo, om_V_vatOf, om_V_valveOf, om_V_dyeOf, om_V_count, om_V_ifPassed, om_V_emptyIn, om_V_round, om_V_mainValve, om_V_goneShare, om_V_numberOf, om_V_findEmptyHours, om_V_saveState, om_V_refuse, om_V_requireVat, om_V_requireDye, om_V_requireValve, om_V_requireRange, om_L_cell, om_L_low, om_L_fill, om_L_dye, om_L_stir, om_L_capacity, om_L_valve, om_L_close, om_L_pipe, om_L_set, om_L_pass, om_L_goBack, om_L_undo, om_L_keep, om_L_tale, om_L_act, om_L_addsUp, om_L_isAhead, om_L_look, om_L_isLook, om_L_days, om_L_isRound, om_L_isMain, trivial⟩
theorem am_okM_all : ∀ k, k < 77 → am_okM (am_mt k) := fun k _ => am_okL_nth am_mts k am_okL_all
end
section
/-! the rule of a stretch of code: written by wip/p29/mk14.py -/
theorem am_fit_int : ∀ z : Int32, fits .int (.int z) = true := fun _ => rfl
theorem am_ckc_spec {t u : am_MT} {pc na : Nat} (h : am_ckc t u pc na = true) : (parseMethodDescriptor (mt_y u).desc).map (fun d => d.parameters.length) = some na ∧ mt_rf u + 1 ≤ mt_rf t ∧ 8 + (mt_l u + 11) + mt_rl u ≤ mt_rl t ∧ (mt_g u = true → mt_g t = true) ∧ (mt_h t ≠ [] → mt_g t = true ∧ (mt_y t).cls = "DyeVatsLaw" ∧ am_cov pc (mt_h t) = true) := by
  simp only [am_ckc, Bool.and_eq_true, decide_eq_true_eq, Bool.or_eq_true, Bool.not_eq_true'] at h
  obtain ⟨h1, h2, h3, h4, h5⟩ := h
  refine ⟨h1, h2, h3, fun hu => ?_, fun hne => ?_⟩
  · rcases h4 with h4 | h4
    · rw [hu] at h4; cases h4
    · exact h4
  · rcases h5 with h5 | h5
    · exact absurd h5 hne
    · exact h5
theorem am_okB_cons {t : am_MT} {pc w x y z : Nat} {i : Instr} {is : List am_I} (h : am_okB t pc ((i, w, x, y, z) :: is) = true) : decode (mt_b t) pc = .ok (i, w) ∧ (am_isp i = true → am_ckp i w = true) ∧ (am_iss i = true → am_cks (mt_l t) i w = true) ∧ am_ck t pc i w x y z = true ∧ am_okB t (pc + w) is = true := by
  simp only [am_okB, Bool.and_eq_true, decide_eq_true_eq, Bool.or_eq_true, Bool.not_eq_true'] at h
  obtain ⟨h1, h2, h3, h4, h5⟩ := h
  refine ⟨h1, fun hp => ?_, fun hp => ?_, h4, h5⟩
  · rcases h2 with h2 | h2
    · rw [hp] at h2; cases h2
    · exact h2
  · rcases h3 with h3 | h3
    · rw [hp] at h3; cases h3
    · exact h3
set_option maxHeartbeats 4000000 in
theorem am_go (L : am_S) (t : am_MT) (hL31 : mt_w t = true → L.1 < 2 ^ 31) : ∀ (is : List am_I) (n pc : Nat) (ls st : List Value) (M : am_M) (Q : am_Q), am_okB t pc is = true → am_B L t is n pc ls st M Q → am_R L t n pc ls st M Q := by
  intro is
  induction is with
  | nil => exact fun n pc ls st M Q _ h => h
  | cons q is ih =>
    obtain ⟨i, w, x, y, z⟩ := q
    intro n pc ls st M Q hok h
    obtain ⟨hd, hp1, hs1, hck, hok'⟩ := am_okB_cons hok
    unfold am_B at h
    cases hp : am_pu i ls st with
    | some st' =>
      simp only [hp] at h
      exact am_R_pu hp hd (hp1 (am_isp_of hp)) (ih _ _ _ _ _ _ hok' h)
    | none =>
      simp only [hp] at h
      cases hs : am_sto i ls st with
      | some q =>
        simp only [hs] at h
        exact am_R_sto hs hd (hs1 (am_iss_of hs)) (ih _ _ _ _ _ _ hok' h)
      | none =>
        simp only [hs] at h
        have hcov : ∀ {p : Prop}, False → p := fun h => False.elim h
        cases i
        case ifCond cd off =>
          rcases st with _ | ⟨v, st⟩
          · exact hcov h
          cases v
          case long _ => exact hcov h
          case float _ => exact hcov h
          case double _ => exact hcov h
          case null => exact hcov h
          case ref _ => exact hcov h
          case retAddr _ => exact hcov h
          rename_i v
          simp only [am_ck, Bool.and_eq_true, decide_eq_true_eq] at hck
          obtain ⟨rfl, ho⟩ := hck
          exact am_R_if1 hd ho h.1 (fun z => ih _ _ _ _ _ _ hok' (h.2 z))
        case if_icmp cd off =>
          rcases st with _ | ⟨v2, st⟩
          · exact hcov h
          cases v2
          case long _ => exact hcov h
          case float _ => exact hcov h
          case double _ => exact hcov h
          case null => exact hcov h
          case ref _ => exact hcov h
          case retAddr _ => exact hcov h
          rename_i v2
          rcases st with _ | ⟨v1, st⟩
          · exact hcov h
          cases v1
          case long _ => exact hcov h
          case float _ => exact hcov h
          case double _ => exact hcov h
          case null => exact hcov h
          case ref _ => exact hcov h
          case retAddr _ => exact hcov h
          rename_i v1
          simp only [am_ck, Bool.and_eq_true, decide_eq_true_eq] at hck
          obtain ⟨rfl, ho⟩ := hck
          exact am_R_if2 hd ho h.1 (fun z => ih _ _ _ _ _ _ hok' (h.2 z))
        case goto off =>
          simp only [am_ck, Bool.and_eq_true, decide_eq_true_eq] at hck
          obtain ⟨rfl, ho⟩ := hck
          exact am_R_goto hd ho h
        case tableswitch d lo hi os =>
          rcases st with _ | ⟨v, st⟩
          · exact hcov h
          cases v
          case long _ => exact hcov h
          case float _ => exact hcov h
          case double _ => exact hcov h
          case null => exact hcov h
          case ref _ => exact hcov h
          case retAddr _ => exact hcov h
          rename_i v
          simp only [am_ck, Bool.and_eq_true, decide_eq_true_eq, List.all_eq_true] at hck
          exact am_R_tsw hd hck.1 hck.2.1 hck.2.2 h.1 h.2
        case lookupswitch d ps =>
          rcases st with _ | ⟨v, st⟩
          · exact hcov h
          cases v
          case long _ => exact hcov h
          case float _ => exact hcov h
          case double _ => exact hcov h
          case null => exact hcov h
          case ref _ => exact hcov h
          case retAddr _ => exact hcov h
          rename_i v
          simp only [am_ck, Bool.and_eq_true, decide_eq_true_eq] at hck
          exact am_R_lsw hd hck.1 (fun q hq => by simpa using List.all_eq_true.mp hck.2.1 q hq) hck.2.2 h
        case ldc idx =>
          simp only [am_ck, Bool.and_eq_true, decide_eq_true_eq] at hck
          obtain ⟨rfl, hck⟩ := hck
          cases y with
          | zero => exact am_R_ldc hd (by simpa using hck) (ih _ _ _ _ _ _ hok' h)
          | succ y => exact hcov h
        case ldc_w idx =>
          simp only [am_ck, Bool.and_eq_true, decide_eq_true_eq] at hck
          obtain ⟨rfl, hck⟩ := hck
          exact am_R_ldcw hd hck (ih _ _ _ _ _ _ hok' h)
        case ldc2_w idx =>
          simp only [am_ck, Bool.and_eq_true, decide_eq_true_eq] at hck
          obtain ⟨rfl, hck⟩ := hck
          cases y with
          | zero => exact am_R_ldc2 hd (by simpa using hck) (ih _ _ _ _ _ _ hok' h)
          | succ y => exact am_R_ldc2d hd (by simpa using hck) (ih _ _ _ _ _ _ hok' h)
        case idiv =>
          rcases st with _ | ⟨v2, st⟩
          · exact hcov h
          cases v2
          case long _ => exact hcov h
          case float _ => exact hcov h
          case double _ => exact hcov h
          case null => exact hcov h
          case ref _ => exact hcov h
          case retAddr _ => exact hcov h
          rename_i v2
          rcases st with _ | ⟨v1, st⟩
          · exact hcov h
          cases v1
          case long _ => exact hcov h
          case float _ => exact hcov h
          case double _ => exact hcov h
          case null => exact hcov h
          case ref _ => exact hcov h
          case retAddr _ => exact hcov h
          rename_i v1
          obtain rfl : w = 1 := by simpa [am_ck, am_isp, am_iss] using hck
          exact am_R_idiv hd h.1 (ih _ _ _ _ _ _ hok' h.2)
        case irem =>
          rcases st with _ | ⟨v2, st⟩
          · exact hcov h
          cases v2
          case long _ => exact hcov h
          case float _ => exact hcov h
          case double _ => exact hcov h
          case null => exact hcov h
          case ref _ => exact hcov h
          case retAddr _ => exact hcov h
          rename_i v2
          rcases st with _ | ⟨v1, st⟩
          · exact hcov h
          cases v1
          case long _ => exact hcov h
          case float _ => exact hcov h
          case double _ => exact hcov h
          case null => exact hcov h
          case ref _ => exact hcov h
          case retAddr _ => exact hcov h
          rename_i v1
          obtain rfl : w = 1 := by simpa [am_ck, am_isp, am_iss] using hck
          exact am_R_irem hd h.1 (ih _ _ _ _ _ _ hok' h.2)
        case ddiv =>
          rcases st with _ | ⟨v2, st⟩
          · exact hcov h
          cases v2
          case int _ => exact hcov h
          case long _ => exact hcov h
          case float _ => exact hcov h
          case null => exact hcov h
          case ref _ => exact hcov h
          case retAddr _ => exact hcov h
          rename_i v2
          rcases st with _ | ⟨v1, st⟩
          · exact hcov h
          cases v1
          case int _ => exact hcov h
          case long _ => exact hcov h
          case float _ => exact hcov h
          case null => exact hcov h
          case ref _ => exact hcov h
          case retAddr _ => exact hcov h
          rename_i v1
          obtain rfl : w = 1 := by simpa [am_ck, am_isp, am_iss] using hck
          exact am_R_ddiv hd h.1 (ih _ _ _ _ _ _ hok' h.2)
        case getfield idx =>
          rcases st with _ | ⟨a, st⟩
          · exact hcov h
          cases a
          case int _ => exact hcov h
          case long _ => exact hcov h
          case float _ => exact hcov h
          case double _ => exact hcov h
          case null => exact hcov h
          case retAddr _ => exact hcov h
          rename_i a
          simp only [am_ck, Bool.and_eq_true, decide_eq_true_eq] at hck
          obtain ⟨rfl, hw, hx, hy⟩ := hck
          simp only at h
          split at h
          · rename_i hci
            exact am_R_get hd hw hx hy (Nat.eq_of_beq_eq_true hci) (ih _ _ _ _ _ _ hok' h)
          · exact hcov h
        case putfield idx =>
          rcases st with _ | ⟨v, st⟩
          · exact hcov h
          cases v
          case long _ => exact hcov h
          case float _ => exact hcov h
          case double _ => exact hcov h
          case null => exact hcov h
          case ref _ => exact hcov h
          case retAddr _ => exact hcov h
          rename_i v
          rcases st with _ | ⟨a, st⟩
          · exact hcov h
          cases a
          case int _ => exact hcov h
          case long _ => exact hcov h
          case float _ => exact hcov h
          case double _ => exact hcov h
          case null => exact hcov h
          case retAddr _ => exact hcov h
          rename_i a
          simp only [am_ck, Bool.and_eq_true, decide_eq_true_eq] at hck
          obtain ⟨rfl, hw, hx, hy, hf, hty, hr, hx1⟩ := hck
          simp only at h
          split at h
          · rename_i hci
            exact am_R_put hd hw hx hy hf hty rfl hr hx1 (Nat.eq_of_beq_eq_true hci) rfl (ih _ _ _ _ _ _ hok' h)
          · exact hcov h
        case iaload =>
          rcases st with _ | ⟨v, st⟩
          · exact hcov h
          cases v
          case long _ => exact hcov h
          case float _ => exact hcov h
          case double _ => exact hcov h
          case null => exact hcov h
          case ref _ => exact hcov h
          case retAddr _ => exact hcov h
          rename_i v
          rcases st with _ | ⟨a, st⟩
          · exact hcov h
          cases a
          case int _ => exact hcov h
          case long _ => exact hcov h
          case float _ => exact hcov h
          case double _ => exact hcov h
          case null => exact hcov h
          case retAddr _ => exact hcov h
          rename_i a
          obtain rfl : w = 1 := by simpa [am_ck, am_isp, am_iss] using hck
          simp only at h
          split at h
          · rename_i hr
            obtain ⟨k, h1, h2, h3⟩ := h
            exact am_R_iald hd hL31 hr h1 h2 (ih _ _ _ _ _ _ hok' h3)
          · exact hcov h
        case baload =>
          rcases st with _ | ⟨v, st⟩
          · exact hcov h
          cases v
          case long _ => exact hcov h
          case float _ => exact hcov h
          case double _ => exact hcov h
          case null => exact hcov h
          case ref _ => exact hcov h
          case retAddr _ => exact hcov h
          rename_i v
          rcases st with _ | ⟨a, st⟩
          · exact hcov h
          cases a
          case int _ => exact hcov h
          case long _ => exact hcov h
          case float _ => exact hcov h
          case double _ => exact hcov h
          case null => exact hcov h
          case retAddr _ => exact hcov h
          rename_i a
          obtain rfl : w = 1 := by simpa [am_ck, am_isp, am_iss] using hck
          simp only at h
          split at h
          · rename_i hr
            obtain ⟨k, h1, h2, h3⟩ := h
            exact am_R_zald hd (Nat.eq_of_beq_eq_true hr) h1 h2 (ih _ _ _ _ _ _ hok' h3)
          · exact hcov h
        case iastore =>
          rcases st with _ | ⟨u, st⟩
          · exact hcov h
          cases u
          case long _ => exact hcov h
          case float _ => exact hcov h
          case double _ => exact hcov h
          case null => exact hcov h
          case ref _ => exact hcov h
          case retAddr _ => exact hcov h
          rename_i u
          rcases st with _ | ⟨v, st⟩
          · exact hcov h
          cases v
          case long _ => exact hcov h
          case float _ => exact hcov h
          case double _ => exact hcov h
          case null => exact hcov h
          case ref _ => exact hcov h
          case retAddr _ => exact hcov h
          rename_i v
          rcases st with _ | ⟨a, st⟩
          · exact hcov h
          cases a
          case int _ => exact hcov h
          case long _ => exact hcov h
          case float _ => exact hcov h
          case double _ => exact hcov h
          case null => exact hcov h
          case retAddr _ => exact hcov h
          rename_i a
          obtain rfl : w = 1 := by simpa [am_ck, am_isp, am_iss] using hck
          simp only at h
          split at h
          · rename_i hr
            obtain ⟨k, h1, h2, h3⟩ := h
            exact am_R_iast hd hL31 hr h1 h2 (ih _ _ _ _ _ _ hok' h3)
          · exact hcov h
        case bastore =>
          rcases st with _ | ⟨u, st⟩
          · exact hcov h
          cases u
          case long _ => exact hcov h
          case float _ => exact hcov h
          case double _ => exact hcov h
          case null => exact hcov h
          case ref _ => exact hcov h
          case retAddr _ => exact hcov h
          rename_i u
          rcases st with _ | ⟨v, st⟩
          · exact hcov h
          cases v
          case long _ => exact hcov h
          case float _ => exact hcov h
          case double _ => exact hcov h
          case null => exact hcov h
          case ref _ => exact hcov h
          case retAddr _ => exact hcov h
          rename_i v
          rcases st with _ | ⟨a, st⟩
          · exact hcov h
          cases a
          case int _ => exact hcov h
          case long _ => exact hcov h
          case float _ => exact hcov h
          case double _ => exact hcov h
          case null => exact hcov h
          case retAddr _ => exact hcov h
          rename_i a
          obtain rfl : w = 1 := by simpa [am_ck, am_isp, am_iss] using hck
          simp only at h
          split at h
          · rename_i hr
            obtain ⟨hz, k, h1, h2, h3⟩ := h
            exact am_R_zast hd (Nat.eq_of_beq_eq_true hr) (by rcases hz with rfl | rfl <;> rfl) h1 h2 (ih _ _ _ _ _ _ hok' h3)
          · exact hcov h
        case ireturn =>
          rcases st with _ | ⟨v, st⟩
          · exact hcov h
          cases v
          case long _ => exact hcov h
          case float _ => exact hcov h
          case double _ => exact hcov h
          case null => exact hcov h
          case ref _ => exact hcov h
          case retAddr _ => exact hcov h
          rename_i v
          rcases st with _ | ⟨v9, st⟩
          rotate_left
          · exact hcov h
          obtain rfl : w = 1 := by simpa [am_ck, am_isp, am_iss] using hck
          simp only at h
          split at h
          · rename_i hr
            exact am_R_ret (v := some (.int v)) hd ⟨rfl, .int, hr, rfl⟩ h
          · rename_i hr
            exact am_R_ret (v := some (.int v)) hd ⟨rfl, .boolean, hr, by rcases h.1 with rfl | rfl <;> rfl⟩ h.2
          · exact hcov h
        case lreturn =>
          rcases st with _ | ⟨v, st⟩
          · exact hcov h
          cases v
          case int _ => exact hcov h
          case float _ => exact hcov h
          case double _ => exact hcov h
          case null => exact hcov h
          case ref _ => exact hcov h
          case retAddr _ => exact hcov h
          rename_i v
          rcases st with _ | ⟨v9, st⟩
          rotate_left
          · exact hcov h
          obtain rfl : w = 1 := by simpa [am_ck, am_isp, am_iss] using hck
          simp only at h
          split at h
          · rename_i hr
            exact am_R_ret (v := some (.long v)) hd ⟨rfl, hr⟩ h
          · exact hcov h
        case dreturn =>
          rcases st with _ | ⟨v, st⟩
          · exact hcov h
          cases v
          case int _ => exact hcov h
          case long _ => exact hcov h
          case float _ => exact hcov h
          case null => exact hcov h
          case ref _ => exact hcov h
          case retAddr _ => exact hcov h
          rename_i v
          rcases st with _ | ⟨v9, st⟩
          rotate_left
          · exact hcov h
          obtain rfl : w = 1 := by simpa [am_ck, am_isp, am_iss] using hck
          simp only at h
          split at h
          · rename_i hr
            exact am_R_ret (v := some (.double v)) hd ⟨rfl, hr⟩ h
          · exact hcov h
        case return_ =>
          rcases st with _ | ⟨v9, st⟩
          rotate_left
          · exact hcov h
          obtain rfl : w = 1 := by simpa [am_ck, am_isp, am_iss] using hck
          simp only at h
          split at h
          · rename_i hr
            exact am_R_ret (v := none) hd ⟨rfl, hr⟩ h
          · exact hcov h
        case new idx =>
          rcases st with _ | ⟨v9, st⟩
          rotate_left
          · exact hcov h
          simp only [am_ck, Bool.and_eq_true, decide_eq_true_eq, List.any_eq_true] at hck
          obtain ⟨hx, rfl, rfl, hh, hRX, h6, h90, ⟨q, hq1, hq2⟩, d3, d4, d6, d9⟩ := hck
          cases n with
          | zero => exact hcov h
          | succ n => exact am_R_new (by omega) hx hh hRX h6 h90 ⟨q.2, by rw [← hq2]; exact hq1⟩ hd d3 d4 d6 d9 h
        case invokestatic idx =>
          have hw3 : w = 3 := by
            unfold am_ck at hck
            simp only [Bool.and_eq_true, decide_eq_true_eq] at hck
            exact hck.1
          subst hw3
          have hck2 := hck
          unfold am_ck at hck2
          simp only [Bool.and_eq_true, decide_eq_true_eq] at hck2
          replace hck2 := hck2.2
          by_cases c0 : x = 200
          · subst c0
            rcases st with _ | ⟨v2, st⟩
            · exact hcov h
            cases v2
            case long _ => exact hcov h
            case float _ => exact hcov h
            case double _ => exact hcov h
            case null => exact hcov h
            case ref _ => exact hcov h
            case retAddr _ => exact hcov h
            rename_i v2
            rcases st with _ | ⟨v1, st⟩
            · exact hcov h
            cases v1
            case long _ => exact hcov h
            case float _ => exact hcov h
            case double _ => exact hcov h
            case null => exact hcov h
            case ref _ => exact hcov h
            case retAddr _ => exact hcov h
            rename_i v1
            simp only [Bool.and_eq_true, decide_eq_true_eq] at hck2
            simp only at h
            split at h
            · rename_i hc
              exact am_R_min (w := fun _ => True) hd hck2.1 am_wmin hck2.2.1 hck2.2.2 (Nat.le_of_ble_eq_true hc) (ih _ _ _ _ _ _ hok' h)
            · exact hcov h
          by_cases c1 : x = 201
          · subst c1
            rcases st with _ | ⟨v2, st⟩
            · exact hcov h
            cases v2
            case long _ => exact hcov h
            case float _ => exact hcov h
            case double _ => exact hcov h
            case null => exact hcov h
            case ref _ => exact hcov h
            case retAddr _ => exact hcov h
            rename_i v2
            rcases st with _ | ⟨v1, st⟩
            · exact hcov h
            cases v1
            case long _ => exact hcov h
            case float _ => exact hcov h
            case double _ => exact hcov h
            case null => exact hcov h
            case ref _ => exact hcov h
            case retAddr _ => exact hcov h
            rename_i v1
            simp only [Bool.and_eq_true, decide_eq_true_eq] at hck2
            simp only at h
            split at h
            · rename_i hc
              exact am_R_max hd hck2.1 am_wmax hck2.2.1 hck2.2.2 (Nat.le_of_ble_eq_true hc) (ih _ _ _ _ _ _ hok' h)
            · exact hcov h
          by_cases c2 : x = 202
          · subst c2
            rcases st with _ | ⟨nn, st⟩
            · exact hcov h
            cases nn
            case long _ => exact hcov h
            case float _ => exact hcov h
            case double _ => exact hcov h
            case null => exact hcov h
            case ref _ => exact hcov h
            case retAddr _ => exact hcov h
            rename_i nn
            rcases st with _ | ⟨dp, st⟩
            · exact hcov h
            cases dp
            case long _ => exact hcov h
            case float _ => exact hcov h
            case double _ => exact hcov h
            case null => exact hcov h
            case ref _ => exact hcov h
            case retAddr _ => exact hcov h
            rename_i dp
            rcases st with _ | ⟨dd, st⟩
            · exact hcov h
            cases dd
            case int _ => exact hcov h
            case long _ => exact hcov h
            case float _ => exact hcov h
            case double _ => exact hcov h
            case null => exact hcov h
            case retAddr _ => exact hcov h
            rename_i dd
            rcases st with _ | ⟨sp, st⟩
            · exact hcov h
            cases sp
            case long _ => exact hcov h
            case float _ => exact hcov h
            case double _ => exact hcov h
            case null => exact hcov h
            case ref _ => exact hcov h
            case retAddr _ => exact hcov h
            rename_i sp
            rcases st with _ | ⟨oo, st⟩
            · exact hcov h
            cases oo
            case int _ => exact hcov h
            case long _ => exact hcov h
            case float _ => exact hcov h
            case double _ => exact hcov h
            case null => exact hcov h
            case retAddr _ => exact hcov h
            rename_i oo
            simp only [Bool.and_eq_true, decide_eq_true_eq] at hck2
            simp only at h
            split at h
            · rename_i hc
              simp only [Bool.and_eq_true] at hc
              obtain ⟨sk, dk, nk, e1, e2, e3, b1, b2, h3⟩ := h
              exact am_R_copy hd hck2.1 am_wcpy hck2.2.1 hck2.2.2 (Nat.le_of_ble_eq_true hc.1) (Nat.eq_of_beq_eq_true hc.2.1) (Nat.eq_of_beq_eq_true hc.2.2) e1 e2 e3 b1 b2 (ih _ _ _ _ _ _ hok' h3)
            · exact hcov h
          split at hck2
          · exact absurd rfl c0
          · exact absurd rfl c1
          · exact absurd rfl c2
          simp only [Bool.and_eq_true, decide_eq_true_eq] at hck2
          obtain ⟨hx, hc1, hw0, hl, hst, hcc⟩ := hck2
          simp only at h
          split at h
          rotate_left
          · exact hcov h
          rename_i av r hargs
          split at h
          rotate_left
          · exact hcov h
          rename_i n hcat
          obtain ⟨p0, e1, e2, e3⟩ := am_args_spec _ _ _ hargs
          rw [List.append_nil] at e1
          have hlen : av.length = y := by rw [e1, List.length_reverse, e3]
          rw [← hlen] at hcc
          obtain ⟨g1, g2, g3, g4, g5⟩ := am_ckc_spec hcc
          refine am_R_callS (by rw [hc1]; exact Nat.succ_le_succ (Nat.zero_le n)) (by rw [hc1]; exact Nat.le_refl 1) (Or.inl hc1) (fun h => by rw [hw0] at h; cases h) (am_okM_all x hx) hd hl hst g1 g2 g3 g4 g5 e2 e1 (Nat.le_of_ble_eq_true hcat) (am_C_mono h ?_)
          have hgi : ∀ k : Nat, (if mt_g (am_mt x) = true then k + 1 - mt_c (am_mt x) else k + 1) = (if mt_g (am_mt x) = true then k else k + 1) := fun k => by rw [hc1]; rfl
          exact fun oc M' hK => by
            match oc, hK with
            | .inl none, hK => exact (by unfold am_KK; rw [hgi]; exact ih _ _ _ _ _ _ hok' hK)
            | .inl (some v), hK => exact (by unfold am_KK; rw [hgi]; exact ih _ _ _ _ _ _ hok' hK)
            | .inr E, hK =>
              cases hh : mt_h t with
              | nil =>
                simp only [hh] at hK
                exact Or.inl ⟨hh, hK⟩
              | cons hx hxs =>
                simp only [hh] at hK
                obtain ⟨hp, e1, e2⟩ := hK
                exact Or.inr ⟨hp, by rw [hh]; exact e1, by rw [hc1]; exact e2⟩
        case invokevirtual idx =>
          have hw3 : w = 3 := by
            unfold am_ck at hck
            simp only [Bool.and_eq_true, decide_eq_true_eq] at hck
            exact hck.1
          subst hw3
          have hck2 := hck
          unfold am_ck at hck2
          simp only [Bool.and_eq_true, decide_eq_true_eq] at hck2
          replace hck2 := hck2.2
          obtain ⟨hx, hc1, hw0, hy1, hl, hi, hse, hc5, hcls, hhu, hgu, hcc⟩ := hck2
          simp only at h
          split at h
          rotate_left
          · exact hcov h
          rename_i oo av r hargs
          split at h
          rotate_left
          · exact hcov h
          rename_i n hcat
          simp only [Bool.and_eq_true] at hcat
          obtain ⟨p0, e1, e2, e3⟩ := am_args_spec _ _ _ hargs
          rw [List.append_nil] at e1
          have hlen : av.length = y - 1 := by
            have := congrArg List.length e1
            rw [List.length_reverse, e3, List.length_cons] at this
            omega
          rw [← hlen] at hcc
          obtain ⟨g1, g2, g3, g4, g5⟩ := am_ckc_spec hcc
          refine am_R_callV (by rw [hc1]; exact Nat.succ_le_succ (Nat.zero_le n)) hc1 (fun h => by rw [hw0] at h; cases h) (am_okM_all x hx) hd hl hi hse g1 (Nat.eq_of_beq_eq_true hcat.2) hc5 hcls hhu g2 g3 g4 g5 e2 e1 (Nat.le_of_ble_eq_true hcat.1) (am_C_mono h ?_)
          have hgi : ∀ k : Nat, (if mt_g (am_mt x) = true then k - mt_c (am_mt x) else k) = k := fun k => by rw [hgu]; rfl
          exact fun oc M' hK => by
            match oc, hK with
            | .inl none, hK => exact (by unfold am_KK; rw [hgi]; exact ih _ _ _ _ _ _ hok' hK)
            | .inl (some v), hK => exact (by unfold am_KK; rw [hgi]; exact ih _ _ _ _ _ _ hok' hK)
            | .inr E, hK =>
              cases hh : mt_h t with
              | nil =>
                simp only [hh] at hK
                exact Or.inl ⟨hh, hK⟩
              | cons hx hxs =>
                simp only [hh] at hK
                obtain ⟨hp, e1, e2⟩ := hK
                exact Or.inr ⟨hp, by rw [hh]; exact e1, by rw [hc1]; exact e2⟩
        all_goals exact hcov h
end
section
/-! the array more: made, and calls that work with it or cost more; the script's cell -/
def am_ckS (t u : am_MT) (pc idx z z2 na : Nat) : Bool := decide (decode (mt_b t) pc = .ok (.invokestatic idx, 3)) && (decide (lw_tbl[z]? = some (.methodLink (mt_y t).cls idx (mt_y u))) && (decide (lw_tbl[z2]? = some (.static (mt_y u))) && (decide (mt_c u = 1 ∨ mt_g t = true) && am_ckc t u pc na)))
section AMX
variable {L : am_S} {t : am_MT} {n pc : Nat} {ls st : List Value} {M : am_M} {Q : am_Q}
theorem am_R_special {u : am_MT} {idx z z2 na : Nat} {r av p0 : List Value} (hk : am_okM u) (hn : mt_c u ≤ n) (hc1 : 1 ≤ mt_c u) (hwx : mt_w u = true → mt_w t = true ∧ L.1 = mt_x u) (hck : am_ckS t u pc idx z z2 na = true) (hst : st = p0 ++ r) (hav : av = p0.reverse) (hlen : av.length = na) (hcat : am_cat r ≤ 8)
    (C : am_C u av M (fun oc M' => ∃ v, oc = .inl v ∧ am_R L t (if mt_g u then n - mt_c u else n) (pc + 3) ls (v.toList ++ r) M' Q)) : am_R L t n pc ls st M Q := by
  simp only [am_ckS, Bool.and_eq_true, decide_eq_true_eq] at hck
  obtain ⟨hd, hl, hs, hx0, hcc⟩ := hck
  rw [← hlen] at hcc
  obtain ⟨g1, g2, g3, g4, g5⟩ := am_ckc_spec hcc
  refine am_R_callS hn hc1 hx0 hwx hk hd hl hs g1 g2 g3 g4 g5 hst hav hcat (am_C_mono C ?_)
  rintro oc M' ⟨v, rfl, h⟩
  exact h
/-- a value that doesn't name the array more -/
def am_n17 : Value → Bool
  | .ref o => !Nat.beq o 17
  | _ => true
def am_a17 (a : Nat → Nat) (q : Nat) : Nat → Nat := fun o => if o = 17 then q else a o
theorem am_n17_of {o : Nat} (h : o ≠ 17) : am_n17 (.ref o) = true := by
  show (!Nat.beq o 17) = true
  cases e : Nat.beq o 17 with
  | false => rfl
  | true => exact absurd (Nat.eq_of_beq_eq_true e) h
theorem am_tv_17 {a : Nat → Nat} {q : Nat} {v : Value} (h : am_n17 v = true) : am_tv (am_a17 a q) v = am_tv a v := by
  cases v with
  | ref o =>
    have hne : o ≠ 17 := by
      intro e
      subst e
      cases h
    unfold am_tv am_a17
    by_cases ho : o < 29
    · simp [ho, hne]
    · simp [ho]
  | _ => rfl
theorem am_tv_17s {a : Nat → Nat} {q : Nat} : ∀ {st : List Value}, st.all am_n17 = true → st.map (am_tv (am_a17 a q)) = st.map (am_tv a)
  | [], _ => rfl
  | v :: r, h => by
    simp only [List.all_cons, Bool.and_eq_true] at h
    rw [List.map_cons, List.map_cons, am_tv_17 h.1, am_tv_17s h.2]
theorem am_val_17 : ∀ o, o < 17 → ∀ k, k < am_nf (am_ci o) → ∀ M : am_M, am_n17 (am_val (am_ci o) o k M) = true := by
  have key : ∀ o, o < 17 → ∀ k, k < am_nf (am_ci o) → am_fr (am_ci o) k ≠ 17 := by decide
  intro o ho k hk M
  unfold am_val
  split
  · rename_i h1
    have : o ≠ 16 := by
      intro e
      subst e
      cases h1
    exact am_n17_of (by omega)
  · unfold am_v0
    have hk2 := key o ho k hk
    split
    · rfl
    · rename_i r hr
      rw [hr] at hk2
      exact am_n17_of hk2
theorem am_e_17 (a : Nat → Nat) (g : ClassId × ClassId × Nat) (M : am_M) (q k : Nat) : ∀ o, o < 17 → am_e (am_a17 a q) (g.1, g.2.1, k) M o = am_e a g M o := by
  have h4 : ∀ o, o < 17 → am_kd o ≠ 4 := by decide
  intro o ho
  unfold am_e
  split
  · rfl
  · rfl
  · rename_i h
    exact absurd h (h4 o ho)
  · congr 2
    refine List.map_congr_left fun j hj => ?_
    exact am_tv_17 (am_val_17 o ho j (List.mem_range.mp hj) M)
theorem am_w_0 (a : Nat → Nat) (g : ClassId × ClassId × Nat) (M : am_M) (h : g.2.2 = 0) : am_w a g M = (List.range 17).map (fun o => (a o, am_e a g M o)) := by
  unfold am_w
  rw [h]
  rfl
theorem am_w_17 (a : Nat → Nat) (g : ClassId × ClassId × Nat) (M : am_M) (q k : Nat) (f : Nat → Int32) (h : g.2.2 = 0) (hk : 0 < k) : am_w (am_a17 a q) (g.1, g.2.1, k) (am_set M 17 f) = am_w a g M ++ [(q, .inl (g.1, k, .inl f))] := by
  have e : am_nc k = 17 + 1 := by unfold am_nc; rw [if_neg (by omega)]
  rw [am_w_0 a g M h]
  show (List.range (am_nc k)).map _ = _
  rw [e, List.range_succ, List.map_append]
  have h1 : (List.range 17).map (fun o => (am_a17 a q o, am_e (am_a17 a q) (g.1, g.2.1, k) (am_set M 17 f) o)) = (List.range 17).map (fun o => (a o, am_e a g M o)) := by
    refine List.map_congr_left fun o ho => ?_
    have ho' := List.mem_range.mp ho
    rw [am_e_17 a g _ q k o ho', am_e_same (M := M) (M' := am_set M 17 f) (am_set_ne (by omega))]
    have : am_a17 a q o = a o := by unfold am_a17; rw [if_neg (by omega)]
    rw [this]
  rw [h1]
  rfl
theorem am_P_17 {D : va_G} {a : Nat → Nat} {g : ClassId × ClassId × Nat} {M : am_M} {q k : Nat} {H : Heap} (h : g.2.2 = 0) (hk : 0 < k) (hP : va_P D am_cls (am_w (am_a17 a q) (g.1, g.2.1, k) M) H) : va_P D am_cls (am_w a g M) H := by
  intro i x hx
  have hM : M = am_set M 17 (M 17) := by
    funext o
    unfold am_set
    split
    · rename_i e; rw [e]
    · rfl
  rw [hM, am_w_17 a g M q k (M 17) h hk] at hP
  refine hP i x ?_
  have hlt := (List.getElem?_eq_some_iff.mp hx).1
  rw [List.getElem?_append_left hlt]
  exact hx
theorem am_lv_17 {a : Nat → Nat} {q n : Nat} {ls : List Value} {la : Array Slot} (hls : ls.all am_n17 = true) (h : am_lv a n ls la) : am_lv (am_a17 a q) n ls la := by
  refine ⟨h.1, h.2.1, h.2.2.1, fun i v hi hv => ?_⟩
  rw [am_tv_17 (List.all_eq_true.mp hls v (List.mem_of_getElem? hi))]
  exact h.2.2.2 i v hi hv
theorem nw_i {p : Program} {l : Launch} {e : Env} {R : Room} {s : State} {m : MethodId} {args : Array Value} {below : List Frame} {meth : Method} {c : Code} {H H0 : Heap} {locs : List Loc} {cells slots pc : Nat} {Q : State → Prop} {cc : ByteArray} {ls : Array Slot} {rest : List Value} {D : va_G} {g : ClassId × ClassId × Nat} {ws : va_W} {A : Nat → Prop}
    (hexec : p.tables.exec = Jvm.exec) (hb : c.code = cc) (harr : (Jvm.Cond.arrayClass .int).before args s = true) (hK : va_K D am_cls (am_tys g) s) (hP : va_P D am_cls ws H) (hD : va_D A ws) (hS : va_S A H0 H locs) (hA : ∀ q, H0.size ≤ q → A q) {n : Int32} {N' : Nat} (hn : n = nI N') (hN : N' ≤ 5000) (hcells : cells + 1 ≤ R.cells) (hslots : slots + N' ≤ R.slots) (hdg : decode cc pc = .ok (.newarray .int, 2))
    (kk : ∀ (q : Nat) (H1 : Heap), va_P D am_cls (ws ++ [(q, .inl (g.1, N', .inl (fun _ => 0)))]) H1 → va_D A (ws ++ [(q, .inl (g.1, N', .inl (fun _ => 0)))]) → va_S A H0 H1 locs → W p l e R s m args below meth c H1 locs (cells + 1) (slots + N') Q (F0 m (pc + 2) ls (.ref q :: rest))) : W p l e R s m args below meth c H locs cells slots Q (F0 m pc ls (.int n :: rest)) := by
  subst hn
  refine va_newa (atype := .int) (ty := .int) hexec hb harr rfl hK hP hD hS hA (N' := N') (a0 := (N', .inl (fun _ => 0))) (fun cA => rfl) (nI_pos (by omega)) (nI_clamp (by omega)) (by show N' * 4 ≤ _; omega) hcells hslots hdg (fun q cA H1 hK1 hP1 hD1 hS1 => ?_)
  have e : cA = g.1 := Option.some.inj ((va_nm_int (hK1.2 2 (cA, .int) rfl).2).symm.trans (va_nm_int (hK.2 0 (g.1, .int) rfl).2))
  subst e
  exact kk q H1 hP1 hD1 hS1
theorem am_R_newarr {z k w : Nat} {v : Int32} (hd : decode (mt_b t) pc = .ok (.newarray .int, 2)) (hw : lw_tbl[z]? = some (.arrayClass .int)) (hL : L.1 = 0) (hv : v = nI k) (hk : 0 < k) (hk5 : k ≤ 5000) (hw1 : 1 ≤ w) (hkw : k ≤ 6 * w) (htw : mt_w t = true) (htv : mt_v t = false) (htg : mt_g t = true) (hls : ls.all am_n17 = true) (hst : st.all am_n17 = true)
    (kk : am_R (k, L.2) t n (pc + 2) ls (.ref 17 :: st) (am_set M 17 (fun _ => 0)) Q) : am_R L t (n + w) pc ls (.int v :: st) M Q := by
  intro p l e R s m args below meth c a D g A cells slots QQ hE hC h1 h2 hEnd H locs la hW hLv
  have hx0 : g.2.2 = 0 := (hC.2.2.2.2.2 htw).trans hL
  refine nw_i (g := g) (N' := k) hE.1 hE.2.1 (hE.2.2.2.2.1 _ (am_good_of hw rfl)) hC.1 hW.1 (hC.2.1 M) hW.2.1 hC.2.2.1 hv hk5 (by omega) (by omega) hd (fun q H1 hP1 hD1 hS1 => ?_)
  refine W.widen (k := cells + w) (n := slots + 6 * w) (by omega) (by omega) ?_
  rw [← am_w_17 a g M q k (fun _ => 0) hx0 hk] at hP1 hD1
  have hS17 : st.map (am_tv a) = st.map (am_tv (am_a17 a q)) := (am_tv_17s hst).symm
  have e17 : Value.ref q = am_tv (am_a17 a q) (.ref 17) := rfl
  show W p l e R s m args below meth c H1 locs (cells + w) (slots + 6 * w) QQ (F0 m (pc + 2) la (.ref q :: st.map (am_tv a)))
  rw [hS17, e17, ← List.map_cons]
  have hWl : ∀ (M' : am_M) (H' : Heap) (locs' : List Loc), am_Wl (k, L.2) t (am_a17 a q) D (g.1, g.2.1, k) A s M' H' locs' → am_Wl L t a D g A s M' H' locs' := fun M' H' locs' h => ⟨am_P_17 hx0 hk h.1, h.2.1, fun h9 => by rw [htv] at h9; cases h9⟩
  refine kk p l e R s m args below meth c (am_a17 a q) D (g.1, g.2.1, k) A (cells + w) (slots + 6 * w) QQ hE ⟨hC.1, fun M' => am_D_any hD1 M', hC.2.2.1, hC.2.2.2.1, (fun h => by rw [htv] at h; cases h), fun _ => rfl⟩ (by omega) (by omega) ?_ H1 locs la ⟨hP1, hS1, fun h => by rw [htv] at h; cases h⟩ (am_lv_17 hls hLv)
  have hEnd2 := am_End_shift htg hEnd
  intro k2 hk2 h0
  obtain ⟨e1, e2, e3⟩ := hEnd2 k2 hk2 h0
  refine ⟨?_, ?_, ?_⟩
  · intro v2 M2 H2 locs2 pc2 la2 i2 q1 q2 q3 q4 q5
    have ev : v2.map (am_tv (am_a17 a q)) = v2.map (am_tv a) := by
      match v2, q3 with
      | none, _ => rfl
      | some (.int x), _ => rfl
      | some (.long x), _ => rfl
      | some (.double x), _ => rfl
    rw [ev]
    exact e1 v2 M2 H2 locs2 pc2 la2 i2 q1 (hWl _ _ _ q2) q3 q4 q5
  · intro E M2 H2 locs2 pc2 la2 rest2 q2 ce z1 z2
    exact e2 E M2 H2 locs2 pc2 la2 rest2 q2 ce z1 (hWl _ _ _ z2)
  · intro x M2 H2 locs2 pc2 la2 rest2 ik ii ic z1 z2
    exact e3 x M2 H2 locs2 pc2 la2 rest2 ik ii ic z1 (hWl _ _ _ z2)
end AMX
/-- the number that the law reads at the place k of its script -/
def lw_cell (S : Nat × (Nat → Int32)) (k : Nat) : Int32 := if k < S.1 then S.2 k else nI 668265263 * (nI k + nI 1)
theorem cell_pre_blind (av : List Value) (a : Nat → Nat) (D : va_G) (g : ClassId × ClassId × Nat) (M : am_M) (sz b n : Nat) (xs : Nat → Int32) : FrameBlind (va_Pc av (fun U => am_Pre a D g M sz U ∧ va_X b n xs U U.heap)) := by
  rintro v U g' mk ⟨h0, h1, h2⟩
  exact ⟨h0, (am_blind av a D g M sz v U g' mk ⟨h0, h1⟩).2, va_X.moved (u := U) (U := U.calling g' mk v) (Vm.Alike.refl U.vm) h2⟩
set_option maxHeartbeats 1000000 in
theorem cell_met (l : Launch) (a : Nat → Nat) (D : va_G) (g : ClassId × ClassId × Nat) (M : am_M) (sz k : Nat) (S : Nat × (Nat → Int32)) (K : am_Q) (hb : a 27 < sz) (hbA : ¬ va_A (am_w a g M) sz (a 27)) (hk : k + 1 < 2 ^ 31) (hS : S.1 < 2 ^ 31) (hK : K (.inl (some (.int (lw_cell S k)))) M) :
    vx_Met l (mt_y mt_L_cell) (am_ws mt_L_cell) (am_rm mt_L_cell) (va_Pc ([Value.ref 27, .int (nI k)].map (am_tv a)) (fun U => am_Pre a D g M sz U ∧ va_X (a 27) S.1 S.2 U U.heap)) (am_Qc mt_L_cell a D g (va_A (am_w a g M) sz) K) (am_XC a D g (va_A (am_w a g M) sz) K) 1 6 (va_A (am_w a g M) sz) := by
  refine vx_ofW (cc := mt_b mt_L_cell) (maxL := 2) (ret := some .int) (ws' := am_good) (by decide) rfl ?_
  intro p e s m args below meth c s₁ B hml ht hv
  obtain ⟨rfl, ⟨rfl, hP, hK9, hD0, hSF⟩, hX⟩ := hv
  have hts0 := atoms_spec (ws := am_ws mt_L_cell) B.pre
  have hts : ∀ w ∈ am_good, w.before (([Value.ref 27, .int (nI k)].map (am_tv a))).toArray s = true := fun w h => hts0 w (List.mem_cons_of_mem _ h)
  have hown : s.vm.findClass "DyeVatsLaw" = some m.cls := findClass_of_methodNamed B.named
  have hD := hD0.self (sz := s.heap.size)
  have hS0 : va_S (va_A (am_w a g M) s.heap.size) s.heap s.heap [] := va_S.rf
  have hl : am_lv a 2 [.ref 27, .int (nI k)] ((lg_sl ([Value.ref 27, .int (nI k)].map (am_tv a)) ++ List.replicate (2 - (lg_sl ([Value.ref 27, .int (nI k)].map (am_tv a))).length) Slot.unset).toArray) := am_entry_lv a (av := [.ref 27, .int (nI k)]) (n := 2) (Nat.le_refl 2)
  have hx := B.exec
  have hbc := B.bytes
  rw [lg_entry_eq]
  revert hl
  generalize ((lg_sl ([Value.ref 27, .int (nI k)].map (am_tv a)) ++ List.replicate (2 - (lg_sl ([Value.ref 27, .int (nI k)].map (am_tv a))).length) Slot.unset).toArray) = la
  intro hl
  have fin : ∀ pc : Nat, decode (mt_b mt_L_cell) pc = .ok (.ireturn, 1) → W p l e (headSpec (am_ws mt_L_cell) (am_rm mt_L_cell)).room s m ([Value.ref 27, .int (nI k)].map (am_tv a)).toArray below meth c s.heap [] 0 0 (vx_MQ below (am_Qc mt_L_cell a D g (va_A (am_w a g M) s.heap.size) K) (am_XC a D g (va_A (am_w a g M) s.heap.size) K) ([Value.ref 27, .int (nI k)].map (am_tv a)).toArray s 1 6 (va_A (am_w a g M) s.heap.size)) (F0 m pc la [.int (lw_cell S k)]) := by
    intro pc hd
    refine am_zret hx hbc B.returns rfl (fun u hu _ hfe => ⟨⟨some (.int (lw_cell S k)), M, rfl, hK, by rw [hu]; exact hP⟩, hS0.F hu, fun _ => ⟨[], hfe⟩⟩) (fun q hq => by cases hq) hd B.notSynchronized (by omega) (by omega)
  have e27 : am_tv a (.ref 27) = .ref (a 27) := am_tv_ref (by decide)
  refine am_pu_W (a := a) (st := []) hx hbc hl (i := .iload_n 1) (w := 1) rfl (by decide +kernel) rfl ?_
  refine am_pu_W (a := a) (st := [.int (nI k)]) hx hbc hl (i := .aload_n 0) (w := 1) rfl (by decide +kernel) rfl ?_
  show W p l e _ s m _ below meth c s.heap [] 0 0 _ (F0 m 2 la [am_tv a (.ref 27), .int (nI k)])
  rw [e27]
  refine va_slen hx hbc hX hb hbA hS0 (by decide +kernel) ?_
  refine am_if2_W hx hbc (cd := .ge) (o := 9) (by decide +kernel) (by decide) (fun c2 => ?_) (fun c2 => ?_)
  · have hge : ¬ k < S.1 := by
      intro q
      have h1 : Int32.ofNat S.1 ≤ nI k := c2
      have h2 : nI S.1 ≤ nI k := h1
      rw [Int32.le_iff_toInt_le, nI_toInt hS, nI_toInt (by omega)] at h2
      omega
    refine lv_ldc hx hbc hown (hts _ (am_good_of (k := 314) rfl rfl)) (by decide +kernel) ?_
    refine am_pu_W (a := a) (st := [.int (nI 668265263)]) hx hbc hl (i := .iload_n 1) (w := 1) rfl (by decide +kernel) rfl ?_
    refine am_pu_W (a := a) (st := [.int (nI k), .int (nI 668265263)]) hx hbc hl (i := .iconst 1) (w := 1) rfl (by decide +kernel) rfl ?_
    refine am_pu_W (a := a) (st := [.int (nI 1), .int (nI k), .int (nI 668265263)]) hx hbc hl (i := .iadd) (w := 1) rfl (by decide +kernel) rfl ?_
    refine am_pu_W (a := a) (st := [.int (nI k + nI 1), .int (nI 668265263)]) hx hbc hl (i := .imul) (w := 1) rfl (by decide +kernel) rfl ?_
    have h := fin 18 (by decide +kernel)
    rw [show lw_cell S k = nI 668265263 * (nI k + nI 1) by unfold lw_cell; rw [if_neg hge]] at h
    exact h
  · have hlt : k < S.1 := by
      have h1 : ¬ Int32.ofNat S.1 ≤ nI k := c2
      have h2 : ¬ nI S.1 ≤ nI k := h1
      rw [Int32.le_iff_toInt_le, nI_toInt hS, nI_toInt (by omega)] at h2
      omega
    refine am_pu_W (a := a) (st := []) hx hbc hl (i := .aload_n 0) (w := 1) rfl (by decide +kernel) rfl ?_
    refine am_pu_W (a := a) (st := [.ref 27]) hx hbc hl (i := .iload_n 1) (w := 1) rfl (by decide +kernel) rfl ?_
    show W p l e _ s m _ below meth c s.heap [] 0 0 _ (F0 m 8 la [.int (nI k), am_tv a (.ref 27)])
    rw [e27]
    refine va_sld hx hbc hX hb hbA hS0 (vp_in_nI hlt hS) (by decide +kernel) ?_
    rw [nI_clamp (by omega)]
    refine lv_goto hx hbc (off := 9) (show decode (mt_b mt_L_cell) 9 = .ok (.goto 9, 3) by decide +kernel) (show ((9 : Nat) : Int) + 9 = ((18 : Nat) : Int) by decide) ?_
    have h := fin 18 (by decide +kernel)
    rw [show lw_cell S k = S.2 k by unfold lw_cell; rw [if_pos hlt]] at h
    exact h
theorem am_R_cell {L : am_S} {t : am_MT} {n pc : Nat} {ls r : List Value} {M : am_M} {Q : am_Q} {idx z z2 k : Nat} (htv : mt_v t = true) (hn : 1 ≤ n) (hd : decode (mt_b t) pc = .ok (.invokestatic idx, 3)) (hl : lw_tbl[z]? = some (.methodLink (mt_y t).cls idx (mt_y mt_L_cell))) (hs : lw_tbl[z2]? = some (.static (mt_y mt_L_cell))) (hcc : am_ckc t mt_L_cell pc 2 = true) (hcat : am_cat r ≤ 8) (hk : k + 1 < 2 ^ 31) (hS : L.2.1 < 2 ^ 31)
    (kk : am_R L t n (pc + 3) ls (.int (lw_cell L.2 k) :: r) M Q) : am_R L t n pc ls (.int (nI k) :: .ref 27 :: r) M Q := by
  obtain ⟨g1, g2, g3, g4, g5⟩ := am_ckc_spec hcc
  intro p l e R s m args below meth c a D g A cells slots QQ hE hC h1 h2 hEnd H locs la hW hL
  obtain ⟨hx, hb, hml, hown, hts, hlk, hst9, htab, hret, hrfR, hrlR⟩ := id hE
  have hk9 : am_okM mt_L_cell := om_L_cell
  have hGI := am_ws_gi hk9
  have hX := hW.2.2 htv
  obtain ⟨hb27, hbA⟩ := hC.2.2.2.2.1 htv
  have hH : a 27 < H.size := Nat.lt_of_lt_of_le hb27 hW.2.1.1
  have hbA2 : ¬ va_A (am_w a g M) H.size (a 27) := by
    intro h
    rcases h with ⟨j, e9, hj⟩ | h
    · exact hbA ((hC.2.1 M).2 j _ hj)
    · omega
  have hM := cell_met l a D g M H.size k L.2 (am_KK L t mt_L_cell n pc ls r Q) hH hbA2 hk hS kk
  have hp : PreS s H (va_Pc ([Value.ref 27, .int (nI k)].map (am_tv a)) (fun U => am_Pre a D g M H.size U ∧ va_X (a 27) L.2.1 L.2.2 U U.heap)) ([Value.ref 27, .int (nI k)].map (am_tv a)) := ⟨cell_pre_blind _ _ _ _ _ _ _ _ _, fun U hU hWm => ⟨rfl, am_pre_at hC hW U hU hWm, by
    rw [hU]
    exact (va_X.moved hWm.alike hX).kept (hW.2.1.2.1 _ hb27 hbA)⟩⟩
  have hWs : 2 * (F0 m pc la ((.int (nI k) :: .ref 27 :: r : List Value).map (am_tv a))).monitorRoom + ((r.map (am_tv a)).map fun v => v.category).sum ≤ 8 := lv_room (by rw [am_cat_map]; exact hcat)
  have hrfR' : mt_rf mt_L_cell + 1 ≤ R.frames := Nat.le_trans g2 hrfR
  have hrlR' : 8 + (mt_l mt_L_cell + 11) + mt_rl mt_L_cell ≤ R.locals := Nat.le_trans g3 hrlR
  refine am_call_end hE hC hn (Nat.le_refl 1) (Or.inl rfl) h1 h2 hEnd hW hL g4 g5 ?_ (aa := ([Value.ref 27, .int (nI k)].map (am_tv a)).toArray) (r := r) (u := mt_L_cell)
  exact vx_runS (cc := mt_b t) (nL := mt_l t) (n := 2) (Ts := am_good) (own := (mt_y t).cls) (index := idx) ⟨hx, hb, hml, hown, hts⟩ hM
    ⟨callB_of (bytes := mt_b mt_L_cell) (maxL := mt_l mt_L_cell) (ret := mt_r mt_L_cell) 2 hts hGI rfl rfl rfl (hts _ hk9.2.1) (hts _ (am_good_of hl rfl)) ⟨hk9.2.2.1, hk9.2.2.2.1, g1⟩ ⟨hrfR', hrlR'⟩, hts _ (am_good_of hs rfl)⟩ hp rfl rfl hL.1 rfl hWs hd ⟨by show cells + 1 ≤ R.cells; omega, by show slots + 6 * 1 ≤ R.slots; omega⟩
end
section
/-! State, Text, Days and the JDK: blocks of code, written by wip/p29/mk15.py out of what TURN printed of the program -/
def k_J_bitCount_0 : List am_I := [(.iload_n 0, 1, 0, 0, 0), (.iload_n 0, 1, 0, 0, 0), (.iconst 1, 1, 0, 0, 0), (.iushr, 1, 0, 0, 0), (.ldc_w 265, 3, 1431655765, 0, 378), (.iand, 1, 0, 0, 0), (.isub, 1, 0, 0, 0), (.istore_n 0, 1, 0, 0, 0), (.iload_n 0, 1, 0, 0, 0), (.ldc_w 266, 3, 858993459, 0, 379), (.iand, 1, 0, 0, 0), (.iload_n 0, 1, 0, 0, 0), (.iconst 2, 1, 0, 0, 0), (.iushr, 1, 0, 0, 0), (.ldc_w 266, 3, 858993459, 0, 379), (.iand, 1, 0, 0, 0), (.iadd, 1, 0, 0, 0), (.istore_n 0, 1, 0, 0, 0), (.iload_n 0, 1, 0, 0, 0), (.iload_n 0, 1, 0, 0, 0), (.iconst 4, 1, 0, 0, 0), (.iushr, 1, 0, 0, 0), (.iadd, 1, 0, 0, 0), (.ldc_w 267, 3, 252645135, 0, 380), (.iand, 1, 0, 0, 0), (.istore_n 0, 1, 0, 0, 0), (.iload_n 0, 1, 0, 0, 0), (.iload_n 0, 1, 0, 0, 0), (.bipush 8, 2, 0, 0, 0), (.iushr, 1, 0, 0, 0), (.iadd, 1, 0, 0, 0), (.istore_n 0, 1, 0, 0, 0), (.iload_n 0, 1, 0, 0, 0), (.iload_n 0, 1, 0, 0, 0), (.bipush 16, 2, 0, 0, 0), (.iushr, 1, 0, 0, 0), (.iadd, 1, 0, 0, 0), (.istore_n 0, 1, 0, 0, 0), (.iload_n 0, 1, 0, 0, 0), (.bipush 63, 2, 0, 0, 0), (.iand, 1, 0, 0, 0), (.ireturn, 1, 0, 0, 0)]
set_option maxRecDepth 20000 in
theorem o_J_bitCount_0 : am_okB mt_J_bitCount 0 k_J_bitCount_0 = true := by decide +kernel
theorem g_J_bitCount_0 {L : am_S} {n : Nat} {ls st : List Value} {M : am_M} {Q : am_Q} (h : am_B L mt_J_bitCount k_J_bitCount_0 n 0 ls st M Q) : am_R L mt_J_bitCount n 0 ls st M Q := am_go L mt_J_bitCount (fun h => by cases h) k_J_bitCount_0 n 0 ls st M Q o_J_bitCount_0 h
def k_S_takeFrom_0 : List am_I := [(.aload_n 1, 1, 0, 0, 0), (.getfield 9, 3, 1, 0, 43), (.iconst 0, 1, 0, 0, 0), (.aload_n 0, 1, 0, 0, 0), (.getfield 9, 3, 1, 0, 43), (.iconst 0, 1, 0, 0, 0), (.bipush 105, 2, 0, 0, 0), (.invokestatic 15, 3, 202, 5, 216), (.return_, 1, 0, 0, 0)]
set_option maxRecDepth 20000 in
theorem o_S_takeFrom_0 : am_okB mt_S_takeFrom 0 k_S_takeFrom_0 = true := by decide +kernel
theorem g_S_takeFrom_0 {L : am_S} {n : Nat} {ls st : List Value} {M : am_M} {Q : am_Q} (h : am_B L mt_S_takeFrom k_S_takeFrom_0 n 0 ls st M Q) : am_R L mt_S_takeFrom n 0 ls st M Q := am_go L mt_S_takeFrom (fun h => by cases h) k_S_takeFrom_0 n 0 ls st M Q o_S_takeFrom_0 h
def k_S_hourOfDay_0 : List am_I := [(.aload_n 0, 1, 0, 0, 0), (.getfield 9, 3, 1, 0, 43), (.bipush 52, 2, 0, 0, 0), (.iaload, 1, 0, 0, 0), (.bipush 24, 2, 0, 0, 0), (.irem, 1, 0, 0, 0), (.ireturn, 1, 0, 0, 0)]
set_option maxRecDepth 20000 in
theorem o_S_hourOfDay_0 : am_okB mt_S_hourOfDay 0 k_S_hourOfDay_0 = true := by decide +kernel
theorem g_S_hourOfDay_0 {L : am_S} {n : Nat} {ls st : List Value} {M : am_M} {Q : am_Q} (h : am_B L mt_S_hourOfDay k_S_hourOfDay_0 n 0 ls st M Q) : am_R L mt_S_hourOfDay n 0 ls st M Q := am_go L mt_S_hourOfDay (fun h => by cases h) k_S_hourOfDay_0 n 0 ls st M Q o_S_hourOfDay_0 h
def k_S_limitIn_0 : List am_I := [(.iload_n 1, 1, 0, 0, 0), (.invokestatic 21, 3, 19, 1, 239), (.ifCond .eq 26, 3, 0, 0, 0), (.aload_n 0, 1, 0, 0, 0), (.getfield 9, 3, 1, 0, 43), (.bipush 10, 2, 0, 0, 0), (.iload_n 1, 1, 0, 0, 0), (.iadd, 1, 0, 0, 0), (.iaload, 1, 0, 0, 0), (.aload_n 0, 1, 0, 0, 0), (.getfield 9, 3, 1, 0, 43), (.bipush 51, 2, 0, 0, 0), (.iaload, 1, 0, 0, 0), (.imul, 1, 0, 0, 0), (.bipush 100, 2, 0, 0, 0), (.idiv, 1, 0, 0, 0), (.goto 4, 3, 0, 0, 0)]
set_option maxRecDepth 20000 in
theorem o_S_limitIn_0 : am_okB mt_S_limitIn 0 k_S_limitIn_0 = true := by decide +kernel
theorem g_S_limitIn_0 {L : am_S} {n : Nat} {ls st : List Value} {M : am_M} {Q : am_Q} (h : am_B L mt_S_limitIn k_S_limitIn_0 n 0 ls st M Q) : am_R L mt_S_limitIn n 0 ls st M Q := am_go L mt_S_limitIn (fun h => by cases h) k_S_limitIn_0 n 0 ls st M Q o_S_limitIn_0 h
def k_S_limitIn_30 : List am_I := [(.iconst 0, 1, 0, 0, 0)]
set_option maxRecDepth 20000 in
theorem o_S_limitIn_30 : am_okB mt_S_limitIn 30 k_S_limitIn_30 = true := by decide +kernel
theorem g_S_limitIn_30 {L : am_S} {n : Nat} {ls st : List Value} {M : am_M} {Q : am_Q} (h : am_B L mt_S_limitIn k_S_limitIn_30 n 30 ls st M Q) : am_R L mt_S_limitIn n 30 ls st M Q := am_go L mt_S_limitIn (fun h => by cases h) k_S_limitIn_30 n 30 ls st M Q o_S_limitIn_30 h
def k_S_limitIn_31 : List am_I := [(.ireturn, 1, 0, 0, 0)]
set_option maxRecDepth 20000 in
theorem o_S_limitIn_31 : am_okB mt_S_limitIn 31 k_S_limitIn_31 = true := by decide +kernel
theorem g_S_limitIn_31 {L : am_S} {n : Nat} {ls st : List Value} {M : am_M} {Q : am_Q} (h : am_B L mt_S_limitIn k_S_limitIn_31 n 31 ls st M Q) : am_R L mt_S_limitIn n 31 ls st M Q := am_go L mt_S_limitIn (fun h => by cases h) k_S_limitIn_31 n 31 ls st M Q o_S_limitIn_31 h
def k_S_pipesLaid_0 : List am_I := [(.iconst 0, 1, 0, 0, 0), (.istore_n 1, 1, 0, 0, 0), (.iconst 0, 1, 0, 0, 0), (.istore_n 2, 1, 0, 0, 0)]
set_option maxRecDepth 20000 in
theorem o_S_pipesLaid_0 : am_okB mt_S_pipesLaid 0 k_S_pipesLaid_0 = true := by decide +kernel
theorem g_S_pipesLaid_0 {L : am_S} {n : Nat} {ls st : List Value} {M : am_M} {Q : am_Q} (h : am_B L mt_S_pipesLaid k_S_pipesLaid_0 n 0 ls st M Q) : am_R L mt_S_pipesLaid n 0 ls st M Q := am_go L mt_S_pipesLaid (fun h => by cases h) k_S_pipesLaid_0 n 0 ls st M Q o_S_pipesLaid_0 h
def k_S_pipesLaid_4 : List am_I := [(.iload_n 2, 1, 0, 0, 0), (.iconst 5, 1, 0, 0, 0), (.if_icmp .ge 23, 3, 0, 0, 0), (.iload_n 1, 1, 0, 0, 0), (.aload_n 0, 1, 0, 0, 0), (.getfield 9, 3, 1, 0, 43), (.iconst 5, 1, 0, 0, 0), (.iload_n 2, 1, 0, 0, 0), (.iadd, 1, 0, 0, 0), (.iaload, 1, 0, 0, 0), (.invokestatic 25, 3, 0, 1, 375), (.iadd, 1, 0, 0, 0), (.istore_n 1, 1, 0, 0, 0), (.iinc 2 1, 3, 0, 0, 0), (.goto (-22), 3, 0, 0, 0)]
set_option maxRecDepth 20000 in
theorem o_S_pipesLaid_4 : am_okB mt_S_pipesLaid 4 k_S_pipesLaid_4 = true := by decide +kernel
theorem g_S_pipesLaid_4 {L : am_S} {n : Nat} {ls st : List Value} {M : am_M} {Q : am_Q} (h : am_B L mt_S_pipesLaid k_S_pipesLaid_4 n 4 ls st M Q) : am_R L mt_S_pipesLaid n 4 ls st M Q := am_go L mt_S_pipesLaid (fun h => by cases h) k_S_pipesLaid_4 n 4 ls st M Q o_S_pipesLaid_4 h
def k_S_pipesLaid_29 : List am_I := [(.iload_n 1, 1, 0, 0, 0), (.iconst 2, 1, 0, 0, 0), (.idiv, 1, 0, 0, 0), (.ireturn, 1, 0, 0, 0)]
set_option maxRecDepth 20000 in
theorem o_S_pipesLaid_29 : am_okB mt_S_pipesLaid 29 k_S_pipesLaid_29 = true := by decide +kernel
theorem g_S_pipesLaid_29 {L : am_S} {n : Nat} {ls st : List Value} {M : am_M} {Q : am_Q} (h : am_B L mt_S_pipesLaid k_S_pipesLaid_29 n 29 ls st M Q) : am_R L mt_S_pipesLaid n 29 ls st M Q := am_go L mt_S_pipesLaid (fun h => by cases h) k_S_pipesLaid_29 n 29 ls st M Q o_S_pipesLaid_29 h
def k_S_waterInAll_0 : List am_I := [(.iconst 0, 1, 0, 0, 0), (.istore_n 1, 1, 0, 0, 0), (.iconst 0, 1, 0, 0, 0), (.istore_n 2, 1, 0, 0, 0)]
set_option maxRecDepth 20000 in
theorem o_S_waterInAll_0 : am_okB mt_S_waterInAll 0 k_S_waterInAll_0 = true := by decide +kernel
theorem g_S_waterInAll_0 {L : am_S} {n : Nat} {ls st : List Value} {M : am_M} {Q : am_Q} (h : am_B L mt_S_waterInAll k_S_waterInAll_0 n 0 ls st M Q) : am_R L mt_S_waterInAll n 0 ls st M Q := am_go L mt_S_waterInAll (fun h => by cases h) k_S_waterInAll_0 n 0 ls st M Q o_S_waterInAll_0 h
def k_S_waterInAll_4 : List am_I := [(.iload_n 2, 1, 0, 0, 0), (.iconst 5, 1, 0, 0, 0), (.if_icmp .ge 21, 3, 0, 0, 0), (.iload_n 1, 1, 0, 0, 0), (.aload_n 0, 1, 0, 0, 0), (.getfield 9, 3, 1, 0, 43), (.bipush 10, 2, 0, 0, 0), (.iload_n 2, 1, 0, 0, 0), (.iadd, 1, 0, 0, 0), (.iaload, 1, 0, 0, 0), (.iadd, 1, 0, 0, 0), (.istore_n 1, 1, 0, 0, 0), (.iinc 2 1, 3, 0, 0, 0), (.goto (-20), 3, 0, 0, 0)]
set_option maxRecDepth 20000 in
theorem o_S_waterInAll_4 : am_okB mt_S_waterInAll 4 k_S_waterInAll_4 = true := by decide +kernel
theorem g_S_waterInAll_4 {L : am_S} {n : Nat} {ls st : List Value} {M : am_M} {Q : am_Q} (h : am_B L mt_S_waterInAll k_S_waterInAll_4 n 4 ls st M Q) : am_R L mt_S_waterInAll n 4 ls st M Q := am_go L mt_S_waterInAll (fun h => by cases h) k_S_waterInAll_4 n 4 ls st M Q o_S_waterInAll_4 h
def k_S_waterInAll_27 : List am_I := [(.iload_n 1, 1, 0, 0, 0), (.ireturn, 1, 0, 0, 0)]
set_option maxRecDepth 20000 in
theorem o_S_waterInAll_27 : am_okB mt_S_waterInAll 27 k_S_waterInAll_27 = true := by decide +kernel
theorem g_S_waterInAll_27 {L : am_S} {n : Nat} {ls st : List Value} {M : am_M} {Q : am_Q} (h : am_B L mt_S_waterInAll k_S_waterInAll_27 n 27 ls st M Q) : am_R L mt_S_waterInAll n 27 ls st M Q := am_go L mt_S_waterInAll (fun h => by cases h) k_S_waterInAll_27 n 27 ls st M Q o_S_waterInAll_27 h
def k_S_vatProperty_0 : List am_I := [(.iload_n 1, 1, 0, 0, 0), (.invokestatic 21, 3, 19, 1, 239), (.ifCond .ne 5, 3, 0, 0, 0), (.iconst 0, 1, 0, 0, 0), (.ireturn, 1, 0, 0, 0)]
set_option maxRecDepth 20000 in
theorem o_S_vatProperty_0 : am_okB mt_S_vatProperty 0 k_S_vatProperty_0 = true := by decide +kernel
theorem g_S_vatProperty_0 {L : am_S} {n : Nat} {ls st : List Value} {M : am_M} {Q : am_Q} (h : am_B L mt_S_vatProperty k_S_vatProperty_0 n 0 ls st M Q) : am_R L mt_S_vatProperty n 0 ls st M Q := am_go L mt_S_vatProperty (fun h => by cases h) k_S_vatProperty_0 n 0 ls st M Q o_S_vatProperty_0 h
def k_S_vatProperty_9 : List am_I := [(.iload_n 2, 1, 0, 0, 0), (.tableswitch 110 0 8 #[50, 59, 69, 69, 69, 85, 85, 85, 101], 50, 0, 0, 0)]
set_option maxRecDepth 20000 in
theorem o_S_vatProperty_9 : am_okB mt_S_vatProperty 9 k_S_vatProperty_9 = true := by decide +kernel
theorem g_S_vatProperty_9 {L : am_S} {n : Nat} {ls st : List Value} {M : am_M} {Q : am_Q} (h : am_B L mt_S_vatProperty k_S_vatProperty_9 n 9 ls st M Q) : am_R L mt_S_vatProperty n 9 ls st M Q := am_go L mt_S_vatProperty (fun h => by cases h) k_S_vatProperty_9 n 9 ls st M Q o_S_vatProperty_9 h
def k_S_vatProperty_60 : List am_I := [(.aload_n 0, 1, 0, 0, 0), (.getfield 9, 3, 1, 0, 43), (.iconst 0, 1, 0, 0, 0), (.iload_n 1, 1, 0, 0, 0), (.iadd, 1, 0, 0, 0), (.iaload, 1, 0, 0, 0), (.ireturn, 1, 0, 0, 0)]
set_option maxRecDepth 20000 in
theorem o_S_vatProperty_60 : am_okB mt_S_vatProperty 60 k_S_vatProperty_60 = true := by decide +kernel
theorem g_S_vatProperty_60 {L : am_S} {n : Nat} {ls st : List Value} {M : am_M} {Q : am_Q} (h : am_B L mt_S_vatProperty k_S_vatProperty_60 n 60 ls st M Q) : am_R L mt_S_vatProperty n 60 ls st M Q := am_go L mt_S_vatProperty (fun h => by cases h) k_S_vatProperty_60 n 60 ls st M Q o_S_vatProperty_60 h
def k_S_vatProperty_69 : List am_I := [(.aload_n 0, 1, 0, 0, 0), (.getfield 9, 3, 1, 0, 43), (.bipush 10, 2, 0, 0, 0), (.iload_n 1, 1, 0, 0, 0), (.iadd, 1, 0, 0, 0), (.iaload, 1, 0, 0, 0), (.ireturn, 1, 0, 0, 0)]
set_option maxRecDepth 20000 in
theorem o_S_vatProperty_69 : am_okB mt_S_vatProperty 69 k_S_vatProperty_69 = true := by decide +kernel
theorem g_S_vatProperty_69 {L : am_S} {n : Nat} {ls st : List Value} {M : am_M} {Q : am_Q} (h : am_B L mt_S_vatProperty k_S_vatProperty_69 n 69 ls st M Q) : am_R L mt_S_vatProperty n 69 ls st M Q := am_go L mt_S_vatProperty (fun h => by cases h) k_S_vatProperty_69 n 69 ls st M Q o_S_vatProperty_69 h
def k_S_vatProperty_79 : List am_I := [(.aload_n 0, 1, 0, 0, 0), (.getfield 9, 3, 1, 0, 43), (.bipush 15, 2, 0, 0, 0), (.iload_n 1, 1, 0, 0, 0), (.iconst 3, 1, 0, 0, 0), (.imul, 1, 0, 0, 0), (.iadd, 1, 0, 0, 0), (.iload_n 2, 1, 0, 0, 0), (.iadd, 1, 0, 0, 0), (.iconst 2, 1, 0, 0, 0), (.isub, 1, 0, 0, 0), (.iaload, 1, 0, 0, 0), (.ireturn, 1, 0, 0, 0)]
set_option maxRecDepth 20000 in
theorem o_S_vatProperty_79 : am_okB mt_S_vatProperty 79 k_S_vatProperty_79 = true := by decide +kernel
theorem g_S_vatProperty_79 {L : am_S} {n : Nat} {ls st : List Value} {M : am_M} {Q : am_Q} (h : am_B L mt_S_vatProperty k_S_vatProperty_79 n 79 ls st M Q) : am_R L mt_S_vatProperty n 79 ls st M Q := am_go L mt_S_vatProperty (fun h => by cases h) k_S_vatProperty_79 n 79 ls st M Q o_S_vatProperty_79 h
def k_S_vatProperty_95 : List am_I := [(.aload_n 0, 1, 0, 0, 0), (.getfield 9, 3, 1, 0, 43), (.bipush 30, 2, 0, 0, 0), (.iload_n 1, 1, 0, 0, 0), (.iconst 3, 1, 0, 0, 0), (.imul, 1, 0, 0, 0), (.iadd, 1, 0, 0, 0), (.iload_n 2, 1, 0, 0, 0), (.iadd, 1, 0, 0, 0), (.iconst 5, 1, 0, 0, 0), (.isub, 1, 0, 0, 0), (.iaload, 1, 0, 0, 0), (.ireturn, 1, 0, 0, 0)]
set_option maxRecDepth 20000 in
theorem o_S_vatProperty_95 : am_okB mt_S_vatProperty 95 k_S_vatProperty_95 = true := by decide +kernel
theorem g_S_vatProperty_95 {L : am_S} {n : Nat} {ls st : List Value} {M : am_M} {Q : am_Q} (h : am_B L mt_S_vatProperty k_S_vatProperty_95 n 95 ls st M Q) : am_R L mt_S_vatProperty n 95 ls st M Q := am_go L mt_S_vatProperty (fun h => by cases h) k_S_vatProperty_95 n 95 ls st M Q o_S_vatProperty_95 h
def k_S_vatProperty_111 : List am_I := [(.aload_n 0, 1, 0, 0, 0), (.getfield 9, 3, 1, 0, 43), (.iconst 5, 1, 0, 0, 0), (.iload_n 1, 1, 0, 0, 0), (.iadd, 1, 0, 0, 0), (.iaload, 1, 0, 0, 0), (.ireturn, 1, 0, 0, 0)]
set_option maxRecDepth 20000 in
theorem o_S_vatProperty_111 : am_okB mt_S_vatProperty 111 k_S_vatProperty_111 = true := by decide +kernel
theorem g_S_vatProperty_111 {L : am_S} {n : Nat} {ls st : List Value} {M : am_M} {Q : am_Q} (h : am_B L mt_S_vatProperty k_S_vatProperty_111 n 111 ls st M Q) : am_R L mt_S_vatProperty n 111 ls st M Q := am_go L mt_S_vatProperty (fun h => by cases h) k_S_vatProperty_111 n 111 ls st M Q o_S_vatProperty_111 h
def k_S_vatProperty_120 : List am_I := [(.aload_n 0, 1, 0, 0, 0), (.iload_n 1, 1, 0, 0, 0), (.invokevirtual 31, 3, 3, 2, 253), (.ireturn, 1, 0, 0, 0)]
set_option maxRecDepth 20000 in
theorem o_S_vatProperty_120 : am_okB mt_S_vatProperty 120 k_S_vatProperty_120 = true := by decide +kernel
theorem g_S_vatProperty_120 {L : am_S} {n : Nat} {ls st : List Value} {M : am_M} {Q : am_Q} (h : am_B L mt_S_vatProperty k_S_vatProperty_120 n 120 ls st M Q) : am_R L mt_S_vatProperty n 120 ls st M Q := am_go L mt_S_vatProperty (fun h => by cases h) k_S_vatProperty_120 n 120 ls st M Q o_S_vatProperty_120 h
def k_S_valveProperty_0 : List am_I := [(.iload_n 1, 1, 0, 0, 0), (.ifCond .lt 9, 3, 0, 0, 0), (.iload_n 1, 1, 0, 0, 0), (.bipush 8, 2, 0, 0, 0), (.if_icmp .lt 5, 3, 0, 0, 0)]
set_option maxRecDepth 20000 in
theorem o_S_valveProperty_0 : am_okB mt_S_valveProperty 0 k_S_valveProperty_0 = true := by decide +kernel
theorem g_S_valveProperty_0 {L : am_S} {n : Nat} {ls st : List Value} {M : am_M} {Q : am_Q} (h : am_B L mt_S_valveProperty k_S_valveProperty_0 n 0 ls st M Q) : am_R L mt_S_valveProperty n 0 ls st M Q := am_go L mt_S_valveProperty (fun h => by cases h) k_S_valveProperty_0 n 0 ls st M Q o_S_valveProperty_0 h
def k_S_valveProperty_10 : List am_I := [(.iconst 0, 1, 0, 0, 0), (.ireturn, 1, 0, 0, 0)]
set_option maxRecDepth 20000 in
theorem o_S_valveProperty_10 : am_okB mt_S_valveProperty 10 k_S_valveProperty_10 = true := by decide +kernel
theorem g_S_valveProperty_10 {L : am_S} {n : Nat} {ls st : List Value} {M : am_M} {Q : am_Q} (h : am_B L mt_S_valveProperty k_S_valveProperty_10 n 10 ls st M Q) : am_R L mt_S_valveProperty n 10 ls st M Q := am_go L mt_S_valveProperty (fun h => by cases h) k_S_valveProperty_10 n 10 ls st M Q o_S_valveProperty_10 h
def k_S_valveProperty_12 : List am_I := [(.bipush 57, 2, 0, 0, 0), (.iload_n 1, 1, 0, 0, 0), (.bipush 6, 2, 0, 0, 0), (.imul, 1, 0, 0, 0), (.iadd, 1, 0, 0, 0), (.istore_n 3, 1, 0, 0, 0), (.iload_n 2, 1, 0, 0, 0), (.tableswitch 102 0 5 #[39, 48, 57, 66, 75, 84], 39, 0, 0, 0)]
set_option maxRecDepth 20000 in
theorem o_S_valveProperty_12 : am_okB mt_S_valveProperty 12 k_S_valveProperty_12 = true := by decide +kernel
theorem g_S_valveProperty_12 {L : am_S} {n : Nat} {ls st : List Value} {M : am_M} {Q : am_Q} (h : am_B L mt_S_valveProperty k_S_valveProperty_12 n 12 ls st M Q) : am_R L mt_S_valveProperty n 12 ls st M Q := am_go L mt_S_valveProperty (fun h => by cases h) k_S_valveProperty_12 n 12 ls st M Q o_S_valveProperty_12 h
def k_S_valveProperty_60 : List am_I := [(.aload_n 0, 1, 0, 0, 0), (.getfield 9, 3, 1, 0, 43), (.iload_n 3, 1, 0, 0, 0), (.iconst 0, 1, 0, 0, 0), (.iadd, 1, 0, 0, 0), (.iaload, 1, 0, 0, 0), (.ireturn, 1, 0, 0, 0)]
set_option maxRecDepth 20000 in
theorem o_S_valveProperty_60 : am_okB mt_S_valveProperty 60 k_S_valveProperty_60 = true := by decide +kernel
theorem g_S_valveProperty_60 {L : am_S} {n : Nat} {ls st : List Value} {M : am_M} {Q : am_Q} (h : am_B L mt_S_valveProperty k_S_valveProperty_60 n 60 ls st M Q) : am_R L mt_S_valveProperty n 60 ls st M Q := am_go L mt_S_valveProperty (fun h => by cases h) k_S_valveProperty_60 n 60 ls st M Q o_S_valveProperty_60 h
def k_S_valveProperty_69 : List am_I := [(.aload_n 0, 1, 0, 0, 0), (.getfield 9, 3, 1, 0, 43), (.iload_n 3, 1, 0, 0, 0), (.iconst 1, 1, 0, 0, 0), (.iadd, 1, 0, 0, 0), (.iaload, 1, 0, 0, 0), (.ireturn, 1, 0, 0, 0)]
set_option maxRecDepth 20000 in
theorem o_S_valveProperty_69 : am_okB mt_S_valveProperty 69 k_S_valveProperty_69 = true := by decide +kernel
theorem g_S_valveProperty_69 {L : am_S} {n : Nat} {ls st : List Value} {M : am_M} {Q : am_Q} (h : am_B L mt_S_valveProperty k_S_valveProperty_69 n 69 ls st M Q) : am_R L mt_S_valveProperty n 69 ls st M Q := am_go L mt_S_valveProperty (fun h => by cases h) k_S_valveProperty_69 n 69 ls st M Q o_S_valveProperty_69 h
def k_S_valveProperty_78 : List am_I := [(.aload_n 0, 1, 0, 0, 0), (.getfield 9, 3, 1, 0, 43), (.iload_n 3, 1, 0, 0, 0), (.iconst 2, 1, 0, 0, 0), (.iadd, 1, 0, 0, 0), (.iaload, 1, 0, 0, 0), (.ireturn, 1, 0, 0, 0)]
set_option maxRecDepth 20000 in
theorem o_S_valveProperty_78 : am_okB mt_S_valveProperty 78 k_S_valveProperty_78 = true := by decide +kernel
theorem g_S_valveProperty_78 {L : am_S} {n : Nat} {ls st : List Value} {M : am_M} {Q : am_Q} (h : am_B L mt_S_valveProperty k_S_valveProperty_78 n 78 ls st M Q) : am_R L mt_S_valveProperty n 78 ls st M Q := am_go L mt_S_valveProperty (fun h => by cases h) k_S_valveProperty_78 n 78 ls st M Q o_S_valveProperty_78 h
def k_S_valveProperty_87 : List am_I := [(.aload_n 0, 1, 0, 0, 0), (.getfield 9, 3, 1, 0, 43), (.iload_n 3, 1, 0, 0, 0), (.iconst 3, 1, 0, 0, 0), (.iadd, 1, 0, 0, 0), (.iaload, 1, 0, 0, 0), (.ireturn, 1, 0, 0, 0)]
set_option maxRecDepth 20000 in
theorem o_S_valveProperty_87 : am_okB mt_S_valveProperty 87 k_S_valveProperty_87 = true := by decide +kernel
theorem g_S_valveProperty_87 {L : am_S} {n : Nat} {ls st : List Value} {M : am_M} {Q : am_Q} (h : am_B L mt_S_valveProperty k_S_valveProperty_87 n 87 ls st M Q) : am_R L mt_S_valveProperty n 87 ls st M Q := am_go L mt_S_valveProperty (fun h => by cases h) k_S_valveProperty_87 n 87 ls st M Q o_S_valveProperty_87 h
def k_S_valveProperty_96 : List am_I := [(.aload_n 0, 1, 0, 0, 0), (.getfield 9, 3, 1, 0, 43), (.iload_n 3, 1, 0, 0, 0), (.iconst 4, 1, 0, 0, 0), (.iadd, 1, 0, 0, 0), (.iaload, 1, 0, 0, 0), (.ireturn, 1, 0, 0, 0)]
set_option maxRecDepth 20000 in
theorem o_S_valveProperty_96 : am_okB mt_S_valveProperty 96 k_S_valveProperty_96 = true := by decide +kernel
theorem g_S_valveProperty_96 {L : am_S} {n : Nat} {ls st : List Value} {M : am_M} {Q : am_Q} (h : am_B L mt_S_valveProperty k_S_valveProperty_96 n 96 ls st M Q) : am_R L mt_S_valveProperty n 96 ls st M Q := am_go L mt_S_valveProperty (fun h => by cases h) k_S_valveProperty_96 n 96 ls st M Q o_S_valveProperty_96 h
def k_S_valveProperty_105 : List am_I := [(.aload_n 0, 1, 0, 0, 0), (.iload_n 3, 1, 0, 0, 0), (.aload_n 0, 1, 0, 0, 0), (.invokevirtual 34, 3, 2, 1, 227), (.invokevirtual 38, 3, 16, 3, 231), (.ifCond .eq 7, 3, 0, 0, 0), (.iconst 1, 1, 0, 0, 0), (.goto 4, 3, 0, 0, 0)]
set_option maxRecDepth 20000 in
theorem o_S_valveProperty_105 : am_okB mt_S_valveProperty 105 k_S_valveProperty_105 = true := by decide +kernel
theorem g_S_valveProperty_105 {L : am_S} {n : Nat} {ls st : List Value} {M : am_M} {Q : am_Q} (h : am_B L mt_S_valveProperty k_S_valveProperty_105 n 105 ls st M Q) : am_R L mt_S_valveProperty n 105 ls st M Q := am_go L mt_S_valveProperty (fun h => by cases h) k_S_valveProperty_105 n 105 ls st M Q o_S_valveProperty_105 h
def k_S_valveProperty_121 : List am_I := [(.iconst 0, 1, 0, 0, 0)]
set_option maxRecDepth 20000 in
theorem o_S_valveProperty_121 : am_okB mt_S_valveProperty 121 k_S_valveProperty_121 = true := by decide +kernel
theorem g_S_valveProperty_121 {L : am_S} {n : Nat} {ls st : List Value} {M : am_M} {Q : am_Q} (h : am_B L mt_S_valveProperty k_S_valveProperty_121 n 121 ls st M Q) : am_R L mt_S_valveProperty n 121 ls st M Q := am_go L mt_S_valveProperty (fun h => by cases h) k_S_valveProperty_121 n 121 ls st M Q o_S_valveProperty_121 h
def k_S_valveProperty_122 : List am_I := [(.ireturn, 1, 0, 0, 0)]
set_option maxRecDepth 20000 in
theorem o_S_valveProperty_122 : am_okB mt_S_valveProperty 122 k_S_valveProperty_122 = true := by decide +kernel
theorem g_S_valveProperty_122 {L : am_S} {n : Nat} {ls st : List Value} {M : am_M} {Q : am_Q} (h : am_B L mt_S_valveProperty k_S_valveProperty_122 n 122 ls st M Q) : am_R L mt_S_valveProperty n 122 ls st M Q := am_go L mt_S_valveProperty (fun h => by cases h) k_S_valveProperty_122 n 122 ls st M Q o_S_valveProperty_122 h
def k_S_valveProperty_123 : List am_I := [(.aload_n 0, 1, 0, 0, 0), (.getfield 9, 3, 1, 0, 43), (.iload_n 3, 1, 0, 0, 0), (.iconst 5, 1, 0, 0, 0), (.iadd, 1, 0, 0, 0), (.iaload, 1, 0, 0, 0), (.ireturn, 1, 0, 0, 0)]
set_option maxRecDepth 20000 in
theorem o_S_valveProperty_123 : am_okB mt_S_valveProperty 123 k_S_valveProperty_123 = true := by decide +kernel
theorem g_S_valveProperty_123 {L : am_S} {n : Nat} {ls st : List Value} {M : am_M} {Q : am_Q} (h : am_B L mt_S_valveProperty k_S_valveProperty_123 n 123 ls st M Q) : am_R L mt_S_valveProperty n 123 ls st M Q := am_go L mt_S_valveProperty (fun h => by cases h) k_S_valveProperty_123 n 123 ls st M Q o_S_valveProperty_123 h
def k_S_dyeProperty_0 : List am_I := [(.iload_n 1, 1, 0, 0, 0), (.ifCond .lt 8, 3, 0, 0, 0), (.iload_n 1, 1, 0, 0, 0), (.iconst 3, 1, 0, 0, 0), (.if_icmp .lt 5, 3, 0, 0, 0)]
set_option maxRecDepth 20000 in
theorem o_S_dyeProperty_0 : am_okB mt_S_dyeProperty 0 k_S_dyeProperty_0 = true := by decide +kernel
theorem g_S_dyeProperty_0 {L : am_S} {n : Nat} {ls st : List Value} {M : am_M} {Q : am_Q} (h : am_B L mt_S_dyeProperty k_S_dyeProperty_0 n 0 ls st M Q) : am_R L mt_S_dyeProperty n 0 ls st M Q := am_go L mt_S_dyeProperty (fun h => by cases h) k_S_dyeProperty_0 n 0 ls st M Q o_S_dyeProperty_0 h
def k_S_dyeProperty_9 : List am_I := [(.iconst 0, 1, 0, 0, 0), (.ireturn, 1, 0, 0, 0)]
set_option maxRecDepth 20000 in
theorem o_S_dyeProperty_9 : am_okB mt_S_dyeProperty 9 k_S_dyeProperty_9 = true := by decide +kernel
theorem g_S_dyeProperty_9 {L : am_S} {n : Nat} {ls st : List Value} {M : am_M} {Q : am_Q} (h : am_B L mt_S_dyeProperty k_S_dyeProperty_9 n 9 ls st M Q) : am_R L mt_S_dyeProperty n 9 ls st M Q := am_go L mt_S_dyeProperty (fun h => by cases h) k_S_dyeProperty_9 n 9 ls st M Q o_S_dyeProperty_9 h
def k_S_dyeProperty_11 : List am_I := [(.iload_n 2, 1, 0, 0, 0), (.tableswitch 70 0 3 #[32, 42, 51, 60], 32, 0, 0, 0)]
set_option maxRecDepth 20000 in
theorem o_S_dyeProperty_11 : am_okB mt_S_dyeProperty 11 k_S_dyeProperty_11 = true := by decide +kernel
theorem g_S_dyeProperty_11 {L : am_S} {n : Nat} {ls st : List Value} {M : am_M} {Q : am_Q} (h : am_B L mt_S_dyeProperty k_S_dyeProperty_11 n 11 ls st M Q) : am_R L mt_S_dyeProperty n 11 ls st M Q := am_go L mt_S_dyeProperty (fun h => by cases h) k_S_dyeProperty_11 n 11 ls st M Q o_S_dyeProperty_11 h
def k_S_dyeProperty_44 : List am_I := [(.aload_n 0, 1, 0, 0, 0), (.getfield 9, 3, 1, 0, 43), (.bipush 45, 2, 0, 0, 0), (.iload_n 1, 1, 0, 0, 0), (.iadd, 1, 0, 0, 0), (.iaload, 1, 0, 0, 0), (.ireturn, 1, 0, 0, 0)]
set_option maxRecDepth 20000 in
theorem o_S_dyeProperty_44 : am_okB mt_S_dyeProperty 44 k_S_dyeProperty_44 = true := by decide +kernel
theorem g_S_dyeProperty_44 {L : am_S} {n : Nat} {ls st : List Value} {M : am_M} {Q : am_Q} (h : am_B L mt_S_dyeProperty k_S_dyeProperty_44 n 44 ls st M Q) : am_R L mt_S_dyeProperty n 44 ls st M Q := am_go L mt_S_dyeProperty (fun h => by cases h) k_S_dyeProperty_44 n 44 ls st M Q o_S_dyeProperty_44 h
def k_S_dyeProperty_54 : List am_I := [(.aload_n 0, 1, 0, 0, 0), (.bipush 15, 2, 0, 0, 0), (.iload_n 1, 1, 0, 0, 0), (.iadd, 1, 0, 0, 0), (.invokevirtual 42, 3, 17, 2, 421), (.ireturn, 1, 0, 0, 0)]
set_option maxRecDepth 20000 in
theorem o_S_dyeProperty_54 : am_okB mt_S_dyeProperty 54 k_S_dyeProperty_54 = true := by decide +kernel
theorem g_S_dyeProperty_54 {L : am_S} {n : Nat} {ls st : List Value} {M : am_M} {Q : am_Q} (h : am_B L mt_S_dyeProperty k_S_dyeProperty_54 n 54 ls st M Q) : am_R L mt_S_dyeProperty n 54 ls st M Q := am_go L mt_S_dyeProperty (fun h => by cases h) k_S_dyeProperty_54 n 54 ls st M Q o_S_dyeProperty_54 h
def k_S_dyeProperty_63 : List am_I := [(.aload_n 0, 1, 0, 0, 0), (.bipush 30, 2, 0, 0, 0), (.iload_n 1, 1, 0, 0, 0), (.iadd, 1, 0, 0, 0), (.invokevirtual 42, 3, 17, 2, 421), (.ireturn, 1, 0, 0, 0)]
set_option maxRecDepth 20000 in
theorem o_S_dyeProperty_63 : am_okB mt_S_dyeProperty 63 k_S_dyeProperty_63 = true := by decide +kernel
theorem g_S_dyeProperty_63 {L : am_S} {n : Nat} {ls st : List Value} {M : am_M} {Q : am_Q} (h : am_B L mt_S_dyeProperty k_S_dyeProperty_63 n 63 ls st M Q) : am_R L mt_S_dyeProperty n 63 ls st M Q := am_go L mt_S_dyeProperty (fun h => by cases h) k_S_dyeProperty_63 n 63 ls st M Q o_S_dyeProperty_63 h
def k_S_dyeProperty_72 : List am_I := [(.aload_n 0, 1, 0, 0, 0), (.getfield 9, 3, 1, 0, 43), (.bipush 48, 2, 0, 0, 0), (.iload_n 1, 1, 0, 0, 0), (.iadd, 1, 0, 0, 0), (.iaload, 1, 0, 0, 0), (.ireturn, 1, 0, 0, 0)]
set_option maxRecDepth 20000 in
theorem o_S_dyeProperty_72 : am_okB mt_S_dyeProperty 72 k_S_dyeProperty_72 = true := by decide +kernel
theorem g_S_dyeProperty_72 {L : am_S} {n : Nat} {ls st : List Value} {M : am_M} {Q : am_Q} (h : am_B L mt_S_dyeProperty k_S_dyeProperty_72 n 72 ls st M Q) : am_R L mt_S_dyeProperty n 72 ls st M Q := am_go L mt_S_dyeProperty (fun h => by cases h) k_S_dyeProperty_72 n 72 ls st M Q o_S_dyeProperty_72 h
def k_S_dyeProperty_82 : List am_I := [(.aload_n 0, 1, 0, 0, 0), (.iload_n 1, 1, 0, 0, 0), (.invokevirtual 45, 3, 18, 2, 425), (.ireturn, 1, 0, 0, 0)]
set_option maxRecDepth 20000 in
theorem o_S_dyeProperty_82 : am_okB mt_S_dyeProperty 82 k_S_dyeProperty_82 = true := by decide +kernel
theorem g_S_dyeProperty_82 {L : am_S} {n : Nat} {ls st : List Value} {M : am_M} {Q : am_Q} (h : am_B L mt_S_dyeProperty k_S_dyeProperty_82 n 82 ls st M Q) : am_R L mt_S_dyeProperty n 82 ls st M Q := am_go L mt_S_dyeProperty (fun h => by cases h) k_S_dyeProperty_82 n 82 ls st M Q o_S_dyeProperty_82 h
def k_S_removeValve_0 : List am_I := [(.aload_n 0, 1, 0, 0, 0), (.getfield 9, 3, 1, 0, 43), (.bipush 56, 2, 0, 0, 0), (.iaload, 1, 0, 0, 0), (.iconst 1, 1, 0, 0, 0), (.isub, 1, 0, 0, 0), (.istore_n 2, 1, 0, 0, 0), (.iload_n 1, 1, 0, 0, 0), (.ifCond .lt 14, 3, 0, 0, 0), (.iload_n 1, 1, 0, 0, 0), (.iload_n 2, 1, 0, 0, 0), (.if_icmp .gt 9, 3, 0, 0, 0), (.iload_n 2, 1, 0, 0, 0), (.bipush 8, 2, 0, 0, 0), (.if_icmp .lt 4, 3, 0, 0, 0)]
set_option maxRecDepth 20000 in
theorem o_S_removeValve_0 : am_okB mt_S_removeValve 0 k_S_removeValve_0 = true := by decide +kernel
theorem g_S_removeValve_0 {L : am_S} {n : Nat} {ls st : List Value} {M : am_M} {Q : am_Q} (h : am_B L mt_S_removeValve k_S_removeValve_0 n 0 ls st M Q) : am_R L mt_S_removeValve n 0 ls st M Q := am_go L mt_S_removeValve (fun h => by cases h) k_S_removeValve_0 n 0 ls st M Q o_S_removeValve_0 h
def k_S_removeValve_25 : List am_I := [(.return_, 1, 0, 0, 0)]
set_option maxRecDepth 20000 in
theorem o_S_removeValve_25 : am_okB mt_S_removeValve 25 k_S_removeValve_25 = true := by decide +kernel
theorem g_S_removeValve_25 {L : am_S} {n : Nat} {ls st : List Value} {M : am_M} {Q : am_Q} (h : am_B L mt_S_removeValve k_S_removeValve_25 n 25 ls st M Q) : am_R L mt_S_removeValve n 25 ls st M Q := am_go L mt_S_removeValve (fun h => by cases h) k_S_removeValve_25 n 25 ls st M Q o_S_removeValve_25 h
def k_S_removeValve_26 : List am_I := [(.bipush 57, 2, 0, 0, 0), (.iload_n 1, 1, 0, 0, 0), (.bipush 6, 2, 0, 0, 0), (.imul, 1, 0, 0, 0), (.iadd, 1, 0, 0, 0), (.istore_n 3, 1, 0, 0, 0), (.aload_n 0, 1, 0, 0, 0), (.getfield 9, 3, 1, 0, 43), (.iload_n 3, 1, 0, 0, 0), (.bipush 6, 2, 0, 0, 0), (.iadd, 1, 0, 0, 0), (.aload_n 0, 1, 0, 0, 0), (.getfield 9, 3, 1, 0, 43), (.iload_n 3, 1, 0, 0, 0), (.iload_n 2, 1, 0, 0, 0), (.iload_n 1, 1, 0, 0, 0), (.isub, 1, 0, 0, 0), (.bipush 6, 2, 0, 0, 0), (.imul, 1, 0, 0, 0), (.invokestatic 15, 3, 202, 5, 216), (.aload_n 0, 1, 0, 0, 0), (.getfield 9, 3, 1, 0, 43), (.bipush 56, 2, 0, 0, 0), (.iload_n 2, 1, 0, 0, 0), (.iastore, 1, 0, 0, 0), (.return_, 1, 0, 0, 0)]
set_option maxRecDepth 20000 in
theorem o_S_removeValve_26 : am_okB mt_S_removeValve 26 k_S_removeValve_26 = true := by decide +kernel
theorem g_S_removeValve_26 {L : am_S} {n : Nat} {ls st : List Value} {M : am_M} {Q : am_Q} (h : am_B L mt_S_removeValve k_S_removeValve_26 n 26 ls st M Q) : am_R L mt_S_removeValve n 26 ls st M Q := am_go L mt_S_removeValve (fun h => by cases h) k_S_removeValve_26 n 26 ls st M Q o_S_removeValve_26 h
def k_S_dissolveSettled_0 : List am_I := [(.iload_n 1, 1, 0, 0, 0), (.invokestatic 21, 3, 19, 1, 239), (.ifCond .ne 5, 3, 0, 0, 0), (.iconst 0, 1, 0, 0, 0), (.ireturn, 1, 0, 0, 0)]
set_option maxRecDepth 20000 in
theorem o_S_dissolveSettled_0 : am_okB mt_S_dissolveSettled 0 k_S_dissolveSettled_0 = true := by decide +kernel
theorem g_S_dissolveSettled_0 {L : am_S} {n : Nat} {ls st : List Value} {M : am_M} {Q : am_Q} (h : am_B L mt_S_dissolveSettled k_S_dissolveSettled_0 n 0 ls st M Q) : am_R L mt_S_dissolveSettled n 0 ls st M Q := am_go L mt_S_dissolveSettled (fun h => by cases h) k_S_dissolveSettled_0 n 0 ls st M Q o_S_dissolveSettled_0 h
def k_S_dissolveSettled_9 : List am_I := [(.iconst 0, 1, 0, 0, 0), (.istore_n 2, 1, 0, 0, 0), (.iconst 0, 1, 0, 0, 0), (.istore_n 3, 1, 0, 0, 0)]
set_option maxRecDepth 20000 in
theorem o_S_dissolveSettled_9 : am_okB mt_S_dissolveSettled 9 k_S_dissolveSettled_9 = true := by decide +kernel
theorem g_S_dissolveSettled_9 {L : am_S} {n : Nat} {ls st : List Value} {M : am_M} {Q : am_Q} (h : am_B L mt_S_dissolveSettled k_S_dissolveSettled_9 n 9 ls st M Q) : am_R L mt_S_dissolveSettled n 9 ls st M Q := am_go L mt_S_dissolveSettled (fun h => by cases h) k_S_dissolveSettled_9 n 9 ls st M Q o_S_dissolveSettled_9 h
def k_S_dissolveSettled_13 : List am_I := [(.iload_n 3, 1, 0, 0, 0), (.iconst 3, 1, 0, 0, 0), (.if_icmp .ge 87, 3, 0, 0, 0), (.bipush 15, 2, 0, 0, 0), (.iload_n 1, 1, 0, 0, 0), (.iconst 3, 1, 0, 0, 0), (.imul, 1, 0, 0, 0), (.iadd, 1, 0, 0, 0), (.iload_n 3, 1, 0, 0, 0), (.iadd, 1, 0, 0, 0), (.istore 4, 2, 0, 0, 0), (.bipush 30, 2, 0, 0, 0), (.iload_n 1, 1, 0, 0, 0), (.iconst 3, 1, 0, 0, 0), (.imul, 1, 0, 0, 0), (.iadd, 1, 0, 0, 0), (.iload_n 3, 1, 0, 0, 0), (.iadd, 1, 0, 0, 0), (.istore 5, 2, 0, 0, 0), (.aload_n 0, 1, 0, 0, 0), (.getfield 9, 3, 1, 0, 43), (.iload 5, 2, 0, 0, 0), (.iaload, 1, 0, 0, 0), (.iconst 0, 1, 0, 0, 0), (.aload_n 0, 1, 0, 0, 0), (.iload_n 1, 1, 0, 0, 0), (.invokevirtual 31, 3, 3, 2, 253), (.aload_n 0, 1, 0, 0, 0), (.getfield 9, 3, 1, 0, 43), (.iload 4, 2, 0, 0, 0), (.iaload, 1, 0, 0, 0), (.isub, 1, 0, 0, 0), (.invokestatic 48, 3, 201, 2, 464), (.invokestatic 54, 3, 200, 2, 242), (.istore 6, 2, 0, 0, 0), (.aload_n 0, 1, 0, 0, 0), (.getfield 9, 3, 1, 0, 43), (.iload 5, 2, 0, 0, 0), (.dup2, 1, 0, 0, 0), (.iaload, 1, 0, 0, 0), (.iload 6, 2, 0, 0, 0), (.isub, 1, 0, 0, 0), (.iastore, 1, 0, 0, 0), (.aload_n 0, 1, 0, 0, 0), (.getfield 9, 3, 1, 0, 43), (.iload 4, 2, 0, 0, 0), (.dup2, 1, 0, 0, 0), (.iaload, 1, 0, 0, 0), (.iload 6, 2, 0, 0, 0), (.iadd, 1, 0, 0, 0), (.iastore, 1, 0, 0, 0), (.iload_n 2, 1, 0, 0, 0), (.iload 6, 2, 0, 0, 0), (.iadd, 1, 0, 0, 0), (.istore_n 2, 1, 0, 0, 0), (.iinc 3 1, 3, 0, 0, 0), (.goto (-86), 3, 0, 0, 0)]
set_option maxRecDepth 20000 in
theorem o_S_dissolveSettled_13 : am_okB mt_S_dissolveSettled 13 k_S_dissolveSettled_13 = true := by decide +kernel
theorem g_S_dissolveSettled_13 {L : am_S} {n : Nat} {ls st : List Value} {M : am_M} {Q : am_Q} (h : am_B L mt_S_dissolveSettled k_S_dissolveSettled_13 n 13 ls st M Q) : am_R L mt_S_dissolveSettled n 13 ls st M Q := am_go L mt_S_dissolveSettled (fun h => by cases h) k_S_dissolveSettled_13 n 13 ls st M Q o_S_dissolveSettled_13 h
def k_S_dissolveSettled_102 : List am_I := [(.iload_n 2, 1, 0, 0, 0), (.ireturn, 1, 0, 0, 0)]
set_option maxRecDepth 20000 in
theorem o_S_dissolveSettled_102 : am_okB mt_S_dissolveSettled 102 k_S_dissolveSettled_102 = true := by decide +kernel
theorem g_S_dissolveSettled_102 {L : am_S} {n : Nat} {ls st : List Value} {M : am_M} {Q : am_Q} (h : am_B L mt_S_dissolveSettled k_S_dissolveSettled_102 n 102 ls st M Q) : am_R L mt_S_dissolveSettled n 102 ls st M Q := am_go L mt_S_dissolveSettled (fun h => by cases h) k_S_dissolveSettled_102 n 102 ls st M Q o_S_dissolveSettled_102 h
def k_S_runHours_0 : List am_I := [(.iconst 0, 1, 0, 0, 0), (.istore_n 2, 1, 0, 0, 0)]
set_option maxRecDepth 20000 in
theorem o_S_runHours_0 : am_okB mt_S_runHours 0 k_S_runHours_0 = true := by decide +kernel
theorem g_S_runHours_0 {L : am_S} {n : Nat} {ls st : List Value} {M : am_M} {Q : am_Q} (h : am_B L mt_S_runHours k_S_runHours_0 n 0 ls st M Q) : am_R L mt_S_runHours n 0 ls st M Q := am_go L mt_S_runHours (fun h => by cases h) k_S_runHours_0 n 0 ls st M Q o_S_runHours_0 h
def k_S_runHours_2 : List am_I := [(.iload_n 2, 1, 0, 0, 0), (.iload_n 1, 1, 0, 0, 0), (.if_icmp .ge 32, 3, 0, 0, 0), (.aload_n 0, 1, 0, 0, 0), (.invokevirtual 57, 3, 12, 1, 223), (.aload_n 0, 1, 0, 0, 0), (.invokevirtual 60, 3, 13, 1, 245), (.aload_n 0, 1, 0, 0, 0), (.invokevirtual 63, 3, 14, 1, 249), (.aload_n 0, 1, 0, 0, 0), (.getfield 9, 3, 1, 0, 43), (.bipush 52, 2, 0, 0, 0), (.dup2, 1, 0, 0, 0), (.iaload, 1, 0, 0, 0), (.iconst 1, 1, 0, 0, 0), (.iadd, 1, 0, 0, 0), (.iastore, 1, 0, 0, 0), (.iinc 2 1, 3, 0, 0, 0), (.goto (-31), 3, 0, 0, 0)]
set_option maxRecDepth 20000 in
theorem o_S_runHours_2 : am_okB mt_S_runHours 2 k_S_runHours_2 = true := by decide +kernel
theorem g_S_runHours_2 {L : am_S} {n : Nat} {ls st : List Value} {M : am_M} {Q : am_Q} (h : am_B L mt_S_runHours k_S_runHours_2 n 2 ls st M Q) : am_R L mt_S_runHours n 2 ls st M Q := am_go L mt_S_runHours (fun h => by cases h) k_S_runHours_2 n 2 ls st M Q o_S_runHours_2 h
def k_S_runHours_36 : List am_I := [(.return_, 1, 0, 0, 0)]
set_option maxRecDepth 20000 in
theorem o_S_runHours_36 : am_okB mt_S_runHours 36 k_S_runHours_36 = true := by decide +kernel
theorem g_S_runHours_36 {L : am_S} {n : Nat} {ls st : List Value} {M : am_M} {Q : am_Q} (h : am_B L mt_S_runHours k_S_runHours_36 n 36 ls st M Q) : am_R L mt_S_runHours n 36 ls st M Q := am_go L mt_S_runHours (fun h => by cases h) k_S_runHours_36 n 36 ls st M Q o_S_runHours_36 h
def k_S_runValves_0 : List am_I := [(.aload_n 0, 1, 0, 0, 0), (.invokevirtual 34, 3, 2, 1, 227), (.istore_n 1, 1, 0, 0, 0), (.iconst 0, 1, 0, 0, 0), (.istore_n 2, 1, 0, 0, 0)]
set_option maxRecDepth 20000 in
theorem o_S_runValves_0 : am_okB mt_S_runValves 0 k_S_runValves_0 = true := by decide +kernel
theorem g_S_runValves_0 {L : am_S} {n : Nat} {ls st : List Value} {M : am_M} {Q : am_Q} (h : am_B L mt_S_runValves k_S_runValves_0 n 0 ls st M Q) : am_R L mt_S_runValves n 0 ls st M Q := am_go L mt_S_runValves (fun h => by cases h) k_S_runValves_0 n 0 ls st M Q o_S_runValves_0 h
def k_S_runValves_7 : List am_I := [(.iload_n 2, 1, 0, 0, 0), (.aload_n 0, 1, 0, 0, 0), (.getfield 9, 3, 1, 0, 43), (.bipush 56, 2, 0, 0, 0), (.iaload, 1, 0, 0, 0), (.if_icmp .ge 71, 3, 0, 0, 0), (.iload_n 2, 1, 0, 0, 0), (.bipush 8, 2, 0, 0, 0), (.if_icmp .ge 65, 3, 0, 0, 0), (.bipush 57, 2, 0, 0, 0), (.iload_n 2, 1, 0, 0, 0), (.bipush 6, 2, 0, 0, 0), (.imul, 1, 0, 0, 0), (.iadd, 1, 0, 0, 0), (.istore_n 3, 1, 0, 0, 0), (.aload_n 0, 1, 0, 0, 0), (.iload_n 3, 1, 0, 0, 0), (.iload_n 1, 1, 0, 0, 0), (.invokevirtual 38, 3, 16, 3, 231), (.ifCond .eq 42, 3, 0, 0, 0), (.aload_n 0, 1, 0, 0, 0), (.getfield 9, 3, 1, 0, 43), (.iload_n 3, 1, 0, 0, 0), (.iconst 5, 1, 0, 0, 0), (.iadd, 1, 0, 0, 0), (.dup2, 1, 0, 0, 0), (.iaload, 1, 0, 0, 0), (.aload_n 0, 1, 0, 0, 0), (.aload_n 0, 1, 0, 0, 0), (.getfield 9, 3, 1, 0, 43), (.iload_n 3, 1, 0, 0, 0), (.iconst 0, 1, 0, 0, 0), (.iadd, 1, 0, 0, 0), (.iaload, 1, 0, 0, 0), (.aload_n 0, 1, 0, 0, 0), (.getfield 9, 3, 1, 0, 43), (.iload_n 3, 1, 0, 0, 0), (.iconst 1, 1, 0, 0, 0), (.iadd, 1, 0, 0, 0), (.iaload, 1, 0, 0, 0), (.aload_n 0, 1, 0, 0, 0), (.getfield 9, 3, 1, 0, 43), (.iload_n 3, 1, 0, 0, 0), (.iconst 2, 1, 0, 0, 0), (.iadd, 1, 0, 0, 0), (.iaload, 1, 0, 0, 0), (.invokevirtual 66, 3, 15, 4, 235), (.iadd, 1, 0, 0, 0), (.iastore, 1, 0, 0, 0)]
set_option maxRecDepth 20000 in
theorem o_S_runValves_7 : am_okB mt_S_runValves 7 k_S_runValves_7 = true := by decide +kernel
theorem g_S_runValves_7 {L : am_S} {n : Nat} {ls st : List Value} {M : am_M} {Q : am_Q} (h : am_B L mt_S_runValves k_S_runValves_7 n 7 ls st M Q) : am_R L mt_S_runValves n 7 ls st M Q := am_go L mt_S_runValves (fun h => by cases h) k_S_runValves_7 n 7 ls st M Q o_S_runValves_7 h
def k_S_runValves_80 : List am_I := [(.iinc 2 1, 3, 0, 0, 0), (.goto (-76), 3, 0, 0, 0)]
set_option maxRecDepth 20000 in
theorem o_S_runValves_80 : am_okB mt_S_runValves 80 k_S_runValves_80 = true := by decide +kernel
theorem g_S_runValves_80 {L : am_S} {n : Nat} {ls st : List Value} {M : am_M} {Q : am_Q} (h : am_B L mt_S_runValves k_S_runValves_80 n 80 ls st M Q) : am_R L mt_S_runValves n 80 ls st M Q := am_go L mt_S_runValves (fun h => by cases h) k_S_runValves_80 n 80 ls st M Q o_S_runValves_80 h
def k_S_runValves_86 : List am_I := [(.return_, 1, 0, 0, 0)]
set_option maxRecDepth 20000 in
theorem o_S_runValves_86 : am_okB mt_S_runValves 86 k_S_runValves_86 = true := by decide +kernel
theorem g_S_runValves_86 {L : am_S} {n : Nat} {ls st : List Value} {M : am_M} {Q : am_Q} (h : am_B L mt_S_runValves k_S_runValves_86 n 86 ls st M Q) : am_R L mt_S_runValves n 86 ls st M Q := am_go L mt_S_runValves (fun h => by cases h) k_S_runValves_86 n 86 ls st M Q o_S_runValves_86 h
def k_S_levelPipes_0 : List am_I := [(.iconst 0, 1, 0, 0, 0), (.istore_n 1, 1, 0, 0, 0)]
set_option maxRecDepth 20000 in
theorem o_S_levelPipes_0 : am_okB mt_S_levelPipes 0 k_S_levelPipes_0 = true := by decide +kernel
theorem g_S_levelPipes_0 {L : am_S} {n : Nat} {ls st : List Value} {M : am_M} {Q : am_Q} (h : am_B L mt_S_levelPipes k_S_levelPipes_0 n 0 ls st M Q) : am_R L mt_S_levelPipes n 0 ls st M Q := am_go L mt_S_levelPipes (fun h => by cases h) k_S_levelPipes_0 n 0 ls st M Q o_S_levelPipes_0 h
def k_S_levelPipes_2 : List am_I := [(.iload_n 1, 1, 0, 0, 0), (.iconst 5, 1, 0, 0, 0), (.if_icmp .ge 94, 3, 0, 0, 0), (.aload_n 0, 1, 0, 0, 0), (.getfield 9, 3, 1, 0, 43), (.iconst 5, 1, 0, 0, 0), (.iload_n 1, 1, 0, 0, 0), (.iadd, 1, 0, 0, 0), (.iaload, 1, 0, 0, 0), (.istore_n 2, 1, 0, 0, 0), (.iload_n 1, 1, 0, 0, 0), (.iconst 1, 1, 0, 0, 0), (.iadd, 1, 0, 0, 0), (.istore_n 3, 1, 0, 0, 0)]
set_option maxRecDepth 20000 in
theorem o_S_levelPipes_2 : am_okB mt_S_levelPipes 2 k_S_levelPipes_2 = true := by decide +kernel
theorem g_S_levelPipes_2 {L : am_S} {n : Nat} {ls st : List Value} {M : am_M} {Q : am_Q} (h : am_B L mt_S_levelPipes k_S_levelPipes_2 n 2 ls st M Q) : am_R L mt_S_levelPipes n 2 ls st M Q := am_go L mt_S_levelPipes (fun h => by cases h) k_S_levelPipes_2 n 2 ls st M Q o_S_levelPipes_2 h
def k_S_levelPipes_20 : List am_I := [(.iload_n 3, 1, 0, 0, 0), (.iconst 5, 1, 0, 0, 0), (.if_icmp .ge 70, 3, 0, 0, 0), (.iload_n 2, 1, 0, 0, 0), (.iload_n 3, 1, 0, 0, 0), (.ishr, 1, 0, 0, 0), (.iconst 1, 1, 0, 0, 0), (.iand, 1, 0, 0, 0), (.iconst 1, 1, 0, 0, 0), (.if_icmp .ne 55, 3, 0, 0, 0), (.aload_n 0, 1, 0, 0, 0), (.getfield 9, 3, 1, 0, 43), (.bipush 10, 2, 0, 0, 0), (.iload_n 1, 1, 0, 0, 0), (.iadd, 1, 0, 0, 0), (.iaload, 1, 0, 0, 0), (.aload_n 0, 1, 0, 0, 0), (.getfield 9, 3, 1, 0, 43), (.bipush 10, 2, 0, 0, 0), (.iload_n 3, 1, 0, 0, 0), (.iadd, 1, 0, 0, 0), (.iaload, 1, 0, 0, 0), (.isub, 1, 0, 0, 0), (.istore 4, 2, 0, 0, 0), (.iload 4, 2, 0, 0, 0), (.ifCond .lt 17, 3, 0, 0, 0), (.aload_n 0, 1, 0, 0, 0), (.iload_n 1, 1, 0, 0, 0), (.iload_n 3, 1, 0, 0, 0), (.iload 4, 2, 0, 0, 0), (.iconst 2, 1, 0, 0, 0), (.idiv, 1, 0, 0, 0), (.invokevirtual 66, 3, 15, 4, 235), (.pop, 1, 0, 0, 0), (.goto 15, 3, 0, 0, 0)]
set_option maxRecDepth 20000 in
theorem o_S_levelPipes_20 : am_okB mt_S_levelPipes 20 k_S_levelPipes_20 = true := by decide +kernel
theorem g_S_levelPipes_20 {L : am_S} {n : Nat} {ls st : List Value} {M : am_M} {Q : am_Q} (h : am_B L mt_S_levelPipes k_S_levelPipes_20 n 20 ls st M Q) : am_R L mt_S_levelPipes n 20 ls st M Q := am_go L mt_S_levelPipes (fun h => by cases h) k_S_levelPipes_20 n 20 ls st M Q o_S_levelPipes_20 h
def k_S_levelPipes_74 : List am_I := [(.aload_n 0, 1, 0, 0, 0), (.iload_n 3, 1, 0, 0, 0), (.iload_n 1, 1, 0, 0, 0), (.iload 4, 2, 0, 0, 0), (.ineg, 1, 0, 0, 0), (.iconst 2, 1, 0, 0, 0), (.idiv, 1, 0, 0, 0), (.invokevirtual 66, 3, 15, 4, 235), (.pop, 1, 0, 0, 0)]
set_option maxRecDepth 20000 in
theorem o_S_levelPipes_74 : am_okB mt_S_levelPipes 74 k_S_levelPipes_74 = true := by decide +kernel
theorem g_S_levelPipes_74 {L : am_S} {n : Nat} {ls st : List Value} {M : am_M} {Q : am_Q} (h : am_B L mt_S_levelPipes k_S_levelPipes_74 n 74 ls st M Q) : am_R L mt_S_levelPipes n 74 ls st M Q := am_go L mt_S_levelPipes (fun h => by cases h) k_S_levelPipes_74 n 74 ls st M Q o_S_levelPipes_74 h
def k_S_levelPipes_86 : List am_I := [(.iinc 3 1, 3, 0, 0, 0), (.goto (-69), 3, 0, 0, 0)]
set_option maxRecDepth 20000 in
theorem o_S_levelPipes_86 : am_okB mt_S_levelPipes 86 k_S_levelPipes_86 = true := by decide +kernel
theorem g_S_levelPipes_86 {L : am_S} {n : Nat} {ls st : List Value} {M : am_M} {Q : am_Q} (h : am_B L mt_S_levelPipes k_S_levelPipes_86 n 86 ls st M Q) : am_R L mt_S_levelPipes n 86 ls st M Q := am_go L mt_S_levelPipes (fun h => by cases h) k_S_levelPipes_86 n 86 ls st M Q o_S_levelPipes_86 h
def k_S_levelPipes_92 : List am_I := [(.iinc 1 1, 3, 0, 0, 0), (.goto (-93), 3, 0, 0, 0)]
set_option maxRecDepth 20000 in
theorem o_S_levelPipes_92 : am_okB mt_S_levelPipes 92 k_S_levelPipes_92 = true := by decide +kernel
theorem g_S_levelPipes_92 {L : am_S} {n : Nat} {ls st : List Value} {M : am_M} {Q : am_Q} (h : am_B L mt_S_levelPipes k_S_levelPipes_92 n 92 ls st M Q) : am_R L mt_S_levelPipes n 92 ls st M Q := am_go L mt_S_levelPipes (fun h => by cases h) k_S_levelPipes_92 n 92 ls st M Q o_S_levelPipes_92 h
def k_S_levelPipes_98 : List am_I := [(.return_, 1, 0, 0, 0)]
set_option maxRecDepth 20000 in
theorem o_S_levelPipes_98 : am_okB mt_S_levelPipes 98 k_S_levelPipes_98 = true := by decide +kernel
theorem g_S_levelPipes_98 {L : am_S} {n : Nat} {ls st : List Value} {M : am_M} {Q : am_Q} (h : am_B L mt_S_levelPipes k_S_levelPipes_98 n 98 ls st M Q) : am_R L mt_S_levelPipes n 98 ls st M Q := am_go L mt_S_levelPipes (fun h => by cases h) k_S_levelPipes_98 n 98 ls st M Q o_S_levelPipes_98 h
def k_S_settleGrains_0 : List am_I := [(.iconst 0, 1, 0, 0, 0), (.istore_n 1, 1, 0, 0, 0)]
set_option maxRecDepth 20000 in
theorem o_S_settleGrains_0 : am_okB mt_S_settleGrains 0 k_S_settleGrains_0 = true := by decide +kernel
theorem g_S_settleGrains_0 {L : am_S} {n : Nat} {ls st : List Value} {M : am_M} {Q : am_Q} (h : am_B L mt_S_settleGrains k_S_settleGrains_0 n 0 ls st M Q) : am_R L mt_S_settleGrains n 0 ls st M Q := am_go L mt_S_settleGrains (fun h => by cases h) k_S_settleGrains_0 n 0 ls st M Q o_S_settleGrains_0 h
def k_S_settleGrains_2 : List am_I := [(.iload_n 1, 1, 0, 0, 0), (.iconst 5, 1, 0, 0, 0), (.if_icmp .ge 84, 3, 0, 0, 0), (.aload_n 0, 1, 0, 0, 0), (.iload_n 1, 1, 0, 0, 0), (.invokevirtual 31, 3, 3, 2, 253), (.istore_n 2, 1, 0, 0, 0), (.iconst 0, 1, 0, 0, 0), (.istore_n 3, 1, 0, 0, 0)]
set_option maxRecDepth 20000 in
theorem o_S_settleGrains_2 : am_okB mt_S_settleGrains 2 k_S_settleGrains_2 = true := by decide +kernel
theorem g_S_settleGrains_2 {L : am_S} {n : Nat} {ls st : List Value} {M : am_M} {Q : am_Q} (h : am_B L mt_S_settleGrains k_S_settleGrains_2 n 2 ls st M Q) : am_R L mt_S_settleGrains n 2 ls st M Q := am_go L mt_S_settleGrains (fun h => by cases h) k_S_settleGrains_2 n 2 ls st M Q o_S_settleGrains_2 h
def k_S_settleGrains_15 : List am_I := [(.iload_n 3, 1, 0, 0, 0), (.iconst 3, 1, 0, 0, 0), (.if_icmp .ge 65, 3, 0, 0, 0), (.bipush 15, 2, 0, 0, 0), (.iload_n 1, 1, 0, 0, 0), (.iconst 3, 1, 0, 0, 0), (.imul, 1, 0, 0, 0), (.iadd, 1, 0, 0, 0), (.iload_n 3, 1, 0, 0, 0), (.iadd, 1, 0, 0, 0), (.istore 4, 2, 0, 0, 0), (.aload_n 0, 1, 0, 0, 0), (.getfield 9, 3, 1, 0, 43), (.iload 4, 2, 0, 0, 0), (.iaload, 1, 0, 0, 0), (.iload_n 2, 1, 0, 0, 0), (.isub, 1, 0, 0, 0), (.istore 5, 2, 0, 0, 0), (.iload 5, 2, 0, 0, 0), (.ifCond .le 33, 3, 0, 0, 0), (.aload_n 0, 1, 0, 0, 0), (.getfield 9, 3, 1, 0, 43), (.iload 4, 2, 0, 0, 0), (.dup2, 1, 0, 0, 0), (.iaload, 1, 0, 0, 0), (.iload 5, 2, 0, 0, 0), (.isub, 1, 0, 0, 0), (.iastore, 1, 0, 0, 0), (.aload_n 0, 1, 0, 0, 0), (.getfield 9, 3, 1, 0, 43), (.bipush 30, 2, 0, 0, 0), (.iload_n 1, 1, 0, 0, 0), (.iconst 3, 1, 0, 0, 0), (.imul, 1, 0, 0, 0), (.iadd, 1, 0, 0, 0), (.iload_n 3, 1, 0, 0, 0), (.iadd, 1, 0, 0, 0), (.dup2, 1, 0, 0, 0), (.iaload, 1, 0, 0, 0), (.iload 5, 2, 0, 0, 0), (.iadd, 1, 0, 0, 0), (.iastore, 1, 0, 0, 0)]
set_option maxRecDepth 20000 in
theorem o_S_settleGrains_15 : am_okB mt_S_settleGrains 15 k_S_settleGrains_15 = true := by decide +kernel
theorem g_S_settleGrains_15 {L : am_S} {n : Nat} {ls st : List Value} {M : am_M} {Q : am_Q} (h : am_B L mt_S_settleGrains k_S_settleGrains_15 n 15 ls st M Q) : am_R L mt_S_settleGrains n 15 ls st M Q := am_go L mt_S_settleGrains (fun h => by cases h) k_S_settleGrains_15 n 15 ls st M Q o_S_settleGrains_15 h
def k_S_settleGrains_76 : List am_I := [(.iinc 3 1, 3, 0, 0, 0), (.goto (-64), 3, 0, 0, 0)]
set_option maxRecDepth 20000 in
theorem o_S_settleGrains_76 : am_okB mt_S_settleGrains 76 k_S_settleGrains_76 = true := by decide +kernel
theorem g_S_settleGrains_76 {L : am_S} {n : Nat} {ls st : List Value} {M : am_M} {Q : am_Q} (h : am_B L mt_S_settleGrains k_S_settleGrains_76 n 76 ls st M Q) : am_R L mt_S_settleGrains n 76 ls st M Q := am_go L mt_S_settleGrains (fun h => by cases h) k_S_settleGrains_76 n 76 ls st M Q o_S_settleGrains_76 h
def k_S_settleGrains_82 : List am_I := [(.iinc 1 1, 3, 0, 0, 0), (.goto (-83), 3, 0, 0, 0)]
set_option maxRecDepth 20000 in
theorem o_S_settleGrains_82 : am_okB mt_S_settleGrains 82 k_S_settleGrains_82 = true := by decide +kernel
theorem g_S_settleGrains_82 {L : am_S} {n : Nat} {ls st : List Value} {M : am_M} {Q : am_Q} (h : am_B L mt_S_settleGrains k_S_settleGrains_82 n 82 ls st M Q) : am_R L mt_S_settleGrains n 82 ls st M Q := am_go L mt_S_settleGrains (fun h => by cases h) k_S_settleGrains_82 n 82 ls st M Q o_S_settleGrains_82 h
def k_S_settleGrains_88 : List am_I := [(.return_, 1, 0, 0, 0)]
set_option maxRecDepth 20000 in
theorem o_S_settleGrains_88 : am_okB mt_S_settleGrains 88 k_S_settleGrains_88 = true := by decide +kernel
theorem g_S_settleGrains_88 {L : am_S} {n : Nat} {ls st : List Value} {M : am_M} {Q : am_Q} (h : am_B L mt_S_settleGrains k_S_settleGrains_88 n 88 ls st M Q) : am_R L mt_S_settleGrains n 88 ls st M Q := am_go L mt_S_settleGrains (fun h => by cases h) k_S_settleGrains_88 n 88 ls st M Q o_S_settleGrains_88 h
def k_S_moveWater_0 : List am_I := [(.iload_n 1, 1, 0, 0, 0), (.invokestatic 21, 3, 19, 1, 239), (.ifCond .eq 15, 3, 0, 0, 0), (.iload_n 2, 1, 0, 0, 0), (.iconst 5, 1, 0, 0, 0), (.if_icmp .eq 12, 3, 0, 0, 0), (.iload_n 2, 1, 0, 0, 0), (.invokestatic 21, 3, 19, 1, 239), (.ifCond .ne 5, 3, 0, 0, 0)]
set_option maxRecDepth 20000 in
theorem o_S_moveWater_0 : am_okB mt_S_moveWater 0 k_S_moveWater_0 = true := by decide +kernel
theorem g_S_moveWater_0 {L : am_S} {n : Nat} {ls st : List Value} {M : am_M} {Q : am_Q} (h : am_B L mt_S_moveWater k_S_moveWater_0 n 0 ls st M Q) : am_R L mt_S_moveWater n 0 ls st M Q := am_go L mt_S_moveWater (fun h => by cases h) k_S_moveWater_0 n 0 ls st M Q o_S_moveWater_0 h
def k_S_moveWater_19 : List am_I := [(.iconst 0, 1, 0, 0, 0), (.ireturn, 1, 0, 0, 0)]
set_option maxRecDepth 20000 in
theorem o_S_moveWater_19 : am_okB mt_S_moveWater 19 k_S_moveWater_19 = true := by decide +kernel
theorem g_S_moveWater_19 {L : am_S} {n : Nat} {ls st : List Value} {M : am_M} {Q : am_Q} (h : am_B L mt_S_moveWater k_S_moveWater_19 n 19 ls st M Q) : am_R L mt_S_moveWater n 19 ls st M Q := am_go L mt_S_moveWater (fun h => by cases h) k_S_moveWater_19 n 19 ls st M Q o_S_moveWater_19 h
def k_S_moveWater_21 : List am_I := [(.aload_n 0, 1, 0, 0, 0), (.getfield 9, 3, 1, 0, 43), (.bipush 10, 2, 0, 0, 0), (.iload_n 1, 1, 0, 0, 0), (.iadd, 1, 0, 0, 0), (.iaload, 1, 0, 0, 0), (.istore 4, 2, 0, 0, 0), (.iload_n 3, 1, 0, 0, 0), (.iload 4, 2, 0, 0, 0), (.invokestatic 54, 3, 200, 2, 242), (.istore 5, 2, 0, 0, 0), (.iload_n 2, 1, 0, 0, 0), (.iconst 5, 1, 0, 0, 0), (.if_icmp .eq 28, 3, 0, 0, 0), (.iload 5, 2, 0, 0, 0), (.aload_n 0, 1, 0, 0, 0), (.getfield 9, 3, 1, 0, 43), (.iconst 0, 1, 0, 0, 0), (.iload_n 2, 1, 0, 0, 0), (.iadd, 1, 0, 0, 0), (.iaload, 1, 0, 0, 0), (.aload_n 0, 1, 0, 0, 0), (.getfield 9, 3, 1, 0, 43), (.bipush 10, 2, 0, 0, 0), (.iload_n 2, 1, 0, 0, 0), (.iadd, 1, 0, 0, 0), (.iaload, 1, 0, 0, 0), (.isub, 1, 0, 0, 0), (.invokestatic 54, 3, 200, 2, 242), (.istore 5, 2, 0, 0, 0)]
set_option maxRecDepth 20000 in
theorem o_S_moveWater_21 : am_okB mt_S_moveWater 21 k_S_moveWater_21 = true := by decide +kernel
theorem g_S_moveWater_21 {L : am_S} {n : Nat} {ls st : List Value} {M : am_M} {Q : am_Q} (h : am_B L mt_S_moveWater k_S_moveWater_21 n 21 ls st M Q) : am_R L mt_S_moveWater n 21 ls st M Q := am_go L mt_S_moveWater (fun h => by cases h) k_S_moveWater_21 n 21 ls st M Q o_S_moveWater_21 h
def k_S_moveWater_70 : List am_I := [(.iload 4, 2, 0, 0, 0), (.ifCond .le 8, 3, 0, 0, 0), (.iload 5, 2, 0, 0, 0), (.ifCond .gt 5, 3, 0, 0, 0)]
set_option maxRecDepth 20000 in
theorem o_S_moveWater_70 : am_okB mt_S_moveWater 70 k_S_moveWater_70 = true := by decide +kernel
theorem g_S_moveWater_70 {L : am_S} {n : Nat} {ls st : List Value} {M : am_M} {Q : am_Q} (h : am_B L mt_S_moveWater k_S_moveWater_70 n 70 ls st M Q) : am_R L mt_S_moveWater n 70 ls st M Q := am_go L mt_S_moveWater (fun h => by cases h) k_S_moveWater_70 n 70 ls st M Q o_S_moveWater_70 h
def k_S_moveWater_80 : List am_I := [(.iconst 0, 1, 0, 0, 0), (.ireturn, 1, 0, 0, 0)]
set_option maxRecDepth 20000 in
theorem o_S_moveWater_80 : am_okB mt_S_moveWater 80 k_S_moveWater_80 = true := by decide +kernel
theorem g_S_moveWater_80 {L : am_S} {n : Nat} {ls st : List Value} {M : am_M} {Q : am_Q} (h : am_B L mt_S_moveWater k_S_moveWater_80 n 80 ls st M Q) : am_R L mt_S_moveWater n 80 ls st M Q := am_go L mt_S_moveWater (fun h => by cases h) k_S_moveWater_80 n 80 ls st M Q o_S_moveWater_80 h
def k_S_moveWater_82 : List am_I := [(.iconst 0, 1, 0, 0, 0), (.istore 6, 2, 0, 0, 0)]
set_option maxRecDepth 20000 in
theorem o_S_moveWater_82 : am_okB mt_S_moveWater 82 k_S_moveWater_82 = true := by decide +kernel
theorem g_S_moveWater_82 {L : am_S} {n : Nat} {ls st : List Value} {M : am_M} {Q : am_Q} (h : am_B L mt_S_moveWater k_S_moveWater_82 n 82 ls st M Q) : am_R L mt_S_moveWater n 82 ls st M Q := am_go L mt_S_moveWater (fun h => by cases h) k_S_moveWater_82 n 82 ls st M Q o_S_moveWater_82 h
def k_S_moveWater_85 : List am_I := [(.iload 6, 2, 0, 0, 0), (.iconst 3, 1, 0, 0, 0), (.if_icmp .ge 82, 3, 0, 0, 0), (.aload_n 0, 1, 0, 0, 0), (.getfield 9, 3, 1, 0, 43), (.bipush 15, 2, 0, 0, 0), (.iload_n 1, 1, 0, 0, 0), (.iconst 3, 1, 0, 0, 0), (.imul, 1, 0, 0, 0), (.iadd, 1, 0, 0, 0), (.iload 6, 2, 0, 0, 0), (.iadd, 1, 0, 0, 0), (.iaload, 1, 0, 0, 0), (.iload 5, 2, 0, 0, 0), (.imul, 1, 0, 0, 0), (.iload 4, 2, 0, 0, 0), (.idiv, 1, 0, 0, 0), (.istore 7, 2, 0, 0, 0), (.aload_n 0, 1, 0, 0, 0), (.getfield 9, 3, 1, 0, 43), (.bipush 15, 2, 0, 0, 0), (.iload_n 1, 1, 0, 0, 0), (.iconst 3, 1, 0, 0, 0), (.imul, 1, 0, 0, 0), (.iadd, 1, 0, 0, 0), (.iload 6, 2, 0, 0, 0), (.iadd, 1, 0, 0, 0), (.dup2, 1, 0, 0, 0), (.iaload, 1, 0, 0, 0), (.iload 7, 2, 0, 0, 0), (.isub, 1, 0, 0, 0), (.iastore, 1, 0, 0, 0), (.aload_n 0, 1, 0, 0, 0), (.getfield 9, 3, 1, 0, 43), (.iload_n 2, 1, 0, 0, 0), (.iconst 5, 1, 0, 0, 0), (.if_icmp .ne 11, 3, 0, 0, 0), (.bipush 48, 2, 0, 0, 0), (.iload 6, 2, 0, 0, 0), (.iadd, 1, 0, 0, 0), (.goto 12, 3, 0, 0, 0)]
set_option maxRecDepth 20000 in
theorem o_S_moveWater_85 : am_okB mt_S_moveWater 85 k_S_moveWater_85 = true := by decide +kernel
theorem g_S_moveWater_85 {L : am_S} {n : Nat} {ls st : List Value} {M : am_M} {Q : am_Q} (h : am_B L mt_S_moveWater k_S_moveWater_85 n 85 ls st M Q) : am_R L mt_S_moveWater n 85 ls st M Q := am_go L mt_S_moveWater (fun h => by cases h) k_S_moveWater_85 n 85 ls st M Q o_S_moveWater_85 h
def k_S_moveWater_149 : List am_I := [(.bipush 15, 2, 0, 0, 0), (.iload_n 2, 1, 0, 0, 0), (.iconst 3, 1, 0, 0, 0), (.imul, 1, 0, 0, 0), (.iadd, 1, 0, 0, 0), (.iload 6, 2, 0, 0, 0), (.iadd, 1, 0, 0, 0)]
set_option maxRecDepth 20000 in
theorem o_S_moveWater_149 : am_okB mt_S_moveWater 149 k_S_moveWater_149 = true := by decide +kernel
theorem g_S_moveWater_149 {L : am_S} {n : Nat} {ls st : List Value} {M : am_M} {Q : am_Q} (h : am_B L mt_S_moveWater k_S_moveWater_149 n 149 ls st M Q) : am_R L mt_S_moveWater n 149 ls st M Q := am_go L mt_S_moveWater (fun h => by cases h) k_S_moveWater_149 n 149 ls st M Q o_S_moveWater_149 h
def k_S_moveWater_158 : List am_I := [(.dup2, 1, 0, 0, 0), (.iaload, 1, 0, 0, 0), (.iload 7, 2, 0, 0, 0), (.iadd, 1, 0, 0, 0), (.iastore, 1, 0, 0, 0), (.iinc 6 1, 3, 0, 0, 0), (.goto (-82), 3, 0, 0, 0)]
set_option maxRecDepth 20000 in
theorem o_S_moveWater_158 : am_okB mt_S_moveWater 158 k_S_moveWater_158 = true := by decide +kernel
theorem g_S_moveWater_158 {L : am_S} {n : Nat} {ls st : List Value} {M : am_M} {Q : am_Q} (h : am_B L mt_S_moveWater k_S_moveWater_158 n 158 ls st M Q) : am_R L mt_S_moveWater n 158 ls st M Q := am_go L mt_S_moveWater (fun h => by cases h) k_S_moveWater_158 n 158 ls st M Q o_S_moveWater_158 h
def k_S_moveWater_170 : List am_I := [(.aload_n 0, 1, 0, 0, 0), (.getfield 9, 3, 1, 0, 43), (.bipush 10, 2, 0, 0, 0), (.iload_n 1, 1, 0, 0, 0), (.iadd, 1, 0, 0, 0), (.dup2, 1, 0, 0, 0), (.iaload, 1, 0, 0, 0), (.iload 5, 2, 0, 0, 0), (.isub, 1, 0, 0, 0), (.iastore, 1, 0, 0, 0), (.aload_n 0, 1, 0, 0, 0), (.getfield 9, 3, 1, 0, 43), (.iload_n 2, 1, 0, 0, 0), (.iconst 5, 1, 0, 0, 0), (.if_icmp .ne 8, 3, 0, 0, 0), (.bipush 54, 2, 0, 0, 0), (.goto 7, 3, 0, 0, 0)]
set_option maxRecDepth 20000 in
theorem o_S_moveWater_170 : am_okB mt_S_moveWater 170 k_S_moveWater_170 = true := by decide +kernel
theorem g_S_moveWater_170 {L : am_S} {n : Nat} {ls st : List Value} {M : am_M} {Q : am_Q} (h : am_B L mt_S_moveWater k_S_moveWater_170 n 170 ls st M Q) : am_R L mt_S_moveWater n 170 ls st M Q := am_go L mt_S_moveWater (fun h => by cases h) k_S_moveWater_170 n 170 ls st M Q o_S_moveWater_170 h
def k_S_moveWater_198 : List am_I := [(.bipush 10, 2, 0, 0, 0), (.iload_n 2, 1, 0, 0, 0), (.iadd, 1, 0, 0, 0)]
set_option maxRecDepth 20000 in
theorem o_S_moveWater_198 : am_okB mt_S_moveWater 198 k_S_moveWater_198 = true := by decide +kernel
theorem g_S_moveWater_198 {L : am_S} {n : Nat} {ls st : List Value} {M : am_M} {Q : am_Q} (h : am_B L mt_S_moveWater k_S_moveWater_198 n 198 ls st M Q) : am_R L mt_S_moveWater n 198 ls st M Q := am_go L mt_S_moveWater (fun h => by cases h) k_S_moveWater_198 n 198 ls st M Q o_S_moveWater_198 h
def k_S_moveWater_202 : List am_I := [(.dup2, 1, 0, 0, 0), (.iaload, 1, 0, 0, 0), (.iload 5, 2, 0, 0, 0), (.iadd, 1, 0, 0, 0), (.iastore, 1, 0, 0, 0), (.iload 5, 2, 0, 0, 0), (.ireturn, 1, 0, 0, 0)]
set_option maxRecDepth 20000 in
theorem o_S_moveWater_202 : am_okB mt_S_moveWater 202 k_S_moveWater_202 = true := by decide +kernel
theorem g_S_moveWater_202 {L : am_S} {n : Nat} {ls st : List Value} {M : am_M} {Q : am_Q} (h : am_B L mt_S_moveWater k_S_moveWater_202 n 202 ls st M Q) : am_R L mt_S_moveWater n 202 ls st M Q := am_go L mt_S_moveWater (fun h => by cases h) k_S_moveWater_202 n 202 ls st M Q o_S_moveWater_202 h
def k_S_isOpen_0 : List am_I := [(.iload_n 1, 1, 0, 0, 0), (.bipush 57, 2, 0, 0, 0), (.if_icmp .lt 39, 3, 0, 0, 0), (.iload_n 1, 1, 0, 0, 0), (.iconst 4, 1, 0, 0, 0), (.iadd, 1, 0, 0, 0), (.bipush 105, 2, 0, 0, 0), (.if_icmp .ge 31, 3, 0, 0, 0), (.iload_n 2, 1, 0, 0, 0), (.aload_n 0, 1, 0, 0, 0), (.getfield 9, 3, 1, 0, 43), (.iload_n 1, 1, 0, 0, 0), (.iconst 3, 1, 0, 0, 0), (.iadd, 1, 0, 0, 0), (.iaload, 1, 0, 0, 0), (.if_icmp .lt 19, 3, 0, 0, 0), (.iload_n 2, 1, 0, 0, 0), (.aload_n 0, 1, 0, 0, 0), (.getfield 9, 3, 1, 0, 43), (.iload_n 1, 1, 0, 0, 0), (.iconst 4, 1, 0, 0, 0), (.iadd, 1, 0, 0, 0), (.iaload, 1, 0, 0, 0), (.if_icmp .gt 7, 3, 0, 0, 0), (.iconst 1, 1, 0, 0, 0), (.goto 4, 3, 0, 0, 0)]
set_option maxRecDepth 20000 in
theorem o_S_isOpen_0 : am_okB mt_S_isOpen 0 k_S_isOpen_0 = true := by decide +kernel
theorem g_S_isOpen_0 {L : am_S} {n : Nat} {ls st : List Value} {M : am_M} {Q : am_Q} (h : am_B L mt_S_isOpen k_S_isOpen_0 n 0 ls st M Q) : am_R L mt_S_isOpen n 0 ls st M Q := am_go L mt_S_isOpen (fun h => by cases h) k_S_isOpen_0 n 0 ls st M Q o_S_isOpen_0 h
def k_S_isOpen_42 : List am_I := [(.iconst 0, 1, 0, 0, 0)]
set_option maxRecDepth 20000 in
theorem o_S_isOpen_42 : am_okB mt_S_isOpen 42 k_S_isOpen_42 = true := by decide +kernel
theorem g_S_isOpen_42 {L : am_S} {n : Nat} {ls st : List Value} {M : am_M} {Q : am_Q} (h : am_B L mt_S_isOpen k_S_isOpen_42 n 42 ls st M Q) : am_R L mt_S_isOpen n 42 ls st M Q := am_go L mt_S_isOpen (fun h => by cases h) k_S_isOpen_42 n 42 ls st M Q o_S_isOpen_42 h
def k_S_isOpen_43 : List am_I := [(.ireturn, 1, 0, 0, 0)]
set_option maxRecDepth 20000 in
theorem o_S_isOpen_43 : am_okB mt_S_isOpen 43 k_S_isOpen_43 = true := by decide +kernel
theorem g_S_isOpen_43 {L : am_S} {n : Nat} {ls st : List Value} {M : am_M} {Q : am_Q} (h : am_B L mt_S_isOpen k_S_isOpen_43 n 43 ls st M Q) : am_R L mt_S_isOpen n 43 ls st M Q := am_go L mt_S_isOpen (fun h => by cases h) k_S_isOpen_43 n 43 ls st M Q o_S_isOpen_43 h
def k_S_grainsInAll_0 : List am_I := [(.iconst 0, 1, 0, 0, 0), (.istore_n 2, 1, 0, 0, 0), (.iconst 0, 1, 0, 0, 0), (.istore_n 3, 1, 0, 0, 0)]
set_option maxRecDepth 20000 in
theorem o_S_grainsInAll_0 : am_okB mt_S_grainsInAll 0 k_S_grainsInAll_0 = true := by decide +kernel
theorem g_S_grainsInAll_0 {L : am_S} {n : Nat} {ls st : List Value} {M : am_M} {Q : am_Q} (h : am_B L mt_S_grainsInAll k_S_grainsInAll_0 n 0 ls st M Q) : am_R L mt_S_grainsInAll n 0 ls st M Q := am_go L mt_S_grainsInAll (fun h => by cases h) k_S_grainsInAll_0 n 0 ls st M Q o_S_grainsInAll_0 h
def k_S_grainsInAll_4 : List am_I := [(.iload_n 3, 1, 0, 0, 0), (.iconst 5, 1, 0, 0, 0), (.if_icmp .ge 38, 3, 0, 0, 0), (.iload_n 1, 1, 0, 0, 0), (.iload_n 3, 1, 0, 0, 0), (.iconst 3, 1, 0, 0, 0), (.imul, 1, 0, 0, 0), (.iadd, 1, 0, 0, 0), (.istore 4, 2, 0, 0, 0), (.iload 4, 2, 0, 0, 0), (.ifCond .lt 20, 3, 0, 0, 0), (.iload 4, 2, 0, 0, 0), (.bipush 105, 2, 0, 0, 0), (.if_icmp .ge 13, 3, 0, 0, 0), (.iload_n 2, 1, 0, 0, 0), (.aload_n 0, 1, 0, 0, 0), (.getfield 9, 3, 1, 0, 43), (.iload 4, 2, 0, 0, 0), (.iaload, 1, 0, 0, 0), (.iadd, 1, 0, 0, 0), (.istore_n 2, 1, 0, 0, 0)]
set_option maxRecDepth 20000 in
theorem o_S_grainsInAll_4 : am_okB mt_S_grainsInAll 4 k_S_grainsInAll_4 = true := by decide +kernel
theorem g_S_grainsInAll_4 {L : am_S} {n : Nat} {ls st : List Value} {M : am_M} {Q : am_Q} (h : am_B L mt_S_grainsInAll k_S_grainsInAll_4 n 4 ls st M Q) : am_R L mt_S_grainsInAll n 4 ls st M Q := am_go L mt_S_grainsInAll (fun h => by cases h) k_S_grainsInAll_4 n 4 ls st M Q o_S_grainsInAll_4 h
def k_S_grainsInAll_38 : List am_I := [(.iinc 3 1, 3, 0, 0, 0), (.goto (-37), 3, 0, 0, 0)]
set_option maxRecDepth 20000 in
theorem o_S_grainsInAll_38 : am_okB mt_S_grainsInAll 38 k_S_grainsInAll_38 = true := by decide +kernel
theorem g_S_grainsInAll_38 {L : am_S} {n : Nat} {ls st : List Value} {M : am_M} {Q : am_Q} (h : am_B L mt_S_grainsInAll k_S_grainsInAll_38 n 38 ls st M Q) : am_R L mt_S_grainsInAll n 38 ls st M Q := am_go L mt_S_grainsInAll (fun h => by cases h) k_S_grainsInAll_38 n 38 ls st M Q o_S_grainsInAll_38 h
def k_S_grainsInAll_44 : List am_I := [(.iload_n 2, 1, 0, 0, 0), (.ireturn, 1, 0, 0, 0)]
set_option maxRecDepth 20000 in
theorem o_S_grainsInAll_44 : am_okB mt_S_grainsInAll 44 k_S_grainsInAll_44 = true := by decide +kernel
theorem g_S_grainsInAll_44 {L : am_S} {n : Nat} {ls st : List Value} {M : am_M} {Q : am_Q} (h : am_B L mt_S_grainsInAll k_S_grainsInAll_44 n 44 ls st M Q) : am_R L mt_S_grainsInAll n 44 ls st M Q := am_go L mt_S_grainsInAll (fun h => by cases h) k_S_grainsInAll_44 n 44 ls st M Q o_S_grainsInAll_44 h
def k_S_strongestVat_0 : List am_I := [(.iload_n 1, 1, 0, 0, 0), (.ifCond .lt 8, 3, 0, 0, 0), (.iload_n 1, 1, 0, 0, 0), (.iconst 3, 1, 0, 0, 0), (.if_icmp .lt 5, 3, 0, 0, 0)]
set_option maxRecDepth 20000 in
theorem o_S_strongestVat_0 : am_okB mt_S_strongestVat 0 k_S_strongestVat_0 = true := by decide +kernel
theorem g_S_strongestVat_0 {L : am_S} {n : Nat} {ls st : List Value} {M : am_M} {Q : am_Q} (h : am_B L mt_S_strongestVat k_S_strongestVat_0 n 0 ls st M Q) : am_R L mt_S_strongestVat n 0 ls st M Q := am_go L mt_S_strongestVat (fun h => by cases h) k_S_strongestVat_0 n 0 ls st M Q o_S_strongestVat_0 h
def k_S_strongestVat_9 : List am_I := [(.iconst (-1), 1, 0, 0, 0), (.ireturn, 1, 0, 0, 0)]
set_option maxRecDepth 20000 in
theorem o_S_strongestVat_9 : am_okB mt_S_strongestVat 9 k_S_strongestVat_9 = true := by decide +kernel
theorem g_S_strongestVat_9 {L : am_S} {n : Nat} {ls st : List Value} {M : am_M} {Q : am_Q} (h : am_B L mt_S_strongestVat k_S_strongestVat_9 n 9 ls st M Q) : am_R L mt_S_strongestVat n 9 ls st M Q := am_go L mt_S_strongestVat (fun h => by cases h) k_S_strongestVat_9 n 9 ls st M Q o_S_strongestVat_9 h
def k_S_strongestVat_11 : List am_I := [(.iconst (-1), 1, 0, 0, 0), (.istore_n 2, 1, 0, 0, 0), (.iconst 0, 1, 0, 0, 0), (.istore_n 3, 1, 0, 0, 0), (.iconst 1, 1, 0, 0, 0), (.istore 4, 2, 0, 0, 0), (.iconst 0, 1, 0, 0, 0), (.istore 5, 2, 0, 0, 0)]
set_option maxRecDepth 20000 in
theorem o_S_strongestVat_11 : am_okB mt_S_strongestVat 11 k_S_strongestVat_11 = true := by decide +kernel
theorem g_S_strongestVat_11 {L : am_S} {n : Nat} {ls st : List Value} {M : am_M} {Q : am_Q} (h : am_B L mt_S_strongestVat k_S_strongestVat_11 n 11 ls st M Q) : am_R L mt_S_strongestVat n 11 ls st M Q := am_go L mt_S_strongestVat (fun h => by cases h) k_S_strongestVat_11 n 11 ls st M Q o_S_strongestVat_11 h
def k_S_strongestVat_21 : List am_I := [(.iload 5, 2, 0, 0, 0), (.iconst 5, 1, 0, 0, 0), (.if_icmp .ge 69, 3, 0, 0, 0), (.aload_n 0, 1, 0, 0, 0), (.getfield 9, 3, 1, 0, 43), (.bipush 10, 2, 0, 0, 0), (.iload 5, 2, 0, 0, 0), (.iadd, 1, 0, 0, 0), (.iaload, 1, 0, 0, 0), (.istore 6, 2, 0, 0, 0), (.aload_n 0, 1, 0, 0, 0), (.getfield 9, 3, 1, 0, 43), (.bipush 15, 2, 0, 0, 0), (.iload 5, 2, 0, 0, 0), (.iconst 3, 1, 0, 0, 0), (.imul, 1, 0, 0, 0), (.iadd, 1, 0, 0, 0), (.iload_n 1, 1, 0, 0, 0), (.iadd, 1, 0, 0, 0), (.iaload, 1, 0, 0, 0), (.istore 7, 2, 0, 0, 0), (.iload 6, 2, 0, 0, 0), (.ifCond .le 30, 3, 0, 0, 0), (.iload_n 2, 1, 0, 0, 0), (.iconst (-1), 1, 0, 0, 0), (.if_icmp .eq 15, 3, 0, 0, 0), (.iload 7, 2, 0, 0, 0), (.iload 4, 2, 0, 0, 0), (.imul, 1, 0, 0, 0), (.iload_n 3, 1, 0, 0, 0), (.iload 6, 2, 0, 0, 0), (.imul, 1, 0, 0, 0), (.if_icmp .le 13, 3, 0, 0, 0)]
set_option maxRecDepth 20000 in
theorem o_S_strongestVat_21 : am_okB mt_S_strongestVat 21 k_S_strongestVat_21 = true := by decide +kernel
theorem g_S_strongestVat_21 {L : am_S} {n : Nat} {ls st : List Value} {M : am_M} {Q : am_Q} (h : am_B L mt_S_strongestVat k_S_strongestVat_21 n 21 ls st M Q) : am_R L mt_S_strongestVat n 21 ls st M Q := am_go L mt_S_strongestVat (fun h => by cases h) k_S_strongestVat_21 n 21 ls st M Q o_S_strongestVat_21 h
def k_S_strongestVat_77 : List am_I := [(.iload 5, 2, 0, 0, 0), (.istore_n 2, 1, 0, 0, 0), (.iload 7, 2, 0, 0, 0), (.istore_n 3, 1, 0, 0, 0), (.iload 6, 2, 0, 0, 0), (.istore 4, 2, 0, 0, 0)]
set_option maxRecDepth 20000 in
theorem o_S_strongestVat_77 : am_okB mt_S_strongestVat 77 k_S_strongestVat_77 = true := by decide +kernel
theorem g_S_strongestVat_77 {L : am_S} {n : Nat} {ls st : List Value} {M : am_M} {Q : am_Q} (h : am_B L mt_S_strongestVat k_S_strongestVat_77 n 77 ls st M Q) : am_R L mt_S_strongestVat n 77 ls st M Q := am_go L mt_S_strongestVat (fun h => by cases h) k_S_strongestVat_77 n 77 ls st M Q o_S_strongestVat_77 h
def k_S_strongestVat_87 : List am_I := [(.iinc 5 1, 3, 0, 0, 0), (.goto (-69), 3, 0, 0, 0)]
set_option maxRecDepth 20000 in
theorem o_S_strongestVat_87 : am_okB mt_S_strongestVat 87 k_S_strongestVat_87 = true := by decide +kernel
theorem g_S_strongestVat_87 {L : am_S} {n : Nat} {ls st : List Value} {M : am_M} {Q : am_Q} (h : am_B L mt_S_strongestVat k_S_strongestVat_87 n 87 ls st M Q) : am_R L mt_S_strongestVat n 87 ls st M Q := am_go L mt_S_strongestVat (fun h => by cases h) k_S_strongestVat_87 n 87 ls st M Q o_S_strongestVat_87 h
def k_S_strongestVat_93 : List am_I := [(.iload_n 2, 1, 0, 0, 0), (.ireturn, 1, 0, 0, 0)]
set_option maxRecDepth 20000 in
theorem o_S_strongestVat_93 : am_okB mt_S_strongestVat 93 k_S_strongestVat_93 = true := by decide +kernel
theorem g_S_strongestVat_93 {L : am_S} {n : Nat} {ls st : List Value} {M : am_M} {Q : am_Q} (h : am_B L mt_S_strongestVat k_S_strongestVat_93 n 93 ls st M Q) : am_R L mt_S_strongestVat n 93 ls st M Q := am_go L mt_S_strongestVat (fun h => by cases h) k_S_strongestVat_93 n 93 ls st M Q o_S_strongestVat_93 h
def k_S_isVat_0 : List am_I := [(.iload_n 0, 1, 0, 0, 0), (.ifCond .lt 12, 3, 0, 0, 0), (.iload_n 0, 1, 0, 0, 0), (.iconst 5, 1, 0, 0, 0), (.if_icmp .ge 7, 3, 0, 0, 0), (.iconst 1, 1, 0, 0, 0), (.goto 4, 3, 0, 0, 0)]
set_option maxRecDepth 20000 in
theorem o_S_isVat_0 : am_okB mt_S_isVat 0 k_S_isVat_0 = true := by decide +kernel
theorem g_S_isVat_0 {L : am_S} {n : Nat} {ls st : List Value} {M : am_M} {Q : am_Q} (h : am_B L mt_S_isVat k_S_isVat_0 n 0 ls st M Q) : am_R L mt_S_isVat n 0 ls st M Q := am_go L mt_S_isVat (fun h => by cases h) k_S_isVat_0 n 0 ls st M Q o_S_isVat_0 h
def k_S_isVat_13 : List am_I := [(.iconst 0, 1, 0, 0, 0)]
set_option maxRecDepth 20000 in
theorem o_S_isVat_13 : am_okB mt_S_isVat 13 k_S_isVat_13 = true := by decide +kernel
theorem g_S_isVat_13 {L : am_S} {n : Nat} {ls st : List Value} {M : am_M} {Q : am_Q} (h : am_B L mt_S_isVat k_S_isVat_13 n 13 ls st M Q) : am_R L mt_S_isVat n 13 ls st M Q := am_go L mt_S_isVat (fun h => by cases h) k_S_isVat_13 n 13 ls st M Q o_S_isVat_13 h
def k_S_isVat_14 : List am_I := [(.ireturn, 1, 0, 0, 0)]
set_option maxRecDepth 20000 in
theorem o_S_isVat_14 : am_okB mt_S_isVat 14 k_S_isVat_14 = true := by decide +kernel
theorem g_S_isVat_14 {L : am_S} {n : Nat} {ls st : List Value} {M : am_M} {Q : am_Q} (h : am_B L mt_S_isVat k_S_isVat_14 n 14 ls st M Q) : am_R L mt_S_isVat n 14 ls st M Q := am_go L mt_S_isVat (fun h => by cases h) k_S_isVat_14 n 14 ls st M Q o_S_isVat_14 h
def k_D_beginWith_0 : List am_I := [(.aload_n 0, 1, 0, 0, 0), (.getfield 12, 3, 0, 0, 58), (.aload_n 1, 1, 0, 0, 0), (.invokevirtual 32, 3, 1, 2, 284), (.aload_n 0, 1, 0, 0, 0), (.iconst 0, 1, 0, 0, 0), (.putfield 22, 3, 0, 2, 60), (.aload_n 0, 1, 0, 0, 0), (.getfield 12, 3, 0, 0, 58), (.getfield 36, 3, 1, 0, 45), (.bipush 10, 2, 0, 0, 0), (.aload_n 0, 1, 0, 0, 0), (.getfield 18, 3, 0, 1, 59), (.iconst 0, 1, 0, 0, 0), (.bipush 35, 2, 0, 0, 0), (.invokestatic 39, 3, 202, 5, 285), (.return_, 1, 0, 0, 0)]
set_option maxRecDepth 20000 in
theorem o_D_beginWith_0 : am_okB mt_D_beginWith 0 k_D_beginWith_0 = true := by decide +kernel
theorem g_D_beginWith_0 {L : am_S} {n : Nat} {ls st : List Value} {M : am_M} {Q : am_Q} (h : am_B L mt_D_beginWith k_D_beginWith_0 n 0 ls st M Q) : am_R L mt_D_beginWith n 0 ls st M Q := am_go L mt_D_beginWith (fun h => by cases h) k_D_beginWith_0 n 0 ls st M Q o_D_beginWith_0 h
def k_D_findByRunners_0 : List am_I := [(.aload_n 0, 1, 0, 0, 0), (.iconst (-1), 1, 0, 0, 0), (.putfield 26, 3, 0, 3, 61), (.aload_n 0, 1, 0, 0, 0), (.iconst (-1), 1, 0, 0, 0), (.putfield 29, 3, 0, 4, 63), (.iconst 0, 1, 0, 0, 0), (.istore_n 1, 1, 0, 0, 0)]
set_option maxRecDepth 20000 in
theorem o_D_findByRunners_0 : am_okB mt_D_findByRunners 0 k_D_findByRunners_0 = true := by decide +kernel
theorem g_D_findByRunners_0 {L : am_S} {n : Nat} {ls st : List Value} {M : am_M} {Q : am_Q} (h : am_B L mt_D_findByRunners k_D_findByRunners_0 n 0 ls st M Q) : am_R L mt_D_findByRunners n 0 ls st M Q := am_go L mt_D_findByRunners (fun h => by cases h) k_D_findByRunners_0 n 0 ls st M Q o_D_findByRunners_0 h
def k_D_findByRunners_12 : List am_I := [(.iinc 1 1, 3, 0, 0, 0), (.aload_n 0, 1, 0, 0, 0), (.iconst 2, 1, 0, 0, 0), (.iload_n 1, 1, 0, 0, 0), (.imul, 1, 0, 0, 0), (.invokevirtual 45, 3, 23, 2, 290), (.iload_n 1, 1, 0, 0, 0), (.bipush 60, 2, 0, 0, 0), (.if_icmp .ge 14, 3, 0, 0, 0), (.aload_n 0, 1, 0, 0, 0), (.iload_n 1, 1, 0, 0, 0), (.iconst 2, 1, 0, 0, 0), (.iload_n 1, 1, 0, 0, 0), (.imul, 1, 0, 0, 0), (.invokevirtual 49, 3, 24, 3, 295), (.ifCond .eq (-24), 3, 0, 0, 0)]
set_option maxRecDepth 20000 in
theorem o_D_findByRunners_12 : am_okB mt_D_findByRunners 12 k_D_findByRunners_12 = true := by decide +kernel
theorem g_D_findByRunners_12 {L : am_S} {n : Nat} {ls st : List Value} {M : am_M} {Q : am_Q} (h : am_B L mt_D_findByRunners k_D_findByRunners_12 n 12 ls st M Q) : am_R L mt_D_findByRunners n 12 ls st M Q := am_go L mt_D_findByRunners (fun h => by cases h) k_D_findByRunners_12 n 12 ls st M Q o_D_findByRunners_12 h
def k_D_findByRunners_39 : List am_I := [(.aload_n 0, 1, 0, 0, 0), (.iload_n 1, 1, 0, 0, 0), (.iconst 2, 1, 0, 0, 0), (.iload_n 1, 1, 0, 0, 0), (.imul, 1, 0, 0, 0), (.invokevirtual 49, 3, 24, 3, 295), (.ifCond .ne 4, 3, 0, 0, 0), (.return_, 1, 0, 0, 0)]
set_option maxRecDepth 20000 in
theorem o_D_findByRunners_39 : am_okB mt_D_findByRunners 39 k_D_findByRunners_39 = true := by decide +kernel
theorem g_D_findByRunners_39 {L : am_S} {n : Nat} {ls st : List Value} {M : am_M} {Q : am_Q} (h : am_B L mt_D_findByRunners k_D_findByRunners_39 n 39 ls st M Q) : am_R L mt_D_findByRunners n 39 ls st M Q := am_go L mt_D_findByRunners (fun h => by cases h) k_D_findByRunners_39 n 39 ls st M Q o_D_findByRunners_39 h
def k_D_findByRunners_51 : List am_I := [(.iconst 0, 1, 0, 0, 0), (.istore_n 2, 1, 0, 0, 0)]
set_option maxRecDepth 20000 in
theorem o_D_findByRunners_51 : am_okB mt_D_findByRunners 51 k_D_findByRunners_51 = true := by decide +kernel
theorem g_D_findByRunners_51 {L : am_S} {n : Nat} {ls st : List Value} {M : am_M} {Q : am_Q} (h : am_B L mt_D_findByRunners k_D_findByRunners_51 n 51 ls st M Q) : am_R L mt_D_findByRunners n 51 ls st M Q := am_go L mt_D_findByRunners (fun h => by cases h) k_D_findByRunners_51 n 51 ls st M Q o_D_findByRunners_51 h
def k_D_findByRunners_53 : List am_I := [(.iload_n 2, 1, 0, 0, 0), (.iload_n 1, 1, 0, 0, 0), (.if_icmp .ge 20, 3, 0, 0, 0), (.aload_n 0, 1, 0, 0, 0), (.iload_n 2, 1, 0, 0, 0), (.iload_n 1, 1, 0, 0, 0), (.iload_n 2, 1, 0, 0, 0), (.iadd, 1, 0, 0, 0), (.invokevirtual 49, 3, 24, 3, 295), (.ifCond .ne 9, 3, 0, 0, 0), (.iinc 2 1, 3, 0, 0, 0), (.goto (-19), 3, 0, 0, 0)]
set_option maxRecDepth 20000 in
theorem o_D_findByRunners_53 : am_okB mt_D_findByRunners 53 k_D_findByRunners_53 = true := by decide +kernel
theorem g_D_findByRunners_53 {L : am_S} {n : Nat} {ls st : List Value} {M : am_M} {Q : am_Q} (h : am_B L mt_D_findByRunners k_D_findByRunners_53 n 53 ls st M Q) : am_R L mt_D_findByRunners n 53 ls st M Q := am_go L mt_D_findByRunners (fun h => by cases h) k_D_findByRunners_53 n 53 ls st M Q o_D_findByRunners_53 h
def k_D_findByRunners_75 : List am_I := [(.iconst 1, 1, 0, 0, 0), (.istore_n 3, 1, 0, 0, 0)]
set_option maxRecDepth 20000 in
theorem o_D_findByRunners_75 : am_okB mt_D_findByRunners 75 k_D_findByRunners_75 = true := by decide +kernel
theorem g_D_findByRunners_75 {L : am_S} {n : Nat} {ls st : List Value} {M : am_M} {Q : am_Q} (h : am_B L mt_D_findByRunners k_D_findByRunners_75 n 75 ls st M Q) : am_R L mt_D_findByRunners n 75 ls st M Q := am_go L mt_D_findByRunners (fun h => by cases h) k_D_findByRunners_75 n 75 ls st M Q o_D_findByRunners_75 h
def k_D_findByRunners_77 : List am_I := [(.iload_n 3, 1, 0, 0, 0), (.iload_n 1, 1, 0, 0, 0), (.if_icmp .ge 20, 3, 0, 0, 0), (.aload_n 0, 1, 0, 0, 0), (.iload_n 2, 1, 0, 0, 0), (.iload_n 2, 1, 0, 0, 0), (.iload_n 3, 1, 0, 0, 0), (.iadd, 1, 0, 0, 0), (.invokevirtual 49, 3, 24, 3, 295), (.ifCond .ne 9, 3, 0, 0, 0), (.iinc 3 1, 3, 0, 0, 0), (.goto (-19), 3, 0, 0, 0)]
set_option maxRecDepth 20000 in
theorem o_D_findByRunners_77 : am_okB mt_D_findByRunners 77 k_D_findByRunners_77 = true := by decide +kernel
theorem g_D_findByRunners_77 {L : am_S} {n : Nat} {ls st : List Value} {M : am_M} {Q : am_Q} (h : am_B L mt_D_findByRunners k_D_findByRunners_77 n 77 ls st M Q) : am_R L mt_D_findByRunners n 77 ls st M Q := am_go L mt_D_findByRunners (fun h => by cases h) k_D_findByRunners_77 n 77 ls st M Q o_D_findByRunners_77 h
def k_D_findByRunners_99 : List am_I := [(.iload_n 2, 1, 0, 0, 0), (.iload_n 3, 1, 0, 0, 0), (.iadd, 1, 0, 0, 0), (.bipush 60, 2, 0, 0, 0), (.if_icmp .gt 13, 3, 0, 0, 0), (.aload_n 0, 1, 0, 0, 0), (.iload_n 3, 1, 0, 0, 0), (.putfield 26, 3, 0, 3, 61), (.aload_n 0, 1, 0, 0, 0), (.iload_n 2, 1, 0, 0, 0), (.putfield 29, 3, 0, 4, 63)]
set_option maxRecDepth 20000 in
theorem o_D_findByRunners_99 : am_okB mt_D_findByRunners 99 k_D_findByRunners_99 = true := by decide +kernel
theorem g_D_findByRunners_99 {L : am_S} {n : Nat} {ls st : List Value} {M : am_M} {Q : am_Q} (h : am_B L mt_D_findByRunners k_D_findByRunners_99 n 99 ls st M Q) : am_R L mt_D_findByRunners n 99 ls st M Q := am_go L mt_D_findByRunners (fun h => by cases h) k_D_findByRunners_99 n 99 ls st M Q o_D_findByRunners_99 h
def k_D_findByRunners_117 : List am_I := [(.return_, 1, 0, 0, 0)]
set_option maxRecDepth 20000 in
theorem o_D_findByRunners_117 : am_okB mt_D_findByRunners 117 k_D_findByRunners_117 = true := by decide +kernel
theorem g_D_findByRunners_117 {L : am_S} {n : Nat} {ls st : List Value} {M : am_M} {Q : am_Q} (h : am_B L mt_D_findByRunners k_D_findByRunners_117 n 117 ls st M Q) : am_R L mt_D_findByRunners n 117 ls st M Q := am_go L mt_D_findByRunners (fun h => by cases h) k_D_findByRunners_117 n 117 ls st M Q o_D_findByRunners_117 h
def k_D_findByLookingBack_0 : List am_I := [(.aload_n 0, 1, 0, 0, 0), (.iconst (-1), 1, 0, 0, 0), (.putfield 26, 3, 0, 3, 61), (.aload_n 0, 1, 0, 0, 0), (.iconst (-1), 1, 0, 0, 0), (.putfield 29, 3, 0, 4, 63), (.iconst 1, 1, 0, 0, 0), (.istore_n 1, 1, 0, 0, 0)]
set_option maxRecDepth 20000 in
theorem o_D_findByLookingBack_0 : am_okB mt_D_findByLookingBack 0 k_D_findByLookingBack_0 = true := by decide +kernel
theorem g_D_findByLookingBack_0 {L : am_S} {n : Nat} {ls st : List Value} {M : am_M} {Q : am_Q} (h : am_B L mt_D_findByLookingBack k_D_findByLookingBack_0 n 0 ls st M Q) : am_R L mt_D_findByLookingBack n 0 ls st M Q := am_go L mt_D_findByLookingBack (fun h => by cases h) k_D_findByLookingBack_0 n 0 ls st M Q o_D_findByLookingBack_0 h
def k_D_findByLookingBack_12 : List am_I := [(.iload_n 1, 1, 0, 0, 0), (.bipush 60, 2, 0, 0, 0), (.if_icmp .gt 49, 3, 0, 0, 0), (.aload_n 0, 1, 0, 0, 0), (.iload_n 1, 1, 0, 0, 0), (.invokevirtual 45, 3, 23, 2, 290), (.iconst 0, 1, 0, 0, 0), (.istore_n 2, 1, 0, 0, 0)]
set_option maxRecDepth 20000 in
theorem o_D_findByLookingBack_12 : am_okB mt_D_findByLookingBack 12 k_D_findByLookingBack_12 = true := by decide +kernel
theorem g_D_findByLookingBack_12 {L : am_S} {n : Nat} {ls st : List Value} {M : am_M} {Q : am_Q} (h : am_B L mt_D_findByLookingBack k_D_findByLookingBack_12 n 12 ls st M Q) : am_R L mt_D_findByLookingBack n 12 ls st M Q := am_go L mt_D_findByLookingBack (fun h => by cases h) k_D_findByLookingBack_12 n 12 ls st M Q o_D_findByLookingBack_12 h
def k_D_findByLookingBack_25 : List am_I := [(.iload_n 2, 1, 0, 0, 0), (.iload_n 1, 1, 0, 0, 0), (.if_icmp .ge 31, 3, 0, 0, 0), (.aload_n 0, 1, 0, 0, 0), (.iload_n 2, 1, 0, 0, 0), (.iload_n 1, 1, 0, 0, 0), (.invokevirtual 49, 3, 24, 3, 295), (.ifCond .eq 16, 3, 0, 0, 0), (.aload_n 0, 1, 0, 0, 0), (.iload_n 1, 1, 0, 0, 0), (.iload_n 2, 1, 0, 0, 0), (.isub, 1, 0, 0, 0), (.putfield 26, 3, 0, 3, 61), (.aload_n 0, 1, 0, 0, 0), (.iload_n 2, 1, 0, 0, 0), (.putfield 29, 3, 0, 4, 63), (.return_, 1, 0, 0, 0)]
set_option maxRecDepth 20000 in
theorem o_D_findByLookingBack_25 : am_okB mt_D_findByLookingBack 25 k_D_findByLookingBack_25 = true := by decide +kernel
theorem g_D_findByLookingBack_25 {L : am_S} {n : Nat} {ls st : List Value} {M : am_M} {Q : am_Q} (h : am_B L mt_D_findByLookingBack k_D_findByLookingBack_25 n 25 ls st M Q) : am_R L mt_D_findByLookingBack n 25 ls st M Q := am_go L mt_D_findByLookingBack (fun h => by cases h) k_D_findByLookingBack_25 n 25 ls st M Q o_D_findByLookingBack_25 h
def k_D_findByLookingBack_52 : List am_I := [(.iinc 2 1, 3, 0, 0, 0), (.goto (-30), 3, 0, 0, 0)]
set_option maxRecDepth 20000 in
theorem o_D_findByLookingBack_52 : am_okB mt_D_findByLookingBack 52 k_D_findByLookingBack_52 = true := by decide +kernel
theorem g_D_findByLookingBack_52 {L : am_S} {n : Nat} {ls st : List Value} {M : am_M} {Q : am_Q} (h : am_B L mt_D_findByLookingBack k_D_findByLookingBack_52 n 52 ls st M Q) : am_R L mt_D_findByLookingBack n 52 ls st M Q := am_go L mt_D_findByLookingBack (fun h => by cases h) k_D_findByLookingBack_52 n 52 ls st M Q o_D_findByLookingBack_52 h
def k_D_findByLookingBack_58 : List am_I := [(.iinc 1 1, 3, 0, 0, 0), (.goto (-49), 3, 0, 0, 0)]
set_option maxRecDepth 20000 in
theorem o_D_findByLookingBack_58 : am_okB mt_D_findByLookingBack 58 k_D_findByLookingBack_58 = true := by decide +kernel
theorem g_D_findByLookingBack_58 {L : am_S} {n : Nat} {ls st : List Value} {M : am_M} {Q : am_Q} (h : am_B L mt_D_findByLookingBack k_D_findByLookingBack_58 n 58 ls st M Q) : am_R L mt_D_findByLookingBack n 58 ls st M Q := am_go L mt_D_findByLookingBack (fun h => by cases h) k_D_findByLookingBack_58 n 58 ls st M Q o_D_findByLookingBack_58 h
def k_D_findByLookingBack_64 : List am_I := [(.return_, 1, 0, 0, 0)]
set_option maxRecDepth 20000 in
theorem o_D_findByLookingBack_64 : am_okB mt_D_findByLookingBack 64 k_D_findByLookingBack_64 = true := by decide +kernel
theorem g_D_findByLookingBack_64 {L : am_S} {n : Nat} {ls st : List Value} {M : am_M} {Q : am_Q} (h : am_B L mt_D_findByLookingBack k_D_findByLookingBack_64 n 64 ls st M Q) : am_R L mt_D_findByLookingBack n 64 ls st M Q := am_go L mt_D_findByLookingBack (fun h => by cases h) k_D_findByLookingBack_64 n 64 ls st M Q o_D_findByLookingBack_64 h
def k_D_reachDay_0 : List am_I := [(.aload_n 0, 1, 0, 0, 0), (.getfield 22, 3, 0, 2, 60), (.iload_n 1, 1, 0, 0, 0), (.if_icmp .ge 59, 3, 0, 0, 0), (.aload_n 0, 1, 0, 0, 0), (.getfield 22, 3, 0, 2, 60), (.bipush 120, 2, 0, 0, 0), (.if_icmp .ge 50, 3, 0, 0, 0), (.aload_n 0, 1, 0, 0, 0), (.getfield 12, 3, 0, 0, 58), (.bipush 24, 2, 0, 0, 0), (.invokevirtual 53, 3, 11, 2, 294), (.aload_n 0, 1, 0, 0, 0), (.dup, 1, 0, 0, 0), (.getfield 22, 3, 0, 2, 60), (.iconst 1, 1, 0, 0, 0), (.iadd, 1, 0, 0, 0), (.putfield 22, 3, 0, 2, 60), (.aload_n 0, 1, 0, 0, 0), (.getfield 12, 3, 0, 0, 58), (.getfield 36, 3, 1, 0, 45), (.bipush 10, 2, 0, 0, 0), (.aload_n 0, 1, 0, 0, 0), (.getfield 18, 3, 0, 1, 59), (.aload_n 0, 1, 0, 0, 0), (.getfield 22, 3, 0, 2, 60), (.bipush 35, 2, 0, 0, 0), (.imul, 1, 0, 0, 0), (.bipush 35, 2, 0, 0, 0), (.invokestatic 39, 3, 202, 5, 285), (.goto (-61), 3, 0, 0, 0)]
set_option maxRecDepth 20000 in
theorem o_D_reachDay_0 : am_okB mt_D_reachDay 0 k_D_reachDay_0 = true := by decide +kernel
theorem g_D_reachDay_0 {L : am_S} {n : Nat} {ls st : List Value} {M : am_M} {Q : am_Q} (h : am_B L mt_D_reachDay k_D_reachDay_0 n 0 ls st M Q) : am_R L mt_D_reachDay n 0 ls st M Q := am_go L mt_D_reachDay (fun h => by cases h) k_D_reachDay_0 n 0 ls st M Q o_D_reachDay_0 h
def k_D_reachDay_64 : List am_I := [(.return_, 1, 0, 0, 0)]
set_option maxRecDepth 20000 in
theorem o_D_reachDay_64 : am_okB mt_D_reachDay 64 k_D_reachDay_64 = true := by decide +kernel
theorem g_D_reachDay_64 {L : am_S} {n : Nat} {ls st : List Value} {M : am_M} {Q : am_Q} (h : am_B L mt_D_reachDay k_D_reachDay_64 n 64 ls st M Q) : am_R L mt_D_reachDay n 64 ls st M Q := am_go L mt_D_reachDay (fun h => by cases h) k_D_reachDay_64 n 64 ls st M Q o_D_reachDay_64 h
def k_D_isSameLook_0 : List am_I := [(.iload_n 1, 1, 0, 0, 0), (.ifCond .lt 19, 3, 0, 0, 0), (.iload_n 2, 1, 0, 0, 0), (.ifCond .lt 15, 3, 0, 0, 0), (.iload_n 1, 1, 0, 0, 0), (.bipush 120, 2, 0, 0, 0), (.if_icmp .gt 9, 3, 0, 0, 0), (.iload_n 2, 1, 0, 0, 0), (.bipush 120, 2, 0, 0, 0), (.if_icmp .le 5, 3, 0, 0, 0)]
set_option maxRecDepth 20000 in
theorem o_D_isSameLook_0 : am_okB mt_D_isSameLook 0 k_D_isSameLook_0 = true := by decide +kernel
theorem g_D_isSameLook_0 {L : am_S} {n : Nat} {ls st : List Value} {M : am_M} {Q : am_Q} (h : am_B L mt_D_isSameLook k_D_isSameLook_0 n 0 ls st M Q) : am_R L mt_D_isSameLook n 0 ls st M Q := am_go L mt_D_isSameLook (fun h => by cases h) k_D_isSameLook_0 n 0 ls st M Q o_D_isSameLook_0 h
def k_D_isSameLook_20 : List am_I := [(.iconst 0, 1, 0, 0, 0), (.ireturn, 1, 0, 0, 0)]
set_option maxRecDepth 20000 in
theorem o_D_isSameLook_20 : am_okB mt_D_isSameLook 20 k_D_isSameLook_20 = true := by decide +kernel
theorem g_D_isSameLook_20 {L : am_S} {n : Nat} {ls st : List Value} {M : am_M} {Q : am_Q} (h : am_B L mt_D_isSameLook k_D_isSameLook_20 n 20 ls st M Q) : am_R L mt_D_isSameLook n 20 ls st M Q := am_go L mt_D_isSameLook (fun h => by cases h) k_D_isSameLook_20 n 20 ls st M Q o_D_isSameLook_20 h
def k_D_isSameLook_22 : List am_I := [(.iconst 0, 1, 0, 0, 0), (.istore_n 3, 1, 0, 0, 0)]
set_option maxRecDepth 20000 in
theorem o_D_isSameLook_22 : am_okB mt_D_isSameLook 22 k_D_isSameLook_22 = true := by decide +kernel
theorem g_D_isSameLook_22 {L : am_S} {n : Nat} {ls st : List Value} {M : am_M} {Q : am_Q} (h : am_B L mt_D_isSameLook k_D_isSameLook_22 n 22 ls st M Q) : am_R L mt_D_isSameLook n 22 ls st M Q := am_go L mt_D_isSameLook (fun h => by cases h) k_D_isSameLook_22 n 22 ls st M Q o_D_isSameLook_22 h
def k_D_isSameLook_24 : List am_I := [(.iload_n 3, 1, 0, 0, 0), (.bipush 35, 2, 0, 0, 0), (.if_icmp .ge 36, 3, 0, 0, 0), (.aload_n 0, 1, 0, 0, 0), (.getfield 18, 3, 0, 1, 59), (.iload_n 1, 1, 0, 0, 0), (.bipush 35, 2, 0, 0, 0), (.imul, 1, 0, 0, 0), (.iload_n 3, 1, 0, 0, 0), (.iadd, 1, 0, 0, 0), (.iaload, 1, 0, 0, 0), (.aload_n 0, 1, 0, 0, 0), (.getfield 18, 3, 0, 1, 59), (.iload_n 2, 1, 0, 0, 0), (.bipush 35, 2, 0, 0, 0), (.imul, 1, 0, 0, 0), (.iload_n 3, 1, 0, 0, 0), (.iadd, 1, 0, 0, 0), (.iaload, 1, 0, 0, 0), (.if_icmp .eq 5, 3, 0, 0, 0), (.iconst 0, 1, 0, 0, 0), (.ireturn, 1, 0, 0, 0)]
set_option maxRecDepth 20000 in
theorem o_D_isSameLook_24 : am_okB mt_D_isSameLook 24 k_D_isSameLook_24 = true := by decide +kernel
theorem g_D_isSameLook_24 {L : am_S} {n : Nat} {ls st : List Value} {M : am_M} {Q : am_Q} (h : am_B L mt_D_isSameLook k_D_isSameLook_24 n 24 ls st M Q) : am_R L mt_D_isSameLook n 24 ls st M Q := am_go L mt_D_isSameLook (fun h => by cases h) k_D_isSameLook_24 n 24 ls st M Q o_D_isSameLook_24 h
def k_D_isSameLook_57 : List am_I := [(.iinc 3 1, 3, 0, 0, 0), (.goto (-36), 3, 0, 0, 0)]
set_option maxRecDepth 20000 in
theorem o_D_isSameLook_57 : am_okB mt_D_isSameLook 57 k_D_isSameLook_57 = true := by decide +kernel
theorem g_D_isSameLook_57 {L : am_S} {n : Nat} {ls st : List Value} {M : am_M} {Q : am_Q} (h : am_B L mt_D_isSameLook k_D_isSameLook_57 n 57 ls st M Q) : am_R L mt_D_isSameLook n 57 ls st M Q := am_go L mt_D_isSameLook (fun h => by cases h) k_D_isSameLook_57 n 57 ls st M Q o_D_isSameLook_57 h
def k_D_isSameLook_63 : List am_I := [(.iconst 1, 1, 0, 0, 0), (.ireturn, 1, 0, 0, 0)]
set_option maxRecDepth 20000 in
theorem o_D_isSameLook_63 : am_okB mt_D_isSameLook 63 k_D_isSameLook_63 = true := by decide +kernel
theorem g_D_isSameLook_63 {L : am_S} {n : Nat} {ls st : List Value} {M : am_M} {Q : am_Q} (h : am_B L mt_D_isSameLook k_D_isSameLook_63 n 63 ls st M Q) : am_R L mt_D_isSameLook n 63 ls st M Q := am_go L mt_D_isSameLook (fun h => by cases h) k_D_isSameLook_63 n 63 ls st M Q o_D_isSameLook_63 h
end
section
/-! DyeVats: blocks of code, written by wip/p29/mk15.py out of what TURN printed of the program -/
def k_V_fill_0 : List am_I := [(.iload_n 1, 1, 0, 0, 0), (.invokestatic 54, 3, 50, 1, 137), (.iload_n 2, 1, 0, 0, 0), (.iconst 1, 1, 0, 0, 0), (.sipush 2000, 3, 0, 0, 0), (.invokestatic 58, 3, 53, 3, 261), (.aload_n 0, 1, 0, 0, 0), (.invokevirtual 62, 3, 48, 1, 344), (.iload_n 2, 1, 0, 0, 0), (.aload_n 0, 1, 0, 0, 0), (.getfield 12, 3, 3, 0, 104), (.getfield 51, 3, 1, 0, 44), (.iconst 0, 1, 0, 0, 0), (.iload_n 1, 1, 0, 0, 0), (.iadd, 1, 0, 0, 0), (.iaload, 1, 0, 0, 0), (.aload_n 0, 1, 0, 0, 0), (.getfield 12, 3, 3, 0, 104), (.getfield 51, 3, 1, 0, 44), (.bipush 10, 2, 0, 0, 0), (.iload_n 1, 1, 0, 0, 0), (.iadd, 1, 0, 0, 0), (.iaload, 1, 0, 0, 0), (.isub, 1, 0, 0, 0), (.if_icmp .le 8, 3, 0, 0, 0), (.aload_n 0, 1, 0, 0, 0), (.invokevirtual 65, 3, 49, 1, 440), (.ireturn, 1, 0, 0, 0)]
set_option maxRecDepth 20000 in
theorem o_V_fill_0 : am_okB mt_V_fill 0 k_V_fill_0 = true := by decide +kernel
theorem g_V_fill_0 {L : am_S} {n : Nat} {ls st : List Value} {M : am_M} {Q : am_Q} (h : am_B L mt_V_fill k_V_fill_0 n 0 ls st M Q) : am_R L mt_V_fill n 0 ls st M Q := am_go L mt_V_fill (fun h => by cases h) k_V_fill_0 n 0 ls st M Q o_V_fill_0 h
def k_V_fill_49 : List am_I := [(.aload_n 0, 1, 0, 0, 0), (.getfield 12, 3, 3, 0, 104), (.getfield 51, 3, 1, 0, 44), (.bipush 10, 2, 0, 0, 0), (.iload_n 1, 1, 0, 0, 0), (.iadd, 1, 0, 0, 0), (.dup2, 1, 0, 0, 0), (.iaload, 1, 0, 0, 0), (.iload_n 2, 1, 0, 0, 0), (.iadd, 1, 0, 0, 0), (.iastore, 1, 0, 0, 0), (.aload_n 0, 1, 0, 0, 0), (.getfield 12, 3, 3, 0, 104), (.getfield 51, 3, 1, 0, 44), (.bipush 53, 2, 0, 0, 0), (.dup2, 1, 0, 0, 0), (.iaload, 1, 0, 0, 0), (.iload_n 2, 1, 0, 0, 0), (.iadd, 1, 0, 0, 0), (.iastore, 1, 0, 0, 0), (.aload_n 0, 1, 0, 0, 0), (.getfield 12, 3, 3, 0, 104), (.getfield 51, 3, 1, 0, 44), (.bipush 10, 2, 0, 0, 0), (.iload_n 1, 1, 0, 0, 0), (.iadd, 1, 0, 0, 0), (.iaload, 1, 0, 0, 0), (.ireturn, 1, 0, 0, 0)]
set_option maxRecDepth 20000 in
theorem o_V_fill_49 : am_okB mt_V_fill 49 k_V_fill_49 = true := by decide +kernel
theorem g_V_fill_49 {L : am_S} {n : Nat} {ls st : List Value} {M : am_M} {Q : am_Q} (h : am_B L mt_V_fill k_V_fill_49 n 49 ls st M Q) : am_R L mt_V_fill n 49 ls st M Q := am_go L mt_V_fill (fun h => by cases h) k_V_fill_49 n 49 ls st M Q o_V_fill_49 h
def k_V_dye_0 : List am_I := [(.iload_n 1, 1, 0, 0, 0), (.invokestatic 54, 3, 50, 1, 137), (.iload_n 2, 1, 0, 0, 0), (.invokestatic 69, 3, 51, 1, 413), (.iload_n 3, 1, 0, 0, 0), (.iconst 1, 1, 0, 0, 0), (.sipush 999, 3, 0, 0, 0), (.invokestatic 58, 3, 53, 3, 261), (.aload_n 0, 1, 0, 0, 0), (.getfield 12, 3, 3, 0, 104), (.getfield 51, 3, 1, 0, 44), (.bipush 45, 2, 0, 0, 0), (.iload_n 2, 1, 0, 0, 0), (.iadd, 1, 0, 0, 0), (.iaload, 1, 0, 0, 0), (.iload_n 3, 1, 0, 0, 0), (.iadd, 1, 0, 0, 0), (.ldc 72, 2, 99999, 0, 451), (.if_icmp .le 13, 3, 0, 0, 0), (.new 73, 3, 2, 75, 77)]
set_option maxRecDepth 20000 in
theorem o_V_dye_0 : am_okB mt_V_dye 0 k_V_dye_0 = true := by decide +kernel
theorem g_V_dye_0 {L : am_S} {n : Nat} {ls st : List Value} {M : am_M} {Q : am_Q} (h : am_B L mt_V_dye k_V_dye_0 n 0 ls st M Q) : am_R L mt_V_dye n 0 ls st M Q := am_go L mt_V_dye (fun h => by cases h) k_V_dye_0 n 0 ls st M Q o_V_dye_0 h
def k_V_dye_45 : List am_I := [(.aload_n 0, 1, 0, 0, 0), (.invokevirtual 62, 3, 48, 1, 344), (.aload_n 0, 1, 0, 0, 0), (.getfield 12, 3, 3, 0, 104), (.getfield 51, 3, 1, 0, 44), (.bipush 10, 2, 0, 0, 0), (.iload_n 1, 1, 0, 0, 0), (.iadd, 1, 0, 0, 0), (.iaload, 1, 0, 0, 0), (.ifCond .ne 8, 3, 0, 0, 0), (.aload_n 0, 1, 0, 0, 0), (.invokevirtual 65, 3, 49, 1, 440), (.ireturn, 1, 0, 0, 0)]
set_option maxRecDepth 20000 in
theorem o_V_dye_45 : am_okB mt_V_dye 45 k_V_dye_45 = true := by decide +kernel
theorem g_V_dye_45 {L : am_S} {n : Nat} {ls st : List Value} {M : am_M} {Q : am_Q} (h : am_B L mt_V_dye k_V_dye_45 n 45 ls st M Q) : am_R L mt_V_dye n 45 ls st M Q := am_go L mt_V_dye (fun h => by cases h) k_V_dye_45 n 45 ls st M Q o_V_dye_45 h
def k_V_dye_69 : List am_I := [(.bipush 15, 2, 0, 0, 0), (.iload_n 1, 1, 0, 0, 0), (.iconst 3, 1, 0, 0, 0), (.imul, 1, 0, 0, 0), (.iadd, 1, 0, 0, 0), (.iload_n 2, 1, 0, 0, 0), (.iadd, 1, 0, 0, 0), (.istore 4, 2, 0, 0, 0), (.aload_n 0, 1, 0, 0, 0), (.getfield 12, 3, 3, 0, 104), (.getfield 51, 3, 1, 0, 44), (.iload 4, 2, 0, 0, 0), (.dup2, 1, 0, 0, 0), (.iaload, 1, 0, 0, 0), (.iload_n 3, 1, 0, 0, 0), (.iadd, 1, 0, 0, 0), (.iastore, 1, 0, 0, 0), (.aload_n 0, 1, 0, 0, 0), (.getfield 12, 3, 3, 0, 104), (.getfield 51, 3, 1, 0, 44), (.bipush 45, 2, 0, 0, 0), (.iload_n 2, 1, 0, 0, 0), (.iadd, 1, 0, 0, 0), (.dup2, 1, 0, 0, 0), (.iaload, 1, 0, 0, 0), (.iload_n 3, 1, 0, 0, 0), (.iadd, 1, 0, 0, 0), (.iastore, 1, 0, 0, 0), (.aload_n 0, 1, 0, 0, 0), (.getfield 12, 3, 3, 0, 104), (.getfield 51, 3, 1, 0, 44), (.iload 4, 2, 0, 0, 0), (.iaload, 1, 0, 0, 0), (.ireturn, 1, 0, 0, 0)]
set_option maxRecDepth 20000 in
theorem o_V_dye_69 : am_okB mt_V_dye 69 k_V_dye_69 = true := by decide +kernel
theorem g_V_dye_69 {L : am_S} {n : Nat} {ls st : List Value} {M : am_M} {Q : am_Q} (h : am_B L mt_V_dye k_V_dye_69 n 69 ls st M Q) : am_R L mt_V_dye n 69 ls st M Q := am_go L mt_V_dye (fun h => by cases h) k_V_dye_69 n 69 ls st M Q o_V_dye_69 h
def k_V_stir_0 : List am_I := [(.iload_n 1, 1, 0, 0, 0), (.invokestatic 54, 3, 50, 1, 137), (.aload_n 0, 1, 0, 0, 0), (.invokevirtual 62, 3, 48, 1, 344), (.aload_n 0, 1, 0, 0, 0), (.getfield 12, 3, 3, 0, 104), (.iload_n 1, 1, 0, 0, 0), (.invokevirtual 80, 3, 10, 2, 460), (.ireturn, 1, 0, 0, 0)]
set_option maxRecDepth 20000 in
theorem o_V_stir_0 : am_okB mt_V_stir 0 k_V_stir_0 = true := by decide +kernel
theorem g_V_stir_0 {L : am_S} {n : Nat} {ls st : List Value} {M : am_M} {Q : am_Q} (h : am_B L mt_V_stir k_V_stir_0 n 0 ls st M Q) : am_R L mt_V_stir n 0 ls st M Q := am_go L mt_V_stir (fun h => by cases h) k_V_stir_0 n 0 ls st M Q o_V_stir_0 h
def k_V_capacity_0 : List am_I := [(.iload_n 1, 1, 0, 0, 0), (.invokestatic 54, 3, 50, 1, 137), (.iload_n 2, 1, 0, 0, 0), (.iconst 1, 1, 0, 0, 0), (.sipush 2000, 3, 0, 0, 0), (.invokestatic 58, 3, 53, 3, 261), (.aload_n 0, 1, 0, 0, 0), (.invokevirtual 62, 3, 48, 1, 344), (.aload_n 0, 1, 0, 0, 0), (.getfield 12, 3, 3, 0, 104), (.getfield 51, 3, 1, 0, 44), (.bipush 10, 2, 0, 0, 0), (.iload_n 1, 1, 0, 0, 0), (.iadd, 1, 0, 0, 0), (.iaload, 1, 0, 0, 0), (.iload_n 2, 1, 0, 0, 0), (.if_icmp .le 8, 3, 0, 0, 0), (.aload_n 0, 1, 0, 0, 0), (.invokevirtual 65, 3, 49, 1, 440), (.ireturn, 1, 0, 0, 0)]
set_option maxRecDepth 20000 in
theorem o_V_capacity_0 : am_okB mt_V_capacity 0 k_V_capacity_0 = true := by decide +kernel
theorem g_V_capacity_0 {L : am_S} {n : Nat} {ls st : List Value} {M : am_M} {Q : am_Q} (h : am_B L mt_V_capacity k_V_capacity_0 n 0 ls st M Q) : am_R L mt_V_capacity n 0 ls st M Q := am_go L mt_V_capacity (fun h => by cases h) k_V_capacity_0 n 0 ls st M Q o_V_capacity_0 h
def k_V_capacity_37 : List am_I := [(.aload_n 0, 1, 0, 0, 0), (.getfield 12, 3, 3, 0, 104), (.getfield 51, 3, 1, 0, 44), (.iconst 0, 1, 0, 0, 0), (.iload_n 1, 1, 0, 0, 0), (.iadd, 1, 0, 0, 0), (.iaload, 1, 0, 0, 0), (.istore_n 3, 1, 0, 0, 0), (.aload_n 0, 1, 0, 0, 0), (.getfield 12, 3, 3, 0, 104), (.getfield 51, 3, 1, 0, 44), (.iconst 0, 1, 0, 0, 0), (.iload_n 1, 1, 0, 0, 0), (.iadd, 1, 0, 0, 0), (.iload_n 2, 1, 0, 0, 0), (.iastore, 1, 0, 0, 0), (.iload_n 3, 1, 0, 0, 0), (.ireturn, 1, 0, 0, 0)]
set_option maxRecDepth 20000 in
theorem o_V_capacity_37 : am_okB mt_V_capacity 37 k_V_capacity_37 = true := by decide +kernel
theorem g_V_capacity_37 {L : am_S} {n : Nat} {ls st : List Value} {M : am_M} {Q : am_Q} (h : am_B L mt_V_capacity k_V_capacity_37 n 37 ls st M Q) : am_R L mt_V_capacity n 37 ls st M Q := am_go L mt_V_capacity (fun h => by cases h) k_V_capacity_37 n 37 ls st M Q o_V_capacity_37 h
def k_V_valve_0 : List am_I := [(.iload_n 1, 1, 0, 0, 0), (.invokestatic 54, 3, 50, 1, 137), (.iload_n 2, 1, 0, 0, 0), (.iconst 5, 1, 0, 0, 0), (.if_icmp .eq 7, 3, 0, 0, 0), (.iload_n 2, 1, 0, 0, 0), (.invokestatic 54, 3, 50, 1, 137)]
set_option maxRecDepth 20000 in
theorem o_V_valve_0 : am_okB mt_V_valve 0 k_V_valve_0 = true := by decide +kernel
theorem g_V_valve_0 {L : am_S} {n : Nat} {ls st : List Value} {M : am_M} {Q : am_Q} (h : am_B L mt_V_valve k_V_valve_0 n 0 ls st M Q) : am_R L mt_V_valve n 0 ls st M Q := am_go L mt_V_valve (fun h => by cases h) k_V_valve_0 n 0 ls st M Q o_V_valve_0 h
def k_V_valve_13 : List am_I := [(.iload_n 1, 1, 0, 0, 0), (.iload_n 2, 1, 0, 0, 0), (.if_icmp .ne 13, 3, 0, 0, 0), (.new 84, 3, 1, 86, 88)]
set_option maxRecDepth 20000 in
theorem o_V_valve_13 : am_okB mt_V_valve 13 k_V_valve_13 = true := by decide +kernel
theorem g_V_valve_13 {L : am_S} {n : Nat} {ls st : List Value} {M : am_M} {Q : am_Q} (h : am_B L mt_V_valve k_V_valve_13 n 13 ls st M Q) : am_R L mt_V_valve n 13 ls st M Q := am_go L mt_V_valve (fun h => by cases h) k_V_valve_13 n 13 ls st M Q o_V_valve_13 h
def k_V_valve_28 : List am_I := [(.iload_n 3, 1, 0, 0, 0), (.iconst 1, 1, 0, 0, 0), (.sipush 500, 3, 0, 0, 0), (.invokestatic 58, 3, 53, 3, 261), (.iload 4, 2, 0, 0, 0), (.iconst 0, 1, 0, 0, 0), (.bipush 23, 2, 0, 0, 0), (.invokestatic 58, 3, 53, 3, 261), (.iload 5, 2, 0, 0, 0), (.iload 4, 2, 0, 0, 0), (.bipush 23, 2, 0, 0, 0), (.invokestatic 58, 3, 53, 3, 261), (.aload_n 0, 1, 0, 0, 0), (.getfield 12, 3, 3, 0, 104), (.getfield 51, 3, 1, 0, 44), (.bipush 56, 2, 0, 0, 0), (.iaload, 1, 0, 0, 0), (.istore 6, 2, 0, 0, 0), (.iload 6, 2, 0, 0, 0), (.ifCond .lt 10, 3, 0, 0, 0), (.iload 6, 2, 0, 0, 0), (.bipush 8, 2, 0, 0, 0), (.if_icmp .lt 13, 3, 0, 0, 0)]
set_option maxRecDepth 20000 in
theorem o_V_valve_28 : am_okB mt_V_valve 28 k_V_valve_28 = true := by decide +kernel
theorem g_V_valve_28 {L : am_S} {n : Nat} {ls st : List Value} {M : am_M} {Q : am_Q} (h : am_B L mt_V_valve k_V_valve_28 n 28 ls st M Q) : am_R L mt_V_valve n 28 ls st M Q := am_go L mt_V_valve (fun h => by cases h) k_V_valve_28 n 28 ls st M Q o_V_valve_28 h
def k_V_valve_77 : List am_I := [(.new 73, 3, 2, 89, 77)]
set_option maxRecDepth 20000 in
theorem o_V_valve_77 : am_okB mt_V_valve 77 k_V_valve_77 = true := by decide +kernel
theorem g_V_valve_77 {L : am_S} {n : Nat} {ls st : List Value} {M : am_M} {Q : am_Q} (h : am_B L mt_V_valve k_V_valve_77 n 77 ls st M Q) : am_R L mt_V_valve n 77 ls st M Q := am_go L mt_V_valve (fun h => by cases h) k_V_valve_77 n 77 ls st M Q o_V_valve_77 h
def k_V_valve_87 : List am_I := [(.aload_n 0, 1, 0, 0, 0), (.invokevirtual 62, 3, 48, 1, 344), (.bipush 57, 2, 0, 0, 0), (.iload 6, 2, 0, 0, 0), (.bipush 6, 2, 0, 0, 0), (.imul, 1, 0, 0, 0), (.iadd, 1, 0, 0, 0), (.istore 7, 2, 0, 0, 0), (.aload_n 0, 1, 0, 0, 0), (.getfield 12, 3, 3, 0, 104), (.getfield 51, 3, 1, 0, 44), (.iload 7, 2, 0, 0, 0), (.iconst 0, 1, 0, 0, 0), (.iadd, 1, 0, 0, 0), (.iload_n 1, 1, 0, 0, 0), (.iastore, 1, 0, 0, 0), (.aload_n 0, 1, 0, 0, 0), (.getfield 12, 3, 3, 0, 104), (.getfield 51, 3, 1, 0, 44), (.iload 7, 2, 0, 0, 0), (.iconst 1, 1, 0, 0, 0), (.iadd, 1, 0, 0, 0), (.iload_n 2, 1, 0, 0, 0), (.iastore, 1, 0, 0, 0), (.aload_n 0, 1, 0, 0, 0), (.getfield 12, 3, 3, 0, 104), (.getfield 51, 3, 1, 0, 44), (.iload 7, 2, 0, 0, 0), (.iconst 2, 1, 0, 0, 0), (.iadd, 1, 0, 0, 0), (.iload_n 3, 1, 0, 0, 0), (.iastore, 1, 0, 0, 0), (.aload_n 0, 1, 0, 0, 0), (.getfield 12, 3, 3, 0, 104), (.getfield 51, 3, 1, 0, 44), (.iload 7, 2, 0, 0, 0), (.iconst 3, 1, 0, 0, 0), (.iadd, 1, 0, 0, 0), (.iload 4, 2, 0, 0, 0), (.iastore, 1, 0, 0, 0), (.aload_n 0, 1, 0, 0, 0), (.getfield 12, 3, 3, 0, 104), (.getfield 51, 3, 1, 0, 44), (.iload 7, 2, 0, 0, 0), (.iconst 4, 1, 0, 0, 0), (.iadd, 1, 0, 0, 0), (.iload 5, 2, 0, 0, 0), (.iastore, 1, 0, 0, 0), (.aload_n 0, 1, 0, 0, 0), (.getfield 12, 3, 3, 0, 104), (.getfield 51, 3, 1, 0, 44), (.iload 7, 2, 0, 0, 0), (.iconst 5, 1, 0, 0, 0), (.iadd, 1, 0, 0, 0), (.iconst 0, 1, 0, 0, 0), (.iastore, 1, 0, 0, 0), (.aload_n 0, 1, 0, 0, 0), (.getfield 12, 3, 3, 0, 104), (.getfield 51, 3, 1, 0, 44), (.bipush 56, 2, 0, 0, 0), (.iload 6, 2, 0, 0, 0), (.iconst 1, 1, 0, 0, 0), (.iadd, 1, 0, 0, 0), (.iastore, 1, 0, 0, 0), (.iload 6, 2, 0, 0, 0), (.ireturn, 1, 0, 0, 0)]
set_option maxRecDepth 20000 in
theorem o_V_valve_87 : am_okB mt_V_valve 87 k_V_valve_87 = true := by decide +kernel
theorem g_V_valve_87 {L : am_S} {n : Nat} {ls st : List Value} {M : am_M} {Q : am_Q} (h : am_B L mt_V_valve k_V_valve_87 n 87 ls st M Q) : am_R L mt_V_valve n 87 ls st M Q := am_go L mt_V_valve (fun h => by cases h) k_V_valve_87 n 87 ls st M Q o_V_valve_87 h
def k_V_close_0 : List am_I := [(.aload_n 0, 1, 0, 0, 0), (.iload_n 1, 1, 0, 0, 0), (.invokevirtual 91, 3, 52, 2, 399), (.aload_n 0, 1, 0, 0, 0), (.invokevirtual 62, 3, 48, 1, 344), (.aload_n 0, 1, 0, 0, 0), (.getfield 12, 3, 3, 0, 104), (.iload_n 1, 1, 0, 0, 0), (.invokevirtual 94, 3, 9, 2, 307), (.aload_n 0, 1, 0, 0, 0), (.getfield 12, 3, 3, 0, 104), (.getfield 51, 3, 1, 0, 44), (.bipush 56, 2, 0, 0, 0), (.iaload, 1, 0, 0, 0), (.ireturn, 1, 0, 0, 0)]
set_option maxRecDepth 20000 in
theorem o_V_close_0 : am_okB mt_V_close 0 k_V_close_0 = true := by decide +kernel
theorem g_V_close_0 {L : am_S} {n : Nat} {ls st : List Value} {M : am_M} {Q : am_Q} (h : am_B L mt_V_close k_V_close_0 n 0 ls st M Q) : am_R L mt_V_close n 0 ls st M Q := am_go L mt_V_close (fun h => by cases h) k_V_close_0 n 0 ls st M Q o_V_close_0 h
def k_V_pipe_0 : List am_I := [(.iload_n 1, 1, 0, 0, 0), (.invokestatic 54, 3, 50, 1, 137), (.iload_n 2, 1, 0, 0, 0), (.invokestatic 54, 3, 50, 1, 137), (.iload_n 1, 1, 0, 0, 0), (.iload_n 2, 1, 0, 0, 0), (.if_icmp .ne 13, 3, 0, 0, 0), (.new 84, 3, 1, 97, 88)]
set_option maxRecDepth 20000 in
theorem o_V_pipe_0 : am_okB mt_V_pipe 0 k_V_pipe_0 = true := by decide +kernel
theorem g_V_pipe_0 {L : am_S} {n : Nat} {ls st : List Value} {M : am_M} {Q : am_Q} (h : am_B L mt_V_pipe k_V_pipe_0 n 0 ls st M Q) : am_R L mt_V_pipe n 0 ls st M Q := am_go L mt_V_pipe (fun h => by cases h) k_V_pipe_0 n 0 ls st M Q o_V_pipe_0 h
def k_V_pipe_23 : List am_I := [(.aload_n 0, 1, 0, 0, 0), (.invokevirtual 62, 3, 48, 1, 344), (.aload_n 0, 1, 0, 0, 0), (.getfield 12, 3, 3, 0, 104), (.getfield 51, 3, 1, 0, 44), (.iconst 5, 1, 0, 0, 0), (.iload_n 1, 1, 0, 0, 0), (.iadd, 1, 0, 0, 0), (.dup2, 1, 0, 0, 0), (.iaload, 1, 0, 0, 0), (.iconst 1, 1, 0, 0, 0), (.iload_n 2, 1, 0, 0, 0), (.ishl, 1, 0, 0, 0), (.ixor, 1, 0, 0, 0), (.iastore, 1, 0, 0, 0), (.aload_n 0, 1, 0, 0, 0), (.getfield 12, 3, 3, 0, 104), (.getfield 51, 3, 1, 0, 44), (.iconst 5, 1, 0, 0, 0), (.iload_n 2, 1, 0, 0, 0), (.iadd, 1, 0, 0, 0), (.dup2, 1, 0, 0, 0), (.iaload, 1, 0, 0, 0), (.iconst 1, 1, 0, 0, 0), (.iload_n 1, 1, 0, 0, 0), (.ishl, 1, 0, 0, 0), (.ixor, 1, 0, 0, 0), (.iastore, 1, 0, 0, 0), (.aload_n 0, 1, 0, 0, 0), (.getfield 12, 3, 3, 0, 104), (.getfield 51, 3, 1, 0, 44), (.iconst 5, 1, 0, 0, 0), (.iload_n 1, 1, 0, 0, 0), (.iadd, 1, 0, 0, 0), (.iaload, 1, 0, 0, 0), (.iload_n 2, 1, 0, 0, 0), (.ishr, 1, 0, 0, 0), (.iconst 1, 1, 0, 0, 0), (.iand, 1, 0, 0, 0), (.ireturn, 1, 0, 0, 0)]
set_option maxRecDepth 20000 in
theorem o_V_pipe_23 : am_okB mt_V_pipe 23 k_V_pipe_23 = true := by decide +kernel
theorem g_V_pipe_23 {L : am_S} {n : Nat} {ls st : List Value} {M : am_M} {Q : am_Q} (h : am_B L mt_V_pipe k_V_pipe_23 n 23 ls st M Q) : am_R L mt_V_pipe n 23 ls st M Q := am_go L mt_V_pipe (fun h => by cases h) k_V_pipe_23 n 23 ls st M Q o_V_pipe_23 h
def k_V_set_0 : List am_I := [(.iload_n 1, 1, 0, 0, 0), (.iconst 0, 1, 0, 0, 0), (.sipush 200, 3, 0, 0, 0), (.invokestatic 58, 3, 53, 3, 261), (.aload_n 0, 1, 0, 0, 0), (.invokevirtual 62, 3, 48, 1, 344), (.aload_n 0, 1, 0, 0, 0), (.getfield 12, 3, 3, 0, 104), (.getfield 51, 3, 1, 0, 44), (.bipush 51, 2, 0, 0, 0), (.iaload, 1, 0, 0, 0), (.istore_n 2, 1, 0, 0, 0), (.aload_n 0, 1, 0, 0, 0), (.getfield 12, 3, 3, 0, 104), (.getfield 51, 3, 1, 0, 44), (.bipush 51, 2, 0, 0, 0), (.iload_n 1, 1, 0, 0, 0), (.iastore, 1, 0, 0, 0), (.iload_n 2, 1, 0, 0, 0), (.ireturn, 1, 0, 0, 0)]
set_option maxRecDepth 20000 in
theorem o_V_set_0 : am_okB mt_V_set 0 k_V_set_0 = true := by decide +kernel
theorem g_V_set_0 {L : am_S} {n : Nat} {ls st : List Value} {M : am_M} {Q : am_Q} (h : am_B L mt_V_set k_V_set_0 n 0 ls st M Q) : am_R L mt_V_set n 0 ls st M Q := am_go L mt_V_set (fun h => by cases h) k_V_set_0 n 0 ls st M Q o_V_set_0 h
def k_V_pass_0 : List am_I := [(.iload_n 1, 1, 0, 0, 0), (.iconst 1, 1, 0, 0, 0), (.sipush 240, 3, 0, 0, 0), (.invokestatic 58, 3, 53, 3, 261), (.aload_n 0, 1, 0, 0, 0), (.getfield 12, 3, 3, 0, 104), (.getfield 51, 3, 1, 0, 44), (.bipush 52, 2, 0, 0, 0), (.iaload, 1, 0, 0, 0), (.iload_n 1, 1, 0, 0, 0), (.iadd, 1, 0, 0, 0), (.ldc 72, 2, 99999, 0, 451), (.if_icmp .le 13, 3, 0, 0, 0), (.new 73, 3, 2, 99, 77)]
set_option maxRecDepth 20000 in
theorem o_V_pass_0 : am_okB mt_V_pass 0 k_V_pass_0 = true := by decide +kernel
theorem g_V_pass_0 {L : am_S} {n : Nat} {ls st : List Value} {M : am_M} {Q : am_Q} (h : am_B L mt_V_pass k_V_pass_0 n 0 ls st M Q) : am_R L mt_V_pass n 0 ls st M Q := am_go L mt_V_pass (fun h => by cases h) k_V_pass_0 n 0 ls st M Q o_V_pass_0 h
def k_V_pass_35 : List am_I := [(.aload_n 0, 1, 0, 0, 0), (.invokevirtual 62, 3, 48, 1, 344), (.aload_n 0, 1, 0, 0, 0), (.getfield 12, 3, 3, 0, 104), (.getfield 51, 3, 1, 0, 44), (.bipush 54, 2, 0, 0, 0), (.iaload, 1, 0, 0, 0), (.istore_n 2, 1, 0, 0, 0), (.aload_n 0, 1, 0, 0, 0), (.getfield 12, 3, 3, 0, 104), (.iload_n 1, 1, 0, 0, 0), (.invokevirtual 101, 3, 11, 2, 219), (.aload_n 0, 1, 0, 0, 0), (.getfield 12, 3, 3, 0, 104), (.getfield 51, 3, 1, 0, 44), (.bipush 54, 2, 0, 0, 0), (.iaload, 1, 0, 0, 0), (.iload_n 2, 1, 0, 0, 0), (.isub, 1, 0, 0, 0), (.ireturn, 1, 0, 0, 0)]
set_option maxRecDepth 20000 in
theorem o_V_pass_35 : am_okB mt_V_pass 35 k_V_pass_35 = true := by decide +kernel
theorem g_V_pass_35 {L : am_S} {n : Nat} {ls st : List Value} {M : am_M} {Q : am_Q} (h : am_B L mt_V_pass k_V_pass_35 n 35 ls st M Q) : am_R L mt_V_pass n 35 ls st M Q := am_go L mt_V_pass (fun h => by cases h) k_V_pass_35 n 35 ls st M Q o_V_pass_35 h
def k_V_keep_0 : List am_I := [(.iload_n 1, 1, 0, 0, 0), (.iconst 0, 1, 0, 0, 0), (.iconst 1, 1, 0, 0, 0), (.invokestatic 58, 3, 53, 3, 261), (.aload_n 0, 1, 0, 0, 0), (.getfield 12, 3, 3, 0, 104), (.getfield 51, 3, 1, 0, 44), (.iconst 0, 1, 0, 0, 0), (.aload_n 0, 1, 0, 0, 0), (.getfield 37, 3, 3, 5, 109), (.iload_n 1, 1, 0, 0, 0), (.bipush 105, 2, 0, 0, 0), (.imul, 1, 0, 0, 0), (.bipush 105, 2, 0, 0, 0), (.invokestatic 133, 3, 202, 5, 348), (.aload_n 0, 1, 0, 0, 0), (.getfield 40, 3, 3, 6, 110), (.iload_n 1, 1, 0, 0, 0), (.iconst 1, 1, 0, 0, 0), (.bastore, 1, 0, 0, 0), (.aload_n 0, 1, 0, 0, 0), (.getfield 12, 3, 3, 0, 104), (.invokevirtual 139, 3, 2, 1, 349), (.ireturn, 1, 0, 0, 0)]
set_option maxRecDepth 20000 in
theorem o_V_keep_0 : am_okB mt_V_keep 0 k_V_keep_0 = true := by decide +kernel
theorem g_V_keep_0 {L : am_S} {n : Nat} {ls st : List Value} {M : am_M} {Q : am_Q} (h : am_B L mt_V_keep k_V_keep_0 n 0 ls st M Q) : am_R L mt_V_keep n 0 ls st M Q := am_go L mt_V_keep (fun h => by cases h) k_V_keep_0 n 0 ls st M Q o_V_keep_0 h
def k_V_goBack_0 : List am_I := [(.iload_n 1, 1, 0, 0, 0), (.iconst 0, 1, 0, 0, 0), (.iconst 1, 1, 0, 0, 0), (.invokestatic 58, 3, 53, 3, 261), (.aload_n 0, 1, 0, 0, 0), (.getfield 40, 3, 3, 6, 110), (.iload_n 1, 1, 0, 0, 0), (.baload, 1, 0, 0, 0), (.ifCond .ne 13, 3, 0, 0, 0), (.new 73, 3, 2, 142, 77)]
set_option maxRecDepth 20000 in
theorem o_V_goBack_0 : am_okB mt_V_goBack 0 k_V_goBack_0 = true := by decide +kernel
theorem g_V_goBack_0 {L : am_S} {n : Nat} {ls st : List Value} {M : am_M} {Q : am_Q} (h : am_B L mt_V_goBack k_V_goBack_0 n 0 ls st M Q) : am_R L mt_V_goBack n 0 ls st M Q := am_go L mt_V_goBack (fun h => by cases h) k_V_goBack_0 n 0 ls st M Q o_V_goBack_0 h
def k_V_goBack_25 : List am_I := [(.aload_n 0, 1, 0, 0, 0), (.invokevirtual 62, 3, 48, 1, 344), (.aload_n 0, 1, 0, 0, 0), (.getfield 37, 3, 3, 5, 109), (.iload_n 1, 1, 0, 0, 0), (.bipush 105, 2, 0, 0, 0), (.imul, 1, 0, 0, 0), (.aload_n 0, 1, 0, 0, 0), (.getfield 12, 3, 3, 0, 104), (.getfield 51, 3, 1, 0, 44), (.iconst 0, 1, 0, 0, 0), (.bipush 105, 2, 0, 0, 0), (.invokestatic 133, 3, 202, 5, 348), (.aload_n 0, 1, 0, 0, 0), (.getfield 12, 3, 3, 0, 104), (.invokevirtual 139, 3, 2, 1, 349), (.ireturn, 1, 0, 0, 0)]
set_option maxRecDepth 20000 in
theorem o_V_goBack_25 : am_okB mt_V_goBack 25 k_V_goBack_25 = true := by decide +kernel
theorem g_V_goBack_25 {L : am_S} {n : Nat} {ls st : List Value} {M : am_M} {Q : am_Q} (h : am_B L mt_V_goBack k_V_goBack_25 n 25 ls st M Q) : am_R L mt_V_goBack n 25 ls st M Q := am_go L mt_V_goBack (fun h => by cases h) k_V_goBack_25 n 25 ls st M Q o_V_goBack_25 h
def k_V_undo_0 : List am_I := [(.aload_n 0, 1, 0, 0, 0), (.getfield 47, 3, 3, 8, 112), (.ifCond .le 12, 3, 0, 0, 0), (.aload_n 0, 1, 0, 0, 0), (.getfield 47, 3, 3, 8, 112), (.bipush 6, 2, 0, 0, 0), (.if_icmp .le 13, 3, 0, 0, 0)]
set_option maxRecDepth 20000 in
theorem o_V_undo_0 : am_okB mt_V_undo 0 k_V_undo_0 = true := by decide +kernel
theorem g_V_undo_0 {L : am_S} {n : Nat} {ls st : List Value} {M : am_M} {Q : am_Q} (h : am_B L mt_V_undo k_V_undo_0 n 0 ls st M Q) : am_R L mt_V_undo n 0 ls st M Q := am_go L mt_V_undo (fun h => by cases h) k_V_undo_0 n 0 ls st M Q o_V_undo_0 h
def k_V_undo_16 : List am_I := [(.new 73, 3, 2, 144, 77)]
set_option maxRecDepth 20000 in
theorem o_V_undo_16 : am_okB mt_V_undo 16 k_V_undo_16 = true := by decide +kernel
theorem g_V_undo_16 {L : am_S} {n : Nat} {ls st : List Value} {M : am_M} {Q : am_Q} (h : am_B L mt_V_undo k_V_undo_16 n 16 ls st M Q) : am_R L mt_V_undo n 16 ls st M Q := am_go L mt_V_undo (fun h => by cases h) k_V_undo_16 n 16 ls st M Q o_V_undo_16 h
def k_V_undo_26 : List am_I := [(.aload_n 0, 1, 0, 0, 0), (.dup, 1, 0, 0, 0), (.getfield 47, 3, 3, 8, 112), (.iconst 1, 1, 0, 0, 0), (.isub, 1, 0, 0, 0), (.putfield 47, 3, 3, 8, 112), (.aload_n 0, 1, 0, 0, 0), (.getfield 44, 3, 3, 7, 111), (.aload_n 0, 1, 0, 0, 0), (.getfield 47, 3, 3, 8, 112), (.bipush 105, 2, 0, 0, 0), (.imul, 1, 0, 0, 0), (.aload_n 0, 1, 0, 0, 0), (.getfield 12, 3, 3, 0, 104), (.getfield 51, 3, 1, 0, 44), (.iconst 0, 1, 0, 0, 0), (.bipush 105, 2, 0, 0, 0), (.invokestatic 133, 3, 202, 5, 348), (.aload_n 0, 1, 0, 0, 0), (.getfield 47, 3, 3, 8, 112), (.ireturn, 1, 0, 0, 0)]
set_option maxRecDepth 20000 in
theorem o_V_undo_26 : am_okB mt_V_undo 26 k_V_undo_26 = true := by decide +kernel
theorem g_V_undo_26 {L : am_S} {n : Nat} {ls st : List Value} {M : am_M} {Q : am_Q} (h : am_B L mt_V_undo k_V_undo_26 n 26 ls st M Q) : am_R L mt_V_undo n 26 ls st M Q := am_go L mt_V_undo (fun h => by cases h) k_V_undo_26 n 26 ls st M Q o_V_undo_26 h
def k_V_vatOf_0 : List am_I := [(.iload_n 1, 1, 0, 0, 0), (.invokestatic 54, 3, 50, 1, 137), (.iload_n 2, 1, 0, 0, 0), (.iconst 0, 1, 0, 0, 0), (.bipush 9, 2, 0, 0, 0), (.invokestatic 58, 3, 53, 3, 261), (.aload_n 0, 1, 0, 0, 0), (.getfield 12, 3, 3, 0, 104), (.iload_n 1, 1, 0, 0, 0), (.iload_n 2, 1, 0, 0, 0), (.invokevirtual 146, 3, 6, 3, 390), (.ireturn, 1, 0, 0, 0)]
set_option maxRecDepth 20000 in
theorem o_V_vatOf_0 : am_okB mt_V_vatOf 0 k_V_vatOf_0 = true := by decide +kernel
theorem g_V_vatOf_0 {L : am_S} {n : Nat} {ls st : List Value} {M : am_M} {Q : am_Q} (h : am_B L mt_V_vatOf k_V_vatOf_0 n 0 ls st M Q) : am_R L mt_V_vatOf n 0 ls st M Q := am_go L mt_V_vatOf (fun h => by cases h) k_V_vatOf_0 n 0 ls st M Q o_V_vatOf_0 h
def k_V_valveOf_0 : List am_I := [(.aload_n 0, 1, 0, 0, 0), (.iload_n 1, 1, 0, 0, 0), (.invokevirtual 91, 3, 52, 2, 399), (.iload_n 2, 1, 0, 0, 0), (.iconst 0, 1, 0, 0, 0), (.bipush 6, 2, 0, 0, 0), (.invokestatic 58, 3, 53, 3, 261), (.aload_n 0, 1, 0, 0, 0), (.getfield 12, 3, 3, 0, 104), (.iload_n 1, 1, 0, 0, 0), (.iload_n 2, 1, 0, 0, 0), (.invokevirtual 150, 3, 7, 3, 404), (.ireturn, 1, 0, 0, 0)]
set_option maxRecDepth 20000 in
theorem o_V_valveOf_0 : am_okB mt_V_valveOf 0 k_V_valveOf_0 = true := by decide +kernel
theorem g_V_valveOf_0 {L : am_S} {n : Nat} {ls st : List Value} {M : am_M} {Q : am_Q} (h : am_B L mt_V_valveOf k_V_valveOf_0 n 0 ls st M Q) : am_R L mt_V_valveOf n 0 ls st M Q := am_go L mt_V_valveOf (fun h => by cases h) k_V_valveOf_0 n 0 ls st M Q o_V_valveOf_0 h
def k_V_dyeOf_0 : List am_I := [(.iload_n 1, 1, 0, 0, 0), (.invokestatic 69, 3, 51, 1, 413), (.iload_n 2, 1, 0, 0, 0), (.iconst 0, 1, 0, 0, 0), (.iconst 4, 1, 0, 0, 0), (.invokestatic 58, 3, 53, 3, 261), (.aload_n 0, 1, 0, 0, 0), (.getfield 12, 3, 3, 0, 104), (.iload_n 1, 1, 0, 0, 0), (.iload_n 2, 1, 0, 0, 0), (.invokevirtual 153, 3, 8, 3, 417), (.ireturn, 1, 0, 0, 0)]
set_option maxRecDepth 20000 in
theorem o_V_dyeOf_0 : am_okB mt_V_dyeOf 0 k_V_dyeOf_0 = true := by decide +kernel
theorem g_V_dyeOf_0 {L : am_S} {n : Nat} {ls st : List Value} {M : am_M} {Q : am_Q} (h : am_B L mt_V_dyeOf k_V_dyeOf_0 n 0 ls st M Q) : am_R L mt_V_dyeOf n 0 ls st M Q := am_go L mt_V_dyeOf (fun h => by cases h) k_V_dyeOf_0 n 0 ls st M Q o_V_dyeOf_0 h
def k_V_count_0 : List am_I := [(.iload_n 1, 1, 0, 0, 0), (.iconst 0, 1, 0, 0, 0), (.bipush 9, 2, 0, 0, 0), (.invokestatic 58, 3, 53, 3, 261), (.aload_n 0, 1, 0, 0, 0), (.iload_n 1, 1, 0, 0, 0), (.invokevirtual 156, 3, 46, 2, 367), (.ireturn, 1, 0, 0, 0)]
set_option maxRecDepth 20000 in
theorem o_V_count_0 : am_okB mt_V_count 0 k_V_count_0 = true := by decide +kernel
theorem g_V_count_0 {L : am_S} {n : Nat} {ls st : List Value} {M : am_M} {Q : am_Q} (h : am_B L mt_V_count k_V_count_0 n 0 ls st M Q) : am_R L mt_V_count n 0 ls st M Q := am_go L mt_V_count (fun h => by cases h) k_V_count_0 n 0 ls st M Q o_V_count_0 h
def k_V_ifPassed_0 : List am_I := [(.iload_n 2, 1, 0, 0, 0), (.invokestatic 54, 3, 50, 1, 137), (.iload_n 1, 1, 0, 0, 0), (.iconst 1, 1, 0, 0, 0), (.sipush 240, 3, 0, 0, 0), (.invokestatic 58, 3, 53, 3, 261), (.iload_n 3, 1, 0, 0, 0), (.iconst 1, 1, 0, 0, 0), (.bipush 7, 2, 0, 0, 0), (.invokestatic 58, 3, 53, 3, 261), (.aload_n 0, 1, 0, 0, 0), (.getfield 16, 3, 3, 1, 105), (.aload_n 0, 1, 0, 0, 0), (.getfield 12, 3, 3, 0, 104), (.invokevirtual 159, 3, 1, 2, 212), (.aload_n 0, 1, 0, 0, 0), (.getfield 16, 3, 3, 1, 105), (.iload_n 1, 1, 0, 0, 0), (.invokevirtual 101, 3, 11, 2, 219), (.aload_n 0, 1, 0, 0, 0), (.getfield 16, 3, 3, 1, 105), (.iload_n 2, 1, 0, 0, 0), (.iload_n 3, 1, 0, 0, 0), (.invokevirtual 146, 3, 6, 3, 390), (.ireturn, 1, 0, 0, 0)]
set_option maxRecDepth 20000 in
theorem o_V_ifPassed_0 : am_okB mt_V_ifPassed 0 k_V_ifPassed_0 = true := by decide +kernel
theorem g_V_ifPassed_0 {L : am_S} {n : Nat} {ls st : List Value} {M : am_M} {Q : am_Q} (h : am_B L mt_V_ifPassed k_V_ifPassed_0 n 0 ls st M Q) : am_R L mt_V_ifPassed n 0 ls st M Q := am_go L mt_V_ifPassed (fun h => by cases h) k_V_ifPassed_0 n 0 ls st M Q o_V_ifPassed_0 h
def k_V_emptyIn_0 : List am_I := [(.iload_n 1, 1, 0, 0, 0), (.invokestatic 54, 3, 50, 1, 137), (.aload_n 0, 1, 0, 0, 0), (.invokevirtual 163, 3, 47, 1, 208), (.aload_n 0, 1, 0, 0, 0), (.getfield 33, 3, 3, 4, 108), (.iload_n 1, 1, 0, 0, 0), (.iaload, 1, 0, 0, 0), (.ireturn, 1, 0, 0, 0)]
set_option maxRecDepth 20000 in
theorem o_V_emptyIn_0 : am_okB mt_V_emptyIn 0 k_V_emptyIn_0 = true := by decide +kernel
theorem g_V_emptyIn_0 {L : am_S} {n : Nat} {ls st : List Value} {M : am_M} {Q : am_Q} (h : am_B L mt_V_emptyIn k_V_emptyIn_0 n 0 ls st M Q) : am_R L mt_V_emptyIn n 0 ls st M Q := am_go L mt_V_emptyIn (fun h => by cases h) k_V_emptyIn_0 n 0 ls st M Q o_V_emptyIn_0 h
def k_V_round_0 : List am_I := [(.iload_n 1, 1, 0, 0, 0), (.iconst 0, 1, 0, 0, 0), (.iconst 3, 1, 0, 0, 0), (.invokestatic 58, 3, 53, 3, 261), (.aload_n 0, 1, 0, 0, 0), (.getfield 22, 3, 3, 2, 106), (.aload_n 0, 1, 0, 0, 0), (.getfield 12, 3, 3, 0, 104), (.invokevirtual 166, 3, 20, 2, 280), (.iload_n 1, 1, 0, 0, 0), (.iconst 2, 1, 0, 0, 0), (.if_icmp .ge 13, 3, 0, 0, 0), (.aload_n 0, 1, 0, 0, 0), (.getfield 22, 3, 3, 2, 106), (.invokevirtual 169, 3, 21, 1, 286), (.goto 10, 3, 0, 0, 0)]
set_option maxRecDepth 20000 in
theorem o_V_round_0 : am_okB mt_V_round 0 k_V_round_0 = true := by decide +kernel
theorem g_V_round_0 {L : am_S} {n : Nat} {ls st : List Value} {M : am_M} {Q : am_Q} (h : am_B L mt_V_round k_V_round_0 n 0 ls st M Q) : am_R L mt_V_round n 0 ls st M Q := am_go L mt_V_round (fun h => by cases h) k_V_round_0 n 0 ls st M Q o_V_round_0 h
def k_V_round_32 : List am_I := [(.aload_n 0, 1, 0, 0, 0), (.getfield 22, 3, 3, 2, 106), (.invokevirtual 172, 3, 22, 1, 299)]
set_option maxRecDepth 20000 in
theorem o_V_round_32 : am_okB mt_V_round 32 k_V_round_32 = true := by decide +kernel
theorem g_V_round_32 {L : am_S} {n : Nat} {ls st : List Value} {M : am_M} {Q : am_Q} (h : am_B L mt_V_round k_V_round_32 n 32 ls st M Q) : am_R L mt_V_round n 32 ls st M Q := am_go L mt_V_round (fun h => by cases h) k_V_round_32 n 32 ls st M Q o_V_round_32 h
def k_V_round_39 : List am_I := [(.iload_n 1, 1, 0, 0, 0), (.iconst 2, 1, 0, 0, 0), (.irem, 1, 0, 0, 0), (.ifCond .ne 13, 3, 0, 0, 0), (.aload_n 0, 1, 0, 0, 0), (.getfield 22, 3, 3, 2, 106), (.getfield 175, 3, 0, 3, 62), (.goto 10, 3, 0, 0, 0)]
set_option maxRecDepth 20000 in
theorem o_V_round_39 : am_okB mt_V_round 39 k_V_round_39 = true := by decide +kernel
theorem g_V_round_39 {L : am_S} {n : Nat} {ls st : List Value} {M : am_M} {Q : am_Q} (h : am_B L mt_V_round k_V_round_39 n 39 ls st M Q) : am_R L mt_V_round n 39 ls st M Q := am_go L mt_V_round (fun h => by cases h) k_V_round_39 n 39 ls st M Q o_V_round_39 h
def k_V_round_55 : List am_I := [(.aload_n 0, 1, 0, 0, 0), (.getfield 22, 3, 3, 2, 106), (.getfield 176, 3, 0, 4, 64)]
set_option maxRecDepth 20000 in
theorem o_V_round_55 : am_okB mt_V_round 55 k_V_round_55 = true := by decide +kernel
theorem g_V_round_55 {L : am_S} {n : Nat} {ls st : List Value} {M : am_M} {Q : am_Q} (h : am_B L mt_V_round k_V_round_55 n 55 ls st M Q) : am_R L mt_V_round n 55 ls st M Q := am_go L mt_V_round (fun h => by cases h) k_V_round_55 n 55 ls st M Q o_V_round_55 h
def k_V_round_62 : List am_I := [(.ireturn, 1, 0, 0, 0)]
set_option maxRecDepth 20000 in
theorem o_V_round_62 : am_okB mt_V_round 62 k_V_round_62 = true := by decide +kernel
theorem g_V_round_62 {L : am_S} {n : Nat} {ls st : List Value} {M : am_M} {Q : am_Q} (h : am_B L mt_V_round k_V_round_62 n 62 ls st M Q) : am_R L mt_V_round n 62 ls st M Q := am_go L mt_V_round (fun h => by cases h) k_V_round_62 n 62 ls st M Q o_V_round_62 h
def k_V_mainValve_0 : List am_I := [(.iconst (-1), 1, 0, 0, 0), (.istore_n 1, 1, 0, 0, 0), (.iconst 0, 1, 0, 0, 0), (.istore_n 2, 1, 0, 0, 0), (.iconst 0, 1, 0, 0, 0), (.istore_n 3, 1, 0, 0, 0)]
set_option maxRecDepth 20000 in
theorem o_V_mainValve_0 : am_okB mt_V_mainValve 0 k_V_mainValve_0 = true := by decide +kernel
theorem g_V_mainValve_0 {L : am_S} {n : Nat} {ls st : List Value} {M : am_M} {Q : am_Q} (h : am_B L mt_V_mainValve k_V_mainValve_0 n 0 ls st M Q) : am_R L mt_V_mainValve n 0 ls st M Q := am_go L mt_V_mainValve (fun h => by cases h) k_V_mainValve_0 n 0 ls st M Q o_V_mainValve_0 h
def k_V_mainValve_6 : List am_I := [(.iload_n 3, 1, 0, 0, 0), (.aload_n 0, 1, 0, 0, 0), (.getfield 12, 3, 3, 0, 104), (.getfield 51, 3, 1, 0, 44), (.bipush 56, 2, 0, 0, 0), (.iaload, 1, 0, 0, 0), (.if_icmp .ge 65, 3, 0, 0, 0), (.aload_n 0, 1, 0, 0, 0), (.getfield 16, 3, 3, 1, 105), (.aload_n 0, 1, 0, 0, 0), (.getfield 12, 3, 3, 0, 104), (.invokevirtual 159, 3, 1, 2, 212), (.aload_n 0, 1, 0, 0, 0), (.getfield 16, 3, 3, 1, 105), (.iload_n 3, 1, 0, 0, 0), (.invokevirtual 94, 3, 9, 2, 307), (.aload_n 0, 1, 0, 0, 0), (.getfield 16, 3, 3, 1, 105), (.bipush 24, 2, 0, 0, 0), (.invokevirtual 101, 3, 11, 2, 219), (.aload_n 0, 1, 0, 0, 0), (.getfield 16, 3, 3, 1, 105), (.getfield 51, 3, 1, 0, 44), (.bipush 54, 2, 0, 0, 0), (.iaload, 1, 0, 0, 0), (.istore 4, 2, 0, 0, 0), (.iload_n 1, 1, 0, 0, 0), (.iconst (-1), 1, 0, 0, 0), (.if_icmp .eq 9, 3, 0, 0, 0), (.iload 4, 2, 0, 0, 0), (.iload_n 2, 1, 0, 0, 0), (.if_icmp .ge 8, 3, 0, 0, 0)]
set_option maxRecDepth 20000 in
theorem o_V_mainValve_6 : am_okB mt_V_mainValve 6 k_V_mainValve_6 = true := by decide +kernel
theorem g_V_mainValve_6 {L : am_S} {n : Nat} {ls st : List Value} {M : am_M} {Q : am_Q} (h : am_B L mt_V_mainValve k_V_mainValve_6 n 6 ls st M Q) : am_R L mt_V_mainValve n 6 ls st M Q := am_go L mt_V_mainValve (fun h => by cases h) k_V_mainValve_6 n 6 ls st M Q o_V_mainValve_6 h
def k_V_mainValve_71 : List am_I := [(.iload_n 3, 1, 0, 0, 0), (.istore_n 1, 1, 0, 0, 0), (.iload 4, 2, 0, 0, 0), (.istore_n 2, 1, 0, 0, 0)]
set_option maxRecDepth 20000 in
theorem o_V_mainValve_71 : am_okB mt_V_mainValve 71 k_V_mainValve_71 = true := by decide +kernel
theorem g_V_mainValve_71 {L : am_S} {n : Nat} {ls st : List Value} {M : am_M} {Q : am_Q} (h : am_B L mt_V_mainValve k_V_mainValve_71 n 71 ls st M Q) : am_R L mt_V_mainValve n 71 ls st M Q := am_go L mt_V_mainValve (fun h => by cases h) k_V_mainValve_71 n 71 ls st M Q o_V_mainValve_71 h
def k_V_mainValve_76 : List am_I := [(.iinc 3 1, 3, 0, 0, 0), (.goto (-73), 3, 0, 0, 0)]
set_option maxRecDepth 20000 in
theorem o_V_mainValve_76 : am_okB mt_V_mainValve 76 k_V_mainValve_76 = true := by decide +kernel
theorem g_V_mainValve_76 {L : am_S} {n : Nat} {ls st : List Value} {M : am_M} {Q : am_Q} (h : am_B L mt_V_mainValve k_V_mainValve_76 n 76 ls st M Q) : am_R L mt_V_mainValve n 76 ls st M Q := am_go L mt_V_mainValve (fun h => by cases h) k_V_mainValve_76 n 76 ls st M Q o_V_mainValve_76 h
def k_V_mainValve_82 : List am_I := [(.iload_n 1, 1, 0, 0, 0), (.ireturn, 1, 0, 0, 0)]
set_option maxRecDepth 20000 in
theorem o_V_mainValve_82 : am_okB mt_V_mainValve 82 k_V_mainValve_82 = true := by decide +kernel
theorem g_V_mainValve_82 {L : am_S} {n : Nat} {ls st : List Value} {M : am_M} {Q : am_Q} (h : am_B L mt_V_mainValve k_V_mainValve_82 n 82 ls st M Q) : am_R L mt_V_mainValve n 82 ls st M Q := am_go L mt_V_mainValve (fun h => by cases h) k_V_mainValve_82 n 82 ls st M Q o_V_mainValve_82 h
def k_V_goneShare_0 : List am_I := [(.iconst 0, 1, 0, 0, 0), (.istore_n 1, 1, 0, 0, 0), (.iconst 0, 1, 0, 0, 0), (.istore_n 2, 1, 0, 0, 0), (.iconst 0, 1, 0, 0, 0), (.istore_n 3, 1, 0, 0, 0)]
set_option maxRecDepth 20000 in
theorem o_V_goneShare_0 : am_okB mt_V_goneShare 0 k_V_goneShare_0 = true := by decide +kernel
theorem g_V_goneShare_0 {L : am_S} {n : Nat} {ls st : List Value} {M : am_M} {Q : am_Q} (h : am_B L mt_V_goneShare k_V_goneShare_0 n 0 ls st M Q) : am_R L mt_V_goneShare n 0 ls st M Q := am_go L mt_V_goneShare (fun h => by cases h) k_V_goneShare_0 n 0 ls st M Q o_V_goneShare_0 h
def k_V_goneShare_6 : List am_I := [(.iload_n 3, 1, 0, 0, 0), (.iconst 3, 1, 0, 0, 0), (.if_icmp .ge 39, 3, 0, 0, 0), (.iload_n 1, 1, 0, 0, 0), (.aload_n 0, 1, 0, 0, 0), (.getfield 12, 3, 3, 0, 104), (.getfield 51, 3, 1, 0, 44), (.bipush 45, 2, 0, 0, 0), (.iload_n 3, 1, 0, 0, 0), (.iadd, 1, 0, 0, 0), (.iaload, 1, 0, 0, 0), (.iadd, 1, 0, 0, 0), (.istore_n 1, 1, 0, 0, 0), (.iload_n 2, 1, 0, 0, 0), (.aload_n 0, 1, 0, 0, 0), (.getfield 12, 3, 3, 0, 104), (.getfield 51, 3, 1, 0, 44), (.bipush 48, 2, 0, 0, 0), (.iload_n 3, 1, 0, 0, 0), (.iadd, 1, 0, 0, 0), (.iaload, 1, 0, 0, 0), (.iadd, 1, 0, 0, 0), (.istore_n 2, 1, 0, 0, 0), (.iinc 3 1, 3, 0, 0, 0), (.goto (-38), 3, 0, 0, 0)]
set_option maxRecDepth 20000 in
theorem o_V_goneShare_6 : am_okB mt_V_goneShare 6 k_V_goneShare_6 = true := by decide +kernel
theorem g_V_goneShare_6 {L : am_S} {n : Nat} {ls st : List Value} {M : am_M} {Q : am_Q} (h : am_B L mt_V_goneShare k_V_goneShare_6 n 6 ls st M Q) : am_R L mt_V_goneShare n 6 ls st M Q := am_go L mt_V_goneShare (fun h => by cases h) k_V_goneShare_6 n 6 ls st M Q o_V_goneShare_6 h
def k_V_goneShare_47 : List am_I := [(.iload_n 1, 1, 0, 0, 0), (.ifCond .le 11, 3, 0, 0, 0), (.iload_n 2, 1, 0, 0, 0), (.i2d, 1, 0, 0, 0), (.iload_n 1, 1, 0, 0, 0), (.i2d, 1, 0, 0, 0), (.ddiv, 1, 0, 0, 0), (.goto 4, 3, 0, 0, 0)]
set_option maxRecDepth 20000 in
theorem o_V_goneShare_47 : am_okB mt_V_goneShare 47 k_V_goneShare_47 = true := by decide +kernel
theorem g_V_goneShare_47 {L : am_S} {n : Nat} {ls st : List Value} {M : am_M} {Q : am_Q} (h : am_B L mt_V_goneShare k_V_goneShare_47 n 47 ls st M Q) : am_R L mt_V_goneShare n 47 ls st M Q := am_go L mt_V_goneShare (fun h => by cases h) k_V_goneShare_47 n 47 ls st M Q o_V_goneShare_47 h
def k_V_goneShare_59 : List am_I := [(.dconst 0, 1, 0, 0, 0)]
set_option maxRecDepth 20000 in
theorem o_V_goneShare_59 : am_okB mt_V_goneShare 59 k_V_goneShare_59 = true := by decide +kernel
theorem g_V_goneShare_59 {L : am_S} {n : Nat} {ls st : List Value} {M : am_M} {Q : am_Q} (h : am_B L mt_V_goneShare k_V_goneShare_59 n 59 ls st M Q) : am_R L mt_V_goneShare n 59 ls st M Q := am_go L mt_V_goneShare (fun h => by cases h) k_V_goneShare_59 n 59 ls st M Q o_V_goneShare_59 h
def k_V_goneShare_60 : List am_I := [(.dreturn, 1, 0, 0, 0)]
set_option maxRecDepth 20000 in
theorem o_V_goneShare_60 : am_okB mt_V_goneShare 60 k_V_goneShare_60 = true := by decide +kernel
theorem g_V_goneShare_60 {L : am_S} {n : Nat} {ls st : List Value} {M : am_M} {Q : am_Q} (h : am_B L mt_V_goneShare k_V_goneShare_60 n 60 ls st M Q) : am_R L mt_V_goneShare n 60 ls st M Q := am_go L mt_V_goneShare (fun h => by cases h) k_V_goneShare_60 n 60 ls st M Q o_V_goneShare_60 h
def k_V_numberOf_0 : List am_I := [(.iload_n 1, 1, 0, 0, 0), (.tableswitch 141 0 8 #[51, 59, 70, 81, 89, 97, 108, 119, 130], 51, 0, 0, 0)]
set_option maxRecDepth 20000 in
theorem o_V_numberOf_0 : am_okB mt_V_numberOf 0 k_V_numberOf_0 = true := by decide +kernel
theorem g_V_numberOf_0 {L : am_S} {n : Nat} {ls st : List Value} {M : am_M} {Q : am_Q} (h : am_B L mt_V_numberOf k_V_numberOf_0 n 0 ls st M Q) : am_R L mt_V_numberOf n 0 ls st M Q := am_go L mt_V_numberOf (fun h => by cases h) k_V_numberOf_0 n 0 ls st M Q o_V_numberOf_0 h
def k_V_numberOf_52 : List am_I := [(.aload_n 0, 1, 0, 0, 0), (.getfield 12, 3, 3, 0, 104), (.invokevirtual 139, 3, 2, 1, 349), (.ireturn, 1, 0, 0, 0)]
set_option maxRecDepth 20000 in
theorem o_V_numberOf_52 : am_okB mt_V_numberOf 52 k_V_numberOf_52 = true := by decide +kernel
theorem g_V_numberOf_52 {L : am_S} {n : Nat} {ls st : List Value} {M : am_M} {Q : am_Q} (h : am_B L mt_V_numberOf k_V_numberOf_52 n 52 ls st M Q) : am_R L mt_V_numberOf n 52 ls st M Q := am_go L mt_V_numberOf (fun h => by cases h) k_V_numberOf_52 n 52 ls st M Q o_V_numberOf_52 h
def k_V_numberOf_60 : List am_I := [(.aload_n 0, 1, 0, 0, 0), (.getfield 12, 3, 3, 0, 104), (.getfield 51, 3, 1, 0, 44), (.bipush 52, 2, 0, 0, 0), (.iaload, 1, 0, 0, 0), (.ireturn, 1, 0, 0, 0)]
set_option maxRecDepth 20000 in
theorem o_V_numberOf_60 : am_okB mt_V_numberOf 60 k_V_numberOf_60 = true := by decide +kernel
theorem g_V_numberOf_60 {L : am_S} {n : Nat} {ls st : List Value} {M : am_M} {Q : am_Q} (h : am_B L mt_V_numberOf k_V_numberOf_60 n 60 ls st M Q) : am_R L mt_V_numberOf n 60 ls st M Q := am_go L mt_V_numberOf (fun h => by cases h) k_V_numberOf_60 n 60 ls st M Q o_V_numberOf_60 h
def k_V_numberOf_71 : List am_I := [(.aload_n 0, 1, 0, 0, 0), (.getfield 12, 3, 3, 0, 104), (.getfield 51, 3, 1, 0, 44), (.bipush 56, 2, 0, 0, 0), (.iaload, 1, 0, 0, 0), (.ireturn, 1, 0, 0, 0)]
set_option maxRecDepth 20000 in
theorem o_V_numberOf_71 : am_okB mt_V_numberOf 71 k_V_numberOf_71 = true := by decide +kernel
theorem g_V_numberOf_71 {L : am_S} {n : Nat} {ls st : List Value} {M : am_M} {Q : am_Q} (h : am_B L mt_V_numberOf k_V_numberOf_71 n 71 ls st M Q) : am_R L mt_V_numberOf n 71 ls st M Q := am_go L mt_V_numberOf (fun h => by cases h) k_V_numberOf_71 n 71 ls st M Q o_V_numberOf_71 h
def k_V_numberOf_82 : List am_I := [(.aload_n 0, 1, 0, 0, 0), (.getfield 12, 3, 3, 0, 104), (.invokevirtual 210, 3, 4, 1, 371), (.ireturn, 1, 0, 0, 0)]
set_option maxRecDepth 20000 in
theorem o_V_numberOf_82 : am_okB mt_V_numberOf 82 k_V_numberOf_82 = true := by decide +kernel
theorem g_V_numberOf_82 {L : am_S} {n : Nat} {ls st : List Value} {M : am_M} {Q : am_Q} (h : am_B L mt_V_numberOf k_V_numberOf_82 n 82 ls st M Q) : am_R L mt_V_numberOf n 82 ls st M Q := am_go L mt_V_numberOf (fun h => by cases h) k_V_numberOf_82 n 82 ls st M Q o_V_numberOf_82 h
def k_V_numberOf_90 : List am_I := [(.aload_n 0, 1, 0, 0, 0), (.getfield 12, 3, 3, 0, 104), (.invokevirtual 213, 3, 5, 1, 381), (.ireturn, 1, 0, 0, 0)]
set_option maxRecDepth 20000 in
theorem o_V_numberOf_90 : am_okB mt_V_numberOf 90 k_V_numberOf_90 = true := by decide +kernel
theorem g_V_numberOf_90 {L : am_S} {n : Nat} {ls st : List Value} {M : am_M} {Q : am_Q} (h : am_B L mt_V_numberOf k_V_numberOf_90 n 90 ls st M Q) : am_R L mt_V_numberOf n 90 ls st M Q := am_go L mt_V_numberOf (fun h => by cases h) k_V_numberOf_90 n 90 ls st M Q o_V_numberOf_90 h
def k_V_numberOf_98 : List am_I := [(.aload_n 0, 1, 0, 0, 0), (.getfield 12, 3, 3, 0, 104), (.getfield 51, 3, 1, 0, 44), (.bipush 54, 2, 0, 0, 0), (.iaload, 1, 0, 0, 0), (.ireturn, 1, 0, 0, 0)]
set_option maxRecDepth 20000 in
theorem o_V_numberOf_98 : am_okB mt_V_numberOf 98 k_V_numberOf_98 = true := by decide +kernel
theorem g_V_numberOf_98 {L : am_S} {n : Nat} {ls st : List Value} {M : am_M} {Q : am_Q} (h : am_B L mt_V_numberOf k_V_numberOf_98 n 98 ls st M Q) : am_R L mt_V_numberOf n 98 ls st M Q := am_go L mt_V_numberOf (fun h => by cases h) k_V_numberOf_98 n 98 ls st M Q o_V_numberOf_98 h
def k_V_numberOf_109 : List am_I := [(.aload_n 0, 1, 0, 0, 0), (.getfield 12, 3, 3, 0, 104), (.getfield 51, 3, 1, 0, 44), (.bipush 53, 2, 0, 0, 0), (.iaload, 1, 0, 0, 0), (.ireturn, 1, 0, 0, 0)]
set_option maxRecDepth 20000 in
theorem o_V_numberOf_109 : am_okB mt_V_numberOf 109 k_V_numberOf_109 = true := by decide +kernel
theorem g_V_numberOf_109 {L : am_S} {n : Nat} {ls st : List Value} {M : am_M} {Q : am_Q} (h : am_B L mt_V_numberOf k_V_numberOf_109 n 109 ls st M Q) : am_R L mt_V_numberOf n 109 ls st M Q := am_go L mt_V_numberOf (fun h => by cases h) k_V_numberOf_109 n 109 ls st M Q o_V_numberOf_109 h
def k_V_numberOf_120 : List am_I := [(.aload_n 0, 1, 0, 0, 0), (.getfield 12, 3, 3, 0, 104), (.getfield 51, 3, 1, 0, 44), (.bipush 55, 2, 0, 0, 0), (.iaload, 1, 0, 0, 0), (.ireturn, 1, 0, 0, 0)]
set_option maxRecDepth 20000 in
theorem o_V_numberOf_120 : am_okB mt_V_numberOf 120 k_V_numberOf_120 = true := by decide +kernel
theorem g_V_numberOf_120 {L : am_S} {n : Nat} {ls st : List Value} {M : am_M} {Q : am_Q} (h : am_B L mt_V_numberOf k_V_numberOf_120 n 120 ls st M Q) : am_R L mt_V_numberOf n 120 ls st M Q := am_go L mt_V_numberOf (fun h => by cases h) k_V_numberOf_120 n 120 ls st M Q o_V_numberOf_120 h
def k_V_numberOf_131 : List am_I := [(.aload_n 0, 1, 0, 0, 0), (.getfield 12, 3, 3, 0, 104), (.getfield 51, 3, 1, 0, 44), (.bipush 51, 2, 0, 0, 0), (.iaload, 1, 0, 0, 0), (.ireturn, 1, 0, 0, 0)]
set_option maxRecDepth 20000 in
theorem o_V_numberOf_131 : am_okB mt_V_numberOf 131 k_V_numberOf_131 = true := by decide +kernel
theorem g_V_numberOf_131 {L : am_S} {n : Nat} {ls st : List Value} {M : am_M} {Q : am_Q} (h : am_B L mt_V_numberOf k_V_numberOf_131 n 131 ls st M Q) : am_R L mt_V_numberOf n 131 ls st M Q := am_go L mt_V_numberOf (fun h => by cases h) k_V_numberOf_131 n 131 ls st M Q o_V_numberOf_131 h
def k_V_numberOf_142 : List am_I := [(.aload_n 0, 1, 0, 0, 0), (.getfield 47, 3, 3, 8, 112), (.ireturn, 1, 0, 0, 0)]
set_option maxRecDepth 20000 in
theorem o_V_numberOf_142 : am_okB mt_V_numberOf 142 k_V_numberOf_142 = true := by decide +kernel
theorem g_V_numberOf_142 {L : am_S} {n : Nat} {ls st : List Value} {M : am_M} {Q : am_Q} (h : am_B L mt_V_numberOf k_V_numberOf_142 n 142 ls st M Q) : am_R L mt_V_numberOf n 142 ls st M Q := am_go L mt_V_numberOf (fun h => by cases h) k_V_numberOf_142 n 142 ls st M Q o_V_numberOf_142 h
def k_V_findEmptyHours_0 : List am_I := [(.aload_n 0, 1, 0, 0, 0), (.getfield 16, 3, 3, 1, 105), (.aload_n 0, 1, 0, 0, 0), (.getfield 12, 3, 3, 0, 104), (.invokevirtual 159, 3, 1, 2, 212), (.iconst 0, 1, 0, 0, 0), (.istore_n 1, 1, 0, 0, 0)]
set_option maxRecDepth 20000 in
theorem o_V_findEmptyHours_0 : am_okB mt_V_findEmptyHours 0 k_V_findEmptyHours_0 = true := by decide +kernel
theorem g_V_findEmptyHours_0 {L : am_S} {n : Nat} {ls st : List Value} {M : am_M} {Q : am_Q} (h : am_B L mt_V_findEmptyHours k_V_findEmptyHours_0 n 0 ls st M Q) : am_R L mt_V_findEmptyHours n 0 ls st M Q := am_go L mt_V_findEmptyHours (fun h => by cases h) k_V_findEmptyHours_0 n 0 ls st M Q o_V_findEmptyHours_0 h
def k_V_findEmptyHours_13 : List am_I := [(.iload_n 1, 1, 0, 0, 0), (.iconst 5, 1, 0, 0, 0), (.if_icmp .ge 16, 3, 0, 0, 0), (.aload_n 0, 1, 0, 0, 0), (.getfield 33, 3, 3, 4, 108), (.iload_n 1, 1, 0, 0, 0), (.iconst (-1), 1, 0, 0, 0), (.iastore, 1, 0, 0, 0), (.iinc 1 1, 3, 0, 0, 0), (.goto (-15), 3, 0, 0, 0)]
set_option maxRecDepth 20000 in
theorem o_V_findEmptyHours_13 : am_okB mt_V_findEmptyHours 13 k_V_findEmptyHours_13 = true := by decide +kernel
theorem g_V_findEmptyHours_13 {L : am_S} {n : Nat} {ls st : List Value} {M : am_M} {Q : am_Q} (h : am_B L mt_V_findEmptyHours k_V_findEmptyHours_13 n 13 ls st M Q) : am_R L mt_V_findEmptyHours n 13 ls st M Q := am_go L mt_V_findEmptyHours (fun h => by cases h) k_V_findEmptyHours_13 n 13 ls st M Q o_V_findEmptyHours_13 h
def k_V_findEmptyHours_31 : List am_I := [(.iconst 0, 1, 0, 0, 0), (.istore_n 1, 1, 0, 0, 0)]
set_option maxRecDepth 20000 in
theorem o_V_findEmptyHours_31 : am_okB mt_V_findEmptyHours 31 k_V_findEmptyHours_31 = true := by decide +kernel
theorem g_V_findEmptyHours_31 {L : am_S} {n : Nat} {ls st : List Value} {M : am_M} {Q : am_Q} (h : am_B L mt_V_findEmptyHours k_V_findEmptyHours_31 n 31 ls st M Q) : am_R L mt_V_findEmptyHours n 31 ls st M Q := am_go L mt_V_findEmptyHours (fun h => by cases h) k_V_findEmptyHours_31 n 31 ls st M Q o_V_findEmptyHours_31 h
def k_V_findEmptyHours_33 : List am_I := [(.iload_n 1, 1, 0, 0, 0), (.sipush 240, 3, 0, 0, 0), (.if_icmp .gt 66, 3, 0, 0, 0), (.iload_n 1, 1, 0, 0, 0), (.ifCond .le 11, 3, 0, 0, 0), (.aload_n 0, 1, 0, 0, 0), (.getfield 16, 3, 3, 1, 105), (.iconst 1, 1, 0, 0, 0), (.invokevirtual 101, 3, 11, 2, 219)]
set_option maxRecDepth 20000 in
theorem o_V_findEmptyHours_33 : am_okB mt_V_findEmptyHours 33 k_V_findEmptyHours_33 = true := by decide +kernel
theorem g_V_findEmptyHours_33 {L : am_S} {n : Nat} {ls st : List Value} {M : am_M} {Q : am_Q} (h : am_B L mt_V_findEmptyHours k_V_findEmptyHours_33 n 33 ls st M Q) : am_R L mt_V_findEmptyHours n 33 ls st M Q := am_go L mt_V_findEmptyHours (fun h => by cases h) k_V_findEmptyHours_33 n 33 ls st M Q o_V_findEmptyHours_33 h
def k_V_findEmptyHours_52 : List am_I := [(.iconst 0, 1, 0, 0, 0), (.istore_n 2, 1, 0, 0, 0)]
set_option maxRecDepth 20000 in
theorem o_V_findEmptyHours_52 : am_okB mt_V_findEmptyHours 52 k_V_findEmptyHours_52 = true := by decide +kernel
theorem g_V_findEmptyHours_52 {L : am_S} {n : Nat} {ls st : List Value} {M : am_M} {Q : am_Q} (h : am_B L mt_V_findEmptyHours k_V_findEmptyHours_52 n 52 ls st M Q) : am_R L mt_V_findEmptyHours n 52 ls st M Q := am_go L mt_V_findEmptyHours (fun h => by cases h) k_V_findEmptyHours_52 n 52 ls st M Q o_V_findEmptyHours_52 h
def k_V_findEmptyHours_54 : List am_I := [(.iload_n 2, 1, 0, 0, 0), (.iconst 5, 1, 0, 0, 0), (.if_icmp .ge 41, 3, 0, 0, 0), (.aload_n 0, 1, 0, 0, 0), (.getfield 33, 3, 3, 4, 108), (.iload_n 2, 1, 0, 0, 0), (.iaload, 1, 0, 0, 0), (.iconst (-1), 1, 0, 0, 0), (.if_icmp .ne 25, 3, 0, 0, 0), (.aload_n 0, 1, 0, 0, 0), (.getfield 16, 3, 3, 1, 105), (.getfield 51, 3, 1, 0, 44), (.bipush 10, 2, 0, 0, 0), (.iload_n 2, 1, 0, 0, 0), (.iadd, 1, 0, 0, 0), (.iaload, 1, 0, 0, 0), (.ifCond .ne 10, 3, 0, 0, 0), (.aload_n 0, 1, 0, 0, 0), (.getfield 33, 3, 3, 4, 108), (.iload_n 2, 1, 0, 0, 0), (.iload_n 1, 1, 0, 0, 0), (.iastore, 1, 0, 0, 0)]
set_option maxRecDepth 20000 in
theorem o_V_findEmptyHours_54 : am_okB mt_V_findEmptyHours 54 k_V_findEmptyHours_54 = true := by decide +kernel
theorem g_V_findEmptyHours_54 {L : am_S} {n : Nat} {ls st : List Value} {M : am_M} {Q : am_Q} (h : am_B L mt_V_findEmptyHours k_V_findEmptyHours_54 n 54 ls st M Q) : am_R L mt_V_findEmptyHours n 54 ls st M Q := am_go L mt_V_findEmptyHours (fun h => by cases h) k_V_findEmptyHours_54 n 54 ls st M Q o_V_findEmptyHours_54 h
def k_V_findEmptyHours_91 : List am_I := [(.iinc 2 1, 3, 0, 0, 0), (.goto (-40), 3, 0, 0, 0)]
set_option maxRecDepth 20000 in
theorem o_V_findEmptyHours_91 : am_okB mt_V_findEmptyHours 91 k_V_findEmptyHours_91 = true := by decide +kernel
theorem g_V_findEmptyHours_91 {L : am_S} {n : Nat} {ls st : List Value} {M : am_M} {Q : am_Q} (h : am_B L mt_V_findEmptyHours k_V_findEmptyHours_91 n 91 ls st M Q) : am_R L mt_V_findEmptyHours n 91 ls st M Q := am_go L mt_V_findEmptyHours (fun h => by cases h) k_V_findEmptyHours_91 n 91 ls st M Q o_V_findEmptyHours_91 h
def k_V_findEmptyHours_97 : List am_I := [(.iinc 1 1, 3, 0, 0, 0), (.goto (-67), 3, 0, 0, 0)]
set_option maxRecDepth 20000 in
theorem o_V_findEmptyHours_97 : am_okB mt_V_findEmptyHours 97 k_V_findEmptyHours_97 = true := by decide +kernel
theorem g_V_findEmptyHours_97 {L : am_S} {n : Nat} {ls st : List Value} {M : am_M} {Q : am_Q} (h : am_B L mt_V_findEmptyHours k_V_findEmptyHours_97 n 97 ls st M Q) : am_R L mt_V_findEmptyHours n 97 ls st M Q := am_go L mt_V_findEmptyHours (fun h => by cases h) k_V_findEmptyHours_97 n 97 ls st M Q o_V_findEmptyHours_97 h
def k_V_findEmptyHours_103 : List am_I := [(.return_, 1, 0, 0, 0)]
set_option maxRecDepth 20000 in
theorem o_V_findEmptyHours_103 : am_okB mt_V_findEmptyHours 103 k_V_findEmptyHours_103 = true := by decide +kernel
theorem g_V_findEmptyHours_103 {L : am_S} {n : Nat} {ls st : List Value} {M : am_M} {Q : am_Q} (h : am_B L mt_V_findEmptyHours k_V_findEmptyHours_103 n 103 ls st M Q) : am_R L mt_V_findEmptyHours n 103 ls st M Q := am_go L mt_V_findEmptyHours (fun h => by cases h) k_V_findEmptyHours_103 n 103 ls st M Q o_V_findEmptyHours_103 h
def k_V_saveState_0 : List am_I := [(.aload_n 0, 1, 0, 0, 0), (.getfield 47, 3, 3, 8, 112), (.ifCond .lt 12, 3, 0, 0, 0), (.aload_n 0, 1, 0, 0, 0), (.getfield 47, 3, 3, 8, 112), (.bipush 6, 2, 0, 0, 0), (.if_icmp .lt 29, 3, 0, 0, 0)]
set_option maxRecDepth 20000 in
theorem o_V_saveState_0 : am_okB mt_V_saveState 0 k_V_saveState_0 = true := by decide +kernel
theorem g_V_saveState_0 {L : am_S} {n : Nat} {ls st : List Value} {M : am_M} {Q : am_Q} (h : am_B L mt_V_saveState k_V_saveState_0 n 0 ls st M Q) : am_R L mt_V_saveState n 0 ls st M Q := am_go L mt_V_saveState (fun h => by cases h) k_V_saveState_0 n 0 ls st M Q o_V_saveState_0 h
def k_V_saveState_16 : List am_I := [(.aload_n 0, 1, 0, 0, 0), (.iconst 5, 1, 0, 0, 0), (.putfield 47, 3, 3, 8, 112), (.aload_n 0, 1, 0, 0, 0), (.getfield 44, 3, 3, 7, 111), (.bipush 105, 2, 0, 0, 0), (.aload_n 0, 1, 0, 0, 0), (.getfield 44, 3, 3, 7, 111), (.iconst 0, 1, 0, 0, 0), (.aload_n 0, 1, 0, 0, 0), (.getfield 47, 3, 3, 8, 112), (.bipush 105, 2, 0, 0, 0), (.imul, 1, 0, 0, 0), (.invokestatic 133, 3, 202, 5, 348)]
set_option maxRecDepth 20000 in
theorem o_V_saveState_16 : am_okB mt_V_saveState 16 k_V_saveState_16 = true := by decide +kernel
theorem g_V_saveState_16 {L : am_S} {n : Nat} {ls st : List Value} {M : am_M} {Q : am_Q} (h : am_B L mt_V_saveState k_V_saveState_16 n 16 ls st M Q) : am_R L mt_V_saveState n 16 ls st M Q := am_go L mt_V_saveState (fun h => by cases h) k_V_saveState_16 n 16 ls st M Q o_V_saveState_16 h
def k_V_saveState_42 : List am_I := [(.aload_n 0, 1, 0, 0, 0), (.getfield 12, 3, 3, 0, 104), (.getfield 51, 3, 1, 0, 44), (.iconst 0, 1, 0, 0, 0), (.aload_n 0, 1, 0, 0, 0), (.getfield 44, 3, 3, 7, 111), (.aload_n 0, 1, 0, 0, 0), (.getfield 47, 3, 3, 8, 112), (.bipush 105, 2, 0, 0, 0), (.imul, 1, 0, 0, 0), (.bipush 105, 2, 0, 0, 0), (.invokestatic 133, 3, 202, 5, 348), (.aload_n 0, 1, 0, 0, 0), (.dup, 1, 0, 0, 0), (.getfield 47, 3, 3, 8, 112), (.iconst 1, 1, 0, 0, 0), (.iadd, 1, 0, 0, 0), (.putfield 47, 3, 3, 8, 112), (.return_, 1, 0, 0, 0)]
set_option maxRecDepth 20000 in
theorem o_V_saveState_42 : am_okB mt_V_saveState 42 k_V_saveState_42 = true := by decide +kernel
theorem g_V_saveState_42 {L : am_S} {n : Nat} {ls st : List Value} {M : am_M} {Q : am_Q} (h : am_B L mt_V_saveState k_V_saveState_42 n 42 ls st M Q) : am_R L mt_V_saveState n 42 ls st M Q := am_go L mt_V_saveState (fun h => by cases h) k_V_saveState_42 n 42 ls st M Q o_V_saveState_42 h
def k_V_refuse_0 : List am_I := [(.aload_n 0, 1, 0, 0, 0), (.getfield 12, 3, 3, 0, 104), (.getfield 51, 3, 1, 0, 44), (.bipush 55, 2, 0, 0, 0), (.dup2, 1, 0, 0, 0), (.iaload, 1, 0, 0, 0), (.iconst 1, 1, 0, 0, 0), (.iadd, 1, 0, 0, 0), (.iastore, 1, 0, 0, 0), (.iconst (-1), 1, 0, 0, 0), (.ireturn, 1, 0, 0, 0)]
set_option maxRecDepth 20000 in
theorem o_V_refuse_0 : am_okB mt_V_refuse 0 k_V_refuse_0 = true := by decide +kernel
theorem g_V_refuse_0 {L : am_S} {n : Nat} {ls st : List Value} {M : am_M} {Q : am_Q} (h : am_B L mt_V_refuse k_V_refuse_0 n 0 ls st M Q) : am_R L mt_V_refuse n 0 ls st M Q := am_go L mt_V_refuse (fun h => by cases h) k_V_refuse_0 n 0 ls st M Q o_V_refuse_0 h
def k_V_requireVat_0 : List am_I := [(.iload_n 0, 1, 0, 0, 0), (.ifCond .lt 8, 3, 0, 0, 0), (.iload_n 0, 1, 0, 0, 0), (.iconst 5, 1, 0, 0, 0), (.if_icmp .lt 13, 3, 0, 0, 0)]
set_option maxRecDepth 20000 in
theorem o_V_requireVat_0 : am_okB mt_V_requireVat 0 k_V_requireVat_0 = true := by decide +kernel
theorem g_V_requireVat_0 {L : am_S} {n : Nat} {ls st : List Value} {M : am_M} {Q : am_Q} (h : am_B L mt_V_requireVat k_V_requireVat_0 n 0 ls st M Q) : am_R L mt_V_requireVat n 0 ls st M Q := am_go L mt_V_requireVat (fun h => by cases h) k_V_requireVat_0 n 0 ls st M Q o_V_requireVat_0 h
def k_V_requireVat_9 : List am_I := [(.new 216, 3, 0, 218, 220)]
set_option maxRecDepth 20000 in
theorem o_V_requireVat_9 : am_okB mt_V_requireVat 9 k_V_requireVat_9 = true := by decide +kernel
theorem g_V_requireVat_9 {L : am_S} {n : Nat} {ls st : List Value} {M : am_M} {Q : am_Q} (h : am_B L mt_V_requireVat k_V_requireVat_9 n 9 ls st M Q) : am_R L mt_V_requireVat n 9 ls st M Q := am_go L mt_V_requireVat (fun h => by cases h) k_V_requireVat_9 n 9 ls st M Q o_V_requireVat_9 h
def k_V_requireVat_19 : List am_I := [(.return_, 1, 0, 0, 0)]
set_option maxRecDepth 20000 in
theorem o_V_requireVat_19 : am_okB mt_V_requireVat 19 k_V_requireVat_19 = true := by decide +kernel
theorem g_V_requireVat_19 {L : am_S} {n : Nat} {ls st : List Value} {M : am_M} {Q : am_Q} (h : am_B L mt_V_requireVat k_V_requireVat_19 n 19 ls st M Q) : am_R L mt_V_requireVat n 19 ls st M Q := am_go L mt_V_requireVat (fun h => by cases h) k_V_requireVat_19 n 19 ls st M Q o_V_requireVat_19 h
def k_V_requireDye_0 : List am_I := [(.iload_n 0, 1, 0, 0, 0), (.ifCond .lt 8, 3, 0, 0, 0), (.iload_n 0, 1, 0, 0, 0), (.iconst 3, 1, 0, 0, 0), (.if_icmp .lt 13, 3, 0, 0, 0)]
set_option maxRecDepth 20000 in
theorem o_V_requireDye_0 : am_okB mt_V_requireDye 0 k_V_requireDye_0 = true := by decide +kernel
theorem g_V_requireDye_0 {L : am_S} {n : Nat} {ls st : List Value} {M : am_M} {Q : am_Q} (h : am_B L mt_V_requireDye k_V_requireDye_0 n 0 ls st M Q) : am_R L mt_V_requireDye n 0 ls st M Q := am_go L mt_V_requireDye (fun h => by cases h) k_V_requireDye_0 n 0 ls st M Q o_V_requireDye_0 h
def k_V_requireDye_9 : List am_I := [(.new 216, 3, 0, 221, 220)]
set_option maxRecDepth 20000 in
theorem o_V_requireDye_9 : am_okB mt_V_requireDye 9 k_V_requireDye_9 = true := by decide +kernel
theorem g_V_requireDye_9 {L : am_S} {n : Nat} {ls st : List Value} {M : am_M} {Q : am_Q} (h : am_B L mt_V_requireDye k_V_requireDye_9 n 9 ls st M Q) : am_R L mt_V_requireDye n 9 ls st M Q := am_go L mt_V_requireDye (fun h => by cases h) k_V_requireDye_9 n 9 ls st M Q o_V_requireDye_9 h
def k_V_requireDye_19 : List am_I := [(.return_, 1, 0, 0, 0)]
set_option maxRecDepth 20000 in
theorem o_V_requireDye_19 : am_okB mt_V_requireDye 19 k_V_requireDye_19 = true := by decide +kernel
theorem g_V_requireDye_19 {L : am_S} {n : Nat} {ls st : List Value} {M : am_M} {Q : am_Q} (h : am_B L mt_V_requireDye k_V_requireDye_19 n 19 ls st M Q) : am_R L mt_V_requireDye n 19 ls st M Q := am_go L mt_V_requireDye (fun h => by cases h) k_V_requireDye_19 n 19 ls st M Q o_V_requireDye_19 h
def k_V_requireValve_0 : List am_I := [(.iload_n 1, 1, 0, 0, 0), (.ifCond .lt 23, 3, 0, 0, 0), (.iload_n 1, 1, 0, 0, 0), (.aload_n 0, 1, 0, 0, 0), (.getfield 12, 3, 3, 0, 104), (.getfield 51, 3, 1, 0, 44), (.bipush 56, 2, 0, 0, 0), (.iaload, 1, 0, 0, 0), (.if_icmp .ge 9, 3, 0, 0, 0), (.iload_n 1, 1, 0, 0, 0), (.bipush 8, 2, 0, 0, 0), (.if_icmp .lt 13, 3, 0, 0, 0)]
set_option maxRecDepth 20000 in
theorem o_V_requireValve_0 : am_okB mt_V_requireValve 0 k_V_requireValve_0 = true := by decide +kernel
theorem g_V_requireValve_0 {L : am_S} {n : Nat} {ls st : List Value} {M : am_M} {Q : am_Q} (h : am_B L mt_V_requireValve k_V_requireValve_0 n 0 ls st M Q) : am_R L mt_V_requireValve n 0 ls st M Q := am_go L mt_V_requireValve (fun h => by cases h) k_V_requireValve_0 n 0 ls st M Q o_V_requireValve_0 h
def k_V_requireValve_24 : List am_I := [(.new 216, 3, 0, 223, 220)]
set_option maxRecDepth 20000 in
theorem o_V_requireValve_24 : am_okB mt_V_requireValve 24 k_V_requireValve_24 = true := by decide +kernel
theorem g_V_requireValve_24 {L : am_S} {n : Nat} {ls st : List Value} {M : am_M} {Q : am_Q} (h : am_B L mt_V_requireValve k_V_requireValve_24 n 24 ls st M Q) : am_R L mt_V_requireValve n 24 ls st M Q := am_go L mt_V_requireValve (fun h => by cases h) k_V_requireValve_24 n 24 ls st M Q o_V_requireValve_24 h
def k_V_requireValve_34 : List am_I := [(.return_, 1, 0, 0, 0)]
set_option maxRecDepth 20000 in
theorem o_V_requireValve_34 : am_okB mt_V_requireValve 34 k_V_requireValve_34 = true := by decide +kernel
theorem g_V_requireValve_34 {L : am_S} {n : Nat} {ls st : List Value} {M : am_M} {Q : am_Q} (h : am_B L mt_V_requireValve k_V_requireValve_34 n 34 ls st M Q) : am_R L mt_V_requireValve n 34 ls st M Q := am_go L mt_V_requireValve (fun h => by cases h) k_V_requireValve_34 n 34 ls st M Q o_V_requireValve_34 h
def k_V_requireRange_0 : List am_I := [(.iload_n 0, 1, 0, 0, 0), (.iload_n 1, 1, 0, 0, 0), (.if_icmp .lt 8, 3, 0, 0, 0), (.iload_n 0, 1, 0, 0, 0), (.iload_n 2, 1, 0, 0, 0), (.if_icmp .le 13, 3, 0, 0, 0)]
set_option maxRecDepth 20000 in
theorem o_V_requireRange_0 : am_okB mt_V_requireRange 0 k_V_requireRange_0 = true := by decide +kernel
theorem g_V_requireRange_0 {L : am_S} {n : Nat} {ls st : List Value} {M : am_M} {Q : am_Q} (h : am_B L mt_V_requireRange k_V_requireRange_0 n 0 ls st M Q) : am_R L mt_V_requireRange n 0 ls st M Q := am_go L mt_V_requireRange (fun h => by cases h) k_V_requireRange_0 n 0 ls st M Q o_V_requireRange_0 h
def k_V_requireRange_10 : List am_I := [(.new 84, 3, 1, 225, 88)]
set_option maxRecDepth 20000 in
theorem o_V_requireRange_10 : am_okB mt_V_requireRange 10 k_V_requireRange_10 = true := by decide +kernel
theorem g_V_requireRange_10 {L : am_S} {n : Nat} {ls st : List Value} {M : am_M} {Q : am_Q} (h : am_B L mt_V_requireRange k_V_requireRange_10 n 10 ls st M Q) : am_R L mt_V_requireRange n 10 ls st M Q := am_go L mt_V_requireRange (fun h => by cases h) k_V_requireRange_10 n 10 ls st M Q o_V_requireRange_10 h
def k_V_requireRange_20 : List am_I := [(.return_, 1, 0, 0, 0)]
set_option maxRecDepth 20000 in
theorem o_V_requireRange_20 : am_okB mt_V_requireRange 20 k_V_requireRange_20 = true := by decide +kernel
theorem g_V_requireRange_20 {L : am_S} {n : Nat} {ls st : List Value} {M : am_M} {Q : am_Q} (h : am_B L mt_V_requireRange k_V_requireRange_20 n 20 ls st M Q) : am_R L mt_V_requireRange n 20 ls st M Q := am_go L mt_V_requireRange (fun h => by cases h) k_V_requireRange_20 n 20 ls st M Q o_V_requireRange_20 h
end
section
/-! the law: blocks of code, written by wip/p29/mk15.py out of what TURN printed of the program -/
def k_L_low_0 : List am_I := [(.iload_n 0, 1, 0, 0, 0), (.ldc 8, 2, 2147483647, 0, 318), (.iand, 1, 0, 0, 0), (.iload_n 1, 1, 0, 0, 0), (.irem, 1, 0, 0, 0), (.ireturn, 1, 0, 0, 0)]
set_option maxRecDepth 20000 in
theorem o_L_low_0 : am_okB mt_L_low 0 k_L_low_0 = true := by decide +kernel
theorem g_L_low_0 {L : am_S} {n : Nat} {ls st : List Value} {M : am_M} {Q : am_Q} (h : am_B L mt_L_low k_L_low_0 n 0 ls st M Q) : am_R L mt_L_low n 0 ls st M Q := am_go L mt_L_low (fun h => by cases h) k_L_low_0 n 0 ls st M Q o_L_low_0 h
def k_L_fill_0 : List am_I := [(.aload_n 0, 1, 0, 0, 0), (.iload_n 1, 1, 0, 0, 0), (.iload_n 2, 1, 0, 0, 0), (.invokevirtual 9, 3, 25, 3, 436), (.istore_n 3, 1, 0, 0, 0), (.goto 13, 3, 0, 0, 0)]
set_option maxRecDepth 20000 in
theorem o_L_fill_0 : am_okB mt_L_fill 0 k_L_fill_0 = true := by decide +kernel
theorem g_L_fill_0 {L : am_S} {n : Nat} {ls st : List Value} {M : am_M} {Q : am_Q} (h : am_B L mt_L_fill k_L_fill_0 n 0 ls st M Q) : am_R L mt_L_fill n 0 ls st M Q := am_go L mt_L_fill (fun h => by cases h) k_L_fill_0 n 0 ls st M Q o_L_fill_0 h
def k_L_fill_10 : List am_I := [(.astore 4, 2, 0, 0, 0), (.bipush (-31), 2, 0, 0, 0), (.ireturn, 1, 0, 0, 0)]
set_option maxRecDepth 20000 in
theorem o_L_fill_10 : am_okB mt_L_fill 10 k_L_fill_10 = true := by decide +kernel
theorem g_L_fill_10 {L : am_S} {n : Nat} {ls st : List Value} {M : am_M} {Q : am_Q} (h : am_B L mt_L_fill k_L_fill_10 n 10 ls st M Q) : am_R L mt_L_fill n 10 ls st M Q := am_go L mt_L_fill (fun h => by cases h) k_L_fill_10 n 10 ls st M Q o_L_fill_10 h
def k_L_fill_15 : List am_I := [(.astore 4, 2, 0, 0, 0), (.bipush (-32), 2, 0, 0, 0), (.ireturn, 1, 0, 0, 0)]
set_option maxRecDepth 20000 in
theorem o_L_fill_15 : am_okB mt_L_fill 15 k_L_fill_15 = true := by decide +kernel
theorem g_L_fill_15 {L : am_S} {n : Nat} {ls st : List Value} {M : am_M} {Q : am_Q} (h : am_B L mt_L_fill k_L_fill_15 n 15 ls st M Q) : am_R L mt_L_fill n 15 ls st M Q := am_go L mt_L_fill (fun h => by cases h) k_L_fill_15 n 15 ls st M Q o_L_fill_15 h
def k_L_fill_20 : List am_I := [(.iload_n 3, 1, 0, 0, 0), (.ireturn, 1, 0, 0, 0)]
set_option maxRecDepth 20000 in
theorem o_L_fill_20 : am_okB mt_L_fill 20 k_L_fill_20 = true := by decide +kernel
theorem g_L_fill_20 {L : am_S} {n : Nat} {ls st : List Value} {M : am_M} {Q : am_Q} (h : am_B L mt_L_fill k_L_fill_20 n 20 ls st M Q) : am_R L mt_L_fill n 20 ls st M Q := am_go L mt_L_fill (fun h => by cases h) k_L_fill_20 n 20 ls st M Q o_L_fill_20 h
def k_L_dye_0 : List am_I := [(.aload_n 0, 1, 0, 0, 0), (.iload_n 1, 1, 0, 0, 0), (.iload_n 2, 1, 0, 0, 0), (.iload_n 3, 1, 0, 0, 0), (.invokevirtual 19, 3, 26, 4, 447), (.istore 4, 2, 0, 0, 0), (.goto 18, 3, 0, 0, 0)]
set_option maxRecDepth 20000 in
theorem o_L_dye_0 : am_okB mt_L_dye 0 k_L_dye_0 = true := by decide +kernel
theorem g_L_dye_0 {L : am_S} {n : Nat} {ls st : List Value} {M : am_M} {Q : am_Q} (h : am_B L mt_L_dye k_L_dye_0 n 0 ls st M Q) : am_R L mt_L_dye n 0 ls st M Q := am_go L mt_L_dye (fun h => by cases h) k_L_dye_0 n 0 ls st M Q o_L_dye_0 h
def k_L_dye_12 : List am_I := [(.astore 5, 2, 0, 0, 0), (.bipush (-31), 2, 0, 0, 0), (.ireturn, 1, 0, 0, 0)]
set_option maxRecDepth 20000 in
theorem o_L_dye_12 : am_okB mt_L_dye 12 k_L_dye_12 = true := by decide +kernel
theorem g_L_dye_12 {L : am_S} {n : Nat} {ls st : List Value} {M : am_M} {Q : am_Q} (h : am_B L mt_L_dye k_L_dye_12 n 12 ls st M Q) : am_R L mt_L_dye n 12 ls st M Q := am_go L mt_L_dye (fun h => by cases h) k_L_dye_12 n 12 ls st M Q o_L_dye_12 h
def k_L_dye_17 : List am_I := [(.astore 5, 2, 0, 0, 0), (.bipush (-32), 2, 0, 0, 0), (.ireturn, 1, 0, 0, 0)]
set_option maxRecDepth 20000 in
theorem o_L_dye_17 : am_okB mt_L_dye 17 k_L_dye_17 = true := by decide +kernel
theorem g_L_dye_17 {L : am_S} {n : Nat} {ls st : List Value} {M : am_M} {Q : am_Q} (h : am_B L mt_L_dye k_L_dye_17 n 17 ls st M Q) : am_R L mt_L_dye n 17 ls st M Q := am_go L mt_L_dye (fun h => by cases h) k_L_dye_17 n 17 ls st M Q o_L_dye_17 h
def k_L_dye_22 : List am_I := [(.astore 5, 2, 0, 0, 0), (.bipush (-33), 2, 0, 0, 0), (.ireturn, 1, 0, 0, 0)]
set_option maxRecDepth 20000 in
theorem o_L_dye_22 : am_okB mt_L_dye 22 k_L_dye_22 = true := by decide +kernel
theorem g_L_dye_22 {L : am_S} {n : Nat} {ls st : List Value} {M : am_M} {Q : am_Q} (h : am_B L mt_L_dye k_L_dye_22 n 22 ls st M Q) : am_R L mt_L_dye n 22 ls st M Q := am_go L mt_L_dye (fun h => by cases h) k_L_dye_22 n 22 ls st M Q o_L_dye_22 h
def k_L_dye_27 : List am_I := [(.iload 4, 2, 0, 0, 0), (.ireturn, 1, 0, 0, 0)]
set_option maxRecDepth 20000 in
theorem o_L_dye_27 : am_okB mt_L_dye 27 k_L_dye_27 = true := by decide +kernel
theorem g_L_dye_27 {L : am_S} {n : Nat} {ls st : List Value} {M : am_M} {Q : am_Q} (h : am_B L mt_L_dye k_L_dye_27 n 27 ls st M Q) : am_R L mt_L_dye n 27 ls st M Q := am_go L mt_L_dye (fun h => by cases h) k_L_dye_27 n 27 ls st M Q o_L_dye_27 h
def k_L_stir_0 : List am_I := [(.aload_n 0, 1, 0, 0, 0), (.iload_n 1, 1, 0, 0, 0), (.invokevirtual 25, 3, 27, 2, 456), (.istore_n 2, 1, 0, 0, 0), (.goto 7, 3, 0, 0, 0)]
set_option maxRecDepth 20000 in
theorem o_L_stir_0 : am_okB mt_L_stir 0 k_L_stir_0 = true := by decide +kernel
theorem g_L_stir_0 {L : am_S} {n : Nat} {ls st : List Value} {M : am_M} {Q : am_Q} (h : am_B L mt_L_stir k_L_stir_0 n 0 ls st M Q) : am_R L mt_L_stir n 0 ls st M Q := am_go L mt_L_stir (fun h => by cases h) k_L_stir_0 n 0 ls st M Q o_L_stir_0 h
def k_L_stir_9 : List am_I := [(.astore_n 3, 1, 0, 0, 0), (.bipush (-31), 2, 0, 0, 0), (.ireturn, 1, 0, 0, 0)]
set_option maxRecDepth 20000 in
theorem o_L_stir_9 : am_okB mt_L_stir 9 k_L_stir_9 = true := by decide +kernel
theorem g_L_stir_9 {L : am_S} {n : Nat} {ls st : List Value} {M : am_M} {Q : am_Q} (h : am_B L mt_L_stir k_L_stir_9 n 9 ls st M Q) : am_R L mt_L_stir n 9 ls st M Q := am_go L mt_L_stir (fun h => by cases h) k_L_stir_9 n 9 ls st M Q o_L_stir_9 h
def k_L_stir_13 : List am_I := [(.iload_n 2, 1, 0, 0, 0), (.ireturn, 1, 0, 0, 0)]
set_option maxRecDepth 20000 in
theorem o_L_stir_13 : am_okB mt_L_stir 13 k_L_stir_13 = true := by decide +kernel
theorem g_L_stir_13 {L : am_S} {n : Nat} {ls st : List Value} {M : am_M} {Q : am_Q} (h : am_B L mt_L_stir k_L_stir_13 n 13 ls st M Q) : am_R L mt_L_stir n 13 ls st M Q := am_go L mt_L_stir (fun h => by cases h) k_L_stir_13 n 13 ls st M Q o_L_stir_13 h
def k_L_capacity_0 : List am_I := [(.aload_n 0, 1, 0, 0, 0), (.iload_n 1, 1, 0, 0, 0), (.iload_n 2, 1, 0, 0, 0), (.invokevirtual 29, 3, 28, 3, 470), (.istore_n 3, 1, 0, 0, 0), (.goto 13, 3, 0, 0, 0)]
set_option maxRecDepth 20000 in
theorem o_L_capacity_0 : am_okB mt_L_capacity 0 k_L_capacity_0 = true := by decide +kernel
theorem g_L_capacity_0 {L : am_S} {n : Nat} {ls st : List Value} {M : am_M} {Q : am_Q} (h : am_B L mt_L_capacity k_L_capacity_0 n 0 ls st M Q) : am_R L mt_L_capacity n 0 ls st M Q := am_go L mt_L_capacity (fun h => by cases h) k_L_capacity_0 n 0 ls st M Q o_L_capacity_0 h
def k_L_capacity_10 : List am_I := [(.astore 4, 2, 0, 0, 0), (.bipush (-31), 2, 0, 0, 0), (.ireturn, 1, 0, 0, 0)]
set_option maxRecDepth 20000 in
theorem o_L_capacity_10 : am_okB mt_L_capacity 10 k_L_capacity_10 = true := by decide +kernel
theorem g_L_capacity_10 {L : am_S} {n : Nat} {ls st : List Value} {M : am_M} {Q : am_Q} (h : am_B L mt_L_capacity k_L_capacity_10 n 10 ls st M Q) : am_R L mt_L_capacity n 10 ls st M Q := am_go L mt_L_capacity (fun h => by cases h) k_L_capacity_10 n 10 ls st M Q o_L_capacity_10 h
def k_L_capacity_15 : List am_I := [(.astore 4, 2, 0, 0, 0), (.bipush (-32), 2, 0, 0, 0), (.ireturn, 1, 0, 0, 0)]
set_option maxRecDepth 20000 in
theorem o_L_capacity_15 : am_okB mt_L_capacity 15 k_L_capacity_15 = true := by decide +kernel
theorem g_L_capacity_15 {L : am_S} {n : Nat} {ls st : List Value} {M : am_M} {Q : am_Q} (h : am_B L mt_L_capacity k_L_capacity_15 n 15 ls st M Q) : am_R L mt_L_capacity n 15 ls st M Q := am_go L mt_L_capacity (fun h => by cases h) k_L_capacity_15 n 15 ls st M Q o_L_capacity_15 h
def k_L_capacity_20 : List am_I := [(.iload_n 3, 1, 0, 0, 0), (.ireturn, 1, 0, 0, 0)]
set_option maxRecDepth 20000 in
theorem o_L_capacity_20 : am_okB mt_L_capacity 20 k_L_capacity_20 = true := by decide +kernel
theorem g_L_capacity_20 {L : am_S} {n : Nat} {ls st : List Value} {M : am_M} {Q : am_Q} (h : am_B L mt_L_capacity k_L_capacity_20 n 20 ls st M Q) : am_R L mt_L_capacity n 20 ls st M Q := am_go L mt_L_capacity (fun h => by cases h) k_L_capacity_20 n 20 ls st M Q o_L_capacity_20 h
def k_L_valve_0 : List am_I := [(.aload_n 0, 1, 0, 0, 0), (.iload_n 1, 1, 0, 0, 0), (.iload_n 2, 1, 0, 0, 0), (.iload_n 3, 1, 0, 0, 0), (.iload 4, 2, 0, 0, 0), (.iload 5, 2, 0, 0, 0), (.invokevirtual 32, 3, 29, 6, 477), (.istore 6, 2, 0, 0, 0), (.goto 18, 3, 0, 0, 0)]
set_option maxRecDepth 20000 in
theorem o_L_valve_0 : am_okB mt_L_valve 0 k_L_valve_0 = true := by decide +kernel
theorem g_L_valve_0 {L : am_S} {n : Nat} {ls st : List Value} {M : am_M} {Q : am_Q} (h : am_B L mt_L_valve k_L_valve_0 n 0 ls st M Q) : am_R L mt_L_valve n 0 ls st M Q := am_go L mt_L_valve (fun h => by cases h) k_L_valve_0 n 0 ls st M Q o_L_valve_0 h
def k_L_valve_16 : List am_I := [(.astore 7, 2, 0, 0, 0), (.bipush (-31), 2, 0, 0, 0), (.ireturn, 1, 0, 0, 0)]
set_option maxRecDepth 20000 in
theorem o_L_valve_16 : am_okB mt_L_valve 16 k_L_valve_16 = true := by decide +kernel
theorem g_L_valve_16 {L : am_S} {n : Nat} {ls st : List Value} {M : am_M} {Q : am_Q} (h : am_B L mt_L_valve k_L_valve_16 n 16 ls st M Q) : am_R L mt_L_valve n 16 ls st M Q := am_go L mt_L_valve (fun h => by cases h) k_L_valve_16 n 16 ls st M Q o_L_valve_16 h
def k_L_valve_21 : List am_I := [(.astore 7, 2, 0, 0, 0), (.bipush (-32), 2, 0, 0, 0), (.ireturn, 1, 0, 0, 0)]
set_option maxRecDepth 20000 in
theorem o_L_valve_21 : am_okB mt_L_valve 21 k_L_valve_21 = true := by decide +kernel
theorem g_L_valve_21 {L : am_S} {n : Nat} {ls st : List Value} {M : am_M} {Q : am_Q} (h : am_B L mt_L_valve k_L_valve_21 n 21 ls st M Q) : am_R L mt_L_valve n 21 ls st M Q := am_go L mt_L_valve (fun h => by cases h) k_L_valve_21 n 21 ls st M Q o_L_valve_21 h
def k_L_valve_26 : List am_I := [(.astore 7, 2, 0, 0, 0), (.bipush (-33), 2, 0, 0, 0), (.ireturn, 1, 0, 0, 0)]
set_option maxRecDepth 20000 in
theorem o_L_valve_26 : am_okB mt_L_valve 26 k_L_valve_26 = true := by decide +kernel
theorem g_L_valve_26 {L : am_S} {n : Nat} {ls st : List Value} {M : am_M} {Q : am_Q} (h : am_B L mt_L_valve k_L_valve_26 n 26 ls st M Q) : am_R L mt_L_valve n 26 ls st M Q := am_go L mt_L_valve (fun h => by cases h) k_L_valve_26 n 26 ls st M Q o_L_valve_26 h
def k_L_valve_31 : List am_I := [(.iload 6, 2, 0, 0, 0), (.ireturn, 1, 0, 0, 0)]
set_option maxRecDepth 20000 in
theorem o_L_valve_31 : am_okB mt_L_valve 31 k_L_valve_31 = true := by decide +kernel
theorem g_L_valve_31 {L : am_S} {n : Nat} {ls st : List Value} {M : am_M} {Q : am_Q} (h : am_B L mt_L_valve k_L_valve_31 n 31 ls st M Q) : am_R L mt_L_valve n 31 ls st M Q := am_go L mt_L_valve (fun h => by cases h) k_L_valve_31 n 31 ls st M Q o_L_valve_31 h
def k_L_close_0 : List am_I := [(.aload_n 0, 1, 0, 0, 0), (.iload_n 1, 1, 0, 0, 0), (.invokevirtual 36, 3, 30, 2, 486), (.istore_n 2, 1, 0, 0, 0), (.goto 7, 3, 0, 0, 0)]
set_option maxRecDepth 20000 in
theorem o_L_close_0 : am_okB mt_L_close 0 k_L_close_0 = true := by decide +kernel
theorem g_L_close_0 {L : am_S} {n : Nat} {ls st : List Value} {M : am_M} {Q : am_Q} (h : am_B L mt_L_close k_L_close_0 n 0 ls st M Q) : am_R L mt_L_close n 0 ls st M Q := am_go L mt_L_close (fun h => by cases h) k_L_close_0 n 0 ls st M Q o_L_close_0 h
def k_L_close_9 : List am_I := [(.astore_n 3, 1, 0, 0, 0), (.bipush (-31), 2, 0, 0, 0), (.ireturn, 1, 0, 0, 0)]
set_option maxRecDepth 20000 in
theorem o_L_close_9 : am_okB mt_L_close 9 k_L_close_9 = true := by decide +kernel
theorem g_L_close_9 {L : am_S} {n : Nat} {ls st : List Value} {M : am_M} {Q : am_Q} (h : am_B L mt_L_close k_L_close_9 n 9 ls st M Q) : am_R L mt_L_close n 9 ls st M Q := am_go L mt_L_close (fun h => by cases h) k_L_close_9 n 9 ls st M Q o_L_close_9 h
def k_L_close_13 : List am_I := [(.iload_n 2, 1, 0, 0, 0), (.ireturn, 1, 0, 0, 0)]
set_option maxRecDepth 20000 in
theorem o_L_close_13 : am_okB mt_L_close 13 k_L_close_13 = true := by decide +kernel
theorem g_L_close_13 {L : am_S} {n : Nat} {ls st : List Value} {M : am_M} {Q : am_Q} (h : am_B L mt_L_close k_L_close_13 n 13 ls st M Q) : am_R L mt_L_close n 13 ls st M Q := am_go L mt_L_close (fun h => by cases h) k_L_close_13 n 13 ls st M Q o_L_close_13 h
def k_L_pipe_0 : List am_I := [(.aload_n 0, 1, 0, 0, 0), (.iload_n 1, 1, 0, 0, 0), (.iload_n 2, 1, 0, 0, 0), (.invokevirtual 39, 3, 31, 3, 493), (.istore_n 3, 1, 0, 0, 0), (.goto 13, 3, 0, 0, 0)]
set_option maxRecDepth 20000 in
theorem o_L_pipe_0 : am_okB mt_L_pipe 0 k_L_pipe_0 = true := by decide +kernel
theorem g_L_pipe_0 {L : am_S} {n : Nat} {ls st : List Value} {M : am_M} {Q : am_Q} (h : am_B L mt_L_pipe k_L_pipe_0 n 0 ls st M Q) : am_R L mt_L_pipe n 0 ls st M Q := am_go L mt_L_pipe (fun h => by cases h) k_L_pipe_0 n 0 ls st M Q o_L_pipe_0 h
def k_L_pipe_10 : List am_I := [(.astore 4, 2, 0, 0, 0), (.bipush (-31), 2, 0, 0, 0), (.ireturn, 1, 0, 0, 0)]
set_option maxRecDepth 20000 in
theorem o_L_pipe_10 : am_okB mt_L_pipe 10 k_L_pipe_10 = true := by decide +kernel
theorem g_L_pipe_10 {L : am_S} {n : Nat} {ls st : List Value} {M : am_M} {Q : am_Q} (h : am_B L mt_L_pipe k_L_pipe_10 n 10 ls st M Q) : am_R L mt_L_pipe n 10 ls st M Q := am_go L mt_L_pipe (fun h => by cases h) k_L_pipe_10 n 10 ls st M Q o_L_pipe_10 h
def k_L_pipe_15 : List am_I := [(.astore 4, 2, 0, 0, 0), (.bipush (-32), 2, 0, 0, 0), (.ireturn, 1, 0, 0, 0)]
set_option maxRecDepth 20000 in
theorem o_L_pipe_15 : am_okB mt_L_pipe 15 k_L_pipe_15 = true := by decide +kernel
theorem g_L_pipe_15 {L : am_S} {n : Nat} {ls st : List Value} {M : am_M} {Q : am_Q} (h : am_B L mt_L_pipe k_L_pipe_15 n 15 ls st M Q) : am_R L mt_L_pipe n 15 ls st M Q := am_go L mt_L_pipe (fun h => by cases h) k_L_pipe_15 n 15 ls st M Q o_L_pipe_15 h
def k_L_pipe_20 : List am_I := [(.iload_n 3, 1, 0, 0, 0), (.ireturn, 1, 0, 0, 0)]
set_option maxRecDepth 20000 in
theorem o_L_pipe_20 : am_okB mt_L_pipe 20 k_L_pipe_20 = true := by decide +kernel
theorem g_L_pipe_20 {L : am_S} {n : Nat} {ls st : List Value} {M : am_M} {Q : am_Q} (h : am_B L mt_L_pipe k_L_pipe_20 n 20 ls st M Q) : am_R L mt_L_pipe n 20 ls st M Q := am_go L mt_L_pipe (fun h => by cases h) k_L_pipe_20 n 20 ls st M Q o_L_pipe_20 h
def k_L_set_0 : List am_I := [(.aload_n 0, 1, 0, 0, 0), (.iload_n 1, 1, 0, 0, 0), (.invokevirtual 42, 3, 32, 2, 501), (.istore_n 2, 1, 0, 0, 0), (.goto 7, 3, 0, 0, 0)]
set_option maxRecDepth 20000 in
theorem o_L_set_0 : am_okB mt_L_set 0 k_L_set_0 = true := by decide +kernel
theorem g_L_set_0 {L : am_S} {n : Nat} {ls st : List Value} {M : am_M} {Q : am_Q} (h : am_B L mt_L_set k_L_set_0 n 0 ls st M Q) : am_R L mt_L_set n 0 ls st M Q := am_go L mt_L_set (fun h => by cases h) k_L_set_0 n 0 ls st M Q o_L_set_0 h
def k_L_set_9 : List am_I := [(.astore_n 3, 1, 0, 0, 0), (.bipush (-32), 2, 0, 0, 0), (.ireturn, 1, 0, 0, 0)]
set_option maxRecDepth 20000 in
theorem o_L_set_9 : am_okB mt_L_set 9 k_L_set_9 = true := by decide +kernel
theorem g_L_set_9 {L : am_S} {n : Nat} {ls st : List Value} {M : am_M} {Q : am_Q} (h : am_B L mt_L_set k_L_set_9 n 9 ls st M Q) : am_R L mt_L_set n 9 ls st M Q := am_go L mt_L_set (fun h => by cases h) k_L_set_9 n 9 ls st M Q o_L_set_9 h
def k_L_set_13 : List am_I := [(.iload_n 2, 1, 0, 0, 0), (.ireturn, 1, 0, 0, 0)]
set_option maxRecDepth 20000 in
theorem o_L_set_13 : am_okB mt_L_set 13 k_L_set_13 = true := by decide +kernel
theorem g_L_set_13 {L : am_S} {n : Nat} {ls st : List Value} {M : am_M} {Q : am_Q} (h : am_B L mt_L_set k_L_set_13 n 13 ls st M Q) : am_R L mt_L_set n 13 ls st M Q := am_go L mt_L_set (fun h => by cases h) k_L_set_13 n 13 ls st M Q o_L_set_13 h
def k_L_pass_0 : List am_I := [(.aload_n 0, 1, 0, 0, 0), (.iload_n 1, 1, 0, 0, 0), (.invokevirtual 45, 3, 33, 2, 508), (.istore_n 2, 1, 0, 0, 0), (.goto 11, 3, 0, 0, 0)]
set_option maxRecDepth 20000 in
theorem o_L_pass_0 : am_okB mt_L_pass 0 k_L_pass_0 = true := by decide +kernel
theorem g_L_pass_0 {L : am_S} {n : Nat} {ls st : List Value} {M : am_M} {Q : am_Q} (h : am_B L mt_L_pass k_L_pass_0 n 0 ls st M Q) : am_R L mt_L_pass n 0 ls st M Q := am_go L mt_L_pass (fun h => by cases h) k_L_pass_0 n 0 ls st M Q o_L_pass_0 h
def k_L_pass_9 : List am_I := [(.astore_n 3, 1, 0, 0, 0), (.bipush (-32), 2, 0, 0, 0), (.ireturn, 1, 0, 0, 0)]
set_option maxRecDepth 20000 in
theorem o_L_pass_9 : am_okB mt_L_pass 9 k_L_pass_9 = true := by decide +kernel
theorem g_L_pass_9 {L : am_S} {n : Nat} {ls st : List Value} {M : am_M} {Q : am_Q} (h : am_B L mt_L_pass k_L_pass_9 n 9 ls st M Q) : am_R L mt_L_pass n 9 ls st M Q := am_go L mt_L_pass (fun h => by cases h) k_L_pass_9 n 9 ls st M Q o_L_pass_9 h
def k_L_pass_13 : List am_I := [(.astore_n 3, 1, 0, 0, 0), (.bipush (-33), 2, 0, 0, 0), (.ireturn, 1, 0, 0, 0)]
set_option maxRecDepth 20000 in
theorem o_L_pass_13 : am_okB mt_L_pass 13 k_L_pass_13 = true := by decide +kernel
theorem g_L_pass_13 {L : am_S} {n : Nat} {ls st : List Value} {M : am_M} {Q : am_Q} (h : am_B L mt_L_pass k_L_pass_13 n 13 ls st M Q) : am_R L mt_L_pass n 13 ls st M Q := am_go L mt_L_pass (fun h => by cases h) k_L_pass_13 n 13 ls st M Q o_L_pass_13 h
def k_L_pass_17 : List am_I := [(.iload_n 2, 1, 0, 0, 0), (.ireturn, 1, 0, 0, 0)]
set_option maxRecDepth 20000 in
theorem o_L_pass_17 : am_okB mt_L_pass 17 k_L_pass_17 = true := by decide +kernel
theorem g_L_pass_17 {L : am_S} {n : Nat} {ls st : List Value} {M : am_M} {Q : am_Q} (h : am_B L mt_L_pass k_L_pass_17 n 17 ls st M Q) : am_R L mt_L_pass n 17 ls st M Q := am_go L mt_L_pass (fun h => by cases h) k_L_pass_17 n 17 ls st M Q o_L_pass_17 h
def k_L_goBack_0 : List am_I := [(.aload_n 0, 1, 0, 0, 0), (.iload_n 1, 1, 0, 0, 0), (.invokevirtual 48, 3, 35, 2, 324), (.istore_n 2, 1, 0, 0, 0), (.goto 11, 3, 0, 0, 0)]
set_option maxRecDepth 20000 in
theorem o_L_goBack_0 : am_okB mt_L_goBack 0 k_L_goBack_0 = true := by decide +kernel
theorem g_L_goBack_0 {L : am_S} {n : Nat} {ls st : List Value} {M : am_M} {Q : am_Q} (h : am_B L mt_L_goBack k_L_goBack_0 n 0 ls st M Q) : am_R L mt_L_goBack n 0 ls st M Q := am_go L mt_L_goBack (fun h => by cases h) k_L_goBack_0 n 0 ls st M Q o_L_goBack_0 h
def k_L_goBack_9 : List am_I := [(.astore_n 3, 1, 0, 0, 0), (.bipush (-32), 2, 0, 0, 0), (.ireturn, 1, 0, 0, 0)]
set_option maxRecDepth 20000 in
theorem o_L_goBack_9 : am_okB mt_L_goBack 9 k_L_goBack_9 = true := by decide +kernel
theorem g_L_goBack_9 {L : am_S} {n : Nat} {ls st : List Value} {M : am_M} {Q : am_Q} (h : am_B L mt_L_goBack k_L_goBack_9 n 9 ls st M Q) : am_R L mt_L_goBack n 9 ls st M Q := am_go L mt_L_goBack (fun h => by cases h) k_L_goBack_9 n 9 ls st M Q o_L_goBack_9 h
def k_L_goBack_13 : List am_I := [(.astore_n 3, 1, 0, 0, 0), (.bipush (-33), 2, 0, 0, 0), (.ireturn, 1, 0, 0, 0)]
set_option maxRecDepth 20000 in
theorem o_L_goBack_13 : am_okB mt_L_goBack 13 k_L_goBack_13 = true := by decide +kernel
theorem g_L_goBack_13 {L : am_S} {n : Nat} {ls st : List Value} {M : am_M} {Q : am_Q} (h : am_B L mt_L_goBack k_L_goBack_13 n 13 ls st M Q) : am_R L mt_L_goBack n 13 ls st M Q := am_go L mt_L_goBack (fun h => by cases h) k_L_goBack_13 n 13 ls st M Q o_L_goBack_13 h
def k_L_goBack_17 : List am_I := [(.iload_n 2, 1, 0, 0, 0), (.ireturn, 1, 0, 0, 0)]
set_option maxRecDepth 20000 in
theorem o_L_goBack_17 : am_okB mt_L_goBack 17 k_L_goBack_17 = true := by decide +kernel
theorem g_L_goBack_17 {L : am_S} {n : Nat} {ls st : List Value} {M : am_M} {Q : am_Q} (h : am_B L mt_L_goBack k_L_goBack_17 n 17 ls st M Q) : am_R L mt_L_goBack n 17 ls st M Q := am_go L mt_L_goBack (fun h => by cases h) k_L_goBack_17 n 17 ls st M Q o_L_goBack_17 h
def k_L_undo_0 : List am_I := [(.aload_n 0, 1, 0, 0, 0), (.invokevirtual 51, 3, 36, 1, 353), (.istore_n 1, 1, 0, 0, 0), (.goto 7, 3, 0, 0, 0)]
set_option maxRecDepth 20000 in
theorem o_L_undo_0 : am_okB mt_L_undo 0 k_L_undo_0 = true := by decide +kernel
theorem g_L_undo_0 {L : am_S} {n : Nat} {ls st : List Value} {M : am_M} {Q : am_Q} (h : am_B L mt_L_undo k_L_undo_0 n 0 ls st M Q) : am_R L mt_L_undo n 0 ls st M Q := am_go L mt_L_undo (fun h => by cases h) k_L_undo_0 n 0 ls st M Q o_L_undo_0 h
def k_L_undo_8 : List am_I := [(.astore_n 2, 1, 0, 0, 0), (.bipush (-33), 2, 0, 0, 0), (.ireturn, 1, 0, 0, 0)]
set_option maxRecDepth 20000 in
theorem o_L_undo_8 : am_okB mt_L_undo 8 k_L_undo_8 = true := by decide +kernel
theorem g_L_undo_8 {L : am_S} {n : Nat} {ls st : List Value} {M : am_M} {Q : am_Q} (h : am_B L mt_L_undo k_L_undo_8 n 8 ls st M Q) : am_R L mt_L_undo n 8 ls st M Q := am_go L mt_L_undo (fun h => by cases h) k_L_undo_8 n 8 ls st M Q o_L_undo_8 h
def k_L_undo_12 : List am_I := [(.iload_n 1, 1, 0, 0, 0), (.ireturn, 1, 0, 0, 0)]
set_option maxRecDepth 20000 in
theorem o_L_undo_12 : am_okB mt_L_undo 12 k_L_undo_12 = true := by decide +kernel
theorem g_L_undo_12 {L : am_S} {n : Nat} {ls st : List Value} {M : am_M} {Q : am_Q} (h : am_B L mt_L_undo k_L_undo_12 n 12 ls st M Q) : am_R L mt_L_undo n 12 ls st M Q := am_go L mt_L_undo (fun h => by cases h) k_L_undo_12 n 12 ls st M Q o_L_undo_12 h
def k_L_keep_0 : List am_I := [(.aload_n 0, 1, 0, 0, 0), (.iload_n 1, 1, 0, 0, 0), (.invokevirtual 55, 3, 34, 2, 530), (.istore_n 2, 1, 0, 0, 0), (.goto 7, 3, 0, 0, 0)]
set_option maxRecDepth 20000 in
theorem o_L_keep_0 : am_okB mt_L_keep 0 k_L_keep_0 = true := by decide +kernel
theorem g_L_keep_0 {L : am_S} {n : Nat} {ls st : List Value} {M : am_M} {Q : am_Q} (h : am_B L mt_L_keep k_L_keep_0 n 0 ls st M Q) : am_R L mt_L_keep n 0 ls st M Q := am_go L mt_L_keep (fun h => by cases h) k_L_keep_0 n 0 ls st M Q o_L_keep_0 h
def k_L_keep_9 : List am_I := [(.astore_n 3, 1, 0, 0, 0), (.bipush (-32), 2, 0, 0, 0), (.ireturn, 1, 0, 0, 0)]
set_option maxRecDepth 20000 in
theorem o_L_keep_9 : am_okB mt_L_keep 9 k_L_keep_9 = true := by decide +kernel
theorem g_L_keep_9 {L : am_S} {n : Nat} {ls st : List Value} {M : am_M} {Q : am_Q} (h : am_B L mt_L_keep k_L_keep_9 n 9 ls st M Q) : am_R L mt_L_keep n 9 ls st M Q := am_go L mt_L_keep (fun h => by cases h) k_L_keep_9 n 9 ls st M Q o_L_keep_9 h
def k_L_keep_13 : List am_I := [(.iload_n 2, 1, 0, 0, 0), (.ireturn, 1, 0, 0, 0)]
set_option maxRecDepth 20000 in
theorem o_L_keep_13 : am_okB mt_L_keep 13 k_L_keep_13 = true := by decide +kernel
theorem g_L_keep_13 {L : am_S} {n : Nat} {ls st : List Value} {M : am_M} {Q : am_Q} (h : am_B L mt_L_keep k_L_keep_13 n 13 ls st M Q) : am_R L mt_L_keep n 13 ls st M Q := am_go L mt_L_keep (fun h => by cases h) k_L_keep_13 n 13 ls st M Q o_L_keep_13 h
def k_L_tale_0 : List am_I := [(.ldc2_w 58, 3, 41, 0, 361), (.lstore_n 1, 1, 0, 0, 0), (.iconst 0, 1, 0, 0, 0), (.istore_n 3, 1, 0, 0, 0)]
set_option maxRecDepth 20000 in
theorem o_L_tale_0 : am_okB mt_L_tale 0 k_L_tale_0 = true := by decide +kernel
theorem g_L_tale_0 {L : am_S} {n : Nat} {ls st : List Value} {M : am_M} {Q : am_Q} (h : am_B L mt_L_tale k_L_tale_0 n 0 ls st M Q) : am_R L mt_L_tale n 0 ls st M Q := am_go L mt_L_tale (fun h => by cases h) k_L_tale_0 n 0 ls st M Q o_L_tale_0 h
def k_L_tale_6 : List am_I := [(.iload_n 3, 1, 0, 0, 0), (.bipush 9, 2, 0, 0, 0), (.if_icmp .ge 22, 3, 0, 0, 0), (.ldc2_w 60, 3, 31, 0, 362), (.lload_n 1, 1, 0, 0, 0), (.lmul, 1, 0, 0, 0), (.aload_n 0, 1, 0, 0, 0), (.iload_n 3, 1, 0, 0, 0), (.invokevirtual 62, 3, 40, 2, 363), (.i2l, 1, 0, 0, 0), (.ladd, 1, 0, 0, 0), (.lstore_n 1, 1, 0, 0, 0), (.iinc 3 1, 3, 0, 0, 0), (.goto (-22), 3, 0, 0, 0)]
set_option maxRecDepth 20000 in
theorem o_L_tale_6 : am_okB mt_L_tale 6 k_L_tale_6 = true := by decide +kernel
theorem g_L_tale_6 {L : am_S} {n : Nat} {ls st : List Value} {M : am_M} {Q : am_Q} (h : am_B L mt_L_tale k_L_tale_6 n 6 ls st M Q) : am_R L mt_L_tale n 6 ls st M Q := am_go L mt_L_tale (fun h => by cases h) k_L_tale_6 n 6 ls st M Q o_L_tale_6 h
def k_L_tale_31 : List am_I := [(.iconst 0, 1, 0, 0, 0), (.istore_n 3, 1, 0, 0, 0)]
set_option maxRecDepth 20000 in
theorem o_L_tale_31 : am_okB mt_L_tale 31 k_L_tale_31 = true := by decide +kernel
theorem g_L_tale_31 {L : am_S} {n : Nat} {ls st : List Value} {M : am_M} {Q : am_Q} (h : am_B L mt_L_tale k_L_tale_31 n 31 ls st M Q) : am_R L mt_L_tale n 31 ls st M Q := am_go L mt_L_tale (fun h => by cases h) k_L_tale_31 n 31 ls st M Q o_L_tale_31 h
def k_L_tale_33 : List am_I := [(.iload_n 3, 1, 0, 0, 0), (.bipush 50, 2, 0, 0, 0), (.if_icmp .ge 29, 3, 0, 0, 0), (.ldc2_w 65, 3, 37, 0, 385), (.lload_n 1, 1, 0, 0, 0), (.lmul, 1, 0, 0, 0), (.aload_n 0, 1, 0, 0, 0), (.iload_n 3, 1, 0, 0, 0), (.bipush 10, 2, 0, 0, 0), (.idiv, 1, 0, 0, 0), (.iload_n 3, 1, 0, 0, 0), (.bipush 10, 2, 0, 0, 0), (.irem, 1, 0, 0, 0), (.invokevirtual 67, 3, 37, 3, 386), (.i2l, 1, 0, 0, 0), (.ladd, 1, 0, 0, 0), (.lstore_n 1, 1, 0, 0, 0), (.iinc 3 1, 3, 0, 0, 0), (.goto (-29), 3, 0, 0, 0)]
set_option maxRecDepth 20000 in
theorem o_L_tale_33 : am_okB mt_L_tale 33 k_L_tale_33 = true := by decide +kernel
theorem g_L_tale_33 {L : am_S} {n : Nat} {ls st : List Value} {M : am_M} {Q : am_Q} (h : am_B L mt_L_tale k_L_tale_33 n 33 ls st M Q) : am_R L mt_L_tale n 33 ls st M Q := am_go L mt_L_tale (fun h => by cases h) k_L_tale_33 n 33 ls st M Q o_L_tale_33 h
def k_L_tale_65 : List am_I := [(.iconst 0, 1, 0, 0, 0), (.istore_n 3, 1, 0, 0, 0)]
set_option maxRecDepth 20000 in
theorem o_L_tale_65 : am_okB mt_L_tale 65 k_L_tale_65 = true := by decide +kernel
theorem g_L_tale_65 {L : am_S} {n : Nat} {ls st : List Value} {M : am_M} {Q : am_Q} (h : am_B L mt_L_tale k_L_tale_65 n 65 ls st M Q) : am_R L mt_L_tale n 65 ls st M Q := am_go L mt_L_tale (fun h => by cases h) k_L_tale_65 n 65 ls st M Q o_L_tale_65 h
def k_L_tale_67 : List am_I := [(.iload_n 3, 1, 0, 0, 0), (.bipush 7, 2, 0, 0, 0), (.aload_n 0, 1, 0, 0, 0), (.iconst 2, 1, 0, 0, 0), (.invokevirtual 62, 3, 40, 2, 363), (.imul, 1, 0, 0, 0), (.if_icmp .ge 29, 3, 0, 0, 0), (.ldc2_w 70, 3, 43, 0, 394), (.lload_n 1, 1, 0, 0, 0), (.lmul, 1, 0, 0, 0), (.aload_n 0, 1, 0, 0, 0), (.iload_n 3, 1, 0, 0, 0), (.bipush 7, 2, 0, 0, 0), (.idiv, 1, 0, 0, 0), (.iload_n 3, 1, 0, 0, 0), (.bipush 7, 2, 0, 0, 0), (.irem, 1, 0, 0, 0), (.invokevirtual 72, 3, 38, 3, 395), (.i2l, 1, 0, 0, 0), (.ladd, 1, 0, 0, 0), (.lstore_n 1, 1, 0, 0, 0), (.iinc 3 1, 3, 0, 0, 0), (.goto (-35), 3, 0, 0, 0)]
set_option maxRecDepth 20000 in
theorem o_L_tale_67 : am_okB mt_L_tale 67 k_L_tale_67 = true := by decide +kernel
theorem g_L_tale_67 {L : am_S} {n : Nat} {ls st : List Value} {M : am_M} {Q : am_Q} (h : am_B L mt_L_tale k_L_tale_67 n 67 ls st M Q) : am_R L mt_L_tale n 67 ls st M Q := am_go L mt_L_tale (fun h => by cases h) k_L_tale_67 n 67 ls st M Q o_L_tale_67 h
def k_L_tale_105 : List am_I := [(.iconst 0, 1, 0, 0, 0), (.istore_n 3, 1, 0, 0, 0)]
set_option maxRecDepth 20000 in
theorem o_L_tale_105 : am_okB mt_L_tale 105 k_L_tale_105 = true := by decide +kernel
theorem g_L_tale_105 {L : am_S} {n : Nat} {ls st : List Value} {M : am_M} {Q : am_Q} (h : am_B L mt_L_tale k_L_tale_105 n 105 ls st M Q) : am_R L mt_L_tale n 105 ls st M Q := am_go L mt_L_tale (fun h => by cases h) k_L_tale_105 n 105 ls st M Q o_L_tale_105 h
def k_L_tale_107 : List am_I := [(.iload_n 3, 1, 0, 0, 0), (.bipush 15, 2, 0, 0, 0), (.if_icmp .ge 27, 3, 0, 0, 0), (.ldc2_w 75, 3, 47, 0, 408), (.lload_n 1, 1, 0, 0, 0), (.lmul, 1, 0, 0, 0), (.aload_n 0, 1, 0, 0, 0), (.iload_n 3, 1, 0, 0, 0), (.iconst 5, 1, 0, 0, 0), (.idiv, 1, 0, 0, 0), (.iload_n 3, 1, 0, 0, 0), (.iconst 5, 1, 0, 0, 0), (.irem, 1, 0, 0, 0), (.invokevirtual 77, 3, 39, 3, 409), (.i2l, 1, 0, 0, 0), (.ladd, 1, 0, 0, 0), (.lstore_n 1, 1, 0, 0, 0), (.iinc 3 1, 3, 0, 0, 0), (.goto (-27), 3, 0, 0, 0)]
set_option maxRecDepth 20000 in
theorem o_L_tale_107 : am_okB mt_L_tale 107 k_L_tale_107 = true := by decide +kernel
theorem g_L_tale_107 {L : am_S} {n : Nat} {ls st : List Value} {M : am_M} {Q : am_Q} (h : am_B L mt_L_tale k_L_tale_107 n 107 ls st M Q) : am_R L mt_L_tale n 107 ls st M Q := am_go L mt_L_tale (fun h => by cases h) k_L_tale_107 n 107 ls st M Q o_L_tale_107 h
def k_L_tale_137 : List am_I := [(.lload_n 1, 1, 0, 0, 0), (.lreturn, 1, 0, 0, 0)]
set_option maxRecDepth 20000 in
theorem o_L_tale_137 : am_okB mt_L_tale 137 k_L_tale_137 = true := by decide +kernel
theorem g_L_tale_137 {L : am_S} {n : Nat} {ls st : List Value} {M : am_M} {Q : am_Q} (h : am_B L mt_L_tale k_L_tale_137 n 137 ls st M Q) : am_R L mt_L_tale n 137 ls st M Q := am_go L mt_L_tale (fun h => by cases h) k_L_tale_137 n 137 ls st M Q o_L_tale_137 h
def k_L_act_0 : List am_I := [(.iload_n 2, 1, 0, 0, 0), (.bipush 6, 2, 0, 0, 0), (.invokestatic 80, 3, 55, 2, 315), (.istore_n 3, 1, 0, 0, 0), (.iload_n 2, 1, 0, 0, 0), (.iconst 3, 1, 0, 0, 0), (.ishr, 1, 0, 0, 0), (.bipush 6, 2, 0, 0, 0), (.invokestatic 80, 3, 55, 2, 315), (.istore 4, 2, 0, 0, 0), (.iload_n 1, 1, 0, 0, 0), (.bipush 16, 2, 0, 0, 0), (.invokestatic 80, 3, 55, 2, 315), (.tableswitch 256 0 13 #[69, 69, 69, 101, 101, 127, 133, 151, 151, 151, 225, 236, 236, 244], 69, 0, 0, 0)]
set_option maxRecDepth 20000 in
theorem o_L_act_0 : am_okB mt_L_act 0 k_L_act_0 = true := by decide +kernel
theorem g_L_act_0 {L : am_S} {n : Nat} {ls st : List Value} {M : am_M} {Q : am_Q} (h : am_B L mt_L_act k_L_act_0 n 0 ls st M Q) : am_R L mt_L_act n 0 ls st M Q := am_go L mt_L_act (fun h => by cases h) k_L_act_0 n 0 ls st M Q o_L_act_0 h
def k_L_act_92 : List am_I := [(.aload_n 0, 1, 0, 0, 0), (.iload_n 3, 1, 0, 0, 0), (.iconst 1, 1, 0, 0, 0), (.iload_n 2, 1, 0, 0, 0), (.bipush 6, 2, 0, 0, 0), (.ishr, 1, 0, 0, 0), (.iload_n 2, 1, 0, 0, 0), (.iconst 5, 1, 0, 0, 0), (.ishr, 1, 0, 0, 0), (.iconst 1, 1, 0, 0, 0), (.iand, 1, 0, 0, 0), (.ifCond .ne 9, 3, 0, 0, 0), (.sipush 200, 3, 0, 0, 0), (.goto 6, 3, 0, 0, 0)]
set_option maxRecDepth 20000 in
theorem o_L_act_92 : am_okB mt_L_act 92 k_L_act_92 = true := by decide +kernel
theorem g_L_act_92 {L : am_S} {n : Nat} {ls st : List Value} {M : am_M} {Q : am_Q} (h : am_B L mt_L_act k_L_act_92 n 92 ls st M Q) : am_R L mt_L_act n 92 ls st M Q := am_go L mt_L_act (fun h => by cases h) k_L_act_92 n 92 ls st M Q o_L_act_92 h
def k_L_act_113 : List am_I := [(.sipush 1100, 3, 0, 0, 0)]
set_option maxRecDepth 20000 in
theorem o_L_act_113 : am_okB mt_L_act 113 k_L_act_113 = true := by decide +kernel
theorem g_L_act_113 {L : am_S} {n : Nat} {ls st : List Value} {M : am_M} {Q : am_Q} (h : am_B L mt_L_act k_L_act_113 n 113 ls st M Q) : am_R L mt_L_act n 113 ls st M Q := am_go L mt_L_act (fun h => by cases h) k_L_act_113 n 113 ls st M Q o_L_act_113 h
def k_L_act_116 : List am_I := [(.invokestatic 80, 3, 55, 2, 315), (.iadd, 1, 0, 0, 0), (.invokestatic 85, 3, 56, 3, 432), (.ireturn, 1, 0, 0, 0)]
set_option maxRecDepth 20000 in
theorem o_L_act_116 : am_okB mt_L_act 116 k_L_act_116 = true := by decide +kernel
theorem g_L_act_116 {L : am_S} {n : Nat} {ls st : List Value} {M : am_M} {Q : am_Q} (h : am_B L mt_L_act k_L_act_116 n 116 ls st M Q) : am_R L mt_L_act n 116 ls st M Q := am_go L mt_L_act (fun h => by cases h) k_L_act_116 n 116 ls st M Q o_L_act_116 h
def k_L_act_124 : List am_I := [(.aload_n 0, 1, 0, 0, 0), (.iload_n 3, 1, 0, 0, 0), (.iload_n 2, 1, 0, 0, 0), (.bipush 6, 2, 0, 0, 0), (.ishr, 1, 0, 0, 0), (.iconst 3, 1, 0, 0, 0), (.invokestatic 80, 3, 55, 2, 315), (.iconst 1, 1, 0, 0, 0), (.iload_n 2, 1, 0, 0, 0), (.bipush 8, 2, 0, 0, 0), (.ishr, 1, 0, 0, 0), (.sipush 400, 3, 0, 0, 0), (.invokestatic 80, 3, 55, 2, 315), (.iadd, 1, 0, 0, 0), (.invokestatic 88, 3, 57, 4, 444), (.ireturn, 1, 0, 0, 0)]
set_option maxRecDepth 20000 in
theorem o_L_act_124 : am_okB mt_L_act 124 k_L_act_124 = true := by decide +kernel
theorem g_L_act_124 {L : am_S} {n : Nat} {ls st : List Value} {M : am_M} {Q : am_Q} (h : am_B L mt_L_act k_L_act_124 n 124 ls st M Q) : am_R L mt_L_act n 124 ls st M Q := am_go L mt_L_act (fun h => by cases h) k_L_act_124 n 124 ls st M Q o_L_act_124 h
def k_L_act_150 : List am_I := [(.aload_n 0, 1, 0, 0, 0), (.iload_n 3, 1, 0, 0, 0), (.invokestatic 91, 3, 58, 2, 453), (.ireturn, 1, 0, 0, 0)]
set_option maxRecDepth 20000 in
theorem o_L_act_150 : am_okB mt_L_act 150 k_L_act_150 = true := by decide +kernel
theorem g_L_act_150 {L : am_S} {n : Nat} {ls st : List Value} {M : am_M} {Q : am_Q} (h : am_B L mt_L_act k_L_act_150 n 150 ls st M Q) : am_R L mt_L_act n 150 ls st M Q := am_go L mt_L_act (fun h => by cases h) k_L_act_150 n 150 ls st M Q o_L_act_150 h
def k_L_act_156 : List am_I := [(.aload_n 0, 1, 0, 0, 0), (.iload_n 3, 1, 0, 0, 0), (.iconst 1, 1, 0, 0, 0), (.iload_n 2, 1, 0, 0, 0), (.bipush 6, 2, 0, 0, 0), (.ishr, 1, 0, 0, 0), (.sipush 2000, 3, 0, 0, 0), (.invokestatic 80, 3, 55, 2, 315), (.iadd, 1, 0, 0, 0), (.invokestatic 94, 3, 59, 3, 467), (.ireturn, 1, 0, 0, 0)]
set_option maxRecDepth 20000 in
theorem o_L_act_156 : am_okB mt_L_act 156 k_L_act_156 = true := by decide +kernel
theorem g_L_act_156 {L : am_S} {n : Nat} {ls st : List Value} {M : am_M} {Q : am_Q} (h : am_B L mt_L_act k_L_act_156 n 156 ls st M Q) : am_R L mt_L_act n 156 ls st M Q := am_go L mt_L_act (fun h => by cases h) k_L_act_156 n 156 ls st M Q o_L_act_156 h
def k_L_act_174 : List am_I := [(.iload_n 2, 1, 0, 0, 0), (.bipush 11, 2, 0, 0, 0), (.ishr, 1, 0, 0, 0), (.bipush 24, 2, 0, 0, 0), (.invokestatic 80, 3, 55, 2, 315), (.istore 5, 2, 0, 0, 0), (.aload_n 0, 1, 0, 0, 0), (.iload_n 3, 1, 0, 0, 0), (.iload_n 2, 1, 0, 0, 0), (.iconst 2, 1, 0, 0, 0), (.ishr, 1, 0, 0, 0), (.bipush 7, 2, 0, 0, 0), (.iand, 1, 0, 0, 0), (.ifCond .ne 7, 3, 0, 0, 0), (.iconst 5, 1, 0, 0, 0), (.goto 5, 3, 0, 0, 0)]
set_option maxRecDepth 20000 in
theorem o_L_act_174 : am_okB mt_L_act 174 k_L_act_174 = true := by decide +kernel
theorem g_L_act_174 {L : am_S} {n : Nat} {ls st : List Value} {M : am_M} {Q : am_Q} (h : am_B L mt_L_act k_L_act_174 n 174 ls st M Q) : am_R L mt_L_act n 174 ls st M Q := am_go L mt_L_act (fun h => by cases h) k_L_act_174 n 174 ls st M Q o_L_act_174 h
def k_L_act_200 : List am_I := [(.iload 4, 2, 0, 0, 0)]
set_option maxRecDepth 20000 in
theorem o_L_act_200 : am_okB mt_L_act 200 k_L_act_200 = true := by decide +kernel
theorem g_L_act_200 {L : am_S} {n : Nat} {ls st : List Value} {M : am_M} {Q : am_Q} (h : am_B L mt_L_act k_L_act_200 n 200 ls st M Q) : am_R L mt_L_act n 200 ls st M Q := am_go L mt_L_act (fun h => by cases h) k_L_act_200 n 200 ls st M Q o_L_act_200 h
def k_L_act_202 : List am_I := [(.iconst 1, 1, 0, 0, 0), (.iload_n 2, 1, 0, 0, 0), (.bipush 6, 2, 0, 0, 0), (.ishr, 1, 0, 0, 0), (.iload_n 2, 1, 0, 0, 0), (.iconst 5, 1, 0, 0, 0), (.ishr, 1, 0, 0, 0), (.iconst 1, 1, 0, 0, 0), (.iand, 1, 0, 0, 0), (.ifCond .ne 8, 3, 0, 0, 0), (.bipush 20, 2, 0, 0, 0), (.goto 6, 3, 0, 0, 0)]
set_option maxRecDepth 20000 in
theorem o_L_act_202 : am_okB mt_L_act 202 k_L_act_202 = true := by decide +kernel
theorem g_L_act_202 {L : am_S} {n : Nat} {ls st : List Value} {M : am_M} {Q : am_Q} (h : am_B L mt_L_act k_L_act_202 n 202 ls st M Q) : am_R L mt_L_act n 202 ls st M Q := am_go L mt_L_act (fun h => by cases h) k_L_act_202 n 202 ls st M Q o_L_act_202 h
def k_L_act_220 : List am_I := [(.sipush 500, 3, 0, 0, 0)]
set_option maxRecDepth 20000 in
theorem o_L_act_220 : am_okB mt_L_act 220 k_L_act_220 = true := by decide +kernel
theorem g_L_act_220 {L : am_S} {n : Nat} {ls st : List Value} {M : am_M} {Q : am_Q} (h : am_B L mt_L_act k_L_act_220 n 220 ls st M Q) : am_R L mt_L_act n 220 ls st M Q := am_go L mt_L_act (fun h => by cases h) k_L_act_220 n 220 ls st M Q o_L_act_220 h
def k_L_act_223 : List am_I := [(.invokestatic 80, 3, 55, 2, 315), (.iadd, 1, 0, 0, 0), (.iload 5, 2, 0, 0, 0), (.iload 5, 2, 0, 0, 0), (.iload_n 2, 1, 0, 0, 0), (.bipush 16, 2, 0, 0, 0), (.ishr, 1, 0, 0, 0), (.bipush 24, 2, 0, 0, 0), (.iload 5, 2, 0, 0, 0), (.isub, 1, 0, 0, 0), (.invokestatic 80, 3, 55, 2, 315), (.iadd, 1, 0, 0, 0), (.invokestatic 96, 3, 60, 6, 474), (.ireturn, 1, 0, 0, 0)]
set_option maxRecDepth 20000 in
theorem o_L_act_223 : am_okB mt_L_act 223 k_L_act_223 = true := by decide +kernel
theorem g_L_act_223 {L : am_S} {n : Nat} {ls st : List Value} {M : am_M} {Q : am_Q} (h : am_B L mt_L_act k_L_act_223 n 223 ls st M Q) : am_R L mt_L_act n 223 ls st M Q := am_go L mt_L_act (fun h => by cases h) k_L_act_223 n 223 ls st M Q o_L_act_223 h
def k_L_act_248 : List am_I := [(.aload_n 0, 1, 0, 0, 0), (.iload_n 2, 1, 0, 0, 0), (.bipush 9, 2, 0, 0, 0), (.invokestatic 80, 3, 55, 2, 315), (.invokestatic 99, 3, 61, 2, 483), (.ireturn, 1, 0, 0, 0)]
set_option maxRecDepth 20000 in
theorem o_L_act_248 : am_okB mt_L_act 248 k_L_act_248 = true := by decide +kernel
theorem g_L_act_248 {L : am_S} {n : Nat} {ls st : List Value} {M : am_M} {Q : am_Q} (h : am_B L mt_L_act k_L_act_248 n 248 ls st M Q) : am_R L mt_L_act n 248 ls st M Q := am_go L mt_L_act (fun h => by cases h) k_L_act_248 n 248 ls st M Q o_L_act_248 h
def k_L_act_259 : List am_I := [(.aload_n 0, 1, 0, 0, 0), (.iload_n 3, 1, 0, 0, 0), (.iload 4, 2, 0, 0, 0), (.invokestatic 101, 3, 62, 3, 490), (.ireturn, 1, 0, 0, 0)]
set_option maxRecDepth 20000 in
theorem o_L_act_259 : am_okB mt_L_act 259 k_L_act_259 = true := by decide +kernel
theorem g_L_act_259 {L : am_S} {n : Nat} {ls st : List Value} {M : am_M} {Q : am_Q} (h : am_B L mt_L_act k_L_act_259 n 259 ls st M Q) : am_R L mt_L_act n 259 ls st M Q := am_go L mt_L_act (fun h => by cases h) k_L_act_259 n 259 ls st M Q o_L_act_259 h
def k_L_act_267 : List am_I := [(.aload_n 0, 1, 0, 0, 0), (.iload_n 2, 1, 0, 0, 0), (.sipush 202, 3, 0, 0, 0), (.invokestatic 80, 3, 55, 2, 315), (.invokestatic 103, 3, 63, 2, 498), (.ireturn, 1, 0, 0, 0)]
set_option maxRecDepth 20000 in
theorem o_L_act_267 : am_okB mt_L_act 267 k_L_act_267 = true := by decide +kernel
theorem g_L_act_267 {L : am_S} {n : Nat} {ls st : List Value} {M : am_M} {Q : am_Q} (h : am_B L mt_L_act k_L_act_267 n 267 ls st M Q) : am_R L mt_L_act n 267 ls st M Q := am_go L mt_L_act (fun h => by cases h) k_L_act_267 n 267 ls st M Q o_L_act_267 h
def k_L_act_279 : List am_I := [(.aload_n 0, 1, 0, 0, 0), (.iconst 1, 1, 0, 0, 0), (.iload_n 2, 1, 0, 0, 0), (.bipush 40, 2, 0, 0, 0), (.invokestatic 80, 3, 55, 2, 315), (.iadd, 1, 0, 0, 0), (.invokestatic 105, 3, 64, 2, 505), (.ireturn, 1, 0, 0, 0)]
set_option maxRecDepth 20000 in
theorem o_L_act_279 : am_okB mt_L_act 279 k_L_act_279 = true := by decide +kernel
theorem g_L_act_279 {L : am_S} {n : Nat} {ls st : List Value} {M : am_M} {Q : am_Q} (h : am_B L mt_L_act k_L_act_279 n 279 ls st M Q) : am_R L mt_L_act n 279 ls st M Q := am_go L mt_L_act (fun h => by cases h) k_L_act_279 n 279 ls st M Q o_L_act_279 h
def k_L_addsUp_0 : List am_I := [(.iconst 0, 1, 0, 0, 0), (.istore_n 1, 1, 0, 0, 0), (.iconst 0, 1, 0, 0, 0), (.istore_n 2, 1, 0, 0, 0)]
set_option maxRecDepth 20000 in
theorem o_L_addsUp_0 : am_okB mt_L_addsUp 0 k_L_addsUp_0 = true := by decide +kernel
theorem g_L_addsUp_0 {L : am_S} {n : Nat} {ls st : List Value} {M : am_M} {Q : am_Q} (h : am_B L mt_L_addsUp k_L_addsUp_0 n 0 ls st M Q) : am_R L mt_L_addsUp n 0 ls st M Q := am_go L mt_L_addsUp (fun h => by cases h) k_L_addsUp_0 n 0 ls st M Q o_L_addsUp_0 h
def k_L_addsUp_4 : List am_I := [(.iload_n 2, 1, 0, 0, 0), (.iconst 5, 1, 0, 0, 0), (.if_icmp .ge 85, 3, 0, 0, 0), (.iload_n 1, 1, 0, 0, 0), (.aload_n 0, 1, 0, 0, 0), (.iload_n 2, 1, 0, 0, 0), (.iconst 1, 1, 0, 0, 0), (.invokevirtual 67, 3, 37, 3, 386), (.iadd, 1, 0, 0, 0), (.istore_n 1, 1, 0, 0, 0), (.aload_n 0, 1, 0, 0, 0), (.iload_n 2, 1, 0, 0, 0), (.iconst 1, 1, 0, 0, 0), (.invokevirtual 67, 3, 37, 3, 386), (.aload_n 0, 1, 0, 0, 0), (.iload_n 2, 1, 0, 0, 0), (.iconst 0, 1, 0, 0, 0), (.invokevirtual 67, 3, 37, 3, 386), (.if_icmp .gt 53, 3, 0, 0, 0), (.aload_n 0, 1, 0, 0, 0), (.iload_n 2, 1, 0, 0, 0), (.iconst 1, 1, 0, 0, 0), (.invokevirtual 67, 3, 37, 3, 386), (.ifCond .lt 44, 3, 0, 0, 0), (.aload_n 0, 1, 0, 0, 0), (.iload_n 2, 1, 0, 0, 0), (.bipush 9, 2, 0, 0, 0), (.invokevirtual 67, 3, 37, 3, 386), (.aload_n 0, 1, 0, 0, 0), (.iload_n 2, 1, 0, 0, 0), (.iconst 1, 1, 0, 0, 0), (.invokevirtual 67, 3, 37, 3, 386), (.aload_n 0, 1, 0, 0, 0), (.bipush 8, 2, 0, 0, 0), (.invokevirtual 62, 3, 40, 2, 363), (.imul, 1, 0, 0, 0), (.bipush 100, 2, 0, 0, 0), (.idiv, 1, 0, 0, 0), (.if_icmp .ne 18, 3, 0, 0, 0), (.aload_n 0, 1, 0, 0, 0), (.iload_n 2, 1, 0, 0, 0), (.bipush 8, 2, 0, 0, 0), (.invokevirtual 67, 3, 37, 3, 386), (.iload_n 2, 1, 0, 0, 0), (.ishr, 1, 0, 0, 0), (.iconst 1, 1, 0, 0, 0), (.iand, 1, 0, 0, 0), (.iconst 1, 1, 0, 0, 0), (.if_icmp .ne 5, 3, 0, 0, 0)]
set_option maxRecDepth 20000 in
theorem o_L_addsUp_4 : am_okB mt_L_addsUp 4 k_L_addsUp_4 = true := by decide +kernel
theorem g_L_addsUp_4 {L : am_S} {n : Nat} {ls st : List Value} {M : am_M} {Q : am_Q} (h : am_B L mt_L_addsUp k_L_addsUp_4 n 4 ls st M Q) : am_R L mt_L_addsUp n 4 ls st M Q := am_go L mt_L_addsUp (fun h => by cases h) k_L_addsUp_4 n 4 ls st M Q o_L_addsUp_4 h
def k_L_addsUp_83 : List am_I := [(.iconst 0, 1, 0, 0, 0), (.ireturn, 1, 0, 0, 0)]
set_option maxRecDepth 20000 in
theorem o_L_addsUp_83 : am_okB mt_L_addsUp 83 k_L_addsUp_83 = true := by decide +kernel
theorem g_L_addsUp_83 {L : am_S} {n : Nat} {ls st : List Value} {M : am_M} {Q : am_Q} (h : am_B L mt_L_addsUp k_L_addsUp_83 n 83 ls st M Q) : am_R L mt_L_addsUp n 83 ls st M Q := am_go L mt_L_addsUp (fun h => by cases h) k_L_addsUp_83 n 83 ls st M Q o_L_addsUp_83 h
def k_L_addsUp_85 : List am_I := [(.iinc 2 1, 3, 0, 0, 0), (.goto (-84), 3, 0, 0, 0)]
set_option maxRecDepth 20000 in
theorem o_L_addsUp_85 : am_okB mt_L_addsUp 85 k_L_addsUp_85 = true := by decide +kernel
theorem g_L_addsUp_85 {L : am_S} {n : Nat} {ls st : List Value} {M : am_M} {Q : am_Q} (h : am_B L mt_L_addsUp k_L_addsUp_85 n 85 ls st M Q) : am_R L mt_L_addsUp n 85 ls st M Q := am_go L mt_L_addsUp (fun h => by cases h) k_L_addsUp_85 n 85 ls st M Q o_L_addsUp_85 h
def k_L_addsUp_91 : List am_I := [(.iconst 0, 1, 0, 0, 0), (.istore_n 2, 1, 0, 0, 0)]
set_option maxRecDepth 20000 in
theorem o_L_addsUp_91 : am_okB mt_L_addsUp 91 k_L_addsUp_91 = true := by decide +kernel
theorem g_L_addsUp_91 {L : am_S} {n : Nat} {ls st : List Value} {M : am_M} {Q : am_Q} (h : am_B L mt_L_addsUp k_L_addsUp_91 n 91 ls st M Q) : am_R L mt_L_addsUp n 91 ls st M Q := am_go L mt_L_addsUp (fun h => by cases h) k_L_addsUp_91 n 91 ls st M Q o_L_addsUp_91 h
def k_L_addsUp_93 : List am_I := [(.iload_n 2, 1, 0, 0, 0), (.iconst 3, 1, 0, 0, 0), (.if_icmp .ge 235, 3, 0, 0, 0), (.iconst 0, 1, 0, 0, 0), (.istore_n 3, 1, 0, 0, 0), (.iconst 0, 1, 0, 0, 0), (.istore 4, 2, 0, 0, 0), (.iconst 0, 1, 0, 0, 0), (.istore 5, 2, 0, 0, 0)]
set_option maxRecDepth 20000 in
theorem o_L_addsUp_93 : am_okB mt_L_addsUp 93 k_L_addsUp_93 = true := by decide +kernel
theorem g_L_addsUp_93 {L : am_S} {n : Nat} {ls st : List Value} {M : am_M} {Q : am_Q} (h : am_B L mt_L_addsUp k_L_addsUp_93 n 93 ls st M Q) : am_R L mt_L_addsUp n 93 ls st M Q := am_go L mt_L_addsUp (fun h => by cases h) k_L_addsUp_93 n 93 ls st M Q o_L_addsUp_93 h
def k_L_addsUp_106 : List am_I := [(.iload 5, 2, 0, 0, 0), (.iconst 5, 1, 0, 0, 0), (.if_icmp .ge 35, 3, 0, 0, 0), (.iload_n 3, 1, 0, 0, 0), (.aload_n 0, 1, 0, 0, 0), (.iload 5, 2, 0, 0, 0), (.iconst 2, 1, 0, 0, 0), (.iload_n 2, 1, 0, 0, 0), (.iadd, 1, 0, 0, 0), (.invokevirtual 67, 3, 37, 3, 386), (.iadd, 1, 0, 0, 0), (.istore_n 3, 1, 0, 0, 0), (.iload 4, 2, 0, 0, 0), (.aload_n 0, 1, 0, 0, 0), (.iload 5, 2, 0, 0, 0), (.iconst 5, 1, 0, 0, 0), (.iload_n 2, 1, 0, 0, 0), (.iadd, 1, 0, 0, 0), (.invokevirtual 67, 3, 37, 3, 386), (.iadd, 1, 0, 0, 0), (.istore 4, 2, 0, 0, 0), (.iinc 5 1, 3, 0, 0, 0), (.goto (-35), 3, 0, 0, 0)]
set_option maxRecDepth 20000 in
theorem o_L_addsUp_106 : am_okB mt_L_addsUp 106 k_L_addsUp_106 = true := by decide +kernel
theorem g_L_addsUp_106 {L : am_S} {n : Nat} {ls st : List Value} {M : am_M} {Q : am_Q} (h : am_B L mt_L_addsUp k_L_addsUp_106 n 106 ls st M Q) : am_R L mt_L_addsUp n 106 ls st M Q := am_go L mt_L_addsUp (fun h => by cases h) k_L_addsUp_106 n 106 ls st M Q o_L_addsUp_106 h
def k_L_addsUp_144 : List am_I := [(.aload_n 0, 1, 0, 0, 0), (.iload_n 2, 1, 0, 0, 0), (.iconst 0, 1, 0, 0, 0), (.invokevirtual 77, 3, 39, 3, 409), (.iload_n 3, 1, 0, 0, 0), (.iload 4, 2, 0, 0, 0), (.iadd, 1, 0, 0, 0), (.aload_n 0, 1, 0, 0, 0), (.iload_n 2, 1, 0, 0, 0), (.iconst 3, 1, 0, 0, 0), (.invokevirtual 77, 3, 39, 3, 409), (.iadd, 1, 0, 0, 0), (.if_icmp .ne 33, 3, 0, 0, 0), (.aload_n 0, 1, 0, 0, 0), (.iload_n 2, 1, 0, 0, 0), (.iconst 1, 1, 0, 0, 0), (.invokevirtual 77, 3, 39, 3, 409), (.iload_n 3, 1, 0, 0, 0), (.if_icmp .ne 23, 3, 0, 0, 0), (.aload_n 0, 1, 0, 0, 0), (.iload_n 2, 1, 0, 0, 0), (.iconst 2, 1, 0, 0, 0), (.invokevirtual 77, 3, 39, 3, 409), (.iload 4, 2, 0, 0, 0), (.if_icmp .ne 12, 3, 0, 0, 0), (.aload_n 0, 1, 0, 0, 0), (.iload_n 2, 1, 0, 0, 0), (.iconst 3, 1, 0, 0, 0), (.invokevirtual 77, 3, 39, 3, 409), (.ifCond .ge 5, 3, 0, 0, 0)]
set_option maxRecDepth 20000 in
theorem o_L_addsUp_144 : am_okB mt_L_addsUp 144 k_L_addsUp_144 = true := by decide +kernel
theorem g_L_addsUp_144 {L : am_S} {n : Nat} {ls st : List Value} {M : am_M} {Q : am_Q} (h : am_B L mt_L_addsUp k_L_addsUp_144 n 144 ls st M Q) : am_R L mt_L_addsUp n 144 ls st M Q := am_go L mt_L_addsUp (fun h => by cases h) k_L_addsUp_144 n 144 ls st M Q o_L_addsUp_144 h
def k_L_addsUp_194 : List am_I := [(.iconst 0, 1, 0, 0, 0), (.ireturn, 1, 0, 0, 0)]
set_option maxRecDepth 20000 in
theorem o_L_addsUp_194 : am_okB mt_L_addsUp 194 k_L_addsUp_194 = true := by decide +kernel
theorem g_L_addsUp_194 {L : am_S} {n : Nat} {ls st : List Value} {M : am_M} {Q : am_Q} (h : am_B L mt_L_addsUp k_L_addsUp_194 n 194 ls st M Q) : am_R L mt_L_addsUp n 194 ls st M Q := am_go L mt_L_addsUp (fun h => by cases h) k_L_addsUp_194 n 194 ls st M Q o_L_addsUp_194 h
def k_L_addsUp_196 : List am_I := [(.aload_n 0, 1, 0, 0, 0), (.iload_n 2, 1, 0, 0, 0), (.iconst 4, 1, 0, 0, 0), (.invokevirtual 77, 3, 39, 3, 409), (.istore 5, 2, 0, 0, 0), (.iconst 0, 1, 0, 0, 0), (.istore 6, 2, 0, 0, 0)]
set_option maxRecDepth 20000 in
theorem o_L_addsUp_196 : am_okB mt_L_addsUp 196 k_L_addsUp_196 = true := by decide +kernel
theorem g_L_addsUp_196 {L : am_S} {n : Nat} {ls st : List Value} {M : am_M} {Q : am_Q} (h : am_B L mt_L_addsUp k_L_addsUp_196 n 196 ls st M Q) : am_R L mt_L_addsUp n 196 ls st M Q := am_go L mt_L_addsUp (fun h => by cases h) k_L_addsUp_196 n 196 ls st M Q o_L_addsUp_196 h
def k_L_addsUp_207 : List am_I := [(.iload 6, 2, 0, 0, 0), (.iconst 5, 1, 0, 0, 0), (.if_icmp .ge 97, 3, 0, 0, 0), (.iload 5, 2, 0, 0, 0), (.ifCond .ge 7, 3, 0, 0, 0), (.lconst 0, 1, 0, 0, 0), (.goto 42, 3, 0, 0, 0)]
set_option maxRecDepth 20000 in
theorem o_L_addsUp_207 : am_okB mt_L_addsUp 207 k_L_addsUp_207 = true := by decide +kernel
theorem g_L_addsUp_207 {L : am_S} {n : Nat} {ls st : List Value} {M : am_M} {Q : am_Q} (h : am_B L mt_L_addsUp k_L_addsUp_207 n 207 ls st M Q) : am_R L mt_L_addsUp n 207 ls st M Q := am_go L mt_L_addsUp (fun h => by cases h) k_L_addsUp_207 n 207 ls st M Q o_L_addsUp_207 h
def k_L_addsUp_222 : List am_I := [(.aload_n 0, 1, 0, 0, 0), (.iload 6, 2, 0, 0, 0), (.iconst 2, 1, 0, 0, 0), (.iload_n 2, 1, 0, 0, 0), (.iadd, 1, 0, 0, 0), (.invokevirtual 67, 3, 37, 3, 386), (.i2l, 1, 0, 0, 0), (.aload_n 0, 1, 0, 0, 0), (.iload 5, 2, 0, 0, 0), (.iconst 1, 1, 0, 0, 0), (.invokevirtual 67, 3, 37, 3, 386), (.i2l, 1, 0, 0, 0), (.lmul, 1, 0, 0, 0), (.aload_n 0, 1, 0, 0, 0), (.iload 5, 2, 0, 0, 0), (.iconst 2, 1, 0, 0, 0), (.iload_n 2, 1, 0, 0, 0), (.iadd, 1, 0, 0, 0), (.invokevirtual 67, 3, 37, 3, 386), (.i2l, 1, 0, 0, 0), (.aload_n 0, 1, 0, 0, 0), (.iload 6, 2, 0, 0, 0), (.iconst 1, 1, 0, 0, 0), (.invokevirtual 67, 3, 37, 3, 386), (.i2l, 1, 0, 0, 0), (.lmul, 1, 0, 0, 0), (.lsub, 1, 0, 0, 0)]
set_option maxRecDepth 20000 in
theorem o_L_addsUp_222 : am_okB mt_L_addsUp 222 k_L_addsUp_222 = true := by decide +kernel
theorem g_L_addsUp_222 {L : am_S} {n : Nat} {ls st : List Value} {M : am_M} {Q : am_Q} (h : am_B L mt_L_addsUp k_L_addsUp_222 n 222 ls st M Q) : am_R L mt_L_addsUp n 222 ls st M Q := am_go L mt_L_addsUp (fun h => by cases h) k_L_addsUp_222 n 222 ls st M Q o_L_addsUp_222 h
def k_L_addsUp_261 : List am_I := [(.lstore 7, 2, 0, 0, 0), (.aload_n 0, 1, 0, 0, 0), (.iload 6, 2, 0, 0, 0), (.iconst 1, 1, 0, 0, 0), (.invokevirtual 67, 3, 37, 3, 386), (.ifCond .le 31, 3, 0, 0, 0), (.iload 5, 2, 0, 0, 0), (.ifCond .lt 24, 3, 0, 0, 0), (.lload 7, 2, 0, 0, 0), (.lconst 0, 1, 0, 0, 0), (.lcmp, 1, 0, 0, 0), (.ifCond .gt 17, 3, 0, 0, 0), (.lload 7, 2, 0, 0, 0), (.lconst 0, 1, 0, 0, 0), (.lcmp, 1, 0, 0, 0), (.ifCond .ne 12, 3, 0, 0, 0), (.iload 6, 2, 0, 0, 0), (.iload 5, 2, 0, 0, 0), (.if_icmp .ge 5, 3, 0, 0, 0)]
set_option maxRecDepth 20000 in
theorem o_L_addsUp_261 : am_okB mt_L_addsUp 261 k_L_addsUp_261 = true := by decide +kernel
theorem g_L_addsUp_261 {L : am_S} {n : Nat} {ls st : List Value} {M : am_M} {Q : am_Q} (h : am_B L mt_L_addsUp k_L_addsUp_261 n 261 ls st M Q) : am_R L mt_L_addsUp n 261 ls st M Q := am_go L mt_L_addsUp (fun h => by cases h) k_L_addsUp_261 n 261 ls st M Q o_L_addsUp_261 h
def k_L_addsUp_299 : List am_I := [(.iconst 0, 1, 0, 0, 0), (.ireturn, 1, 0, 0, 0)]
set_option maxRecDepth 20000 in
theorem o_L_addsUp_299 : am_okB mt_L_addsUp 299 k_L_addsUp_299 = true := by decide +kernel
theorem g_L_addsUp_299 {L : am_S} {n : Nat} {ls st : List Value} {M : am_M} {Q : am_Q} (h : am_B L mt_L_addsUp k_L_addsUp_299 n 299 ls st M Q) : am_R L mt_L_addsUp n 299 ls st M Q := am_go L mt_L_addsUp (fun h => by cases h) k_L_addsUp_299 n 299 ls st M Q o_L_addsUp_299 h
def k_L_addsUp_301 : List am_I := [(.iinc 6 1, 3, 0, 0, 0), (.goto (-97), 3, 0, 0, 0)]
set_option maxRecDepth 20000 in
theorem o_L_addsUp_301 : am_okB mt_L_addsUp 301 k_L_addsUp_301 = true := by decide +kernel
theorem g_L_addsUp_301 {L : am_S} {n : Nat} {ls st : List Value} {M : am_M} {Q : am_Q} (h : am_B L mt_L_addsUp k_L_addsUp_301 n 301 ls st M Q) : am_R L mt_L_addsUp n 301 ls st M Q := am_go L mt_L_addsUp (fun h => by cases h) k_L_addsUp_301 n 301 ls st M Q o_L_addsUp_301 h
def k_L_addsUp_307 : List am_I := [(.iload 5, 2, 0, 0, 0), (.ifCond .lt 15, 3, 0, 0, 0), (.aload_n 0, 1, 0, 0, 0), (.iload 5, 2, 0, 0, 0), (.iconst 1, 1, 0, 0, 0), (.invokevirtual 67, 3, 37, 3, 386), (.ifCond .ne 5, 3, 0, 0, 0), (.iconst 0, 1, 0, 0, 0), (.ireturn, 1, 0, 0, 0)]
set_option maxRecDepth 20000 in
theorem o_L_addsUp_307 : am_okB mt_L_addsUp 307 k_L_addsUp_307 = true := by decide +kernel
theorem g_L_addsUp_307 {L : am_S} {n : Nat} {ls st : List Value} {M : am_M} {Q : am_Q} (h : am_B L mt_L_addsUp k_L_addsUp_307 n 307 ls st M Q) : am_R L mt_L_addsUp n 307 ls st M Q := am_go L mt_L_addsUp (fun h => by cases h) k_L_addsUp_307 n 307 ls st M Q o_L_addsUp_307 h
def k_L_addsUp_324 : List am_I := [(.iinc 2 1, 3, 0, 0, 0), (.goto (-234), 3, 0, 0, 0)]
set_option maxRecDepth 20000 in
theorem o_L_addsUp_324 : am_okB mt_L_addsUp 324 k_L_addsUp_324 = true := by decide +kernel
theorem g_L_addsUp_324 {L : am_S} {n : Nat} {ls st : List Value} {M : am_M} {Q : am_Q} (h : am_B L mt_L_addsUp k_L_addsUp_324 n 324 ls st M Q) : am_R L mt_L_addsUp n 324 ls st M Q := am_go L mt_L_addsUp (fun h => by cases h) k_L_addsUp_324 n 324 ls st M Q o_L_addsUp_324 h
def k_L_addsUp_330 : List am_I := [(.aload_n 0, 1, 0, 0, 0), (.iconst 0, 1, 0, 0, 0), (.iconst 3, 1, 0, 0, 0), (.invokevirtual 77, 3, 39, 3, 409), (.aload_n 0, 1, 0, 0, 0), (.iconst 1, 1, 0, 0, 0), (.iconst 3, 1, 0, 0, 0), (.invokevirtual 77, 3, 39, 3, 409), (.iadd, 1, 0, 0, 0), (.aload_n 0, 1, 0, 0, 0), (.iconst 2, 1, 0, 0, 0), (.iconst 3, 1, 0, 0, 0), (.invokevirtual 77, 3, 39, 3, 409), (.iadd, 1, 0, 0, 0), (.istore_n 2, 1, 0, 0, 0), (.aload_n 0, 1, 0, 0, 0), (.iconst 0, 1, 0, 0, 0), (.iconst 0, 1, 0, 0, 0), (.invokevirtual 77, 3, 39, 3, 409), (.aload_n 0, 1, 0, 0, 0), (.iconst 1, 1, 0, 0, 0), (.iconst 0, 1, 0, 0, 0), (.invokevirtual 77, 3, 39, 3, 409), (.iadd, 1, 0, 0, 0), (.aload_n 0, 1, 0, 0, 0), (.iconst 2, 1, 0, 0, 0), (.iconst 0, 1, 0, 0, 0), (.invokevirtual 77, 3, 39, 3, 409), (.iadd, 1, 0, 0, 0), (.istore_n 3, 1, 0, 0, 0), (.iload_n 1, 1, 0, 0, 0), (.aload_n 0, 1, 0, 0, 0), (.iconst 4, 1, 0, 0, 0), (.invokevirtual 62, 3, 40, 2, 363), (.if_icmp .ne 60, 3, 0, 0, 0), (.aload_n 0, 1, 0, 0, 0), (.bipush 6, 2, 0, 0, 0), (.invokevirtual 62, 3, 40, 2, 363), (.iload_n 1, 1, 0, 0, 0), (.aload_n 0, 1, 0, 0, 0), (.iconst 5, 1, 0, 0, 0), (.invokevirtual 62, 3, 40, 2, 363), (.iadd, 1, 0, 0, 0), (.if_icmp .ne 44, 3, 0, 0, 0), (.aload_n 0, 1, 0, 0, 0), (.iconst 0, 1, 0, 0, 0), (.invokevirtual 62, 3, 40, 2, 363), (.aload_n 0, 1, 0, 0, 0), (.iconst 1, 1, 0, 0, 0), (.invokevirtual 62, 3, 40, 2, 363), (.bipush 24, 2, 0, 0, 0), (.irem, 1, 0, 0, 0), (.if_icmp .ne 28, 3, 0, 0, 0), (.aload_n 0, 1, 0, 0, 0), (.invokevirtual 107, 3, 45, 1, 516), (.iload_n 3, 1, 0, 0, 0), (.ifCond .ne 7, 3, 0, 0, 0), (.dconst 0, 1, 0, 0, 0), (.goto 8, 3, 0, 0, 0)]
set_option maxRecDepth 20000 in
theorem o_L_addsUp_330 : am_okB mt_L_addsUp 330 k_L_addsUp_330 = true := by decide +kernel
theorem g_L_addsUp_330 {L : am_S} {n : Nat} {ls st : List Value} {M : am_M} {Q : am_Q} (h : am_B L mt_L_addsUp k_L_addsUp_330 n 330 ls st M Q) : am_R L mt_L_addsUp n 330 ls st M Q := am_go L mt_L_addsUp (fun h => by cases h) k_L_addsUp_330 n 330 ls st M Q o_L_addsUp_330 h
def k_L_addsUp_425 : List am_I := [(.iload_n 2, 1, 0, 0, 0), (.i2d, 1, 0, 0, 0), (.iload_n 3, 1, 0, 0, 0), (.i2d, 1, 0, 0, 0), (.ddiv, 1, 0, 0, 0)]
set_option maxRecDepth 20000 in
theorem o_L_addsUp_425 : am_okB mt_L_addsUp 425 k_L_addsUp_425 = true := by decide +kernel
theorem g_L_addsUp_425 {L : am_S} {n : Nat} {ls st : List Value} {M : am_M} {Q : am_Q} (h : am_B L mt_L_addsUp k_L_addsUp_425 n 425 ls st M Q) : am_R L mt_L_addsUp n 425 ls st M Q := am_go L mt_L_addsUp (fun h => by cases h) k_L_addsUp_425 n 425 ls st M Q o_L_addsUp_425 h
def k_L_addsUp_430 : List am_I := [(.dcmp .l, 1, 0, 0, 0), (.ifCond .ne 7, 3, 0, 0, 0), (.iconst 1, 1, 0, 0, 0), (.goto 4, 3, 0, 0, 0)]
set_option maxRecDepth 20000 in
theorem o_L_addsUp_430 : am_okB mt_L_addsUp 430 k_L_addsUp_430 = true := by decide +kernel
theorem g_L_addsUp_430 {L : am_S} {n : Nat} {ls st : List Value} {M : am_M} {Q : am_Q} (h : am_B L mt_L_addsUp k_L_addsUp_430 n 430 ls st M Q) : am_R L mt_L_addsUp n 430 ls st M Q := am_go L mt_L_addsUp (fun h => by cases h) k_L_addsUp_430 n 430 ls st M Q o_L_addsUp_430 h
def k_L_addsUp_438 : List am_I := [(.iconst 0, 1, 0, 0, 0)]
set_option maxRecDepth 20000 in
theorem o_L_addsUp_438 : am_okB mt_L_addsUp 438 k_L_addsUp_438 = true := by decide +kernel
theorem g_L_addsUp_438 {L : am_S} {n : Nat} {ls st : List Value} {M : am_M} {Q : am_Q} (h : am_B L mt_L_addsUp k_L_addsUp_438 n 438 ls st M Q) : am_R L mt_L_addsUp n 438 ls st M Q := am_go L mt_L_addsUp (fun h => by cases h) k_L_addsUp_438 n 438 ls st M Q o_L_addsUp_438 h
def k_L_addsUp_439 : List am_I := [(.ireturn, 1, 0, 0, 0)]
set_option maxRecDepth 20000 in
theorem o_L_addsUp_439 : am_okB mt_L_addsUp 439 k_L_addsUp_439 = true := by decide +kernel
theorem g_L_addsUp_439 {L : am_S} {n : Nat} {ls st : List Value} {M : am_M} {Q : am_Q} (h : am_B L mt_L_addsUp k_L_addsUp_439 n 439 ls st M Q) : am_R L mt_L_addsUp n 439 ls st M Q := am_go L mt_L_addsUp (fun h => by cases h) k_L_addsUp_439 n 439 ls st M Q o_L_addsUp_439 h
def k_L_isAhead_0 : List am_I := [(.aload_n 0, 1, 0, 0, 0), (.invokestatic 111, 3, 68, 1, 358), (.lstore_n 3, 1, 0, 0, 0), (.aload_n 0, 1, 0, 0, 0), (.iload_n 2, 1, 0, 0, 0), (.invokevirtual 115, 3, 42, 2, 133), (.istore 5, 2, 0, 0, 0), (.bipush 8, 2, 0, 0, 0)]
set_option maxRecDepth 20000 in
theorem o_L_isAhead_0 : am_okB mt_L_isAhead 0 k_L_isAhead_0 = true := by decide +kernel
theorem g_L_isAhead_0 {L : am_S} (hL : L.1 < 2 ^ 31) {n : Nat} {ls st : List Value} {M : am_M} {Q : am_Q} (h : am_B L mt_L_isAhead k_L_isAhead_0 n 0 ls st M Q) : am_R L mt_L_isAhead n 0 ls st M Q := am_go L mt_L_isAhead (fun _ => hL) k_L_isAhead_0 n 0 ls st M Q o_L_isAhead_0 h
def k_L_isAhead_16 : List am_I := [(.astore 6, 2, 0, 0, 0), (.iconst 1, 1, 0, 0, 0), (.istore 7, 2, 0, 0, 0)]
set_option maxRecDepth 20000 in
theorem o_L_isAhead_16 : am_okB mt_L_isAhead 16 k_L_isAhead_16 = true := by decide +kernel
theorem g_L_isAhead_16 {L : am_S} (hL : L.1 < 2 ^ 31) {n : Nat} {ls st : List Value} {M : am_M} {Q : am_Q} (h : am_B L mt_L_isAhead k_L_isAhead_16 n 16 ls st M Q) : am_R L mt_L_isAhead n 16 ls st M Q := am_go L mt_L_isAhead (fun _ => hL) k_L_isAhead_16 n 16 ls st M Q o_L_isAhead_16 h
def k_L_isAhead_21 : List am_I := [(.iload 7, 2, 0, 0, 0), (.bipush 8, 2, 0, 0, 0), (.if_icmp .ge 22, 3, 0, 0, 0), (.aload 6, 2, 0, 0, 0), (.iload 7, 2, 0, 0, 0), (.aload_n 0, 1, 0, 0, 0), (.iload_n 1, 1, 0, 0, 0), (.iload_n 2, 1, 0, 0, 0), (.iload 7, 2, 0, 0, 0), (.invokevirtual 118, 3, 41, 4, 523), (.iastore, 1, 0, 0, 0), (.iinc 7 1, 3, 0, 0, 0), (.goto (-23), 3, 0, 0, 0)]
set_option maxRecDepth 20000 in
theorem o_L_isAhead_21 : am_okB mt_L_isAhead 21 k_L_isAhead_21 = true := by decide +kernel
theorem g_L_isAhead_21 {L : am_S} (hL : L.1 < 2 ^ 31) {n : Nat} {ls st : List Value} {M : am_M} {Q : am_Q} (h : am_B L mt_L_isAhead k_L_isAhead_21 n 21 ls st M Q) : am_R L mt_L_isAhead n 21 ls st M Q := am_go L mt_L_isAhead (fun _ => hL) k_L_isAhead_21 n 21 ls st M Q o_L_isAhead_21 h
def k_L_isAhead_47 : List am_I := [(.aload_n 0, 1, 0, 0, 0), (.invokestatic 111, 3, 68, 1, 358), (.lload_n 3, 1, 0, 0, 0), (.lcmp, 1, 0, 0, 0), (.ifCond .ne 16, 3, 0, 0, 0), (.aload_n 0, 1, 0, 0, 0), (.iconst 0, 1, 0, 0, 0), (.invokestatic 121, 3, 67, 2, 527), (.aload_n 0, 1, 0, 0, 0), (.iconst 0, 1, 0, 0, 0), (.invokevirtual 62, 3, 40, 2, 363), (.if_icmp .eq 5, 3, 0, 0, 0)]
set_option maxRecDepth 20000 in
theorem o_L_isAhead_47 : am_okB mt_L_isAhead 47 k_L_isAhead_47 = true := by decide +kernel
theorem g_L_isAhead_47 {L : am_S} (hL : L.1 < 2 ^ 31) {n : Nat} {ls st : List Value} {M : am_M} {Q : am_Q} (h : am_B L mt_L_isAhead k_L_isAhead_47 n 47 ls st M Q) : am_R L mt_L_isAhead n 47 ls st M Q := am_go L mt_L_isAhead (fun _ => hL) k_L_isAhead_47 n 47 ls st M Q o_L_isAhead_47 h
def k_L_isAhead_69 : List am_I := [(.iconst 0, 1, 0, 0, 0), (.ireturn, 1, 0, 0, 0)]
set_option maxRecDepth 20000 in
theorem o_L_isAhead_69 : am_okB mt_L_isAhead 69 k_L_isAhead_69 = true := by decide +kernel
theorem g_L_isAhead_69 {L : am_S} (hL : L.1 < 2 ^ 31) {n : Nat} {ls st : List Value} {M : am_M} {Q : am_Q} (h : am_B L mt_L_isAhead k_L_isAhead_69 n 69 ls st M Q) : am_R L mt_L_isAhead n 69 ls st M Q := am_go L mt_L_isAhead (fun _ => hL) k_L_isAhead_69 n 69 ls st M Q o_L_isAhead_69 h
def k_L_isAhead_71 : List am_I := [(.aload_n 0, 1, 0, 0, 0), (.iconst 5, 1, 0, 0, 0), (.invokevirtual 62, 3, 40, 2, 363), (.istore 7, 2, 0, 0, 0), (.aload_n 0, 1, 0, 0, 0), (.iload_n 1, 1, 0, 0, 0), (.invokestatic 105, 3, 64, 2, 505), (.aload_n 0, 1, 0, 0, 0), (.iconst 5, 1, 0, 0, 0), (.invokevirtual 62, 3, 40, 2, 363), (.iload 7, 2, 0, 0, 0), (.isub, 1, 0, 0, 0), (.if_icmp .eq 5, 3, 0, 0, 0), (.iconst 0, 1, 0, 0, 0), (.ireturn, 1, 0, 0, 0)]
set_option maxRecDepth 20000 in
theorem o_L_isAhead_71 : am_okB mt_L_isAhead 71 k_L_isAhead_71 = true := by decide +kernel
theorem g_L_isAhead_71 {L : am_S} (hL : L.1 < 2 ^ 31) {n : Nat} {ls st : List Value} {M : am_M} {Q : am_Q} (h : am_B L mt_L_isAhead k_L_isAhead_71 n 71 ls st M Q) : am_R L mt_L_isAhead n 71 ls st M Q := am_go L mt_L_isAhead (fun _ => hL) k_L_isAhead_71 n 71 ls st M Q o_L_isAhead_71 h
def k_L_isAhead_96 : List am_I := [(.iconst 1, 1, 0, 0, 0), (.istore 8, 2, 0, 0, 0)]
set_option maxRecDepth 20000 in
theorem o_L_isAhead_96 : am_okB mt_L_isAhead 96 k_L_isAhead_96 = true := by decide +kernel
theorem g_L_isAhead_96 {L : am_S} (hL : L.1 < 2 ^ 31) {n : Nat} {ls st : List Value} {M : am_M} {Q : am_Q} (h : am_B L mt_L_isAhead k_L_isAhead_96 n 96 ls st M Q) : am_R L mt_L_isAhead n 96 ls st M Q := am_go L mt_L_isAhead (fun _ => hL) k_L_isAhead_96 n 96 ls st M Q o_L_isAhead_96 h
def k_L_isAhead_99 : List am_I := [(.iload 8, 2, 0, 0, 0), (.bipush 8, 2, 0, 0, 0), (.if_icmp .ge 26, 3, 0, 0, 0), (.aload_n 0, 1, 0, 0, 0), (.iload_n 2, 1, 0, 0, 0), (.iload 8, 2, 0, 0, 0), (.invokevirtual 67, 3, 37, 3, 386), (.aload 6, 2, 0, 0, 0), (.iload 8, 2, 0, 0, 0), (.iaload, 1, 0, 0, 0), (.if_icmp .eq 5, 3, 0, 0, 0), (.iconst 0, 1, 0, 0, 0), (.ireturn, 1, 0, 0, 0)]
set_option maxRecDepth 20000 in
theorem o_L_isAhead_99 : am_okB mt_L_isAhead 99 k_L_isAhead_99 = true := by decide +kernel
theorem g_L_isAhead_99 {L : am_S} (hL : L.1 < 2 ^ 31) {n : Nat} {ls st : List Value} {M : am_M} {Q : am_Q} (h : am_B L mt_L_isAhead k_L_isAhead_99 n 99 ls st M Q) : am_R L mt_L_isAhead n 99 ls st M Q := am_go L mt_L_isAhead (fun _ => hL) k_L_isAhead_99 n 99 ls st M Q o_L_isAhead_99 h
def k_L_isAhead_123 : List am_I := [(.iinc 8 1, 3, 0, 0, 0), (.goto (-27), 3, 0, 0, 0)]
set_option maxRecDepth 20000 in
theorem o_L_isAhead_123 : am_okB mt_L_isAhead 123 k_L_isAhead_123 = true := by decide +kernel
theorem g_L_isAhead_123 {L : am_S} (hL : L.1 < 2 ^ 31) {n : Nat} {ls st : List Value} {M : am_M} {Q : am_Q} (h : am_B L mt_L_isAhead k_L_isAhead_123 n 123 ls st M Q) : am_R L mt_L_isAhead n 123 ls st M Q := am_go L mt_L_isAhead (fun _ => hL) k_L_isAhead_123 n 123 ls st M Q o_L_isAhead_123 h
def k_L_isAhead_129 : List am_I := [(.iconst 0, 1, 0, 0, 0), (.istore 8, 2, 0, 0, 0)]
set_option maxRecDepth 20000 in
theorem o_L_isAhead_129 : am_okB mt_L_isAhead 129 k_L_isAhead_129 = true := by decide +kernel
theorem g_L_isAhead_129 {L : am_S} (hL : L.1 < 2 ^ 31) {n : Nat} {ls st : List Value} {M : am_M} {Q : am_Q} (h : am_B L mt_L_isAhead k_L_isAhead_129 n 129 ls st M Q) : am_R L mt_L_isAhead n 129 ls st M Q := am_go L mt_L_isAhead (fun _ => hL) k_L_isAhead_129 n 129 ls st M Q o_L_isAhead_129 h
def k_L_isAhead_132 : List am_I := [(.iload 8, 2, 0, 0, 0), (.iconst 5, 1, 0, 0, 0), (.if_icmp .ge 45, 3, 0, 0, 0), (.iconst 2, 1, 0, 0, 0), (.istore 9, 2, 0, 0, 0)]
set_option maxRecDepth 20000 in
theorem o_L_isAhead_132 : am_okB mt_L_isAhead 132 k_L_isAhead_132 = true := by decide +kernel
theorem g_L_isAhead_132 {L : am_S} (hL : L.1 < 2 ^ 31) {n : Nat} {ls st : List Value} {M : am_M} {Q : am_Q} (h : am_B L mt_L_isAhead k_L_isAhead_132 n 132 ls st M Q) : am_R L mt_L_isAhead n 132 ls st M Q := am_go L mt_L_isAhead (fun _ => hL) k_L_isAhead_132 n 132 ls st M Q o_L_isAhead_132 h
def k_L_isAhead_141 : List am_I := [(.iload 9, 2, 0, 0, 0), (.iconst 5, 1, 0, 0, 0), (.if_icmp .ge 30, 3, 0, 0, 0), (.aload_n 0, 1, 0, 0, 0), (.iload 8, 2, 0, 0, 0), (.iload 9, 2, 0, 0, 0), (.invokevirtual 67, 3, 37, 3, 386), (.aload_n 0, 1, 0, 0, 0), (.iload 8, 2, 0, 0, 0), (.bipush 9, 2, 0, 0, 0), (.invokevirtual 67, 3, 37, 3, 386), (.if_icmp .le 5, 3, 0, 0, 0), (.iconst 0, 1, 0, 0, 0), (.ireturn, 1, 0, 0, 0)]
set_option maxRecDepth 20000 in
theorem o_L_isAhead_141 : am_okB mt_L_isAhead 141 k_L_isAhead_141 = true := by decide +kernel
theorem g_L_isAhead_141 {L : am_S} (hL : L.1 < 2 ^ 31) {n : Nat} {ls st : List Value} {M : am_M} {Q : am_Q} (h : am_B L mt_L_isAhead k_L_isAhead_141 n 141 ls st M Q) : am_R L mt_L_isAhead n 141 ls st M Q := am_go L mt_L_isAhead (fun _ => hL) k_L_isAhead_141 n 141 ls st M Q o_L_isAhead_141 h
def k_L_isAhead_168 : List am_I := [(.iinc 9 1, 3, 0, 0, 0), (.goto (-30), 3, 0, 0, 0)]
set_option maxRecDepth 20000 in
theorem o_L_isAhead_168 : am_okB mt_L_isAhead 168 k_L_isAhead_168 = true := by decide +kernel
theorem g_L_isAhead_168 {L : am_S} (hL : L.1 < 2 ^ 31) {n : Nat} {ls st : List Value} {M : am_M} {Q : am_Q} (h : am_B L mt_L_isAhead k_L_isAhead_168 n 168 ls st M Q) : am_R L mt_L_isAhead n 168 ls st M Q := am_go L mt_L_isAhead (fun _ => hL) k_L_isAhead_168 n 168 ls st M Q o_L_isAhead_168 h
def k_L_isAhead_174 : List am_I := [(.iinc 8 1, 3, 0, 0, 0), (.goto (-45), 3, 0, 0, 0)]
set_option maxRecDepth 20000 in
theorem o_L_isAhead_174 : am_okB mt_L_isAhead 174 k_L_isAhead_174 = true := by decide +kernel
theorem g_L_isAhead_174 {L : am_S} (hL : L.1 < 2 ^ 31) {n : Nat} {ls st : List Value} {M : am_M} {Q : am_Q} (h : am_B L mt_L_isAhead k_L_isAhead_174 n 174 ls st M Q) : am_R L mt_L_isAhead n 174 ls st M Q := am_go L mt_L_isAhead (fun _ => hL) k_L_isAhead_174 n 174 ls st M Q o_L_isAhead_174 h
def k_L_isAhead_180 : List am_I := [(.aload_n 0, 1, 0, 0, 0), (.iconst 0, 1, 0, 0, 0), (.invokestatic 123, 3, 65, 2, 319), (.aload_n 0, 1, 0, 0, 0), (.iconst 0, 1, 0, 0, 0), (.invokevirtual 62, 3, 40, 2, 363), (.if_icmp .ne 39, 3, 0, 0, 0), (.aload_n 0, 1, 0, 0, 0), (.invokestatic 111, 3, 68, 1, 358), (.lload_n 3, 1, 0, 0, 0), (.lcmp, 1, 0, 0, 0), (.ifCond .ne 30, 3, 0, 0, 0), (.iload 5, 2, 0, 0, 0), (.ifCond .ne 7, 3, 0, 0, 0), (.iconst 1, 1, 0, 0, 0), (.goto 4, 3, 0, 0, 0)]
set_option maxRecDepth 20000 in
theorem o_L_isAhead_180 : am_okB mt_L_isAhead 180 k_L_isAhead_180 = true := by decide +kernel
theorem g_L_isAhead_180 {L : am_S} (hL : L.1 < 2 ^ 31) {n : Nat} {ls st : List Value} {M : am_M} {Q : am_Q} (h : am_B L mt_L_isAhead k_L_isAhead_180 n 180 ls st M Q) : am_R L mt_L_isAhead n 180 ls st M Q := am_go L mt_L_isAhead (fun _ => hL) k_L_isAhead_180 n 180 ls st M Q o_L_isAhead_180 h
def k_L_isAhead_211 : List am_I := [(.iconst 0, 1, 0, 0, 0)]
set_option maxRecDepth 20000 in
theorem o_L_isAhead_211 : am_okB mt_L_isAhead 211 k_L_isAhead_211 = true := by decide +kernel
theorem g_L_isAhead_211 {L : am_S} (hL : L.1 < 2 ^ 31) {n : Nat} {ls st : List Value} {M : am_M} {Q : am_Q} (h : am_B L mt_L_isAhead k_L_isAhead_211 n 211 ls st M Q) : am_R L mt_L_isAhead n 211 ls st M Q := am_go L mt_L_isAhead (fun _ => hL) k_L_isAhead_211 n 211 ls st M Q o_L_isAhead_211 h
def k_L_isAhead_212 : List am_I := [(.aload_n 0, 1, 0, 0, 0), (.iload_n 2, 1, 0, 0, 0), (.iconst 1, 1, 0, 0, 0), (.invokevirtual 67, 3, 37, 3, 386), (.ifCond .ne 7, 3, 0, 0, 0), (.iconst 1, 1, 0, 0, 0), (.goto 4, 3, 0, 0, 0)]
set_option maxRecDepth 20000 in
theorem o_L_isAhead_212 : am_okB mt_L_isAhead 212 k_L_isAhead_212 = true := by decide +kernel
theorem g_L_isAhead_212 {L : am_S} (hL : L.1 < 2 ^ 31) {n : Nat} {ls st : List Value} {M : am_M} {Q : am_Q} (h : am_B L mt_L_isAhead k_L_isAhead_212 n 212 ls st M Q) : am_R L mt_L_isAhead n 212 ls st M Q := am_go L mt_L_isAhead (fun _ => hL) k_L_isAhead_212 n 212 ls st M Q o_L_isAhead_212 h
def k_L_isAhead_225 : List am_I := [(.iconst 0, 1, 0, 0, 0)]
set_option maxRecDepth 20000 in
theorem o_L_isAhead_225 : am_okB mt_L_isAhead 225 k_L_isAhead_225 = true := by decide +kernel
theorem g_L_isAhead_225 {L : am_S} (hL : L.1 < 2 ^ 31) {n : Nat} {ls st : List Value} {M : am_M} {Q : am_Q} (h : am_B L mt_L_isAhead k_L_isAhead_225 n 225 ls st M Q) : am_R L mt_L_isAhead n 225 ls st M Q := am_go L mt_L_isAhead (fun _ => hL) k_L_isAhead_225 n 225 ls st M Q o_L_isAhead_225 h
def k_L_isAhead_226 : List am_I := [(.if_icmp .eq 5, 3, 0, 0, 0)]
set_option maxRecDepth 20000 in
theorem o_L_isAhead_226 : am_okB mt_L_isAhead 226 k_L_isAhead_226 = true := by decide +kernel
theorem g_L_isAhead_226 {L : am_S} (hL : L.1 < 2 ^ 31) {n : Nat} {ls st : List Value} {M : am_M} {Q : am_Q} (h : am_B L mt_L_isAhead k_L_isAhead_226 n 226 ls st M Q) : am_R L mt_L_isAhead n 226 ls st M Q := am_go L mt_L_isAhead (fun _ => hL) k_L_isAhead_226 n 226 ls st M Q o_L_isAhead_226 h
def k_L_isAhead_229 : List am_I := [(.iconst 0, 1, 0, 0, 0), (.ireturn, 1, 0, 0, 0)]
set_option maxRecDepth 20000 in
theorem o_L_isAhead_229 : am_okB mt_L_isAhead 229 k_L_isAhead_229 = true := by decide +kernel
theorem g_L_isAhead_229 {L : am_S} (hL : L.1 < 2 ^ 31) {n : Nat} {ls st : List Value} {M : am_M} {Q : am_Q} (h : am_B L mt_L_isAhead k_L_isAhead_229 n 229 ls st M Q) : am_R L mt_L_isAhead n 229 ls st M Q := am_go L mt_L_isAhead (fun _ => hL) k_L_isAhead_229 n 229 ls st M Q o_L_isAhead_229 h
def k_L_isAhead_231 : List am_I := [(.iconst 1, 1, 0, 0, 0), (.istore 8, 2, 0, 0, 0)]
set_option maxRecDepth 20000 in
theorem o_L_isAhead_231 : am_okB mt_L_isAhead 231 k_L_isAhead_231 = true := by decide +kernel
theorem g_L_isAhead_231 {L : am_S} (hL : L.1 < 2 ^ 31) {n : Nat} {ls st : List Value} {M : am_M} {Q : am_Q} (h : am_B L mt_L_isAhead k_L_isAhead_231 n 231 ls st M Q) : am_R L mt_L_isAhead n 231 ls st M Q := am_go L mt_L_isAhead (fun _ => hL) k_L_isAhead_231 n 231 ls st M Q o_L_isAhead_231 h
def k_L_isAhead_234 : List am_I := [(.iload 8, 2, 0, 0, 0), (.bipush 60, 2, 0, 0, 0), (.if_icmp .ge 70, 3, 0, 0, 0), (.iload 5, 2, 0, 0, 0), (.ifCond .eq 65, 3, 0, 0, 0), (.aload_n 0, 1, 0, 0, 0), (.iconst 1, 1, 0, 0, 0), (.invokestatic 105, 3, 64, 2, 505), (.ifCond .lt 16, 3, 0, 0, 0), (.aload_n 0, 1, 0, 0, 0), (.iload_n 2, 1, 0, 0, 0), (.iconst 1, 1, 0, 0, 0), (.invokevirtual 67, 3, 37, 3, 386), (.ifCond .ne 7, 3, 0, 0, 0), (.iconst 1, 1, 0, 0, 0), (.goto 4, 3, 0, 0, 0)]
set_option maxRecDepth 20000 in
theorem o_L_isAhead_234 : am_okB mt_L_isAhead 234 k_L_isAhead_234 = true := by decide +kernel
theorem g_L_isAhead_234 {L : am_S} (hL : L.1 < 2 ^ 31) {n : Nat} {ls st : List Value} {M : am_M} {Q : am_Q} (h : am_B L mt_L_isAhead k_L_isAhead_234 n 234 ls st M Q) : am_R L mt_L_isAhead n 234 ls st M Q := am_go L mt_L_isAhead (fun _ => hL) k_L_isAhead_234 n 234 ls st M Q o_L_isAhead_234 h
def k_L_isAhead_267 : List am_I := [(.iconst 0, 1, 0, 0, 0)]
set_option maxRecDepth 20000 in
theorem o_L_isAhead_267 : am_okB mt_L_isAhead 267 k_L_isAhead_267 = true := by decide +kernel
theorem g_L_isAhead_267 {L : am_S} (hL : L.1 < 2 ^ 31) {n : Nat} {ls st : List Value} {M : am_M} {Q : am_Q} (h : am_B L mt_L_isAhead k_L_isAhead_267 n 267 ls st M Q) : am_R L mt_L_isAhead n 267 ls st M Q := am_go L mt_L_isAhead (fun _ => hL) k_L_isAhead_267 n 267 ls st M Q o_L_isAhead_267 h
def k_L_isAhead_268 : List am_I := [(.istore 9, 2, 0, 0, 0), (.iload 9, 2, 0, 0, 0), (.iload 8, 2, 0, 0, 0), (.iload 5, 2, 0, 0, 0), (.if_icmp .ne 7, 3, 0, 0, 0), (.iconst 1, 1, 0, 0, 0), (.goto 4, 3, 0, 0, 0)]
set_option maxRecDepth 20000 in
theorem o_L_isAhead_268 : am_okB mt_L_isAhead 268 k_L_isAhead_268 = true := by decide +kernel
theorem g_L_isAhead_268 {L : am_S} (hL : L.1 < 2 ^ 31) {n : Nat} {ls st : List Value} {M : am_M} {Q : am_Q} (h : am_B L mt_L_isAhead k_L_isAhead_268 n 268 ls st M Q) : am_R L mt_L_isAhead n 268 ls st M Q := am_go L mt_L_isAhead (fun _ => hL) k_L_isAhead_268 n 268 ls st M Q o_L_isAhead_268 h
def k_L_isAhead_283 : List am_I := [(.iconst 0, 1, 0, 0, 0)]
set_option maxRecDepth 20000 in
theorem o_L_isAhead_283 : am_okB mt_L_isAhead 283 k_L_isAhead_283 = true := by decide +kernel
theorem g_L_isAhead_283 {L : am_S} (hL : L.1 < 2 ^ 31) {n : Nat} {ls st : List Value} {M : am_M} {Q : am_Q} (h : am_B L mt_L_isAhead k_L_isAhead_283 n 283 ls st M Q) : am_R L mt_L_isAhead n 283 ls st M Q := am_go L mt_L_isAhead (fun _ => hL) k_L_isAhead_283 n 283 ls st M Q o_L_isAhead_283 h
def k_L_isAhead_284 : List am_I := [(.if_icmp .eq 5, 3, 0, 0, 0), (.iconst 0, 1, 0, 0, 0), (.ireturn, 1, 0, 0, 0)]
set_option maxRecDepth 20000 in
theorem o_L_isAhead_284 : am_okB mt_L_isAhead 284 k_L_isAhead_284 = true := by decide +kernel
theorem g_L_isAhead_284 {L : am_S} (hL : L.1 < 2 ^ 31) {n : Nat} {ls st : List Value} {M : am_M} {Q : am_Q} (h : am_B L mt_L_isAhead k_L_isAhead_284 n 284 ls st M Q) : am_R L mt_L_isAhead n 284 ls st M Q := am_go L mt_L_isAhead (fun _ => hL) k_L_isAhead_284 n 284 ls st M Q o_L_isAhead_284 h
def k_L_isAhead_289 : List am_I := [(.iload 9, 2, 0, 0, 0), (.ifCond .eq 7, 3, 0, 0, 0), (.iconst 0, 1, 0, 0, 0), (.goto 5, 3, 0, 0, 0)]
set_option maxRecDepth 20000 in
theorem o_L_isAhead_289 : am_okB mt_L_isAhead 289 k_L_isAhead_289 = true := by decide +kernel
theorem g_L_isAhead_289 {L : am_S} (hL : L.1 < 2 ^ 31) {n : Nat} {ls st : List Value} {M : am_M} {Q : am_Q} (h : am_B L mt_L_isAhead k_L_isAhead_289 n 289 ls st M Q) : am_R L mt_L_isAhead n 289 ls st M Q := am_go L mt_L_isAhead (fun _ => hL) k_L_isAhead_289 n 289 ls st M Q o_L_isAhead_289 h
def k_L_isAhead_298 : List am_I := [(.iload 5, 2, 0, 0, 0)]
set_option maxRecDepth 20000 in
theorem o_L_isAhead_298 : am_okB mt_L_isAhead 298 k_L_isAhead_298 = true := by decide +kernel
theorem g_L_isAhead_298 {L : am_S} (hL : L.1 < 2 ^ 31) {n : Nat} {ls st : List Value} {M : am_M} {Q : am_Q} (h : am_B L mt_L_isAhead k_L_isAhead_298 n 298 ls st M Q) : am_R L mt_L_isAhead n 298 ls st M Q := am_go L mt_L_isAhead (fun _ => hL) k_L_isAhead_298 n 298 ls st M Q o_L_isAhead_298 h
def k_L_isAhead_300 : List am_I := [(.istore 5, 2, 0, 0, 0), (.iinc 8 1, 3, 0, 0, 0), (.goto (-71), 3, 0, 0, 0)]
set_option maxRecDepth 20000 in
theorem o_L_isAhead_300 : am_okB mt_L_isAhead 300 k_L_isAhead_300 = true := by decide +kernel
theorem g_L_isAhead_300 {L : am_S} (hL : L.1 < 2 ^ 31) {n : Nat} {ls st : List Value} {M : am_M} {Q : am_Q} (h : am_B L mt_L_isAhead k_L_isAhead_300 n 300 ls st M Q) : am_R L mt_L_isAhead n 300 ls st M Q := am_go L mt_L_isAhead (fun _ => hL) k_L_isAhead_300 n 300 ls st M Q o_L_isAhead_300 h
def k_L_isAhead_308 : List am_I := [(.aload_n 0, 1, 0, 0, 0), (.iconst 0, 1, 0, 0, 0), (.invokestatic 123, 3, 65, 2, 319), (.ifCond .lt 16, 3, 0, 0, 0), (.aload_n 0, 1, 0, 0, 0), (.invokestatic 111, 3, 68, 1, 358), (.lload_n 3, 1, 0, 0, 0), (.lcmp, 1, 0, 0, 0), (.ifCond .ne 7, 3, 0, 0, 0), (.iconst 1, 1, 0, 0, 0), (.goto 4, 3, 0, 0, 0)]
set_option maxRecDepth 20000 in
theorem o_L_isAhead_308 : am_okB mt_L_isAhead 308 k_L_isAhead_308 = true := by decide +kernel
theorem g_L_isAhead_308 {L : am_S} (hL : L.1 < 2 ^ 31) {n : Nat} {ls st : List Value} {M : am_M} {Q : am_Q} (h : am_B L mt_L_isAhead k_L_isAhead_308 n 308 ls st M Q) : am_R L mt_L_isAhead n 308 ls st M Q := am_go L mt_L_isAhead (fun _ => hL) k_L_isAhead_308 n 308 ls st M Q o_L_isAhead_308 h
def k_L_isAhead_329 : List am_I := [(.iconst 0, 1, 0, 0, 0)]
set_option maxRecDepth 20000 in
theorem o_L_isAhead_329 : am_okB mt_L_isAhead 329 k_L_isAhead_329 = true := by decide +kernel
theorem g_L_isAhead_329 {L : am_S} (hL : L.1 < 2 ^ 31) {n : Nat} {ls st : List Value} {M : am_M} {Q : am_Q} (h : am_B L mt_L_isAhead k_L_isAhead_329 n 329 ls st M Q) : am_R L mt_L_isAhead n 329 ls st M Q := am_go L mt_L_isAhead (fun _ => hL) k_L_isAhead_329 n 329 ls st M Q o_L_isAhead_329 h
def k_L_isAhead_330 : List am_I := [(.ireturn, 1, 0, 0, 0)]
set_option maxRecDepth 20000 in
theorem o_L_isAhead_330 : am_okB mt_L_isAhead 330 k_L_isAhead_330 = true := by decide +kernel
theorem g_L_isAhead_330 {L : am_S} (hL : L.1 < 2 ^ 31) {n : Nat} {ls st : List Value} {M : am_M} {Q : am_Q} (h : am_B L mt_L_isAhead k_L_isAhead_330 n 330 ls st M Q) : am_R L mt_L_isAhead n 330 ls st M Q := am_go L mt_L_isAhead (fun _ => hL) k_L_isAhead_330 n 330 ls st M Q o_L_isAhead_330 h
def k_L_look_0 : List am_I := [(.iconst 0, 1, 0, 0, 0), (.istore_n 2, 1, 0, 0, 0)]
set_option maxRecDepth 20000 in
theorem o_L_look_0 : am_okB mt_L_look 0 k_L_look_0 = true := by decide +kernel
theorem g_L_look_0 {L : am_S} (hL : L.1 < 2 ^ 31) {n : Nat} {ls st : List Value} {M : am_M} {Q : am_Q} (h : am_B L mt_L_look k_L_look_0 n 0 ls st M Q) : am_R L mt_L_look n 0 ls st M Q := am_go L mt_L_look (fun _ => hL) k_L_look_0 n 0 ls st M Q o_L_look_0 h
def k_L_look_2 : List am_I := [(.iload_n 2, 1, 0, 0, 0), (.bipush 35, 2, 0, 0, 0), (.if_icmp .ge 26, 3, 0, 0, 0), (.aload_n 1, 1, 0, 0, 0), (.iload_n 2, 1, 0, 0, 0), (.aload_n 0, 1, 0, 0, 0), (.iload_n 2, 1, 0, 0, 0), (.bipush 7, 2, 0, 0, 0), (.idiv, 1, 0, 0, 0), (.iconst 1, 1, 0, 0, 0), (.iload_n 2, 1, 0, 0, 0), (.bipush 7, 2, 0, 0, 0), (.irem, 1, 0, 0, 0), (.iadd, 1, 0, 0, 0), (.invokevirtual 67, 3, 37, 3, 386), (.iastore, 1, 0, 0, 0), (.iinc 2 1, 3, 0, 0, 0), (.goto (-26), 3, 0, 0, 0)]
set_option maxRecDepth 20000 in
theorem o_L_look_2 : am_okB mt_L_look 2 k_L_look_2 = true := by decide +kernel
theorem g_L_look_2 {L : am_S} (hL : L.1 < 2 ^ 31) {n : Nat} {ls st : List Value} {M : am_M} {Q : am_Q} (h : am_B L mt_L_look k_L_look_2 n 2 ls st M Q) : am_R L mt_L_look n 2 ls st M Q := am_go L mt_L_look (fun _ => hL) k_L_look_2 n 2 ls st M Q o_L_look_2 h
def k_L_look_31 : List am_I := [(.return_, 1, 0, 0, 0)]
set_option maxRecDepth 20000 in
theorem o_L_look_31 : am_okB mt_L_look 31 k_L_look_31 = true := by decide +kernel
theorem g_L_look_31 {L : am_S} (hL : L.1 < 2 ^ 31) {n : Nat} {ls st : List Value} {M : am_M} {Q : am_Q} (h : am_B L mt_L_look k_L_look_31 n 31 ls st M Q) : am_R L mt_L_look n 31 ls st M Q := am_go L mt_L_look (fun _ => hL) k_L_look_31 n 31 ls st M Q o_L_look_31 h
def k_L_isLook_0 : List am_I := [(.iconst 1, 1, 0, 0, 0), (.istore_n 2, 1, 0, 0, 0), (.iconst 0, 1, 0, 0, 0), (.istore_n 3, 1, 0, 0, 0)]
set_option maxRecDepth 20000 in
theorem o_L_isLook_0 : am_okB mt_L_isLook 0 k_L_isLook_0 = true := by decide +kernel
theorem g_L_isLook_0 {L : am_S} (hL : L.1 < 2 ^ 31) {n : Nat} {ls st : List Value} {M : am_M} {Q : am_Q} (h : am_B L mt_L_isLook k_L_isLook_0 n 0 ls st M Q) : am_R L mt_L_isLook n 0 ls st M Q := am_go L mt_L_isLook (fun _ => hL) k_L_isLook_0 n 0 ls st M Q o_L_isLook_0 h
def k_L_isLook_4 : List am_I := [(.iload_n 3, 1, 0, 0, 0), (.bipush 35, 2, 0, 0, 0), (.if_icmp .ge 39, 3, 0, 0, 0), (.iload_n 2, 1, 0, 0, 0), (.ifCond .eq 27, 3, 0, 0, 0), (.aload_n 1, 1, 0, 0, 0), (.iload_n 3, 1, 0, 0, 0), (.iaload, 1, 0, 0, 0), (.aload_n 0, 1, 0, 0, 0), (.iload_n 3, 1, 0, 0, 0), (.bipush 7, 2, 0, 0, 0), (.idiv, 1, 0, 0, 0), (.iconst 1, 1, 0, 0, 0), (.iload_n 3, 1, 0, 0, 0), (.bipush 7, 2, 0, 0, 0), (.irem, 1, 0, 0, 0), (.iadd, 1, 0, 0, 0), (.invokevirtual 67, 3, 37, 3, 386), (.if_icmp .ne 7, 3, 0, 0, 0), (.iconst 1, 1, 0, 0, 0), (.goto 4, 3, 0, 0, 0)]
set_option maxRecDepth 20000 in
theorem o_L_isLook_4 : am_okB mt_L_isLook 4 k_L_isLook_4 = true := by decide +kernel
theorem g_L_isLook_4 {L : am_S} (hL : L.1 < 2 ^ 31) {n : Nat} {ls st : List Value} {M : am_M} {Q : am_Q} (h : am_B L mt_L_isLook k_L_isLook_4 n 4 ls st M Q) : am_R L mt_L_isLook n 4 ls st M Q := am_go L mt_L_isLook (fun _ => hL) k_L_isLook_4 n 4 ls st M Q o_L_isLook_4 h
def k_L_isLook_38 : List am_I := [(.iconst 0, 1, 0, 0, 0)]
set_option maxRecDepth 20000 in
theorem o_L_isLook_38 : am_okB mt_L_isLook 38 k_L_isLook_38 = true := by decide +kernel
theorem g_L_isLook_38 {L : am_S} (hL : L.1 < 2 ^ 31) {n : Nat} {ls st : List Value} {M : am_M} {Q : am_Q} (h : am_B L mt_L_isLook k_L_isLook_38 n 38 ls st M Q) : am_R L mt_L_isLook n 38 ls st M Q := am_go L mt_L_isLook (fun _ => hL) k_L_isLook_38 n 38 ls st M Q o_L_isLook_38 h
def k_L_isLook_39 : List am_I := [(.istore_n 2, 1, 0, 0, 0), (.iinc 3 1, 3, 0, 0, 0), (.goto (-39), 3, 0, 0, 0)]
set_option maxRecDepth 20000 in
theorem o_L_isLook_39 : am_okB mt_L_isLook 39 k_L_isLook_39 = true := by decide +kernel
theorem g_L_isLook_39 {L : am_S} (hL : L.1 < 2 ^ 31) {n : Nat} {ls st : List Value} {M : am_M} {Q : am_Q} (h : am_B L mt_L_isLook k_L_isLook_39 n 39 ls st M Q) : am_R L mt_L_isLook n 39 ls st M Q := am_go L mt_L_isLook (fun _ => hL) k_L_isLook_39 n 39 ls st M Q o_L_isLook_39 h
def k_L_isLook_46 : List am_I := [(.iload_n 2, 1, 0, 0, 0), (.ireturn, 1, 0, 0, 0)]
set_option maxRecDepth 20000 in
theorem o_L_isLook_46 : am_okB mt_L_isLook 46 k_L_isLook_46 = true := by decide +kernel
theorem g_L_isLook_46 {L : am_S} (hL : L.1 < 2 ^ 31) {n : Nat} {ls st : List Value} {M : am_M} {Q : am_Q} (h : am_B L mt_L_isLook k_L_isLook_46 n 46 ls st M Q) : am_R L mt_L_isLook n 46 ls st M Q := am_go L mt_L_isLook (fun _ => hL) k_L_isLook_46 n 46 ls st M Q o_L_isLook_46 h
def k_L_days_0 : List am_I := [(.iconst 1, 1, 0, 0, 0), (.istore_n 2, 1, 0, 0, 0), (.iconst 0, 1, 0, 0, 0), (.istore_n 3, 1, 0, 0, 0)]
set_option maxRecDepth 20000 in
theorem o_L_days_0 : am_okB mt_L_days 0 k_L_days_0 = true := by decide +kernel
theorem g_L_days_0 {L : am_S} {n : Nat} {ls st : List Value} {M : am_M} {Q : am_Q} (h : am_B L mt_L_days k_L_days_0 n 0 ls st M Q) : am_R L mt_L_days n 0 ls st M Q := am_go L mt_L_days (fun h => by cases h) k_L_days_0 n 0 ls st M Q o_L_days_0 h
def k_L_days_4 : List am_I := [(.iload_n 3, 1, 0, 0, 0), (.iload_n 1, 1, 0, 0, 0), (.if_icmp .ge 28, 3, 0, 0, 0), (.iload_n 2, 1, 0, 0, 0), (.ifCond .eq 16, 3, 0, 0, 0), (.aload_n 0, 1, 0, 0, 0), (.bipush 24, 2, 0, 0, 0), (.invokestatic 105, 3, 64, 2, 505), (.ifCond .lt 7, 3, 0, 0, 0), (.iconst 1, 1, 0, 0, 0), (.goto 4, 3, 0, 0, 0)]
set_option maxRecDepth 20000 in
theorem o_L_days_4 : am_okB mt_L_days 4 k_L_days_4 = true := by decide +kernel
theorem g_L_days_4 {L : am_S} {n : Nat} {ls st : List Value} {M : am_M} {Q : am_Q} (h : am_B L mt_L_days k_L_days_4 n 4 ls st M Q) : am_R L mt_L_days n 4 ls st M Q := am_go L mt_L_days (fun h => by cases h) k_L_days_4 n 4 ls st M Q o_L_days_4 h
def k_L_days_26 : List am_I := [(.iconst 0, 1, 0, 0, 0)]
set_option maxRecDepth 20000 in
theorem o_L_days_26 : am_okB mt_L_days 26 k_L_days_26 = true := by decide +kernel
theorem g_L_days_26 {L : am_S} {n : Nat} {ls st : List Value} {M : am_M} {Q : am_Q} (h : am_B L mt_L_days k_L_days_26 n 26 ls st M Q) : am_R L mt_L_days n 26 ls st M Q := am_go L mt_L_days (fun h => by cases h) k_L_days_26 n 26 ls st M Q o_L_days_26 h
def k_L_days_27 : List am_I := [(.istore_n 2, 1, 0, 0, 0), (.iinc 3 1, 3, 0, 0, 0), (.goto (-27), 3, 0, 0, 0)]
set_option maxRecDepth 20000 in
theorem o_L_days_27 : am_okB mt_L_days 27 k_L_days_27 = true := by decide +kernel
theorem g_L_days_27 {L : am_S} {n : Nat} {ls st : List Value} {M : am_M} {Q : am_Q} (h : am_B L mt_L_days k_L_days_27 n 27 ls st M Q) : am_R L mt_L_days n 27 ls st M Q := am_go L mt_L_days (fun h => by cases h) k_L_days_27 n 27 ls st M Q o_L_days_27 h
def k_L_days_34 : List am_I := [(.iload_n 2, 1, 0, 0, 0), (.ireturn, 1, 0, 0, 0)]
set_option maxRecDepth 20000 in
theorem o_L_days_34 : am_okB mt_L_days 34 k_L_days_34 = true := by decide +kernel
theorem g_L_days_34 {L : am_S} {n : Nat} {ls st : List Value} {M : am_M} {Q : am_Q} (h : am_B L mt_L_days k_L_days_34 n 34 ls st M Q) : am_R L mt_L_days n 34 ls st M Q := am_go L mt_L_days (fun h => by cases h) k_L_days_34 n 34 ls st M Q o_L_days_34 h
def k_L_isRound_0 : List am_I := [(.aload_n 0, 1, 0, 0, 0), (.invokestatic 111, 3, 68, 1, 358), (.lstore_n 1, 1, 0, 0, 0), (.aload_n 0, 1, 0, 0, 0), (.iconst 0, 1, 0, 0, 0), (.invokevirtual 125, 3, 43, 2, 257), (.istore_n 3, 1, 0, 0, 0), (.aload_n 0, 1, 0, 0, 0), (.iconst 1, 1, 0, 0, 0), (.invokevirtual 125, 3, 43, 2, 257), (.istore 4, 2, 0, 0, 0), (.bipush 35, 2, 0, 0, 0)]
set_option maxRecDepth 20000 in
theorem o_L_isRound_0 : am_okB mt_L_isRound 0 k_L_isRound_0 = true := by decide +kernel
theorem g_L_isRound_0 {L : am_S} (hL : L.1 < 2 ^ 31) {n : Nat} {ls st : List Value} {M : am_M} {Q : am_Q} (h : am_B L mt_L_isRound k_L_isRound_0 n 0 ls st M Q) : am_R L mt_L_isRound n 0 ls st M Q := am_go L mt_L_isRound (fun _ => hL) k_L_isRound_0 n 0 ls st M Q o_L_isRound_0 h
def k_L_isRound_22 : List am_I := [(.astore 5, 2, 0, 0, 0), (.aload_n 0, 1, 0, 0, 0), (.iconst 2, 1, 0, 0, 0), (.invokevirtual 125, 3, 43, 2, 257), (.iload_n 3, 1, 0, 0, 0), (.if_icmp .ne 61, 3, 0, 0, 0), (.aload_n 0, 1, 0, 0, 0), (.iconst 3, 1, 0, 0, 0), (.invokevirtual 125, 3, 43, 2, 257), (.iload 4, 2, 0, 0, 0), (.if_icmp .ne 51, 3, 0, 0, 0), (.iload_n 3, 1, 0, 0, 0), (.ifCond .ge 7, 3, 0, 0, 0), (.iconst 1, 1, 0, 0, 0), (.goto 4, 3, 0, 0, 0)]
set_option maxRecDepth 20000 in
theorem o_L_isRound_22 : am_okB mt_L_isRound 22 k_L_isRound_22 = true := by decide +kernel
theorem g_L_isRound_22 {L : am_S} (hL : L.1 < 2 ^ 31) {n : Nat} {ls st : List Value} {M : am_M} {Q : am_Q} (h : am_B L mt_L_isRound k_L_isRound_22 n 22 ls st M Q) : am_R L mt_L_isRound n 22 ls st M Q := am_go L mt_L_isRound (fun _ => hL) k_L_isRound_22 n 22 ls st M Q o_L_isRound_22 h
def k_L_isRound_51 : List am_I := [(.iconst 0, 1, 0, 0, 0)]
set_option maxRecDepth 20000 in
theorem o_L_isRound_51 : am_okB mt_L_isRound 51 k_L_isRound_51 = true := by decide +kernel
theorem g_L_isRound_51 {L : am_S} (hL : L.1 < 2 ^ 31) {n : Nat} {ls st : List Value} {M : am_M} {Q : am_Q} (h : am_B L mt_L_isRound k_L_isRound_51 n 51 ls st M Q) : am_R L mt_L_isRound n 51 ls st M Q := am_go L mt_L_isRound (fun _ => hL) k_L_isRound_51 n 51 ls st M Q o_L_isRound_51 h
def k_L_isRound_52 : List am_I := [(.iload 4, 2, 0, 0, 0), (.ifCond .ge 7, 3, 0, 0, 0), (.iconst 1, 1, 0, 0, 0), (.goto 4, 3, 0, 0, 0)]
set_option maxRecDepth 20000 in
theorem o_L_isRound_52 : am_okB mt_L_isRound 52 k_L_isRound_52 = true := by decide +kernel
theorem g_L_isRound_52 {L : am_S} (hL : L.1 < 2 ^ 31) {n : Nat} {ls st : List Value} {M : am_M} {Q : am_Q} (h : am_B L mt_L_isRound k_L_isRound_52 n 52 ls st M Q) : am_R L mt_L_isRound n 52 ls st M Q := am_go L mt_L_isRound (fun _ => hL) k_L_isRound_52 n 52 ls st M Q o_L_isRound_52 h
def k_L_isRound_61 : List am_I := [(.iconst 0, 1, 0, 0, 0)]
set_option maxRecDepth 20000 in
theorem o_L_isRound_61 : am_okB mt_L_isRound 61 k_L_isRound_61 = true := by decide +kernel
theorem g_L_isRound_61 {L : am_S} (hL : L.1 < 2 ^ 31) {n : Nat} {ls st : List Value} {M : am_M} {Q : am_Q} (h : am_B L mt_L_isRound k_L_isRound_61 n 61 ls st M Q) : am_R L mt_L_isRound n 61 ls st M Q := am_go L mt_L_isRound (fun _ => hL) k_L_isRound_61 n 61 ls st M Q o_L_isRound_61 h
def k_L_isRound_62 : List am_I := [(.if_icmp .ne 29, 3, 0, 0, 0), (.iload_n 3, 1, 0, 0, 0), (.ifCond .eq 25, 3, 0, 0, 0), (.iload_n 3, 1, 0, 0, 0), (.iload 4, 2, 0, 0, 0), (.iadd, 1, 0, 0, 0), (.bipush 60, 2, 0, 0, 0), (.if_icmp .gt 16, 3, 0, 0, 0), (.aload_n 0, 1, 0, 0, 0), (.iconst 1, 1, 0, 0, 0), (.invokestatic 121, 3, 67, 2, 527), (.aload_n 0, 1, 0, 0, 0), (.iconst 0, 1, 0, 0, 0), (.invokevirtual 62, 3, 40, 2, 363), (.if_icmp .eq 5, 3, 0, 0, 0)]
set_option maxRecDepth 20000 in
theorem o_L_isRound_62 : am_okB mt_L_isRound 62 k_L_isRound_62 = true := by decide +kernel
theorem g_L_isRound_62 {L : am_S} (hL : L.1 < 2 ^ 31) {n : Nat} {ls st : List Value} {M : am_M} {Q : am_Q} (h : am_B L mt_L_isRound k_L_isRound_62 n 62 ls st M Q) : am_R L mt_L_isRound n 62 ls st M Q := am_go L mt_L_isRound (fun _ => hL) k_L_isRound_62 n 62 ls st M Q o_L_isRound_62 h
def k_L_isRound_91 : List am_I := [(.iconst 0, 1, 0, 0, 0), (.ireturn, 1, 0, 0, 0)]
set_option maxRecDepth 20000 in
theorem o_L_isRound_91 : am_okB mt_L_isRound 91 k_L_isRound_91 = true := by decide +kernel
theorem g_L_isRound_91 {L : am_S} (hL : L.1 < 2 ^ 31) {n : Nat} {ls st : List Value} {M : am_M} {Q : am_Q} (h : am_B L mt_L_isRound k_L_isRound_91 n 91 ls st M Q) : am_R L mt_L_isRound n 91 ls st M Q := am_go L mt_L_isRound (fun _ => hL) k_L_isRound_91 n 91 ls st M Q o_L_isRound_91 h
def k_L_isRound_93 : List am_I := [(.iload_n 3, 1, 0, 0, 0), (.ifCond .ge 97, 3, 0, 0, 0), (.aload_n 0, 1, 0, 0, 0), (.bipush 60, 2, 0, 0, 0)]
set_option maxRecDepth 20000 in
theorem o_L_isRound_93 : am_okB mt_L_isRound 93 k_L_isRound_93 = true := by decide +kernel
theorem g_L_isRound_93 {L : am_S} (hL : L.1 < 2 ^ 31) {n : Nat} {ls st : List Value} {M : am_M} {Q : am_Q} (h : am_B L mt_L_isRound k_L_isRound_93 n 93 ls st M Q) : am_R L mt_L_isRound n 93 ls st M Q := am_go L mt_L_isRound (fun _ => hL) k_L_isRound_93 n 93 ls st M Q o_L_isRound_93 h
set_option maxRecDepth 20000 in
theorem o_L_isRound_100 : am_ckS mt_L_isRound mt_L_days 100 128 537 538 2 = true := by decide +kernel
theorem x_L_isRound_100 {L : am_S} {n : Nat} {ls st r p0 av : List Value} {M : am_M} {Q : am_Q} (hn : mt_c mt_L_days ≤ n) (hL : mt_w mt_L_days = true → L.1 = mt_x mt_L_days) (hst : st = p0 ++ r) (hav : av = p0.reverse) (hlen : av.length = 2) (hcat : am_cat r ≤ 8) (C : am_C mt_L_days av M (fun oc M' => ∃ v, oc = .inl v ∧ am_R L mt_L_isRound (if mt_g mt_L_days then n - mt_c mt_L_days else n) (100 + 3) ls (v.toList ++ r) M' Q)) : am_R L mt_L_isRound n 100 ls st M Q := am_R_special om_L_days hn (by decide) (fun h => ⟨rfl, hL h⟩) o_L_isRound_100 hst hav hlen hcat C
def k_L_isRound_103 : List am_I := [(.ifCond .ne 5, 3, 0, 0, 0), (.iconst 0, 1, 0, 0, 0), (.ireturn, 1, 0, 0, 0)]
set_option maxRecDepth 20000 in
theorem o_L_isRound_103 : am_okB mt_L_isRound 103 k_L_isRound_103 = true := by decide +kernel
theorem g_L_isRound_103 {L : am_S} (hL : L.1 < 2 ^ 31) {n : Nat} {ls st : List Value} {M : am_M} {Q : am_Q} (h : am_B L mt_L_isRound k_L_isRound_103 n 103 ls st M Q) : am_R L mt_L_isRound n 103 ls st M Q := am_go L mt_L_isRound (fun _ => hL) k_L_isRound_103 n 103 ls st M Q o_L_isRound_103 h
def k_L_isRound_108 : List am_I := [(.aload_n 0, 1, 0, 0, 0), (.aload 5, 2, 0, 0, 0)]
set_option maxRecDepth 20000 in
theorem o_L_isRound_108 : am_okB mt_L_isRound 108 k_L_isRound_108 = true := by decide +kernel
theorem g_L_isRound_108 {L : am_S} (hL : L.1 < 2 ^ 31) {n : Nat} {ls st : List Value} {M : am_M} {Q : am_Q} (h : am_B L mt_L_isRound k_L_isRound_108 n 108 ls st M Q) : am_R L mt_L_isRound n 108 ls st M Q := am_go L mt_L_isRound (fun _ => hL) k_L_isRound_108 n 108 ls st M Q o_L_isRound_108 h
set_option maxRecDepth 20000 in
theorem o_L_isRound_111 : am_ckS mt_L_isRound mt_L_look 111 132 540 541 2 = true := by decide +kernel
theorem x_L_isRound_111 {L : am_S} {n : Nat} {ls st r p0 av : List Value} {M : am_M} {Q : am_Q} (hn : mt_c mt_L_look ≤ n) (hL : mt_w mt_L_look = true → L.1 = mt_x mt_L_look) (hst : st = p0 ++ r) (hav : av = p0.reverse) (hlen : av.length = 2) (hcat : am_cat r ≤ 8) (C : am_C mt_L_look av M (fun oc M' => ∃ v, oc = .inl v ∧ am_R L mt_L_isRound (if mt_g mt_L_look then n - mt_c mt_L_look else n) (111 + 3) ls (v.toList ++ r) M' Q)) : am_R L mt_L_isRound n 111 ls st M Q := am_R_special om_L_look hn (by decide) (fun h => ⟨rfl, hL h⟩) o_L_isRound_111 hst hav hlen hcat C
def k_L_isRound_114 : List am_I := [(.aload_n 0, 1, 0, 0, 0), (.iconst 1, 1, 0, 0, 0), (.invokestatic 123, 3, 65, 2, 319), (.ifCond .ge 5, 3, 0, 0, 0), (.iconst 0, 1, 0, 0, 0), (.ireturn, 1, 0, 0, 0)]
set_option maxRecDepth 20000 in
theorem o_L_isRound_114 : am_okB mt_L_isRound 114 k_L_isRound_114 = true := by decide +kernel
theorem g_L_isRound_114 {L : am_S} (hL : L.1 < 2 ^ 31) {n : Nat} {ls st : List Value} {M : am_M} {Q : am_Q} (h : am_B L mt_L_isRound k_L_isRound_114 n 114 ls st M Q) : am_R L mt_L_isRound n 114 ls st M Q := am_go L mt_L_isRound (fun _ => hL) k_L_isRound_114 n 114 ls st M Q o_L_isRound_114 h
def k_L_isRound_124 : List am_I := [(.iconst 0, 1, 0, 0, 0), (.istore 6, 2, 0, 0, 0)]
set_option maxRecDepth 20000 in
theorem o_L_isRound_124 : am_okB mt_L_isRound 124 k_L_isRound_124 = true := by decide +kernel
theorem g_L_isRound_124 {L : am_S} (hL : L.1 < 2 ^ 31) {n : Nat} {ls st : List Value} {M : am_M} {Q : am_Q} (h : am_B L mt_L_isRound k_L_isRound_124 n 124 ls st M Q) : am_R L mt_L_isRound n 124 ls st M Q := am_go L mt_L_isRound (fun _ => hL) k_L_isRound_124 n 124 ls st M Q o_L_isRound_124 h
def k_L_isRound_127 : List am_I := [(.iload 6, 2, 0, 0, 0), (.bipush 60, 2, 0, 0, 0), (.if_icmp .ge 28, 3, 0, 0, 0), (.aload_n 0, 1, 0, 0, 0), (.aload 5, 2, 0, 0, 0)]
set_option maxRecDepth 20000 in
theorem o_L_isRound_127 : am_okB mt_L_isRound 127 k_L_isRound_127 = true := by decide +kernel
theorem g_L_isRound_127 {L : am_S} (hL : L.1 < 2 ^ 31) {n : Nat} {ls st : List Value} {M : am_M} {Q : am_Q} (h : am_B L mt_L_isRound k_L_isRound_127 n 127 ls st M Q) : am_R L mt_L_isRound n 127 ls st M Q := am_go L mt_L_isRound (fun _ => hL) k_L_isRound_127 n 127 ls st M Q o_L_isRound_127 h
set_option maxRecDepth 20000 in
theorem o_L_isRound_137 : am_ckS mt_L_isRound mt_L_isLook 137 136 543 544 2 = true := by decide +kernel
theorem x_L_isRound_137 {L : am_S} {n : Nat} {ls st r p0 av : List Value} {M : am_M} {Q : am_Q} (hn : mt_c mt_L_isLook ≤ n) (hL : mt_w mt_L_isLook = true → L.1 = mt_x mt_L_isLook) (hst : st = p0 ++ r) (hav : av = p0.reverse) (hlen : av.length = 2) (hcat : am_cat r ≤ 8) (C : am_C mt_L_isLook av M (fun oc M' => ∃ v, oc = .inl v ∧ am_R L mt_L_isRound (if mt_g mt_L_isLook then n - mt_c mt_L_isLook else n) (137 + 3) ls (v.toList ++ r) M' Q)) : am_R L mt_L_isRound n 137 ls st M Q := am_R_special om_L_isLook hn (by decide) (fun h => ⟨rfl, hL h⟩) o_L_isRound_137 hst hav hlen hcat C
def k_L_isRound_140 : List am_I := [(.ifCond .ne 11, 3, 0, 0, 0), (.aload_n 0, 1, 0, 0, 0), (.iconst 1, 1, 0, 0, 0)]
set_option maxRecDepth 20000 in
theorem o_L_isRound_140 : am_okB mt_L_isRound 140 k_L_isRound_140 = true := by decide +kernel
theorem g_L_isRound_140 {L : am_S} (hL : L.1 < 2 ^ 31) {n : Nat} {ls st : List Value} {M : am_M} {Q : am_Q} (h : am_B L mt_L_isRound k_L_isRound_140 n 140 ls st M Q) : am_R L mt_L_isRound n 140 ls st M Q := am_go L mt_L_isRound (fun _ => hL) k_L_isRound_140 n 140 ls st M Q o_L_isRound_140 h
set_option maxRecDepth 20000 in
theorem o_L_isRound_145 : am_ckS mt_L_isRound mt_L_days 145 128 537 538 2 = true := by decide +kernel
theorem x_L_isRound_145 {L : am_S} {n : Nat} {ls st r p0 av : List Value} {M : am_M} {Q : am_Q} (hn : mt_c mt_L_days ≤ n) (hL : mt_w mt_L_days = true → L.1 = mt_x mt_L_days) (hst : st = p0 ++ r) (hav : av = p0.reverse) (hlen : av.length = 2) (hcat : am_cat r ≤ 8) (C : am_C mt_L_days av M (fun oc M' => ∃ v, oc = .inl v ∧ am_R L mt_L_isRound (if mt_g mt_L_days then n - mt_c mt_L_days else n) (145 + 3) ls (v.toList ++ r) M' Q)) : am_R L mt_L_isRound n 145 ls st M Q := am_R_special om_L_days hn (by decide) (fun h => ⟨rfl, hL h⟩) o_L_isRound_145 hst hav hlen hcat C
def k_L_isRound_148 : List am_I := [(.ifCond .ne 5, 3, 0, 0, 0)]
set_option maxRecDepth 20000 in
theorem o_L_isRound_148 : am_okB mt_L_isRound 148 k_L_isRound_148 = true := by decide +kernel
theorem g_L_isRound_148 {L : am_S} (hL : L.1 < 2 ^ 31) {n : Nat} {ls st : List Value} {M : am_M} {Q : am_Q} (h : am_B L mt_L_isRound k_L_isRound_148 n 148 ls st M Q) : am_R L mt_L_isRound n 148 ls st M Q := am_go L mt_L_isRound (fun _ => hL) k_L_isRound_148 n 148 ls st M Q o_L_isRound_148 h
def k_L_isRound_151 : List am_I := [(.iconst 0, 1, 0, 0, 0), (.ireturn, 1, 0, 0, 0)]
set_option maxRecDepth 20000 in
theorem o_L_isRound_151 : am_okB mt_L_isRound 151 k_L_isRound_151 = true := by decide +kernel
theorem g_L_isRound_151 {L : am_S} (hL : L.1 < 2 ^ 31) {n : Nat} {ls st : List Value} {M : am_M} {Q : am_Q} (h : am_B L mt_L_isRound k_L_isRound_151 n 151 ls st M Q) : am_R L mt_L_isRound n 151 ls st M Q := am_go L mt_L_isRound (fun _ => hL) k_L_isRound_151 n 151 ls st M Q o_L_isRound_151 h
def k_L_isRound_153 : List am_I := [(.iinc 6 1, 3, 0, 0, 0), (.goto (-29), 3, 0, 0, 0)]
set_option maxRecDepth 20000 in
theorem o_L_isRound_153 : am_okB mt_L_isRound 153 k_L_isRound_153 = true := by decide +kernel
theorem g_L_isRound_153 {L : am_S} (hL : L.1 < 2 ^ 31) {n : Nat} {ls st : List Value} {M : am_M} {Q : am_Q} (h : am_B L mt_L_isRound k_L_isRound_153 n 153 ls st M Q) : am_R L mt_L_isRound n 153 ls st M Q := am_go L mt_L_isRound (fun _ => hL) k_L_isRound_153 n 153 ls st M Q o_L_isRound_153 h
def k_L_isRound_159 : List am_I := [(.aload_n 0, 1, 0, 0, 0), (.aload 5, 2, 0, 0, 0)]
set_option maxRecDepth 20000 in
theorem o_L_isRound_159 : am_okB mt_L_isRound 159 k_L_isRound_159 = true := by decide +kernel
theorem g_L_isRound_159 {L : am_S} (hL : L.1 < 2 ^ 31) {n : Nat} {ls st : List Value} {M : am_M} {Q : am_Q} (h : am_B L mt_L_isRound k_L_isRound_159 n 159 ls st M Q) : am_R L mt_L_isRound n 159 ls st M Q := am_go L mt_L_isRound (fun _ => hL) k_L_isRound_159 n 159 ls st M Q o_L_isRound_159 h
set_option maxRecDepth 20000 in
theorem o_L_isRound_162 : am_ckS mt_L_isRound mt_L_isLook 162 136 543 544 2 = true := by decide +kernel
theorem x_L_isRound_162 {L : am_S} {n : Nat} {ls st r p0 av : List Value} {M : am_M} {Q : am_Q} (hn : mt_c mt_L_isLook ≤ n) (hL : mt_w mt_L_isLook = true → L.1 = mt_x mt_L_isLook) (hst : st = p0 ++ r) (hav : av = p0.reverse) (hlen : av.length = 2) (hcat : am_cat r ≤ 8) (C : am_C mt_L_isLook av M (fun oc M' => ∃ v, oc = .inl v ∧ am_R L mt_L_isRound (if mt_g mt_L_isLook then n - mt_c mt_L_isLook else n) (162 + 3) ls (v.toList ++ r) M' Q)) : am_R L mt_L_isRound n 162 ls st M Q := am_R_special om_L_isLook hn (by decide) (fun h => ⟨rfl, hL h⟩) o_L_isRound_162 hst hav hlen hcat C
def k_L_isRound_165 : List am_I := [(.ifCond .eq 24, 3, 0, 0, 0), (.aload_n 0, 1, 0, 0, 0), (.iconst 1, 1, 0, 0, 0), (.invokestatic 123, 3, 65, 2, 319), (.ifCond .lt 16, 3, 0, 0, 0), (.aload_n 0, 1, 0, 0, 0), (.invokestatic 111, 3, 68, 1, 358), (.lload_n 1, 1, 0, 0, 0), (.lcmp, 1, 0, 0, 0), (.ifCond .ne 7, 3, 0, 0, 0), (.iconst 1, 1, 0, 0, 0), (.goto 4, 3, 0, 0, 0)]
set_option maxRecDepth 20000 in
theorem o_L_isRound_165 : am_okB mt_L_isRound 165 k_L_isRound_165 = true := by decide +kernel
theorem g_L_isRound_165 {L : am_S} (hL : L.1 < 2 ^ 31) {n : Nat} {ls st : List Value} {M : am_M} {Q : am_Q} (h : am_B L mt_L_isRound k_L_isRound_165 n 165 ls st M Q) : am_R L mt_L_isRound n 165 ls st M Q := am_go L mt_L_isRound (fun _ => hL) k_L_isRound_165 n 165 ls st M Q o_L_isRound_165 h
def k_L_isRound_189 : List am_I := [(.iconst 0, 1, 0, 0, 0)]
set_option maxRecDepth 20000 in
theorem o_L_isRound_189 : am_okB mt_L_isRound 189 k_L_isRound_189 = true := by decide +kernel
theorem g_L_isRound_189 {L : am_S} (hL : L.1 < 2 ^ 31) {n : Nat} {ls st : List Value} {M : am_M} {Q : am_Q} (h : am_B L mt_L_isRound k_L_isRound_189 n 189 ls st M Q) : am_R L mt_L_isRound n 189 ls st M Q := am_go L mt_L_isRound (fun _ => hL) k_L_isRound_189 n 189 ls st M Q o_L_isRound_189 h
def k_L_isRound_190 : List am_I := [(.ireturn, 1, 0, 0, 0)]
set_option maxRecDepth 20000 in
theorem o_L_isRound_190 : am_okB mt_L_isRound 190 k_L_isRound_190 = true := by decide +kernel
theorem g_L_isRound_190 {L : am_S} (hL : L.1 < 2 ^ 31) {n : Nat} {ls st : List Value} {M : am_M} {Q : am_Q} (h : am_B L mt_L_isRound k_L_isRound_190 n 190 ls st M Q) : am_R L mt_L_isRound n 190 ls st M Q := am_go L mt_L_isRound (fun _ => hL) k_L_isRound_190 n 190 ls st M Q o_L_isRound_190 h
def k_L_isRound_191 : List am_I := [(.aload_n 0, 1, 0, 0, 0), (.iload 4, 2, 0, 0, 0)]
set_option maxRecDepth 20000 in
theorem o_L_isRound_191 : am_okB mt_L_isRound 191 k_L_isRound_191 = true := by decide +kernel
theorem g_L_isRound_191 {L : am_S} (hL : L.1 < 2 ^ 31) {n : Nat} {ls st : List Value} {M : am_M} {Q : am_Q} (h : am_B L mt_L_isRound k_L_isRound_191 n 191 ls st M Q) : am_R L mt_L_isRound n 191 ls st M Q := am_go L mt_L_isRound (fun _ => hL) k_L_isRound_191 n 191 ls st M Q o_L_isRound_191 h
set_option maxRecDepth 20000 in
theorem o_L_isRound_194 : am_ckS mt_L_isRound mt_L_days 194 128 537 538 2 = true := by decide +kernel
theorem x_L_isRound_194 {L : am_S} {n : Nat} {ls st r p0 av : List Value} {M : am_M} {Q : am_Q} (hn : mt_c mt_L_days ≤ n) (hL : mt_w mt_L_days = true → L.1 = mt_x mt_L_days) (hst : st = p0 ++ r) (hav : av = p0.reverse) (hlen : av.length = 2) (hcat : am_cat r ≤ 8) (C : am_C mt_L_days av M (fun oc M' => ∃ v, oc = .inl v ∧ am_R L mt_L_isRound (if mt_g mt_L_days then n - mt_c mt_L_days else n) (194 + 3) ls (v.toList ++ r) M' Q)) : am_R L mt_L_isRound n 194 ls st M Q := am_R_special om_L_days hn (by decide) (fun h => ⟨rfl, hL h⟩) o_L_isRound_194 hst hav hlen hcat C
def k_L_isRound_197 : List am_I := [(.ifCond .ne 5, 3, 0, 0, 0), (.iconst 0, 1, 0, 0, 0), (.ireturn, 1, 0, 0, 0)]
set_option maxRecDepth 20000 in
theorem o_L_isRound_197 : am_okB mt_L_isRound 197 k_L_isRound_197 = true := by decide +kernel
theorem g_L_isRound_197 {L : am_S} (hL : L.1 < 2 ^ 31) {n : Nat} {ls st : List Value} {M : am_M} {Q : am_Q} (h : am_B L mt_L_isRound k_L_isRound_197 n 197 ls st M Q) : am_R L mt_L_isRound n 197 ls st M Q := am_go L mt_L_isRound (fun _ => hL) k_L_isRound_197 n 197 ls st M Q o_L_isRound_197 h
def k_L_isRound_202 : List am_I := [(.aload_n 0, 1, 0, 0, 0), (.aload 5, 2, 0, 0, 0)]
set_option maxRecDepth 20000 in
theorem o_L_isRound_202 : am_okB mt_L_isRound 202 k_L_isRound_202 = true := by decide +kernel
theorem g_L_isRound_202 {L : am_S} (hL : L.1 < 2 ^ 31) {n : Nat} {ls st : List Value} {M : am_M} {Q : am_Q} (h : am_B L mt_L_isRound k_L_isRound_202 n 202 ls st M Q) : am_R L mt_L_isRound n 202 ls st M Q := am_go L mt_L_isRound (fun _ => hL) k_L_isRound_202 n 202 ls st M Q o_L_isRound_202 h
set_option maxRecDepth 20000 in
theorem o_L_isRound_205 : am_ckS mt_L_isRound mt_L_look 205 132 540 541 2 = true := by decide +kernel
theorem x_L_isRound_205 {L : am_S} {n : Nat} {ls st r p0 av : List Value} {M : am_M} {Q : am_Q} (hn : mt_c mt_L_look ≤ n) (hL : mt_w mt_L_look = true → L.1 = mt_x mt_L_look) (hst : st = p0 ++ r) (hav : av = p0.reverse) (hlen : av.length = 2) (hcat : am_cat r ≤ 8) (C : am_C mt_L_look av M (fun oc M' => ∃ v, oc = .inl v ∧ am_R L mt_L_isRound (if mt_g mt_L_look then n - mt_c mt_L_look else n) (205 + 3) ls (v.toList ++ r) M' Q)) : am_R L mt_L_isRound n 205 ls st M Q := am_R_special om_L_look hn (by decide) (fun h => ⟨rfl, hL h⟩) o_L_isRound_205 hst hav hlen hcat C
def k_L_isRound_208 : List am_I := [(.iconst 1, 1, 0, 0, 0), (.istore 6, 2, 0, 0, 0)]
set_option maxRecDepth 20000 in
theorem o_L_isRound_208 : am_okB mt_L_isRound 208 k_L_isRound_208 = true := by decide +kernel
theorem g_L_isRound_208 {L : am_S} (hL : L.1 < 2 ^ 31) {n : Nat} {ls st : List Value} {M : am_M} {Q : am_Q} (h : am_B L mt_L_isRound k_L_isRound_208 n 208 ls st M Q) : am_R L mt_L_isRound n 208 ls st M Q := am_go L mt_L_isRound (fun _ => hL) k_L_isRound_208 n 208 ls st M Q o_L_isRound_208 h
def k_L_isRound_211 : List am_I := [(.iload 6, 2, 0, 0, 0), (.iload_n 3, 1, 0, 0, 0), (.if_icmp .gt 39, 3, 0, 0, 0), (.aload_n 0, 1, 0, 0, 0), (.iconst 1, 1, 0, 0, 0)]
set_option maxRecDepth 20000 in
theorem o_L_isRound_211 : am_okB mt_L_isRound 211 k_L_isRound_211 = true := by decide +kernel
theorem g_L_isRound_211 {L : am_S} (hL : L.1 < 2 ^ 31) {n : Nat} {ls st : List Value} {M : am_M} {Q : am_Q} (h : am_B L mt_L_isRound k_L_isRound_211 n 211 ls st M Q) : am_R L mt_L_isRound n 211 ls st M Q := am_go L mt_L_isRound (fun _ => hL) k_L_isRound_211 n 211 ls st M Q o_L_isRound_211 h
set_option maxRecDepth 20000 in
theorem o_L_isRound_219 : am_ckS mt_L_isRound mt_L_days 219 128 537 538 2 = true := by decide +kernel
theorem x_L_isRound_219 {L : am_S} {n : Nat} {ls st r p0 av : List Value} {M : am_M} {Q : am_Q} (hn : mt_c mt_L_days ≤ n) (hL : mt_w mt_L_days = true → L.1 = mt_x mt_L_days) (hst : st = p0 ++ r) (hav : av = p0.reverse) (hlen : av.length = 2) (hcat : am_cat r ≤ 8) (C : am_C mt_L_days av M (fun oc M' => ∃ v, oc = .inl v ∧ am_R L mt_L_isRound (if mt_g mt_L_days then n - mt_c mt_L_days else n) (219 + 3) ls (v.toList ++ r) M' Q)) : am_R L mt_L_isRound n 219 ls st M Q := am_R_special om_L_days hn (by decide) (fun h => ⟨rfl, hL h⟩) o_L_isRound_219 hst hav hlen hcat C
def k_L_isRound_222 : List am_I := [(.ifCond .eq 23, 3, 0, 0, 0), (.aload_n 0, 1, 0, 0, 0), (.aload 5, 2, 0, 0, 0)]
set_option maxRecDepth 20000 in
theorem o_L_isRound_222 : am_okB mt_L_isRound 222 k_L_isRound_222 = true := by decide +kernel
theorem g_L_isRound_222 {L : am_S} (hL : L.1 < 2 ^ 31) {n : Nat} {ls st : List Value} {M : am_M} {Q : am_Q} (h : am_B L mt_L_isRound k_L_isRound_222 n 222 ls st M Q) : am_R L mt_L_isRound n 222 ls st M Q := am_go L mt_L_isRound (fun _ => hL) k_L_isRound_222 n 222 ls st M Q o_L_isRound_222 h
set_option maxRecDepth 20000 in
theorem o_L_isRound_228 : am_ckS mt_L_isRound mt_L_isLook 228 136 543 544 2 = true := by decide +kernel
theorem x_L_isRound_228 {L : am_S} {n : Nat} {ls st r p0 av : List Value} {M : am_M} {Q : am_Q} (hn : mt_c mt_L_isLook ≤ n) (hL : mt_w mt_L_isLook = true → L.1 = mt_x mt_L_isLook) (hst : st = p0 ++ r) (hav : av = p0.reverse) (hlen : av.length = 2) (hcat : am_cat r ≤ 8) (C : am_C mt_L_isLook av M (fun oc M' => ∃ v, oc = .inl v ∧ am_R L mt_L_isRound (if mt_g mt_L_isLook then n - mt_c mt_L_isLook else n) (228 + 3) ls (v.toList ++ r) M' Q)) : am_R L mt_L_isRound n 228 ls st M Q := am_R_special om_L_isLook hn (by decide) (fun h => ⟨rfl, hL h⟩) o_L_isRound_228 hst hav hlen hcat C
def k_L_isRound_231 : List am_I := [(.iload 6, 2, 0, 0, 0), (.iload_n 3, 1, 0, 0, 0), (.if_icmp .ne 7, 3, 0, 0, 0), (.iconst 1, 1, 0, 0, 0), (.goto 4, 3, 0, 0, 0)]
set_option maxRecDepth 20000 in
theorem o_L_isRound_231 : am_okB mt_L_isRound 231 k_L_isRound_231 = true := by decide +kernel
theorem g_L_isRound_231 {L : am_S} (hL : L.1 < 2 ^ 31) {n : Nat} {ls st : List Value} {M : am_M} {Q : am_Q} (h : am_B L mt_L_isRound k_L_isRound_231 n 231 ls st M Q) : am_R L mt_L_isRound n 231 ls st M Q := am_go L mt_L_isRound (fun _ => hL) k_L_isRound_231 n 231 ls st M Q o_L_isRound_231 h
def k_L_isRound_241 : List am_I := [(.iconst 0, 1, 0, 0, 0)]
set_option maxRecDepth 20000 in
theorem o_L_isRound_241 : am_okB mt_L_isRound 241 k_L_isRound_241 = true := by decide +kernel
theorem g_L_isRound_241 {L : am_S} (hL : L.1 < 2 ^ 31) {n : Nat} {ls st : List Value} {M : am_M} {Q : am_Q} (h : am_B L mt_L_isRound k_L_isRound_241 n 241 ls st M Q) : am_R L mt_L_isRound n 241 ls st M Q := am_go L mt_L_isRound (fun _ => hL) k_L_isRound_241 n 241 ls st M Q o_L_isRound_241 h
def k_L_isRound_242 : List am_I := [(.if_icmp .eq 5, 3, 0, 0, 0)]
set_option maxRecDepth 20000 in
theorem o_L_isRound_242 : am_okB mt_L_isRound 242 k_L_isRound_242 = true := by decide +kernel
theorem g_L_isRound_242 {L : am_S} (hL : L.1 < 2 ^ 31) {n : Nat} {ls st : List Value} {M : am_M} {Q : am_Q} (h : am_B L mt_L_isRound k_L_isRound_242 n 242 ls st M Q) : am_R L mt_L_isRound n 242 ls st M Q := am_go L mt_L_isRound (fun _ => hL) k_L_isRound_242 n 242 ls st M Q o_L_isRound_242 h
def k_L_isRound_245 : List am_I := [(.iconst 0, 1, 0, 0, 0), (.ireturn, 1, 0, 0, 0)]
set_option maxRecDepth 20000 in
theorem o_L_isRound_245 : am_okB mt_L_isRound 245 k_L_isRound_245 = true := by decide +kernel
theorem g_L_isRound_245 {L : am_S} (hL : L.1 < 2 ^ 31) {n : Nat} {ls st : List Value} {M : am_M} {Q : am_Q} (h : am_B L mt_L_isRound k_L_isRound_245 n 245 ls st M Q) : am_R L mt_L_isRound n 245 ls st M Q := am_go L mt_L_isRound (fun _ => hL) k_L_isRound_245 n 245 ls st M Q o_L_isRound_245 h
def k_L_isRound_247 : List am_I := [(.iinc 6 1, 3, 0, 0, 0), (.goto (-39), 3, 0, 0, 0)]
set_option maxRecDepth 20000 in
theorem o_L_isRound_247 : am_okB mt_L_isRound 247 k_L_isRound_247 = true := by decide +kernel
theorem g_L_isRound_247 {L : am_S} (hL : L.1 < 2 ^ 31) {n : Nat} {ls st : List Value} {M : am_M} {Q : am_Q} (h : am_B L mt_L_isRound k_L_isRound_247 n 247 ls st M Q) : am_R L mt_L_isRound n 247 ls st M Q := am_go L mt_L_isRound (fun _ => hL) k_L_isRound_247 n 247 ls st M Q o_L_isRound_247 h
def k_L_isRound_253 : List am_I := [(.aload_n 0, 1, 0, 0, 0), (.iconst 1, 1, 0, 0, 0), (.invokestatic 123, 3, 65, 2, 319), (.ifCond .ge 5, 3, 0, 0, 0), (.iconst 0, 1, 0, 0, 0), (.ireturn, 1, 0, 0, 0)]
set_option maxRecDepth 20000 in
theorem o_L_isRound_253 : am_okB mt_L_isRound 253 k_L_isRound_253 = true := by decide +kernel
theorem g_L_isRound_253 {L : am_S} (hL : L.1 < 2 ^ 31) {n : Nat} {ls st : List Value} {M : am_M} {Q : am_Q} (h : am_B L mt_L_isRound k_L_isRound_253 n 253 ls st M Q) : am_R L mt_L_isRound n 253 ls st M Q := am_go L mt_L_isRound (fun _ => hL) k_L_isRound_253 n 253 ls st M Q o_L_isRound_253 h
def k_L_isRound_263 : List am_I := [(.iload 4, 2, 0, 0, 0), (.ifCond .le 49, 3, 0, 0, 0), (.aload_n 0, 1, 0, 0, 0), (.iload 4, 2, 0, 0, 0), (.iconst 1, 1, 0, 0, 0), (.isub, 1, 0, 0, 0)]
set_option maxRecDepth 20000 in
theorem o_L_isRound_263 : am_okB mt_L_isRound 263 k_L_isRound_263 = true := by decide +kernel
theorem g_L_isRound_263 {L : am_S} (hL : L.1 < 2 ^ 31) {n : Nat} {ls st : List Value} {M : am_M} {Q : am_Q} (h : am_B L mt_L_isRound k_L_isRound_263 n 263 ls st M Q) : am_R L mt_L_isRound n 263 ls st M Q := am_go L mt_L_isRound (fun _ => hL) k_L_isRound_263 n 263 ls st M Q o_L_isRound_263 h
set_option maxRecDepth 20000 in
theorem o_L_isRound_273 : am_ckS mt_L_isRound mt_L_days 273 128 537 538 2 = true := by decide +kernel
theorem x_L_isRound_273 {L : am_S} {n : Nat} {ls st r p0 av : List Value} {M : am_M} {Q : am_Q} (hn : mt_c mt_L_days ≤ n) (hL : mt_w mt_L_days = true → L.1 = mt_x mt_L_days) (hst : st = p0 ++ r) (hav : av = p0.reverse) (hlen : av.length = 2) (hcat : am_cat r ≤ 8) (C : am_C mt_L_days av M (fun oc M' => ∃ v, oc = .inl v ∧ am_R L mt_L_isRound (if mt_g mt_L_days then n - mt_c mt_L_days else n) (273 + 3) ls (v.toList ++ r) M' Q)) : am_R L mt_L_isRound n 273 ls st M Q := am_R_special om_L_days hn (by decide) (fun h => ⟨rfl, hL h⟩) o_L_isRound_273 hst hav hlen hcat C
def k_L_isRound_276 : List am_I := [(.ifCond .ne 5, 3, 0, 0, 0), (.iconst 0, 1, 0, 0, 0), (.ireturn, 1, 0, 0, 0)]
set_option maxRecDepth 20000 in
theorem o_L_isRound_276 : am_okB mt_L_isRound 276 k_L_isRound_276 = true := by decide +kernel
theorem g_L_isRound_276 {L : am_S} (hL : L.1 < 2 ^ 31) {n : Nat} {ls st : List Value} {M : am_M} {Q : am_Q} (h : am_B L mt_L_isRound k_L_isRound_276 n 276 ls st M Q) : am_R L mt_L_isRound n 276 ls st M Q := am_go L mt_L_isRound (fun _ => hL) k_L_isRound_276 n 276 ls st M Q o_L_isRound_276 h
def k_L_isRound_281 : List am_I := [(.aload_n 0, 1, 0, 0, 0), (.aload 5, 2, 0, 0, 0)]
set_option maxRecDepth 20000 in
theorem o_L_isRound_281 : am_okB mt_L_isRound 281 k_L_isRound_281 = true := by decide +kernel
theorem g_L_isRound_281 {L : am_S} (hL : L.1 < 2 ^ 31) {n : Nat} {ls st : List Value} {M : am_M} {Q : am_Q} (h : am_B L mt_L_isRound k_L_isRound_281 n 281 ls st M Q) : am_R L mt_L_isRound n 281 ls st M Q := am_go L mt_L_isRound (fun _ => hL) k_L_isRound_281 n 281 ls st M Q o_L_isRound_281 h
set_option maxRecDepth 20000 in
theorem o_L_isRound_284 : am_ckS mt_L_isRound mt_L_look 284 132 540 541 2 = true := by decide +kernel
theorem x_L_isRound_284 {L : am_S} {n : Nat} {ls st r p0 av : List Value} {M : am_M} {Q : am_Q} (hn : mt_c mt_L_look ≤ n) (hL : mt_w mt_L_look = true → L.1 = mt_x mt_L_look) (hst : st = p0 ++ r) (hav : av = p0.reverse) (hlen : av.length = 2) (hcat : am_cat r ≤ 8) (C : am_C mt_L_look av M (fun oc M' => ∃ v, oc = .inl v ∧ am_R L mt_L_isRound (if mt_g mt_L_look then n - mt_c mt_L_look else n) (284 + 3) ls (v.toList ++ r) M' Q)) : am_R L mt_L_isRound n 284 ls st M Q := am_R_special om_L_look hn (by decide) (fun h => ⟨rfl, hL h⟩) o_L_isRound_284 hst hav hlen hcat C
def k_L_isRound_287 : List am_I := [(.aload_n 0, 1, 0, 0, 0), (.iload_n 3, 1, 0, 0, 0)]
set_option maxRecDepth 20000 in
theorem o_L_isRound_287 : am_okB mt_L_isRound 287 k_L_isRound_287 = true := by decide +kernel
theorem g_L_isRound_287 {L : am_S} (hL : L.1 < 2 ^ 31) {n : Nat} {ls st : List Value} {M : am_M} {Q : am_Q} (h : am_B L mt_L_isRound k_L_isRound_287 n 287 ls st M Q) : am_R L mt_L_isRound n 287 ls st M Q := am_go L mt_L_isRound (fun _ => hL) k_L_isRound_287 n 287 ls st M Q o_L_isRound_287 h
set_option maxRecDepth 20000 in
theorem o_L_isRound_289 : am_ckS mt_L_isRound mt_L_days 289 128 537 538 2 = true := by decide +kernel
theorem x_L_isRound_289 {L : am_S} {n : Nat} {ls st r p0 av : List Value} {M : am_M} {Q : am_Q} (hn : mt_c mt_L_days ≤ n) (hL : mt_w mt_L_days = true → L.1 = mt_x mt_L_days) (hst : st = p0 ++ r) (hav : av = p0.reverse) (hlen : av.length = 2) (hcat : am_cat r ≤ 8) (C : am_C mt_L_days av M (fun oc M' => ∃ v, oc = .inl v ∧ am_R L mt_L_isRound (if mt_g mt_L_days then n - mt_c mt_L_days else n) (289 + 3) ls (v.toList ++ r) M' Q)) : am_R L mt_L_isRound n 289 ls st M Q := am_R_special om_L_days hn (by decide) (fun h => ⟨rfl, hL h⟩) o_L_isRound_289 hst hav hlen hcat C
def k_L_isRound_292 : List am_I := [(.ifCond .eq 20, 3, 0, 0, 0), (.aload_n 0, 1, 0, 0, 0), (.aload 5, 2, 0, 0, 0)]
set_option maxRecDepth 20000 in
theorem o_L_isRound_292 : am_okB mt_L_isRound 292 k_L_isRound_292 = true := by decide +kernel
theorem g_L_isRound_292 {L : am_S} (hL : L.1 < 2 ^ 31) {n : Nat} {ls st : List Value} {M : am_M} {Q : am_Q} (h : am_B L mt_L_isRound k_L_isRound_292 n 292 ls st M Q) : am_R L mt_L_isRound n 292 ls st M Q := am_go L mt_L_isRound (fun _ => hL) k_L_isRound_292 n 292 ls st M Q o_L_isRound_292 h
set_option maxRecDepth 20000 in
theorem o_L_isRound_298 : am_ckS mt_L_isRound mt_L_isLook 298 136 543 544 2 = true := by decide +kernel
theorem x_L_isRound_298 {L : am_S} {n : Nat} {ls st r p0 av : List Value} {M : am_M} {Q : am_Q} (hn : mt_c mt_L_isLook ≤ n) (hL : mt_w mt_L_isLook = true → L.1 = mt_x mt_L_isLook) (hst : st = p0 ++ r) (hav : av = p0.reverse) (hlen : av.length = 2) (hcat : am_cat r ≤ 8) (C : am_C mt_L_isLook av M (fun oc M' => ∃ v, oc = .inl v ∧ am_R L mt_L_isRound (if mt_g mt_L_isLook then n - mt_c mt_L_isLook else n) (298 + 3) ls (v.toList ++ r) M' Q)) : am_R L mt_L_isRound n 298 ls st M Q := am_R_special om_L_isLook hn (by decide) (fun h => ⟨rfl, hL h⟩) o_L_isRound_298 hst hav hlen hcat C
def k_L_isRound_301 : List am_I := [(.ifCond .ne 11, 3, 0, 0, 0), (.aload_n 0, 1, 0, 0, 0), (.iconst 1, 1, 0, 0, 0), (.invokestatic 123, 3, 65, 2, 319), (.ifCond .ge 5, 3, 0, 0, 0)]
set_option maxRecDepth 20000 in
theorem o_L_isRound_301 : am_okB mt_L_isRound 301 k_L_isRound_301 = true := by decide +kernel
theorem g_L_isRound_301 {L : am_S} (hL : L.1 < 2 ^ 31) {n : Nat} {ls st : List Value} {M : am_M} {Q : am_Q} (h : am_B L mt_L_isRound k_L_isRound_301 n 301 ls st M Q) : am_R L mt_L_isRound n 301 ls st M Q := am_go L mt_L_isRound (fun _ => hL) k_L_isRound_301 n 301 ls st M Q o_L_isRound_301 h
def k_L_isRound_312 : List am_I := [(.iconst 0, 1, 0, 0, 0), (.ireturn, 1, 0, 0, 0)]
set_option maxRecDepth 20000 in
theorem o_L_isRound_312 : am_okB mt_L_isRound 312 k_L_isRound_312 = true := by decide +kernel
theorem g_L_isRound_312 {L : am_S} (hL : L.1 < 2 ^ 31) {n : Nat} {ls st : List Value} {M : am_M} {Q : am_Q} (h : am_B L mt_L_isRound k_L_isRound_312 n 312 ls st M Q) : am_R L mt_L_isRound n 312 ls st M Q := am_go L mt_L_isRound (fun _ => hL) k_L_isRound_312 n 312 ls st M Q o_L_isRound_312 h
def k_L_isRound_314 : List am_I := [(.aload_n 0, 1, 0, 0, 0), (.invokestatic 111, 3, 68, 1, 358), (.lload_n 1, 1, 0, 0, 0), (.lcmp, 1, 0, 0, 0), (.ifCond .ne 7, 3, 0, 0, 0), (.iconst 1, 1, 0, 0, 0), (.goto 4, 3, 0, 0, 0)]
set_option maxRecDepth 20000 in
theorem o_L_isRound_314 : am_okB mt_L_isRound 314 k_L_isRound_314 = true := by decide +kernel
theorem g_L_isRound_314 {L : am_S} (hL : L.1 < 2 ^ 31) {n : Nat} {ls st : List Value} {M : am_M} {Q : am_Q} (h : am_B L mt_L_isRound k_L_isRound_314 n 314 ls st M Q) : am_R L mt_L_isRound n 314 ls st M Q := am_go L mt_L_isRound (fun _ => hL) k_L_isRound_314 n 314 ls st M Q o_L_isRound_314 h
def k_L_isRound_327 : List am_I := [(.iconst 0, 1, 0, 0, 0)]
set_option maxRecDepth 20000 in
theorem o_L_isRound_327 : am_okB mt_L_isRound 327 k_L_isRound_327 = true := by decide +kernel
theorem g_L_isRound_327 {L : am_S} (hL : L.1 < 2 ^ 31) {n : Nat} {ls st : List Value} {M : am_M} {Q : am_Q} (h : am_B L mt_L_isRound k_L_isRound_327 n 327 ls st M Q) : am_R L mt_L_isRound n 327 ls st M Q := am_go L mt_L_isRound (fun _ => hL) k_L_isRound_327 n 327 ls st M Q o_L_isRound_327 h
def k_L_isRound_328 : List am_I := [(.ireturn, 1, 0, 0, 0)]
set_option maxRecDepth 20000 in
theorem o_L_isRound_328 : am_okB mt_L_isRound 328 k_L_isRound_328 = true := by decide +kernel
theorem g_L_isRound_328 {L : am_S} (hL : L.1 < 2 ^ 31) {n : Nat} {ls st : List Value} {M : am_M} {Q : am_Q} (h : am_B L mt_L_isRound k_L_isRound_328 n 328 ls st M Q) : am_R L mt_L_isRound n 328 ls st M Q := am_go L mt_L_isRound (fun _ => hL) k_L_isRound_328 n 328 ls st M Q o_L_isRound_328 h
def k_L_isMain_0 : List am_I := [(.aload_n 0, 1, 0, 0, 0), (.invokestatic 111, 3, 68, 1, 358), (.lstore_n 1, 1, 0, 0, 0), (.aload_n 0, 1, 0, 0, 0), (.invokevirtual 140, 3, 44, 1, 303), (.istore_n 3, 1, 0, 0, 0), (.iconst (-1), 1, 0, 0, 0), (.istore 4, 2, 0, 0, 0), (.iconst 0, 1, 0, 0, 0), (.istore 5, 2, 0, 0, 0), (.aload_n 0, 1, 0, 0, 0), (.iconst 2, 1, 0, 0, 0), (.invokevirtual 62, 3, 40, 2, 363), (.istore 6, 2, 0, 0, 0), (.iconst 0, 1, 0, 0, 0), (.istore 7, 2, 0, 0, 0)]
set_option maxRecDepth 20000 in
theorem o_L_isMain_0 : am_okB mt_L_isMain 0 k_L_isMain_0 = true := by decide +kernel
theorem g_L_isMain_0 {L : am_S} {n : Nat} {ls st : List Value} {M : am_M} {Q : am_Q} (h : am_B L mt_L_isMain k_L_isMain_0 n 0 ls st M Q) : am_R L mt_L_isMain n 0 ls st M Q := am_go L mt_L_isMain (fun h => by cases h) k_L_isMain_0 n 0 ls st M Q o_L_isMain_0 h
def k_L_isMain_26 : List am_I := [(.iload 7, 2, 0, 0, 0), (.iload 6, 2, 0, 0, 0), (.if_icmp .ge 90, 3, 0, 0, 0), (.aload_n 0, 1, 0, 0, 0), (.iload 7, 2, 0, 0, 0), (.invokestatic 99, 3, 61, 2, 483), (.iload 6, 2, 0, 0, 0), (.iconst 1, 1, 0, 0, 0), (.isub, 1, 0, 0, 0), (.if_icmp .eq 5, 3, 0, 0, 0), (.iconst 0, 1, 0, 0, 0), (.ireturn, 1, 0, 0, 0)]
set_option maxRecDepth 20000 in
theorem o_L_isMain_26 : am_okB mt_L_isMain 26 k_L_isMain_26 = true := by decide +kernel
theorem g_L_isMain_26 {L : am_S} {n : Nat} {ls st : List Value} {M : am_M} {Q : am_Q} (h : am_B L mt_L_isMain k_L_isMain_26 n 26 ls st M Q) : am_R L mt_L_isMain n 26 ls st M Q := am_go L mt_L_isMain (fun h => by cases h) k_L_isMain_26 n 26 ls st M Q o_L_isMain_26 h
def k_L_isMain_48 : List am_I := [(.aload_n 0, 1, 0, 0, 0), (.bipush 24, 2, 0, 0, 0), (.invokestatic 105, 3, 64, 2, 505), (.istore 8, 2, 0, 0, 0), (.iload 8, 2, 0, 0, 0), (.ifCond .lt 17, 3, 0, 0, 0), (.aload_n 0, 1, 0, 0, 0), (.invokestatic 143, 3, 66, 1, 350), (.ifCond .lt 10, 3, 0, 0, 0), (.aload_n 0, 1, 0, 0, 0), (.invokestatic 143, 3, 66, 1, 350), (.ifCond .ge 5, 3, 0, 0, 0)]
set_option maxRecDepth 20000 in
theorem o_L_isMain_48 : am_okB mt_L_isMain 48 k_L_isMain_48 = true := by decide +kernel
theorem g_L_isMain_48 {L : am_S} {n : Nat} {ls st : List Value} {M : am_M} {Q : am_Q} (h : am_B L mt_L_isMain k_L_isMain_48 n 48 ls st M Q) : am_R L mt_L_isMain n 48 ls st M Q := am_go L mt_L_isMain (fun h => by cases h) k_L_isMain_48 n 48 ls st M Q o_L_isMain_48 h
def k_L_isMain_75 : List am_I := [(.iconst 0, 1, 0, 0, 0), (.ireturn, 1, 0, 0, 0)]
set_option maxRecDepth 20000 in
theorem o_L_isMain_75 : am_okB mt_L_isMain 75 k_L_isMain_75 = true := by decide +kernel
theorem g_L_isMain_75 {L : am_S} {n : Nat} {ls st : List Value} {M : am_M} {Q : am_Q} (h : am_B L mt_L_isMain k_L_isMain_75 n 75 ls st M Q) : am_R L mt_L_isMain n 75 ls st M Q := am_go L mt_L_isMain (fun h => by cases h) k_L_isMain_75 n 75 ls st M Q o_L_isMain_75 h
def k_L_isMain_77 : List am_I := [(.iload 4, 2, 0, 0, 0), (.ifCond .lt 10, 3, 0, 0, 0), (.iload 8, 2, 0, 0, 0), (.iload 5, 2, 0, 0, 0), (.if_icmp .ge 8, 3, 0, 0, 0)]
set_option maxRecDepth 20000 in
theorem o_L_isMain_77 : am_okB mt_L_isMain 77 k_L_isMain_77 = true := by decide +kernel
theorem g_L_isMain_77 {L : am_S} {n : Nat} {ls st : List Value} {M : am_M} {Q : am_Q} (h : am_B L mt_L_isMain k_L_isMain_77 n 77 ls st M Q) : am_R L mt_L_isMain n 77 ls st M Q := am_go L mt_L_isMain (fun h => by cases h) k_L_isMain_77 n 77 ls st M Q o_L_isMain_77 h
def k_L_isMain_89 : List am_I := [(.iload 7, 2, 0, 0, 0), (.goto 5, 3, 0, 0, 0)]
set_option maxRecDepth 20000 in
theorem o_L_isMain_89 : am_okB mt_L_isMain 89 k_L_isMain_89 = true := by decide +kernel
theorem g_L_isMain_89 {L : am_S} {n : Nat} {ls st : List Value} {M : am_M} {Q : am_Q} (h : am_B L mt_L_isMain k_L_isMain_89 n 89 ls st M Q) : am_R L mt_L_isMain n 89 ls st M Q := am_go L mt_L_isMain (fun h => by cases h) k_L_isMain_89 n 89 ls st M Q o_L_isMain_89 h
def k_L_isMain_94 : List am_I := [(.iload 4, 2, 0, 0, 0)]
set_option maxRecDepth 20000 in
theorem o_L_isMain_94 : am_okB mt_L_isMain 94 k_L_isMain_94 = true := by decide +kernel
theorem g_L_isMain_94 {L : am_S} {n : Nat} {ls st : List Value} {M : am_M} {Q : am_Q} (h : am_B L mt_L_isMain k_L_isMain_94 n 94 ls st M Q) : am_R L mt_L_isMain n 94 ls st M Q := am_go L mt_L_isMain (fun h => by cases h) k_L_isMain_94 n 94 ls st M Q o_L_isMain_94 h
def k_L_isMain_96 : List am_I := [(.istore 4, 2, 0, 0, 0), (.iload 4, 2, 0, 0, 0), (.iload 7, 2, 0, 0, 0), (.if_icmp .ne 8, 3, 0, 0, 0), (.iload 8, 2, 0, 0, 0), (.goto 5, 3, 0, 0, 0)]
set_option maxRecDepth 20000 in
theorem o_L_isMain_96 : am_okB mt_L_isMain 96 k_L_isMain_96 = true := by decide +kernel
theorem g_L_isMain_96 {L : am_S} {n : Nat} {ls st : List Value} {M : am_M} {Q : am_Q} (h : am_B L mt_L_isMain k_L_isMain_96 n 96 ls st M Q) : am_R L mt_L_isMain n 96 ls st M Q := am_go L mt_L_isMain (fun h => by cases h) k_L_isMain_96 n 96 ls st M Q o_L_isMain_96 h
def k_L_isMain_110 : List am_I := [(.iload 5, 2, 0, 0, 0)]
set_option maxRecDepth 20000 in
theorem o_L_isMain_110 : am_okB mt_L_isMain 110 k_L_isMain_110 = true := by decide +kernel
theorem g_L_isMain_110 {L : am_S} {n : Nat} {ls st : List Value} {M : am_M} {Q : am_Q} (h : am_B L mt_L_isMain k_L_isMain_110 n 110 ls st M Q) : am_R L mt_L_isMain n 110 ls st M Q := am_go L mt_L_isMain (fun h => by cases h) k_L_isMain_110 n 110 ls st M Q o_L_isMain_110 h
def k_L_isMain_112 : List am_I := [(.istore 5, 2, 0, 0, 0), (.iinc 7 1, 3, 0, 0, 0), (.goto (-91), 3, 0, 0, 0)]
set_option maxRecDepth 20000 in
theorem o_L_isMain_112 : am_okB mt_L_isMain 112 k_L_isMain_112 = true := by decide +kernel
theorem g_L_isMain_112 {L : am_S} {n : Nat} {ls st : List Value} {M : am_M} {Q : am_Q} (h : am_B L mt_L_isMain k_L_isMain_112 n 112 ls st M Q) : am_R L mt_L_isMain n 112 ls st M Q := am_go L mt_L_isMain (fun h => by cases h) k_L_isMain_112 n 112 ls st M Q o_L_isMain_112 h
def k_L_isMain_120 : List am_I := [(.iload_n 3, 1, 0, 0, 0), (.iload 4, 2, 0, 0, 0), (.if_icmp .ne 16, 3, 0, 0, 0), (.aload_n 0, 1, 0, 0, 0), (.invokestatic 111, 3, 68, 1, 358), (.lload_n 1, 1, 0, 0, 0), (.lcmp, 1, 0, 0, 0), (.ifCond .ne 7, 3, 0, 0, 0), (.iconst 1, 1, 0, 0, 0), (.goto 4, 3, 0, 0, 0)]
set_option maxRecDepth 20000 in
theorem o_L_isMain_120 : am_okB mt_L_isMain 120 k_L_isMain_120 = true := by decide +kernel
theorem g_L_isMain_120 {L : am_S} {n : Nat} {ls st : List Value} {M : am_M} {Q : am_Q} (h : am_B L mt_L_isMain k_L_isMain_120 n 120 ls st M Q) : am_R L mt_L_isMain n 120 ls st M Q := am_go L mt_L_isMain (fun h => by cases h) k_L_isMain_120 n 120 ls st M Q o_L_isMain_120 h
def k_L_isMain_139 : List am_I := [(.iconst 0, 1, 0, 0, 0)]
set_option maxRecDepth 20000 in
theorem o_L_isMain_139 : am_okB mt_L_isMain 139 k_L_isMain_139 = true := by decide +kernel
theorem g_L_isMain_139 {L : am_S} {n : Nat} {ls st : List Value} {M : am_M} {Q : am_Q} (h : am_B L mt_L_isMain k_L_isMain_139 n 139 ls st M Q) : am_R L mt_L_isMain n 139 ls st M Q := am_go L mt_L_isMain (fun h => by cases h) k_L_isMain_139 n 139 ls st M Q o_L_isMain_139 h
def k_L_isMain_140 : List am_I := [(.ireturn, 1, 0, 0, 0)]
set_option maxRecDepth 20000 in
theorem o_L_isMain_140 : am_okB mt_L_isMain 140 k_L_isMain_140 = true := by decide +kernel
theorem g_L_isMain_140 {L : am_S} {n : Nat} {ls st : List Value} {M : am_M} {Q : am_Q} (h : am_B L mt_L_isMain k_L_isMain_140 n 140 ls st M Q) : am_R L mt_L_isMain n 140 ls st M Q := am_go L mt_L_isMain (fun h => by cases h) k_L_isMain_140 n 140 ls st M Q o_L_isMain_140 h
def k_L_law_8 : List am_I := [(.aload_n 1, 1, 0, 0, 0), (.iconst 0, 1, 0, 0, 0), (.invokevirtual 125, 3, 43, 2, 257), (.iconst 1, 1, 0, 0, 0), (.if_icmp .ne 53, 3, 0, 0, 0), (.aload_n 1, 1, 0, 0, 0), (.iconst 1, 1, 0, 0, 0), (.invokevirtual 125, 3, 43, 2, 257), (.ifCond .ne 45, 3, 0, 0, 0), (.aload_n 1, 1, 0, 0, 0), (.invokevirtual 140, 3, 44, 1, 303), (.iconst (-1), 1, 0, 0, 0), (.if_icmp .ne 37, 3, 0, 0, 0), (.aload_n 1, 1, 0, 0, 0), (.iconst 0, 1, 0, 0, 0), (.invokevirtual 115, 3, 42, 2, 133), (.ifCond .ne 29, 3, 0, 0, 0), (.aload_n 1, 1, 0, 0, 0), (.invokestatic 143, 3, 66, 1, 350), (.bipush (-33), 2, 0, 0, 0), (.if_icmp .ne 20, 3, 0, 0, 0), (.aload_n 1, 1, 0, 0, 0), (.iconst 1, 1, 0, 0, 0), (.invokestatic 123, 3, 65, 2, 319), (.bipush (-33), 2, 0, 0, 0), (.if_icmp .ne 10, 3, 0, 0, 0), (.aload_n 1, 1, 0, 0, 0), (.invokestatic 147, 3, 70, 1, 513), (.ifCond .ne 5, 3, 0, 0, 0)]
set_option maxRecDepth 20000 in
theorem o_L_law_8 : am_okB mt_L_law 8 k_L_law_8 = true := by decide +kernel
theorem g_L_law_8 {L : am_S} (hL : L.1 < 2 ^ 31) {n : Nat} {ls st : List Value} {M : am_M} {Q : am_Q} (h : am_B L mt_L_law k_L_law_8 n 8 ls st M Q) : am_R L mt_L_law n 8 ls st M Q := am_go L mt_L_law (fun _ => hL) k_L_law_8 n 8 ls st M Q o_L_law_8 h
def k_L_law_67 : List am_I := [(.iconst 0, 1, 0, 0, 0), (.ireturn, 1, 0, 0, 0)]
set_option maxRecDepth 20000 in
theorem o_L_law_67 : am_okB mt_L_law 67 k_L_law_67 = true := by decide +kernel
theorem g_L_law_67 {L : am_S} (hL : L.1 < 2 ^ 31) {n : Nat} {ls st : List Value} {M : am_M} {Q : am_Q} (h : am_B L mt_L_law k_L_law_67 n 67 ls st M Q) : am_R L mt_L_law n 67 ls st M Q := am_go L mt_L_law (fun _ => hL) k_L_law_67 n 67 ls st M Q o_L_law_67 h
def k_L_law_69 : List am_I := [(.iconst 0, 1, 0, 0, 0), (.istore_n 2, 1, 0, 0, 0)]
set_option maxRecDepth 20000 in
theorem o_L_law_69 : am_okB mt_L_law 69 k_L_law_69 = true := by decide +kernel
theorem g_L_law_69 {L : am_S} (hL : L.1 < 2 ^ 31) {n : Nat} {ls st : List Value} {M : am_M} {Q : am_Q} (h : am_B L mt_L_law k_L_law_69 n 69 ls st M Q) : am_R L mt_L_law n 69 ls st M Q := am_go L mt_L_law (fun _ => hL) k_L_law_69 n 69 ls st M Q o_L_law_69 h
def k_L_law_71 : List am_I := [(.iload_n 2, 1, 0, 0, 0), (.bipush 30, 2, 0, 0, 0), (.if_icmp .ge 161, 3, 0, 0, 0), (.aload_n 0, 1, 0, 0, 0), (.iconst 2, 1, 0, 0, 0), (.iload_n 2, 1, 0, 0, 0), (.imul, 1, 0, 0, 0)]
set_option maxRecDepth 20000 in
theorem o_L_law_71 : am_okB mt_L_law 71 k_L_law_71 = true := by decide +kernel
theorem g_L_law_71 {L : am_S} (hL : L.1 < 2 ^ 31) {n : Nat} {ls st : List Value} {M : am_M} {Q : am_Q} (h : am_B L mt_L_law k_L_law_71 n 71 ls st M Q) : am_R L mt_L_law n 71 ls st M Q := am_go L mt_L_law (fun _ => hL) k_L_law_71 n 71 ls st M Q o_L_law_71 h
def k_L_law_84 : List am_I := [(.istore_n 3, 1, 0, 0, 0), (.aload_n 0, 1, 0, 0, 0), (.iconst 2, 1, 0, 0, 0), (.iload_n 2, 1, 0, 0, 0), (.imul, 1, 0, 0, 0), (.iconst 1, 1, 0, 0, 0), (.iadd, 1, 0, 0, 0)]
set_option maxRecDepth 20000 in
theorem o_L_law_84 : am_okB mt_L_law 84 k_L_law_84 = true := by decide +kernel
theorem g_L_law_84 {L : am_S} (hL : L.1 < 2 ^ 31) {n : Nat} {ls st : List Value} {M : am_M} {Q : am_Q} (h : am_B L mt_L_law k_L_law_84 n 84 ls st M Q) : am_R L mt_L_law n 84 ls st M Q := am_go L mt_L_law (fun _ => hL) k_L_law_84 n 84 ls st M Q o_L_law_84 h
def k_L_law_94 : List am_I := [(.istore 4, 2, 0, 0, 0), (.iload_n 2, 1, 0, 0, 0), (.iconst 5, 1, 0, 0, 0), (.irem, 1, 0, 0, 0), (.ifCond .ne 10, 3, 0, 0, 0), (.aload_n 1, 1, 0, 0, 0), (.invokestatic 111, 3, 68, 1, 358), (.goto 4, 3, 0, 0, 0)]
set_option maxRecDepth 20000 in
theorem o_L_law_94 : am_okB mt_L_law 94 k_L_law_94 = true := by decide +kernel
theorem g_L_law_94 {L : am_S} (hL : L.1 < 2 ^ 31) {n : Nat} {ls st : List Value} {M : am_M} {Q : am_Q} (h : am_B L mt_L_law k_L_law_94 n 94 ls st M Q) : am_R L mt_L_law n 94 ls st M Q := am_go L mt_L_law (fun _ => hL) k_L_law_94 n 94 ls st M Q o_L_law_94 h
def k_L_law_109 : List am_I := [(.lconst 0, 1, 0, 0, 0)]
set_option maxRecDepth 20000 in
theorem o_L_law_109 : am_okB mt_L_law 109 k_L_law_109 = true := by decide +kernel
theorem g_L_law_109 {L : am_S} (hL : L.1 < 2 ^ 31) {n : Nat} {ls st : List Value} {M : am_M} {Q : am_Q} (h : am_B L mt_L_law k_L_law_109 n 109 ls st M Q) : am_R L mt_L_law n 109 ls st M Q := am_go L mt_L_law (fun _ => hL) k_L_law_109 n 109 ls st M Q o_L_law_109 h
def k_L_law_110 : List am_I := [(.lstore 5, 2, 0, 0, 0), (.aload_n 1, 1, 0, 0, 0), (.iload_n 2, 1, 0, 0, 0), (.iconst 3, 1, 0, 0, 0), (.if_icmp .ge 7, 3, 0, 0, 0), (.iconst 0, 1, 0, 0, 0), (.goto 4, 3, 0, 0, 0)]
set_option maxRecDepth 20000 in
theorem o_L_law_110 : am_okB mt_L_law 110 k_L_law_110 = true := by decide +kernel
theorem g_L_law_110 {L : am_S} (hL : L.1 < 2 ^ 31) {n : Nat} {ls st : List Value} {M : am_M} {Q : am_Q} (h : am_B L mt_L_law k_L_law_110 n 110 ls st M Q) : am_R L mt_L_law n 110 ls st M Q := am_go L mt_L_law (fun _ => hL) k_L_law_110 n 110 ls st M Q o_L_law_110 h
def k_L_law_122 : List am_I := [(.iload_n 3, 1, 0, 0, 0)]
set_option maxRecDepth 20000 in
theorem o_L_law_122 : am_okB mt_L_law 122 k_L_law_122 = true := by decide +kernel
theorem g_L_law_122 {L : am_S} (hL : L.1 < 2 ^ 31) {n : Nat} {ls st : List Value} {M : am_M} {Q : am_Q} (h : am_B L mt_L_law k_L_law_122 n 122 ls st M Q) : am_R L mt_L_law n 122 ls st M Q := am_go L mt_L_law (fun _ => hL) k_L_law_122 n 122 ls st M Q o_L_law_122 h
def k_L_law_123 : List am_I := [(.iload 4, 2, 0, 0, 0), (.invokestatic 155, 3, 69, 3, 429), (.istore 7, 2, 0, 0, 0), (.iload_n 2, 1, 0, 0, 0), (.iconst 5, 1, 0, 0, 0), (.irem, 1, 0, 0, 0), (.ifCond .ne 19, 3, 0, 0, 0), (.iload 7, 2, 0, 0, 0), (.iconst (-1), 1, 0, 0, 0), (.if_icmp .ge 13, 3, 0, 0, 0), (.aload_n 1, 1, 0, 0, 0), (.invokestatic 111, 3, 68, 1, 358), (.lload 5, 2, 0, 0, 0), (.lcmp, 1, 0, 0, 0), (.ifCond .ne 10, 3, 0, 0, 0)]
set_option maxRecDepth 20000 in
theorem o_L_law_123 : am_okB mt_L_law 123 k_L_law_123 = true := by decide +kernel
theorem g_L_law_123 {L : am_S} (hL : L.1 < 2 ^ 31) {n : Nat} {ls st : List Value} {M : am_M} {Q : am_Q} (h : am_B L mt_L_law k_L_law_123 n 123 ls st M Q) : am_R L mt_L_law n 123 ls st M Q := am_go L mt_L_law (fun _ => hL) k_L_law_123 n 123 ls st M Q o_L_law_123 h
def k_L_law_152 : List am_I := [(.aload_n 1, 1, 0, 0, 0), (.invokestatic 147, 3, 70, 1, 513), (.ifCond .ne 5, 3, 0, 0, 0)]
set_option maxRecDepth 20000 in
theorem o_L_law_152 : am_okB mt_L_law 152 k_L_law_152 = true := by decide +kernel
theorem g_L_law_152 {L : am_S} (hL : L.1 < 2 ^ 31) {n : Nat} {ls st : List Value} {M : am_M} {Q : am_Q} (h : am_B L mt_L_law k_L_law_152 n 152 ls st M Q) : am_R L mt_L_law n 152 ls st M Q := am_go L mt_L_law (fun _ => hL) k_L_law_152 n 152 ls st M Q o_L_law_152 h
def k_L_law_159 : List am_I := [(.iconst 0, 1, 0, 0, 0), (.ireturn, 1, 0, 0, 0)]
set_option maxRecDepth 20000 in
theorem o_L_law_159 : am_okB mt_L_law 159 k_L_law_159 = true := by decide +kernel
theorem g_L_law_159 {L : am_S} (hL : L.1 < 2 ^ 31) {n : Nat} {ls st : List Value} {M : am_M} {Q : am_Q} (h : am_B L mt_L_law k_L_law_159 n 159 ls st M Q) : am_R L mt_L_law n 159 ls st M Q := am_go L mt_L_law (fun _ => hL) k_L_law_159 n 159 ls st M Q o_L_law_159 h
def k_L_law_161 : List am_I := [(.iload_n 2, 1, 0, 0, 0), (.bipush 6, 2, 0, 0, 0), (.irem, 1, 0, 0, 0), (.iconst 3, 1, 0, 0, 0), (.if_icmp .ne 29, 3, 0, 0, 0), (.aload_n 1, 1, 0, 0, 0), (.iconst 1, 1, 0, 0, 0), (.iload_n 3, 1, 0, 0, 0), (.iconst 5, 1, 0, 0, 0), (.ishr, 1, 0, 0, 0), (.sipush 240, 3, 0, 0, 0), (.invokestatic 80, 3, 55, 2, 315), (.iadd, 1, 0, 0, 0), (.iload_n 3, 1, 0, 0, 0), (.bipush 13, 2, 0, 0, 0), (.ishr, 1, 0, 0, 0), (.iconst 5, 1, 0, 0, 0), (.invokestatic 80, 3, 55, 2, 315)]
set_option maxRecDepth 20000 in
theorem o_L_law_161 : am_okB mt_L_law 161 k_L_law_161 = true := by decide +kernel
theorem g_L_law_161 {L : am_S} (hL : L.1 < 2 ^ 31) {n : Nat} {ls st : List Value} {M : am_M} {Q : am_Q} (h : am_B L mt_L_law k_L_law_161 n 161 ls st M Q) : am_R L mt_L_law n 161 ls st M Q := am_go L mt_L_law (fun _ => hL) k_L_law_161 n 161 ls st M Q o_L_law_161 h
set_option maxRecDepth 20000 in
theorem o_L_law_189 : am_ckS mt_L_law mt_L_isAhead 189 158 520 521 3 = true := by decide +kernel
theorem x_L_law_189 {L : am_S} {n : Nat} {ls st r p0 av : List Value} {M : am_M} {Q : am_Q} (hn : mt_c mt_L_isAhead ≤ n) (hL : mt_w mt_L_isAhead = true → L.1 = mt_x mt_L_isAhead) (hst : st = p0 ++ r) (hav : av = p0.reverse) (hlen : av.length = 3) (hcat : am_cat r ≤ 8) (C : am_C mt_L_isAhead av M (fun oc M' => ∃ v, oc = .inl v ∧ am_R L mt_L_law (if mt_g mt_L_isAhead then n - mt_c mt_L_isAhead else n) (189 + 3) ls (v.toList ++ r) M' Q)) : am_R L mt_L_law n 189 ls st M Q := am_R_special om_L_isAhead hn (by decide) (fun h => ⟨rfl, hL h⟩) o_L_law_189 hst hav hlen hcat C
def k_L_law_192 : List am_I := [(.ifCond .eq 35, 3, 0, 0, 0)]
set_option maxRecDepth 20000 in
theorem o_L_law_192 : am_okB mt_L_law 192 k_L_law_192 = true := by decide +kernel
theorem g_L_law_192 {L : am_S} (hL : L.1 < 2 ^ 31) {n : Nat} {ls st : List Value} {M : am_M} {Q : am_Q} (h : am_B L mt_L_law k_L_law_192 n 192 ls st M Q) : am_R L mt_L_law n 192 ls st M Q := am_go L mt_L_law (fun _ => hL) k_L_law_192 n 192 ls st M Q o_L_law_192 h
def k_L_law_195 : List am_I := [(.iload_n 2, 1, 0, 0, 0), (.bipush 15, 2, 0, 0, 0), (.irem, 1, 0, 0, 0), (.bipush 14, 2, 0, 0, 0), (.if_icmp .ne 10, 3, 0, 0, 0), (.aload_n 1, 1, 0, 0, 0)]
set_option maxRecDepth 20000 in
theorem o_L_law_195 : am_okB mt_L_law 195 k_L_law_195 = true := by decide +kernel
theorem g_L_law_195 {L : am_S} (hL : L.1 < 2 ^ 31) {n : Nat} {ls st : List Value} {M : am_M} {Q : am_Q} (h : am_B L mt_L_law k_L_law_195 n 195 ls st M Q) : am_R L mt_L_law n 195 ls st M Q := am_go L mt_L_law (fun _ => hL) k_L_law_195 n 195 ls st M Q o_L_law_195 h
set_option maxRecDepth 20000 in
theorem o_L_law_205 : am_ckS mt_L_law mt_L_isRound 205 162 534 535 1 = true := by decide +kernel
theorem x_L_law_205 {L : am_S} {n : Nat} {ls st r p0 av : List Value} {M : am_M} {Q : am_Q} (hn : mt_c mt_L_isRound ≤ n) (hL : mt_w mt_L_isRound = true → L.1 = mt_x mt_L_isRound) (hst : st = p0 ++ r) (hav : av = p0.reverse) (hlen : av.length = 1) (hcat : am_cat r ≤ 8) (C : am_C mt_L_isRound av M (fun oc M' => ∃ v, oc = .inl v ∧ am_R L mt_L_law (if mt_g mt_L_isRound then n - mt_c mt_L_isRound else n) (205 + 3) ls (v.toList ++ r) M' Q)) : am_R L mt_L_law n 205 ls st M Q := am_R_special om_L_isRound hn (by decide) (fun h => ⟨rfl, hL h⟩) o_L_law_205 hst hav hlen hcat C
def k_L_law_208 : List am_I := [(.ifCond .eq 19, 3, 0, 0, 0)]
set_option maxRecDepth 20000 in
theorem o_L_law_208 : am_okB mt_L_law 208 k_L_law_208 = true := by decide +kernel
theorem g_L_law_208 {L : am_S} (hL : L.1 < 2 ^ 31) {n : Nat} {ls st : List Value} {M : am_M} {Q : am_Q} (h : am_B L mt_L_law k_L_law_208 n 208 ls st M Q) : am_R L mt_L_law n 208 ls st M Q := am_go L mt_L_law (fun _ => hL) k_L_law_208 n 208 ls st M Q o_L_law_208 h
def k_L_law_211 : List am_I := [(.iload_n 2, 1, 0, 0, 0), (.bipush 8, 2, 0, 0, 0), (.irem, 1, 0, 0, 0), (.bipush 7, 2, 0, 0, 0), (.if_icmp .ne 12, 3, 0, 0, 0), (.aload_n 1, 1, 0, 0, 0)]
set_option maxRecDepth 20000 in
theorem o_L_law_211 : am_okB mt_L_law 211 k_L_law_211 = true := by decide +kernel
theorem g_L_law_211 {L : am_S} (hL : L.1 < 2 ^ 31) {n : Nat} {ls st : List Value} {M : am_M} {Q : am_Q} (h : am_B L mt_L_law k_L_law_211 n 211 ls st M Q) : am_R L mt_L_law n 211 ls st M Q := am_go L mt_L_law (fun _ => hL) k_L_law_211 n 211 ls st M Q o_L_law_211 h
set_option maxRecDepth 20000 in
theorem o_L_law_221 : am_ckS mt_L_law mt_L_isMain 221 165 546 547 1 = true := by decide +kernel
theorem x_L_law_221 {L : am_S} {n : Nat} {ls st r p0 av : List Value} {M : am_M} {Q : am_Q} (hn : mt_c mt_L_isMain ≤ n) (hL : mt_w mt_L_isMain = true → L.1 = mt_x mt_L_isMain) (hst : st = p0 ++ r) (hav : av = p0.reverse) (hlen : av.length = 1) (hcat : am_cat r ≤ 8) (C : am_C mt_L_isMain av M (fun oc M' => ∃ v, oc = .inl v ∧ am_R L mt_L_law (if mt_g mt_L_isMain then n - mt_c mt_L_isMain else n) (221 + 3) ls (v.toList ++ r) M' Q)) : am_R L mt_L_law n 221 ls st M Q := am_R_special om_L_isMain hn (by decide) (fun h => ⟨rfl, hL h⟩) o_L_law_221 hst hav hlen hcat C
def k_L_law_224 : List am_I := [(.ifCond .ne 5, 3, 0, 0, 0)]
set_option maxRecDepth 20000 in
theorem o_L_law_224 : am_okB mt_L_law 224 k_L_law_224 = true := by decide +kernel
theorem g_L_law_224 {L : am_S} (hL : L.1 < 2 ^ 31) {n : Nat} {ls st : List Value} {M : am_M} {Q : am_Q} (h : am_B L mt_L_law k_L_law_224 n 224 ls st M Q) : am_R L mt_L_law n 224 ls st M Q := am_go L mt_L_law (fun _ => hL) k_L_law_224 n 224 ls st M Q o_L_law_224 h
def k_L_law_227 : List am_I := [(.iconst 0, 1, 0, 0, 0), (.ireturn, 1, 0, 0, 0)]
set_option maxRecDepth 20000 in
theorem o_L_law_227 : am_okB mt_L_law 227 k_L_law_227 = true := by decide +kernel
theorem g_L_law_227 {L : am_S} (hL : L.1 < 2 ^ 31) {n : Nat} {ls st : List Value} {M : am_M} {Q : am_Q} (h : am_B L mt_L_law k_L_law_227 n 227 ls st M Q) : am_R L mt_L_law n 227 ls st M Q := am_go L mt_L_law (fun _ => hL) k_L_law_227 n 227 ls st M Q o_L_law_227 h
def k_L_law_229 : List am_I := [(.iinc 2 1, 3, 0, 0, 0), (.goto (-161), 3, 0, 0, 0)]
set_option maxRecDepth 20000 in
theorem o_L_law_229 : am_okB mt_L_law 229 k_L_law_229 = true := by decide +kernel
theorem g_L_law_229 {L : am_S} (hL : L.1 < 2 ^ 31) {n : Nat} {ls st : List Value} {M : am_M} {Q : am_Q} (h : am_B L mt_L_law k_L_law_229 n 229 ls st M Q) : am_R L mt_L_law n 229 ls st M Q := am_go L mt_L_law (fun _ => hL) k_L_law_229 n 229 ls st M Q o_L_law_229 h
def k_L_law_235 : List am_I := [(.iconst 1, 1, 0, 0, 0), (.ireturn, 1, 0, 0, 0)]
set_option maxRecDepth 20000 in
theorem o_L_law_235 : am_okB mt_L_law 235 k_L_law_235 = true := by decide +kernel
theorem g_L_law_235 {L : am_S} (hL : L.1 < 2 ^ 31) {n : Nat} {ls st : List Value} {M : am_M} {Q : am_Q} (h : am_B L mt_L_law k_L_law_235 n 235 ls st M Q) : am_R L mt_L_law n 235 ls st M Q := am_go L mt_L_law (fun _ => hL) k_L_law_235 n 235 ls st M Q o_L_law_235 h
end
section
/-! doubles: c * 2^(-52-j), as bits -/
theorem fq_min : FP.Core.Fmt.qmin FP.Core.b64 = -1074 := FP.Core.qmin_b64
theorem fq_max : FP.Core.Fmt.qmax FP.Core.b64 = 971 := by decide
theorem fq_p : FP.Core.Fmt.p FP.Core.b64 = 53 := rfl
def fdt (c j : Nat) : FP.Core.Datum := .fin false c (-52 - (j : Int))
def fD (c j : Nat) : UInt64 := FP.Core.of64 (fdt c j)
theorem fdt_fits {c j : Nat} (h1 : 2 ^ 52 ≤ c) (h2 : c < 2 ^ 53) (hj : j ≤ 100) : FP.Core.fits FP.Core.b64 (fdt c j) := by
  refine ⟨h2, ?_, ?_, Or.inr ?_⟩
  · rw [fq_min]; omega
  · rw [fq_max]; omega
  · rw [FP.Core.tails_b64]; exact h1
theorem fD_val {c j : Nat} (h1 : 2 ^ 52 ≤ c) (h2 : c < 2 ^ 53) (hj : j ≤ 100) : FP.Core.val64 (fD c j) = fdt c j := FP.Core.val64_of64 (fdt_fits h1 h2 hj)
theorem fdt_nan {c j : Nat} : fdt c j ≠ .nan := fun q => by cases q
theorem fD_of {x : UInt64} {c j : Nat} (h : FP.Core.val64 x = fdt c j) : x = fD c j := by
  have e := FP.Core.of64_val64 (a := x) (by rw [h]; exact fdt_nan)
  rw [h] at e
  exact e.symm
theorem n64_of {x : UInt64} (h : FP.Core.val64 x ≠ .nan) : vf_n64 x := by
  have h1 := (FP.Core.ne_nan x).mp h
  unfold vf_n64
  rw [UInt64.le_iff_toNat_le, UInt64.toNat_and]
  have e1 : (0x7fffffffffffffff : UInt64).toNat = 2 ^ 63 - 1 := by decide +kernel
  have e2 : (0x7ff0000000000000 : UInt64).toNat = 9218868437227405312 := by decide +kernel
  rw [e1, e2, Nat.and_two_pow_sub_one_eq_mod]
  exact h1
theorem fD_n64 {c j : Nat} (h1 : 2 ^ 52 ≤ c) (h2 : c < 2 ^ 53) (hj : j ≤ 100) : vf_n64 (fD c j) := n64_of (by rw [fD_val h1 h2 hj]; exact fdt_nan)
theorem f_two : FP.Core.val64 (UInt64.ofNat 4611686018427387904) = .fin false (2 ^ 52) (-51) := by decide +kernel
theorem f_big : FP.Core.val64 (UInt64.ofNat 4841369599423283200) = .fin false (2 ^ 52) 0 := by decide +kernel
theorem f_zero : FP.Core.val64 FP.dconst0 = .fin false 0 (-1074) := by decide +kernel
theorem f_one : FP.Core.val64 FP.dconst1 = .fin false (2 ^ 52) (-52) := by decide +kernel
theorem cmp_lt {a b : Int} (h : a < b) : compare a b = .lt := by
  show compareOfLessAndEq a b = _
  unfold compareOfLessAndEq
  rw [if_pos h]
theorem cmp_gt {a b : Int} (h : b < a) : compare a b = .gt := by
  show compareOfLessAndEq a b = _
  unfold compareOfLessAndEq
  rw [if_neg (by omega), if_neg (by omega)]
theorem cmp_eq {a b : Int} (h : a = b) : compare a b = .eq := by
  show compareOfLessAndEq a b = _
  unfold compareOfLessAndEq
  rw [if_neg (by omega), if_pos h]
theorem fD_pos {c j : Nat} (h1 : 2 ^ 52 ≤ c) (h2 : c < 2 ^ 53) (hj : j ≤ 100) : FP.dcmp (fD c j) FP.dconst0 = some .gt := by
  show FP.Core.order (FP.Core.val64 (fD c j)) (FP.Core.val64 FP.dconst0) = _
  rw [fD_val h1 h2 hj, f_zero]
  refine congrArg some (cmp_gt ?_)
  show ((0 * 2 ^ (-1074 - min (-52 - (j : Int)) (-1074)).toNat : Nat) : Int) < ((c * 2 ^ (-52 - (j : Int) - min (-52 - (j : Int)) (-1074)).toNat : Nat) : Int)
  have : 0 < c * 2 ^ (-52 - (j : Int) - min (-52 - (j : Int)) (-1074)).toNat := Nat.mul_pos (by omega) (Nat.two_pow_pos _)
  omega
theorem fD_lt1 {c j : Nat} (h1 : 2 ^ 52 ≤ c) (h2 : c < 2 ^ 53) (hj : j + 1 ≤ 100) : FP.dcmp (fD c (j + 1)) FP.dconst1 = some .lt := by
  show FP.Core.order (FP.Core.val64 (fD c (j + 1))) (FP.Core.val64 FP.dconst1) = _
  rw [fD_val h1 h2 hj, f_one]
  refine congrArg some (cmp_lt ?_)
  have em : min (-52 - ((j + 1 : Nat) : Int)) (-52) = -52 - ((j + 1 : Nat) : Int) := by omega
  show ((c * 2 ^ (-52 - ((j + 1 : Nat) : Int) - min (-52 - ((j + 1 : Nat) : Int)) (-52)).toNat : Nat) : Int) < ((2 ^ 52 * 2 ^ (-52 - min (-52 - ((j + 1 : Nat) : Int)) (-52)).toNat : Nat) : Int)
  rw [em, show (-52 - ((j + 1 : Nat) : Int) - (-52 - ((j + 1 : Nat) : Int))).toNat = 0 by omega, show (-52 - (-52 - ((j + 1 : Nat) : Int))).toNat = j + 1 by omega, Nat.pow_zero, Nat.mul_one, Nat.pow_succ]
  have := Nat.two_pow_pos j
  omega
theorem fD_ge1 {c : Nat} (h1 : 2 ^ 52 ≤ c) (h2 : c < 2 ^ 53) : FP.dcmp (fD c 0) FP.dconst1 = some .gt ∨ FP.dcmp (fD c 0) FP.dconst1 = some .eq := by
  have e : FP.dcmp (fD c 0) FP.dconst1 = some (compare ((c : Nat) : Int) ((2 ^ 52 : Nat) : Int)) := by
    show FP.Core.order (FP.Core.val64 (fD c 0)) (FP.Core.val64 FP.dconst1) = _
    rw [fD_val h1 h2 (by decide), f_one]
    show some (compare ((c * 2 ^ (-52 - ((0 : Nat) : Int) - min (-52 - ((0 : Nat) : Int)) (-52)).toNat : Nat) : Int) ((2 ^ 52 * 2 ^ (-52 - min (-52 - ((0 : Nat) : Int)) (-52)).toNat : Nat) : Int)) = _
    rw [show (-52 - ((0 : Nat) : Int) - min (-52 - ((0 : Nat) : Int)) (-52)).toNat = 0 by omega, show (-52 - min (-52 - ((0 : Nat) : Int)) (-52)).toNat = 0 by omega, Nat.pow_zero, Nat.mul_one, Nat.mul_one]
  rw [e]
  by_cases c1 : c = 2 ^ 52
  · exact Or.inr (congrArg some (cmp_eq (by rw [c1])))
  · exact Or.inl (congrArg some (cmp_gt (by omega)))
/-- what bits a share is -/
theorem fD_bits {c j : Nat} (h1 : 2 ^ 52 ≤ c) (hj : j ≤ 100) : (fD c j).toInt64 = lN ((1023 - j) * 2 ^ 52 + (c - 2 ^ 52)) := by
  have e : FP.Core.encode FP.Core.b64 (fdt c j) = (1023 - j) * 2 ^ 52 + (c - 2 ^ 52) := by
    show (if c < FP.Core.Fmt.tails FP.Core.b64 then FP.Core.assemble FP.Core.b64 false 0 c else FP.Core.assemble FP.Core.b64 false ((-52 - (j : Int) - FP.Core.Fmt.qmin FP.Core.b64).toNat + 1) (c - FP.Core.Fmt.tails FP.Core.b64)) = _
    rw [FP.Core.tails_b64, if_neg (by omega), fq_min, show (-52 - (j : Int) - -1074).toNat + 1 = 1023 - j by omega]
    unfold FP.Core.assemble
    rw [FP.Core.tails_b64]
    show (0 * _ + (1023 - j)) * 2 ^ 52 + (c - 2 ^ 52) = _
    rw [Nat.zero_mul, Nat.zero_add]
  unfold fD FP.Core.of64
  rw [e]
  rfl
theorem f_exp : ∀ j, j ≤ 60 → lN (1023 - j) <<< ((nI 52).toInt64 &&& 63) = lN ((1023 - j) * 2 ^ 52) := by decide +kernel
theorem fI_val {a : Nat} (h0 : 0 < a) (ha : a < 2 ^ 19) : ∃ k : Nat, k ≤ 52 ∧ FP.Core.val64 (FP.i2d (nI a)) = .fin false (a * 2 ^ k) (-(k : Int)) := by
  have l1 : 2 ^ a.log2 ≤ a := Nat.log2_self_le (by omega)
  have l2 : a < 2 ^ (a.log2 + 1) := Nat.lt_log2_self
  have l3 : a.log2 < 19 := (Nat.pow_lt_pow_iff_right (by decide : 1 < 2)).mp (Nat.lt_of_le_of_lt l1 ha)
  obtain ⟨k, hk⟩ : ∃ k, a.log2 + k = 52 := ⟨52 - a.log2, by omega⟩
  have c1 : 2 ^ 52 ≤ a * 2 ^ k := by
    calc 2 ^ 52 = 2 ^ a.log2 * 2 ^ k := by rw [← Nat.pow_add, hk]
      _ ≤ a * 2 ^ k := Nat.mul_le_mul_right _ l1
  have c2 : a * 2 ^ k < 2 ^ 53 := by
    calc a * 2 ^ k < 2 ^ (a.log2 + 1) * 2 ^ k := Nat.mul_lt_mul_of_pos_right l2 (Nat.two_pow_pos _)
      _ = 2 ^ 53 := by rw [← Nat.pow_add]; congr 1; omega
  refine ⟨k, by omega, ?_⟩
  show FP.Core.val64 (FP.Core.i2d (nI a)) = _
  rw [FP.Core.val64_i2d, nI_toInt (by omega)]
  show FP.Core.round FP.Core.b64 (.fin (decide ((a : Int) < 0)) (a : Int).natAbs 0) = _
  rw [decide_eq_false (by omega), Int.natAbs_natCast]
  show FP.Core.roundRatio FP.Core.b64 false a 1 0 = _
  refine FP.Core.roundRatio_exact FP.Core.good_b64 (by decide) ⟨c2, by rw [fq_min]; omega, by rw [fq_max]; omega, Or.inr (by rw [FP.Core.tails_b64]; exact c1)⟩ ?_
  rw [show (0 - -(k : Int)).toNat = k by omega, show (-(k : Int) - 0).toNat = 0 by omega, Nat.pow_zero, Nat.mul_one, Nat.mul_one]
theorem f_ratio {a b : Nat} (h0 : 0 < a) (hab : a ≤ b) (hb : b < 2 ^ 19) : ∃ c j, 2 ^ 52 ≤ c ∧ c < 2 ^ 53 ∧ j ≤ 60 ∧ FP.Core.roundRatio FP.Core.b64 false a b 0 = fdt c j := by
  have hb0 : 0 < b := by omega
  obtain ⟨s1, s2⟩ := FP.Core.leading_spec (A := a) (B := b) h0 hb0
  have hq : FP.Core.quantum FP.Core.b64 a b 0 = max (-1074) (FP.Core.leading a b + 0 - (53 - 1)) := by
    unfold FP.Core.quantum
    rw [fq_min]
    rfl
  generalize FP.Core.leading a b = L at s1 s2 hq
  have b1 : FP.Core.Below a b (((1 : Nat) : Int) - ((0 : Nat) : Int)) := (FP.Core.below_iff a b 1 0).mpr (by omega)
  have hL0 : L ≤ 0 := by
    have := FP.Core.lt_of_below s1 b1
    omega
  have hL19 : -19 ≤ L := by
    refine Int.not_lt.mp (fun q => ?_)
    have := FP.Core.below_mono (show L + 1 ≤ ((0 : Nat) : Int) - ((19 : Nat) : Int) by omega) s2
    have := (FP.Core.below_iff a b 0 19).mp this
    omega
  obtain ⟨l, hl, rfl⟩ : ∃ l : Nat, l ≤ 19 ∧ L = -(l : Int) := ⟨(-L).toNat, by omega, by omega⟩
  have lo : b ≤ a * 2 ^ l := by
    refine Nat.le_of_not_lt (fun q => s1 ?_)
    have := (FP.Core.below_iff a b 0 l).mpr (by rw [Nat.pow_zero, Nat.mul_one]; exact q)
    rw [show ((0 : Nat) : Int) - (l : Int) = -(l : Int) by omega] at this
    exact this
  have hi : a * 2 ^ l < b * 2 := by
    have e : -(l : Int) + 1 = ((1 : Nat) : Int) - (l : Int) := by omega
    rw [e] at s2
    have := (FP.Core.below_iff a b 1 l).mp s2
    omega
  unfold FP.Core.roundRatio
  rw [if_neg (by omega), hq, show max (-1074) (-(l : Int) + 0 - (53 - 1)) = -(l : Int) - 52 by omega]
  unfold FP.Core.roundAt FP.Core.unitsNum FP.Core.unitsDen
  rw [show (0 - (-(l : Int) - 52)).toNat = l + 52 by omega, show (-(l : Int) - 52 - 0).toNat = 0 by omega, Nat.pow_zero, Nat.mul_one, Nat.pow_add, ← Nat.mul_assoc]
  have n1 : 2 ^ 52 ≤ FP.Core.nearest (a * 2 ^ l * 2 ^ 52) b := FP.Core.nearest_ge hb0 (by rw [Nat.mul_comm]; exact Nat.mul_le_mul_right _ lo)
  have n2 : FP.Core.nearest (a * 2 ^ l * 2 ^ 52) b ≤ 2 ^ 53 := FP.Core.nearest_le hb0 (by omega)
  generalize hn : FP.Core.nearest (a * 2 ^ l * 2 ^ 52) b = n at n1 n2
  unfold FP.Core.settle FP.Core.bound
  rw [fq_p, fq_max, FP.Core.tails_b64]
  by_cases c : n < 2 ^ 53
  · refine ⟨n, l, n1, c, by omega, ?_⟩
    rw [if_pos c, if_pos (by omega)]
    unfold fdt
    congr 1
    omega
  · have l0 : l ≠ 0 := by
      intro q
      subst q
      rw [Nat.pow_zero, Nat.mul_one] at lo hn
      have e : a = b := by omega
      subst e
      rw [Nat.mul_comm, FP.Core.nearest_exact _ hb0] at hn
      omega
    refine ⟨2 ^ 52, l - 1, Nat.le_refl _, by decide, by omega, ?_⟩
    rw [if_neg c, if_pos (by omega)]
    unfold fdt
    congr 1
    omega
theorem f_quot {a b : Nat} (h0 : 0 < a) (hab : a ≤ b) (hb : b < 2 ^ 19) : ∃ c j, 2 ^ 52 ≤ c ∧ c < 2 ^ 53 ∧ j ≤ 60 ∧ FP.ddiv (FP.i2d (nI a)) (FP.i2d (nI b)) = fD c j := by
  obtain ⟨c, j, h1, h2, h3, h4⟩ := f_ratio h0 hab hb
  refine ⟨c, j, h1, h2, h3, fD_of ?_⟩
  obtain ⟨ka, ka1, ea⟩ := fI_val h0 (by omega)
  obtain ⟨kb, kb1, eb⟩ := fI_val (show 0 < b by omega) hb
  show FP.Core.val64 (FP.Core.ddiv (FP.i2d (nI a)) (FP.i2d (nI b))) = _
  rw [FP.Core.val64_ddiv, ea, eb, ← h4]
  show (if b * 2 ^ kb = 0 then (if a * 2 ^ ka = 0 then FP.Core.Datum.nan else FP.Core.Datum.inf (false != false)) else FP.Core.roundRatio FP.Core.b64 (false != false) (a * 2 ^ ka) (b * 2 ^ kb) (-(ka : Int) - -(kb : Int))) = _
  have pb : 0 < b * 2 ^ kb := Nat.mul_pos (by omega) (Nat.two_pow_pos _)
  rw [if_neg (by omega)]
  refine FP.Core.roundRatio_congr pb (by omega) ?_
  by_cases ck : ka ≤ kb
  · obtain ⟨d, rfl⟩ : ∃ d, kb = ka + d := ⟨kb - ka, by omega⟩
    rw [show (-(ka : Int) - -((ka + d : Nat) : Int) - 0).toNat = d by omega, show (0 - (-(ka : Int) - -((ka + d : Nat) : Int))).toNat = 0 by omega, Nat.pow_zero, Nat.mul_one, Nat.pow_add]
    ac_rfl
  · obtain ⟨d, rfl⟩ : ∃ d, ka = kb + d := ⟨ka - kb, by omega⟩
    rw [show (-((kb + d : Nat) : Int) - -(kb : Int) - 0).toNat = 0 by omega, show (0 - (-((kb + d : Nat) : Int) - -(kb : Int))).toNat = d by omega, Nat.pow_zero, Nat.mul_one, Nat.pow_add]
    ac_rfl
theorem f_quot0 {b : Nat} (h0 : 0 < b) (hb : b < 2 ^ 19) : FP.ddiv (FP.i2d (nI 0)) (FP.i2d (nI b)) = 0 := by
  obtain ⟨kb, kb1, eb⟩ := fI_val h0 hb
  have e0 : FP.Core.val64 (FP.i2d (nI 0)) = .fin false 0 (-1074) := by decide +kernel
  have ez : FP.Core.val64 (0 : UInt64) = .fin false 0 (-1074) := by decide +kernel
  have e : FP.Core.val64 (FP.ddiv (FP.i2d (nI 0)) (FP.i2d (nI b))) = .fin false 0 (-1074) := by
    show FP.Core.val64 (FP.Core.ddiv (FP.i2d (nI 0)) (FP.i2d (nI b))) = _
    rw [FP.Core.val64_ddiv, e0, eb]
    show (if b * 2 ^ kb = 0 then (if 0 = 0 then FP.Core.Datum.nan else FP.Core.Datum.inf (false != false)) else FP.Core.roundRatio FP.Core.b64 (false != false) 0 (b * 2 ^ kb) (-1074 - -(kb : Int))) = _
    have pb : 0 < b * 2 ^ kb := Nat.mul_pos h0 (Nat.two_pow_pos _)
    rw [if_neg (by omega)]
    unfold FP.Core.roundRatio
    rw [if_pos rfl, fq_min]
    rfl
  exact FP.Core.val64_inj (by rw [e]; exact fun q => by cases q) (e.trans ez.symm)
theorem i_nat {a : Int32} (h : 0 ≤ a.toInt) : a = nI a.toInt.toNat := by
  refine Int32.toInt_inj.mp ?_
  have := a.toInt_lt
  rw [nI_toInt (by omega)]
  omega
theorem f_share {a b : Int32} (ha : 0 ≤ a.toInt) (hab : a.toInt ≤ b.toInt) (hb : 0 < b.toInt) (hb2 : b.toInt ≤ 299997) : FP.ddiv (FP.i2d a) (FP.i2d b) = 0 ∨ ∃ c j, 2 ^ 52 ≤ c ∧ c < 2 ^ 53 ∧ j ≤ 60 ∧ FP.ddiv (FP.i2d a) (FP.i2d b) = fD c j := by
  rw [i_nat ha, i_nat (Int.le_of_lt hb)]
  by_cases h0 : a.toInt = 0
  · rw [h0]
    exact Or.inl (f_quot0 (by omega) (by omega))
  · exact Or.inr (f_quot (by omega) (by omega) (by omega))
theorem f_share_nan {a b : Int32} (ha : 0 ≤ a.toInt) (hab : a.toInt ≤ b.toInt) (hb : 0 < b.toInt) (hb2 : b.toInt ≤ 299997) : FP.Core.val64 (FP.ddiv (FP.i2d a) (FP.i2d b)) ≠ .nan := by
  rcases f_share ha hab hb hb2 with h | ⟨c, j, h1, h2, h3, h⟩
  · rw [h]
    decide +kernel
  · rw [h, fD_val h1 h2 (by omega)]
    exact fdt_nan
end
section
/-! numbers, memories and loops for the walks of methods -/
def am_S0 : am_S := (0, 0, fun _ => 0)
theorem am_R_le {L : am_S} {t : am_MT} {n pc : Nat} {xs ys st : List Value} {M : am_M} {Q : am_Q} (h : am_le xs ys) (k : am_R L t n pc xs st M Q) : am_R L t n pc ys st M Q := by
  intro p l e R s m args below meth c a D g A cells slots QQ hE hC h1 h2 hEnd H locs la hW hL
  exact k p l e R s m args below meth c a D g A cells slots QQ hE hC h1 h2 hEnd H locs la hW (am_lv_le hL h)
theorem am_set_set (M : am_M) (o : Nat) (f g : Nat → Int32) : am_set (am_set M o f) o g = am_set M o g := by
  funext q
  unfold am_set
  split <;> rfl
theorem am_set_self (M : am_M) (o : Nat) : am_set M o (M o) = M := by
  funext q
  unfold am_set
  split
  · rename_i h; rw [h]
  · rfl
theorem am_set_comm (M : am_M) {o q : Nat} (h : o ≠ q) (f g : Nat → Int32) : am_set (am_set M o f) q g = am_set (am_set M q g) o f := by
  funext r
  unfold am_set
  by_cases h1 : r = q
  · by_cases h2 : r = o
    · exact absurd (h2.symm.trans h1) h
    · rw [if_pos h1, if_neg h2, if_pos h1]
  · rw [if_neg h1, if_neg h1]
theorem upd_eq (f : Nat → Int32) (k : Nat) (x : Int32) : upd f k x k = x := by simp [upd]
theorem upd_ne (f : Nat → Int32) {k j : Nat} (x : Int32) (h : j ≠ k) : upd f k x j = f j := by simp [upd, h]
theorem lu {P : Nat → Prop} (N : Nat) (he : P N) (hs : ∀ i, i < N → P (i + 1) → P i) : P 0 := by
  have key : ∀ k, k ≤ N → P (N - k) := by
    intro k
    induction k with
    | zero => intro _; exact he
    | succ k ih =>
      intro hk
      have h1 := ih (by omega)
      have e : N - k = N - (k + 1) + 1 := by omega
      rw [e] at h1
      exact hs _ (by omega) h1
  have := key N (Nat.le_refl _)
  rwa [Nat.sub_self] at this
theorem lu' {P : Nat → Prop} (a N : Nat) (ha : a ≤ N) (he : P N) (hs : ∀ i, a ≤ i → i < N → P (i + 1) → P i) : P a := by
  have key : ∀ k, k ≤ N - a → P (N - k) := by
    intro k
    induction k with
    | zero => intro _; exact he
    | succ k ih =>
      intro hk
      have h1 := ih (by omega)
      have e : N - k = N - (k + 1) + 1 := by omega
      rw [e] at h1
      exact hs _ (by omega) (by omega) h1
  have := key (N - a) (Nat.le_refl _)
  rwa [show N - (N - a) = a by omega] at this
-- places
theorem ix2 (a b : Nat) : nI a + nI b = nI (a + b) := nI_add a b
theorem ix3 (a b v : Nat) : nI a + nI b * nI v = nI (a + b * v) := by rw [pk_mul, nI_add]
theorem ix4 (a b v w : Nat) : nI a + nI b * nI v + nI w = nI (a + b * v + w) := by rw [pk_mul, nI_add, nI_add]
theorem ix4' (a b v w : Nat) : nI a + nI v * nI b + nI w = nI (a + v * b + w) := by rw [pk_mul, nI_add, nI_add]
theorem ix3' (a b v : Nat) : nI a + nI v * nI b = nI (a + v * b) := by rw [pk_mul, nI_add]
-- truth values
def ib (p : Prop) [Decidable p] : Int32 := if p then nI 1 else nI 0
theorem ib_t {p : Prop} [Decidable p] (h : p) : ib p = nI 1 := by simp [ib, h]
theorem ib_f {p : Prop} [Decidable p] (h : ¬ p) : ib p = nI 0 := by simp [ib, h]
theorem ib_01 (p : Prop) [Decidable p] : ib p = 0 ∨ ib p = 1 := by
  by_cases h : p
  · exact Or.inr (by rw [ib_t h]; rfl)
  · exact Or.inl (by rw [ib_f h]; rfl)
theorem nI1_ne : ¬ nI 1 = 0 := by decide +kernel
theorem ib_eq0 {p : Prop} [Decidable p] : ib p = 0 ↔ ¬ p := by
  by_cases h : p
  · rw [ib_t h]
    exact ⟨fun q => absurd q nI1_ne, fun q => absurd h q⟩
  · rw [ib_f h]
    exact ⟨fun _ => h, fun _ => nI_0⟩
theorem ib_cond {p q : Prop} [Decidable p] [Decidable q] (h : p ↔ q) : ib p = ib q := by
  by_cases hp : p
  · rw [ib_t hp, ib_t (h.mp hp)]
  · rw [ib_f hp, ib_f (fun z => hp (h.mpr z))]
theorem nI_lti {a b : Nat} (ha : a < 2 ^ 31) (hb : b < 2 ^ 31) : nI a < nI b ↔ a < b := nI_ltI ha hb
theorem i_nge {a b : Nat} (h : a < b) (hb : b < 2 ^ 31) : ¬ nI b ≤ nI a := nI_ge h hb
theorem i_le {a b : Nat} (h : a ≤ b) (hb : b < 2 ^ 31) : nI a ≤ nI b := nI_le h hb
theorem k_in {P : Value → Prop} {a b : Int32} (h : P (.int a)) (e : a = b) : P (.int b) := e ▸ h
def ileast (a b : Int32) : Int32 := if a < b then a else b
theorem rv2 {L : am_S} {M : am_M} {k : Nat} : am_rv L M k 2 = M 2 k := rfl
theorem rv4 {L : am_S} {M : am_M} {k : Nat} : am_rv L M k 4 = M 4 k := rfl
theorem rv7 {L : am_S} {M : am_M} {k : Nat} : am_rv L M k 7 = M 7 k := rfl
theorem rv8 {L : am_S} {M : am_M} {k : Nat} : am_rv L M k 8 = M 8 k := rfl
theorem rv10 {L : am_S} {M : am_M} {k : Nat} : am_rv L M k 10 = M 10 k := rfl
theorem rv11 {L : am_S} {M : am_M} {k : Nat} : am_rv L M k 11 = M 11 k := rfl
theorem rv12 {L : am_S} {M : am_M} {k : Nat} : am_rv L M k 12 = M 12 k := rfl
theorem rv13 {L : am_S} {M : am_M} {k : Nat} : am_rv L M k 13 = M 13 k := rfl
theorem rv14 {L : am_S} {M : am_M} {k : Nat} : am_rv L M k 14 = M 14 k := rfl
theorem rv15 {L : am_S} {M : am_M} {k : Nat} : am_rv L M k 15 = M 15 k := rfl
theorem rv16 {L : am_S} {M : am_M} {k : Nat} : am_rv L M k 16 = M 16 k := rfl
theorem rv18 {L : am_S} {M : am_M} {k : Nat} : am_rv L M k 18 = M 18 k := rfl
theorem rv19 {L : am_S} {M : am_M} {k : Nat} : am_rv L M k 19 = M 19 k := rfl
theorem rv20 {L : am_S} {M : am_M} {k : Nat} : am_rv L M k 20 = M 20 k := rfl
theorem rv21 {L : am_S} {M : am_M} {k : Nat} : am_rv L M k 21 = M 21 k := rfl
theorem rv22 {L : am_S} {M : am_M} {k : Nat} : am_rv L M k 22 = M 22 k := rfl
theorem rv23 {L : am_S} {M : am_M} {k : Nat} : am_rv L M k 23 = M 23 k := rfl
theorem rv24 {L : am_S} {M : am_M} {k : Nat} : am_rv L M k 24 = M 24 k := rfl
theorem rv25 {L : am_S} {M : am_M} {k : Nat} : am_rv L M k 25 = M 25 k := rfl
end
section
/-! what an hour does, over the reference's 105 numbers -/
abbrev dz : Type := Nat → Int32
def zadd (z : dz) (i : Nat) (x : Int32) : dz := upd z i (z i + x)
def zdst (to d : Nat) : Nat := if to = 5 then 14 + d else 19 + 8 * to + d
def zwst (to : Nat) : Nat := if to = 5 then 2 else 18 + 8 * to
def zgr (fr : Nat) (m had : Int32) (d : Nat) (z : dz) : Int32 := z (19 + 8 * fr + d) * m / had
def zdye (fr to : Nat) (m had : Int32) (d : Nat) (z : dz) : dz := zadd (zadd z (19 + 8 * fr + d) (-zgr fr m had d z)) (zdst to d) (zgr fr m had d z)
def zdyes (fr to : Nat) (m had : Int32) (z : dz) : Nat → dz
  | 0 => z
  | i + 1 => zdye fr to m had i (zdyes fr to m had z i)
def zmv (fr to : Nat) (m had : Int32) (z : dz) : dz := zadd (zadd (zdyes fr to m had z 3) (18 + 8 * fr) (-m)) (zwst to) m
def zmoved (fr to : Nat) (much : Int32) (z : dz) : Int32 := if to = 5 then ileast much (z (18 + 8 * fr)) else ileast (ileast much (z (18 + 8 * fr))) (z (17 + 8 * to) - z (18 + 8 * to))
def zmove (fr to : Nat) (much : Int32) (z : dz) : dz := if zmoved fr to much z = 0 then z else zmv fr to (zmoved fr to much z) (z (18 + 8 * fr)) z
def zlevel (one other : Nat) (z : dz) : dz :=
  if 0 < z (18 + 8 * one) - z (18 + 8 * other) then zmove one other ((z (18 + 8 * one) - z (18 + 8 * other)) / nI 2) z
  else zmove other one (-(z (18 + 8 * one) - z (18 + 8 * other)) / nI 2) z
def zholds (v : Nat) (z : dz) : Int32 := z (18 + 8 * v) * z 1 / nI 100
def zset1 (v d : Nat) (z : dz) : dz :=
  if 0 < z (19 + 8 * v + d) - zholds v z then zadd (zadd z (19 + 8 * v + d) (-(z (19 + 8 * v + d) - zholds v z))) (22 + 8 * v + d) (z (19 + 8 * v + d) - zholds v z) else z
def zsettle (v : Nat) (z : dz) : Nat → dz
  | 0 => z
  | d + 1 => zset1 v d (zsettle v z d)
def zhod (z : dz) : Int32 := z 0 - z 0 / nI 24 * nI 24
def zopen (k : Nat) (z : dz) : Prop := z (57 + 6 * k + 3) ≤ zhod z ∧ zhod z ≤ z (57 + 6 * k + 4)
def zpipe (one other : Nat) (z : dz) : Prop := z (6 + one) >>> (nI other &&& 31) &&& nI 1 = nI 1
/-- a number of a small range as one -/
def zn (x : Int32) : Nat := x.toNatClampNeg
noncomputable def zvalve (k : Nat) (z : dz) : dz := by
  classical exact if zopen k z then upd (zmove (zn (z (57 + 6 * k))) (zn (z (57 + 6 * k + 1))) (z (57 + 6 * k + 2)) z) (57 + 6 * k + 5) (z (57 + 6 * k + 5) + zmoved (zn (z (57 + 6 * k))) (zn (z (57 + 6 * k + 1))) (z (57 + 6 * k + 2)) z) else z
noncomputable def zvalves (z : dz) : Nat → dz
  | 0 => z
  | k + 1 => zvalve k (zvalves z k)
noncomputable def zlev1 (one other : Nat) (z : dz) : dz := by
  classical exact if zpipe one other z then zlevel one other z else z
/-- the pipes from one to those behind it, the first k of them -/
noncomputable def zlevs (one : Nat) (z : dz) : Nat → dz
  | 0 => z
  | k + 1 => zlev1 one (one + 1 + k) (zlevs one z k)
noncomputable def zpipes (z : dz) : Nat → dz
  | 0 => z
  | one + 1 => zlevs one (zpipes z one) (4 - one)
def zsettles (z : dz) : Nat → dz
  | 0 => z
  | v + 1 => zsettle v (zsettles z v) 3
noncomputable def zhour (z : dz) : dz := zadd (zsettles (zpipes (zvalves z (zn (z 5))) 5) 5) 0 (nI 1)
noncomputable def zhours (z : dz) : Nat → dz
  | 0 => z
  | k + 1 => zhour (zhours z k)
end
section
/-! what stays and what holds of the 105 numbers -/
theorem zadd_eq (z : dz) (i : Nat) (x : Int32) : zadd z i x i = z i + x := by simp [zadd, upd]
theorem zadd_ne (z : dz) {i j : Nat} (x : Int32) (h : j ≠ i) : zadd z i x j = z j := by simp [zadd, upd, h]
/-- places that hours leave as they are -/
def zfix (i : Nat) : Prop := i = 1 ∨ (3 ≤ i ∧ i < 14) ∨ (57 ≤ i ∧ ¬ (i - 57) % 6 = 5) ∨ (17 ≤ i ∧ i < 57 ∧ (i - 17) % 8 = 0) ∨ 105 ≤ i
theorem zdst_ne {to d i : Nat} (ht : to ≤ 5) (hd : d < 3) (hi : zfix i) : i ≠ zdst to d := by
  unfold zfix at hi
  unfold zdst
  split <;> omega
theorem zwst_ne {to i : Nat} (ht : to ≤ 5) (hi : zfix i) : i ≠ zwst to := by
  unfold zfix at hi
  unfold zwst
  split <;> omega
theorem zdye_fix {fr to d : Nat} {m had : Int32} {z : dz} {i : Nat} (hf : fr < 5) (ht : to ≤ 5) (hd : d < 3) (hi : zfix i) : zdye fr to m had d z i = z i := by
  unfold zdye
  rw [zadd_ne _ _ (zdst_ne ht hd hi), zadd_ne _ _ (by unfold zfix at hi; omega)]
theorem zdyes_fix {fr to : Nat} {m had : Int32} {z : dz} {i : Nat} (hf : fr < 5) (ht : to ≤ 5) (hi : zfix i) : ∀ d, d ≤ 3 → zdyes fr to m had z d i = z i
  | 0, _ => rfl
  | d + 1, hd => by
    show zdye fr to m had d _ i = z i
    rw [zdye_fix hf ht (by omega) hi, zdyes_fix hf ht hi d (by omega)]
theorem zmove_fix {fr to : Nat} {much : Int32} {z : dz} {i : Nat} (hf : fr < 5) (ht : to ≤ 5) (hi : zfix i) : zmove fr to much z i = z i := by
  unfold zmove
  split
  · rfl
  · unfold zmv
    rw [zadd_ne _ _ (zwst_ne ht hi), zadd_ne _ _ (by unfold zfix at hi; omega), zdyes_fix hf ht hi 3 (Nat.le_refl _)]
theorem zlevel_fix {one other : Nat} {z : dz} {i : Nat} (h1 : one < 5) (h2 : other < 5) (hi : zfix i) : zlevel one other z i = z i := by
  unfold zlevel
  split
  · exact zmove_fix h1 (by omega) hi
  · exact zmove_fix h2 (by omega) hi
theorem zlev1_fix {one other : Nat} {z : dz} {i : Nat} (h1 : one < 5) (h2 : other < 5) (hi : zfix i) : zlev1 one other z i = z i := by
  unfold zlev1
  split
  · exact zlevel_fix h1 h2 hi
  · rfl
theorem zlevs_fix {one : Nat} {z : dz} {i : Nat} (h1 : one < 5) (hi : zfix i) : ∀ k, one + k < 5 → zlevs one z k i = z i
  | 0, _ => rfl
  | k + 1, hk => by
    show zlev1 one (one + 1 + k) _ i = z i
    rw [zlev1_fix h1 (by omega) hi, zlevs_fix h1 hi k (by omega)]
theorem zpipes_fix {z : dz} {i : Nat} (hi : zfix i) : ∀ k, k ≤ 5 → zpipes z k i = z i
  | 0, _ => rfl
  | k + 1, hk => by
    show zlevs k _ (4 - k) i = z i
    rw [zlevs_fix (by omega) hi _ (by omega), zpipes_fix hi k (by omega)]
theorem zset1_fix {v d : Nat} {z : dz} {i : Nat} (hv : v < 5) (hd : d < 3) (hi : zfix i) : zset1 v d z i = z i := by
  unfold zset1
  split
  · rw [zadd_ne _ _ (by unfold zfix at hi; omega), zadd_ne _ _ (by unfold zfix at hi; omega)]
  · rfl
theorem zsettle_fix {v : Nat} {z : dz} {i : Nat} (hv : v < 5) (hi : zfix i) : ∀ d, d ≤ 3 → zsettle v z d i = z i
  | 0, _ => rfl
  | d + 1, hd => by
    show zset1 v d _ i = z i
    rw [zset1_fix hv (by omega) hi, zsettle_fix hv hi d (by omega)]
theorem zsettles_fix {z : dz} {i : Nat} (hi : zfix i) : ∀ v, v ≤ 5 → zsettles z v i = z i
  | 0, _ => rfl
  | v + 1, hv => by
    show zsettle v _ 3 i = z i
    rw [zsettle_fix (by omega) hi 3 (Nat.le_refl _), zsettles_fix hi v (by omega)]
-- numbers of a small range
theorem zn_nI {k : Nat} (h : k < 2 ^ 31) : zn (nI k) = k := nI_clamp h
/-- a valve's numbers are in their ranges -/
def zvok (k : Nat) (z : dz) : Prop := ∃ f t r a b : Nat, z (57 + 6 * k) = nI f ∧ z (57 + 6 * k + 1) = nI t ∧ z (57 + 6 * k + 2) = nI r ∧ z (57 + 6 * k + 3) = nI a ∧ z (57 + 6 * k + 4) = nI b ∧ f < 5 ∧ t ≤ 5 ∧ f ≠ t ∧ 1 ≤ r ∧ r ≤ 500 ∧ a ≤ b ∧ b ≤ 23
def zvats (z : dz) : Prop := ∀ v, v < 5 → 0 ≤ (z (18 + 8 * v)).toInt ∧ (z (18 + 8 * v)).toInt ≤ (z (17 + 8 * v)).toInt ∧ (z (17 + 8 * v)).toInt ≤ 2000
def zgrs (z : dz) : Prop := ∀ v d, v < 5 → d < 3 → 0 ≤ (z (19 + 8 * v + d)).toInt ∧ 0 ≤ (z (22 + 8 * v + d)).toInt
/-- the grains of a dye in all vats and out -/
def zall (z : dz) (d : Nat) : Int := (z (19 + d)).toInt + (z (22 + d)).toInt + ((z (27 + d)).toInt + (z (30 + d)).toInt) + ((z (35 + d)).toInt + (z (38 + d)).toInt) + ((z (43 + d)).toInt + (z (46 + d)).toInt) + ((z (51 + d)).toInt + (z (54 + d)).toInt) + (z (14 + d)).toInt
def zacc (z : dz) : Prop := ∀ d, d < 3 → 0 ≤ (z (14 + d)).toInt ∧ zall z d = (z (11 + d)).toInt ∧ (z (11 + d)).toInt ≤ 99999
def zwat (z : dz) : Int := (z 18).toInt + (z 26).toInt + (z 34).toInt + (z 42).toInt + (z 50).toInt + (z 2).toInt
def zok (z : dz) : Prop := zvats z ∧ zgrs z ∧ zacc z ∧ (0 ≤ (z 1).toInt ∧ (z 1).toInt ≤ 200) ∧ (0 ≤ (z 2).toInt ∧ zwat z = (z 3).toInt) ∧ ∃ m : Nat, m ≤ 8 ∧ z 5 = nI m ∧ ∀ k, k < m → zvok k z
theorem zvok_fix {k : Nat} {z z' : dz} (hk : k < 8) (h : ∀ i, zfix i → z' i = z i) (hv : zvok k z) : zvok k z' := by
  unfold zvok at hv ⊢
  rw [h _ (by unfold zfix; omega), h _ (by unfold zfix; omega), h _ (by unfold zfix; omega), h _ (by unfold zfix; omega), h _ (by unfold zfix; omega)]
  exact hv
-- small numbers: no wrap
theorem bm_in {x : Int} (h1 : -2147483648 ≤ x) (h2 : x < 2147483648) : x.bmod (2 ^ 32) = x := by
  rw [Int.bmod_def]
  omega
theorem ti_add {a b : Int32} (h1 : -2147483648 ≤ a.toInt + b.toInt) (h2 : a.toInt + b.toInt < 2147483648) : (a + b).toInt = a.toInt + b.toInt := by
  rw [Int32.toInt_add, bm_in h1 h2]
theorem ti_sub {a b : Int32} (h1 : -2147483648 ≤ a.toInt - b.toInt) (h2 : a.toInt - b.toInt < 2147483648) : (a - b).toInt = a.toInt - b.toInt := by
  rw [Int32.toInt_sub, bm_in h1 h2]
theorem ti_neg {a : Int32} (h : -2147483648 < a.toInt) : (-a).toInt = -a.toInt := by
  have := Int32.toInt_lt a
  rw [Int32.toInt_neg, bm_in (by omega) (by omega)]
theorem ti_mul {a b : Int32} (h1 : -2147483648 ≤ a.toInt * b.toInt) (h2 : a.toInt * b.toInt < 2147483648) : (a * b).toInt = a.toInt * b.toInt := by
  rw [Int32.toInt_mul, bm_in h1 h2]
theorem ti_div {a b : Int32} (h0 : 0 ≤ a.toInt) (hb : 0 ≤ b.toInt) : (a / b).toInt = a.toInt / b.toInt := by
  have h1 := Int32.toInt_lt a
  have e : a.toInt.tdiv b.toInt = a.toInt / b.toInt := Int.tdiv_eq_ediv_of_nonneg h0
  have h2 : a.toInt / b.toInt ≤ a.toInt := Int.ediv_le_self _ h0
  have h3 : 0 ≤ a.toInt / b.toInt := Int.ediv_nonneg h0 hb
  rw [Int32.toInt_div, e, bm_in (by omega) (by omega)]
theorem ti_lt {a b : Int32} : a < b ↔ a.toInt < b.toInt := Int32.lt_iff_toInt_lt
theorem ti_ext {a b : Int32} (h : a.toInt = b.toInt) : a = b := Int32.toInt_inj.mp h
theorem ti_0 : (0 : Int32).toInt = 0 := rfl
theorem ileast_ti (a b : Int32) : (ileast a b).toInt ≤ a.toInt ∧ (ileast a b).toInt ≤ b.toInt ∧ ((ileast a b).toInt = a.toInt ∨ (ileast a b).toInt = b.toInt) := by
  unfold ileast
  split
  · rename_i c
    have := ti_lt.mp c
    exact ⟨by omega, by omega, Or.inl rfl⟩
  · rename_i c
    have : ¬ a.toInt < b.toInt := fun q => c (ti_lt.mpr q)
    exact ⟨by omega, by omega, Or.inr rfl⟩
theorem upd_eq' (f : Nat → Int32) {k j : Nat} (x : Int32) (h : j = k) : upd f k x j = x := by rw [h, upd_eq]
/-- what is moved: as many parts as a vat has and a vat holds -/
theorem zmoved_ti {fr to : Nat} {much : Int32} {z : dz} (h : zvats z) (hf : fr < 5) (ht : to ≤ 5) (hm : 0 ≤ much.toInt) : 0 ≤ (zmoved fr to much z).toInt ∧ (zmoved fr to much z).toInt ≤ (z (18 + 8 * fr)).toInt ∧ (to < 5 → (zmoved fr to much z).toInt ≤ (z (17 + 8 * to)).toInt - (z (18 + 8 * to)).toInt) := by
  obtain ⟨a1, a2, a3⟩ := h fr hf
  obtain ⟨b1, b2, b3⟩ := ileast_ti much (z (18 + 8 * fr))
  unfold zmoved
  split
  · exact ⟨by omega, by omega, by omega⟩
  · obtain ⟨d1, d2, d3⟩ := h to (by omega)
    have e := ti_sub (a := z (17 + 8 * to)) (b := z (18 + 8 * to)) (by omega) (by omega)
    obtain ⟨f1, f2, f3⟩ := ileast_ti (ileast much (z (18 + 8 * fr))) (z (17 + 8 * to) - z (18 + 8 * to))
    exact ⟨by omega, by omega, by omega⟩
theorem zok_moved0 {fr to : Nat} {much : Int32} {z : dz} (h : zok z) (hf : fr < 5) (ht : to ≤ 5) (hm : 0 ≤ much.toInt) : zmoved fr to much z ≠ 0 → z (18 + 8 * fr) ≠ 0 := by
  obtain ⟨a, b, -⟩ := zmoved_ti h.1 hf ht hm
  intro hne e
  rw [e] at b
  exact hne (ti_ext (by rw [ti_0] at b ⊢; omega))
theorem zall_ne {z : dz} {i d : Nat} {x : Int32} (h0 : i ≠ 14 + d) (h : ∀ v, v < 5 → i ≠ 19 + 8 * v + d ∧ i ≠ 22 + 8 * v + d) : zall (upd z i x) d = zall z d := by
  have g0 := h 0 (by omega)
  have g1 := h 1 (by omega)
  have g2 := h 2 (by omega)
  have g3 := h 3 (by omega)
  have g4 := h 4 (by omega)
  unfold zall
  rw [upd_ne _ _ (by omega), upd_ne _ _ (by omega), upd_ne _ _ (by omega), upd_ne _ _ (by omega), upd_ne _ _ (by omega), upd_ne _ _ (by omega), upd_ne _ _ (by omega), upd_ne _ _ (by omega), upd_ne _ _ (by omega), upd_ne _ _ (by omega), upd_ne _ _ (by omega)]
theorem zall_d {z : dz} {f d : Nat} {x : Int32} (hf : f < 5) : zall (upd z (19 + 8 * f + d) x) d = zall z d + (x.toInt - (z (19 + 8 * f + d)).toInt) := by
  have h5 : f = 0 ∨ f = 1 ∨ f = 2 ∨ f = 3 ∨ f = 4 := by omega
  rcases h5 with rfl | rfl | rfl | rfl | rfl
  · rw [show 19 + 8 * 0 + d = 19 + d by omega]; unfold zall; simp (disch := omega) only [upd_eq', upd_ne]; omega
  · rw [show 19 + 8 * 1 + d = 27 + d by omega]; unfold zall; simp (disch := omega) only [upd_eq', upd_ne]; omega
  · rw [show 19 + 8 * 2 + d = 35 + d by omega]; unfold zall; simp (disch := omega) only [upd_eq', upd_ne]; omega
  · rw [show 19 + 8 * 3 + d = 43 + d by omega]; unfold zall; simp (disch := omega) only [upd_eq', upd_ne]; omega
  · rw [show 19 + 8 * 4 + d = 51 + d by omega]; unfold zall; simp (disch := omega) only [upd_eq', upd_ne]; omega
theorem zall_s {z : dz} {f d : Nat} {x : Int32} (hf : f < 5) : zall (upd z (22 + 8 * f + d) x) d = zall z d + (x.toInt - (z (22 + 8 * f + d)).toInt) := by
  have h5 : f = 0 ∨ f = 1 ∨ f = 2 ∨ f = 3 ∨ f = 4 := by omega
  rcases h5 with rfl | rfl | rfl | rfl | rfl
  · rw [show 22 + 8 * 0 + d = 22 + d by omega]; unfold zall; simp (disch := omega) only [upd_eq', upd_ne]; omega
  · rw [show 22 + 8 * 1 + d = 30 + d by omega]; unfold zall; simp (disch := omega) only [upd_eq', upd_ne]; omega
  · rw [show 22 + 8 * 2 + d = 38 + d by omega]; unfold zall; simp (disch := omega) only [upd_eq', upd_ne]; omega
  · rw [show 22 + 8 * 3 + d = 46 + d by omega]; unfold zall; simp (disch := omega) only [upd_eq', upd_ne]; omega
  · rw [show 22 + 8 * 4 + d = 54 + d by omega]; unfold zall; simp (disch := omega) only [upd_eq', upd_ne]; omega
theorem zall_g {z : dz} {d : Nat} {x : Int32} : zall (upd z (14 + d) x) d = zall z d + (x.toInt - (z (14 + d)).toInt) := by
  unfold zall; simp (disch := omega) only [upd_eq', upd_ne]; omega
/-- no heap of grains is larger than what was put in -/
theorem zgr_le {z : dz} (hg : zgrs z) (ha : zacc z) {v d : Nat} (hv : v < 5) (hd : d < 3) : (z (19 + 8 * v + d)).toInt ≤ 99999 ∧ (z (22 + 8 * v + d)).toInt ≤ 99999 ∧ (z (14 + d)).toInt ≤ 99999 ∧ (z (19 + 8 * v + d)).toInt + (z (22 + 8 * v + d)).toInt ≤ 99999 := by
  obtain ⟨a1, a2, a3⟩ := ha d hd
  have g0 := hg 0 d (by omega) hd
  have g1 := hg 1 d (by omega) hd
  have g2 := hg 2 d (by omega) hd
  have g3 := hg 3 d (by omega) hd
  have g4 := hg 4 d (by omega) hd
  rw [show 19 + 8 * 0 + d = 19 + d by omega, show 22 + 8 * 0 + d = 22 + d by omega] at g0
  rw [show 19 + 8 * 1 + d = 27 + d by omega, show 22 + 8 * 1 + d = 30 + d by omega] at g1
  rw [show 19 + 8 * 2 + d = 35 + d by omega, show 22 + 8 * 2 + d = 38 + d by omega] at g2
  rw [show 19 + 8 * 3 + d = 43 + d by omega, show 22 + 8 * 3 + d = 46 + d by omega] at g3
  rw [show 19 + 8 * 4 + d = 51 + d by omega, show 22 + 8 * 4 + d = 54 + d by omega] at g4
  unfold zall at a2
  have h5 : v = 0 ∨ v = 1 ∨ v = 2 ∨ v = 3 ∨ v = 4 := by omega
  rcases h5 with rfl | rfl | rfl | rfl | rfl
  · rw [show 19 + 8 * 0 + d = 19 + d by omega, show 22 + 8 * 0 + d = 22 + d by omega]; omega
  · rw [show 19 + 8 * 1 + d = 27 + d by omega, show 22 + 8 * 1 + d = 30 + d by omega]; omega
  · rw [show 19 + 8 * 2 + d = 35 + d by omega, show 22 + 8 * 2 + d = 38 + d by omega]; omega
  · rw [show 19 + 8 * 3 + d = 43 + d by omega, show 22 + 8 * 3 + d = 46 + d by omega]; omega
  · rw [show 19 + 8 * 4 + d = 51 + d by omega, show 22 + 8 * 4 + d = 54 + d by omega]; omega
/-- grains that are moved: none to as many as there are -/
theorem zgr_ti {fr d : Nat} {m had : Int32} {z : dz} (h0 : 0 ≤ (z (19 + 8 * fr + d)).toInt) (h9 : (z (19 + 8 * fr + d)).toInt ≤ 99999) (hm0 : 0 ≤ m.toInt) (hm : m.toInt ≤ had.toInt) (hh : had.toInt ≤ 2000) (hh0 : 0 < had.toInt) : 0 ≤ (zgr fr m had d z).toInt ∧ (zgr fr m had d z).toInt ≤ (z (19 + 8 * fr + d)).toInt := by
  unfold zgr
  generalize z (19 + 8 * fr + d) = g at h0 h9 ⊢
  have p0 : 0 ≤ g.toInt * m.toInt := Int.mul_nonneg h0 hm0
  have p1 : g.toInt * m.toInt ≤ 99999 * 2000 := Int.le_trans (Int.mul_le_mul_of_nonneg_right h9 hm0) (Int.mul_le_mul_of_nonneg_left (by omega) (by omega))
  have e := ti_mul (a := g) (b := m) (by omega) (by omega)
  have e2 := ti_div (a := g * m) (b := had) (by omega) (by omega)
  rw [e2, e]
  refine ⟨Int.ediv_nonneg p0 (by omega), Int.ediv_le_of_le_mul hh0 ?_⟩
  exact Int.mul_le_mul_of_nonneg_left hm h0
/-- one dye is moved -/
theorem zdye_ok {fr to d : Nat} {m had : Int32} {z : dz} (hg : zgrs z) (ha : zacc z) (hf : fr < 5) (ht : to ≤ 5) (hne : fr ≠ to) (hd : d < 3) (hm0 : 0 ≤ m.toInt) (hm : m.toInt ≤ had.toInt) (hh : had.toInt ≤ 2000) (hh0 : 0 < had.toInt) : zgrs (zdye fr to m had d z) ∧ zacc (zdye fr to m had d z) := by
  obtain ⟨l1, l2, l3, l4⟩ := zgr_le hg ha hf hd
  have g0 := hg fr d hf hd
  obtain ⟨q1, q2⟩ := zgr_ti g0.1 l1 hm0 hm hh hh0
  unfold zdye
  generalize zgr fr m had d z = q at q1 q2 ⊢
  have nq := ti_neg (a := q) (by omega)
  have e1 := ti_add (a := z (19 + 8 * fr + d)) (b := -q) (by omega) (by omega)
  unfold zadd
  generalize hx : z (19 + 8 * fr + d) + -q = x at e1 ⊢
  unfold zdst
  split
  · rename_i c5
    rw [upd_ne _ _ (by omega)]
    obtain ⟨a1, a2, a3⟩ := ha d hd
    have e2 := ti_add (a := z (14 + d)) (b := q) (by omega) (by omega)
    generalize hy : z (14 + d) + q = y at e2 ⊢
    refine ⟨fun v d' hv hd' => ?_, fun d' hd' => ?_⟩
    · rw [upd_ne _ (k := 14 + d) (j := 19 + 8 * v + d') _ (by omega), upd_ne _ (k := 14 + d) (j := 22 + 8 * v + d') _ (by omega)]
      rw [upd_ne _ (k := 19 + 8 * fr + d) (j := 22 + 8 * v + d') _ (by omega)]
      refine ⟨?_, (hg v d' hv hd').2⟩
      by_cases c : 19 + 8 * v + d' = 19 + 8 * fr + d
      · rw [upd_eq' _ _ c]; omega
      · rw [upd_ne _ _ c]; exact (hg v d' hv hd').1
    · rw [upd_ne _ (k := 14 + d) (j := 11 + d') _ (by omega), upd_ne _ (k := 19 + 8 * fr + d) (j := 11 + d') _ (by omega)]
      by_cases c : d' = d
      · subst c
        have r1 := zall_g (z := upd z (19 + 8 * fr + d') x) (d := d') (x := y)
        have r2 := zall_d (z := z) (d := d') (x := x) hf
        rw [upd_ne _ _ (by omega)] at r1
        rw [r1, r2, upd_eq]
        exact ⟨by omega, by omega, a3⟩
      · obtain ⟨b1, b2, b3⟩ := ha d' hd'
        rw [zall_ne (by omega) (fun v hv => ⟨by omega, by omega⟩), zall_ne (by omega) (fun v hv => ⟨by omega, by omega⟩)]
        rw [upd_ne _ (k := 14 + d) (j := 14 + d') _ (by omega), upd_ne _ (k := 19 + 8 * fr + d) (j := 14 + d') _ (by omega)]
        exact ⟨b1, b2, b3⟩
  · rename_i c5
    have ht' : to < 5 := by omega
    rw [upd_ne _ _ (by omega)]
    obtain ⟨t1, t2, t3, t4⟩ := zgr_le hg ha ht' hd
    have gt0 := hg to d ht' hd
    obtain ⟨a1, a2, a3⟩ := ha d hd
    have e2 := ti_add (a := z (19 + 8 * to + d)) (b := q) (by omega) (by omega)
    generalize hy : z (19 + 8 * to + d) + q = y at e2 ⊢
    refine ⟨fun v d' hv hd' => ?_, fun d' hd' => ?_⟩
    · rw [upd_ne _ (k := 19 + 8 * to + d) (j := 22 + 8 * v + d') _ (by omega)]
      rw [upd_ne _ (k := 19 + 8 * fr + d) (j := 22 + 8 * v + d') _ (by omega)]
      refine ⟨?_, (hg v d' hv hd').2⟩
      by_cases c : 19 + 8 * v + d' = 19 + 8 * to + d
      · rw [upd_eq' _ _ c]; omega
      · rw [upd_ne _ _ c]
        by_cases c2 : 19 + 8 * v + d' = 19 + 8 * fr + d
        · rw [upd_eq' _ _ c2]; omega
        · rw [upd_ne _ _ c2]; exact (hg v d' hv hd').1
    · rw [upd_ne _ (k := 19 + 8 * to + d) (j := 11 + d') _ (by omega), upd_ne _ (k := 19 + 8 * fr + d) (j := 11 + d') _ (by omega)]
      rw [upd_ne _ (k := 19 + 8 * to + d) (j := 14 + d') _ (by omega), upd_ne _ (k := 19 + 8 * fr + d) (j := 14 + d') _ (by omega)]
      by_cases c : d' = d
      · subst c
        have r1 := zall_d (z := upd z (19 + 8 * fr + d') x) (d := d') (x := y) ht'
        have r2 := zall_d (z := z) (d := d') (x := x) hf
        rw [upd_ne _ _ (by omega)] at r1
        rw [r1, r2]
        exact ⟨by omega, by omega, a3⟩
      · obtain ⟨b1, b2, b3⟩ := ha d' hd'
        rw [zall_ne (by omega) (fun v hv => ⟨by omega, by omega⟩), zall_ne (by omega) (fun v hv => ⟨by omega, by omega⟩)]
        exact ⟨b1, b2, b3⟩
theorem zdyes_ok {fr to : Nat} {m had : Int32} {z : dz} (hg : zgrs z) (ha : zacc z) (hf : fr < 5) (ht : to ≤ 5) (hne : fr ≠ to) (hm0 : 0 ≤ m.toInt) (hm : m.toInt ≤ had.toInt) (hh : had.toInt ≤ 2000) (hh0 : 0 < had.toInt) : ∀ d, d ≤ 3 → zgrs (zdyes fr to m had z d) ∧ zacc (zdyes fr to m had z d)
  | 0, _ => ⟨hg, ha⟩
  | d + 1, hd => by
    obtain ⟨h1, h2⟩ := zdyes_ok hg ha hf ht hne hm0 hm hh hh0 d (by omega)
    exact zdye_ok h1 h2 hf ht hne (by omega) hm0 hm hh hh0
/-- dyes leave the waters -/
theorem zdyes_wat {fr to : Nat} {m had : Int32} {z : dz} {i : Nat} (hf : fr < 5) (ht : to ≤ 5) (hi : i < 14 ∨ (17 ≤ i ∧ (i - 17) % 8 < 2) ∨ 57 ≤ i) : ∀ d, d ≤ 3 → zdyes fr to m had z d i = z i
  | 0, _ => rfl
  | d + 1, hd => by
    show zdye fr to m had d _ i = z i
    unfold zdye
    rw [zadd_ne _ _ (by unfold zdst; split <;> omega), zadd_ne _ _ (by omega), zdyes_wat hf ht hi d (by omega)]
theorem zwat_ne {z : dz} {i : Nat} {x : Int32} (h : i ≠ 18 ∧ i ≠ 26 ∧ i ≠ 34 ∧ i ≠ 42 ∧ i ≠ 50 ∧ i ≠ 2) : zwat (upd z i x) = zwat z := by
  unfold zwat
  rw [upd_ne _ _ (by omega), upd_ne _ _ (by omega), upd_ne _ _ (by omega), upd_ne _ _ (by omega), upd_ne _ _ (by omega), upd_ne _ _ (by omega)]
theorem zwat_w {z : dz} {f : Nat} {x : Int32} (hf : f < 5) : zwat (upd z (18 + 8 * f) x) = zwat z + (x.toInt - (z (18 + 8 * f)).toInt) := by
  have h5 : f = 0 ∨ f = 1 ∨ f = 2 ∨ f = 3 ∨ f = 4 := by omega
  rcases h5 with rfl | rfl | rfl | rfl | rfl <;> (simp only [Nat.reduceMul, Nat.reduceAdd]; unfold zwat; simp (disch := omega) only [upd_eq', upd_ne]; omega)
theorem zwat_2 {z : dz} {x : Int32} : zwat (upd z 2 x) = zwat z + (x.toInt - (z 2).toInt) := by
  unfold zwat; simp (disch := omega) only [upd_eq', upd_ne]; omega
theorem zwat_ge {z : dz} (h : zvats z) (h2 : 0 ≤ (z 2).toInt) {f : Nat} (hf : f < 5) : (z (18 + 8 * f)).toInt + (z 2).toInt ≤ zwat z := by
  have g0 := h 0 (by omega)
  have g1 := h 1 (by omega)
  have g2 := h 2 (by omega)
  have g3 := h 3 (by omega)
  have g4 := h 4 (by omega)
  unfold zwat
  have h5 : f = 0 ∨ f = 1 ∨ f = 2 ∨ f = 3 ∨ f = 4 := by omega
  simp only [Nat.reduceMul, Nat.reduceAdd] at g0 g1 g2 g3 g4
  rcases h5 with rfl | rfl | rfl | rfl | rfl <;> (simp only [Nat.reduceMul, Nat.reduceAdd]; omega)
theorem zgrs_ne {z : dz} {i : Nat} {x : Int32} (h : ∀ v d, v < 5 → d < 3 → 19 + 8 * v + d ≠ i ∧ 22 + 8 * v + d ≠ i) (hg : zgrs z) : zgrs (upd z i x) := by
  intro v d hv hd
  rw [upd_ne _ _ (h v d hv hd).1, upd_ne _ _ (h v d hv hd).2]
  exact hg v d hv hd
theorem zacc_ne {z : dz} {i : Nat} {x : Int32} (h : ∀ v d, v < 5 → d < 3 → 19 + 8 * v + d ≠ i ∧ 22 + 8 * v + d ≠ i) (h2 : i < 11 ∨ 17 ≤ i) (ha : zacc z) : zacc (upd z i x) := by
  intro d hd
  rw [upd_ne _ (j := 14 + d) _ (by omega), upd_ne _ (j := 11 + d) _ (by omega), zall_ne (by omega) (fun v hv => ⟨fun q => (h v d hv hd).1 q.symm, fun q => (h v d hv hd).2 q.symm⟩)]
  exact ha d hd
theorem zok_move {fr to : Nat} {much : Int32} {z : dz} (h : zok z) (hf : fr < 5) (ht : to ≤ 5) (hne : fr ≠ to) (hm : 0 ≤ much.toInt) : zok (zmove fr to much z) := by
  obtain ⟨hv, hg, ha, hs, ⟨hw0, hw⟩, m', hm', e5, hvs⟩ := h
  obtain ⟨m1, m2, m3⟩ := zmoved_ti hv hf ht hm
  have hfix : ∀ i, zfix i → zmove fr to much z i = z i := fun i hi => zmove_fix hf ht hi
  refine ⟨?_, ?_, ?_, ?_, ?_, m', hm', ?_, ?_⟩
  rotate_right
  · exact fun k hk => zvok_fix (by omega) hfix (hvs k hk)
  rotate_right
  · rw [hfix 5 (by unfold zfix; omega)]; exact e5
  rotate_right 2
  · rw [hfix 1 (by unfold zfix; omega)]; exact hs
  rotate_left
  all_goals
    unfold zmove
    split
    · first | exact hv | exact hg | exact ha | exact ⟨hw0, hw⟩
    rename_i hmz
    generalize zmoved fr to much z = m at m1 m2 m3 hmz ⊢
    obtain ⟨f1, f2, f3⟩ := hv fr hf
    have hm0 : m.toInt ≠ 0 := fun q => hmz (ti_ext q)
    obtain ⟨z1, z2⟩ := zdyes_ok (m := m) (had := z (18 + 8 * fr)) hg ha hf ht hne m1 m2 (by omega) (by omega) 3 (Nat.le_refl _)
    have hkeep : ∀ i, (i < 14 ∨ (17 ≤ i ∧ (i - 17) % 8 < 2) ∨ 57 ≤ i) → zdyes fr to m (z (18 + 8 * fr)) z 3 i = z i := fun i hi => zdyes_wat hf ht hi 3 (Nat.le_refl _)
    unfold zmv
    generalize zdyes fr to m (z (18 + 8 * fr)) z 3 = y at z1 z2 hkeep ⊢
    have k1 := hkeep (18 + 8 * fr) (by omega)
    have k2 := hkeep 2 (by omega)
    have nm := ti_neg (a := m) (by omega)
    have e1 := ti_add (a := y (18 + 8 * fr)) (b := -m) (by rw [k1]; omega) (by rw [k1]; omega)
    have wg := zwat_ge hv hw0 hf
    have lt3 := Int32.toInt_lt (z 3)
    have ew : zwat y = zwat z := by
      unfold zwat
      rw [hkeep 18 (by omega), hkeep 26 (by omega), hkeep 34 (by omega), hkeep 42 (by omega), hkeep 50 (by omega), k2]
    unfold zadd
    rw [k1] at e1
    generalize hx : y (18 + 8 * fr) + -m = x at e1 ⊢
    rw [k1] at hx
    rw [hx] at e1
    have eo : upd y (18 + 8 * fr) x (zwst to) = z (zwst to) := by
      unfold zwst
      split
      · rw [upd_ne _ _ (by omega), k2]
      · rw [upd_ne _ _ (by omega), hkeep _ (by omega)]
    rw [eo]
    have e2 : (z (zwst to) + m).toInt = (z (zwst to)).toInt + m.toInt := by
      unfold zwst
      split
      · exact ti_add (by omega) (by omega)
      · have := hv to (by omega)
        exact ti_add (by omega) (by omega)
    generalize hyy : z (zwst to) + m = w at e2 ⊢
  · intro v hv5
    obtain ⟨v1, v2, v3⟩ := hv v hv5
    rw [upd_ne _ (j := 17 + 8 * v) _ (by unfold zwst; split <;> omega), upd_ne _ (j := 17 + 8 * v) _ (by omega), hkeep (17 + 8 * v) (by omega)]
    by_cases c : 18 + 8 * v = zwst to
    · rw [upd_eq' _ _ c]
      unfold zwst at c e2
      split at c
      · omega
      · rename_i c5
        rw [if_neg c5] at e2
        have : v = to := by omega
        subst this
        have := m3 hv5
        omega
    · rw [upd_ne _ _ c]
      by_cases c2 : v = fr
      · subst c2
        rw [upd_eq]
        omega
      · rw [upd_ne _ _ (by omega), hkeep (18 + 8 * v) (by omega)]
        exact ⟨v1, v2, v3⟩
  · exact zgrs_ne (fun v d hv hd => by unfold zwst; split <;> omega) (zgrs_ne (fun v d hv hd => by omega) z1)
  · exact zacc_ne (fun v d hv hd => by unfold zwst; split <;> omega) (by unfold zwst; split <;> omega) (zacc_ne (fun v d hv hd => by omega) (by omega) z2)
  · have k3 := hkeep 3 (by omega)
    rw [upd_ne _ (j := 3) _ (by unfold zwst; split <;> omega), upd_ne _ (j := 3) _ (by omega), k3]
    have r2 := zwat_w (z := y) (x := x) hf
    rw [k1, ew] at r2
    unfold zwst at e2 ⊢
    split
    · rename_i c5
      rw [if_pos c5] at e2
      have r1 := zwat_2 (z := upd y (18 + 8 * fr) x) (x := w)
      rw [upd_ne _ _ (by omega), k2] at r1
      rw [upd_eq, r1, r2]
      omega
    · rename_i c5
      rw [if_neg c5] at e2
      have r1 := zwat_w (z := upd y (18 + 8 * fr) x) (x := w) (f := to) (by omega)
      rw [upd_ne _ _ (by omega), hkeep (18 + 8 * to) (by omega)] at r1
      rw [upd_ne _ _ (by omega), upd_ne _ _ (by omega), k2, r1, r2]
      omega
theorem zok_half {one other : Nat} {z : dz} (h : zok z) (h1 : one < 5) (h2 : other < 5) : (0 < z (18 + 8 * one) - z (18 + 8 * other) → 0 ≤ ((z (18 + 8 * one) - z (18 + 8 * other)) / nI 2).toInt) ∧ (¬ 0 < z (18 + 8 * one) - z (18 + 8 * other) → 0 ≤ (-(z (18 + 8 * one) - z (18 + 8 * other)) / nI 2).toInt) := by
  have a := h.1 one h1
  have b := h.1 other h2
  have e := ti_sub (a := z (18 + 8 * one)) (b := z (18 + 8 * other)) (by omega) (by omega)
  generalize z (18 + 8 * one) - z (18 + 8 * other) = x at e ⊢
  have e2 : (nI 2).toInt = 2 := nI_toInt (by decide)
  refine ⟨fun c => ?_, fun c => ?_⟩
  · have c' := ti_lt.mp c
    rw [ti_0] at c'
    rw [ti_div (by omega) (by omega), e2]
    omega
  · have c' : ¬ (0 : Int32).toInt < x.toInt := fun q => c (ti_lt.mpr q)
    rw [ti_0] at c'
    have e3 := ti_neg (a := x) (by omega)
    rw [ti_div (by omega) (by omega), e2]
    omega
theorem zholds_ti {v : Nat} {z : dz} (h : zvats z) (hs : 0 ≤ (z 1).toInt ∧ (z 1).toInt ≤ 200) (hv : v < 5) : 0 ≤ (zholds v z).toInt ∧ (zholds v z).toInt ≤ 4000 := by
  have a := h v hv
  unfold zholds
  generalize z (18 + 8 * v) = g at a ⊢
  generalize z 1 = s at hs ⊢
  have p0 : 0 ≤ g.toInt * s.toInt := Int.mul_nonneg a.1 hs.1
  have p1 : g.toInt * s.toInt ≤ 2000 * 200 := Int.le_trans (Int.mul_le_mul_of_nonneg_right (show g.toInt ≤ 2000 by omega) hs.1) (Int.mul_le_mul_of_nonneg_left (by omega) (by omega))
  have e := ti_mul (a := g) (b := s) (by omega) (by omega)
  have e2 : (nI 100).toInt = 100 := nI_toInt (by decide)
  rw [ti_div (by omega) (by omega), e2]
  omega
theorem zok_set1 {v d : Nat} {z : dz} (h : zok z) (hv : v < 5) (hd : d < 3) : zok (zset1 v d z) := by
  have hfix : ∀ i, zfix i → zset1 v d z i = z i := fun i hi => zset1_fix hv hd hi
  obtain ⟨hvt, hg, ha, hs, ⟨hw0, hw⟩, m', hm', e5, hvs⟩ := h
  have hl := zholds_ti hvt hs hv
  obtain ⟨l1, l2, l3, l4⟩ := zgr_le hg ha hv hd
  obtain ⟨g1, g2⟩ := hg v d hv hd
  refine ⟨?_, ?_, ?_, ?_, ?_, m', hm', ?_, ?_⟩
  rotate_right
  · exact fun k hk => zvok_fix (by omega) hfix (hvs k hk)
  rotate_right
  · rw [hfix 5 (by unfold zfix; omega)]; exact e5
  rotate_right 2
  · rw [hfix 1 (by unfold zfix; omega)]; exact hs
  rotate_left
  all_goals
    unfold zset1
    generalize zholds v z = lim at hl ⊢
    have eo := ti_sub (a := z (19 + 8 * v + d)) (b := lim) (by omega) (by omega)
    generalize hox : z (19 + 8 * v + d) - lim = ov at eo ⊢
    split
    rotate_left
    · first | exact hvt | exact hg | exact ha | exact ⟨hw0, hw⟩
    rename_i c
    have c' := ti_lt.mp c
    rw [ti_0] at c'
    have nq := ti_neg (a := ov) (by omega)
    have e1 := ti_add (a := z (19 + 8 * v + d)) (b := -ov) (by omega) (by omega)
    unfold zadd
    generalize hx : z (19 + 8 * v + d) + -ov = x at e1 ⊢
    rw [upd_ne _ (j := 22 + 8 * v + d) _ (by omega)]
    have e2 := ti_add (a := z (22 + 8 * v + d)) (b := ov) (by omega) (by omega)
    generalize hy : z (22 + 8 * v + d) + ov = y at e2 ⊢
  · intro w hw5
    rw [upd_ne _ (j := 18 + 8 * w) _ (by omega), upd_ne _ (j := 18 + 8 * w) _ (by omega), upd_ne _ (j := 17 + 8 * w) _ (by omega), upd_ne _ (j := 17 + 8 * w) _ (by omega)]
    exact hvt w hw5
  · intro w d' hw5 hd'
    obtain ⟨w1, w2⟩ := hg w d' hw5 hd'
    rw [upd_ne _ (k := 22 + 8 * v + d) (j := 19 + 8 * w + d') _ (by omega)]
    refine ⟨?_, ?_⟩
    · by_cases c2 : 19 + 8 * w + d' = 19 + 8 * v + d
      · rw [upd_eq' _ _ c2]; omega
      · rw [upd_ne _ _ c2]; exact w1
    · by_cases c2 : 22 + 8 * w + d' = 22 + 8 * v + d
      · rw [upd_eq' _ _ c2]; omega
      · rw [upd_ne _ _ c2, upd_ne _ _ (by omega)]; exact w2
  · intro d' hd'
    obtain ⟨b1, b2, b3⟩ := ha d' hd'
    rw [upd_ne _ (j := 14 + d') _ (by omega), upd_ne _ (j := 14 + d') _ (by omega), upd_ne _ (j := 11 + d') _ (by omega), upd_ne _ (j := 11 + d') _ (by omega)]
    by_cases c3 : d' = d
    · subst c3
      have r1 := zall_s (z := upd z (19 + 8 * v + d') x) (d := d') (x := y) hv
      have r2 := zall_d (z := z) (d := d') (x := x) hv
      rw [upd_ne _ _ (by omega)] at r1
      rw [r1, r2]
      exact ⟨b1, by omega, b3⟩
    · rw [zall_ne (by omega) (fun v hv => ⟨by omega, by omega⟩), zall_ne (by omega) (fun v hv => ⟨by omega, by omega⟩)]
      exact ⟨b1, b2, b3⟩
  · rw [zwat_ne (by omega), zwat_ne (by omega), upd_ne _ (j := 2) _ (by omega), upd_ne _ (j := 2) _ (by omega), upd_ne _ (j := 3) _ (by omega), upd_ne _ (j := 3) _ (by omega)]
    exact ⟨hw0, hw⟩
/-- places that say nothing of what holds -/
theorem zok_upd {i : Nat} {x : Int32} {z : dz} (hi : i = 0 ∨ i = 4 ∨ (6 ≤ i ∧ i < 11) ∨ (57 ≤ i ∧ (i - 57) % 6 = 5)) (h : zok z) : zok (upd z i x) := by
  obtain ⟨hvt, hg, ha, hs, ⟨hw0, hw⟩, m', hm', e5, hvs⟩ := h
  refine ⟨?_, zgrs_ne (fun v d hv hd => by omega) hg, zacc_ne (fun v d hv hd => by omega) (by omega) ha, ?_, ?_, m', hm', ?_, ?_⟩
  · intro w hw5
    rw [upd_ne _ (j := 18 + 8 * w) _ (by omega), upd_ne _ (j := 17 + 8 * w) _ (by omega)]
    exact hvt w hw5
  · rw [upd_ne _ _ (by omega)]; exact hs
  · rw [zwat_ne (by omega), upd_ne _ (j := 2) _ (by omega), upd_ne _ (j := 3) _ (by omega)]
    exact ⟨hw0, hw⟩
  · rw [upd_ne _ _ (by omega)]; exact e5
  · intro k hk
    unfold zvok
    rw [upd_ne _ _ (by omega), upd_ne _ _ (by omega), upd_ne _ _ (by omega), upd_ne _ _ (by omega), upd_ne _ _ (by omega)]
    exact hvs k hk
theorem zok_mvd {k : Nat} {x : Int32} {z : dz} (h : zok z) (hk : k < 8) : zok (upd z (57 + 6 * k + 5) x) := zok_upd (by omega) h
theorem zok_hr {x : Int32} {z : dz} (h : zok z) : zok (zadd z 0 x) := zok_upd (by omega) h
theorem zok_level {one other : Nat} {z : dz} (h : zok z) (h1 : one < 5) (h2 : other < 5) (hne : one ≠ other) : zok (zlevel one other z) := by
  obtain ⟨e1, e2⟩ := zok_half h h1 h2
  unfold zlevel
  split
  · rename_i c
    exact zok_move h h1 (by omega) hne (e1 c)
  · rename_i c
    exact zok_move h h2 (by omega) (Ne.symm hne) (e2 c)
theorem zok_lev1 {one other : Nat} {z : dz} (h : zok z) (h1 : one < 5) (h2 : other < 5) (hne : one ≠ other) : zok (zlev1 one other z) := by
  unfold zlev1
  split
  · exact zok_level h h1 h2 hne
  · exact h
theorem zok_levs {one : Nat} {z : dz} (h : zok z) (h1 : one < 5) : ∀ k, one + k < 5 → zok (zlevs one z k)
  | 0, _ => h
  | k + 1, hk => zok_lev1 (zok_levs h h1 k (by omega)) h1 (by omega) (by omega)
theorem zok_pipes {z : dz} (h : zok z) : ∀ k, k ≤ 5 → zok (zpipes z k)
  | 0, _ => h
  | k + 1, hk => zok_levs (zok_pipes h k (by omega)) (by omega) _ (by omega)
theorem zok_settle {v : Nat} {z : dz} (h : zok z) (hv : v < 5) : ∀ d, d ≤ 3 → zok (zsettle v z d)
  | 0, _ => h
  | d + 1, hd => zok_set1 (zok_settle h hv d (by omega)) hv (by omega)
theorem zok_settles {z : dz} (h : zok z) : ∀ v, v ≤ 5 → zok (zsettles z v)
  | 0, _ => h
  | v + 1, hv => zok_settle (zok_settles h v (by omega)) (by omega) 3 (Nat.le_refl _)
/-- a valve's numbers, as they are used -/
theorem zvok_use {k : Nat} {z : dz} (h : zvok k z) : z (57 + 6 * k) = nI (zn (z (57 + 6 * k))) ∧ z (57 + 6 * k + 1) = nI (zn (z (57 + 6 * k + 1))) ∧ zn (z (57 + 6 * k)) < 5 ∧ zn (z (57 + 6 * k + 1)) ≤ 5 ∧ zn (z (57 + 6 * k)) ≠ zn (z (57 + 6 * k + 1)) ∧ 0 ≤ (z (57 + 6 * k + 2)).toInt := by
  obtain ⟨f, t, r, a, b, e1, e2, e3, e4, e5, h1, h2, h3, h4, h5, h6⟩ := h
  rw [e1, e2, e3, zn_nI (by omega), zn_nI (by omega), nI_toInt (by omega)]
  exact ⟨rfl, rfl, h1, h2, h3, by omega⟩
theorem zok_valve {k m : Nat} {z : dz} (h : zok z) (hm : z 5 = nI m) (hm8 : m ≤ 8) (hk : k < m) : zok (zvalve k z) := by
  unfold zvalve
  split
  · obtain ⟨m', hm', e, hv⟩ := h.2.2.2.2.2
    have : m' = m := (nI_eq (by omega) (by omega)).mp (e.symm.trans hm)
    subst this
    obtain ⟨e1, e2, e3, e4, e5, e6⟩ := zvok_use (hv k hk)
    exact zok_mvd (zok_move h e3 e4 e5 e6) (by omega)
  · exact h
theorem zvalve_fix {k m : Nat} {z : dz} {i : Nat} (h : zok z) (hm : z 5 = nI m) (hm8 : m ≤ 8) (hk : k < m) (hi : zfix i) : zvalve k z i = z i := by
  unfold zvalve
  split
  · obtain ⟨m', hm', e, hv⟩ := h.2.2.2.2.2
    have : m' = m := (nI_eq (by omega) (by omega)).mp (e.symm.trans hm)
    subst this
    obtain ⟨e1, e2, e3, e4, e5, e6⟩ := zvok_use (hv k hk)
    rw [upd_ne _ _ (by unfold zfix at hi; omega), zmove_fix e3 e4 hi]
  · rfl
theorem zok_valves {m : Nat} {z : dz} (h : zok z) (hm : z 5 = nI m) (hm8 : m ≤ 8) : ∀ k, k ≤ m → zok (zvalves z k) ∧ ∀ i, zfix i → zvalves z k i = z i
  | 0, _ => ⟨h, fun _ _ => rfl⟩
  | k + 1, hk => by
    obtain ⟨h1, h2⟩ := zok_valves h hm hm8 k (by omega)
    have h5 : zvalves z k 5 = nI m := by rw [h2 5 (by unfold zfix; omega), hm]
    refine ⟨zok_valve h1 h5 hm8 (by omega), fun i hi => ?_⟩
    show zvalve k (zvalves z k) i = z i
    rw [zvalve_fix h1 h5 hm8 (by omega) hi, h2 i hi]
theorem zok_hour {z : dz} (h : zok z) : zok (zhour z) ∧ ∀ i, zfix i → zhour z i = z i := by
  obtain ⟨m, hm8, hm, hv⟩ := h.2.2.2.2.2
  have e : zn (z 5) = m := by rw [hm]; exact zn_nI (by omega)
  obtain ⟨h1, h2⟩ := zok_valves h hm hm8 m (Nat.le_refl _)
  unfold zhour
  rw [e]
  refine ⟨zok_hr (zok_settles (zok_pipes h1 5 (Nat.le_refl _)) 5 (Nat.le_refl _)), fun i hi => ?_⟩
  rw [zadd_ne _ _ (by unfold zfix at hi; omega), zsettles_fix hi 5 (Nat.le_refl _), zpipes_fix hi 5 (Nat.le_refl _), h2 i hi]
theorem zok_hours {z : dz} (h : zok z) : ∀ k, zok (zhours z k) ∧ ∀ i, zfix i → zhours z k i = z i
  | 0 => ⟨h, fun _ _ => rfl⟩
  | k + 1 => by
    obtain ⟨h1, h2⟩ := zok_hours h k
    obtain ⟨h3, h4⟩ := zok_hour h1
    exact ⟨h3, fun i hi => (h4 i hi).trans (h2 i hi)⟩
end
section
/-! contracts of the reference's methods: level, settle, hour, hours -/
theorem nI2_ne : ¬ nI 2 = 0 := by decide +kernel
end
section
/-! the system's cells in the reference's places -/
def pz (k : Nat) : Nat :=
  if k < 5 then 17 + 8 * k
  else if k < 10 then 1 + k
  else if k < 15 then 18 + 8 * (k - 10)
  else if k < 30 then 19 + 8 * ((k - 15) / 3) + (k - 15) % 3
  else if k < 45 then 22 + 8 * ((k - 30) / 3) + (k - 30) % 3
  else if k < 48 then k - 34
  else if k < 51 then k - 34
  else if k = 51 then 1 else if k = 52 then 0 else if k = 53 then 3 else if k = 54 then 2 else if k = 55 then 4 else if k = 56 then 5 else k
theorem pz_c {v : Nat} (h : v < 5) : pz v = 17 + 8 * v := by simp [pz, h]
theorem pz_p {v : Nat} (h : v < 5) : pz (5 + v) = 6 + v := by unfold pz; rw [if_neg (by omega), if_pos (by omega)]; omega
theorem pz_w {v : Nat} (h : v < 5) : pz (10 + v) = 18 + 8 * v := by unfold pz; rw [if_neg (by omega), if_neg (by omega), if_pos (by omega)]; omega
theorem pz_d {v d : Nat} (h : v < 5) (hd : d < 3) : pz (15 + v * 3 + d) = 19 + 8 * v + d := by unfold pz; rw [if_neg (by omega), if_neg (by omega), if_neg (by omega), if_pos (by omega)]; omega
theorem pz_s {v d : Nat} (h : v < 5) (hd : d < 3) : pz (30 + v * 3 + d) = 22 + 8 * v + d := by unfold pz; rw [if_neg (by omega), if_neg (by omega), if_neg (by omega), if_neg (by omega), if_pos (by omega)]; omega
theorem pz_i {d : Nat} (hd : d < 3) : pz (45 + d) = 11 + d := by unfold pz; rw [if_neg (by omega), if_neg (by omega), if_neg (by omega), if_neg (by omega), if_neg (by omega), if_pos (by omega)]; omega
theorem pz_o {d : Nat} (hd : d < 3) : pz (48 + d) = 14 + d := by unfold pz; rw [if_neg (by omega), if_neg (by omega), if_neg (by omega), if_neg (by omega), if_neg (by omega), if_neg (by omega), if_pos (by omega)]; omega
theorem pz_hi {k : Nat} (h : 57 ≤ k) : pz k = k := by
  unfold pz
  rw [if_neg (by omega), if_neg (by omega), if_neg (by omega), if_neg (by omega), if_neg (by omega), if_neg (by omega), if_neg (by omega), if_neg (by omega), if_neg (by omega), if_neg (by omega), if_neg (by omega), if_neg (by omega), if_neg (by omega)]
theorem pz_inj57 : ∀ a, a < 57 → ∀ b, b < 57 → pz a = pz b → a = b := by decide +kernel
theorem pz_lt57 : ∀ a, a < 57 → pz a < 57 := by decide +kernel
theorem pz_inj {a b : Nat} (h : pz a = pz b) : a = b := by
  by_cases ha : a < 57
  · by_cases hb : b < 57
    · exact pz_inj57 a ha b hb h
    · have h1 := pz_lt57 a ha
      rw [h, pz_hi (by omega)] at h1
      exact absurd h1 hb
  · by_cases hb : b < 57
    · have h1 := pz_lt57 b hb
      rw [← h, pz_hi (by omega)] at h1
      exact absurd h1 ha
    · rwa [pz_hi (by omega), pz_hi (by omega)] at h
theorem pz_lt {k : Nat} (h : k < 105) : pz k < 105 := by
  by_cases h57 : k < 57
  · have := pz_lt57 k h57
    omega
  · rw [pz_hi (by omega)]
    exact h
def zp (z : dz) : dz := fun k => z (pz k)
theorem zp_upd (z : dz) (k : Nat) (x : Int32) : upd (zp z) k x = zp (upd z (pz k) x) := by
  funext j
  unfold upd zp
  by_cases h : j = k
  · subst h
    simp
  · have h2 : ¬ pz j = pz k := fun q => h (pz_inj q)
    simp [h, h2]
theorem zp_add (z : dz) (k : Nat) (x : Int32) : upd (zp z) k (zp z k + x) = zp (zadd z (pz k) x) := zp_upd z k _
theorem zp_sub (z : dz) (k : Nat) (x : Int32) : upd (zp z) k (zp z k - x) = zp (zadd z (pz k) (-x)) := by
  rw [Int32.sub_eq_add_neg]
  exact zp_upd z k _
theorem imin_eq (a b : Int32) : (if b < a then b else a) = ileast a b := by
  unfold ileast
  by_cases h1 : b < a
  · have h2 : ¬ a < b := fun q => Int32.lt_irrefl (Int32.lt_trans h1 q)
    simp [h1, h2]
  · by_cases h2 : a < b
    · simp [h1, h2]
    · have e : a = b := Int32.le_antisymm (Int32.not_lt.mp h1) (Int32.not_lt.mp h2)
      simp [e]
theorem zok_moved_pos {fr to : Nat} {much : Int32} {z : dz} (h : zok z) (hf : fr < 5) (ht : to ≤ 5) (hm : 0 ≤ much.toInt) : 0 ≤ zmoved fr to much z := by
  rw [Int32.le_iff_toInt_le]
  exact (zmoved_ti h.1 hf ht hm).1
theorem zmove_0 {fr to : Nat} {much : Int32} {z : dz} (h : zok z) (hf : fr < 5) (ht : to ≤ 5) (hm : much = 0) : zmove fr to much z = z := by
  subst hm
  obtain ⟨a, b, -⟩ := zmoved_ti (much := 0) h.1 hf ht (by decide)
  have c : zmoved fr to 0 z = 0 := by
    obtain ⟨p1, p2, p3⟩ := ileast_ti 0 (z (18 + 8 * fr))
    refine ti_ext ?_
    rw [ti_0] at p1 ⊢
    have : (zmoved fr to 0 z).toInt ≤ (ileast 0 (z (18 + 8 * fr))).toInt := by
      unfold zmoved
      split
      · exact Int.le_refl _
      · exact (ileast_ti _ _).1
    omega
  unfold zmove
  rw [if_pos c]
theorem zsettle_keep {v i : Nat} {z : dz} (hi : i = 1 ∨ i = 18 + 8 * v) : ∀ d, d ≤ 3 → zsettle v z d i = z i
  | 0, _ => rfl
  | d + 1, hd => by
    show zset1 v d _ i = z i
    unfold zset1
    split
    · rw [zadd_ne _ _ (by omega), zadd_ne _ _ (by omega), zsettle_keep hi d (by omega)]
    · rw [zsettle_keep hi d (by omega)]
theorem zholds_keep {v : Nat} {z : dz} {d : Nat} (hd : d ≤ 3) : zholds v (zsettle v z d) = zholds v z := by
  unfold zholds
  rw [zsettle_keep (Or.inl rfl) d hd, zsettle_keep (Or.inr rfl) d hd]
theorem zmove_keep0 {fr to : Nat} {much : Int32} {z : dz} (hf : fr < 5) (ht : to ≤ 5) : zmove fr to much z 0 = z 0 := by
  unfold zmove
  split
  · rfl
  · unfold zmv
    rw [zadd_ne _ _ (by unfold zwst; split <;> omega), zadd_ne _ _ (by omega), zdyes_wat hf ht (by omega) 3 (Nat.le_refl _)]
theorem zvalve_keep0 {k m : Nat} {z : dz} (h : zok z) (hm : z 5 = nI m) (hm8 : m ≤ 8) (hk : k < m) : zvalve k z 0 = z 0 := by
  unfold zvalve
  split
  · obtain ⟨m', hm', e, hv⟩ := h.2.2.2.2.2
    have : m' = m := (nI_eq (by omega) (by omega)).mp (e.symm.trans hm)
    subst this
    obtain ⟨e1, e2, e3, e4, e5, e6⟩ := zvok_use (hv k hk)
    rw [upd_ne _ _ (by omega), zmove_keep0 e3 e4]
  · rfl
theorem zvalves_keep0 {m : Nat} {z : dz} (h : zok z) (hm : z 5 = nI m) (hm8 : m ≤ 8) : ∀ k, k ≤ m → zvalves z k 0 = z 0
  | 0, _ => rfl
  | k + 1, hk => by
    obtain ⟨h1, h2⟩ := zok_valves h hm hm8 k (by omega)
    have h5 : zvalves z k 5 = nI m := by rw [h2 5 (by unfold zfix; omega), hm]
    show zvalve k (zvalves z k) 0 = z 0
    rw [zvalve_keep0 h1 h5 hm8 (by omega), zvalves_keep0 h hm hm8 k (by omega)]
theorem zok_water_pos {v : Nat} {z : dz} (h : zok z) (hv : v < 5) : 0 ≤ z (18 + 8 * v) := by
  rw [Int32.le_iff_toInt_le]
  exact (h.1 v hv).1
theorem i_eq0 {x : Int32} (h1 : x ≤ 0) (h2 : 0 ≤ x) : x = 0 := Int32.le_antisymm h1 h2
theorem c_S_isVat {v : Nat} {M : am_M} {K : am_Q} (hv : v < 5) (h : K (.inl (some (.int (nI 1)))) M) : am_C mt_S_isVat [.int (nI v)] M K :=
  am_C_of_R am_S0 om_S_isVat rfl [.int (nI v)] rfl rfl (g_S_isVat_0 ⟨fun c => absurd c (nI_pos (by omega)), fun c => ⟨fun c => absurd c (i_nge hv (by decide)), fun c => g_S_isVat_14 ⟨Or.inr rfl, h⟩⟩⟩)
end
section
/-! contracts of State's methods: an hour -/
theorem c_S_hourOfDay_1 {z : dz} {M : am_M} {K : am_Q} (hM : M 2 = zp z) (h : K (.inl (some (.int (zhod z)))) M) : am_C mt_S_hourOfDay [.ref 1] M K := by
  have e : zhod z = M 2 52 - M 2 52 / nI 24 * nI 24 := by rw [hM]; rfl
  rw [e] at h
  exact am_C_of_R am_S0 om_S_hourOfDay rfl [.ref 1] rfl rfl (g_S_hourOfDay_0 ⟨52, rfl, by decide, by decide, h⟩)
theorem c_S_limitIn_1 {z : dz} {v : Nat} {M : am_M} {K : am_Q} (hM : M 2 = zp z) (hv : v < 5) (h : K (.inl (some (.int (zholds v z)))) M) : am_C mt_S_limitIn [.ref 1, .int (nI v)] M K := by
  have e : zholds v z = M 2 (10 + v) * M 2 51 / nI 100 := by
    rw [hM]
    unfold zholds zp
    rw [pz_w hv]
    rfl
  rw [e] at h
  refine am_C_of_R am_S0 om_S_limitIn rfl [.ref 1, .int (nI v)] rfl rfl (g_S_limitIn_0 (c_S_isVat hv ⟨fun c => absurd c nI1_ne, fun c => ⟨10 + v, ix2 10 v, by show _ < 105; omega, 51, rfl, by decide, by decide, g_S_limitIn_31 h⟩⟩))
theorem c_S_isOpen_1 {z : dz} {k : Nat} {hr : Int32} {M : am_M} {K : am_Q} (hM : M 2 = zp z) (hk : k < 8) (h : K (.inl (some (.int (ib (z (57 + 6 * k + 3) ≤ hr ∧ hr ≤ z (57 + 6 * k + 4)))))) M) : am_C mt_S_isOpen [.ref 1, .int (nI (57 + 6 * k)), .int hr] M K := by
  have e3 : z (57 + 6 * k + 3) = M 2 (57 + 6 * k + 3) := by rw [hM]; unfold zp; rw [pz_hi (by omega)]
  have e4 : z (57 + 6 * k + 4) = M 2 (57 + 6 * k + 4) := by rw [hM]; unfold zp; rw [pz_hi (by omega)]
  rw [e3, e4] at h
  refine am_C_of_R am_S0 om_S_isOpen rfl [.ref 1, .int (nI (57 + 6 * k)), .int hr] rfl rfl (g_S_isOpen_0 ⟨fun c => absurd c (nI_nlt (a := 57 + 6 * k) (b := 57) (by omega) (by omega)), fun c => ⟨fun c => absurd c ?_, fun c => ⟨57 + 6 * k + 3, ix2 _ 3, by show _ < 105; omega, fun c => g_S_isOpen_42 (g_S_isOpen_43 ⟨Or.inl rfl, ?_⟩), fun c => ⟨57 + 6 * k + 4, ix2 _ 4, by show _ < 105; omega, fun c2 => g_S_isOpen_42 (g_S_isOpen_43 ⟨Or.inl rfl, ?_⟩), fun c2 => g_S_isOpen_43 ⟨Or.inr rfl, ?_⟩⟩⟩⟩⟩)
  · show ¬ nI 105 ≤ nI (57 + 6 * k) + nI 4
    rw [ix2]
    exact i_nge (by omega) (by decide)
  · have c' : ¬ (M 2 (57 + 6 * k + 3) ≤ hr ∧ hr ≤ M 2 (57 + 6 * k + 4)) := fun q => Int32.not_le.mpr c q.1
    rw [ib_f c'] at h
    exact h
  · have c' : ¬ (M 2 (57 + 6 * k + 3) ≤ hr ∧ hr ≤ M 2 (57 + 6 * k + 4)) := fun q => Int32.not_le.mpr c2 q.2
    rw [ib_f c'] at h
    exact h
  · have c' : M 2 (57 + 6 * k + 3) ≤ hr ∧ hr ≤ M 2 (57 + 6 * k + 4) := ⟨Int32.not_lt.mp c, Int32.not_lt.mp c2⟩
    rw [ib_t c'] at h
    exact h
theorem c_S_moveWater_1 {z : dz} {fr to : Nat} {much : Int32} {M : am_M} {K : am_Q} (hM : M 2 = zp z) (hz : zok z) (hf : fr < 5) (ht : to ≤ 5) (hm : 0 ≤ much.toInt)
    (h : K (.inl (some (.int (zmoved fr to much z)))) (am_set M 2 (zp (zmove fr to much z)))) : am_C mt_S_moveWater [.ref 1, .int (nI fr), .int (nI to), .int much] M K := by
  have hx := zok_moved0 hz hf ht hm
  have hpos := zok_moved_pos hz hf ht hm
  have hwp := zok_water_pos hz hf
  have h0 : M = am_set M 2 (zp z) := by rw [← hM, am_set_self]
  have ew : M 2 (10 + fr) = z (18 + 8 * fr) := by rw [hM]; unfold zp; rw [pz_w hf]
  have tail : am_R am_S0 mt_S_moveWater 1 70 [.ref 1, .int (nI fr), .int (nI to), .int much, .int (z (18 + 8 * fr)), .int (zmoved fr to much z), .null, .null] [] M K := by
    unfold zmove at h
    generalize hmv : zmoved fr to much z = mv at h hx hpos ⊢
    generalize hh : z (18 + 8 * fr) = had at h hx hwp ⊢
    have stop : mv = 0 → am_R am_S0 mt_S_moveWater 1 80 [.ref 1, .int (nI fr), .int (nI to), .int much, .int had, .int mv, .null, .null] [] M K := by
      intro c
      rw [if_pos c, ← hM, am_set_self, c] at h
      exact g_S_moveWater_80 h
    refine g_S_moveWater_70 ⟨fun c => stop ?_, fun c => ⟨fun c2 => ?_, fun c2 => stop ?_⟩⟩
    · exact Classical.byContradiction fun q => hx q (i_eq0 c hwp)
    · have c' : ¬ mv = 0 := fun q => by rw [q] at c2; exact Int32.lt_irrefl c2
      have hne := hx c'
      rw [if_neg c'] at h
      refine g_S_moveWater_82 ?_
      refine am_R_le (xs := [.ref 1, .int (nI fr), .int (nI to), .int much, .int had, .int mv, .int (nI 0), .null]) (by repeat' (first | exact trivial | exact Or.inr rfl | exact Or.inl rfl | exact Or.inr (congrArg Value.int (nI_succ _)) | refine ⟨?_, ?_⟩)) ?_
      rw [h0]
      refine lu (P := fun i => am_R am_S0 mt_S_moveWater 1 85 [.ref 1, .int (nI fr), .int (nI to), .int much, .int had, .int mv, .int (nI i), .null] [] (am_set M 2 (zp (zdyes fr to mv had z i))) K) 3 ?_ ?_
      · refine g_S_moveWater_85 ⟨fun c => ?_, fun c => absurd (i_le (Nat.le_refl 3) (by decide)) c⟩
        generalize hzd : zdyes fr to mv had z 3 = zd
        refine g_S_moveWater_170 ⟨10 + fr, ix2 10 fr, by show _ < 105; omega, 10 + fr, ix2 10 fr, by show _ < 105; omega, fun c => ?_, fun c => ?_⟩
        · have c5 : ¬ to = 5 := fun q => c (by rw [q]; rfl)
          refine g_S_moveWater_198 (g_S_moveWater_202 ⟨10 + to, ix2 10 to, by show _ < 105; omega, 10 + to, ix2 10 to, by show _ < 105; omega, ?_⟩)
          simp only [am_set_set]
          have e : upd (upd (zp zd) (10 + fr) (zp zd (10 + fr) - mv)) (10 + to) (upd (zp zd) (10 + fr) (zp zd (10 + fr) - mv) (10 + to) + mv) = zp (zmv fr to mv had z) := by
            rw [zp_sub, zp_add, pz_w hf, pz_w (by omega)]
            unfold zmv zwst
            rw [if_neg c5, hzd]
          rw [← e] at h
          exact h
        · have c5 : to = 5 := (nI_eq (a := to) (b := 5) (by omega) (by decide)).mp (Classical.not_not.mp c)
          refine g_S_moveWater_202 ⟨54, rfl, by decide, 54, rfl, by decide, ?_⟩
          simp only [am_set_set]
          have e : upd (upd (zp zd) (10 + fr) (zp zd (10 + fr) - mv)) 54 (upd (zp zd) (10 + fr) (zp zd (10 + fr) - mv) 54 + mv) = zp (zmv fr to mv had z) := by
            rw [zp_sub, zp_add, pz_w hf]
            unfold zmv zwst
            rw [if_pos c5, hzd]
            rfl
          rw [← e] at h
          exact h
      · intro i hi ih
        have eih : zdyes fr to mv had z (i + 1) = zdye fr to mv had i (zdyes fr to mv had z i) := rfl
        rw [eih] at ih
        generalize zdyes fr to mv had z i = zi at ih ⊢
        refine g_S_moveWater_85 ⟨fun c => absurd c (i_nge hi (by decide)), fun c => ?_⟩
        refine ⟨15 + fr * 3 + i, ix4' 15 3 fr i, by show _ < 105; omega, hne, 15 + fr * 3 + i, ix4' 15 3 fr i, by show _ < 105; omega, 15 + fr * 3 + i, ix4' 15 3 fr i, by show _ < 105; omega, fun c => ?_, fun c => ?_⟩
        · have c5 : ¬ to = 5 := fun q => c (by rw [q]; rfl)
          refine g_S_moveWater_149 (g_S_moveWater_158 ⟨15 + to * 3 + i, ix4' 15 3 to i, by show _ < 105; omega, 15 + to * 3 + i, ix4' 15 3 to i, by show _ < 105; omega, ?_⟩)
          simp only [am_set_set]
          have e : upd (upd (zp zi) (15 + fr * 3 + i) (zp zi (15 + fr * 3 + i) - zp zi (15 + fr * 3 + i) * mv / had)) (15 + to * 3 + i) (upd (zp zi) (15 + fr * 3 + i) (zp zi (15 + fr * 3 + i) - zp zi (15 + fr * 3 + i) * mv / had) (15 + to * 3 + i) + zp zi (15 + fr * 3 + i) * mv / had) = zp (zdye fr to mv had i zi) := by
            rw [zp_sub, zp_add, pz_d hf hi, pz_d (by omega) hi]
            unfold zdye zdst zgr zp
            rw [if_neg c5, pz_d hf hi]
          rw [← e] at ih
          exact am_R_le (by repeat' (first | exact trivial | exact Or.inr rfl | exact Or.inl rfl | exact Or.inr (congrArg Value.int (nI_succ _)) | refine ⟨?_, ?_⟩)) ih
        · have c5 : to = 5 := (nI_eq (a := to) (b := 5) (by omega) (by decide)).mp (Classical.not_not.mp c)
          refine g_S_moveWater_158 ⟨48 + i, ix2 48 i, by show _ < 105; omega, 48 + i, ix2 48 i, by show _ < 105; omega, ?_⟩
          simp only [am_set_set]
          have e : upd (upd (zp zi) (15 + fr * 3 + i) (zp zi (15 + fr * 3 + i) - zp zi (15 + fr * 3 + i) * mv / had)) (48 + i) (upd (zp zi) (15 + fr * 3 + i) (zp zi (15 + fr * 3 + i) - zp zi (15 + fr * 3 + i) * mv / had) (48 + i) + zp zi (15 + fr * 3 + i) * mv / had) = zp (zdye fr to mv had i zi) := by
            rw [zp_sub, zp_add, pz_d hf hi, pz_o hi]
            unfold zdye zdst zgr zp
            rw [if_pos c5, pz_d hf hi]
          rw [← e] at ih
          exact am_R_le (by repeat' (first | exact trivial | exact Or.inr rfl | exact Or.inl rfl | exact Or.inr (congrArg Value.int (nI_succ _)) | refine ⟨?_, ?_⟩)) ih
    · exact i_eq0 (Int32.not_lt.mp c2) hpos
  have mid : am_R am_S0 mt_S_moveWater 1 21 [.ref 1, .int (nI fr), .int (nI to), .int much, .null, .null, .null, .null] [] M K := by
    refine g_S_moveWater_21 ⟨10 + fr, ix2 10 fr, by show _ < 105; omega, fun c => ?_, fun c => ?_⟩
    · have c5 : to = 5 := (nI_eq (a := to) (b := 5) (by omega) (by decide)).mp c
      have e : zmoved fr to much z = (if z (18 + 8 * fr) < much then z (18 + 8 * fr) else much) := by unfold zmoved; rw [if_pos c5, imin_eq]
      rw [e, ← ew] at tail
      exact tail
    · have c5 : ¬ to = 5 := fun q => c (by rw [q]; rfl)
      refine ⟨0 + to, ix2 0 to, by show _ < 105; omega, 10 + to, ix2 10 to, by show _ < 105; omega, ?_⟩
      have ec : M 2 (0 + to) = z (17 + 8 * to) := by rw [hM]; unfold zp; rw [Nat.zero_add, pz_c (by omega)]
      have et : M 2 (10 + to) = z (18 + 8 * to) := by rw [hM]; unfold zp; rw [pz_w (by omega)]
      have e : zmoved fr to much z = (if z (17 + 8 * to) - z (18 + 8 * to) < (if z (18 + 8 * fr) < much then z (18 + 8 * fr) else much) then z (17 + 8 * to) - z (18 + 8 * to) else (if z (18 + 8 * fr) < much then z (18 + 8 * fr) else much)) := by
        unfold zmoved
        rw [if_neg c5, imin_eq, imin_eq]
      rw [e, ← ew, ← ec, ← et] at tail
      exact tail
  refine am_C_of_R am_S0 om_S_moveWater rfl [.ref 1, .int (nI fr), .int (nI to), .int much, .null, .null, .null, .null] rfl rfl (g_S_moveWater_0 (c_S_isVat hf ⟨fun c => absurd c nI1_ne, fun c => ⟨fun c => mid, fun c => ?_⟩⟩))
  have c5 : ¬ to = 5 := fun q => c (by rw [q]; rfl)
  exact c_S_isVat (by omega) ⟨fun c => mid, fun c => absurd nI1_ne c⟩
theorem c_S_hourOfDay_3 {z : dz} {M : am_M} {K : am_Q} (hM : M 4 = zp z) (h : K (.inl (some (.int (zhod z)))) M) : am_C mt_S_hourOfDay [.ref 3] M K := by
  have e : zhod z = M 4 52 - M 4 52 / nI 24 * nI 24 := by rw [hM]; rfl
  rw [e] at h
  exact am_C_of_R am_S0 om_S_hourOfDay rfl [.ref 3] rfl rfl (g_S_hourOfDay_0 ⟨52, rfl, by decide, by decide, h⟩)
theorem c_S_limitIn_3 {z : dz} {v : Nat} {M : am_M} {K : am_Q} (hM : M 4 = zp z) (hv : v < 5) (h : K (.inl (some (.int (zholds v z)))) M) : am_C mt_S_limitIn [.ref 3, .int (nI v)] M K := by
  have e : zholds v z = M 4 (10 + v) * M 4 51 / nI 100 := by
    rw [hM]
    unfold zholds zp
    rw [pz_w hv]
    rfl
  rw [e] at h
  refine am_C_of_R am_S0 om_S_limitIn rfl [.ref 3, .int (nI v)] rfl rfl (g_S_limitIn_0 (c_S_isVat hv ⟨fun c => absurd c nI1_ne, fun c => ⟨10 + v, ix2 10 v, by show _ < 105; omega, 51, rfl, by decide, by decide, g_S_limitIn_31 h⟩⟩))
theorem c_S_isOpen_3 {z : dz} {k : Nat} {hr : Int32} {M : am_M} {K : am_Q} (hM : M 4 = zp z) (hk : k < 8) (h : K (.inl (some (.int (ib (z (57 + 6 * k + 3) ≤ hr ∧ hr ≤ z (57 + 6 * k + 4)))))) M) : am_C mt_S_isOpen [.ref 3, .int (nI (57 + 6 * k)), .int hr] M K := by
  have e3 : z (57 + 6 * k + 3) = M 4 (57 + 6 * k + 3) := by rw [hM]; unfold zp; rw [pz_hi (by omega)]
  have e4 : z (57 + 6 * k + 4) = M 4 (57 + 6 * k + 4) := by rw [hM]; unfold zp; rw [pz_hi (by omega)]
  rw [e3, e4] at h
  refine am_C_of_R am_S0 om_S_isOpen rfl [.ref 3, .int (nI (57 + 6 * k)), .int hr] rfl rfl (g_S_isOpen_0 ⟨fun c => absurd c (nI_nlt (a := 57 + 6 * k) (b := 57) (by omega) (by omega)), fun c => ⟨fun c => absurd c ?_, fun c => ⟨57 + 6 * k + 3, ix2 _ 3, by show _ < 105; omega, fun c => g_S_isOpen_42 (g_S_isOpen_43 ⟨Or.inl rfl, ?_⟩), fun c => ⟨57 + 6 * k + 4, ix2 _ 4, by show _ < 105; omega, fun c2 => g_S_isOpen_42 (g_S_isOpen_43 ⟨Or.inl rfl, ?_⟩), fun c2 => g_S_isOpen_43 ⟨Or.inr rfl, ?_⟩⟩⟩⟩⟩)
  · show ¬ nI 105 ≤ nI (57 + 6 * k) + nI 4
    rw [ix2]
    exact i_nge (by omega) (by decide)
  · have c' : ¬ (M 4 (57 + 6 * k + 3) ≤ hr ∧ hr ≤ M 4 (57 + 6 * k + 4)) := fun q => Int32.not_le.mpr c q.1
    rw [ib_f c'] at h
    exact h
  · have c' : ¬ (M 4 (57 + 6 * k + 3) ≤ hr ∧ hr ≤ M 4 (57 + 6 * k + 4)) := fun q => Int32.not_le.mpr c2 q.2
    rw [ib_f c'] at h
    exact h
  · have c' : M 4 (57 + 6 * k + 3) ≤ hr ∧ hr ≤ M 4 (57 + 6 * k + 4) := ⟨Int32.not_lt.mp c, Int32.not_lt.mp c2⟩
    rw [ib_t c'] at h
    exact h
theorem c_S_moveWater_3 {z : dz} {fr to : Nat} {much : Int32} {M : am_M} {K : am_Q} (hM : M 4 = zp z) (hz : zok z) (hf : fr < 5) (ht : to ≤ 5) (hm : 0 ≤ much.toInt)
    (h : K (.inl (some (.int (zmoved fr to much z)))) (am_set M 4 (zp (zmove fr to much z)))) : am_C mt_S_moveWater [.ref 3, .int (nI fr), .int (nI to), .int much] M K := by
  have hx := zok_moved0 hz hf ht hm
  have hpos := zok_moved_pos hz hf ht hm
  have hwp := zok_water_pos hz hf
  have h0 : M = am_set M 4 (zp z) := by rw [← hM, am_set_self]
  have ew : M 4 (10 + fr) = z (18 + 8 * fr) := by rw [hM]; unfold zp; rw [pz_w hf]
  have tail : am_R am_S0 mt_S_moveWater 1 70 [.ref 3, .int (nI fr), .int (nI to), .int much, .int (z (18 + 8 * fr)), .int (zmoved fr to much z), .null, .null] [] M K := by
    unfold zmove at h
    generalize hmv : zmoved fr to much z = mv at h hx hpos ⊢
    generalize hh : z (18 + 8 * fr) = had at h hx hwp ⊢
    have stop : mv = 0 → am_R am_S0 mt_S_moveWater 1 80 [.ref 3, .int (nI fr), .int (nI to), .int much, .int had, .int mv, .null, .null] [] M K := by
      intro c
      rw [if_pos c, ← hM, am_set_self, c] at h
      exact g_S_moveWater_80 h
    refine g_S_moveWater_70 ⟨fun c => stop ?_, fun c => ⟨fun c2 => ?_, fun c2 => stop ?_⟩⟩
    · exact Classical.byContradiction fun q => hx q (i_eq0 c hwp)
    · have c' : ¬ mv = 0 := fun q => by rw [q] at c2; exact Int32.lt_irrefl c2
      have hne := hx c'
      rw [if_neg c'] at h
      refine g_S_moveWater_82 ?_
      refine am_R_le (xs := [.ref 3, .int (nI fr), .int (nI to), .int much, .int had, .int mv, .int (nI 0), .null]) (by repeat' (first | exact trivial | exact Or.inr rfl | exact Or.inl rfl | exact Or.inr (congrArg Value.int (nI_succ _)) | refine ⟨?_, ?_⟩)) ?_
      rw [h0]
      refine lu (P := fun i => am_R am_S0 mt_S_moveWater 1 85 [.ref 3, .int (nI fr), .int (nI to), .int much, .int had, .int mv, .int (nI i), .null] [] (am_set M 4 (zp (zdyes fr to mv had z i))) K) 3 ?_ ?_
      · refine g_S_moveWater_85 ⟨fun c => ?_, fun c => absurd (i_le (Nat.le_refl 3) (by decide)) c⟩
        generalize hzd : zdyes fr to mv had z 3 = zd
        refine g_S_moveWater_170 ⟨10 + fr, ix2 10 fr, by show _ < 105; omega, 10 + fr, ix2 10 fr, by show _ < 105; omega, fun c => ?_, fun c => ?_⟩
        · have c5 : ¬ to = 5 := fun q => c (by rw [q]; rfl)
          refine g_S_moveWater_198 (g_S_moveWater_202 ⟨10 + to, ix2 10 to, by show _ < 105; omega, 10 + to, ix2 10 to, by show _ < 105; omega, ?_⟩)
          simp only [am_set_set]
          have e : upd (upd (zp zd) (10 + fr) (zp zd (10 + fr) - mv)) (10 + to) (upd (zp zd) (10 + fr) (zp zd (10 + fr) - mv) (10 + to) + mv) = zp (zmv fr to mv had z) := by
            rw [zp_sub, zp_add, pz_w hf, pz_w (by omega)]
            unfold zmv zwst
            rw [if_neg c5, hzd]
          rw [← e] at h
          exact h
        · have c5 : to = 5 := (nI_eq (a := to) (b := 5) (by omega) (by decide)).mp (Classical.not_not.mp c)
          refine g_S_moveWater_202 ⟨54, rfl, by decide, 54, rfl, by decide, ?_⟩
          simp only [am_set_set]
          have e : upd (upd (zp zd) (10 + fr) (zp zd (10 + fr) - mv)) 54 (upd (zp zd) (10 + fr) (zp zd (10 + fr) - mv) 54 + mv) = zp (zmv fr to mv had z) := by
            rw [zp_sub, zp_add, pz_w hf]
            unfold zmv zwst
            rw [if_pos c5, hzd]
            rfl
          rw [← e] at h
          exact h
      · intro i hi ih
        have eih : zdyes fr to mv had z (i + 1) = zdye fr to mv had i (zdyes fr to mv had z i) := rfl
        rw [eih] at ih
        generalize zdyes fr to mv had z i = zi at ih ⊢
        refine g_S_moveWater_85 ⟨fun c => absurd c (i_nge hi (by decide)), fun c => ?_⟩
        refine ⟨15 + fr * 3 + i, ix4' 15 3 fr i, by show _ < 105; omega, hne, 15 + fr * 3 + i, ix4' 15 3 fr i, by show _ < 105; omega, 15 + fr * 3 + i, ix4' 15 3 fr i, by show _ < 105; omega, fun c => ?_, fun c => ?_⟩
        · have c5 : ¬ to = 5 := fun q => c (by rw [q]; rfl)
          refine g_S_moveWater_149 (g_S_moveWater_158 ⟨15 + to * 3 + i, ix4' 15 3 to i, by show _ < 105; omega, 15 + to * 3 + i, ix4' 15 3 to i, by show _ < 105; omega, ?_⟩)
          simp only [am_set_set]
          have e : upd (upd (zp zi) (15 + fr * 3 + i) (zp zi (15 + fr * 3 + i) - zp zi (15 + fr * 3 + i) * mv / had)) (15 + to * 3 + i) (upd (zp zi) (15 + fr * 3 + i) (zp zi (15 + fr * 3 + i) - zp zi (15 + fr * 3 + i) * mv / had) (15 + to * 3 + i) + zp zi (15 + fr * 3 + i) * mv / had) = zp (zdye fr to mv had i zi) := by
            rw [zp_sub, zp_add, pz_d hf hi, pz_d (by omega) hi]
            unfold zdye zdst zgr zp
            rw [if_neg c5, pz_d hf hi]
          rw [← e] at ih
          exact am_R_le (by repeat' (first | exact trivial | exact Or.inr rfl | exact Or.inl rfl | exact Or.inr (congrArg Value.int (nI_succ _)) | refine ⟨?_, ?_⟩)) ih
        · have c5 : to = 5 := (nI_eq (a := to) (b := 5) (by omega) (by decide)).mp (Classical.not_not.mp c)
          refine g_S_moveWater_158 ⟨48 + i, ix2 48 i, by show _ < 105; omega, 48 + i, ix2 48 i, by show _ < 105; omega, ?_⟩
          simp only [am_set_set]
          have e : upd (upd (zp zi) (15 + fr * 3 + i) (zp zi (15 + fr * 3 + i) - zp zi (15 + fr * 3 + i) * mv / had)) (48 + i) (upd (zp zi) (15 + fr * 3 + i) (zp zi (15 + fr * 3 + i) - zp zi (15 + fr * 3 + i) * mv / had) (48 + i) + zp zi (15 + fr * 3 + i) * mv / had) = zp (zdye fr to mv had i zi) := by
            rw [zp_sub, zp_add, pz_d hf hi, pz_o hi]
            unfold zdye zdst zgr zp
            rw [if_pos c5, pz_d hf hi]
          rw [← e] at ih
          exact am_R_le (by repeat' (first | exact trivial | exact Or.inr rfl | exact Or.inl rfl | exact Or.inr (congrArg Value.int (nI_succ _)) | refine ⟨?_, ?_⟩)) ih
    · exact i_eq0 (Int32.not_lt.mp c2) hpos
  have mid : am_R am_S0 mt_S_moveWater 1 21 [.ref 3, .int (nI fr), .int (nI to), .int much, .null, .null, .null, .null] [] M K := by
    refine g_S_moveWater_21 ⟨10 + fr, ix2 10 fr, by show _ < 105; omega, fun c => ?_, fun c => ?_⟩
    · have c5 : to = 5 := (nI_eq (a := to) (b := 5) (by omega) (by decide)).mp c
      have e : zmoved fr to much z = (if z (18 + 8 * fr) < much then z (18 + 8 * fr) else much) := by unfold zmoved; rw [if_pos c5, imin_eq]
      rw [e, ← ew] at tail
      exact tail
    · have c5 : ¬ to = 5 := fun q => c (by rw [q]; rfl)
      refine ⟨0 + to, ix2 0 to, by show _ < 105; omega, 10 + to, ix2 10 to, by show _ < 105; omega, ?_⟩
      have ec : M 4 (0 + to) = z (17 + 8 * to) := by rw [hM]; unfold zp; rw [Nat.zero_add, pz_c (by omega)]
      have et : M 4 (10 + to) = z (18 + 8 * to) := by rw [hM]; unfold zp; rw [pz_w (by omega)]
      have e : zmoved fr to much z = (if z (17 + 8 * to) - z (18 + 8 * to) < (if z (18 + 8 * fr) < much then z (18 + 8 * fr) else much) then z (17 + 8 * to) - z (18 + 8 * to) else (if z (18 + 8 * fr) < much then z (18 + 8 * fr) else much)) := by
        unfold zmoved
        rw [if_neg c5, imin_eq, imin_eq]
      rw [e, ← ew, ← ec, ← et] at tail
      exact tail
  refine am_C_of_R am_S0 om_S_moveWater rfl [.ref 3, .int (nI fr), .int (nI to), .int much, .null, .null, .null, .null] rfl rfl (g_S_moveWater_0 (c_S_isVat hf ⟨fun c => absurd c nI1_ne, fun c => ⟨fun c => mid, fun c => ?_⟩⟩))
  have c5 : ¬ to = 5 := fun q => c (by rw [q]; rfl)
  exact c_S_isVat (by omega) ⟨fun c => mid, fun c => absurd nI1_ne c⟩
theorem c_S_hourOfDay_6 {z : dz} {M : am_M} {K : am_Q} (hM : M 7 = zp z) (h : K (.inl (some (.int (zhod z)))) M) : am_C mt_S_hourOfDay [.ref 6] M K := by
  have e : zhod z = M 7 52 - M 7 52 / nI 24 * nI 24 := by rw [hM]; rfl
  rw [e] at h
  exact am_C_of_R am_S0 om_S_hourOfDay rfl [.ref 6] rfl rfl (g_S_hourOfDay_0 ⟨52, rfl, by decide, by decide, h⟩)
theorem c_S_limitIn_6 {z : dz} {v : Nat} {M : am_M} {K : am_Q} (hM : M 7 = zp z) (hv : v < 5) (h : K (.inl (some (.int (zholds v z)))) M) : am_C mt_S_limitIn [.ref 6, .int (nI v)] M K := by
  have e : zholds v z = M 7 (10 + v) * M 7 51 / nI 100 := by
    rw [hM]
    unfold zholds zp
    rw [pz_w hv]
    rfl
  rw [e] at h
  refine am_C_of_R am_S0 om_S_limitIn rfl [.ref 6, .int (nI v)] rfl rfl (g_S_limitIn_0 (c_S_isVat hv ⟨fun c => absurd c nI1_ne, fun c => ⟨10 + v, ix2 10 v, by show _ < 105; omega, 51, rfl, by decide, by decide, g_S_limitIn_31 h⟩⟩))
theorem c_S_isOpen_6 {z : dz} {k : Nat} {hr : Int32} {M : am_M} {K : am_Q} (hM : M 7 = zp z) (hk : k < 8) (h : K (.inl (some (.int (ib (z (57 + 6 * k + 3) ≤ hr ∧ hr ≤ z (57 + 6 * k + 4)))))) M) : am_C mt_S_isOpen [.ref 6, .int (nI (57 + 6 * k)), .int hr] M K := by
  have e3 : z (57 + 6 * k + 3) = M 7 (57 + 6 * k + 3) := by rw [hM]; unfold zp; rw [pz_hi (by omega)]
  have e4 : z (57 + 6 * k + 4) = M 7 (57 + 6 * k + 4) := by rw [hM]; unfold zp; rw [pz_hi (by omega)]
  rw [e3, e4] at h
  refine am_C_of_R am_S0 om_S_isOpen rfl [.ref 6, .int (nI (57 + 6 * k)), .int hr] rfl rfl (g_S_isOpen_0 ⟨fun c => absurd c (nI_nlt (a := 57 + 6 * k) (b := 57) (by omega) (by omega)), fun c => ⟨fun c => absurd c ?_, fun c => ⟨57 + 6 * k + 3, ix2 _ 3, by show _ < 105; omega, fun c => g_S_isOpen_42 (g_S_isOpen_43 ⟨Or.inl rfl, ?_⟩), fun c => ⟨57 + 6 * k + 4, ix2 _ 4, by show _ < 105; omega, fun c2 => g_S_isOpen_42 (g_S_isOpen_43 ⟨Or.inl rfl, ?_⟩), fun c2 => g_S_isOpen_43 ⟨Or.inr rfl, ?_⟩⟩⟩⟩⟩)
  · show ¬ nI 105 ≤ nI (57 + 6 * k) + nI 4
    rw [ix2]
    exact i_nge (by omega) (by decide)
  · have c' : ¬ (M 7 (57 + 6 * k + 3) ≤ hr ∧ hr ≤ M 7 (57 + 6 * k + 4)) := fun q => Int32.not_le.mpr c q.1
    rw [ib_f c'] at h
    exact h
  · have c' : ¬ (M 7 (57 + 6 * k + 3) ≤ hr ∧ hr ≤ M 7 (57 + 6 * k + 4)) := fun q => Int32.not_le.mpr c2 q.2
    rw [ib_f c'] at h
    exact h
  · have c' : M 7 (57 + 6 * k + 3) ≤ hr ∧ hr ≤ M 7 (57 + 6 * k + 4) := ⟨Int32.not_lt.mp c, Int32.not_lt.mp c2⟩
    rw [ib_t c'] at h
    exact h
theorem c_S_moveWater_6 {z : dz} {fr to : Nat} {much : Int32} {M : am_M} {K : am_Q} (hM : M 7 = zp z) (hz : zok z) (hf : fr < 5) (ht : to ≤ 5) (hm : 0 ≤ much.toInt)
    (h : K (.inl (some (.int (zmoved fr to much z)))) (am_set M 7 (zp (zmove fr to much z)))) : am_C mt_S_moveWater [.ref 6, .int (nI fr), .int (nI to), .int much] M K := by
  have hx := zok_moved0 hz hf ht hm
  have hpos := zok_moved_pos hz hf ht hm
  have hwp := zok_water_pos hz hf
  have h0 : M = am_set M 7 (zp z) := by rw [← hM, am_set_self]
  have ew : M 7 (10 + fr) = z (18 + 8 * fr) := by rw [hM]; unfold zp; rw [pz_w hf]
  have tail : am_R am_S0 mt_S_moveWater 1 70 [.ref 6, .int (nI fr), .int (nI to), .int much, .int (z (18 + 8 * fr)), .int (zmoved fr to much z), .null, .null] [] M K := by
    unfold zmove at h
    generalize hmv : zmoved fr to much z = mv at h hx hpos ⊢
    generalize hh : z (18 + 8 * fr) = had at h hx hwp ⊢
    have stop : mv = 0 → am_R am_S0 mt_S_moveWater 1 80 [.ref 6, .int (nI fr), .int (nI to), .int much, .int had, .int mv, .null, .null] [] M K := by
      intro c
      rw [if_pos c, ← hM, am_set_self, c] at h
      exact g_S_moveWater_80 h
    refine g_S_moveWater_70 ⟨fun c => stop ?_, fun c => ⟨fun c2 => ?_, fun c2 => stop ?_⟩⟩
    · exact Classical.byContradiction fun q => hx q (i_eq0 c hwp)
    · have c' : ¬ mv = 0 := fun q => by rw [q] at c2; exact Int32.lt_irrefl c2
      have hne := hx c'
      rw [if_neg c'] at h
      refine g_S_moveWater_82 ?_
      refine am_R_le (xs := [.ref 6, .int (nI fr), .int (nI to), .int much, .int had, .int mv, .int (nI 0), .null]) (by repeat' (first | exact trivial | exact Or.inr rfl | exact Or.inl rfl | exact Or.inr (congrArg Value.int (nI_succ _)) | refine ⟨?_, ?_⟩)) ?_
      rw [h0]
      refine lu (P := fun i => am_R am_S0 mt_S_moveWater 1 85 [.ref 6, .int (nI fr), .int (nI to), .int much, .int had, .int mv, .int (nI i), .null] [] (am_set M 7 (zp (zdyes fr to mv had z i))) K) 3 ?_ ?_
      · refine g_S_moveWater_85 ⟨fun c => ?_, fun c => absurd (i_le (Nat.le_refl 3) (by decide)) c⟩
        generalize hzd : zdyes fr to mv had z 3 = zd
        refine g_S_moveWater_170 ⟨10 + fr, ix2 10 fr, by show _ < 105; omega, 10 + fr, ix2 10 fr, by show _ < 105; omega, fun c => ?_, fun c => ?_⟩
        · have c5 : ¬ to = 5 := fun q => c (by rw [q]; rfl)
          refine g_S_moveWater_198 (g_S_moveWater_202 ⟨10 + to, ix2 10 to, by show _ < 105; omega, 10 + to, ix2 10 to, by show _ < 105; omega, ?_⟩)
          simp only [am_set_set]
          have e : upd (upd (zp zd) (10 + fr) (zp zd (10 + fr) - mv)) (10 + to) (upd (zp zd) (10 + fr) (zp zd (10 + fr) - mv) (10 + to) + mv) = zp (zmv fr to mv had z) := by
            rw [zp_sub, zp_add, pz_w hf, pz_w (by omega)]
            unfold zmv zwst
            rw [if_neg c5, hzd]
          rw [← e] at h
          exact h
        · have c5 : to = 5 := (nI_eq (a := to) (b := 5) (by omega) (by decide)).mp (Classical.not_not.mp c)
          refine g_S_moveWater_202 ⟨54, rfl, by decide, 54, rfl, by decide, ?_⟩
          simp only [am_set_set]
          have e : upd (upd (zp zd) (10 + fr) (zp zd (10 + fr) - mv)) 54 (upd (zp zd) (10 + fr) (zp zd (10 + fr) - mv) 54 + mv) = zp (zmv fr to mv had z) := by
            rw [zp_sub, zp_add, pz_w hf]
            unfold zmv zwst
            rw [if_pos c5, hzd]
            rfl
          rw [← e] at h
          exact h
      · intro i hi ih
        have eih : zdyes fr to mv had z (i + 1) = zdye fr to mv had i (zdyes fr to mv had z i) := rfl
        rw [eih] at ih
        generalize zdyes fr to mv had z i = zi at ih ⊢
        refine g_S_moveWater_85 ⟨fun c => absurd c (i_nge hi (by decide)), fun c => ?_⟩
        refine ⟨15 + fr * 3 + i, ix4' 15 3 fr i, by show _ < 105; omega, hne, 15 + fr * 3 + i, ix4' 15 3 fr i, by show _ < 105; omega, 15 + fr * 3 + i, ix4' 15 3 fr i, by show _ < 105; omega, fun c => ?_, fun c => ?_⟩
        · have c5 : ¬ to = 5 := fun q => c (by rw [q]; rfl)
          refine g_S_moveWater_149 (g_S_moveWater_158 ⟨15 + to * 3 + i, ix4' 15 3 to i, by show _ < 105; omega, 15 + to * 3 + i, ix4' 15 3 to i, by show _ < 105; omega, ?_⟩)
          simp only [am_set_set]
          have e : upd (upd (zp zi) (15 + fr * 3 + i) (zp zi (15 + fr * 3 + i) - zp zi (15 + fr * 3 + i) * mv / had)) (15 + to * 3 + i) (upd (zp zi) (15 + fr * 3 + i) (zp zi (15 + fr * 3 + i) - zp zi (15 + fr * 3 + i) * mv / had) (15 + to * 3 + i) + zp zi (15 + fr * 3 + i) * mv / had) = zp (zdye fr to mv had i zi) := by
            rw [zp_sub, zp_add, pz_d hf hi, pz_d (by omega) hi]
            unfold zdye zdst zgr zp
            rw [if_neg c5, pz_d hf hi]
          rw [← e] at ih
          exact am_R_le (by repeat' (first | exact trivial | exact Or.inr rfl | exact Or.inl rfl | exact Or.inr (congrArg Value.int (nI_succ _)) | refine ⟨?_, ?_⟩)) ih
        · have c5 : to = 5 := (nI_eq (a := to) (b := 5) (by omega) (by decide)).mp (Classical.not_not.mp c)
          refine g_S_moveWater_158 ⟨48 + i, ix2 48 i, by show _ < 105; omega, 48 + i, ix2 48 i, by show _ < 105; omega, ?_⟩
          simp only [am_set_set]
          have e : upd (upd (zp zi) (15 + fr * 3 + i) (zp zi (15 + fr * 3 + i) - zp zi (15 + fr * 3 + i) * mv / had)) (48 + i) (upd (zp zi) (15 + fr * 3 + i) (zp zi (15 + fr * 3 + i) - zp zi (15 + fr * 3 + i) * mv / had) (48 + i) + zp zi (15 + fr * 3 + i) * mv / had) = zp (zdye fr to mv had i zi) := by
            rw [zp_sub, zp_add, pz_d hf hi, pz_o hi]
            unfold zdye zdst zgr zp
            rw [if_pos c5, pz_d hf hi]
          rw [← e] at ih
          exact am_R_le (by repeat' (first | exact trivial | exact Or.inr rfl | exact Or.inl rfl | exact Or.inr (congrArg Value.int (nI_succ _)) | refine ⟨?_, ?_⟩)) ih
    · exact i_eq0 (Int32.not_lt.mp c2) hpos
  have mid : am_R am_S0 mt_S_moveWater 1 21 [.ref 6, .int (nI fr), .int (nI to), .int much, .null, .null, .null, .null] [] M K := by
    refine g_S_moveWater_21 ⟨10 + fr, ix2 10 fr, by show _ < 105; omega, fun c => ?_, fun c => ?_⟩
    · have c5 : to = 5 := (nI_eq (a := to) (b := 5) (by omega) (by decide)).mp c
      have e : zmoved fr to much z = (if z (18 + 8 * fr) < much then z (18 + 8 * fr) else much) := by unfold zmoved; rw [if_pos c5, imin_eq]
      rw [e, ← ew] at tail
      exact tail
    · have c5 : ¬ to = 5 := fun q => c (by rw [q]; rfl)
      refine ⟨0 + to, ix2 0 to, by show _ < 105; omega, 10 + to, ix2 10 to, by show _ < 105; omega, ?_⟩
      have ec : M 7 (0 + to) = z (17 + 8 * to) := by rw [hM]; unfold zp; rw [Nat.zero_add, pz_c (by omega)]
      have et : M 7 (10 + to) = z (18 + 8 * to) := by rw [hM]; unfold zp; rw [pz_w (by omega)]
      have e : zmoved fr to much z = (if z (17 + 8 * to) - z (18 + 8 * to) < (if z (18 + 8 * fr) < much then z (18 + 8 * fr) else much) then z (17 + 8 * to) - z (18 + 8 * to) else (if z (18 + 8 * fr) < much then z (18 + 8 * fr) else much)) := by
        unfold zmoved
        rw [if_neg c5, imin_eq, imin_eq]
      rw [e, ← ew, ← ec, ← et] at tail
      exact tail
  refine am_C_of_R am_S0 om_S_moveWater rfl [.ref 6, .int (nI fr), .int (nI to), .int much, .null, .null, .null, .null] rfl rfl (g_S_moveWater_0 (c_S_isVat hf ⟨fun c => absurd c nI1_ne, fun c => ⟨fun c => mid, fun c => ?_⟩⟩))
  have c5 : ¬ to = 5 := fun q => c (by rw [q]; rfl)
  exact c_S_isVat (by omega) ⟨fun c => mid, fun c => absurd nI1_ne c⟩
end
section
/-! contracts of State's methods: valves, pipes, settling, hours -/
theorem nI100_ne : ¬ nI 100 = 0 := by decide +kernel
theorem c_S_levelPipes_1 {z : dz} {M : am_M} {K : am_Q} (hM : M 2 = zp z) (hz : zok z) (h : K (.inl none) (am_set M 2 (zp (zpipes z 5)))) : am_C mt_S_levelPipes [.ref 1] M K := by
  have h0 : M = am_set M 2 (zp z) := by rw [← hM, am_set_self]
  refine am_C_of_R am_S0 om_S_levelPipes rfl [.ref 1, .null, .null, .null, .null] rfl rfl (g_S_levelPipes_0 ?_)
  refine am_R_le (xs := [.ref 1, .int (nI 0), .null, .null, .null]) (by repeat' (first | exact trivial | exact Or.inr rfl | exact Or.inl rfl | exact Or.inr (congrArg Value.int (nI_succ _)) | refine ⟨?_, ?_⟩)) ?_
  rw [h0]
  refine lu (P := fun i => am_R am_S0 mt_S_levelPipes 1 2 [.ref 1, .int (nI i), .null, .null, .null] [] (am_set M 2 (zp (zpipes z i))) K) 5 ?_ ?_
  · exact g_S_levelPipes_2 ⟨fun c => g_S_levelPipes_98 h, fun c => absurd (i_le (Nat.le_refl 5) (by decide)) c⟩
  · intro one ho ih
    have hzp := zok_pipes hz one (by omega)
    have hfx : ∀ i, zfix i → zpipes z one i = z i := fun i hi => zpipes_fix hi one (by omega)
    have eih : zpipes z (one + 1) = zlevs one (zpipes z one) (4 - one) := rfl
    rw [eih] at ih
    generalize zpipes z one = zz at hzp ih hfx ⊢
    refine g_S_levelPipes_2 ⟨fun c => absurd c (i_nge ho (by decide)), fun c => ⟨5 + one, ix2 5 one, by show _ < 105; omega, ?_⟩⟩
    have ep : zp zz (5 + one) = zz (6 + one) := by unfold zp; rw [pz_p ho]
    refine am_R_le (xs := [.ref 1, .int (nI one), .int (zp zz (5 + one)), .int (nI (one + 1 + 0)), .null]) (by repeat' (first | exact trivial | exact Or.inr rfl | exact Or.inl rfl | exact Or.inr (congrArg Value.int (nI_succ _)) | refine ⟨?_, ?_⟩)) ?_
    rw [ep]
    refine lu (P := fun k => am_R am_S0 mt_S_levelPipes 1 20 [.ref 1, .int (nI one), .int (zz (6 + one)), .int (nI (one + 1 + k)), .null] [] (am_set M 2 (zp (zlevs one zz k))) K) (4 - one) ?_ ?_
    · refine g_S_levelPipes_20 ⟨fun c => ?_, fun c => absurd (i_le (show 5 ≤ one + 1 + (4 - one) by omega) (by omega)) c⟩
      exact g_S_levelPipes_92 (am_R_le (by repeat' (first | exact trivial | exact Or.inr rfl | exact Or.inl rfl | exact Or.inr (congrArg Value.int (nI_succ _)) | refine ⟨?_, ?_⟩)) ih)
    · intro k hk ihk
      have hzk := zok_levs hzp ho k (by omega)
      have hfk : zlevs one zz k (6 + one) = zz (6 + one) := zlevs_fix ho (by unfold zfix; omega) k (by omega)
      have ek : zlevs one zz (k + 1) = zlev1 one (one + 1 + k) (zlevs one zz k) := rfl
      rw [ek] at ihk
      rw [← hfk] at ihk ⊢
      generalize zlevs one zz k = zy at hzk ihk ⊢
      have ho2 : one + 1 + k < 5 := by omega
      refine g_S_levelPipes_20 ⟨fun c => absurd c (i_nge ho2 (by decide)), fun c => ⟨fun c => ?_, fun c => ?_⟩⟩
      · have c' : ¬ zpipe one (one + 1 + k) zy := c
        unfold zlev1 at ihk
        rw [if_neg c'] at ihk
        exact g_S_levelPipes_86 (am_R_le (by repeat' (first | exact trivial | exact Or.inr rfl | exact Or.inl rfl | exact Or.inr (congrArg Value.int (nI_succ _)) | refine ⟨?_, ?_⟩)) ihk)
      · have c' : zpipe one (one + 1 + k) zy := Classical.not_not.mp c
        unfold zlev1 at ihk
        rw [if_pos c'] at ihk
        have e1 : zp zy (10 + one) = zy (18 + 8 * one) := by unfold zp; rw [pz_w ho]
        have e2 : zp zy (10 + (one + 1 + k)) = zy (18 + 8 * (one + 1 + k)) := by unfold zp; rw [pz_w ho2]
        obtain ⟨q1, q2⟩ := zok_half hzk ho ho2
        refine ⟨10 + one, ix2 10 one, by show _ < 105; omega, 10 + (one + 1 + k), ix2 10 _, by show _ < 105; omega, ?_⟩
        generalize ho2e : one + 1 + k = other at ihk e2 q1 q2 ho2 c' ⊢
        rw [show one + 1 + (k + 1) = other + 1 by omega] at ihk
        have hno : one ≠ other := by omega
        refine ⟨fun c3 => ?_, fun c3 => ⟨nI2_ne, ?_⟩⟩
        · have c3' : ¬ 0 < zy (18 + 8 * one) - zy (18 + 8 * other) := by
            rw [← e1, ← e2]
            exact fun q => Int32.lt_irrefl (Int32.lt_trans c3 q)
          have ez : zlevel one other zy = zmove other one (-(zp zy (10 + one) - zp zy (10 + other)) / nI 2) zy := by
            unfold zlevel
            rw [if_neg c3', e1, e2]
          have q2' := q2 c3'
          rw [← e1, ← e2] at q2'
          rw [ez] at ihk
          refine g_S_levelPipes_74 ⟨nI2_ne, c_S_moveWater_1 (z := zy) (fr := other) (to := one) (by rw [am_set_eq]) hzk ho2 (by omega) q2' (g_S_levelPipes_86 ?_)⟩
          simp only [am_set_set]
          exact am_R_le (by repeat' (first | exact trivial | exact Or.inr rfl | exact Or.inl rfl | exact Or.inr (congrArg Value.int (nI_succ _)) | refine ⟨?_, ?_⟩)) ihk
        · by_cases c4 : 0 < zy (18 + 8 * one) - zy (18 + 8 * other)
          · have ez : zlevel one other zy = zmove one other ((zp zy (10 + one) - zp zy (10 + other)) / nI 2) zy := by
              unfold zlevel
              rw [if_pos c4, e1, e2]
            have q1' := q1 c4
            rw [← e1, ← e2] at q1'
            rw [ez] at ihk
            refine c_S_moveWater_1 (z := zy) (fr := one) (to := other) (by rw [am_set_eq]) hzk ho (by omega) q1' (g_S_levelPipes_86 ?_)
            simp only [am_set_set]
            exact am_R_le (by repeat' (first | exact trivial | exact Or.inr rfl | exact Or.inl rfl | exact Or.inr (congrArg Value.int (nI_succ _)) | refine ⟨?_, ?_⟩)) ihk
          · have ed : zp zy (10 + one) - zp zy (10 + other) = 0 := by
              rw [e1, e2]
              refine Int32.le_antisymm (Int32.not_lt.mp c4) ?_
              have c3'' : ¬ zp zy (10 + one) - zp zy (10 + other) < 0 := c3
              rw [e1, e2] at c3''
              exact Int32.not_lt.mp c3''
            have ez : zlevel one other zy = zmove one other ((zp zy (10 + one) - zp zy (10 + other)) / nI 2) zy := by
              have c3'' : ¬ 0 < zy (18 + 8 * one) - zy (18 + 8 * other) := c4
              unfold zlevel
              rw [if_neg c4, ← e1, ← e2, ed, zmove_0 hzk ho2 (by omega) (by decide +kernel), zmove_0 hzk ho (by omega) (by decide +kernel)]
            have q1' : 0 ≤ ((zp zy (10 + one) - zp zy (10 + other)) / nI 2).toInt := by
              rw [ed]
              decide +kernel
            rw [ez] at ihk
            refine c_S_moveWater_1 (z := zy) (fr := one) (to := other) (by rw [am_set_eq]) hzk ho (by omega) q1' (g_S_levelPipes_86 ?_)
            simp only [am_set_set]
            exact am_R_le (by repeat' (first | exact trivial | exact Or.inr rfl | exact Or.inl rfl | exact Or.inr (congrArg Value.int (nI_succ _)) | refine ⟨?_, ?_⟩)) ihk
theorem c_S_settleGrains_1 {z : dz} {M : am_M} {K : am_Q} (hM : M 2 = zp z) (h : K (.inl none) (am_set M 2 (zp (zsettles z 5)))) : am_C mt_S_settleGrains [.ref 1] M K := by
  have h0 : M = am_set M 2 (zp z) := by rw [← hM, am_set_self]
  refine am_C_of_R am_S0 om_S_settleGrains rfl [.ref 1, .null, .null, .null, .null, .null] rfl rfl (g_S_settleGrains_0 ?_)
  refine am_R_le (xs := [.ref 1, .int (nI 0), .null, .null, .null, .null]) (by repeat' (first | exact trivial | exact Or.inr rfl | exact Or.inl rfl | exact Or.inr (congrArg Value.int (nI_succ _)) | refine ⟨?_, ?_⟩)) ?_
  rw [h0]
  refine lu (P := fun i => am_R am_S0 mt_S_settleGrains 1 2 [.ref 1, .int (nI i), .null, .null, .null, .null] [] (am_set M 2 (zp (zsettles z i))) K) 5 ?_ ?_
  · exact g_S_settleGrains_2 ⟨fun c => g_S_settleGrains_88 h, fun c => absurd (i_le (Nat.le_refl 5) (by decide)) c⟩
  · intro v hv ih
    have eih : zsettles z (v + 1) = zsettle v (zsettles z v) 3 := rfl
    rw [eih] at ih
    generalize zsettles z v = zz at ih ⊢
    refine g_S_settleGrains_2 ⟨fun c => absurd c (i_nge hv (by decide)), fun c => c_S_limitIn_1 (z := zz) (v := v) (by rw [am_set_eq]) hv ?_⟩
    refine am_R_le (xs := [.ref 1, .int (nI v), .int (zholds v zz), .int (nI 0), .null, .null]) (by repeat' (first | exact trivial | exact Or.inr rfl | exact Or.inl rfl | exact Or.inr (congrArg Value.int (nI_succ _)) | refine ⟨?_, ?_⟩)) ?_
    refine lu (P := fun d => am_R am_S0 mt_S_settleGrains 1 15 [.ref 1, .int (nI v), .int (zholds v zz), .int (nI d), .null, .null] [] (am_set M 2 (zp (zsettle v zz d))) K) 3 ?_ ?_
    · exact g_S_settleGrains_15 ⟨fun c => g_S_settleGrains_82 (am_R_le (by repeat' (first | exact trivial | exact Or.inr rfl | exact Or.inl rfl | exact Or.inr (congrArg Value.int (nI_succ _)) | refine ⟨?_, ?_⟩)) ih), fun c => absurd (i_le (Nat.le_refl 3) (by decide)) c⟩
    · intro d hd ihd
      have eh : zholds v zz = zholds v (zsettle v zz d) := (zholds_keep (by omega)).symm
      have ed : zsettle v zz (d + 1) = zset1 v d (zsettle v zz d) := rfl
      rw [ed] at ihd
      rw [eh] at ihd ⊢
      generalize zsettle v zz d = zy at ihd ⊢
      have e1 : zp zy (15 + v * 3 + d) = zy (19 + 8 * v + d) := by unfold zp; rw [pz_d hv hd]
      refine g_S_settleGrains_15 ⟨fun c => absurd c (i_nge hd (by decide)), fun c => ⟨15 + v * 3 + d, ix4' 15 3 v d, by show _ < 105; omega, fun c2 => ?_, fun c2 => ?_⟩⟩
      · have c' : ¬ 0 < zy (19 + 8 * v + d) - zholds v zy := by
          rw [← e1]
          exact Int32.not_lt.mpr c2
        unfold zset1 at ihd
        rw [if_neg c'] at ihd
        exact g_S_settleGrains_76 (am_R_le (by repeat' (first | exact trivial | exact Or.inr rfl | exact Or.inl rfl | exact Or.inr (congrArg Value.int (nI_succ _)) | refine ⟨?_, ?_⟩)) ihd)
      · have c' : 0 < zy (19 + 8 * v + d) - zholds v zy := by
          rw [← e1]
          exact Int32.not_le.mp c2
        unfold zset1 at ihd
        rw [if_pos c'] at ihd
        refine ⟨15 + v * 3 + d, ix4' 15 3 v d, by show _ < 105; omega, 15 + v * 3 + d, ix4' 15 3 v d, by show _ < 105; omega, 30 + v * 3 + d, ix4' 30 3 v d, by show _ < 105; omega, 30 + v * 3 + d, ix4' 30 3 v d, by show _ < 105; omega, g_S_settleGrains_76 ?_⟩
        simp only [am_set_set]
        have e : upd (upd (zp zy) (15 + v * 3 + d) (zp zy (15 + v * 3 + d) - (zp zy (15 + v * 3 + d) - zholds v zy))) (30 + v * 3 + d) (upd (zp zy) (15 + v * 3 + d) (zp zy (15 + v * 3 + d) - (zp zy (15 + v * 3 + d) - zholds v zy)) (30 + v * 3 + d) + (zp zy (15 + v * 3 + d) - zholds v zy)) = zp (zadd (zadd zy (19 + 8 * v + d) (-(zy (19 + 8 * v + d) - zholds v zy))) (22 + 8 * v + d) (zy (19 + 8 * v + d) - zholds v zy)) := by
          rw [zp_sub, zp_add, pz_d hv hd, pz_s hv hd, e1]
        rw [← e] at ihd
        exact am_R_le (by repeat' (first | exact trivial | exact Or.inr rfl | exact Or.inl rfl | exact Or.inr (congrArg Value.int (nI_succ _)) | refine ⟨?_, ?_⟩)) ihd
theorem c_S_runValves_1 {z : dz} {M : am_M} {K : am_Q} (hM : M 2 = zp z) (hz : zok z) (h : K (.inl none) (am_set M 2 (zp (zvalves z (zn (z 5)))))) : am_C mt_S_runValves [.ref 1] M K := by
  obtain ⟨m, hm8, hm, hvs⟩ := hz.2.2.2.2.2
  have em : zn (z 5) = m := by rw [hm]; exact zn_nI (by omega)
  rw [em] at h
  obtain ⟨hv1, hv2⟩ := zok_valves hz hm hm8 m (Nat.le_refl _)
  have h0 : M = am_set M 2 (zp z) := by rw [← hM, am_set_self]
  refine am_C_of_R am_S0 om_S_runValves rfl [.ref 1, .null, .null, .null] rfl rfl (g_S_runValves_0 (c_S_hourOfDay_1 hM ?_))
  refine am_R_le (xs := [.ref 1, .int (zhod z), .int (nI 0), .null]) (by repeat' (first | exact trivial | exact Or.inr rfl | exact Or.inl rfl | exact Or.inr (congrArg Value.int (nI_succ _)) | refine ⟨?_, ?_⟩)) ?_
  rw [h0]
  refine lu (P := fun i => am_R am_S0 mt_S_runValves 1 7 [.ref 1, .int (zhod z), .int (nI i), .null] [] (am_set M 2 (zp (zvalves z i))) K) m ?_ ?_
  · have e5 : zvalves z m 5 = nI m := by rw [hv2 5 (by unfold zfix; omega), hm]
    refine g_S_runValves_7 ⟨56, rfl, by decide, fun c => g_S_runValves_86 h, fun c => absurd ?_ c⟩
    show zvalves z m 5 ≤ nI m
    rw [e5]
    exact i_le (Nat.le_refl m) (by omega)
  · intro k hk ih
    obtain ⟨hk1, hk2⟩ := zok_valves hz hm hm8 k (by omega)
    have e5 : zvalves z k 5 = nI m := by rw [hk2 5 (by unfold zfix; omega), hm]
    have eh : zhod z = zhod (zvalves z k) := by unfold zhod; rw [zvalves_keep0 hz hm hm8 k (by omega)]
    obtain ⟨m', hm', e5', hvk⟩ := hk1.2.2.2.2.2
    have hmm : m' = m := (nI_eq (by omega) (by omega)).mp (e5'.symm.trans e5)
    obtain ⟨w1, w2, w3, w4, w5, w6⟩ := zvok_use (hvk k (by omega))
    have ek : zvalves z (k + 1) = zvalve k (zvalves z k) := rfl
    rw [ek] at ih
    rw [eh] at ih ⊢
    generalize zvalves z k = zz at ih hk1 hk2 e5 w1 w2 w3 w4 w5 w6 ⊢
    refine g_S_runValves_7 ⟨56, rfl, by decide, fun c => absurd c ?_, fun c => ⟨fun c => absurd c (i_nge (show k < 8 by omega) (by decide)), fun c => ?_⟩⟩
    · show ¬ zz 5 ≤ nI k
      rw [e5]
      exact i_nge hk (by omega)
    have ei : nI 57 + nI k * nI 6 = nI (57 + 6 * k) := by rw [ix3', Nat.mul_comm]
    show am_C mt_S_isOpen [.ref 1, .int (nI 57 + nI k * nI 6), .int (zhod zz)] _ _
    rw [ei]
    refine c_S_isOpen_1 (z := zz) (k := k) (by rw [am_set_eq]) (by omega) ⟨fun c => ?_, fun c => ?_⟩
    · have c1 : ¬ (zz (57 + 6 * k + 3) ≤ zhod zz ∧ zhod zz ≤ zz (57 + 6 * k + 4)) := ib_eq0.mp c
      have c' : ¬ zopen k zz := c1
      unfold zvalve at ih
      rw [if_neg c'] at ih
      exact g_S_runValves_80 (am_R_le (by repeat' (first | exact trivial | exact Or.inr rfl | exact Or.inl rfl | exact Or.inr (congrArg Value.int (nI_succ _)) | refine ⟨?_, ?_⟩)) ih)
    · have c1 : zz (57 + 6 * k + 3) ≤ zhod zz ∧ zhod zz ≤ zz (57 + 6 * k + 4) := Classical.not_not.mp (fun z => c (ib_eq0.mpr z))
      have c' : zopen k zz := c1
      unfold zvalve at ih
      rw [if_pos c'] at ih
      have j5 : (nI 57 + nI k * nI 6) + nI 5 = nI (57 + 6 * k + 5) := by rw [ei, ix2]
      have j0 : (nI 57 + nI k * nI 6) + nI 0 = nI (57 + 6 * k) := by rw [ei, ix2]; rfl
      have j1 : (nI 57 + nI k * nI 6) + nI 1 = nI (57 + 6 * k + 1) := by rw [ei, ix2]
      have j2 : (nI 57 + nI k * nI 6) + nI 2 = nI (57 + 6 * k + 2) := by rw [ei, ix2]
      refine ⟨57 + 6 * k + 5, j5, by show _ < 105; omega, 57 + 6 * k, j0, by show _ < 105; omega, 57 + 6 * k + 1, j1, by show _ < 105; omega, 57 + 6 * k + 2, j2, by show _ < 105; omega, ?_⟩
      have f0 : zp zz (57 + 6 * k) = zz (57 + 6 * k) := by unfold zp; rw [pz_hi (by omega)]
      have f1 : zp zz (57 + 6 * k + 1) = zz (57 + 6 * k + 1) := by unfold zp; rw [pz_hi (by omega)]
      have f2 : zp zz (57 + 6 * k + 2) = zz (57 + 6 * k + 2) := by unfold zp; rw [pz_hi (by omega)]
      have f5 : zp zz (57 + 6 * k + 5) = zz (57 + 6 * k + 5) := by unfold zp; rw [pz_hi (by omega)]
      show am_C mt_S_moveWater [.ref 1, .int (zp zz (57 + 6 * k)), .int (zp zz (57 + 6 * k + 1)), .int (zp zz (57 + 6 * k + 2))] (am_set M 2 (zp zz)) _
      rw [f0, f1, f2, w1, w2]
      refine c_S_moveWater_1 (z := zz) (fr := zn (zz (57 + 6 * k))) (to := zn (zz (57 + 6 * k + 1))) (by rw [am_set_eq]) hk1 w3 w4 w6 ⟨57 + 6 * k + 5, j5, by show _ < 105; omega, g_S_runValves_80 ?_⟩
      simp only [am_set_set, am_set_eq]
      rw [zp_upd, pz_hi (by omega)]
      have ih' := ih
      rw [← f5] at ih'
      exact am_R_le (by repeat' (first | exact trivial | exact Or.inr rfl | exact Or.inl rfl | exact Or.inr (congrArg Value.int (nI_succ _)) | refine ⟨?_, ?_⟩)) ih'
theorem c_S_runHours_1 {z : dz} {n : Nat} {M : am_M} {K : am_Q} (hM : M 2 = zp z) (hz : zok z) (hn : n < 2 ^ 31) (h : K (.inl none) (am_set M 2 (zp (zhours z n)))) : am_C mt_S_runHours [.ref 1, .int (nI n)] M K := by
  have h0 : M = am_set M 2 (zp z) := by rw [← hM, am_set_self]
  refine am_C_of_R am_S0 om_S_runHours rfl [.ref 1, .int (nI n), .null] rfl rfl (g_S_runHours_0 ?_)
  refine am_R_le (xs := [.ref 1, .int (nI n), .int (nI 0)]) (by repeat' (first | exact trivial | exact Or.inr rfl | exact Or.inl rfl | exact Or.inr (congrArg Value.int (nI_succ _)) | refine ⟨?_, ?_⟩)) ?_
  rw [h0]
  refine lu (P := fun i => am_R am_S0 mt_S_runHours 1 2 [.ref 1, .int (nI n), .int (nI i)] [] (am_set M 2 (zp (zhours z i))) K) n ?_ ?_
  · exact g_S_runHours_2 ⟨fun c => g_S_runHours_36 h, fun c => absurd (i_le (Nat.le_refl n) hn) c⟩
  · intro i hi ih
    obtain ⟨hk, -⟩ := zok_hours hz i
    have eih : zhours z (i + 1) = zhour (zhours z i) := rfl
    rw [eih] at ih
    generalize zhours z i = zz at ih hk ⊢
    obtain ⟨m, hm8, hm, hvs⟩ := hk.2.2.2.2.2
    have em : zn (zz 5) = m := by rw [hm]; exact zn_nI (by omega)
    obtain ⟨hv1, hv2⟩ := zok_valves hk hm hm8 m (Nat.le_refl _)
    unfold zhour at ih
    rw [em] at ih
    refine g_S_runHours_2 ⟨fun c => absurd c (i_nge hi hn), fun c => c_S_runValves_1 (z := zz) (by rw [am_set_eq]) hk ?_⟩
    rw [am_set_set, em]
    refine c_S_levelPipes_1 (z := zvalves zz m) (by rw [am_set_eq]) hv1 (c_S_settleGrains_1 (z := zpipes (zvalves zz m) 5) (by rw [am_set_eq]) ⟨52, rfl, by decide, 52, rfl, by decide, ?_⟩)
    simp only [am_set_set]
    generalize zsettles (zpipes (zvalves zz m) 5) 5 = zs at ih ⊢
    have e : upd (zp zs) 52 (zp zs 52 + nI 1) = zp (zadd zs 0 (nI 1)) := zp_add zs 52 (nI 1)
    rw [← e] at ih
    exact am_R_le (by repeat' (first | exact trivial | exact Or.inr rfl | exact Or.inl rfl | exact Or.inr (congrArg Value.int (nI_succ _)) | refine ⟨?_, ?_⟩)) ih
theorem c_S_levelPipes_3 {z : dz} {M : am_M} {K : am_Q} (hM : M 4 = zp z) (hz : zok z) (h : K (.inl none) (am_set M 4 (zp (zpipes z 5)))) : am_C mt_S_levelPipes [.ref 3] M K := by
  have h0 : M = am_set M 4 (zp z) := by rw [← hM, am_set_self]
  refine am_C_of_R am_S0 om_S_levelPipes rfl [.ref 3, .null, .null, .null, .null] rfl rfl (g_S_levelPipes_0 ?_)
  refine am_R_le (xs := [.ref 3, .int (nI 0), .null, .null, .null]) (by repeat' (first | exact trivial | exact Or.inr rfl | exact Or.inl rfl | exact Or.inr (congrArg Value.int (nI_succ _)) | refine ⟨?_, ?_⟩)) ?_
  rw [h0]
  refine lu (P := fun i => am_R am_S0 mt_S_levelPipes 1 2 [.ref 3, .int (nI i), .null, .null, .null] [] (am_set M 4 (zp (zpipes z i))) K) 5 ?_ ?_
  · exact g_S_levelPipes_2 ⟨fun c => g_S_levelPipes_98 h, fun c => absurd (i_le (Nat.le_refl 5) (by decide)) c⟩
  · intro one ho ih
    have hzp := zok_pipes hz one (by omega)
    have hfx : ∀ i, zfix i → zpipes z one i = z i := fun i hi => zpipes_fix hi one (by omega)
    have eih : zpipes z (one + 1) = zlevs one (zpipes z one) (4 - one) := rfl
    rw [eih] at ih
    generalize zpipes z one = zz at hzp ih hfx ⊢
    refine g_S_levelPipes_2 ⟨fun c => absurd c (i_nge ho (by decide)), fun c => ⟨5 + one, ix2 5 one, by show _ < 105; omega, ?_⟩⟩
    have ep : zp zz (5 + one) = zz (6 + one) := by unfold zp; rw [pz_p ho]
    refine am_R_le (xs := [.ref 3, .int (nI one), .int (zp zz (5 + one)), .int (nI (one + 1 + 0)), .null]) (by repeat' (first | exact trivial | exact Or.inr rfl | exact Or.inl rfl | exact Or.inr (congrArg Value.int (nI_succ _)) | refine ⟨?_, ?_⟩)) ?_
    rw [ep]
    refine lu (P := fun k => am_R am_S0 mt_S_levelPipes 1 20 [.ref 3, .int (nI one), .int (zz (6 + one)), .int (nI (one + 1 + k)), .null] [] (am_set M 4 (zp (zlevs one zz k))) K) (4 - one) ?_ ?_
    · refine g_S_levelPipes_20 ⟨fun c => ?_, fun c => absurd (i_le (show 5 ≤ one + 1 + (4 - one) by omega) (by omega)) c⟩
      exact g_S_levelPipes_92 (am_R_le (by repeat' (first | exact trivial | exact Or.inr rfl | exact Or.inl rfl | exact Or.inr (congrArg Value.int (nI_succ _)) | refine ⟨?_, ?_⟩)) ih)
    · intro k hk ihk
      have hzk := zok_levs hzp ho k (by omega)
      have hfk : zlevs one zz k (6 + one) = zz (6 + one) := zlevs_fix ho (by unfold zfix; omega) k (by omega)
      have ek : zlevs one zz (k + 1) = zlev1 one (one + 1 + k) (zlevs one zz k) := rfl
      rw [ek] at ihk
      rw [← hfk] at ihk ⊢
      generalize zlevs one zz k = zy at hzk ihk ⊢
      have ho2 : one + 1 + k < 5 := by omega
      refine g_S_levelPipes_20 ⟨fun c => absurd c (i_nge ho2 (by decide)), fun c => ⟨fun c => ?_, fun c => ?_⟩⟩
      · have c' : ¬ zpipe one (one + 1 + k) zy := c
        unfold zlev1 at ihk
        rw [if_neg c'] at ihk
        exact g_S_levelPipes_86 (am_R_le (by repeat' (first | exact trivial | exact Or.inr rfl | exact Or.inl rfl | exact Or.inr (congrArg Value.int (nI_succ _)) | refine ⟨?_, ?_⟩)) ihk)
      · have c' : zpipe one (one + 1 + k) zy := Classical.not_not.mp c
        unfold zlev1 at ihk
        rw [if_pos c'] at ihk
        have e1 : zp zy (10 + one) = zy (18 + 8 * one) := by unfold zp; rw [pz_w ho]
        have e2 : zp zy (10 + (one + 1 + k)) = zy (18 + 8 * (one + 1 + k)) := by unfold zp; rw [pz_w ho2]
        obtain ⟨q1, q2⟩ := zok_half hzk ho ho2
        refine ⟨10 + one, ix2 10 one, by show _ < 105; omega, 10 + (one + 1 + k), ix2 10 _, by show _ < 105; omega, ?_⟩
        generalize ho2e : one + 1 + k = other at ihk e2 q1 q2 ho2 c' ⊢
        rw [show one + 1 + (k + 1) = other + 1 by omega] at ihk
        have hno : one ≠ other := by omega
        refine ⟨fun c3 => ?_, fun c3 => ⟨nI2_ne, ?_⟩⟩
        · have c3' : ¬ 0 < zy (18 + 8 * one) - zy (18 + 8 * other) := by
            rw [← e1, ← e2]
            exact fun q => Int32.lt_irrefl (Int32.lt_trans c3 q)
          have ez : zlevel one other zy = zmove other one (-(zp zy (10 + one) - zp zy (10 + other)) / nI 2) zy := by
            unfold zlevel
            rw [if_neg c3', e1, e2]
          have q2' := q2 c3'
          rw [← e1, ← e2] at q2'
          rw [ez] at ihk
          refine g_S_levelPipes_74 ⟨nI2_ne, c_S_moveWater_3 (z := zy) (fr := other) (to := one) (by rw [am_set_eq]) hzk ho2 (by omega) q2' (g_S_levelPipes_86 ?_)⟩
          simp only [am_set_set]
          exact am_R_le (by repeat' (first | exact trivial | exact Or.inr rfl | exact Or.inl rfl | exact Or.inr (congrArg Value.int (nI_succ _)) | refine ⟨?_, ?_⟩)) ihk
        · by_cases c4 : 0 < zy (18 + 8 * one) - zy (18 + 8 * other)
          · have ez : zlevel one other zy = zmove one other ((zp zy (10 + one) - zp zy (10 + other)) / nI 2) zy := by
              unfold zlevel
              rw [if_pos c4, e1, e2]
            have q1' := q1 c4
            rw [← e1, ← e2] at q1'
            rw [ez] at ihk
            refine c_S_moveWater_3 (z := zy) (fr := one) (to := other) (by rw [am_set_eq]) hzk ho (by omega) q1' (g_S_levelPipes_86 ?_)
            simp only [am_set_set]
            exact am_R_le (by repeat' (first | exact trivial | exact Or.inr rfl | exact Or.inl rfl | exact Or.inr (congrArg Value.int (nI_succ _)) | refine ⟨?_, ?_⟩)) ihk
          · have ed : zp zy (10 + one) - zp zy (10 + other) = 0 := by
              rw [e1, e2]
              refine Int32.le_antisymm (Int32.not_lt.mp c4) ?_
              have c3'' : ¬ zp zy (10 + one) - zp zy (10 + other) < 0 := c3
              rw [e1, e2] at c3''
              exact Int32.not_lt.mp c3''
            have ez : zlevel one other zy = zmove one other ((zp zy (10 + one) - zp zy (10 + other)) / nI 2) zy := by
              have c3'' : ¬ 0 < zy (18 + 8 * one) - zy (18 + 8 * other) := c4
              unfold zlevel
              rw [if_neg c4, ← e1, ← e2, ed, zmove_0 hzk ho2 (by omega) (by decide +kernel), zmove_0 hzk ho (by omega) (by decide +kernel)]
            have q1' : 0 ≤ ((zp zy (10 + one) - zp zy (10 + other)) / nI 2).toInt := by
              rw [ed]
              decide +kernel
            rw [ez] at ihk
            refine c_S_moveWater_3 (z := zy) (fr := one) (to := other) (by rw [am_set_eq]) hzk ho (by omega) q1' (g_S_levelPipes_86 ?_)
            simp only [am_set_set]
            exact am_R_le (by repeat' (first | exact trivial | exact Or.inr rfl | exact Or.inl rfl | exact Or.inr (congrArg Value.int (nI_succ _)) | refine ⟨?_, ?_⟩)) ihk
theorem c_S_settleGrains_3 {z : dz} {M : am_M} {K : am_Q} (hM : M 4 = zp z) (h : K (.inl none) (am_set M 4 (zp (zsettles z 5)))) : am_C mt_S_settleGrains [.ref 3] M K := by
  have h0 : M = am_set M 4 (zp z) := by rw [← hM, am_set_self]
  refine am_C_of_R am_S0 om_S_settleGrains rfl [.ref 3, .null, .null, .null, .null, .null] rfl rfl (g_S_settleGrains_0 ?_)
  refine am_R_le (xs := [.ref 3, .int (nI 0), .null, .null, .null, .null]) (by repeat' (first | exact trivial | exact Or.inr rfl | exact Or.inl rfl | exact Or.inr (congrArg Value.int (nI_succ _)) | refine ⟨?_, ?_⟩)) ?_
  rw [h0]
  refine lu (P := fun i => am_R am_S0 mt_S_settleGrains 1 2 [.ref 3, .int (nI i), .null, .null, .null, .null] [] (am_set M 4 (zp (zsettles z i))) K) 5 ?_ ?_
  · exact g_S_settleGrains_2 ⟨fun c => g_S_settleGrains_88 h, fun c => absurd (i_le (Nat.le_refl 5) (by decide)) c⟩
  · intro v hv ih
    have eih : zsettles z (v + 1) = zsettle v (zsettles z v) 3 := rfl
    rw [eih] at ih
    generalize zsettles z v = zz at ih ⊢
    refine g_S_settleGrains_2 ⟨fun c => absurd c (i_nge hv (by decide)), fun c => c_S_limitIn_3 (z := zz) (v := v) (by rw [am_set_eq]) hv ?_⟩
    refine am_R_le (xs := [.ref 3, .int (nI v), .int (zholds v zz), .int (nI 0), .null, .null]) (by repeat' (first | exact trivial | exact Or.inr rfl | exact Or.inl rfl | exact Or.inr (congrArg Value.int (nI_succ _)) | refine ⟨?_, ?_⟩)) ?_
    refine lu (P := fun d => am_R am_S0 mt_S_settleGrains 1 15 [.ref 3, .int (nI v), .int (zholds v zz), .int (nI d), .null, .null] [] (am_set M 4 (zp (zsettle v zz d))) K) 3 ?_ ?_
    · exact g_S_settleGrains_15 ⟨fun c => g_S_settleGrains_82 (am_R_le (by repeat' (first | exact trivial | exact Or.inr rfl | exact Or.inl rfl | exact Or.inr (congrArg Value.int (nI_succ _)) | refine ⟨?_, ?_⟩)) ih), fun c => absurd (i_le (Nat.le_refl 3) (by decide)) c⟩
    · intro d hd ihd
      have eh : zholds v zz = zholds v (zsettle v zz d) := (zholds_keep (by omega)).symm
      have ed : zsettle v zz (d + 1) = zset1 v d (zsettle v zz d) := rfl
      rw [ed] at ihd
      rw [eh] at ihd ⊢
      generalize zsettle v zz d = zy at ihd ⊢
      have e1 : zp zy (15 + v * 3 + d) = zy (19 + 8 * v + d) := by unfold zp; rw [pz_d hv hd]
      refine g_S_settleGrains_15 ⟨fun c => absurd c (i_nge hd (by decide)), fun c => ⟨15 + v * 3 + d, ix4' 15 3 v d, by show _ < 105; omega, fun c2 => ?_, fun c2 => ?_⟩⟩
      · have c' : ¬ 0 < zy (19 + 8 * v + d) - zholds v zy := by
          rw [← e1]
          exact Int32.not_lt.mpr c2
        unfold zset1 at ihd
        rw [if_neg c'] at ihd
        exact g_S_settleGrains_76 (am_R_le (by repeat' (first | exact trivial | exact Or.inr rfl | exact Or.inl rfl | exact Or.inr (congrArg Value.int (nI_succ _)) | refine ⟨?_, ?_⟩)) ihd)
      · have c' : 0 < zy (19 + 8 * v + d) - zholds v zy := by
          rw [← e1]
          exact Int32.not_le.mp c2
        unfold zset1 at ihd
        rw [if_pos c'] at ihd
        refine ⟨15 + v * 3 + d, ix4' 15 3 v d, by show _ < 105; omega, 15 + v * 3 + d, ix4' 15 3 v d, by show _ < 105; omega, 30 + v * 3 + d, ix4' 30 3 v d, by show _ < 105; omega, 30 + v * 3 + d, ix4' 30 3 v d, by show _ < 105; omega, g_S_settleGrains_76 ?_⟩
        simp only [am_set_set]
        have e : upd (upd (zp zy) (15 + v * 3 + d) (zp zy (15 + v * 3 + d) - (zp zy (15 + v * 3 + d) - zholds v zy))) (30 + v * 3 + d) (upd (zp zy) (15 + v * 3 + d) (zp zy (15 + v * 3 + d) - (zp zy (15 + v * 3 + d) - zholds v zy)) (30 + v * 3 + d) + (zp zy (15 + v * 3 + d) - zholds v zy)) = zp (zadd (zadd zy (19 + 8 * v + d) (-(zy (19 + 8 * v + d) - zholds v zy))) (22 + 8 * v + d) (zy (19 + 8 * v + d) - zholds v zy)) := by
          rw [zp_sub, zp_add, pz_d hv hd, pz_s hv hd, e1]
        rw [← e] at ihd
        exact am_R_le (by repeat' (first | exact trivial | exact Or.inr rfl | exact Or.inl rfl | exact Or.inr (congrArg Value.int (nI_succ _)) | refine ⟨?_, ?_⟩)) ihd
theorem c_S_runValves_3 {z : dz} {M : am_M} {K : am_Q} (hM : M 4 = zp z) (hz : zok z) (h : K (.inl none) (am_set M 4 (zp (zvalves z (zn (z 5)))))) : am_C mt_S_runValves [.ref 3] M K := by
  obtain ⟨m, hm8, hm, hvs⟩ := hz.2.2.2.2.2
  have em : zn (z 5) = m := by rw [hm]; exact zn_nI (by omega)
  rw [em] at h
  obtain ⟨hv1, hv2⟩ := zok_valves hz hm hm8 m (Nat.le_refl _)
  have h0 : M = am_set M 4 (zp z) := by rw [← hM, am_set_self]
  refine am_C_of_R am_S0 om_S_runValves rfl [.ref 3, .null, .null, .null] rfl rfl (g_S_runValves_0 (c_S_hourOfDay_3 hM ?_))
  refine am_R_le (xs := [.ref 3, .int (zhod z), .int (nI 0), .null]) (by repeat' (first | exact trivial | exact Or.inr rfl | exact Or.inl rfl | exact Or.inr (congrArg Value.int (nI_succ _)) | refine ⟨?_, ?_⟩)) ?_
  rw [h0]
  refine lu (P := fun i => am_R am_S0 mt_S_runValves 1 7 [.ref 3, .int (zhod z), .int (nI i), .null] [] (am_set M 4 (zp (zvalves z i))) K) m ?_ ?_
  · have e5 : zvalves z m 5 = nI m := by rw [hv2 5 (by unfold zfix; omega), hm]
    refine g_S_runValves_7 ⟨56, rfl, by decide, fun c => g_S_runValves_86 h, fun c => absurd ?_ c⟩
    show zvalves z m 5 ≤ nI m
    rw [e5]
    exact i_le (Nat.le_refl m) (by omega)
  · intro k hk ih
    obtain ⟨hk1, hk2⟩ := zok_valves hz hm hm8 k (by omega)
    have e5 : zvalves z k 5 = nI m := by rw [hk2 5 (by unfold zfix; omega), hm]
    have eh : zhod z = zhod (zvalves z k) := by unfold zhod; rw [zvalves_keep0 hz hm hm8 k (by omega)]
    obtain ⟨m', hm', e5', hvk⟩ := hk1.2.2.2.2.2
    have hmm : m' = m := (nI_eq (by omega) (by omega)).mp (e5'.symm.trans e5)
    obtain ⟨w1, w2, w3, w4, w5, w6⟩ := zvok_use (hvk k (by omega))
    have ek : zvalves z (k + 1) = zvalve k (zvalves z k) := rfl
    rw [ek] at ih
    rw [eh] at ih ⊢
    generalize zvalves z k = zz at ih hk1 hk2 e5 w1 w2 w3 w4 w5 w6 ⊢
    refine g_S_runValves_7 ⟨56, rfl, by decide, fun c => absurd c ?_, fun c => ⟨fun c => absurd c (i_nge (show k < 8 by omega) (by decide)), fun c => ?_⟩⟩
    · show ¬ zz 5 ≤ nI k
      rw [e5]
      exact i_nge hk (by omega)
    have ei : nI 57 + nI k * nI 6 = nI (57 + 6 * k) := by rw [ix3', Nat.mul_comm]
    show am_C mt_S_isOpen [.ref 3, .int (nI 57 + nI k * nI 6), .int (zhod zz)] _ _
    rw [ei]
    refine c_S_isOpen_3 (z := zz) (k := k) (by rw [am_set_eq]) (by omega) ⟨fun c => ?_, fun c => ?_⟩
    · have c1 : ¬ (zz (57 + 6 * k + 3) ≤ zhod zz ∧ zhod zz ≤ zz (57 + 6 * k + 4)) := ib_eq0.mp c
      have c' : ¬ zopen k zz := c1
      unfold zvalve at ih
      rw [if_neg c'] at ih
      exact g_S_runValves_80 (am_R_le (by repeat' (first | exact trivial | exact Or.inr rfl | exact Or.inl rfl | exact Or.inr (congrArg Value.int (nI_succ _)) | refine ⟨?_, ?_⟩)) ih)
    · have c1 : zz (57 + 6 * k + 3) ≤ zhod zz ∧ zhod zz ≤ zz (57 + 6 * k + 4) := Classical.not_not.mp (fun z => c (ib_eq0.mpr z))
      have c' : zopen k zz := c1
      unfold zvalve at ih
      rw [if_pos c'] at ih
      have j5 : (nI 57 + nI k * nI 6) + nI 5 = nI (57 + 6 * k + 5) := by rw [ei, ix2]
      have j0 : (nI 57 + nI k * nI 6) + nI 0 = nI (57 + 6 * k) := by rw [ei, ix2]; rfl
      have j1 : (nI 57 + nI k * nI 6) + nI 1 = nI (57 + 6 * k + 1) := by rw [ei, ix2]
      have j2 : (nI 57 + nI k * nI 6) + nI 2 = nI (57 + 6 * k + 2) := by rw [ei, ix2]
      refine ⟨57 + 6 * k + 5, j5, by show _ < 105; omega, 57 + 6 * k, j0, by show _ < 105; omega, 57 + 6 * k + 1, j1, by show _ < 105; omega, 57 + 6 * k + 2, j2, by show _ < 105; omega, ?_⟩
      have f0 : zp zz (57 + 6 * k) = zz (57 + 6 * k) := by unfold zp; rw [pz_hi (by omega)]
      have f1 : zp zz (57 + 6 * k + 1) = zz (57 + 6 * k + 1) := by unfold zp; rw [pz_hi (by omega)]
      have f2 : zp zz (57 + 6 * k + 2) = zz (57 + 6 * k + 2) := by unfold zp; rw [pz_hi (by omega)]
      have f5 : zp zz (57 + 6 * k + 5) = zz (57 + 6 * k + 5) := by unfold zp; rw [pz_hi (by omega)]
      show am_C mt_S_moveWater [.ref 3, .int (zp zz (57 + 6 * k)), .int (zp zz (57 + 6 * k + 1)), .int (zp zz (57 + 6 * k + 2))] (am_set M 4 (zp zz)) _
      rw [f0, f1, f2, w1, w2]
      refine c_S_moveWater_3 (z := zz) (fr := zn (zz (57 + 6 * k))) (to := zn (zz (57 + 6 * k + 1))) (by rw [am_set_eq]) hk1 w3 w4 w6 ⟨57 + 6 * k + 5, j5, by show _ < 105; omega, g_S_runValves_80 ?_⟩
      simp only [am_set_set, am_set_eq]
      rw [zp_upd, pz_hi (by omega)]
      have ih' := ih
      rw [← f5] at ih'
      exact am_R_le (by repeat' (first | exact trivial | exact Or.inr rfl | exact Or.inl rfl | exact Or.inr (congrArg Value.int (nI_succ _)) | refine ⟨?_, ?_⟩)) ih'
theorem c_S_runHours_3 {z : dz} {n : Nat} {M : am_M} {K : am_Q} (hM : M 4 = zp z) (hz : zok z) (hn : n < 2 ^ 31) (h : K (.inl none) (am_set M 4 (zp (zhours z n)))) : am_C mt_S_runHours [.ref 3, .int (nI n)] M K := by
  have h0 : M = am_set M 4 (zp z) := by rw [← hM, am_set_self]
  refine am_C_of_R am_S0 om_S_runHours rfl [.ref 3, .int (nI n), .null] rfl rfl (g_S_runHours_0 ?_)
  refine am_R_le (xs := [.ref 3, .int (nI n), .int (nI 0)]) (by repeat' (first | exact trivial | exact Or.inr rfl | exact Or.inl rfl | exact Or.inr (congrArg Value.int (nI_succ _)) | refine ⟨?_, ?_⟩)) ?_
  rw [h0]
  refine lu (P := fun i => am_R am_S0 mt_S_runHours 1 2 [.ref 3, .int (nI n), .int (nI i)] [] (am_set M 4 (zp (zhours z i))) K) n ?_ ?_
  · exact g_S_runHours_2 ⟨fun c => g_S_runHours_36 h, fun c => absurd (i_le (Nat.le_refl n) hn) c⟩
  · intro i hi ih
    obtain ⟨hk, -⟩ := zok_hours hz i
    have eih : zhours z (i + 1) = zhour (zhours z i) := rfl
    rw [eih] at ih
    generalize zhours z i = zz at ih hk ⊢
    obtain ⟨m, hm8, hm, hvs⟩ := hk.2.2.2.2.2
    have em : zn (zz 5) = m := by rw [hm]; exact zn_nI (by omega)
    obtain ⟨hv1, hv2⟩ := zok_valves hk hm hm8 m (Nat.le_refl _)
    unfold zhour at ih
    rw [em] at ih
    refine g_S_runHours_2 ⟨fun c => absurd c (i_nge hi hn), fun c => c_S_runValves_3 (z := zz) (by rw [am_set_eq]) hk ?_⟩
    rw [am_set_set, em]
    refine c_S_levelPipes_3 (z := zvalves zz m) (by rw [am_set_eq]) hv1 (c_S_settleGrains_3 (z := zpipes (zvalves zz m) 5) (by rw [am_set_eq]) ⟨52, rfl, by decide, 52, rfl, by decide, ?_⟩)
    simp only [am_set_set]
    generalize zsettles (zpipes (zvalves zz m) 5) 5 = zs at ih ⊢
    have e : upd (zp zs) 52 (zp zs 52 + nI 1) = zp (zadd zs 0 (nI 1)) := zp_add zs 52 (nI 1)
    rw [← e] at ih
    exact am_R_le (by repeat' (first | exact trivial | exact Or.inr rfl | exact Or.inl rfl | exact Or.inr (congrArg Value.int (nI_succ _)) | refine ⟨?_, ?_⟩)) ih
theorem c_S_levelPipes_6 {z : dz} {M : am_M} {K : am_Q} (hM : M 7 = zp z) (hz : zok z) (h : K (.inl none) (am_set M 7 (zp (zpipes z 5)))) : am_C mt_S_levelPipes [.ref 6] M K := by
  have h0 : M = am_set M 7 (zp z) := by rw [← hM, am_set_self]
  refine am_C_of_R am_S0 om_S_levelPipes rfl [.ref 6, .null, .null, .null, .null] rfl rfl (g_S_levelPipes_0 ?_)
  refine am_R_le (xs := [.ref 6, .int (nI 0), .null, .null, .null]) (by repeat' (first | exact trivial | exact Or.inr rfl | exact Or.inl rfl | exact Or.inr (congrArg Value.int (nI_succ _)) | refine ⟨?_, ?_⟩)) ?_
  rw [h0]
  refine lu (P := fun i => am_R am_S0 mt_S_levelPipes 1 2 [.ref 6, .int (nI i), .null, .null, .null] [] (am_set M 7 (zp (zpipes z i))) K) 5 ?_ ?_
  · exact g_S_levelPipes_2 ⟨fun c => g_S_levelPipes_98 h, fun c => absurd (i_le (Nat.le_refl 5) (by decide)) c⟩
  · intro one ho ih
    have hzp := zok_pipes hz one (by omega)
    have hfx : ∀ i, zfix i → zpipes z one i = z i := fun i hi => zpipes_fix hi one (by omega)
    have eih : zpipes z (one + 1) = zlevs one (zpipes z one) (4 - one) := rfl
    rw [eih] at ih
    generalize zpipes z one = zz at hzp ih hfx ⊢
    refine g_S_levelPipes_2 ⟨fun c => absurd c (i_nge ho (by decide)), fun c => ⟨5 + one, ix2 5 one, by show _ < 105; omega, ?_⟩⟩
    have ep : zp zz (5 + one) = zz (6 + one) := by unfold zp; rw [pz_p ho]
    refine am_R_le (xs := [.ref 6, .int (nI one), .int (zp zz (5 + one)), .int (nI (one + 1 + 0)), .null]) (by repeat' (first | exact trivial | exact Or.inr rfl | exact Or.inl rfl | exact Or.inr (congrArg Value.int (nI_succ _)) | refine ⟨?_, ?_⟩)) ?_
    rw [ep]
    refine lu (P := fun k => am_R am_S0 mt_S_levelPipes 1 20 [.ref 6, .int (nI one), .int (zz (6 + one)), .int (nI (one + 1 + k)), .null] [] (am_set M 7 (zp (zlevs one zz k))) K) (4 - one) ?_ ?_
    · refine g_S_levelPipes_20 ⟨fun c => ?_, fun c => absurd (i_le (show 5 ≤ one + 1 + (4 - one) by omega) (by omega)) c⟩
      exact g_S_levelPipes_92 (am_R_le (by repeat' (first | exact trivial | exact Or.inr rfl | exact Or.inl rfl | exact Or.inr (congrArg Value.int (nI_succ _)) | refine ⟨?_, ?_⟩)) ih)
    · intro k hk ihk
      have hzk := zok_levs hzp ho k (by omega)
      have hfk : zlevs one zz k (6 + one) = zz (6 + one) := zlevs_fix ho (by unfold zfix; omega) k (by omega)
      have ek : zlevs one zz (k + 1) = zlev1 one (one + 1 + k) (zlevs one zz k) := rfl
      rw [ek] at ihk
      rw [← hfk] at ihk ⊢
      generalize zlevs one zz k = zy at hzk ihk ⊢
      have ho2 : one + 1 + k < 5 := by omega
      refine g_S_levelPipes_20 ⟨fun c => absurd c (i_nge ho2 (by decide)), fun c => ⟨fun c => ?_, fun c => ?_⟩⟩
      · have c' : ¬ zpipe one (one + 1 + k) zy := c
        unfold zlev1 at ihk
        rw [if_neg c'] at ihk
        exact g_S_levelPipes_86 (am_R_le (by repeat' (first | exact trivial | exact Or.inr rfl | exact Or.inl rfl | exact Or.inr (congrArg Value.int (nI_succ _)) | refine ⟨?_, ?_⟩)) ihk)
      · have c' : zpipe one (one + 1 + k) zy := Classical.not_not.mp c
        unfold zlev1 at ihk
        rw [if_pos c'] at ihk
        have e1 : zp zy (10 + one) = zy (18 + 8 * one) := by unfold zp; rw [pz_w ho]
        have e2 : zp zy (10 + (one + 1 + k)) = zy (18 + 8 * (one + 1 + k)) := by unfold zp; rw [pz_w ho2]
        obtain ⟨q1, q2⟩ := zok_half hzk ho ho2
        refine ⟨10 + one, ix2 10 one, by show _ < 105; omega, 10 + (one + 1 + k), ix2 10 _, by show _ < 105; omega, ?_⟩
        generalize ho2e : one + 1 + k = other at ihk e2 q1 q2 ho2 c' ⊢
        rw [show one + 1 + (k + 1) = other + 1 by omega] at ihk
        have hno : one ≠ other := by omega
        refine ⟨fun c3 => ?_, fun c3 => ⟨nI2_ne, ?_⟩⟩
        · have c3' : ¬ 0 < zy (18 + 8 * one) - zy (18 + 8 * other) := by
            rw [← e1, ← e2]
            exact fun q => Int32.lt_irrefl (Int32.lt_trans c3 q)
          have ez : zlevel one other zy = zmove other one (-(zp zy (10 + one) - zp zy (10 + other)) / nI 2) zy := by
            unfold zlevel
            rw [if_neg c3', e1, e2]
          have q2' := q2 c3'
          rw [← e1, ← e2] at q2'
          rw [ez] at ihk
          refine g_S_levelPipes_74 ⟨nI2_ne, c_S_moveWater_6 (z := zy) (fr := other) (to := one) (by rw [am_set_eq]) hzk ho2 (by omega) q2' (g_S_levelPipes_86 ?_)⟩
          simp only [am_set_set]
          exact am_R_le (by repeat' (first | exact trivial | exact Or.inr rfl | exact Or.inl rfl | exact Or.inr (congrArg Value.int (nI_succ _)) | refine ⟨?_, ?_⟩)) ihk
        · by_cases c4 : 0 < zy (18 + 8 * one) - zy (18 + 8 * other)
          · have ez : zlevel one other zy = zmove one other ((zp zy (10 + one) - zp zy (10 + other)) / nI 2) zy := by
              unfold zlevel
              rw [if_pos c4, e1, e2]
            have q1' := q1 c4
            rw [← e1, ← e2] at q1'
            rw [ez] at ihk
            refine c_S_moveWater_6 (z := zy) (fr := one) (to := other) (by rw [am_set_eq]) hzk ho (by omega) q1' (g_S_levelPipes_86 ?_)
            simp only [am_set_set]
            exact am_R_le (by repeat' (first | exact trivial | exact Or.inr rfl | exact Or.inl rfl | exact Or.inr (congrArg Value.int (nI_succ _)) | refine ⟨?_, ?_⟩)) ihk
          · have ed : zp zy (10 + one) - zp zy (10 + other) = 0 := by
              rw [e1, e2]
              refine Int32.le_antisymm (Int32.not_lt.mp c4) ?_
              have c3'' : ¬ zp zy (10 + one) - zp zy (10 + other) < 0 := c3
              rw [e1, e2] at c3''
              exact Int32.not_lt.mp c3''
            have ez : zlevel one other zy = zmove one other ((zp zy (10 + one) - zp zy (10 + other)) / nI 2) zy := by
              have c3'' : ¬ 0 < zy (18 + 8 * one) - zy (18 + 8 * other) := c4
              unfold zlevel
              rw [if_neg c4, ← e1, ← e2, ed, zmove_0 hzk ho2 (by omega) (by decide +kernel), zmove_0 hzk ho (by omega) (by decide +kernel)]
            have q1' : 0 ≤ ((zp zy (10 + one) - zp zy (10 + other)) / nI 2).toInt := by
              rw [ed]
              decide +kernel
            rw [ez] at ihk
            refine c_S_moveWater_6 (z := zy) (fr := one) (to := other) (by rw [am_set_eq]) hzk ho (by omega) q1' (g_S_levelPipes_86 ?_)
            simp only [am_set_set]
            exact am_R_le (by repeat' (first | exact trivial | exact Or.inr rfl | exact Or.inl rfl | exact Or.inr (congrArg Value.int (nI_succ _)) | refine ⟨?_, ?_⟩)) ihk
theorem c_S_settleGrains_6 {z : dz} {M : am_M} {K : am_Q} (hM : M 7 = zp z) (h : K (.inl none) (am_set M 7 (zp (zsettles z 5)))) : am_C mt_S_settleGrains [.ref 6] M K := by
  have h0 : M = am_set M 7 (zp z) := by rw [← hM, am_set_self]
  refine am_C_of_R am_S0 om_S_settleGrains rfl [.ref 6, .null, .null, .null, .null, .null] rfl rfl (g_S_settleGrains_0 ?_)
  refine am_R_le (xs := [.ref 6, .int (nI 0), .null, .null, .null, .null]) (by repeat' (first | exact trivial | exact Or.inr rfl | exact Or.inl rfl | exact Or.inr (congrArg Value.int (nI_succ _)) | refine ⟨?_, ?_⟩)) ?_
  rw [h0]
  refine lu (P := fun i => am_R am_S0 mt_S_settleGrains 1 2 [.ref 6, .int (nI i), .null, .null, .null, .null] [] (am_set M 7 (zp (zsettles z i))) K) 5 ?_ ?_
  · exact g_S_settleGrains_2 ⟨fun c => g_S_settleGrains_88 h, fun c => absurd (i_le (Nat.le_refl 5) (by decide)) c⟩
  · intro v hv ih
    have eih : zsettles z (v + 1) = zsettle v (zsettles z v) 3 := rfl
    rw [eih] at ih
    generalize zsettles z v = zz at ih ⊢
    refine g_S_settleGrains_2 ⟨fun c => absurd c (i_nge hv (by decide)), fun c => c_S_limitIn_6 (z := zz) (v := v) (by rw [am_set_eq]) hv ?_⟩
    refine am_R_le (xs := [.ref 6, .int (nI v), .int (zholds v zz), .int (nI 0), .null, .null]) (by repeat' (first | exact trivial | exact Or.inr rfl | exact Or.inl rfl | exact Or.inr (congrArg Value.int (nI_succ _)) | refine ⟨?_, ?_⟩)) ?_
    refine lu (P := fun d => am_R am_S0 mt_S_settleGrains 1 15 [.ref 6, .int (nI v), .int (zholds v zz), .int (nI d), .null, .null] [] (am_set M 7 (zp (zsettle v zz d))) K) 3 ?_ ?_
    · exact g_S_settleGrains_15 ⟨fun c => g_S_settleGrains_82 (am_R_le (by repeat' (first | exact trivial | exact Or.inr rfl | exact Or.inl rfl | exact Or.inr (congrArg Value.int (nI_succ _)) | refine ⟨?_, ?_⟩)) ih), fun c => absurd (i_le (Nat.le_refl 3) (by decide)) c⟩
    · intro d hd ihd
      have eh : zholds v zz = zholds v (zsettle v zz d) := (zholds_keep (by omega)).symm
      have ed : zsettle v zz (d + 1) = zset1 v d (zsettle v zz d) := rfl
      rw [ed] at ihd
      rw [eh] at ihd ⊢
      generalize zsettle v zz d = zy at ihd ⊢
      have e1 : zp zy (15 + v * 3 + d) = zy (19 + 8 * v + d) := by unfold zp; rw [pz_d hv hd]
      refine g_S_settleGrains_15 ⟨fun c => absurd c (i_nge hd (by decide)), fun c => ⟨15 + v * 3 + d, ix4' 15 3 v d, by show _ < 105; omega, fun c2 => ?_, fun c2 => ?_⟩⟩
      · have c' : ¬ 0 < zy (19 + 8 * v + d) - zholds v zy := by
          rw [← e1]
          exact Int32.not_lt.mpr c2
        unfold zset1 at ihd
        rw [if_neg c'] at ihd
        exact g_S_settleGrains_76 (am_R_le (by repeat' (first | exact trivial | exact Or.inr rfl | exact Or.inl rfl | exact Or.inr (congrArg Value.int (nI_succ _)) | refine ⟨?_, ?_⟩)) ihd)
      · have c' : 0 < zy (19 + 8 * v + d) - zholds v zy := by
          rw [← e1]
          exact Int32.not_le.mp c2
        unfold zset1 at ihd
        rw [if_pos c'] at ihd
        refine ⟨15 + v * 3 + d, ix4' 15 3 v d, by show _ < 105; omega, 15 + v * 3 + d, ix4' 15 3 v d, by show _ < 105; omega, 30 + v * 3 + d, ix4' 30 3 v d, by show _ < 105; omega, 30 + v * 3 + d, ix4' 30 3 v d, by show _ < 105; omega, g_S_settleGrains_76 ?_⟩
        simp only [am_set_set]
        have e : upd (upd (zp zy) (15 + v * 3 + d) (zp zy (15 + v * 3 + d) - (zp zy (15 + v * 3 + d) - zholds v zy))) (30 + v * 3 + d) (upd (zp zy) (15 + v * 3 + d) (zp zy (15 + v * 3 + d) - (zp zy (15 + v * 3 + d) - zholds v zy)) (30 + v * 3 + d) + (zp zy (15 + v * 3 + d) - zholds v zy)) = zp (zadd (zadd zy (19 + 8 * v + d) (-(zy (19 + 8 * v + d) - zholds v zy))) (22 + 8 * v + d) (zy (19 + 8 * v + d) - zholds v zy)) := by
          rw [zp_sub, zp_add, pz_d hv hd, pz_s hv hd, e1]
        rw [← e] at ihd
        exact am_R_le (by repeat' (first | exact trivial | exact Or.inr rfl | exact Or.inl rfl | exact Or.inr (congrArg Value.int (nI_succ _)) | refine ⟨?_, ?_⟩)) ihd
theorem c_S_runValves_6 {z : dz} {M : am_M} {K : am_Q} (hM : M 7 = zp z) (hz : zok z) (h : K (.inl none) (am_set M 7 (zp (zvalves z (zn (z 5)))))) : am_C mt_S_runValves [.ref 6] M K := by
  obtain ⟨m, hm8, hm, hvs⟩ := hz.2.2.2.2.2
  have em : zn (z 5) = m := by rw [hm]; exact zn_nI (by omega)
  rw [em] at h
  obtain ⟨hv1, hv2⟩ := zok_valves hz hm hm8 m (Nat.le_refl _)
  have h0 : M = am_set M 7 (zp z) := by rw [← hM, am_set_self]
  refine am_C_of_R am_S0 om_S_runValves rfl [.ref 6, .null, .null, .null] rfl rfl (g_S_runValves_0 (c_S_hourOfDay_6 hM ?_))
  refine am_R_le (xs := [.ref 6, .int (zhod z), .int (nI 0), .null]) (by repeat' (first | exact trivial | exact Or.inr rfl | exact Or.inl rfl | exact Or.inr (congrArg Value.int (nI_succ _)) | refine ⟨?_, ?_⟩)) ?_
  rw [h0]
  refine lu (P := fun i => am_R am_S0 mt_S_runValves 1 7 [.ref 6, .int (zhod z), .int (nI i), .null] [] (am_set M 7 (zp (zvalves z i))) K) m ?_ ?_
  · have e5 : zvalves z m 5 = nI m := by rw [hv2 5 (by unfold zfix; omega), hm]
    refine g_S_runValves_7 ⟨56, rfl, by decide, fun c => g_S_runValves_86 h, fun c => absurd ?_ c⟩
    show zvalves z m 5 ≤ nI m
    rw [e5]
    exact i_le (Nat.le_refl m) (by omega)
  · intro k hk ih
    obtain ⟨hk1, hk2⟩ := zok_valves hz hm hm8 k (by omega)
    have e5 : zvalves z k 5 = nI m := by rw [hk2 5 (by unfold zfix; omega), hm]
    have eh : zhod z = zhod (zvalves z k) := by unfold zhod; rw [zvalves_keep0 hz hm hm8 k (by omega)]
    obtain ⟨m', hm', e5', hvk⟩ := hk1.2.2.2.2.2
    have hmm : m' = m := (nI_eq (by omega) (by omega)).mp (e5'.symm.trans e5)
    obtain ⟨w1, w2, w3, w4, w5, w6⟩ := zvok_use (hvk k (by omega))
    have ek : zvalves z (k + 1) = zvalve k (zvalves z k) := rfl
    rw [ek] at ih
    rw [eh] at ih ⊢
    generalize zvalves z k = zz at ih hk1 hk2 e5 w1 w2 w3 w4 w5 w6 ⊢
    refine g_S_runValves_7 ⟨56, rfl, by decide, fun c => absurd c ?_, fun c => ⟨fun c => absurd c (i_nge (show k < 8 by omega) (by decide)), fun c => ?_⟩⟩
    · show ¬ zz 5 ≤ nI k
      rw [e5]
      exact i_nge hk (by omega)
    have ei : nI 57 + nI k * nI 6 = nI (57 + 6 * k) := by rw [ix3', Nat.mul_comm]
    show am_C mt_S_isOpen [.ref 6, .int (nI 57 + nI k * nI 6), .int (zhod zz)] _ _
    rw [ei]
    refine c_S_isOpen_6 (z := zz) (k := k) (by rw [am_set_eq]) (by omega) ⟨fun c => ?_, fun c => ?_⟩
    · have c1 : ¬ (zz (57 + 6 * k + 3) ≤ zhod zz ∧ zhod zz ≤ zz (57 + 6 * k + 4)) := ib_eq0.mp c
      have c' : ¬ zopen k zz := c1
      unfold zvalve at ih
      rw [if_neg c'] at ih
      exact g_S_runValves_80 (am_R_le (by repeat' (first | exact trivial | exact Or.inr rfl | exact Or.inl rfl | exact Or.inr (congrArg Value.int (nI_succ _)) | refine ⟨?_, ?_⟩)) ih)
    · have c1 : zz (57 + 6 * k + 3) ≤ zhod zz ∧ zhod zz ≤ zz (57 + 6 * k + 4) := Classical.not_not.mp (fun z => c (ib_eq0.mpr z))
      have c' : zopen k zz := c1
      unfold zvalve at ih
      rw [if_pos c'] at ih
      have j5 : (nI 57 + nI k * nI 6) + nI 5 = nI (57 + 6 * k + 5) := by rw [ei, ix2]
      have j0 : (nI 57 + nI k * nI 6) + nI 0 = nI (57 + 6 * k) := by rw [ei, ix2]; rfl
      have j1 : (nI 57 + nI k * nI 6) + nI 1 = nI (57 + 6 * k + 1) := by rw [ei, ix2]
      have j2 : (nI 57 + nI k * nI 6) + nI 2 = nI (57 + 6 * k + 2) := by rw [ei, ix2]
      refine ⟨57 + 6 * k + 5, j5, by show _ < 105; omega, 57 + 6 * k, j0, by show _ < 105; omega, 57 + 6 * k + 1, j1, by show _ < 105; omega, 57 + 6 * k + 2, j2, by show _ < 105; omega, ?_⟩
      have f0 : zp zz (57 + 6 * k) = zz (57 + 6 * k) := by unfold zp; rw [pz_hi (by omega)]
      have f1 : zp zz (57 + 6 * k + 1) = zz (57 + 6 * k + 1) := by unfold zp; rw [pz_hi (by omega)]
      have f2 : zp zz (57 + 6 * k + 2) = zz (57 + 6 * k + 2) := by unfold zp; rw [pz_hi (by omega)]
      have f5 : zp zz (57 + 6 * k + 5) = zz (57 + 6 * k + 5) := by unfold zp; rw [pz_hi (by omega)]
      show am_C mt_S_moveWater [.ref 6, .int (zp zz (57 + 6 * k)), .int (zp zz (57 + 6 * k + 1)), .int (zp zz (57 + 6 * k + 2))] (am_set M 7 (zp zz)) _
      rw [f0, f1, f2, w1, w2]
      refine c_S_moveWater_6 (z := zz) (fr := zn (zz (57 + 6 * k))) (to := zn (zz (57 + 6 * k + 1))) (by rw [am_set_eq]) hk1 w3 w4 w6 ⟨57 + 6 * k + 5, j5, by show _ < 105; omega, g_S_runValves_80 ?_⟩
      simp only [am_set_set, am_set_eq]
      rw [zp_upd, pz_hi (by omega)]
      have ih' := ih
      rw [← f5] at ih'
      exact am_R_le (by repeat' (first | exact trivial | exact Or.inr rfl | exact Or.inl rfl | exact Or.inr (congrArg Value.int (nI_succ _)) | refine ⟨?_, ?_⟩)) ih'
theorem c_S_runHours_6 {z : dz} {n : Nat} {M : am_M} {K : am_Q} (hM : M 7 = zp z) (hz : zok z) (hn : n < 2 ^ 31) (h : K (.inl none) (am_set M 7 (zp (zhours z n)))) : am_C mt_S_runHours [.ref 6, .int (nI n)] M K := by
  have h0 : M = am_set M 7 (zp z) := by rw [← hM, am_set_self]
  refine am_C_of_R am_S0 om_S_runHours rfl [.ref 6, .int (nI n), .null] rfl rfl (g_S_runHours_0 ?_)
  refine am_R_le (xs := [.ref 6, .int (nI n), .int (nI 0)]) (by repeat' (first | exact trivial | exact Or.inr rfl | exact Or.inl rfl | exact Or.inr (congrArg Value.int (nI_succ _)) | refine ⟨?_, ?_⟩)) ?_
  rw [h0]
  refine lu (P := fun i => am_R am_S0 mt_S_runHours 1 2 [.ref 6, .int (nI n), .int (nI i)] [] (am_set M 7 (zp (zhours z i))) K) n ?_ ?_
  · exact g_S_runHours_2 ⟨fun c => g_S_runHours_36 h, fun c => absurd (i_le (Nat.le_refl n) hn) c⟩
  · intro i hi ih
    obtain ⟨hk, -⟩ := zok_hours hz i
    have eih : zhours z (i + 1) = zhour (zhours z i) := rfl
    rw [eih] at ih
    generalize zhours z i = zz at ih hk ⊢
    obtain ⟨m, hm8, hm, hvs⟩ := hk.2.2.2.2.2
    have em : zn (zz 5) = m := by rw [hm]; exact zn_nI (by omega)
    obtain ⟨hv1, hv2⟩ := zok_valves hk hm hm8 m (Nat.le_refl _)
    unfold zhour at ih
    rw [em] at ih
    refine g_S_runHours_2 ⟨fun c => absurd c (i_nge hi hn), fun c => c_S_runValves_6 (z := zz) (by rw [am_set_eq]) hk ?_⟩
    rw [am_set_set, em]
    refine c_S_levelPipes_6 (z := zvalves zz m) (by rw [am_set_eq]) hv1 (c_S_settleGrains_6 (z := zpipes (zvalves zz m) 5) (by rw [am_set_eq]) ⟨52, rfl, by decide, 52, rfl, by decide, ?_⟩)
    simp only [am_set_set]
    generalize zsettles (zpipes (zvalves zz m) 5) 5 = zs at ih ⊢
    have e : upd (zp zs) 52 (zp zs 52 + nI 1) = zp (zadd zs 0 (nI 1)) := zp_add zs 52 (nI 1)
    rw [← e] at ih
    exact am_R_le (by repeat' (first | exact trivial | exact Or.inr rfl | exact Or.inl rfl | exact Or.inr (congrArg Value.int (nI_succ _)) | refine ⟨?_, ?_⟩)) ih
end
section
/-! what both sides hold: the numbers of now, the saved ones, the slots, the text; and how each side holds it -/
abbrev wS : Type := dz × Nat × (Nat → dz) × (Nat → dz) × (Nat → Bool) × dz × Nat
def w_z (w : wS) : dz := w.1
def w_s (w : wS) : Nat := w.2.1
def w_sv (w : wS) : Nat → dz := w.2.2.1
def w_sl (w : wS) : Nat → dz := w.2.2.2.1
def w_kp (w : wS) : Nat → Bool := w.2.2.2.2.1
def w_tx (w : wS) : dz := w.2.2.2.2.2.1
def w_ln (w : wS) : Nat := w.2.2.2.2.2.2
def w_setz (w : wS) (z : dz) : wS := (z, w.2)
/-- the 105 numbers of a row over others -/
def zcp (a z : dz) : dz := fun k => if k < 105 then a k else z k
def w_at (w : wS) : Nat := if w_s w = 6 then 5 else w_s w
def w_rec (w : wS) : wS := (w_z w, w_at w + 1, (fun j => if j = w_at w then w_z w else if w_s w = 6 then w_sv w (j + 1) else w_sv w j), w.2.2.2)
def vr (M : am_M) (w : wS) : Prop := M 2 = zp (w_z w) ∧ (M 0 8 = nI (w_s w) ∧ w_s w ≤ 6) ∧ (∀ j, j < w_s w → ∀ k, k < 105 → M 16 (105 * j + k) = w_sv w j (pz k)) ∧ (∀ j, j < 2 → M 15 j = ib (w_kp w j = true)) ∧ (∀ j, j < 2 → w_kp w j = true → ∀ k, k < 105 → M 14 (105 * j + k) = w_sl w j (pz k)) ∧ (M 9 1 = nI (w_ln w) ∧ w_ln w ≤ 60) ∧ ∀ k, k < w_ln w → M 10 k = w_tx w k
def vf (M M' : am_M) : Prop := ∀ o, 17 ≤ o → M' o = M o
theorem vf_refl (M : am_M) : vf M M := fun _ _ => rfl
theorem vf_trans {M M' M'' : am_M} (h : vf M M') (h' : vf M' M'') : vf M M'' := fun o ho => (h' o ho).trans (h o ho)
theorem am_so (M : am_M) {o q : Nat} (f : Nat → Int32) (h : q ≠ o) : am_set M o f q = M q := by unfold am_set; rw [if_neg h]
theorem vf_set {M M' : am_M} {o : Nat} {f : Nat → Int32} (h : vf M M') (ho : o < 17) : vf M (am_set M' o f) := fun q hq => by rw [am_so _ _ (by omega)]; exact h q hq
theorem vr_of {M M' : am_M} {w : wS} (h : vr M w) (h' : ∀ o, o < 17 → M' o = M o) : vr M' w := by
  unfold vr
  rw [h' 2 (by decide), h' 0 (by decide), h' 16 (by decide), h' 15 (by decide), h' 14 (by decide), h' 9 (by decide), h' 10 (by decide)]
  exact h
theorem vr_setz {M : am_M} {w : wS} {z : dz} (h : vr M w) : vr (am_set M 2 (zp z)) (w_setz w z) := ⟨rfl, h.2⟩
theorem vr_0 {M : am_M} {w : wS} {k : Nat} {x : Int32} (h : vr M w) (h8 : k ≠ 8) : vr (am_set M 0 (upd (M 0) k x)) w := by
  obtain ⟨a, b, c, d, e, f, g⟩ := h
  refine ⟨a, ⟨?_, b.2⟩, c, d, e, f, g⟩
  rw [am_set_eq, upd_ne _ _ (Ne.symm h8)]; exact b.1
theorem cpy_0 (f g : dz) (a b : Nat) : va_cpy f g a b 0 = g := by
  funext k
  unfold va_cpy
  rw [if_neg (by omega)]
theorem cpy_step (f g : dz) (a b i : Nat) : upd (va_cpy f g a b i) (b + i) (f (a + i)) = va_cpy f g a b (i + 1) := by
  funext k
  unfold va_cpy
  by_cases h : k = b + i
  · subst h
    rw [upd_eq, if_pos (by omega)]
    congr 1
    omega
  · rw [upd_ne _ _ h]
    by_cases h2 : b ≤ k ∧ k < b + i
    · rw [if_pos h2, if_pos (by omega)]
    · rw [if_neg h2, if_neg (by omega)]
theorem cpy_in {f g : dz} {a b n k : Nat} (h : b ≤ k ∧ k < b + n) : va_cpy f g a b n k = f (a + (k - b)) := by unfold va_cpy; rw [if_pos h]
theorem cpy_out {f g : dz} {a b n k : Nat} (h : ¬ (b ≤ k ∧ k < b + n)) : va_cpy f g a b n k = g k := by unfold va_cpy; rw [if_neg h]
theorem ix5 (a b c : Nat) : nI a * nI b + nI c = nI (a * b + c) := by rw [pk_mul, nI_add]
theorem nI_sub1 {a : Nat} (h : 0 < a) : nI a - nI 1 = nI (a - 1) := by
  have e : nI a = nI (a - 1) + nI 1 := by rw [nI_add]; congr 1; omega
  rw [e, Int32.add_sub_cancel]
/-- the class saves its state -/
theorem c_V_saveState {w : wS} {M : am_M} {K : am_Q} (hr : vr M w) (h : ∀ M', vr M' (w_rec w) → vf M M' → M' 2 = M 2 → (∀ o, o ≠ 0 → o ≠ 16 → M' o = M o) → K (.inl none) M') : am_C mt_V_saveState [.ref 0] M K := by
  obtain ⟨r1, ⟨r2, r2'⟩, r3, r4, r5, r6, r7⟩ := hr
  have tail : ∀ (f : dz) (s : Nat) (M1 : am_M), M1 0 8 = nI s → s < 6 → M1 16 = f → M1 2 = M 2 → (∀ M', M' 2 = M 2 → M' 0 = upd (M1 0) 8 (nI (s + 1)) → M' 16 = va_cpy (M 2) f 0 (s * 105) 105 → (∀ o, o ≠ 0 → o ≠ 16 → M' o = M1 o) → K (.inl none) M') → am_R am_S0 mt_V_saveState 1 42 [.ref 0] [] M1 K := by
    intro f s M1 e1 hs e2 e3 hh
    refine g_V_saveState_42 ⟨0, s * 105, 105, rfl, ?_, rfl, by decide, by show _ ≤ 630; omega, hh _ ?_ ?_ ?_ ?_⟩
    · show M1 0 8 * nI 105 = _
      rw [e1, pk_mul]
    · exact e3
    · show upd (M1 0) 8 (M1 0 8 + nI 1) = _
      rw [e1, nI_add]
    · show va_cpy (M1 2) (M1 16) 0 (s * 105) 105 = _
      rw [e2, e3]
    · intro o h1 h2
      rw [am_so _ _ h1, am_so _ _ h2]
  have fin : ∀ (f : dz) (M' : am_M), (w_s w = 6 → ∀ k, k < 525 → f k = M 16 (105 + k)) → (w_s w ≠ 6 → f = M 16) → M' 2 = M 2 → M' 0 8 = nI (w_at w + 1) → M' 16 = va_cpy (M 2) f 0 (w_at w * 105) 105 → (∀ o, o ≠ 0 → o ≠ 16 → M' o = M o) → K (.inl none) M' := by
    intro f M' f1 f2 g1 g3 g4 g5
    refine h M' ⟨?_, ⟨g3, ?_⟩, ?_, ?_, ?_, ⟨?_, r6.2⟩, ?_⟩ (fun o ho => g5 o (by omega) (by omega)) g1 g5
    · rw [g1]; exact r1
    · show w_at w + 1 ≤ 6
      unfold w_at
      split <;> omega
    · intro j hj k hk
      have hj' : j < w_at w + 1 := hj
      show M' 16 (105 * j + k) = (if j = w_at w then w_z w else if w_s w = 6 then w_sv w (j + 1) else w_sv w j) (pz k)
      rw [g4]
      by_cases c : j = w_at w
      · rw [if_pos c, cpy_in (by rw [c]; omega), r1]
        show w_z w (pz (0 + (105 * j + k - w_at w * 105))) = _
        congr 2
        omega
      · rw [if_neg c, cpy_out (by omega)]
        unfold w_at at hj' c
        by_cases c6 : w_s w = 6
        · rw [if_pos c6] at hj' c
          rw [if_pos c6, f1 c6 _ (by omega), ← r3 (j + 1) (by omega) k hk]
          congr 1
          omega
        · rw [if_neg c6] at hj' c
          rw [if_neg c6, f2 c6, r3 j (by omega) k hk]
    · rw [g5 15 (by decide) (by decide)]; exact r4
    · rw [g5 14 (by decide) (by decide)]; exact r5
    · rw [g5 9 (by decide) (by decide)]; exact r6.1
    · rw [g5 10 (by decide) (by decide)]; exact r7
  have lo : w_s w ≠ 6 → am_R am_S0 mt_V_saveState 1 42 [.ref 0] [] M K := by
    intro c6
    have ea : w_at w = w_s w := by unfold w_at; rw [if_neg c6]
    refine tail (M 16) (w_at w) M (by rw [ea]; exact r2) (by omega) rfl rfl (fun M' a1 a2 a3 a4 => fin (M 16) M' (fun q => absurd q c6) (fun _ => rfl) a1 ?_ a3 a4)
    rw [a2, upd_eq]
  have hi : w_s w = 6 → am_R am_S0 mt_V_saveState 1 16 [.ref 0] [] M K := by
    intro c6
    have ea : w_at w = 5 := by unfold w_at; rw [if_pos c6]
    refine g_V_saveState_16 ⟨105, 0, 525, rfl, rfl, rfl, by decide, by decide, ?_⟩
    refine tail (va_cpy (M 16) (M 16) 105 0 525) 5 (am_set (am_set M 0 (upd (M 0) 8 (nI 5))) 16 (va_cpy (M 16) (M 16) 105 0 525)) ?_ (by decide) rfl rfl (fun M' a1 a2 a3 a4 => fin (va_cpy (M 16) (M 16) 105 0 525) M' (fun _ k hk => ?_) (fun q => absurd c6 q) a1 ?_ ?_ ?_)
    · show upd (M 0) 8 (nI 5) 8 = nI 5
      rw [upd_eq]
    · rw [cpy_in (by omega)]; rfl
    · rw [a2, upd_eq, ea]
    · rw [ea]; exact a3
    · intro o h1 h2
      rw [a4 o h1 h2, am_so _ _ h2, am_so _ _ h1]
  refine am_C_of_R am_S0 om_V_saveState rfl [.ref 0] rfl rfl (g_V_saveState_0 ⟨fun c => ?_, fun c => ⟨fun c => lo ?_, fun c => hi ?_⟩⟩)
  · have c' : M 0 8 < 0 := c
    rw [r2] at c'
    exact absurd c' (nI_pos (by omega))
  · have c' : M 0 8 < nI 6 := c
    rw [r2] at c'
    have := (nI_lti (by omega) (by decide)).mp c'
    omega
  · have c' : nI 6 ≤ M 0 8 := Int32.not_lt.mp c
    rw [r2] at c'
    have : ¬ w_s w < 6 := fun q => absurd c' (i_nge q (by decide))
    omega
end
section
/-! calls: what each gives (a code of the throw, an answer, what is held behind it), and that both sides give it -/
abbrev isv (p : Int32) : Prop := nI 0 ≤ p ∧ p ≤ nI 4
abbrev isd (p : Int32) : Prop := nI 0 ≤ p ∧ p ≤ nI 2
abbrev isr (p : Int32) (a b : Nat) : Prop := nI a ≤ p ∧ p ≤ nI b
abbrev mS : Type := Nat × Int32 × wS
/-- the outcome in the class: o says which exception the first code is -/
def oV (o th : Nat) (r : Int32) : am_O := if th = 0 then .inl (some (.int r)) else .inr (am_ex (th - 1 + o))
theorem ib_y {p : Prop} [Decidable p] (h : ¬ ib p = 0) : p := Classical.not_not.mp fun z => h (ib_eq0.mpr z)
theorem ib_n {p : Prop} [Decidable p] (h : ib p = 0) : ¬ p := ib_eq0.mp h
theorem ib_nn {p : Prop} [Decidable p] (h : ¬ ¬ ib p = 0) : ¬ p := ib_eq0.mp (Classical.not_not.mp h)
theorem isr_nat {p : Int32} {a b : Nat} (h : isr p a b) (ha : a < 2 ^ 31) (hb : b < 2 ^ 31) : ∃ v, a ≤ v ∧ v ≤ b ∧ p = nI v := by
  have h1 := Int32.le_iff_toInt_le.mp h.1
  have h2 := Int32.le_iff_toInt_le.mp h.2
  rw [nI_toInt hb] at h2
  rw [nI_toInt ha] at h1
  refine ⟨p.toInt.toNat, by omega, by omega, ti_ext ?_⟩
  rw [nI_toInt (by omega)]
  omega
theorem isr_iff {v a b : Nat} (hv : v < 2 ^ 31) (ha : a < 2 ^ 31) (hb : b < 2 ^ 31) : isr (nI v) a b ↔ a ≤ v ∧ v ≤ b := by
  unfold isr
  rw [Int32.le_iff_toInt_le, Int32.le_iff_toInt_le, nI_toInt hv, nI_toInt ha, nI_toInt hb]
  omega
theorem lt_n1 {p : Int32} {n : Nat} (hn : n + 1 < 2 ^ 31) : p < nI (n + 1) ↔ p ≤ nI n := by
  rw [Int32.lt_iff_toInt_lt, Int32.le_iff_toInt_le, nI_toInt hn, nI_toInt (by omega)]
  omega
theorem c_V_requireVat {p : Int32} {M : am_M} {K : am_Q} (h1 : isv p → K (.inl none) M) (h2 : ¬ isv p → K (.inr (am_ex 0)) M) : am_C mt_V_requireVat [.int p] M K :=
  am_C_of_R am_S0 om_V_requireVat rfl [.int p] rfl rfl (g_V_requireVat_0 ⟨fun c => g_V_requireVat_9 (h2 fun q => Int32.not_le.mpr c q.1), fun c => ⟨fun c2 => g_V_requireVat_19 (h1 ⟨Int32.not_lt.mp c, (lt_n1 (by decide)).mp c2⟩), fun c2 => g_V_requireVat_9 (h2 fun q => c2 ((lt_n1 (by decide)).mpr q.2))⟩⟩)
theorem c_V_requireDye {p : Int32} {M : am_M} {K : am_Q} (h1 : isd p → K (.inl none) M) (h2 : ¬ isd p → K (.inr (am_ex 0)) M) : am_C mt_V_requireDye [.int p] M K :=
  am_C_of_R am_S0 om_V_requireDye rfl [.int p] rfl rfl (g_V_requireDye_0 ⟨fun c => g_V_requireDye_9 (h2 fun q => Int32.not_le.mpr c q.1), fun c => ⟨fun c2 => g_V_requireDye_19 (h1 ⟨Int32.not_lt.mp c, (lt_n1 (by decide)).mp c2⟩), fun c2 => g_V_requireDye_9 (h2 fun q => c2 ((lt_n1 (by decide)).mpr q.2))⟩⟩)
theorem c_V_requireRange {p a b : Int32} {M : am_M} {K : am_Q} (h1 : a ≤ p ∧ p ≤ b → K (.inl none) M) (h2 : ¬ (a ≤ p ∧ p ≤ b) → K (.inr (am_ex 1)) M) : am_C mt_V_requireRange [.int p, .int a, .int b] M K :=
  am_C_of_R am_S0 om_V_requireRange rfl [.int p, .int a, .int b] rfl rfl (g_V_requireRange_0 ⟨fun c => g_V_requireRange_10 (h2 fun q => Int32.not_le.mpr c q.1), fun c => ⟨fun c2 => g_V_requireRange_20 (h1 ⟨Int32.not_lt.mp c, c2⟩), fun c2 => g_V_requireRange_10 (h2 fun q => c2 q.2)⟩⟩)
theorem c_V_refuse {w : wS} {M : am_M} {K : am_Q} (hr : vr M w) (h : ∀ M', vr M' (w_setz w (zadd (w_z w) 4 (nI 1))) → vf M M' → K (.inl (some (.int (-nI 1)))) M') : am_C mt_V_refuse [.ref 0] M K := by
  refine am_C_of_R am_S0 om_V_refuse rfl [.ref 0] rfl rfl (g_V_refuse_0 ⟨55, rfl, by decide, 55, rfl, by decide, h _ ?_ (vf_set (vf_refl M) (by decide))⟩)
  have e : upd (M 2) 55 (M 2 55 + nI 1) = zp (zadd (w_z w) 4 (nI 1)) := by rw [hr.1]; exact zp_add (w_z w) 55 (nI 1)
  show vr (am_set M 2 (upd (M 2) 55 (M 2 55 + nI 1))) _
  rw [e]
  exact vr_setz hr
def zpk (z : dz) : Prop := ∃ m : Nat → Nat, (∀ v, v < 5 → z (6 + v) = nI (m v) ∧ m v < 32 ∧ (m v).testBit v = false) ∧ ∀ v, v < 5 → ∀ u, u < 5 → (m v).testBit u = (m u).testBit v
/-- a state that calls can come to -/
def zko (n : Nat) (z : dz) : Prop := zok z ∧ (z 3).toInt ≤ 2000 * n ∧ (0 ≤ (z 0).toInt ∧ (z 0).toInt ≤ 99999) ∧ zpk z
def wk (n : Nat) (w : wS) : Prop := zko n (w_z w) ∧ (∀ j, j < w_s w → zko n (w_sv w j)) ∧ (∀ j, j < 2 → w_kp w j = true → zko n (w_sl w j)) ∧ w_s w ≤ 6 ∧ w_ln w ≤ 60 ∧ ∀ k, k < w_ln w → ∃ c, 33 ≤ c ∧ c ≤ 126 ∧ w_tx w k = nI c
theorem zko_le {n m : Nat} {z : dz} (h : zko n z) (hm : n ≤ m) : zko m z := ⟨h.1, by have := h.2.1; omega, h.2.2⟩
theorem wk_le {n m : Nat} {w : wS} (h : wk n w) (hm : n ≤ m) : wk m w := ⟨zko_le h.1 hm, fun j hj => zko_le (h.2.1 j hj) hm, fun j hj hk => zko_le (h.2.2.1 j hj hk) hm, h.2.2.2⟩
theorem wk_rec {n : Nat} {w : wS} (h : wk n w) : wk n (w_rec w) := by
  obtain ⟨h1, h2, h3, h4, h5⟩ := h
  refine ⟨h1, ?_, h3, ?_, h5⟩
  · intro j hj
    have hj' : j < w_at w + 1 := hj
    show zko n (if j = w_at w then w_z w else if w_s w = 6 then w_sv w (j + 1) else w_sv w j)
    by_cases c : j = w_at w
    · rw [if_pos c]; exact h1
    · rw [if_neg c]
      unfold w_at at hj' c
      by_cases c6 : w_s w = 6
      · rw [if_pos c6] at hj' c ⊢
        exact h2 _ (by omega)
      · rw [if_neg c6] at hj' c ⊢
        exact h2 _ (by omega)
  · show w_at w + 1 ≤ 6
    unfold w_at
    split <;> omega
theorem wk_setz {n : Nat} {w : wS} {z : dz} (h : wk n w) (hz : zko n z) : wk n (w_setz w z) := ⟨hz, h.2⟩
def m_fill (p q : Int32) (w : wS) : mS :=
  if isv p then (if isr q 1 2000 then (if w_z w (17 + 8 * zn p) < w_z w (18 + 8 * zn p) + q then (0, -nI 1, w_setz (w_rec w) (zadd (w_z w) 4 (nI 1))) else (0, w_z w (18 + 8 * zn p) + q, w_setz (w_rec w) (zadd (zadd (w_z w) (18 + 8 * zn p) q) 3 q))) else (2, nI 0, w)) else (1, nI 0, w)
theorem c_V_fill {n : Nat} {p q : Int32} {w : wS} {M : am_M} {K : am_Q} (hr : vr M w) (hk : wk n w) (h : ∀ M', vr M' (m_fill p q w).2.2 → vf M M' → K (oV 0 (m_fill p q w).1 (m_fill p q w).2.1) M') : am_C mt_V_fill [.ref 0, .int p, .int q] M K := by
  unfold m_fill at h
  refine am_C_of_R am_S0 om_V_fill rfl [.ref 0, .int p, .int q] rfl rfl (g_V_fill_0 (c_V_requireVat (fun hv => c_V_requireRange (fun hq => ?_) (fun hq => ?_)) (fun hv => ?_)))
  · have hq' : isr q 1 2000 := hq
    rw [if_pos hv, if_pos hq'] at h
    obtain ⟨v, -, hv4, rfl⟩ := isr_nat hv (by decide) (by decide)
    rw [zn_nI (by omega)] at h
    refine c_V_saveState hr (fun M' r1 r2 r3 _ => ?_)
    obtain ⟨b1, b2, b3⟩ := hk.1.1.1 v (by omega)
    have q1 := Int32.le_iff_toInt_le.mp hq'.1
    have q2 := Int32.le_iff_toInt_le.mp hq'.2
    rw [nI_toInt (by decide)] at q1 q2
    have ez : M' 2 = zp (w_z w) := r1.1
    have ec : M' 2 (0 + v) = w_z w (17 + 8 * v) := by rw [ez, Nat.zero_add]; unfold zp; rw [pz_c (by omega)]
    have ew : M' 2 (10 + v) = w_z w (18 + 8 * v) := by rw [ez]; unfold zp; rw [pz_w (by omega)]
    have t1 := ti_sub (a := w_z w (17 + 8 * v)) (b := w_z w (18 + 8 * v)) (by omega) (by omega)
    have t2 := ti_add (a := w_z w (18 + 8 * v)) (b := q) (by omega) (by omega)
    refine ⟨0 + v, ix2 0 v, by show _ < 105; omega, 10 + v, ix2 10 v, by show _ < 105; omega, fun c => ?_, fun c => ?_⟩
    · have c5 : ¬ w_z w (17 + 8 * v) < w_z w (18 + 8 * v) + q := by
        rw [← ec, ← ew]
        intro c6
        have c7 := Int32.le_iff_toInt_le.mp (show q ≤ M' 2 (0 + v) - M' 2 (10 + v) from c)
        have c8 := ti_lt.mp c6
        rw [ec, ew] at c7 c8
        omega
      rw [if_neg c5] at h
      refine g_V_fill_49 ⟨10 + v, ix2 10 v, by show _ < 105; omega, 10 + v, ix2 10 v, by show _ < 105; omega, 53, rfl, by decide, 53, rfl, by decide, 10 + v, ix2 10 v, by show _ < 105; omega, ?_⟩
      simp only [am_set_set]
      have e : upd (upd (M' 2) (10 + v) (M' 2 (10 + v) + q)) 53 (upd (M' 2) (10 + v) (M' 2 (10 + v) + q) 53 + q) = zp (zadd (zadd (w_z w) (18 + 8 * v) q) 3 q) := by
        rw [ez, zp_add, pz_w (by omega)]
        exact zp_add _ 53 q
      have e2 : upd (upd (M' 2) (10 + v) (M' 2 (10 + v) + q)) 53 (upd (M' 2) (10 + v) (M' 2 (10 + v) + q) 53 + q) (10 + v) = w_z w (18 + 8 * v) + q := by
        rw [upd_ne _ _ (by omega), upd_eq, ew]
      rw [← e2] at h
      refine h _ ?_ (vf_set r2 (by decide))
      show vr (am_set M' 2 (upd (upd (M' 2) (10 + v) (M' 2 (10 + v) + q)) 53 (upd (M' 2) (10 + v) (M' 2 (10 + v) + q) 53 + q))) _
      rw [e]
      exact vr_setz r1
    · have c5 : w_z w (17 + 8 * v) < w_z w (18 + 8 * v) + q := by
        rw [← ec, ← ew]
        refine ti_lt.mpr ?_
        have c7 : ¬ q ≤ M' 2 (0 + v) - M' 2 (10 + v) := c
        rw [Int32.le_iff_toInt_le] at c7
        rw [ec, ew] at c7 ⊢
        omega
      rw [if_pos c5] at h
      exact c_V_refuse r1 (fun M2 s1 s2 => h M2 s1 (vf_trans r2 s2))
  · have hq' : ¬ isr q 1 2000 := hq
    rw [if_pos hv, if_neg hq'] at h
    exact h M hr (vf_refl M)
  · rw [if_neg hv] at h
    exact h M hr (vf_refl M)
end
section
/-! calls: dye, capacity, set -/
def m_dye (p d q : Int32) (w : wS) : mS :=
  if isv p ∧ isd d then (if isr q 1 999 then (if nI 99999 < w_z w (11 + zn d) + q then (3, nI 0, w) else if w_z w (18 + 8 * zn p) = 0 then (0, -nI 1, w_setz (w_rec w) (zadd (w_z w) 4 (nI 1))) else (0, w_z w (19 + 8 * zn p + zn d) + q, w_setz (w_rec w) (zadd (zadd (w_z w) (19 + 8 * zn p + zn d) q) (11 + zn d) q))) else (2, nI 0, w)) else (1, nI 0, w)
theorem c_V_dye {p d q : Int32} {w : wS} {M : am_M} {K : am_Q} (hr : vr M w) (h : ∀ M', vr M' (m_dye p d q w).2.2 → vf M M' → K (oV 0 (m_dye p d q w).1 (m_dye p d q w).2.1) M') : am_C mt_V_dye [.ref 0, .int p, .int d, .int q] M K := by
  unfold m_dye at h
  refine am_C_of_R am_S0 om_V_dye rfl [.ref 0, .int p, .int d, .int q, .null] rfl rfl (g_V_dye_0 (c_V_requireVat (fun hv => c_V_requireDye (fun hd => c_V_requireRange (fun hq => ?_) (fun hq => ?_)) (fun hd => ?_)) (fun hv => ?_)))
  · have hq' : isr q 1 999 := hq
    rw [if_pos ⟨hv, hd⟩, if_pos hq'] at h
    obtain ⟨v, -, hv4, rfl⟩ := isr_nat (a := 0) (b := 4) hv (by decide) (by decide)
    obtain ⟨e, -, hd2, rfl⟩ := isr_nat (a := 0) (b := 2) hd (by decide) (by decide)
    rw [zn_nI (show v < 2 ^ 31 by omega), zn_nI (show e < 2 ^ 31 by omega)] at h
    have ei : M 2 (45 + e) = w_z w (11 + e) := by rw [hr.1]; unfold zp; rw [pz_i (by omega)]
    refine ⟨45 + e, ix2 45 e, by show _ < 105; omega, fun c => ?_, fun c => ?_⟩
    · have c2 : ¬ nI 99999 < w_z w (11 + e) + q := by rw [← ei]; exact Int32.not_lt.mpr c
      rw [if_neg c2] at h
      refine g_V_dye_45 (c_V_saveState hr (fun M' r1 r2 r3 _ => ?_))
      have ez : M' 2 = zp (w_z w) := r1.1
      have ew : M' 2 (10 + v) = w_z w (18 + 8 * v) := by rw [ez]; unfold zp; rw [pz_w (by omega)]
      have eg : M' 2 (15 + v * 3 + e) = w_z w (19 + 8 * v + e) := by rw [ez]; unfold zp; rw [pz_d (by omega) (by omega)]
      refine ⟨10 + v, ix2 10 v, by show _ < 105; omega, fun c3 => ?_, fun c3 => ?_⟩
      · have c4 : ¬ w_z w (18 + 8 * v) = 0 := by rw [← ew]; exact c3
        rw [if_neg c4] at h
        refine g_V_dye_69 ⟨15 + v * 3 + e, ix4' 15 3 v e, by show _ < 105; omega, 15 + v * 3 + e, ix4' 15 3 v e, by show _ < 105; omega, 45 + e, ix2 45 e, by show _ < 105; omega, 45 + e, ix2 45 e, by show _ < 105; omega, 15 + v * 3 + e, ix4' 15 3 v e, by show _ < 105; omega, ?_⟩
        simp only [am_set_set]
        have e1 : upd (upd (M' 2) (15 + v * 3 + e) (M' 2 (15 + v * 3 + e) + q)) (45 + e) (upd (M' 2) (15 + v * 3 + e) (M' 2 (15 + v * 3 + e) + q) (45 + e) + q) = zp (zadd (zadd (w_z w) (19 + 8 * v + e) q) (11 + e) q) := by
          rw [ez, zp_add, zp_add, pz_d (by omega) (by omega), pz_i (by omega)]
        have e2 : upd (upd (M' 2) (15 + v * 3 + e) (M' 2 (15 + v * 3 + e) + q)) (45 + e) (upd (M' 2) (15 + v * 3 + e) (M' 2 (15 + v * 3 + e) + q) (45 + e) + q) (15 + v * 3 + e) = w_z w (19 + 8 * v + e) + q := by
          rw [upd_ne _ _ (by omega), upd_eq, eg]
        rw [← e2] at h
        refine h _ ?_ (vf_set r2 (by decide))
        show vr (am_set M' 2 (upd (upd (M' 2) (15 + v * 3 + e) (M' 2 (15 + v * 3 + e) + q)) (45 + e) (upd (M' 2) (15 + v * 3 + e) (M' 2 (15 + v * 3 + e) + q) (45 + e) + q))) _
        rw [e1]
        exact vr_setz r1
      · have c4 : w_z w (18 + 8 * v) = 0 := by rw [← ew]; exact Classical.not_not.mp c3
        rw [if_pos c4] at h
        exact c_V_refuse r1 (fun M2 s1 s2 => h M2 s1 (vf_trans r2 s2))
    · have c2 : nI 99999 < w_z w (11 + e) + q := by rw [← ei]; exact Int32.not_le.mp c
      rw [if_pos c2] at h
      exact h M hr (vf_refl M)
  · have hq' : ¬ isr q 1 999 := hq
    rw [if_pos ⟨hv, hd⟩, if_neg hq'] at h
    exact h M hr (vf_refl M)
  · rw [if_neg (fun q => hd q.2)] at h
    exact h M hr (vf_refl M)
  · rw [if_neg (fun q => hv q.1)] at h
    exact h M hr (vf_refl M)
def m_cap (p q : Int32) (w : wS) : mS :=
  if isv p then (if isr q 1 2000 then (if q < w_z w (18 + 8 * zn p) then (0, -nI 1, w_setz (w_rec w) (zadd (w_z w) 4 (nI 1))) else (0, w_z w (17 + 8 * zn p), w_setz (w_rec w) (upd (w_z w) (17 + 8 * zn p) q))) else (2, nI 0, w)) else (1, nI 0, w)
theorem c_V_capacity {p q : Int32} {w : wS} {M : am_M} {K : am_Q} (hr : vr M w) (h : ∀ M', vr M' (m_cap p q w).2.2 → vf M M' → K (oV 0 (m_cap p q w).1 (m_cap p q w).2.1) M') : am_C mt_V_capacity [.ref 0, .int p, .int q] M K := by
  unfold m_cap at h
  refine am_C_of_R am_S0 om_V_capacity rfl [.ref 0, .int p, .int q, .null] rfl rfl (g_V_capacity_0 (c_V_requireVat (fun hv => c_V_requireRange (fun hq => ?_) (fun hq => ?_)) (fun hv => ?_)))
  · have hq' : isr q 1 2000 := hq
    rw [if_pos hv, if_pos hq'] at h
    obtain ⟨v, -, hv4, rfl⟩ := isr_nat (a := 0) (b := 4) hv (by decide) (by decide)
    rw [zn_nI (by omega)] at h
    refine c_V_saveState hr (fun M' r1 r2 r3 _ => ?_)
    have ez : M' 2 = zp (w_z w) := r1.1
    have ec : M' 2 (0 + v) = w_z w (17 + 8 * v) := by rw [ez, Nat.zero_add]; unfold zp; rw [pz_c (by omega)]
    have ew : M' 2 (10 + v) = w_z w (18 + 8 * v) := by rw [ez]; unfold zp; rw [pz_w (by omega)]
    refine ⟨10 + v, ix2 10 v, by show _ < 105; omega, fun c => ?_, fun c => ?_⟩
    · have c5 : ¬ q < w_z w (18 + 8 * v) := by rw [← ew]; exact Int32.not_lt.mpr c
      rw [if_neg c5] at h
      refine g_V_capacity_37 ⟨0 + v, ix2 0 v, by show _ < 105; omega, 0 + v, ix2 0 v, by show _ < 105; omega, ?_⟩
      have e1 : upd (M' 2) (0 + v) q = zp (upd (w_z w) (17 + 8 * v) q) := by rw [ez, zp_upd, Nat.zero_add, pz_c (by omega)]
      rw [← ec] at h
      refine h _ ?_ (vf_set r2 (by decide))
      show vr (am_set M' 2 (upd (M' 2) (0 + v) q)) _
      rw [e1]
      exact vr_setz r1
    · have c5 : q < w_z w (18 + 8 * v) := by rw [← ew]; exact Int32.not_le.mp c
      rw [if_pos c5] at h
      exact c_V_refuse r1 (fun M2 s1 s2 => h M2 s1 (vf_trans r2 s2))
  · have hq' : ¬ isr q 1 2000 := hq
    rw [if_pos hv, if_neg hq'] at h
    exact h M hr (vf_refl M)
  · rw [if_neg hv] at h
    exact h M hr (vf_refl M)
def m_set (p : Int32) (w : wS) : mS :=
  if isr p 0 200 then (0, w_z w 1, w_setz (w_rec w) (upd (w_z w) 1 p)) else (1, nI 0, w)
theorem c_V_set {p : Int32} {w : wS} {M : am_M} {K : am_Q} (hr : vr M w) (h : ∀ M', vr M' (m_set p w).2.2 → vf M M' → K (oV 1 (m_set p w).1 (m_set p w).2.1) M') : am_C mt_V_set [.ref 0, .int p] M K := by
  unfold m_set at h
  refine am_C_of_R am_S0 om_V_set rfl [.ref 0, .int p, .null] rfl rfl (g_V_set_0 (c_V_requireRange (fun hq => ?_) (fun hq => ?_)))
  · have hq' : isr p 0 200 := hq
    rw [if_pos hq'] at h
    refine c_V_saveState hr (fun M' r1 r2 r3 _ => ?_)
    have ez : M' 2 = zp (w_z w) := r1.1
    have es : M' 2 51 = w_z w 1 := by rw [ez]; rfl
    refine ⟨51, rfl, by decide, 51, rfl, by decide, ?_⟩
    have e1 : upd (M' 2) 51 p = zp (upd (w_z w) 1 p) := by rw [ez]; exact zp_upd _ 51 p
    rw [← es] at h
    refine h _ ?_ (vf_set r2 (by decide))
    show vr (am_set M' 2 (upd (M' 2) 51 p)) _
    rw [e1]
    exact vr_setz r1
  · have hq' : ¬ isr p 0 200 := hq
    rw [if_neg hq'] at h
    exact h M hr (vf_refl M)
end
section
/-! calls: pass, undo, keep, goBack, append, clearBuffer -/
theorem thr_pos (M : am_M) {t : Nat} (h1 : 1 ≤ t) (h2 : t ≤ 3) : ¬ upd (M 17) 0 (nI t) 0 ≤ nI 0 := by
  rw [upd_eq]
  exact i_nge (by omega) (by omega)
theorem thr_0 (M : am_M) : upd (M 17) 0 (nI 0) 0 ≤ nI 0 := by rw [upd_eq]; decide +kernel
theorem pz_lt_iff {k : Nat} : pz k < 105 ↔ k < 105 := by
  refine ⟨fun h => ?_, pz_lt⟩
  by_cases c : k < 105
  · exact c
  · rw [pz_hi (by omega)] at h
    exact h
theorem cpy_zcp {f x z : dz} {a : Nat} (h : ∀ k, k < 105 → f (a + k) = x k) : va_cpy f z a 0 105 = zcp x z := by
  funext k
  unfold zcp
  by_cases c : k < 105
  · rw [cpy_in (by omega), if_pos c, Nat.sub_zero, h k c]
  · rw [cpy_out (by omega), if_neg c]
theorem cpy_zp {f x z : dz} {a : Nat} (h : ∀ k, k < 105 → f (a + k) = x (pz k)) : va_cpy f (zp z) a 0 105 = zp (zcp x z) := by
  funext k
  show _ = zcp x z (pz k)
  unfold zcp
  by_cases c : k < 105
  · rw [cpy_in (by omega), if_pos (pz_lt c), Nat.sub_zero, h k c]
  · rw [cpy_out (by omega), if_neg (fun q => c (pz_lt_iff.mp q))]
    rfl
noncomputable def m_pass (p : Int32) (w : wS) : mS :=
  if isr p 1 240 then (if nI 99999 < w_z w 0 + p then (2, nI 0, w) else (0, zhours (w_z w) (zn p) 2 - w_z w 2, w_setz (w_rec w) (zhours (w_z w) (zn p)))) else (1, nI 0, w)
theorem c_V_pass {n : Nat} {p : Int32} {w : wS} {M : am_M} {K : am_Q} (hr : vr M w) (hk : wk n w) (h : ∀ M', vr M' (m_pass p w).2.2 → vf M M' → K (oV 1 (m_pass p w).1 (m_pass p w).2.1) M') : am_C mt_V_pass [.ref 0, .int p] M K := by
  unfold m_pass at h
  have e0 : M 2 52 = w_z w 0 := by rw [hr.1]; rfl
  refine am_C_of_R am_S0 om_V_pass rfl [.ref 0, .int p, .null] rfl rfl (g_V_pass_0 (c_V_requireRange (fun hq => ?_) (fun hq => ?_)))
  · have hq' : isr p 1 240 := hq
    rw [if_pos hq'] at h
    refine ⟨52, rfl, by decide, fun c => ?_, fun c => ?_⟩
    · have hq2 : ¬ nI 99999 < w_z w 0 + p := by rw [← e0]; exact Int32.not_lt.mpr c
      obtain ⟨v, hv1, hv2, rfl⟩ := isr_nat hq' (by decide) (by decide)
      rw [if_neg hq2, zn_nI (by omega)] at h
      refine g_V_pass_35 (c_V_saveState hr (fun M' r1 r2 r3 _ => ?_))
      have ez : M' 2 = zp (w_z w) := r1.1
      have e2 : M' 2 54 = w_z w 2 := by rw [ez]; rfl
      refine ⟨54, rfl, by decide, c_S_runHours_1 ez hk.1.1 (by omega) ⟨54, rfl, by decide, ?_⟩⟩
      rw [← e2] at h
      exact h _ (vr_setz r1) (vf_set r2 (by decide))
    · have hq2 : nI 99999 < w_z w 0 + p := by rw [← e0]; exact Int32.not_le.mp c
      rw [if_pos hq2] at h
      exact h M hr (vf_refl M)
  · have hq' : ¬ isr p 1 240 := hq
    rw [if_neg hq'] at h
    exact h M hr (vf_refl M)
def m_undo (w : wS) : mS := if w_s w = 0 then (1, nI 0, w) else (0, nI (w_s w - 1), (zcp (w_sv w (w_s w - 1)) (w_z w), w_s w - 1, w.2.2))
theorem c_V_undo {w : wS} {M : am_M} {K : am_Q} (hr : vr M w) (h : ∀ M', vr M' (m_undo w).2.2 → vf M M' → K (oV 2 (m_undo w).1 (m_undo w).2.1) M') : am_C mt_V_undo [.ref 0] M K := by
  obtain ⟨r1, ⟨r2, r2'⟩, r3, r4, r5, r6, r7⟩ := hr
  unfold m_undo at h
  have bad : ¬ (w_s w ≠ 0) → am_R am_S0 mt_V_undo 1 16 [.ref 0] [] M K := by
    intro hs
    rw [if_pos (Classical.not_not.mp hs)] at h
    exact g_V_undo_16 (h M ⟨r1, ⟨r2, r2'⟩, r3, r4, r5, r6, r7⟩ (vf_refl M))
  refine am_C_of_R am_S0 om_V_undo rfl [.ref 0] rfl rfl (g_V_undo_0 ⟨fun c => bad ?_, fun c => ⟨fun c2 => ?_, fun c2 => ?_⟩⟩)
  · have c' : M 0 8 ≤ nI 0 := c
    intro hs
    rw [r2] at c'
    exact absurd c' (i_nge (by omega) (by omega))
  · have c' : ¬ M 0 8 ≤ nI 0 := c
    have hs : w_s w ≠ 0 := fun q => c' (by rw [r2, q]; decide +kernel)
    rw [if_neg hs] at h
    obtain ⟨s, hs1, hs2⟩ : ∃ s, w_s w = s + 1 ∧ s < 6 := ⟨w_s w - 1, by omega, by omega⟩
    rw [hs1, Nat.add_sub_cancel] at h
    have e8 : M 0 8 - nI 1 = nI s := by rw [r2, hs1, nI_sub1 (by omega), Nat.add_sub_cancel]
    refine g_V_undo_26 ⟨s * 105, 0, 105, ?_, rfl, rfl, by show _ ≤ 630; omega, by decide, ?_⟩
    · show upd (M 0) 8 (M 0 8 - nI 1) 8 * nI 105 = _
      rw [upd_eq, e8, pk_mul]
    · have e9 : upd (M 0) 8 (M 0 8 - nI 1) 8 = nI s := by rw [upd_eq, e8]
      rw [← e9] at h
      refine h _ ⟨?_, ⟨e9, ?_⟩, ?_, r4, r5, r6, r7⟩ ?_
      · show va_cpy (M 16) (M 2) (s * 105) 0 105 = zp (zcp _ _)
        rw [r1, cpy_zp (x := w_sv w s) (fun k hk => by rw [Nat.mul_comm]; exact r3 s (by omega) k hk)]
      · show s ≤ 6
        omega
      · intro j hj k hk
        have hj' : j < s := hj
        exact r3 j (by omega) k hk
      · intro o ho
        rw [am_so _ _ (show o ≠ 2 by omega), am_so _ _ (show o ≠ 0 by omega)]
  · have c' : ¬ M 0 8 ≤ nI 6 := c2
    rw [r2] at c'
    exact absurd (i_le r2' (by decide)) c'
def m_keep (p : Int32) (w : wS) : mS :=
  if isr p 0 1 then (0, zhod (w_z w), (w_z w, w_s w, w_sv w, (fun j => if j = zn p then w_z w else w_sl w j), (fun j => if j = zn p then true else w_kp w j), w_tx w, w_ln w)) else (1, nI 0, w)
theorem c_V_keep {p : Int32} {w : wS} {M : am_M} {K : am_Q} (hr : vr M w) (h : ∀ M', vr M' (m_keep p w).2.2 → vf M M' → K (oV 1 (m_keep p w).1 (m_keep p w).2.1) M') : am_C mt_V_keep [.ref 0, .int p] M K := by
  unfold m_keep at h
  refine am_C_of_R am_S0 om_V_keep rfl [.ref 0, .int p] rfl rfl (g_V_keep_0 (c_V_requireRange (fun hq => ?_) (fun hq => ?_)))
  · have hq' : isr p 0 1 := hq
    rw [if_pos hq'] at h
    obtain ⟨s, -, hs, rfl⟩ := isr_nat hq' (by decide) (by decide)
    rw [zn_nI (by omega)] at h
    obtain ⟨r1, r2, r3, r4, r5, r6, r7⟩ := hr
    refine ⟨0, s * 105, 105, rfl, pk_mul s 105, rfl, by decide, by show _ ≤ 210; omega, Or.inr rfl, s, rfl, by show _ < 2; omega, c_S_hourOfDay_1 (z := w_z w) r1 ?_⟩
    refine h _ ⟨r1, r2, r3, ?_, ?_, r6, r7⟩ (vf_set (vf_set (vf_refl M) (by decide)) (by decide))
    · intro j hj
      show upd (M 15) s (nI 1) j = ib ((if j = s then true else w_kp w j) = true)
      by_cases c3 : j = s
      · rw [upd_eq' _ _ c3, ib_t (by rw [if_pos c3])]
      · rw [upd_ne _ _ c3, r4 j hj]
        exact ib_cond (by rw [if_neg c3])
    · intro j hj hkp k hk
      have hkp' : (if j = s then true else w_kp w j) = true := hkp
      show va_cpy (M 2) (M 14) 0 (s * 105) 105 (105 * j + k) = (if j = s then w_z w else w_sl w j) (pz k)
      by_cases c3 : j = s
      · rw [if_pos c3, cpy_in (by rw [c3]; omega), r1]
        show w_z w (pz _) = _
        congr 2
        rw [c3]
        omega
      · rw [if_neg c3] at hkp' ⊢
        rw [cpy_out (by omega)]
        exact r5 j hj hkp' k hk
  · have hq' : ¬ isr p 0 1 := hq
    rw [if_neg hq'] at h
    exact h M hr (vf_refl M)
def m_back (p : Int32) (w : wS) : mS :=
  if isr p 0 1 then (if w_kp w (zn p) = true then (0, zhod (zcp (w_sl w (zn p)) (w_z w)), w_setz (w_rec w) (zcp (w_sl w (zn p)) (w_z w))) else (2, nI 0, w)) else (1, nI 0, w)
theorem c_V_goBack {p : Int32} {w : wS} {M : am_M} {K : am_Q} (hr : vr M w) (h : ∀ M', vr M' (m_back p w).2.2 → vf M M' → K (oV 1 (m_back p w).1 (m_back p w).2.1) M') : am_C mt_V_goBack [.ref 0, .int p] M K := by
  unfold m_back at h
  refine am_C_of_R am_S0 om_V_goBack rfl [.ref 0, .int p] rfl rfl (g_V_goBack_0 (c_V_requireRange (fun hq => ?_) (fun hq => ?_)))
  · have hq' : isr p 0 1 := hq
    rw [if_pos hq'] at h
    obtain ⟨s, -, hs, rfl⟩ := isr_nat hq' (by decide) (by decide)
    rw [zn_nI (by omega)] at h
    have e22 : M 15 s = ib (w_kp w s = true) := hr.2.2.2.1 s (by omega)
    refine ⟨s, rfl, by show _ < 2; omega, fun c2 => ?_, fun c2 => ?_⟩
    · have hk : w_kp w s = true := by
        have c3 : ¬ M 15 s = 0 := c2
        rw [e22] at c3
        exact ib_y c3
      rw [if_pos hk] at h
      refine g_V_goBack_25 (c_V_saveState hr (fun M' r1 r2 r3 _ => ?_))
      have f4 : ∀ k, k < 105 → M' 14 (s * 105 + k) = w_sl w s (pz k) := fun k hk' => by rw [Nat.mul_comm]; exact r1.2.2.2.2.1 s (by omega) hk k hk'
      have f3 : M' 2 = zp (w_z w) := r1.1
      refine ⟨s * 105, 0, 105, pk_mul s 105, rfl, rfl, by show _ ≤ 210; omega, by decide, ?_⟩
      rw [f3, cpy_zp f4]
      exact c_S_hourOfDay_1 (z := zcp (w_sl w s) (w_z w)) (am_set_eq ..) (h _ (vr_setz r1) (vf_set r2 (by decide)))
    · have hk : ¬ w_kp w s = true := by
        have c3 : ¬ ¬ M 15 s = 0 := c2
        rw [e22] at c3
        exact ib_nn c3
      rw [if_neg hk] at h
      exact h M hr (vf_refl M)
  · have hq' : ¬ isr p 0 1 := hq
    rw [if_neg hq'] at h
    exact h M hr (vf_refl M)
end
section
/-! calls: append, clearBuffer, pipe, stir -/
def m_app (p : Int32) (w : wS) : mS :=
  if isr p 33 126 then (if w_ln w = 60 then (2, nI 0, w) else (0, nI (w_ln w + 1), (w_z w, w_s w, w_sv w, w_sl w, w_kp w, (fun k => if k = w_ln w then p else w_tx w k), w_ln w + 1))) else (1, nI 0, w)
def w_clr (w : wS) : wS := (w_z w, w_s w, w_sv w, w_sl w, w_kp w, w_tx w, 0)
theorem ti_xor_bit (m : Nat) (v : Nat) (hm : m < 32) (hv : v < 5) : nI m ^^^ (nI 1 <<< (nI v &&& 31)) = nI (m ^^^ (1 <<< v)) := by
  have h5 : v = 0 ∨ v = 1 ∨ v = 2 ∨ v = 3 ∨ v = 4 := by omega
  have key : ∀ m, m < 32 → ∀ v, v < 5 → nI m ^^^ (nI 1 <<< (nI v &&& 31)) = nI (m ^^^ (1 <<< v)) := by decide +kernel
  exact key m hm v hv
def m_pipe (p q : Int32) (w : wS) : mS :=
  if isv p ∧ isv q then (if p = q then (2, nI 0, w) else (0, upd (upd (w_z w) (6 + zn p) (w_z w (6 + zn p) ^^^ (nI 1 <<< (q &&& 31)))) (6 + zn q) (w_z w (6 + zn q) ^^^ (nI 1 <<< (p &&& 31))) (6 + zn p) >>> (q &&& 31) &&& nI 1, w_setz (w_rec w) (upd (upd (w_z w) (6 + zn p) (w_z w (6 + zn p) ^^^ (nI 1 <<< (q &&& 31)))) (6 + zn q) (w_z w (6 + zn q) ^^^ (nI 1 <<< (p &&& 31)))))) else (1, nI 0, w)
theorem and1' (x : Int32) : x &&& nI 1 = nI 0 ∨ x &&& nI 1 = nI 1 := by
  have e : (x &&& nI 1).toBitVec.toNat = x.toBitVec.toNat % 2 := by
    rw [Int32.toBitVec_and, BitVec.toNat_and]
    exact Nat.and_one_is_mod _
  have h2 : x.toBitVec.toNat % 2 = 0 ∨ x.toBitVec.toNat % 2 = 1 := by omega
  rcases h2 with h2 | h2
  · exact Or.inl (Int32.toBitVec_inj.mp (BitVec.eq_of_toNat_eq (e.trans h2)))
  · exact Or.inr (Int32.toBitVec_inj.mp (BitVec.eq_of_toNat_eq (e.trans h2)))
theorem nI01_ne : ¬ nI 0 = nI 1 := by decide +kernel
theorem and1 (x : Int32) : x &&& nI 1 = ib (x &&& nI 1 = nI 1) := by
  rcases and1' x with c | c
  · rw [ib_f (by rw [c]; exact nI01_ne)]; exact c
  · rw [ib_t c]; exact c
def w_pp (z : dz) (v u : Nat) : dz := upd (upd z (6 + v) (z (6 + v) ^^^ (nI 1 <<< (nI u &&& 31)))) (6 + u) (upd z (6 + v) (z (6 + v) ^^^ (nI 1 <<< (nI u &&& 31))) (6 + u) ^^^ (nI 1 <<< (nI v &&& 31)))
theorem w_pp_eq {z : dz} {v u : Nat} (h : u ≠ v) : w_pp z v u = upd (upd z (6 + v) (z (6 + v) ^^^ (nI 1 <<< (nI u &&& 31)))) (6 + u) (z (6 + u) ^^^ (nI 1 <<< (nI v &&& 31))) := by
  unfold w_pp
  rw [upd_ne _ (k := 6 + v) (j := 6 + u) _ (by omega)]
theorem c_V_pipe {p q : Int32} {w : wS} {M : am_M} {K : am_Q} (hr : vr M w) (h : ∀ M', vr M' (m_pipe p q w).2.2 → vf M M' → K (oV 0 (m_pipe p q w).1 (m_pipe p q w).2.1) M') : am_C mt_V_pipe [.ref 0, .int p, .int q] M K := by
  unfold m_pipe at h
  refine am_C_of_R am_S0 om_V_pipe rfl [.ref 0, .int p, .int q] rfl rfl (g_V_pipe_0 (c_V_requireVat (fun hv => c_V_requireVat (fun hd => ⟨fun c => ?_, fun c => ?_⟩) (fun hd => ?_)) (fun hv => ?_)))
  · have hne : ¬ p = q := c
    rw [if_pos ⟨hv, hd⟩, if_neg hne] at h
    obtain ⟨v, -, hv4, rfl⟩ := isr_nat (a := 0) (b := 4) hv (by decide) (by decide)
    obtain ⟨u, -, hu4, rfl⟩ := isr_nat (a := 0) (b := 4) hd (by decide) (by decide)
    rw [zn_nI (show v < 2 ^ 31 by omega), zn_nI (show u < 2 ^ 31 by omega)] at h
    have hvu : u ≠ v := fun z => hne (by rw [z])
    refine g_V_pipe_23 (c_V_saveState hr (fun M' r1 r2 r3 _ => ?_))
    have ez : M' 2 = zp (w_z w) := r1.1
    have e1 : M' 2 (5 + v) = w_z w (6 + v) := by rw [ez]; unfold zp; rw [pz_p (by omega)]
    have e2 : M' 2 (5 + u) = w_z w (6 + u) := by rw [ez]; unfold zp; rw [pz_p (by omega)]
    refine ⟨5 + v, ix2 5 v, by show _ < 105; omega, 5 + v, ix2 5 v, by show _ < 105; omega, 5 + u, ix2 5 u, by show _ < 105; omega, 5 + u, ix2 5 u, by show _ < 105; omega, 5 + v, ix2 5 v, by show _ < 105; omega, ?_⟩
    simp only [am_set_set]
    have e3 : upd (upd (M' 2) (5 + v) (M' 2 (5 + v) ^^^ (nI 1 <<< (nI u &&& 31)))) (5 + u) (upd (M' 2) (5 + v) (M' 2 (5 + v) ^^^ (nI 1 <<< (nI u &&& 31))) (5 + u) ^^^ (nI 1 <<< (nI v &&& 31))) = zp (upd (upd (w_z w) (6 + v) (w_z w (6 + v) ^^^ (nI 1 <<< (nI u &&& 31)))) (6 + u) (w_z w (6 + u) ^^^ (nI 1 <<< (nI v &&& 31)))) := by
      rw [upd_ne _ (k := 5 + v) (j := 5 + u) _ (by omega), e1, e2, ez, zp_upd, zp_upd, pz_p (by omega), pz_p (by omega)]
    have e4 : upd (upd (M' 2) (5 + v) (M' 2 (5 + v) ^^^ (nI 1 <<< (nI u &&& 31)))) (5 + u) (upd (M' 2) (5 + v) (M' 2 (5 + v) ^^^ (nI 1 <<< (nI u &&& 31))) (5 + u) ^^^ (nI 1 <<< (nI v &&& 31))) (5 + v) = upd (upd (w_z w) (6 + v) (w_z w (6 + v) ^^^ (nI 1 <<< (nI u &&& 31)))) (6 + u) (w_z w (6 + u) ^^^ (nI 1 <<< (nI v &&& 31))) (6 + v) := by
      rw [e3]; unfold zp; rw [pz_p (by omega)]
    rw [← e4] at h
    refine h _ ?_ (vf_set r2 (by decide))
    show vr (am_set M' 2 (upd (upd (M' 2) (5 + v) (M' 2 (5 + v) ^^^ (nI 1 <<< (nI u &&& 31)))) (5 + u) (upd (M' 2) (5 + v) (M' 2 (5 + v) ^^^ (nI 1 <<< (nI u &&& 31))) (5 + u) ^^^ (nI 1 <<< (nI v &&& 31))))) _
    rw [e3]
    exact vr_setz r1
  · have hne : p = q := Classical.not_not.mp c
    rw [if_pos ⟨hv, hd⟩, if_pos hne] at h
    exact h M hr (vf_refl M)
  · rw [if_neg (fun q => hd q.2)] at h
    exact h M hr (vf_refl M)
  · rw [if_neg (fun q => hv q.1)] at h
    exact h M hr (vf_refl M)
end
section
/-! calls: close, valve -/
def zdrop (v m : Nat) (z : dz) : dz := va_cpy (upd z 5 (nI (m - 1))) (upd z 5 (nI (m - 1))) (57 + 6 * v + 6) (57 + 6 * v) (6 * (m - 1 - v))
theorem c_S_removeValve_1 {v m : Nat} {z : dz} {M : am_M} {K : am_Q} (hM : M 2 = zp z) (hm : z 5 = nI m) (hm8 : m ≤ 8) (hv : v < m) (h : K (.inl none) (am_set M 2 (zp (zdrop v m z)))) : am_C mt_S_removeValve [.ref 1, .int (nI v)] M K := by
  have e5 : M 2 56 = nI m := by rw [hM]; exact hm
  have e5' : M 2 56 - nI 1 = nI (m - 1) := by rw [e5, nI_sub1 (by omega)]
  have key : am_R am_S0 mt_S_removeValve 1 26 [.ref 1, .int (nI v), .int (nI (m - 1)), .null] [] M K := by
    refine g_S_removeValve_26 ⟨57 + 6 * v + 6, 57 + 6 * v, 6 * (m - 1 - v), ?_, ?_, ?_, by show _ ≤ 105; omega, by show _ ≤ 105; omega, 56, rfl, by decide, ?_⟩
    · show nI 57 + nI v * nI 6 + nI 6 = _
      rw [ix4', Nat.mul_comm]
    · show nI 57 + nI v * nI 6 = _
      rw [ix3', Nat.mul_comm]
    · show (nI (m - 1) - nI v) * nI 6 = _
      have e : nI (m - 1) = nI (m - 1 - v) + nI v := by rw [nI_add]; congr 1; omega
      rw [e, Int32.add_sub_cancel, pk_mul, Nat.mul_comm]
    · simp only [am_set_set]
      have e : upd (va_cpy (M 2) (M 2) (57 + 6 * v + 6) (57 + 6 * v) (6 * (m - 1 - v))) 56 (nI (m - 1)) = zp (zdrop v m z) := by
        funext k
        show _ = zdrop v m z (pz k)
        unfold zdrop
        by_cases c1 : 57 + 6 * v ≤ k ∧ k < 57 + 6 * v + 6 * (m - 1 - v)
        · rw [upd_ne _ _ (by omega), cpy_in c1, pz_hi (by omega), cpy_in c1, upd_ne _ _ (by omega), hM]
          show z (pz _) = _
          rw [pz_hi (by omega)]
        · by_cases c2 : k = 56
          · subst c2
            rw [upd_eq, cpy_out (by show ¬ (_ ≤ 5 ∧ _); omega)]
            exact (upd_eq z 5 _).symm
          · rw [upd_ne _ _ c2, cpy_out c1]
            have c3 : ¬ (57 + 6 * v ≤ pz k ∧ pz k < 57 + 6 * v + 6 * (m - 1 - v)) := by
              by_cases c4 : k < 57
              · have := pz_lt57 k c4
                omega
              · rw [pz_hi (by omega)]; exact c1
            have c5 : pz k ≠ 5 := fun q => c2 (pz_inj (q.trans (show 5 = pz 56 from rfl)))
            rw [cpy_out c3, upd_ne _ _ c5, hM]
            rfl
      rw [← e] at h
      exact h
  have key2 : am_R am_S0 mt_S_removeValve 1 26 [.ref 1, .int (nI v), .int (M 2 56 - nI 1), .null] [] M K := by rw [e5']; exact key
  refine am_C_of_R am_S0 om_S_removeValve rfl [.ref 1, .int (nI v), .null, .null] rfl rfl (g_S_removeValve_0 ⟨56, rfl, by decide, fun c => absurd c (nI_pos (by omega)), fun c => ⟨fun c2 => absurd c2 ?_, fun c2 => ⟨fun c3 => key2, fun c3 => absurd ?_ c3⟩⟩⟩)
  · show ¬ M 2 56 - nI 1 < nI v
    rw [e5']
    exact nI_nlt (by omega) (by omega)
  · show M 2 56 - nI 1 < nI 8
    rw [e5']
    exact (nI_lti (by omega) (by decide)).mpr (by omega)
theorem c_S_removeValve_3 {v m : Nat} {z : dz} {M : am_M} {K : am_Q} (hM : M 4 = zp z) (hm : z 5 = nI m) (hm8 : m ≤ 8) (hv : v < m) (h : K (.inl none) (am_set M 4 (zp (zdrop v m z)))) : am_C mt_S_removeValve [.ref 3, .int (nI v)] M K := by
  have e5 : M 4 56 = nI m := by rw [hM]; exact hm
  have e5' : M 4 56 - nI 1 = nI (m - 1) := by rw [e5, nI_sub1 (by omega)]
  have key : am_R am_S0 mt_S_removeValve 1 26 [.ref 3, .int (nI v), .int (nI (m - 1)), .null] [] M K := by
    refine g_S_removeValve_26 ⟨57 + 6 * v + 6, 57 + 6 * v, 6 * (m - 1 - v), ?_, ?_, ?_, by show _ ≤ 105; omega, by show _ ≤ 105; omega, 56, rfl, by decide, ?_⟩
    · show nI 57 + nI v * nI 6 + nI 6 = _
      rw [ix4', Nat.mul_comm]
    · show nI 57 + nI v * nI 6 = _
      rw [ix3', Nat.mul_comm]
    · show (nI (m - 1) - nI v) * nI 6 = _
      have e : nI (m - 1) = nI (m - 1 - v) + nI v := by rw [nI_add]; congr 1; omega
      rw [e, Int32.add_sub_cancel, pk_mul, Nat.mul_comm]
    · simp only [am_set_set]
      have e : upd (va_cpy (M 4) (M 4) (57 + 6 * v + 6) (57 + 6 * v) (6 * (m - 1 - v))) 56 (nI (m - 1)) = zp (zdrop v m z) := by
        funext k
        show _ = zdrop v m z (pz k)
        unfold zdrop
        by_cases c1 : 57 + 6 * v ≤ k ∧ k < 57 + 6 * v + 6 * (m - 1 - v)
        · rw [upd_ne _ _ (by omega), cpy_in c1, pz_hi (by omega), cpy_in c1, upd_ne _ _ (by omega), hM]
          show z (pz _) = _
          rw [pz_hi (by omega)]
        · by_cases c2 : k = 56
          · subst c2
            rw [upd_eq, cpy_out (by show ¬ (_ ≤ 5 ∧ _); omega)]
            exact (upd_eq z 5 _).symm
          · rw [upd_ne _ _ c2, cpy_out c1]
            have c3 : ¬ (57 + 6 * v ≤ pz k ∧ pz k < 57 + 6 * v + 6 * (m - 1 - v)) := by
              by_cases c4 : k < 57
              · have := pz_lt57 k c4
                omega
              · rw [pz_hi (by omega)]; exact c1
            have c5 : pz k ≠ 5 := fun q => c2 (pz_inj (q.trans (show 5 = pz 56 from rfl)))
            rw [cpy_out c3, upd_ne _ _ c5, hM]
            rfl
      rw [← e] at h
      exact h
  have key2 : am_R am_S0 mt_S_removeValve 1 26 [.ref 3, .int (nI v), .int (M 4 56 - nI 1), .null] [] M K := by rw [e5']; exact key
  refine am_C_of_R am_S0 om_S_removeValve rfl [.ref 3, .int (nI v), .null, .null] rfl rfl (g_S_removeValve_0 ⟨56, rfl, by decide, fun c => absurd c (nI_pos (by omega)), fun c => ⟨fun c2 => absurd c2 ?_, fun c2 => ⟨fun c3 => key2, fun c3 => absurd ?_ c3⟩⟩⟩)
  · show ¬ M 4 56 - nI 1 < nI v
    rw [e5']
    exact nI_nlt (by omega) (by omega)
  · show M 4 56 - nI 1 < nI 8
    rw [e5']
    exact (nI_lti (by omega) (by decide)).mpr (by omega)
theorem c_S_removeValve_6 {v m : Nat} {z : dz} {M : am_M} {K : am_Q} (hM : M 7 = zp z) (hm : z 5 = nI m) (hm8 : m ≤ 8) (hv : v < m) (h : K (.inl none) (am_set M 7 (zp (zdrop v m z)))) : am_C mt_S_removeValve [.ref 6, .int (nI v)] M K := by
  have e5 : M 7 56 = nI m := by rw [hM]; exact hm
  have e5' : M 7 56 - nI 1 = nI (m - 1) := by rw [e5, nI_sub1 (by omega)]
  have key : am_R am_S0 mt_S_removeValve 1 26 [.ref 6, .int (nI v), .int (nI (m - 1)), .null] [] M K := by
    refine g_S_removeValve_26 ⟨57 + 6 * v + 6, 57 + 6 * v, 6 * (m - 1 - v), ?_, ?_, ?_, by show _ ≤ 105; omega, by show _ ≤ 105; omega, 56, rfl, by decide, ?_⟩
    · show nI 57 + nI v * nI 6 + nI 6 = _
      rw [ix4', Nat.mul_comm]
    · show nI 57 + nI v * nI 6 = _
      rw [ix3', Nat.mul_comm]
    · show (nI (m - 1) - nI v) * nI 6 = _
      have e : nI (m - 1) = nI (m - 1 - v) + nI v := by rw [nI_add]; congr 1; omega
      rw [e, Int32.add_sub_cancel, pk_mul, Nat.mul_comm]
    · simp only [am_set_set]
      have e : upd (va_cpy (M 7) (M 7) (57 + 6 * v + 6) (57 + 6 * v) (6 * (m - 1 - v))) 56 (nI (m - 1)) = zp (zdrop v m z) := by
        funext k
        show _ = zdrop v m z (pz k)
        unfold zdrop
        by_cases c1 : 57 + 6 * v ≤ k ∧ k < 57 + 6 * v + 6 * (m - 1 - v)
        · rw [upd_ne _ _ (by omega), cpy_in c1, pz_hi (by omega), cpy_in c1, upd_ne _ _ (by omega), hM]
          show z (pz _) = _
          rw [pz_hi (by omega)]
        · by_cases c2 : k = 56
          · subst c2
            rw [upd_eq, cpy_out (by show ¬ (_ ≤ 5 ∧ _); omega)]
            exact (upd_eq z 5 _).symm
          · rw [upd_ne _ _ c2, cpy_out c1]
            have c3 : ¬ (57 + 6 * v ≤ pz k ∧ pz k < 57 + 6 * v + 6 * (m - 1 - v)) := by
              by_cases c4 : k < 57
              · have := pz_lt57 k c4
                omega
              · rw [pz_hi (by omega)]; exact c1
            have c5 : pz k ≠ 5 := fun q => c2 (pz_inj (q.trans (show 5 = pz 56 from rfl)))
            rw [cpy_out c3, upd_ne _ _ c5, hM]
            rfl
      rw [← e] at h
      exact h
  have key2 : am_R am_S0 mt_S_removeValve 1 26 [.ref 6, .int (nI v), .int (M 7 56 - nI 1), .null] [] M K := by rw [e5']; exact key
  refine am_C_of_R am_S0 om_S_removeValve rfl [.ref 6, .int (nI v), .null, .null] rfl rfl (g_S_removeValve_0 ⟨56, rfl, by decide, fun c => absurd c (nI_pos (by omega)), fun c => ⟨fun c2 => absurd c2 ?_, fun c2 => ⟨fun c3 => key2, fun c3 => absurd ?_ c3⟩⟩⟩)
  · show ¬ M 7 56 - nI 1 < nI v
    rw [e5']
    exact nI_nlt (by omega) (by omega)
  · show M 7 56 - nI 1 < nI 8
    rw [e5']
    exact (nI_lti (by omega) (by decide)).mpr (by omega)
theorem isl_nat {p : Int32} {m : Nat} (hm : m ≤ 8) (h : nI 0 ≤ p ∧ p ≤ nI m - nI 1) : ∃ v, v < m ∧ p = nI v := by
  by_cases c : m = 0
  · subst c
    exact absurd (Int32.le_trans h.1 h.2) (by decide +kernel)
  · rw [nI_sub1 (by omega)] at h
    obtain ⟨v, -, h2, h3⟩ := isr_nat (a := 0) (b := m - 1) h (by decide) (by omega)
    exact ⟨v, by omega, h3⟩
theorem isl_of {v m : Nat} (hm : m ≤ 8) (hv : v < m) : nI 0 ≤ nI v ∧ nI v ≤ nI m - nI 1 := by
  rw [nI_sub1 (by omega)]
  exact ⟨i_le (Nat.zero_le v) (by omega), i_le (by omega) (by omega)⟩
theorem c_V_requireValve {m : Nat} {p : Int32} {w : wS} {M : am_M} {K : am_Q} (hr : vr M w) (hm : w_z w 5 = nI m) (hm8 : m ≤ 8) (h1 : (nI 0 ≤ p ∧ p ≤ nI m - nI 1) → K (.inl none) M) (h2 : ¬ (nI 0 ≤ p ∧ p ≤ nI m - nI 1) → K (.inr (am_ex 0)) M) : am_C mt_V_requireValve [.ref 0, .int p] M K := by
  have e5 : M 2 56 = nI m := by rw [hr.1]; exact hm
  refine am_C_of_R am_S0 om_V_requireValve rfl [.ref 0, .int p] rfl rfl (g_V_requireValve_0 ⟨fun c => g_V_requireValve_24 (h2 fun q => Int32.not_le.mpr c q.1), fun c => ⟨56, rfl, by decide, fun c2 => g_V_requireValve_24 (h2 fun q => ?_), fun c2 => ⟨fun c3 => g_V_requireValve_34 (h1 ?_), fun c3 => g_V_requireValve_24 (h2 fun q => ?_)⟩⟩⟩)
  · have c' : M 2 56 ≤ p := c2
    obtain ⟨v, hv, rfl⟩ := isl_nat hm8 q
    rw [e5] at c'
    exact i_nge hv (by omega) c'
  · have c' : ¬ M 2 56 ≤ p := c2
    have c0 : ¬ p < 0 := c
    rw [e5] at c'
    have hp : isr p 0 8 := ⟨Int32.not_lt.mp c0, Int32.le_trans (Int32.le_of_lt (Int32.not_le.mp c')) (i_le hm8 (by decide))⟩
    obtain ⟨v, -, hv, rfl⟩ := isr_nat hp (by decide) (by decide)
    exact isl_of hm8 ((nI_lti (by omega) (by omega)).mp (Int32.not_le.mp c'))
  · have c' : ¬ p < nI 8 := c3
    obtain ⟨v, hv, rfl⟩ := isl_nat hm8 q
    exact c' ((nI_lti (by omega) (by decide)).mpr (by omega))
def m_close (p : Int32) (w : wS) : mS :=
  if nI 0 ≤ p ∧ p ≤ w_z w 5 - nI 1 then (0, w_z w 5 - nI 1, w_setz (w_rec w) (zdrop (zn p) (zn (w_z w 5)) (w_z w))) else (1, nI 0, w)
theorem zdrop_5 {v m : Nat} {z : dz} : zdrop v m z 5 = nI (m - 1) := by
  unfold zdrop
  rw [cpy_out (by omega), upd_eq]
theorem c_V_close {n : Nat} {p : Int32} {w : wS} {M : am_M} {K : am_Q} (hr : vr M w) (hk : wk n w) (h : ∀ M', vr M' (m_close p w).2.2 → vf M M' → K (oV 0 (m_close p w).1 (m_close p w).2.1) M') : am_C mt_V_close [.ref 0, .int p] M K := by
  obtain ⟨m, hm8, hm, -⟩ := hk.1.1.2.2.2.2.2
  unfold m_close at h
  rw [hm] at h
  refine am_C_of_R am_S0 om_V_close rfl [.ref 0, .int p] rfl rfl (g_V_close_0 (c_V_requireValve hr hm hm8 (fun hq => ?_) (fun hq => ?_)))
  · rw [if_pos hq] at h
    obtain ⟨v, hv, rfl⟩ := isl_nat hm8 hq
    rw [zn_nI (show v < 2 ^ 31 by omega), zn_nI (show m < 2 ^ 31 by omega), nI_sub1 (by omega)] at h
    refine c_V_saveState hr (fun M' r1 r2 r3 _ => ?_)
    refine c_S_removeValve_1 (z := w_z w) r1.1 hm hm8 hv ⟨56, rfl, by decide, ?_⟩
    have e : zp (zdrop v m (w_z w)) 56 = nI (m - 1) := zdrop_5
    rw [← e] at h
    exact h _ (vr_setz r1) (vf_set r2 (by decide))
  · rw [if_neg hq] at h
    exact h M hr (vf_refl M)
end
section
/-! calls: valve, stir -/
def zput (m : Nat) (f t r a b : Int32) (z : dz) : dz := upd (upd (upd (upd (upd (upd (upd z (57 + 6 * m) f) (57 + 6 * m + 1) t) (57 + 6 * m + 2) r) (57 + 6 * m + 3) a) (57 + 6 * m + 4) b) (57 + 6 * m + 5) (nI 0)) 5 (nI (m + 1))
def m_valve (f t r a b : Int32) (w : wS) : mS :=
  if isv f ∧ isr t 0 5 then (if f ≠ t ∧ isr r 1 500 ∧ isr a 0 23 ∧ (a ≤ b ∧ b ≤ nI 23) then (if w_z w 5 = nI 8 then (3, nI 0, w) else (0, w_z w 5, w_setz (w_rec w) (zput (zn (w_z w 5)) f t r a b (w_z w)))) else (2, nI 0, w)) else (1, nI 0, w)
theorem c_V_valve {n : Nat} {f t r a b : Int32} {w : wS} {M : am_M} {K : am_Q} (hr : vr M w) (hk : wk n w) (h : ∀ M', vr M' (m_valve f t r a b w).2.2 → vf M M' → K (oV 0 (m_valve f t r a b w).1 (m_valve f t r a b w).2.1) M') : am_C mt_V_valve [.ref 0, .int f, .int t, .int r, .int a, .int b] M K := by
  obtain ⟨m, hm8, hm, -⟩ := hk.1.1.2.2.2.2.2
  have em : M 2 56 = nI m := by rw [hr.1]; exact hm
  unfold m_valve at h
  have bad1 : ¬ (isv f ∧ isr t 0 5) → K (.inr (am_ex 0)) M := by
    intro hq
    rw [if_neg hq] at h
    exact h M hr (vf_refl M)
  have bad2 : isv f → isr t 0 5 → ¬ (f ≠ t ∧ isr r 1 500 ∧ isr a 0 23 ∧ (a ≤ b ∧ b ≤ nI 23)) → K (.inr (am_ex 1)) M := by
    intro hv ht hq
    rw [if_pos ⟨hv, ht⟩, if_neg hq] at h
    exact h M hr (vf_refl M)
  have mid : isv f → isr t 0 5 → am_R am_S0 mt_V_valve 1 13 [.ref 0, .int f, .int t, .int r, .int a, .int b, .null, .null] [] M K := by
    intro hv ht
    refine g_V_valve_13 ⟨fun c => g_V_valve_28 (c_V_requireRange (fun hr1 => c_V_requireRange (fun hr2 => c_V_requireRange (fun hr3 => ?_) (fun q => bad2 hv ht fun z => q z.2.2.2)) (fun q => bad2 hv ht fun z => q z.2.2.1)) (fun q => bad2 hv ht fun z => q z.2.1)), fun c => bad2 hv ht fun z => c z.1⟩
    rw [if_pos ⟨hv, ht⟩, if_pos ⟨c, hr1, hr2, hr3⟩, hm] at h
    have bad3 : ¬ m < 8 → am_R am_S0 mt_V_valve 1 77 [.ref 0, .int f, .int t, .int r, .int a, .int b, .int (M 2 56), .null] [] M K := by
      intro h8
      rw [if_pos (show nI m = nI 8 by rw [show m = 8 by omega])] at h
      exact g_V_valve_77 (h M hr (vf_refl M))
    refine ⟨56, rfl, by decide, fun c2 => absurd ?_ (nI_pos (show m < 2 ^ 31 by omega)), fun c2 => ⟨fun c3 => g_V_valve_87 ?_, fun c3 => bad3 ?_⟩⟩
    · have c4 : M 2 56 < 0 := c2
      rw [em] at c4
      exact c4
    · have c4 : M 2 56 < nI 8 := c3
      rw [em] at c4
      have hm7 : m < 8 := (nI_lti (by omega) (by decide)).mp c4
      have h8 : ¬ nI m = nI 8 := fun q => by
        have := (nI_eq (a := m) (b := 8) (by omega) (by decide)).mp q
        omega
      rw [if_neg h8, zn_nI (by omega)] at h
      refine c_V_saveState hr (fun M' r1 r2 r3 _ => ?_)
      have ez : M' 2 = zp (w_z w) := r1.1
      have ev : nI 57 + M 2 56 * nI 6 = nI (57 + 6 * m) := by rw [em, ix3', Nat.mul_comm]
      have j : ∀ k, (nI 57 + M 2 56 * nI 6) + nI k = nI (57 + 6 * m + k) := fun k => by rw [ev, ix2]
      refine ⟨57 + 6 * m + 0, j 0, by show _ < 105; omega, 57 + 6 * m + 1, j 1, by show _ < 105; omega, 57 + 6 * m + 2, j 2, by show _ < 105; omega, 57 + 6 * m + 3, j 3, by show _ < 105; omega, 57 + 6 * m + 4, j 4, by show _ < 105; omega, 57 + 6 * m + 5, j 5, by show _ < 105; omega, 56, rfl, by decide, ?_⟩
      simp only [am_set_set]
      have e : upd (upd (upd (upd (upd (upd (upd (M' 2) (57 + 6 * m + 0) f) (57 + 6 * m + 1) t) (57 + 6 * m + 2) r) (57 + 6 * m + 3) a) (57 + 6 * m + 4) b) (57 + 6 * m + 5) (nI 0)) 56 (M 2 56 + nI 1) = zp (zput m f t r a b (w_z w)) := by
        rw [ez, em, nI_add, zp_upd, zp_upd, zp_upd, zp_upd, zp_upd, zp_upd, zp_upd, pz_hi (by omega), pz_hi (by omega), pz_hi (by omega), pz_hi (by omega), pz_hi (by omega), pz_hi (by omega)]
        rfl
      have hh := h (am_set M' 2 (zp (zput m f t r a b (w_z w)))) (vr_setz r1) (vf_set r2 (by decide))
      rw [← e, ← em] at hh
      exact hh
    · have c4 : ¬ M 2 56 < nI 8 := c3
      rw [em] at c4
      exact fun q => c4 ((nI_lti (by omega) (by decide)).mpr q)
  refine am_C_of_R am_S0 om_V_valve rfl [.ref 0, .int f, .int t, .int r, .int a, .int b, .null, .null] rfl rfl (g_V_valve_0 (c_V_requireVat (fun hv => ⟨fun c => mid hv ?_, fun c => c_V_requireVat (fun ht => mid hv ?_) (fun ht => bad1 fun q => ?_)⟩) (fun hv => bad1 fun q => hv q.1)))
  · have c' : t = nI 5 := c
    rw [c']
    exact ⟨by decide +kernel, by decide +kernel⟩
  · exact ⟨ht.1, Int32.le_trans ht.2 (by decide +kernel)⟩
  · have c' : ¬ t = nI 5 := c
    obtain ⟨u, -, hu, rfl⟩ := isr_nat q.2 (by decide) (by decide)
    have : u ≠ 5 := fun z => c' (by rw [z])
    exact ht ⟨i_le (by omega) (by omega), i_le (by omega) (by omega)⟩
end
section
/-! calls: stir -/
def zstm (v d : Nat) (z : dz) : Int32 := if 0 < ileast (z (22 + 8 * v + d)) (zholds v z - z (19 + 8 * v + d)) then ileast (z (22 + 8 * v + d)) (zholds v z - z (19 + 8 * v + d)) else nI 0
def zst1 (v d : Nat) (z : dz) : dz := zadd (zadd z (22 + 8 * v + d) (-zstm v d z)) (19 + 8 * v + d) (zstm v d z)
def zst (v : Nat) (z : dz) : Nat → dz
  | 0 => z
  | d + 1 => zst1 v d (zst v z d)
def zsts (v : Nat) (z : dz) : Nat → Int32
  | 0 => nI 0
  | d + 1 => zsts v z d + zstm v d (zst v z d)
theorem zstm_ti {v d : Nat} {z : dz} (h : zok z) (hv : v < 5) (hd : d < 3) : 0 ≤ (zstm v d z).toInt ∧ (zstm v d z).toInt ≤ (z (22 + 8 * v + d)).toInt := by
  have hg := h.2.1 v d hv hd
  unfold zstm
  split
  · rename_i c
    have c' := ti_lt.mp c
    rw [ti_0] at c'
    exact ⟨by omega, (ileast_ti _ _).1⟩
  · rw [nI_toInt (by decide)]
    exact ⟨by omega, hg.2⟩
theorem zst1_fix {v d i : Nat} {z : dz} (hv : v < 5) (hd : d < 3) (hi : zfix i) : zst1 v d z i = z i := by
  unfold zst1
  rw [zadd_ne _ _ (by unfold zfix at hi; omega), zadd_ne _ _ (by unfold zfix at hi; omega)]
theorem zok_st1 {v d : Nat} {z : dz} (h : zok z) (hv : v < 5) (hd : d < 3) : zok (zst1 v d z) := by
  have hfix : ∀ i, zfix i → zst1 v d z i = z i := fun i hi => zst1_fix hv hd hi
  obtain ⟨m1, m2⟩ := zstm_ti h hv hd
  obtain ⟨hvt, hg, ha, hs, ⟨hw0, hw⟩, m', hm', e5, hvs⟩ := h
  obtain ⟨l1, l2, l3, l4⟩ := zgr_le hg ha hv hd
  obtain ⟨g1, g2⟩ := hg v d hv hd
  refine ⟨?_, ?_, ?_, ?_, ?_, m', hm', ?_, ?_⟩
  rotate_right
  · exact fun k hk => zvok_fix (by omega) hfix (hvs k hk)
  rotate_right
  · rw [hfix 5 (by unfold zfix; omega)]; exact e5
  rotate_right 2
  · rw [hfix 1 (by unfold zfix; omega)]; exact hs
  rotate_left
  all_goals
    unfold zst1
    generalize zstm v d z = mv at m1 m2 ⊢
    have nq := ti_neg (a := mv) (by omega)
    have e1 := ti_add (a := z (22 + 8 * v + d)) (b := -mv) (by omega) (by omega)
    unfold zadd
    generalize hx : z (22 + 8 * v + d) + -mv = x at e1 ⊢
    rw [upd_ne _ (j := 19 + 8 * v + d) _ (by omega)]
    have e2 := ti_add (a := z (19 + 8 * v + d)) (b := mv) (by omega) (by omega)
    generalize hy : z (19 + 8 * v + d) + mv = y at e2 ⊢
  · intro w hw5
    rw [upd_ne _ (j := 18 + 8 * w) _ (by omega), upd_ne _ (j := 18 + 8 * w) _ (by omega), upd_ne _ (j := 17 + 8 * w) _ (by omega), upd_ne _ (j := 17 + 8 * w) _ (by omega)]
    exact hvt w hw5
  · intro w d' hw5 hd'
    obtain ⟨w1, w2⟩ := hg w d' hw5 hd'
    rw [upd_ne _ (k := 19 + 8 * v + d) (j := 22 + 8 * w + d') _ (by omega)]
    refine ⟨?_, ?_⟩
    · by_cases c2 : 19 + 8 * w + d' = 19 + 8 * v + d
      · rw [upd_eq' _ _ c2]; omega
      · rw [upd_ne _ _ c2, upd_ne _ _ (by omega)]; exact w1
    · by_cases c2 : 22 + 8 * w + d' = 22 + 8 * v + d
      · rw [upd_eq' _ _ c2]; omega
      · rw [upd_ne _ _ c2]; exact w2
  · intro d' hd'
    obtain ⟨b1, b2, b3⟩ := ha d' hd'
    rw [upd_ne _ (j := 14 + d') _ (by omega), upd_ne _ (j := 14 + d') _ (by omega), upd_ne _ (j := 11 + d') _ (by omega), upd_ne _ (j := 11 + d') _ (by omega)]
    by_cases c3 : d' = d
    · subst c3
      have r1 := zall_d (z := upd z (22 + 8 * v + d') x) (d := d') (x := y) hv
      have r2 := zall_s (z := z) (d := d') (x := x) hv
      rw [upd_ne _ _ (by omega)] at r1
      rw [r1, r2]
      exact ⟨b1, by omega, b3⟩
    · rw [zall_ne (by omega) (fun v hv => ⟨by omega, by omega⟩), zall_ne (by omega) (fun v hv => ⟨by omega, by omega⟩)]
      exact ⟨b1, b2, b3⟩
  · rw [zwat_ne (by omega), zwat_ne (by omega), upd_ne _ (j := 2) _ (by omega), upd_ne _ (j := 2) _ (by omega), upd_ne _ (j := 3) _ (by omega), upd_ne _ (j := 3) _ (by omega)]
    exact ⟨hw0, hw⟩
theorem zok_st {v : Nat} {z : dz} (h : zok z) (hv : v < 5) : ∀ d, d ≤ 3 → zok (zst v z d)
  | 0, _ => h
  | d + 1, hd => zok_st1 (zok_st h hv d (by omega)) hv (by omega)
theorem upd_add0 (z : dz) (k : Nat) : zadd z k (nI 0) = z := by
  funext j
  unfold zadd
  by_cases c : j = k
  · rw [upd_eq' _ _ c, c]
    exact Int32.add_zero _
  · rw [upd_ne _ _ c]
def m_stir (p : Int32) (w : wS) : mS := if isv p then (0, zsts (zn p) (w_z w) 3, w_setz (w_rec w) (zst (zn p) (w_z w) 3)) else (1, nI 0, w)
theorem stir_g {a b : Int32} (ha : 0 ≤ a.toInt) : (if (if nI 0 < b then b else nI 0) < a then (if nI 0 < b then b else nI 0) else a) = if 0 < ileast a b then ileast a b else nI 0 := by
  by_cases c : nI 0 < b
  · rw [if_pos c, imin_eq]
    split
    · rfl
    · rename_i c2
      have hb := ti_lt.mp c
      rw [nI_toInt (by decide)] at hb
      have h3 := ileast_ti a b
      refine ti_ext ?_
      have c3 : ¬ (0 : Int32).toInt < (ileast a b).toInt := fun q => c2 (ti_lt.mpr q)
      rw [ti_0] at c3
      rw [nI_toInt (by decide)]
      omega
  · rw [if_neg c, imin_eq]
    have hb : ¬ (nI 0).toInt < b.toInt := fun q => c (ti_lt.mpr q)
    rw [nI_toInt (by decide)] at hb
    have h3 := ileast_ti a b
    have h4 := ileast_ti a (nI 0)
    rw [nI_toInt (by decide)] at h4
    have c3 : ¬ 0 < ileast a b := fun q => by
      have := ti_lt.mp q
      rw [ti_0] at this
      omega
    rw [if_neg c3]
    refine ti_ext ?_
    rw [nI_toInt (by decide)]
    omega
theorem c_S_dissolveSettled_1 {v : Nat} {z : dz} {M : am_M} {K : am_Q} (hM : M 2 = zp z) (hz : zok z) (hv : v < 5) (h : K (.inl (some (.int (zsts v z 3)))) (am_set M 2 (zp (zst v z 3)))) : am_C mt_S_dissolveSettled [.ref 1, .int (nI v)] M K := by
  refine am_C_of_R am_S0 om_S_dissolveSettled rfl [.ref 1, .int (nI v), .null, .null, .null, .null, .null] rfl rfl (g_S_dissolveSettled_0 (c_S_isVat hv ⟨fun c => g_S_dissolveSettled_9 ?_, fun c => absurd nI1_ne c⟩))
  have h0 : M = am_set M 2 (zp z) := by rw [← hM, am_set_self]
  refine am_R_le (xs := [.ref 1, .int (nI v), .int (zsts v z 0), .int (nI 0), .null, .null, .null]) (by repeat' (first | exact trivial | exact Or.inr rfl | exact Or.inl rfl | exact Or.inr (congrArg Value.int (nI_succ _)) | refine ⟨?_, ?_⟩)) ?_
  rw [h0]
  refine lu (P := fun i => am_R am_S0 mt_S_dissolveSettled 1 13 [.ref 1, .int (nI v), .int (zsts v z i), .int (nI i), .null, .null, .null] [] (am_set M 2 (zp (zst v z i))) K) 3 ?_ ?_
  · exact g_S_dissolveSettled_13 ⟨fun c => g_S_dissolveSettled_102 h, fun c => absurd (i_le (Nat.le_refl 3) (by decide)) c⟩
  · intro d hd ih
    have hzz := zok_st hz hv d (by omega)
    have e1 : zst v z (d + 1) = zst1 v d (zst v z d) := rfl
    have e2 : zsts v z (d + 1) = zsts v z d + zstm v d (zst v z d) := rfl
    rw [e1, e2] at ih
    generalize zsts v z d = sum at ih ⊢
    generalize zst v z d = zz at ih hzz ⊢
    have es : zp zz (30 + v * 3 + d) = zz (22 + 8 * v + d) := by unfold zp; rw [pz_s hv hd]
    have ed : zp zz (15 + v * 3 + d) = zz (19 + 8 * v + d) := by unfold zp; rw [pz_d hv hd]
    have em : zstm v d zz = (if (if nI 0 < (zholds v zz - zp zz (15 + v * 3 + d)) then (zholds v zz - zp zz (15 + v * 3 + d)) else nI 0) < zp zz (30 + v * 3 + d) then (if nI 0 < (zholds v zz - zp zz (15 + v * 3 + d)) then (zholds v zz - zp zz (15 + v * 3 + d)) else nI 0) else zp zz (30 + v * 3 + d)) := by
      rw [es, ed, stir_g (hzz.2.1 v d hv hd).2]
      rfl
    refine g_S_dissolveSettled_13 ⟨fun c => absurd c (i_nge hd (by decide)), fun c => ⟨30 + v * 3 + d, ix4' 30 3 v d, by show _ < 105; omega, c_S_limitIn_1 (z := zz) (v := v) (by rw [am_set_eq]) hv ⟨15 + v * 3 + d, ix4' 15 3 v d, by show _ < 105; omega, ?_⟩⟩⟩
    refine ⟨30 + v * 3 + d, ix4' 30 3 v d, by show _ < 105; omega, 30 + v * 3 + d, ix4' 30 3 v d, by show _ < 105; omega, 15 + v * 3 + d, ix4' 15 3 v d, by show _ < 105; omega, 15 + v * 3 + d, ix4' 15 3 v d, by show _ < 105; omega, ?_⟩
    unfold zst1 at ih
    rw [em] at ih
    simp only [am_set_set]
    have eq1 : ∀ g : Int32, upd (upd (zp zz) (30 + v * 3 + d) (zp zz (30 + v * 3 + d) - g)) (15 + v * 3 + d) (upd (zp zz) (30 + v * 3 + d) (zp zz (30 + v * 3 + d) - g) (15 + v * 3 + d) + g) = zp (zadd (zadd zz (22 + 8 * v + d) (-g)) (19 + 8 * v + d) g) := by
      intro g
      rw [zp_sub, zp_add, pz_d hv hd, pz_s hv hd]
    rw [← eq1] at ih
    exact am_R_le (by repeat' (first | exact trivial | exact Or.inr rfl | exact Or.inl rfl | exact Or.inr (congrArg Value.int (nI_succ _)) | refine ⟨?_, ?_⟩)) ih
theorem c_S_dissolveSettled_3 {v : Nat} {z : dz} {M : am_M} {K : am_Q} (hM : M 4 = zp z) (hz : zok z) (hv : v < 5) (h : K (.inl (some (.int (zsts v z 3)))) (am_set M 4 (zp (zst v z 3)))) : am_C mt_S_dissolveSettled [.ref 3, .int (nI v)] M K := by
  refine am_C_of_R am_S0 om_S_dissolveSettled rfl [.ref 3, .int (nI v), .null, .null, .null, .null, .null] rfl rfl (g_S_dissolveSettled_0 (c_S_isVat hv ⟨fun c => g_S_dissolveSettled_9 ?_, fun c => absurd nI1_ne c⟩))
  have h0 : M = am_set M 4 (zp z) := by rw [← hM, am_set_self]
  refine am_R_le (xs := [.ref 3, .int (nI v), .int (zsts v z 0), .int (nI 0), .null, .null, .null]) (by repeat' (first | exact trivial | exact Or.inr rfl | exact Or.inl rfl | exact Or.inr (congrArg Value.int (nI_succ _)) | refine ⟨?_, ?_⟩)) ?_
  rw [h0]
  refine lu (P := fun i => am_R am_S0 mt_S_dissolveSettled 1 13 [.ref 3, .int (nI v), .int (zsts v z i), .int (nI i), .null, .null, .null] [] (am_set M 4 (zp (zst v z i))) K) 3 ?_ ?_
  · exact g_S_dissolveSettled_13 ⟨fun c => g_S_dissolveSettled_102 h, fun c => absurd (i_le (Nat.le_refl 3) (by decide)) c⟩
  · intro d hd ih
    have hzz := zok_st hz hv d (by omega)
    have e1 : zst v z (d + 1) = zst1 v d (zst v z d) := rfl
    have e2 : zsts v z (d + 1) = zsts v z d + zstm v d (zst v z d) := rfl
    rw [e1, e2] at ih
    generalize zsts v z d = sum at ih ⊢
    generalize zst v z d = zz at ih hzz ⊢
    have es : zp zz (30 + v * 3 + d) = zz (22 + 8 * v + d) := by unfold zp; rw [pz_s hv hd]
    have ed : zp zz (15 + v * 3 + d) = zz (19 + 8 * v + d) := by unfold zp; rw [pz_d hv hd]
    have em : zstm v d zz = (if (if nI 0 < (zholds v zz - zp zz (15 + v * 3 + d)) then (zholds v zz - zp zz (15 + v * 3 + d)) else nI 0) < zp zz (30 + v * 3 + d) then (if nI 0 < (zholds v zz - zp zz (15 + v * 3 + d)) then (zholds v zz - zp zz (15 + v * 3 + d)) else nI 0) else zp zz (30 + v * 3 + d)) := by
      rw [es, ed, stir_g (hzz.2.1 v d hv hd).2]
      rfl
    refine g_S_dissolveSettled_13 ⟨fun c => absurd c (i_nge hd (by decide)), fun c => ⟨30 + v * 3 + d, ix4' 30 3 v d, by show _ < 105; omega, c_S_limitIn_3 (z := zz) (v := v) (by rw [am_set_eq]) hv ⟨15 + v * 3 + d, ix4' 15 3 v d, by show _ < 105; omega, ?_⟩⟩⟩
    refine ⟨30 + v * 3 + d, ix4' 30 3 v d, by show _ < 105; omega, 30 + v * 3 + d, ix4' 30 3 v d, by show _ < 105; omega, 15 + v * 3 + d, ix4' 15 3 v d, by show _ < 105; omega, 15 + v * 3 + d, ix4' 15 3 v d, by show _ < 105; omega, ?_⟩
    unfold zst1 at ih
    rw [em] at ih
    simp only [am_set_set]
    have eq1 : ∀ g : Int32, upd (upd (zp zz) (30 + v * 3 + d) (zp zz (30 + v * 3 + d) - g)) (15 + v * 3 + d) (upd (zp zz) (30 + v * 3 + d) (zp zz (30 + v * 3 + d) - g) (15 + v * 3 + d) + g) = zp (zadd (zadd zz (22 + 8 * v + d) (-g)) (19 + 8 * v + d) g) := by
      intro g
      rw [zp_sub, zp_add, pz_d hv hd, pz_s hv hd]
    rw [← eq1] at ih
    exact am_R_le (by repeat' (first | exact trivial | exact Or.inr rfl | exact Or.inl rfl | exact Or.inr (congrArg Value.int (nI_succ _)) | refine ⟨?_, ?_⟩)) ih
theorem c_S_dissolveSettled_6 {v : Nat} {z : dz} {M : am_M} {K : am_Q} (hM : M 7 = zp z) (hz : zok z) (hv : v < 5) (h : K (.inl (some (.int (zsts v z 3)))) (am_set M 7 (zp (zst v z 3)))) : am_C mt_S_dissolveSettled [.ref 6, .int (nI v)] M K := by
  refine am_C_of_R am_S0 om_S_dissolveSettled rfl [.ref 6, .int (nI v), .null, .null, .null, .null, .null] rfl rfl (g_S_dissolveSettled_0 (c_S_isVat hv ⟨fun c => g_S_dissolveSettled_9 ?_, fun c => absurd nI1_ne c⟩))
  have h0 : M = am_set M 7 (zp z) := by rw [← hM, am_set_self]
  refine am_R_le (xs := [.ref 6, .int (nI v), .int (zsts v z 0), .int (nI 0), .null, .null, .null]) (by repeat' (first | exact trivial | exact Or.inr rfl | exact Or.inl rfl | exact Or.inr (congrArg Value.int (nI_succ _)) | refine ⟨?_, ?_⟩)) ?_
  rw [h0]
  refine lu (P := fun i => am_R am_S0 mt_S_dissolveSettled 1 13 [.ref 6, .int (nI v), .int (zsts v z i), .int (nI i), .null, .null, .null] [] (am_set M 7 (zp (zst v z i))) K) 3 ?_ ?_
  · exact g_S_dissolveSettled_13 ⟨fun c => g_S_dissolveSettled_102 h, fun c => absurd (i_le (Nat.le_refl 3) (by decide)) c⟩
  · intro d hd ih
    have hzz := zok_st hz hv d (by omega)
    have e1 : zst v z (d + 1) = zst1 v d (zst v z d) := rfl
    have e2 : zsts v z (d + 1) = zsts v z d + zstm v d (zst v z d) := rfl
    rw [e1, e2] at ih
    generalize zsts v z d = sum at ih ⊢
    generalize zst v z d = zz at ih hzz ⊢
    have es : zp zz (30 + v * 3 + d) = zz (22 + 8 * v + d) := by unfold zp; rw [pz_s hv hd]
    have ed : zp zz (15 + v * 3 + d) = zz (19 + 8 * v + d) := by unfold zp; rw [pz_d hv hd]
    have em : zstm v d zz = (if (if nI 0 < (zholds v zz - zp zz (15 + v * 3 + d)) then (zholds v zz - zp zz (15 + v * 3 + d)) else nI 0) < zp zz (30 + v * 3 + d) then (if nI 0 < (zholds v zz - zp zz (15 + v * 3 + d)) then (zholds v zz - zp zz (15 + v * 3 + d)) else nI 0) else zp zz (30 + v * 3 + d)) := by
      rw [es, ed, stir_g (hzz.2.1 v d hv hd).2]
      rfl
    refine g_S_dissolveSettled_13 ⟨fun c => absurd c (i_nge hd (by decide)), fun c => ⟨30 + v * 3 + d, ix4' 30 3 v d, by show _ < 105; omega, c_S_limitIn_6 (z := zz) (v := v) (by rw [am_set_eq]) hv ⟨15 + v * 3 + d, ix4' 15 3 v d, by show _ < 105; omega, ?_⟩⟩⟩
    refine ⟨30 + v * 3 + d, ix4' 30 3 v d, by show _ < 105; omega, 30 + v * 3 + d, ix4' 30 3 v d, by show _ < 105; omega, 15 + v * 3 + d, ix4' 15 3 v d, by show _ < 105; omega, 15 + v * 3 + d, ix4' 15 3 v d, by show _ < 105; omega, ?_⟩
    unfold zst1 at ih
    rw [em] at ih
    simp only [am_set_set]
    have eq1 : ∀ g : Int32, upd (upd (zp zz) (30 + v * 3 + d) (zp zz (30 + v * 3 + d) - g)) (15 + v * 3 + d) (upd (zp zz) (30 + v * 3 + d) (zp zz (30 + v * 3 + d) - g) (15 + v * 3 + d) + g) = zp (zadd (zadd zz (22 + 8 * v + d) (-g)) (19 + 8 * v + d) g) := by
      intro g
      rw [zp_sub, zp_add, pz_d hv hd, pz_s hv hd]
    rw [← eq1] at ih
    exact am_R_le (by repeat' (first | exact trivial | exact Or.inr rfl | exact Or.inl rfl | exact Or.inr (congrArg Value.int (nI_succ _)) | refine ⟨?_, ?_⟩)) ih
theorem c_V_stir {n : Nat} {p : Int32} {w : wS} {M : am_M} {K : am_Q} (hr : vr M w) (hk : wk n w) (h : ∀ M', vr M' (m_stir p w).2.2 → vf M M' → K (oV 0 (m_stir p w).1 (m_stir p w).2.1) M') : am_C mt_V_stir [.ref 0, .int p] M K := by
  unfold m_stir at h
  refine am_C_of_R am_S0 om_V_stir rfl [.ref 0, .int p] rfl rfl (g_V_stir_0 (c_V_requireVat (fun hv => ?_) (fun hv => ?_)))
  · rw [if_pos hv] at h
    obtain ⟨v, -, hv4, rfl⟩ := isr_nat (a := 0) (b := 4) hv (by decide) (by decide)
    rw [zn_nI (by omega)] at h
    refine c_V_saveState hr (fun M' r1 r2 r3 _ => ?_)
    exact c_S_dissolveSettled_1 (z := w_z w) r1.1 hk.1.1 (by omega) (h _ (vr_setz r1) (vf_set r2 (by decide)))
  · rw [if_neg hv] at h
    exact h M hr (vf_refl M)
end
section
/-! looks: vatOf, valveOf -/
theorem nI_subk {a b : Nat} (h : b ≤ a) : nI a - nI b = nI (a - b) := by
  have e : nI a = nI (a - b) + nI b := by rw [nI_add]; congr 1; omega
  rw [e, Int32.add_sub_cancel]
theorem sw_eq {k : Nat} {i : Int} (hk : k < 2 ^ 31) (c : (nI k).toInt = i) : (k : Int) = i := by rw [nI_toInt hk] at c; exact c
def zvat (v k : Nat) (z : dz) : Int32 := if k = 8 then z (6 + v) else if k = 9 then zholds v z else z (17 + 8 * v + k)
theorem zvat_lo {v k : Nat} {z : dz} (h : k < 8) : zvat v k z = z (17 + 8 * v + k) := by unfold zvat; rw [if_neg (by omega), if_neg (by omega)]
theorem c_S_vatProperty_1 {v k : Nat} {z : dz} {M : am_M} {K : am_Q} (hM : M 2 = zp z) (hv : v < 5) (hk : k ≤ 9) (h : K (.inl (some (.int (zvat v k z)))) M) : am_C mt_S_vatProperty [.ref 1, .int (nI v), .int (nI k)] M K := by
  refine am_C_of_R am_S0 om_S_vatProperty rfl [.ref 1, .int (nI v), .int (nI k)] rfl rfl (g_S_vatProperty_0 (c_S_isVat hv ⟨fun c => g_S_vatProperty_9 ?_, fun c => absurd nI1_ne c⟩))
  refine ⟨fun c => ?_, fun c => ?_, fun c => ?_, fun c => ?_, fun c => ?_, fun c => ?_, fun c => ?_, fun c => ?_, fun c => ?_, fun c => ?_, trivial⟩
  · have e9 : k = 9 := by
      rw [nI_toInt (by omega)] at c
      omega
    subst e9
    exact g_S_vatProperty_120 (c_S_limitIn_1 hM hv h)
  · have ek : k = 0 := by have := sw_eq (by omega) c; omega
    subst ek
    have e : zvat v 0 z = M 2 (0 + v) := by rw [hM, zvat_lo (by decide), Nat.zero_add]; unfold zp; rw [pz_c hv]; rfl
    rw [e] at h
    exact g_S_vatProperty_60 ⟨0 + v, ix2 0 v, by show _ < 105; omega, h⟩
  · have ek : k = 1 := by have := sw_eq (by omega) c; omega
    subst ek
    have e : zvat v 1 z = M 2 (10 + v) := by rw [hM, zvat_lo (by decide)]; unfold zp; rw [pz_w hv]; congr 1; omega
    rw [e] at h
    exact g_S_vatProperty_69 ⟨10 + v, ix2 10 v, by show _ < 105; omega, h⟩
  · have ek : k = 2 := by have := sw_eq (by omega) c; omega
    subst ek
    have e : zvat v 2 z = M 2 (15 + v * 3 + 0) := by rw [hM, zvat_lo (by decide)]; unfold zp; rw [pz_d hv (by decide)]; congr 1; omega
    rw [e] at h
    exact g_S_vatProperty_79 ⟨15 + v * 3 + 0, by show nI 15 + nI v * nI 3 + nI 2 - nI 2 = _; rw [ix4', nI_subk (by omega)]; rfl, by show _ < 105; omega, h⟩
  · have ek : k = 3 := by have := sw_eq (by omega) c; omega
    subst ek
    have e : zvat v 3 z = M 2 (15 + v * 3 + 1) := by rw [hM, zvat_lo (by decide)]; unfold zp; rw [pz_d hv (by decide)]; congr 1; omega
    rw [e] at h
    exact g_S_vatProperty_79 ⟨15 + v * 3 + 1, by show nI 15 + nI v * nI 3 + nI 3 - nI 2 = _; rw [ix4', nI_subk (by omega)]; rfl, by show _ < 105; omega, h⟩
  · have ek : k = 4 := by have := sw_eq (by omega) c; omega
    subst ek
    have e : zvat v 4 z = M 2 (15 + v * 3 + 2) := by rw [hM, zvat_lo (by decide)]; unfold zp; rw [pz_d hv (by decide)]; congr 1; omega
    rw [e] at h
    exact g_S_vatProperty_79 ⟨15 + v * 3 + 2, by show nI 15 + nI v * nI 3 + nI 4 - nI 2 = _; rw [ix4', nI_subk (by omega)]; rfl, by show _ < 105; omega, h⟩
  · have ek : k = 5 := by have := sw_eq (by omega) c; omega
    subst ek
    have e : zvat v 5 z = M 2 (30 + v * 3 + 0) := by rw [hM, zvat_lo (by decide)]; unfold zp; rw [pz_s hv (by decide)]; congr 1; omega
    rw [e] at h
    exact g_S_vatProperty_95 ⟨30 + v * 3 + 0, by show nI 30 + nI v * nI 3 + nI 5 - nI 5 = _; rw [ix4', nI_subk (by omega)]; rfl, by show _ < 105; omega, h⟩
  · have ek : k = 6 := by have := sw_eq (by omega) c; omega
    subst ek
    have e : zvat v 6 z = M 2 (30 + v * 3 + 1) := by rw [hM, zvat_lo (by decide)]; unfold zp; rw [pz_s hv (by decide)]; congr 1; omega
    rw [e] at h
    exact g_S_vatProperty_95 ⟨30 + v * 3 + 1, by show nI 30 + nI v * nI 3 + nI 6 - nI 5 = _; rw [ix4', nI_subk (by omega)]; rfl, by show _ < 105; omega, h⟩
  · have ek : k = 7 := by have := sw_eq (by omega) c; omega
    subst ek
    have e : zvat v 7 z = M 2 (30 + v * 3 + 2) := by rw [hM, zvat_lo (by decide)]; unfold zp; rw [pz_s hv (by decide)]; congr 1; omega
    rw [e] at h
    exact g_S_vatProperty_95 ⟨30 + v * 3 + 2, by show nI 30 + nI v * nI 3 + nI 7 - nI 5 = _; rw [ix4', nI_subk (by omega)]; rfl, by show _ < 105; omega, h⟩
  · have ek : k = 8 := by have := sw_eq (by omega) c; omega
    subst ek
    have e : zvat v 8 z = M 2 (5 + v) := by rw [hM]; unfold zp; rw [pz_p hv]; rfl
    rw [e] at h
    exact g_S_vatProperty_111 ⟨5 + v, ix2 5 v, by show _ < 105; omega, h⟩
theorem c_S_vatProperty_3 {v k : Nat} {z : dz} {M : am_M} {K : am_Q} (hM : M 4 = zp z) (hv : v < 5) (hk : k ≤ 9) (h : K (.inl (some (.int (zvat v k z)))) M) : am_C mt_S_vatProperty [.ref 3, .int (nI v), .int (nI k)] M K := by
  refine am_C_of_R am_S0 om_S_vatProperty rfl [.ref 3, .int (nI v), .int (nI k)] rfl rfl (g_S_vatProperty_0 (c_S_isVat hv ⟨fun c => g_S_vatProperty_9 ?_, fun c => absurd nI1_ne c⟩))
  refine ⟨fun c => ?_, fun c => ?_, fun c => ?_, fun c => ?_, fun c => ?_, fun c => ?_, fun c => ?_, fun c => ?_, fun c => ?_, fun c => ?_, trivial⟩
  · have e9 : k = 9 := by
      rw [nI_toInt (by omega)] at c
      omega
    subst e9
    exact g_S_vatProperty_120 (c_S_limitIn_3 hM hv h)
  · have ek : k = 0 := by have := sw_eq (by omega) c; omega
    subst ek
    have e : zvat v 0 z = M 4 (0 + v) := by rw [hM, zvat_lo (by decide), Nat.zero_add]; unfold zp; rw [pz_c hv]; rfl
    rw [e] at h
    exact g_S_vatProperty_60 ⟨0 + v, ix2 0 v, by show _ < 105; omega, h⟩
  · have ek : k = 1 := by have := sw_eq (by omega) c; omega
    subst ek
    have e : zvat v 1 z = M 4 (10 + v) := by rw [hM, zvat_lo (by decide)]; unfold zp; rw [pz_w hv]; congr 1; omega
    rw [e] at h
    exact g_S_vatProperty_69 ⟨10 + v, ix2 10 v, by show _ < 105; omega, h⟩
  · have ek : k = 2 := by have := sw_eq (by omega) c; omega
    subst ek
    have e : zvat v 2 z = M 4 (15 + v * 3 + 0) := by rw [hM, zvat_lo (by decide)]; unfold zp; rw [pz_d hv (by decide)]; congr 1; omega
    rw [e] at h
    exact g_S_vatProperty_79 ⟨15 + v * 3 + 0, by show nI 15 + nI v * nI 3 + nI 2 - nI 2 = _; rw [ix4', nI_subk (by omega)]; rfl, by show _ < 105; omega, h⟩
  · have ek : k = 3 := by have := sw_eq (by omega) c; omega
    subst ek
    have e : zvat v 3 z = M 4 (15 + v * 3 + 1) := by rw [hM, zvat_lo (by decide)]; unfold zp; rw [pz_d hv (by decide)]; congr 1; omega
    rw [e] at h
    exact g_S_vatProperty_79 ⟨15 + v * 3 + 1, by show nI 15 + nI v * nI 3 + nI 3 - nI 2 = _; rw [ix4', nI_subk (by omega)]; rfl, by show _ < 105; omega, h⟩
  · have ek : k = 4 := by have := sw_eq (by omega) c; omega
    subst ek
    have e : zvat v 4 z = M 4 (15 + v * 3 + 2) := by rw [hM, zvat_lo (by decide)]; unfold zp; rw [pz_d hv (by decide)]; congr 1; omega
    rw [e] at h
    exact g_S_vatProperty_79 ⟨15 + v * 3 + 2, by show nI 15 + nI v * nI 3 + nI 4 - nI 2 = _; rw [ix4', nI_subk (by omega)]; rfl, by show _ < 105; omega, h⟩
  · have ek : k = 5 := by have := sw_eq (by omega) c; omega
    subst ek
    have e : zvat v 5 z = M 4 (30 + v * 3 + 0) := by rw [hM, zvat_lo (by decide)]; unfold zp; rw [pz_s hv (by decide)]; congr 1; omega
    rw [e] at h
    exact g_S_vatProperty_95 ⟨30 + v * 3 + 0, by show nI 30 + nI v * nI 3 + nI 5 - nI 5 = _; rw [ix4', nI_subk (by omega)]; rfl, by show _ < 105; omega, h⟩
  · have ek : k = 6 := by have := sw_eq (by omega) c; omega
    subst ek
    have e : zvat v 6 z = M 4 (30 + v * 3 + 1) := by rw [hM, zvat_lo (by decide)]; unfold zp; rw [pz_s hv (by decide)]; congr 1; omega
    rw [e] at h
    exact g_S_vatProperty_95 ⟨30 + v * 3 + 1, by show nI 30 + nI v * nI 3 + nI 6 - nI 5 = _; rw [ix4', nI_subk (by omega)]; rfl, by show _ < 105; omega, h⟩
  · have ek : k = 7 := by have := sw_eq (by omega) c; omega
    subst ek
    have e : zvat v 7 z = M 4 (30 + v * 3 + 2) := by rw [hM, zvat_lo (by decide)]; unfold zp; rw [pz_s hv (by decide)]; congr 1; omega
    rw [e] at h
    exact g_S_vatProperty_95 ⟨30 + v * 3 + 2, by show nI 30 + nI v * nI 3 + nI 7 - nI 5 = _; rw [ix4', nI_subk (by omega)]; rfl, by show _ < 105; omega, h⟩
  · have ek : k = 8 := by have := sw_eq (by omega) c; omega
    subst ek
    have e : zvat v 8 z = M 4 (5 + v) := by rw [hM]; unfold zp; rw [pz_p hv]; rfl
    rw [e] at h
    exact g_S_vatProperty_111 ⟨5 + v, ix2 5 v, by show _ < 105; omega, h⟩
theorem c_S_vatProperty_6 {v k : Nat} {z : dz} {M : am_M} {K : am_Q} (hM : M 7 = zp z) (hv : v < 5) (hk : k ≤ 9) (h : K (.inl (some (.int (zvat v k z)))) M) : am_C mt_S_vatProperty [.ref 6, .int (nI v), .int (nI k)] M K := by
  refine am_C_of_R am_S0 om_S_vatProperty rfl [.ref 6, .int (nI v), .int (nI k)] rfl rfl (g_S_vatProperty_0 (c_S_isVat hv ⟨fun c => g_S_vatProperty_9 ?_, fun c => absurd nI1_ne c⟩))
  refine ⟨fun c => ?_, fun c => ?_, fun c => ?_, fun c => ?_, fun c => ?_, fun c => ?_, fun c => ?_, fun c => ?_, fun c => ?_, fun c => ?_, trivial⟩
  · have e9 : k = 9 := by
      rw [nI_toInt (by omega)] at c
      omega
    subst e9
    exact g_S_vatProperty_120 (c_S_limitIn_6 hM hv h)
  · have ek : k = 0 := by have := sw_eq (by omega) c; omega
    subst ek
    have e : zvat v 0 z = M 7 (0 + v) := by rw [hM, zvat_lo (by decide), Nat.zero_add]; unfold zp; rw [pz_c hv]; rfl
    rw [e] at h
    exact g_S_vatProperty_60 ⟨0 + v, ix2 0 v, by show _ < 105; omega, h⟩
  · have ek : k = 1 := by have := sw_eq (by omega) c; omega
    subst ek
    have e : zvat v 1 z = M 7 (10 + v) := by rw [hM, zvat_lo (by decide)]; unfold zp; rw [pz_w hv]; congr 1; omega
    rw [e] at h
    exact g_S_vatProperty_69 ⟨10 + v, ix2 10 v, by show _ < 105; omega, h⟩
  · have ek : k = 2 := by have := sw_eq (by omega) c; omega
    subst ek
    have e : zvat v 2 z = M 7 (15 + v * 3 + 0) := by rw [hM, zvat_lo (by decide)]; unfold zp; rw [pz_d hv (by decide)]; congr 1; omega
    rw [e] at h
    exact g_S_vatProperty_79 ⟨15 + v * 3 + 0, by show nI 15 + nI v * nI 3 + nI 2 - nI 2 = _; rw [ix4', nI_subk (by omega)]; rfl, by show _ < 105; omega, h⟩
  · have ek : k = 3 := by have := sw_eq (by omega) c; omega
    subst ek
    have e : zvat v 3 z = M 7 (15 + v * 3 + 1) := by rw [hM, zvat_lo (by decide)]; unfold zp; rw [pz_d hv (by decide)]; congr 1; omega
    rw [e] at h
    exact g_S_vatProperty_79 ⟨15 + v * 3 + 1, by show nI 15 + nI v * nI 3 + nI 3 - nI 2 = _; rw [ix4', nI_subk (by omega)]; rfl, by show _ < 105; omega, h⟩
  · have ek : k = 4 := by have := sw_eq (by omega) c; omega
    subst ek
    have e : zvat v 4 z = M 7 (15 + v * 3 + 2) := by rw [hM, zvat_lo (by decide)]; unfold zp; rw [pz_d hv (by decide)]; congr 1; omega
    rw [e] at h
    exact g_S_vatProperty_79 ⟨15 + v * 3 + 2, by show nI 15 + nI v * nI 3 + nI 4 - nI 2 = _; rw [ix4', nI_subk (by omega)]; rfl, by show _ < 105; omega, h⟩
  · have ek : k = 5 := by have := sw_eq (by omega) c; omega
    subst ek
    have e : zvat v 5 z = M 7 (30 + v * 3 + 0) := by rw [hM, zvat_lo (by decide)]; unfold zp; rw [pz_s hv (by decide)]; congr 1; omega
    rw [e] at h
    exact g_S_vatProperty_95 ⟨30 + v * 3 + 0, by show nI 30 + nI v * nI 3 + nI 5 - nI 5 = _; rw [ix4', nI_subk (by omega)]; rfl, by show _ < 105; omega, h⟩
  · have ek : k = 6 := by have := sw_eq (by omega) c; omega
    subst ek
    have e : zvat v 6 z = M 7 (30 + v * 3 + 1) := by rw [hM, zvat_lo (by decide)]; unfold zp; rw [pz_s hv (by decide)]; congr 1; omega
    rw [e] at h
    exact g_S_vatProperty_95 ⟨30 + v * 3 + 1, by show nI 30 + nI v * nI 3 + nI 6 - nI 5 = _; rw [ix4', nI_subk (by omega)]; rfl, by show _ < 105; omega, h⟩
  · have ek : k = 7 := by have := sw_eq (by omega) c; omega
    subst ek
    have e : zvat v 7 z = M 7 (30 + v * 3 + 2) := by rw [hM, zvat_lo (by decide)]; unfold zp; rw [pz_s hv (by decide)]; congr 1; omega
    rw [e] at h
    exact g_S_vatProperty_95 ⟨30 + v * 3 + 2, by show nI 30 + nI v * nI 3 + nI 7 - nI 5 = _; rw [ix4', nI_subk (by omega)]; rfl, by show _ < 105; omega, h⟩
  · have ek : k = 8 := by have := sw_eq (by omega) c; omega
    subst ek
    have e : zvat v 8 z = M 7 (5 + v) := by rw [hM]; unfold zp; rw [pz_p hv]; rfl
    rw [e] at h
    exact g_S_vatProperty_111 ⟨5 + v, ix2 5 v, by show _ < 105; omega, h⟩
def m_vatOf (p q : Int32) (w : wS) : mS := if isv p then (if isr q 0 9 then (0, zvat (zn p) (zn q) (w_z w), w) else (2, nI 0, w)) else (1, nI 0, w)
theorem c_V_vatOf {p q : Int32} {w : wS} {M : am_M} {K : am_Q} (hr : vr M w) (h : ∀ M', vr M' (m_vatOf p q w).2.2 → vf M M' → K (oV 0 (m_vatOf p q w).1 (m_vatOf p q w).2.1) M') : am_C mt_V_vatOf [.ref 0, .int p, .int q] M K := by
  unfold m_vatOf at h
  refine am_C_of_R am_S0 om_V_vatOf rfl [.ref 0, .int p, .int q] rfl rfl (g_V_vatOf_0 (c_V_requireVat (fun hv => c_V_requireRange (fun hq => ?_) (fun hq => ?_)) (fun hv => ?_)))
  · have hq' : isr q 0 9 := hq
    rw [if_pos hv, if_pos hq'] at h
    obtain ⟨v, -, hv4, rfl⟩ := isr_nat (a := 0) (b := 4) hv (by decide) (by decide)
    obtain ⟨k, -, hk9, rfl⟩ := isr_nat hq' (by decide) (by decide)
    rw [zn_nI (show v < 2 ^ 31 by omega), zn_nI (show k < 2 ^ 31 by omega)] at h
    exact c_S_vatProperty_1 hr.1 (by omega) hk9 (h M hr (vf_refl M))
  · have hq' : ¬ isr q 0 9 := hq
    rw [if_pos hv, if_neg hq'] at h
    exact h M hr (vf_refl M)
  · rw [if_neg hv] at h
    exact h M hr (vf_refl M)
theorem open_n {k : Nat} {z : dz} (h : ib (z (57 + 6 * k + 3) ≤ zhod z ∧ zhod z ≤ z (57 + 6 * k + 4)) = 0) : ¬ zopen k z := by
  have c := ib_eq0.mp h
  exact c
theorem open_y {k : Nat} {z : dz} (h : ¬ ib (z (57 + 6 * k + 3) ≤ zhod z ∧ zhod z ≤ z (57 + 6 * k + 4)) = 0) : zopen k z := Classical.not_not.mp fun q => h (ib_eq0.mpr q)
noncomputable def ztol (k i : Nat) (z : dz) : Int32 := by
  classical exact if i < 5 then z (57 + 6 * k + i) else if i = 6 then z (57 + 6 * k + 5) else if zopen k z then nI 1 else nI 0
theorem c_S_valveProperty_1 {k i : Nat} {z : dz} {M : am_M} {K : am_Q} (hM : M 2 = zp z) (hk : k < 8) (hi : i ≤ 6) (h : K (.inl (some (.int (ztol k i z)))) M) : am_C mt_S_valveProperty [.ref 1, .int (nI k), .int (nI i)] M K := by
  have ev : nI 57 + nI k * nI 6 = nI (57 + 6 * k) := by rw [ix3', Nat.mul_comm]
  have j : ∀ a, (nI 57 + nI k * nI 6) + nI a = nI (57 + 6 * k + a) := fun a => by rw [ev, ix2]
  have lo : ∀ a, a < 5 → i = a → K (.inl (some (.int (M 2 (57 + 6 * k + a))))) M := by
    intro a ha e
    subst e
    unfold ztol at h
    rw [if_pos ha] at h
    have e2 : M 2 (57 + 6 * k + i) = z (57 + 6 * k + i) := by rw [hM]; unfold zp; rw [pz_hi (by omega)]
    rw [e2]
    exact h
  refine am_C_of_R am_S0 om_S_valveProperty rfl [.ref 1, .int (nI k), .int (nI i), .null] rfl rfl (g_S_valveProperty_0 ⟨fun c => absurd c (nI_pos (by omega)), fun c => ⟨fun c2 => g_S_valveProperty_12 ?_, fun c2 => absurd ((nI_lti (by omega) (by decide)).mpr hk) c2⟩⟩)
  refine ⟨fun c => ?_, fun c => ?_, fun c => ?_, fun c => ?_, fun c => ?_, fun c => ?_, fun c => ?_, trivial⟩
  · have e6 : i = 6 := by
      rw [nI_toInt (by omega)] at c
      omega
    subst e6
    unfold ztol at h
    rw [if_neg (by decide), if_pos rfl] at h
    have e2 : M 2 (57 + 6 * k + 5) = z (57 + 6 * k + 5) := by rw [hM]; unfold zp; rw [pz_hi (by omega)]
    rw [← e2] at h
    exact g_S_valveProperty_123 ⟨57 + 6 * k + 5, j 5, by show _ < 105; omega, h⟩
  · have ek : i = 0 := by have := sw_eq (by omega) c; omega
    exact g_S_valveProperty_60 ⟨57 + 6 * k + 0, j 0, by show _ < 105; omega, lo 0 (by decide) ek⟩
  · have ek : i = 1 := by have := sw_eq (by omega) c; omega
    exact g_S_valveProperty_69 ⟨57 + 6 * k + 1, j 1, by show _ < 105; omega, lo 1 (by decide) ek⟩
  · have ek : i = 2 := by have := sw_eq (by omega) c; omega
    exact g_S_valveProperty_78 ⟨57 + 6 * k + 2, j 2, by show _ < 105; omega, lo 2 (by decide) ek⟩
  · have ek : i = 3 := by have := sw_eq (by omega) c; omega
    exact g_S_valveProperty_87 ⟨57 + 6 * k + 3, j 3, by show _ < 105; omega, lo 3 (by decide) ek⟩
  · have ek : i = 4 := by have := sw_eq (by omega) c; omega
    exact g_S_valveProperty_96 ⟨57 + 6 * k + 4, j 4, by show _ < 105; omega, lo 4 (by decide) ek⟩
  · have ek : i = 5 := by have := sw_eq (by omega) c; omega
    subst ek
    unfold ztol at h
    rw [if_neg (by decide), if_neg (by decide)] at h
    refine g_S_valveProperty_105 (c_S_hourOfDay_1 hM ?_)
    show am_C mt_S_isOpen [.ref 1, .int (nI 57 + nI k * nI 6), .int (zhod z)] _ _
    rw [ev]
    refine c_S_isOpen_1 hM hk ⟨fun c3 => ?_, fun c3 => ?_⟩
    · have c4 : ¬ zopen k z := open_n c3
      rw [if_neg c4] at h
      exact g_S_valveProperty_121 (g_S_valveProperty_122 h)
    · have c4 : zopen k z := open_y c3
      rw [if_pos c4] at h
      exact g_S_valveProperty_122 h
theorem c_S_valveProperty_3 {k i : Nat} {z : dz} {M : am_M} {K : am_Q} (hM : M 4 = zp z) (hk : k < 8) (hi : i ≤ 6) (h : K (.inl (some (.int (ztol k i z)))) M) : am_C mt_S_valveProperty [.ref 3, .int (nI k), .int (nI i)] M K := by
  have ev : nI 57 + nI k * nI 6 = nI (57 + 6 * k) := by rw [ix3', Nat.mul_comm]
  have j : ∀ a, (nI 57 + nI k * nI 6) + nI a = nI (57 + 6 * k + a) := fun a => by rw [ev, ix2]
  have lo : ∀ a, a < 5 → i = a → K (.inl (some (.int (M 4 (57 + 6 * k + a))))) M := by
    intro a ha e
    subst e
    unfold ztol at h
    rw [if_pos ha] at h
    have e2 : M 4 (57 + 6 * k + i) = z (57 + 6 * k + i) := by rw [hM]; unfold zp; rw [pz_hi (by omega)]
    rw [e2]
    exact h
  refine am_C_of_R am_S0 om_S_valveProperty rfl [.ref 3, .int (nI k), .int (nI i), .null] rfl rfl (g_S_valveProperty_0 ⟨fun c => absurd c (nI_pos (by omega)), fun c => ⟨fun c2 => g_S_valveProperty_12 ?_, fun c2 => absurd ((nI_lti (by omega) (by decide)).mpr hk) c2⟩⟩)
  refine ⟨fun c => ?_, fun c => ?_, fun c => ?_, fun c => ?_, fun c => ?_, fun c => ?_, fun c => ?_, trivial⟩
  · have e6 : i = 6 := by
      rw [nI_toInt (by omega)] at c
      omega
    subst e6
    unfold ztol at h
    rw [if_neg (by decide), if_pos rfl] at h
    have e2 : M 4 (57 + 6 * k + 5) = z (57 + 6 * k + 5) := by rw [hM]; unfold zp; rw [pz_hi (by omega)]
    rw [← e2] at h
    exact g_S_valveProperty_123 ⟨57 + 6 * k + 5, j 5, by show _ < 105; omega, h⟩
  · have ek : i = 0 := by have := sw_eq (by omega) c; omega
    exact g_S_valveProperty_60 ⟨57 + 6 * k + 0, j 0, by show _ < 105; omega, lo 0 (by decide) ek⟩
  · have ek : i = 1 := by have := sw_eq (by omega) c; omega
    exact g_S_valveProperty_69 ⟨57 + 6 * k + 1, j 1, by show _ < 105; omega, lo 1 (by decide) ek⟩
  · have ek : i = 2 := by have := sw_eq (by omega) c; omega
    exact g_S_valveProperty_78 ⟨57 + 6 * k + 2, j 2, by show _ < 105; omega, lo 2 (by decide) ek⟩
  · have ek : i = 3 := by have := sw_eq (by omega) c; omega
    exact g_S_valveProperty_87 ⟨57 + 6 * k + 3, j 3, by show _ < 105; omega, lo 3 (by decide) ek⟩
  · have ek : i = 4 := by have := sw_eq (by omega) c; omega
    exact g_S_valveProperty_96 ⟨57 + 6 * k + 4, j 4, by show _ < 105; omega, lo 4 (by decide) ek⟩
  · have ek : i = 5 := by have := sw_eq (by omega) c; omega
    subst ek
    unfold ztol at h
    rw [if_neg (by decide), if_neg (by decide)] at h
    refine g_S_valveProperty_105 (c_S_hourOfDay_3 hM ?_)
    show am_C mt_S_isOpen [.ref 3, .int (nI 57 + nI k * nI 6), .int (zhod z)] _ _
    rw [ev]
    refine c_S_isOpen_3 hM hk ⟨fun c3 => ?_, fun c3 => ?_⟩
    · have c4 : ¬ zopen k z := open_n c3
      rw [if_neg c4] at h
      exact g_S_valveProperty_121 (g_S_valveProperty_122 h)
    · have c4 : zopen k z := open_y c3
      rw [if_pos c4] at h
      exact g_S_valveProperty_122 h
theorem c_S_valveProperty_6 {k i : Nat} {z : dz} {M : am_M} {K : am_Q} (hM : M 7 = zp z) (hk : k < 8) (hi : i ≤ 6) (h : K (.inl (some (.int (ztol k i z)))) M) : am_C mt_S_valveProperty [.ref 6, .int (nI k), .int (nI i)] M K := by
  have ev : nI 57 + nI k * nI 6 = nI (57 + 6 * k) := by rw [ix3', Nat.mul_comm]
  have j : ∀ a, (nI 57 + nI k * nI 6) + nI a = nI (57 + 6 * k + a) := fun a => by rw [ev, ix2]
  have lo : ∀ a, a < 5 → i = a → K (.inl (some (.int (M 7 (57 + 6 * k + a))))) M := by
    intro a ha e
    subst e
    unfold ztol at h
    rw [if_pos ha] at h
    have e2 : M 7 (57 + 6 * k + i) = z (57 + 6 * k + i) := by rw [hM]; unfold zp; rw [pz_hi (by omega)]
    rw [e2]
    exact h
  refine am_C_of_R am_S0 om_S_valveProperty rfl [.ref 6, .int (nI k), .int (nI i), .null] rfl rfl (g_S_valveProperty_0 ⟨fun c => absurd c (nI_pos (by omega)), fun c => ⟨fun c2 => g_S_valveProperty_12 ?_, fun c2 => absurd ((nI_lti (by omega) (by decide)).mpr hk) c2⟩⟩)
  refine ⟨fun c => ?_, fun c => ?_, fun c => ?_, fun c => ?_, fun c => ?_, fun c => ?_, fun c => ?_, trivial⟩
  · have e6 : i = 6 := by
      rw [nI_toInt (by omega)] at c
      omega
    subst e6
    unfold ztol at h
    rw [if_neg (by decide), if_pos rfl] at h
    have e2 : M 7 (57 + 6 * k + 5) = z (57 + 6 * k + 5) := by rw [hM]; unfold zp; rw [pz_hi (by omega)]
    rw [← e2] at h
    exact g_S_valveProperty_123 ⟨57 + 6 * k + 5, j 5, by show _ < 105; omega, h⟩
  · have ek : i = 0 := by have := sw_eq (by omega) c; omega
    exact g_S_valveProperty_60 ⟨57 + 6 * k + 0, j 0, by show _ < 105; omega, lo 0 (by decide) ek⟩
  · have ek : i = 1 := by have := sw_eq (by omega) c; omega
    exact g_S_valveProperty_69 ⟨57 + 6 * k + 1, j 1, by show _ < 105; omega, lo 1 (by decide) ek⟩
  · have ek : i = 2 := by have := sw_eq (by omega) c; omega
    exact g_S_valveProperty_78 ⟨57 + 6 * k + 2, j 2, by show _ < 105; omega, lo 2 (by decide) ek⟩
  · have ek : i = 3 := by have := sw_eq (by omega) c; omega
    exact g_S_valveProperty_87 ⟨57 + 6 * k + 3, j 3, by show _ < 105; omega, lo 3 (by decide) ek⟩
  · have ek : i = 4 := by have := sw_eq (by omega) c; omega
    exact g_S_valveProperty_96 ⟨57 + 6 * k + 4, j 4, by show _ < 105; omega, lo 4 (by decide) ek⟩
  · have ek : i = 5 := by have := sw_eq (by omega) c; omega
    subst ek
    unfold ztol at h
    rw [if_neg (by decide), if_neg (by decide)] at h
    refine g_S_valveProperty_105 (c_S_hourOfDay_6 hM ?_)
    show am_C mt_S_isOpen [.ref 6, .int (nI 57 + nI k * nI 6), .int (zhod z)] _ _
    rw [ev]
    refine c_S_isOpen_6 hM hk ⟨fun c3 => ?_, fun c3 => ?_⟩
    · have c4 : ¬ zopen k z := open_n c3
      rw [if_neg c4] at h
      exact g_S_valveProperty_121 (g_S_valveProperty_122 h)
    · have c4 : zopen k z := open_y c3
      rw [if_pos c4] at h
      exact g_S_valveProperty_122 h
noncomputable def m_valveOf (p q : Int32) (w : wS) : mS := if nI 0 ≤ p ∧ p ≤ w_z w 5 - nI 1 then (if isr q 0 6 then (0, ztol (zn p) (zn q) (w_z w), w) else (2, nI 0, w)) else (1, nI 0, w)
theorem c_V_valveOf {n : Nat} {p q : Int32} {w : wS} {M : am_M} {K : am_Q} (hr : vr M w) (hk : wk n w) (h : ∀ M', vr M' (m_valveOf p q w).2.2 → vf M M' → K (oV 0 (m_valveOf p q w).1 (m_valveOf p q w).2.1) M') : am_C mt_V_valveOf [.ref 0, .int p, .int q] M K := by
  obtain ⟨m, hm8, hm, -⟩ := hk.1.1.2.2.2.2.2
  unfold m_valveOf at h
  rw [hm] at h
  refine am_C_of_R am_S0 om_V_valveOf rfl [.ref 0, .int p, .int q] rfl rfl (g_V_valveOf_0 (c_V_requireValve hr hm hm8 (fun hv => c_V_requireRange (fun hq => ?_) (fun hq => ?_)) (fun hv => ?_)))
  · have hq' : isr q 0 6 := hq
    rw [if_pos hv, if_pos hq'] at h
    obtain ⟨v, hv4, rfl⟩ := isl_nat hm8 hv
    obtain ⟨k, -, hk9, rfl⟩ := isr_nat hq' (by decide) (by decide)
    rw [zn_nI (show v < 2 ^ 31 by omega), zn_nI (show k < 2 ^ 31 by omega)] at h
    exact c_S_valveProperty_1 hr.1 (by omega) hk9 (h M hr (vf_refl M))
  · have hq' : ¬ isr q 0 6 := hq
    rw [if_pos hv, if_neg hq'] at h
    exact h M hr (vf_refl M)
  · rw [if_neg hv] at h
    exact h M hr (vf_refl M)
end
section
/-! looks: dyeOf, count -/
def zsum (f : Nat → Int32) : Nat → Int32
  | 0 => nI 0
  | k + 1 => zsum f k + f k
theorem zsum_eq {f g : Nat → Int32} {n : Nat} (h : ∀ k, k < n → f k = g k) : ∀ k, k ≤ n → zsum f k = zsum g k
  | 0, _ => rfl
  | k + 1, hk => by
    show zsum f k + f k = zsum g k + g k
    rw [zsum_eq h k (by omega), h k (by omega)]
def zin (a : Nat) (z : dz) : Int32 := zsum (fun v => z (17 + 8 * v + a)) 5
theorem c_S_grainsInAll_1 {a b : Nat} {z : dz} {M : am_M} {K : am_Q} (hM : M 2 = zp z) (ha : a ≤ 32) (hab : ∀ v, v < 5 → pz (a + v * 3) = 17 + 8 * v + b) (h : K (.inl (some (.int (zin b z)))) M) : am_C mt_S_grainsInAll [.ref 1, .int (nI a)] M K := by
  refine am_C_of_R am_S0 om_S_grainsInAll rfl [.ref 1, .int (nI a), .null, .null, .null] rfl rfl (g_S_grainsInAll_0 ?_)
  refine am_R_le (xs := [.ref 1, .int (nI a), .int (zsum (fun v => z (17 + 8 * v + b)) 0), .int (nI 0), .null]) (by repeat' (first | exact trivial | exact Or.inr rfl | exact Or.inl rfl | exact Or.inr (congrArg Value.int (nI_succ _)) | refine ⟨?_, ?_⟩)) ?_
  refine lu (P := fun i => am_R am_S0 mt_S_grainsInAll 1 4 [.ref 1, .int (nI a), .int (zsum (fun v => z (17 + 8 * v + b)) i), .int (nI i), .null] [] M K) 5 ?_ ?_
  · exact g_S_grainsInAll_4 ⟨fun c => g_S_grainsInAll_44 h, fun c => absurd (i_le (Nat.le_refl 5) (by decide)) c⟩
  · intro i hi ih
    have ei : nI a + nI i * nI 3 = nI (a + i * 3) := ix3' a 3 i
    have e : z (17 + 8 * i + b) = M 2 (a + i * 3) := by rw [hM]; unfold zp; rw [hab i hi]
    have es : zsum (fun v => z (17 + 8 * v + b)) (i + 1) = zsum (fun v => z (17 + 8 * v + b)) i + z (17 + 8 * i + b) := rfl
    rw [es, e] at ih
    refine g_S_grainsInAll_4 ⟨fun c => absurd c (i_nge hi (by decide)), fun c => ⟨fun c2 => absurd ?_ (nI_pos (show a + i * 3 < 2 ^ 31 by omega)), fun c2 => ⟨fun c3 => absurd ?_ (i_nge (show a + i * 3 < 105 by omega) (by decide)), fun c3 => ⟨a + i * 3, ei, by show _ < 105; omega, g_S_grainsInAll_38 (am_R_le (by repeat' (first | exact trivial | exact Or.inr rfl | exact Or.inl rfl | exact Or.inr (congrArg Value.int (nI_succ _)) | refine ⟨?_, ?_⟩)) ih)⟩⟩⟩⟩
    · have c4 : nI a + nI i * nI 3 < 0 := c2
      rw [ei] at c4
      exact c4
    · have c4 : nI 105 ≤ nI a + nI i * nI 3 := c3
      rw [ei] at c4
      exact c4
theorem c_S_waterInAll_1 {z : dz} {M : am_M} {K : am_Q} (hM : M 2 = zp z) (h : K (.inl (some (.int (zin 1 z)))) M) : am_C mt_S_waterInAll [.ref 1] M K := by
  refine am_C_of_R am_S0 om_S_waterInAll rfl [.ref 1, .null, .null] rfl rfl (g_S_waterInAll_0 ?_)
  refine am_R_le (xs := [.ref 1, .int (zsum (fun v => z (17 + 8 * v + 1)) 0), .int (nI 0)]) (by repeat' (first | exact trivial | exact Or.inr rfl | exact Or.inl rfl | exact Or.inr (congrArg Value.int (nI_succ _)) | refine ⟨?_, ?_⟩)) ?_
  refine lu (P := fun i => am_R am_S0 mt_S_waterInAll 1 4 [.ref 1, .int (zsum (fun v => z (17 + 8 * v + 1)) i), .int (nI i)] [] M K) 5 ?_ ?_
  · exact g_S_waterInAll_4 ⟨fun c => g_S_waterInAll_27 h, fun c => absurd (i_le (Nat.le_refl 5) (by decide)) c⟩
  · intro i hi ih
    have e : z (17 + 8 * i + 1) = M 2 (10 + i) := by rw [hM]; unfold zp; rw [pz_w hi]; congr 1; omega
    have es : zsum (fun v => z (17 + 8 * v + 1)) (i + 1) = zsum (fun v => z (17 + 8 * v + 1)) i + z (17 + 8 * i + 1) := rfl
    rw [es, e] at ih
    exact g_S_waterInAll_4 ⟨fun c => absurd c (i_nge hi (by decide)), fun c => ⟨10 + i, ix2 10 i, by show _ < 105; omega, am_R_le (by repeat' (first | exact trivial | exact Or.inr rfl | exact Or.inl rfl | exact Or.inr (congrArg Value.int (nI_succ _)) | refine ⟨?_, ?_⟩)) ih⟩⟩
theorem c_S_grainsInAll_3 {a b : Nat} {z : dz} {M : am_M} {K : am_Q} (hM : M 4 = zp z) (ha : a ≤ 32) (hab : ∀ v, v < 5 → pz (a + v * 3) = 17 + 8 * v + b) (h : K (.inl (some (.int (zin b z)))) M) : am_C mt_S_grainsInAll [.ref 3, .int (nI a)] M K := by
  refine am_C_of_R am_S0 om_S_grainsInAll rfl [.ref 3, .int (nI a), .null, .null, .null] rfl rfl (g_S_grainsInAll_0 ?_)
  refine am_R_le (xs := [.ref 3, .int (nI a), .int (zsum (fun v => z (17 + 8 * v + b)) 0), .int (nI 0), .null]) (by repeat' (first | exact trivial | exact Or.inr rfl | exact Or.inl rfl | exact Or.inr (congrArg Value.int (nI_succ _)) | refine ⟨?_, ?_⟩)) ?_
  refine lu (P := fun i => am_R am_S0 mt_S_grainsInAll 1 4 [.ref 3, .int (nI a), .int (zsum (fun v => z (17 + 8 * v + b)) i), .int (nI i), .null] [] M K) 5 ?_ ?_
  · exact g_S_grainsInAll_4 ⟨fun c => g_S_grainsInAll_44 h, fun c => absurd (i_le (Nat.le_refl 5) (by decide)) c⟩
  · intro i hi ih
    have ei : nI a + nI i * nI 3 = nI (a + i * 3) := ix3' a 3 i
    have e : z (17 + 8 * i + b) = M 4 (a + i * 3) := by rw [hM]; unfold zp; rw [hab i hi]
    have es : zsum (fun v => z (17 + 8 * v + b)) (i + 1) = zsum (fun v => z (17 + 8 * v + b)) i + z (17 + 8 * i + b) := rfl
    rw [es, e] at ih
    refine g_S_grainsInAll_4 ⟨fun c => absurd c (i_nge hi (by decide)), fun c => ⟨fun c2 => absurd ?_ (nI_pos (show a + i * 3 < 2 ^ 31 by omega)), fun c2 => ⟨fun c3 => absurd ?_ (i_nge (show a + i * 3 < 105 by omega) (by decide)), fun c3 => ⟨a + i * 3, ei, by show _ < 105; omega, g_S_grainsInAll_38 (am_R_le (by repeat' (first | exact trivial | exact Or.inr rfl | exact Or.inl rfl | exact Or.inr (congrArg Value.int (nI_succ _)) | refine ⟨?_, ?_⟩)) ih)⟩⟩⟩⟩
    · have c4 : nI a + nI i * nI 3 < 0 := c2
      rw [ei] at c4
      exact c4
    · have c4 : nI 105 ≤ nI a + nI i * nI 3 := c3
      rw [ei] at c4
      exact c4
theorem c_S_waterInAll_3 {z : dz} {M : am_M} {K : am_Q} (hM : M 4 = zp z) (h : K (.inl (some (.int (zin 1 z)))) M) : am_C mt_S_waterInAll [.ref 3] M K := by
  refine am_C_of_R am_S0 om_S_waterInAll rfl [.ref 3, .null, .null] rfl rfl (g_S_waterInAll_0 ?_)
  refine am_R_le (xs := [.ref 3, .int (zsum (fun v => z (17 + 8 * v + 1)) 0), .int (nI 0)]) (by repeat' (first | exact trivial | exact Or.inr rfl | exact Or.inl rfl | exact Or.inr (congrArg Value.int (nI_succ _)) | refine ⟨?_, ?_⟩)) ?_
  refine lu (P := fun i => am_R am_S0 mt_S_waterInAll 1 4 [.ref 3, .int (zsum (fun v => z (17 + 8 * v + 1)) i), .int (nI i)] [] M K) 5 ?_ ?_
  · exact g_S_waterInAll_4 ⟨fun c => g_S_waterInAll_27 h, fun c => absurd (i_le (Nat.le_refl 5) (by decide)) c⟩
  · intro i hi ih
    have e : z (17 + 8 * i + 1) = M 4 (10 + i) := by rw [hM]; unfold zp; rw [pz_w hi]; congr 1; omega
    have es : zsum (fun v => z (17 + 8 * v + 1)) (i + 1) = zsum (fun v => z (17 + 8 * v + 1)) i + z (17 + 8 * i + 1) := rfl
    rw [es, e] at ih
    exact g_S_waterInAll_4 ⟨fun c => absurd c (i_nge hi (by decide)), fun c => ⟨10 + i, ix2 10 i, by show _ < 105; omega, am_R_le (by repeat' (first | exact trivial | exact Or.inr rfl | exact Or.inl rfl | exact Or.inr (congrArg Value.int (nI_succ _)) | refine ⟨?_, ?_⟩)) ih⟩⟩
theorem c_S_grainsInAll_6 {a b : Nat} {z : dz} {M : am_M} {K : am_Q} (hM : M 7 = zp z) (ha : a ≤ 32) (hab : ∀ v, v < 5 → pz (a + v * 3) = 17 + 8 * v + b) (h : K (.inl (some (.int (zin b z)))) M) : am_C mt_S_grainsInAll [.ref 6, .int (nI a)] M K := by
  refine am_C_of_R am_S0 om_S_grainsInAll rfl [.ref 6, .int (nI a), .null, .null, .null] rfl rfl (g_S_grainsInAll_0 ?_)
  refine am_R_le (xs := [.ref 6, .int (nI a), .int (zsum (fun v => z (17 + 8 * v + b)) 0), .int (nI 0), .null]) (by repeat' (first | exact trivial | exact Or.inr rfl | exact Or.inl rfl | exact Or.inr (congrArg Value.int (nI_succ _)) | refine ⟨?_, ?_⟩)) ?_
  refine lu (P := fun i => am_R am_S0 mt_S_grainsInAll 1 4 [.ref 6, .int (nI a), .int (zsum (fun v => z (17 + 8 * v + b)) i), .int (nI i), .null] [] M K) 5 ?_ ?_
  · exact g_S_grainsInAll_4 ⟨fun c => g_S_grainsInAll_44 h, fun c => absurd (i_le (Nat.le_refl 5) (by decide)) c⟩
  · intro i hi ih
    have ei : nI a + nI i * nI 3 = nI (a + i * 3) := ix3' a 3 i
    have e : z (17 + 8 * i + b) = M 7 (a + i * 3) := by rw [hM]; unfold zp; rw [hab i hi]
    have es : zsum (fun v => z (17 + 8 * v + b)) (i + 1) = zsum (fun v => z (17 + 8 * v + b)) i + z (17 + 8 * i + b) := rfl
    rw [es, e] at ih
    refine g_S_grainsInAll_4 ⟨fun c => absurd c (i_nge hi (by decide)), fun c => ⟨fun c2 => absurd ?_ (nI_pos (show a + i * 3 < 2 ^ 31 by omega)), fun c2 => ⟨fun c3 => absurd ?_ (i_nge (show a + i * 3 < 105 by omega) (by decide)), fun c3 => ⟨a + i * 3, ei, by show _ < 105; omega, g_S_grainsInAll_38 (am_R_le (by repeat' (first | exact trivial | exact Or.inr rfl | exact Or.inl rfl | exact Or.inr (congrArg Value.int (nI_succ _)) | refine ⟨?_, ?_⟩)) ih)⟩⟩⟩⟩
    · have c4 : nI a + nI i * nI 3 < 0 := c2
      rw [ei] at c4
      exact c4
    · have c4 : nI 105 ≤ nI a + nI i * nI 3 := c3
      rw [ei] at c4
      exact c4
theorem c_S_waterInAll_6 {z : dz} {M : am_M} {K : am_Q} (hM : M 7 = zp z) (h : K (.inl (some (.int (zin 1 z)))) M) : am_C mt_S_waterInAll [.ref 6] M K := by
  refine am_C_of_R am_S0 om_S_waterInAll rfl [.ref 6, .null, .null] rfl rfl (g_S_waterInAll_0 ?_)
  refine am_R_le (xs := [.ref 6, .int (zsum (fun v => z (17 + 8 * v + 1)) 0), .int (nI 0)]) (by repeat' (first | exact trivial | exact Or.inr rfl | exact Or.inl rfl | exact Or.inr (congrArg Value.int (nI_succ _)) | refine ⟨?_, ?_⟩)) ?_
  refine lu (P := fun i => am_R am_S0 mt_S_waterInAll 1 4 [.ref 6, .int (zsum (fun v => z (17 + 8 * v + 1)) i), .int (nI i)] [] M K) 5 ?_ ?_
  · exact g_S_waterInAll_4 ⟨fun c => g_S_waterInAll_27 h, fun c => absurd (i_le (Nat.le_refl 5) (by decide)) c⟩
  · intro i hi ih
    have e : z (17 + 8 * i + 1) = M 7 (10 + i) := by rw [hM]; unfold zp; rw [pz_w hi]; congr 1; omega
    have es : zsum (fun v => z (17 + 8 * v + 1)) (i + 1) = zsum (fun v => z (17 + 8 * v + 1)) i + z (17 + 8 * i + 1) := rfl
    rw [es, e] at ih
    exact g_S_waterInAll_4 ⟨fun c => absurd c (i_nge hi (by decide)), fun c => ⟨10 + i, ix2 10 i, by show _ < 105; omega, am_R_le (by repeat' (first | exact trivial | exact Or.inr rfl | exact Or.inl rfl | exact Or.inr (congrArg Value.int (nI_succ _)) | refine ⟨?_, ?_⟩)) ih⟩⟩
-- the strongest: 0 for none, else the vat's number and 1
def zbs (d : Nat) (z : dz) : Nat → Nat
  | 0 => 0
  | v + 1 => if 0 < z (18 + 8 * v) ∧ (zbs d z v = 0 ∨ z (19 + 8 * (zbs d z v - 1) + d) * z (18 + 8 * v) < z (19 + 8 * v + d) * z (18 + 8 * (zbs d z v - 1))) then v + 1 else zbs d z v
theorem zbs_le (d : Nat) (z : dz) : ∀ v, zbs d z v ≤ v
  | 0 => Nat.le_refl 0
  | v + 1 => by
    unfold zbs
    have := zbs_le d z v
    split <;> omega
theorem bs_neg {b : Nat} (hb : b ≤ 5) : nI b - nI 1 < 0 ↔ b = 0 := by
  have key : ∀ b, b ≤ 5 → (nI b - nI 1 < 0 ↔ b = 0) := by decide +kernel
  exact key b hb
theorem bs_pos {b : Nat} (hb : b ≠ 0) : nI b - nI 1 = nI (b - 1) := nI_sub1 (by omega)
theorem c_S_strongestVat_1 {d : Nat} {z : dz} {M : am_M} {K : am_Q} (hM : M 2 = zp z) (hd : d < 3) (h : K (.inl (some (.int (nI (zbs d z 5) - nI 1)))) M) : am_C mt_S_strongestVat [.ref 1, .int (nI d)] M K := by
  refine am_C_of_R am_S0 om_S_strongestVat rfl [.ref 1, .int (nI d), .null, .null, .null, .null, .null, .null] rfl rfl (g_S_strongestVat_0 ⟨fun c => absurd c (nI_pos (by omega)), fun c => ⟨fun c2 => g_S_strongestVat_11 ?_, fun c2 => absurd ((nI_lti (by omega) (by decide)).mpr hd) c2⟩⟩)
  have e0 : nI (zbs d z 0) - nI 1 = -nI 1 := (show nI 0 - nI 1 = -nI 1 by decide +kernel)
  refine am_R_le (xs := [.ref 1, .int (nI d), .int (-nI 1), .int (if zbs d z 0 = 0 then nI 0 else z (19 + 8 * (zbs d z 0 - 1) + d)), .int (if zbs d z 0 = 0 then nI 1 else z (18 + 8 * (zbs d z 0 - 1))), .int (nI 0), .null, .null]) (by repeat' (first | exact trivial | exact Or.inr rfl | exact Or.inl rfl | exact Or.inr (congrArg Value.int (nI_succ _)) | refine ⟨?_, ?_⟩)) ?_
  rw [← e0]
  refine lu (P := fun i => am_R am_S0 mt_S_strongestVat 1 21 [.ref 1, .int (nI d), .int (nI (zbs d z i) - nI 1), .int (if zbs d z i = 0 then nI 0 else z (19 + 8 * (zbs d z i - 1) + d)), .int (if zbs d z i = 0 then nI 1 else z (18 + 8 * (zbs d z i - 1))), .int (nI i), .null, .null] [] M K) 5 ?_ ?_
  · exact g_S_strongestVat_21 ⟨fun c => g_S_strongestVat_93 h, fun c => absurd (i_le (Nat.le_refl 5) (by decide)) c⟩
  · intro v hv ih
    have hb := zbs_le d z v
    have eb : zbs d z (v + 1) = if 0 < z (18 + 8 * v) ∧ (zbs d z v = 0 ∨ z (19 + 8 * (zbs d z v - 1) + d) * z (18 + 8 * v) < z (19 + 8 * v + d) * z (18 + 8 * (zbs d z v - 1))) then v + 1 else zbs d z v := rfl
    rw [eb] at ih
    generalize zbs d z v = b at hb ih ⊢
    have ew : M 2 (10 + v) = z (18 + 8 * v) := by rw [hM]; unfold zp; rw [pz_w hv]
    have eg : M 2 (15 + v * 3 + d) = z (19 + 8 * v + d) := by rw [hM]; unfold zp; rw [pz_d hv hd]
    have no : ∀ x y, ¬ (0 < z (18 + 8 * v) ∧ (b = 0 ∨ z (19 + 8 * (b - 1) + d) * z (18 + 8 * v) < z (19 + 8 * v + d) * z (18 + 8 * (b - 1)))) → am_R am_S0 mt_S_strongestVat 1 87 [.ref 1, .int (nI d), .int (nI b - nI 1), .int (if b = 0 then nI 0 else z (19 + 8 * (b - 1) + d)), .int (if b = 0 then nI 1 else z (18 + 8 * (b - 1))), .int (nI v), .int x, .int y] [] M K := by
      intro x y c
      rw [if_neg c] at ih
      exact g_S_strongestVat_87 (am_R_le (by repeat' (first | exact trivial | exact Or.inr rfl | exact Or.inl rfl | exact Or.inr (congrArg Value.int (nI_succ _)) | refine ⟨?_, ?_⟩)) ih)
    have yes : (0 < z (18 + 8 * v) ∧ (b = 0 ∨ z (19 + 8 * (b - 1) + d) * z (18 + 8 * v) < z (19 + 8 * v + d) * z (18 + 8 * (b - 1)))) → am_R am_S0 mt_S_strongestVat 1 77 [.ref 1, .int (nI d), .int (nI b - nI 1), .int (if b = 0 then nI 0 else z (19 + 8 * (b - 1) + d)), .int (if b = 0 then nI 1 else z (18 + 8 * (b - 1))), .int (nI v), .int (M 2 (10 + v)), .int (M 2 (15 + v * 3 + d))] [] M K := by
      intro c
      rw [if_pos c, nI_sub1 (by omega), if_neg (by omega), if_neg (by omega), Nat.add_sub_cancel, ← ew, ← eg] at ih
      exact g_S_strongestVat_77 (g_S_strongestVat_87 (am_R_le (by repeat' (first | exact trivial | exact Or.inr rfl | exact Or.inl rfl | exact Or.inr (congrArg Value.int (nI_succ _)) | refine ⟨?_, ?_⟩)) ih))
    refine g_S_strongestVat_21 ⟨fun c => absurd c (i_nge hv (by decide)), fun c => ⟨10 + v, ix2 10 v, by show _ < 105; omega, 15 + v * 3 + d, ix4' 15 3 v d, by show _ < 105; omega, fun c2 => no _ _ fun q => ?_, fun c2 => ⟨fun c3 => yes ⟨?_, Or.inl ?_⟩, fun c3 => ⟨fun c4 => no _ _ fun q => ?_, fun c4 => yes ⟨?_, ?_⟩⟩⟩⟩⟩
    · have c5 : M 2 (10 + v) ≤ 0 := c2
      rw [ew] at c5
      exact Int32.not_le.mpr q.1 c5
    · have c5 : ¬ M 2 (10 + v) ≤ 0 := c2
      rw [ew] at c5
      exact Int32.not_le.mp c5
    · have c5 : nI b - nI 1 = -nI 1 := c3
      exact (bs_neg (by omega)).mp (by rw [c5]; decide +kernel)
    · have hb0 : b ≠ 0 := fun q => c3 (show nI b - nI 1 = -nI 1 by rw [q]; decide +kernel)
      have c5 : M 2 (15 + v * 3 + d) * (if b = 0 then nI 1 else z (18 + 8 * (b - 1))) ≤ (if b = 0 then nI 0 else z (19 + 8 * (b - 1) + d)) * M 2 (10 + v) := c4
      rw [if_neg hb0, if_neg hb0, ew, eg] at c5
      rcases q.2 with q4 | q4
      · exact hb0 q4
      · exact Int32.not_le.mpr q4 c5
    · have c5 : ¬ M 2 (10 + v) ≤ 0 := c2
      rw [ew] at c5
      exact Int32.not_le.mp c5
    · have hb0 : b ≠ 0 := fun q => c3 (show nI b - nI 1 = -nI 1 by rw [q]; decide +kernel)
      have c5 : ¬ M 2 (15 + v * 3 + d) * (if b = 0 then nI 1 else z (18 + 8 * (b - 1))) ≤ (if b = 0 then nI 0 else z (19 + 8 * (b - 1) + d)) * M 2 (10 + v) := c4
      rw [if_neg hb0, if_neg hb0, ew, eg] at c5
      exact Or.inr (Int32.not_le.mp c5)
theorem c_S_strongestVat_3 {d : Nat} {z : dz} {M : am_M} {K : am_Q} (hM : M 4 = zp z) (hd : d < 3) (h : K (.inl (some (.int (nI (zbs d z 5) - nI 1)))) M) : am_C mt_S_strongestVat [.ref 3, .int (nI d)] M K := by
  refine am_C_of_R am_S0 om_S_strongestVat rfl [.ref 3, .int (nI d), .null, .null, .null, .null, .null, .null] rfl rfl (g_S_strongestVat_0 ⟨fun c => absurd c (nI_pos (by omega)), fun c => ⟨fun c2 => g_S_strongestVat_11 ?_, fun c2 => absurd ((nI_lti (by omega) (by decide)).mpr hd) c2⟩⟩)
  have e0 : nI (zbs d z 0) - nI 1 = -nI 1 := (show nI 0 - nI 1 = -nI 1 by decide +kernel)
  refine am_R_le (xs := [.ref 3, .int (nI d), .int (-nI 1), .int (if zbs d z 0 = 0 then nI 0 else z (19 + 8 * (zbs d z 0 - 1) + d)), .int (if zbs d z 0 = 0 then nI 1 else z (18 + 8 * (zbs d z 0 - 1))), .int (nI 0), .null, .null]) (by repeat' (first | exact trivial | exact Or.inr rfl | exact Or.inl rfl | exact Or.inr (congrArg Value.int (nI_succ _)) | refine ⟨?_, ?_⟩)) ?_
  rw [← e0]
  refine lu (P := fun i => am_R am_S0 mt_S_strongestVat 1 21 [.ref 3, .int (nI d), .int (nI (zbs d z i) - nI 1), .int (if zbs d z i = 0 then nI 0 else z (19 + 8 * (zbs d z i - 1) + d)), .int (if zbs d z i = 0 then nI 1 else z (18 + 8 * (zbs d z i - 1))), .int (nI i), .null, .null] [] M K) 5 ?_ ?_
  · exact g_S_strongestVat_21 ⟨fun c => g_S_strongestVat_93 h, fun c => absurd (i_le (Nat.le_refl 5) (by decide)) c⟩
  · intro v hv ih
    have hb := zbs_le d z v
    have eb : zbs d z (v + 1) = if 0 < z (18 + 8 * v) ∧ (zbs d z v = 0 ∨ z (19 + 8 * (zbs d z v - 1) + d) * z (18 + 8 * v) < z (19 + 8 * v + d) * z (18 + 8 * (zbs d z v - 1))) then v + 1 else zbs d z v := rfl
    rw [eb] at ih
    generalize zbs d z v = b at hb ih ⊢
    have ew : M 4 (10 + v) = z (18 + 8 * v) := by rw [hM]; unfold zp; rw [pz_w hv]
    have eg : M 4 (15 + v * 3 + d) = z (19 + 8 * v + d) := by rw [hM]; unfold zp; rw [pz_d hv hd]
    have no : ∀ x y, ¬ (0 < z (18 + 8 * v) ∧ (b = 0 ∨ z (19 + 8 * (b - 1) + d) * z (18 + 8 * v) < z (19 + 8 * v + d) * z (18 + 8 * (b - 1)))) → am_R am_S0 mt_S_strongestVat 1 87 [.ref 3, .int (nI d), .int (nI b - nI 1), .int (if b = 0 then nI 0 else z (19 + 8 * (b - 1) + d)), .int (if b = 0 then nI 1 else z (18 + 8 * (b - 1))), .int (nI v), .int x, .int y] [] M K := by
      intro x y c
      rw [if_neg c] at ih
      exact g_S_strongestVat_87 (am_R_le (by repeat' (first | exact trivial | exact Or.inr rfl | exact Or.inl rfl | exact Or.inr (congrArg Value.int (nI_succ _)) | refine ⟨?_, ?_⟩)) ih)
    have yes : (0 < z (18 + 8 * v) ∧ (b = 0 ∨ z (19 + 8 * (b - 1) + d) * z (18 + 8 * v) < z (19 + 8 * v + d) * z (18 + 8 * (b - 1)))) → am_R am_S0 mt_S_strongestVat 1 77 [.ref 3, .int (nI d), .int (nI b - nI 1), .int (if b = 0 then nI 0 else z (19 + 8 * (b - 1) + d)), .int (if b = 0 then nI 1 else z (18 + 8 * (b - 1))), .int (nI v), .int (M 4 (10 + v)), .int (M 4 (15 + v * 3 + d))] [] M K := by
      intro c
      rw [if_pos c, nI_sub1 (by omega), if_neg (by omega), if_neg (by omega), Nat.add_sub_cancel, ← ew, ← eg] at ih
      exact g_S_strongestVat_77 (g_S_strongestVat_87 (am_R_le (by repeat' (first | exact trivial | exact Or.inr rfl | exact Or.inl rfl | exact Or.inr (congrArg Value.int (nI_succ _)) | refine ⟨?_, ?_⟩)) ih))
    refine g_S_strongestVat_21 ⟨fun c => absurd c (i_nge hv (by decide)), fun c => ⟨10 + v, ix2 10 v, by show _ < 105; omega, 15 + v * 3 + d, ix4' 15 3 v d, by show _ < 105; omega, fun c2 => no _ _ fun q => ?_, fun c2 => ⟨fun c3 => yes ⟨?_, Or.inl ?_⟩, fun c3 => ⟨fun c4 => no _ _ fun q => ?_, fun c4 => yes ⟨?_, ?_⟩⟩⟩⟩⟩
    · have c5 : M 4 (10 + v) ≤ 0 := c2
      rw [ew] at c5
      exact Int32.not_le.mpr q.1 c5
    · have c5 : ¬ M 4 (10 + v) ≤ 0 := c2
      rw [ew] at c5
      exact Int32.not_le.mp c5
    · have c5 : nI b - nI 1 = -nI 1 := c3
      exact (bs_neg (by omega)).mp (by rw [c5]; decide +kernel)
    · have hb0 : b ≠ 0 := fun q => c3 (show nI b - nI 1 = -nI 1 by rw [q]; decide +kernel)
      have c5 : M 4 (15 + v * 3 + d) * (if b = 0 then nI 1 else z (18 + 8 * (b - 1))) ≤ (if b = 0 then nI 0 else z (19 + 8 * (b - 1) + d)) * M 4 (10 + v) := c4
      rw [if_neg hb0, if_neg hb0, ew, eg] at c5
      rcases q.2 with q4 | q4
      · exact hb0 q4
      · exact Int32.not_le.mpr q4 c5
    · have c5 : ¬ M 4 (10 + v) ≤ 0 := c2
      rw [ew] at c5
      exact Int32.not_le.mp c5
    · have hb0 : b ≠ 0 := fun q => c3 (show nI b - nI 1 = -nI 1 by rw [q]; decide +kernel)
      have c5 : ¬ M 4 (15 + v * 3 + d) * (if b = 0 then nI 1 else z (18 + 8 * (b - 1))) ≤ (if b = 0 then nI 0 else z (19 + 8 * (b - 1) + d)) * M 4 (10 + v) := c4
      rw [if_neg hb0, if_neg hb0, ew, eg] at c5
      exact Or.inr (Int32.not_le.mp c5)
theorem c_S_strongestVat_6 {d : Nat} {z : dz} {M : am_M} {K : am_Q} (hM : M 7 = zp z) (hd : d < 3) (h : K (.inl (some (.int (nI (zbs d z 5) - nI 1)))) M) : am_C mt_S_strongestVat [.ref 6, .int (nI d)] M K := by
  refine am_C_of_R am_S0 om_S_strongestVat rfl [.ref 6, .int (nI d), .null, .null, .null, .null, .null, .null] rfl rfl (g_S_strongestVat_0 ⟨fun c => absurd c (nI_pos (by omega)), fun c => ⟨fun c2 => g_S_strongestVat_11 ?_, fun c2 => absurd ((nI_lti (by omega) (by decide)).mpr hd) c2⟩⟩)
  have e0 : nI (zbs d z 0) - nI 1 = -nI 1 := (show nI 0 - nI 1 = -nI 1 by decide +kernel)
  refine am_R_le (xs := [.ref 6, .int (nI d), .int (-nI 1), .int (if zbs d z 0 = 0 then nI 0 else z (19 + 8 * (zbs d z 0 - 1) + d)), .int (if zbs d z 0 = 0 then nI 1 else z (18 + 8 * (zbs d z 0 - 1))), .int (nI 0), .null, .null]) (by repeat' (first | exact trivial | exact Or.inr rfl | exact Or.inl rfl | exact Or.inr (congrArg Value.int (nI_succ _)) | refine ⟨?_, ?_⟩)) ?_
  rw [← e0]
  refine lu (P := fun i => am_R am_S0 mt_S_strongestVat 1 21 [.ref 6, .int (nI d), .int (nI (zbs d z i) - nI 1), .int (if zbs d z i = 0 then nI 0 else z (19 + 8 * (zbs d z i - 1) + d)), .int (if zbs d z i = 0 then nI 1 else z (18 + 8 * (zbs d z i - 1))), .int (nI i), .null, .null] [] M K) 5 ?_ ?_
  · exact g_S_strongestVat_21 ⟨fun c => g_S_strongestVat_93 h, fun c => absurd (i_le (Nat.le_refl 5) (by decide)) c⟩
  · intro v hv ih
    have hb := zbs_le d z v
    have eb : zbs d z (v + 1) = if 0 < z (18 + 8 * v) ∧ (zbs d z v = 0 ∨ z (19 + 8 * (zbs d z v - 1) + d) * z (18 + 8 * v) < z (19 + 8 * v + d) * z (18 + 8 * (zbs d z v - 1))) then v + 1 else zbs d z v := rfl
    rw [eb] at ih
    generalize zbs d z v = b at hb ih ⊢
    have ew : M 7 (10 + v) = z (18 + 8 * v) := by rw [hM]; unfold zp; rw [pz_w hv]
    have eg : M 7 (15 + v * 3 + d) = z (19 + 8 * v + d) := by rw [hM]; unfold zp; rw [pz_d hv hd]
    have no : ∀ x y, ¬ (0 < z (18 + 8 * v) ∧ (b = 0 ∨ z (19 + 8 * (b - 1) + d) * z (18 + 8 * v) < z (19 + 8 * v + d) * z (18 + 8 * (b - 1)))) → am_R am_S0 mt_S_strongestVat 1 87 [.ref 6, .int (nI d), .int (nI b - nI 1), .int (if b = 0 then nI 0 else z (19 + 8 * (b - 1) + d)), .int (if b = 0 then nI 1 else z (18 + 8 * (b - 1))), .int (nI v), .int x, .int y] [] M K := by
      intro x y c
      rw [if_neg c] at ih
      exact g_S_strongestVat_87 (am_R_le (by repeat' (first | exact trivial | exact Or.inr rfl | exact Or.inl rfl | exact Or.inr (congrArg Value.int (nI_succ _)) | refine ⟨?_, ?_⟩)) ih)
    have yes : (0 < z (18 + 8 * v) ∧ (b = 0 ∨ z (19 + 8 * (b - 1) + d) * z (18 + 8 * v) < z (19 + 8 * v + d) * z (18 + 8 * (b - 1)))) → am_R am_S0 mt_S_strongestVat 1 77 [.ref 6, .int (nI d), .int (nI b - nI 1), .int (if b = 0 then nI 0 else z (19 + 8 * (b - 1) + d)), .int (if b = 0 then nI 1 else z (18 + 8 * (b - 1))), .int (nI v), .int (M 7 (10 + v)), .int (M 7 (15 + v * 3 + d))] [] M K := by
      intro c
      rw [if_pos c, nI_sub1 (by omega), if_neg (by omega), if_neg (by omega), Nat.add_sub_cancel, ← ew, ← eg] at ih
      exact g_S_strongestVat_77 (g_S_strongestVat_87 (am_R_le (by repeat' (first | exact trivial | exact Or.inr rfl | exact Or.inl rfl | exact Or.inr (congrArg Value.int (nI_succ _)) | refine ⟨?_, ?_⟩)) ih))
    refine g_S_strongestVat_21 ⟨fun c => absurd c (i_nge hv (by decide)), fun c => ⟨10 + v, ix2 10 v, by show _ < 105; omega, 15 + v * 3 + d, ix4' 15 3 v d, by show _ < 105; omega, fun c2 => no _ _ fun q => ?_, fun c2 => ⟨fun c3 => yes ⟨?_, Or.inl ?_⟩, fun c3 => ⟨fun c4 => no _ _ fun q => ?_, fun c4 => yes ⟨?_, ?_⟩⟩⟩⟩⟩
    · have c5 : M 7 (10 + v) ≤ 0 := c2
      rw [ew] at c5
      exact Int32.not_le.mpr q.1 c5
    · have c5 : ¬ M 7 (10 + v) ≤ 0 := c2
      rw [ew] at c5
      exact Int32.not_le.mp c5
    · have c5 : nI b - nI 1 = -nI 1 := c3
      exact (bs_neg (by omega)).mp (by rw [c5]; decide +kernel)
    · have hb0 : b ≠ 0 := fun q => c3 (show nI b - nI 1 = -nI 1 by rw [q]; decide +kernel)
      have c5 : M 7 (15 + v * 3 + d) * (if b = 0 then nI 1 else z (18 + 8 * (b - 1))) ≤ (if b = 0 then nI 0 else z (19 + 8 * (b - 1) + d)) * M 7 (10 + v) := c4
      rw [if_neg hb0, if_neg hb0, ew, eg] at c5
      rcases q.2 with q4 | q4
      · exact hb0 q4
      · exact Int32.not_le.mpr q4 c5
    · have c5 : ¬ M 7 (10 + v) ≤ 0 := c2
      rw [ew] at c5
      exact Int32.not_le.mp c5
    · have hb0 : b ≠ 0 := fun q => c3 (show nI b - nI 1 = -nI 1 by rw [q]; decide +kernel)
      have c5 : ¬ M 7 (15 + v * 3 + d) * (if b = 0 then nI 1 else z (18 + 8 * (b - 1))) ≤ (if b = 0 then nI 0 else z (19 + 8 * (b - 1) + d)) * M 7 (10 + v) := c4
      rw [if_neg hb0, if_neg hb0, ew, eg] at c5
      exact Or.inr (Int32.not_le.mp c5)
end
section
/-! looks: pipes, dyeOf, count -/
def popc (m : Nat) : Nat := (m.testBit 0).toNat + (m.testBit 1).toNat + (m.testBit 2).toNat + (m.testBit 3).toNat + (m.testBit 4).toNat
def ush (x : Int32) (k : Nat) : Int32 := (x.toUInt32 >>> ((nI k).toUInt32 &&& Int32.toUInt32 31)).toInt32
def bc1 (x : Int32) : Int32 := x - (ush x 1 &&& nI 1431655765)
def bc2 (x : Int32) : Int32 := (x &&& nI 858993459) + (ush x 2 &&& nI 858993459)
def bc3 (x : Int32) : Int32 := (x + ush x 4) &&& nI 252645135
def bc4 (x : Int32) : Int32 := x + ush x 8
def bc5 (x : Int32) : Int32 := x + ush x 16
def bcn (x : Int32) : Int32 := bc5 (bc4 (bc3 (bc2 (bc1 x)))) &&& nI 63
theorem bcn_eq : ∀ m, m < 32 → bcn (nI m) = nI (popc m) := by decide +kernel
theorem c_J_bitCount {m : Nat} {M : am_M} {K : am_Q} (hm : m < 32) (h : K (.inl (some (.int (nI (popc m))))) M) : am_C mt_J_bitCount [.int (nI m)] M K := by
  rw [← bcn_eq m hm] at h
  exact am_C_of_R am_S0 om_J_bitCount rfl [.int (nI m)] rfl rfl (g_J_bitCount_0 h)
-- pairs of vats with a pipe
noncomputable def zpb (z : dz) (a b : Nat) : Nat := by classical exact if zpipe a b z then 1 else 0
noncomputable def zpr (z : dz) (a : Nat) : Nat → Nat
  | 0 => 0
  | k + 1 => zpr z a k + zpb z a (a + 1 + k)
noncomputable def zpt (z : dz) : Nat → Nat
  | 0 => 0
  | a + 1 => zpt z a + zpr z a (4 - a)
theorem zpb_n {z : dz} {a b : Nat} (h : ib (z (6 + a) >>> (nI b &&& 31) &&& nI 1 = nI 1) = 0) : zpb z a b = 0 := by
  have c : ¬ zpipe a b z := by
    have c := ib_eq0.mp h
    exact c
  unfold zpb
  rw [if_neg c]
theorem zpb_y {z : dz} {a b : Nat} (h : ¬ ib (z (6 + a) >>> (nI b &&& 31) &&& nI 1 = nI 1) = 0) : zpb z a b = 1 := by
  have c : zpipe a b z := by
    have c := Classical.not_not.mp fun q => h (ib_eq0.mpr q)
    exact c
  unfold zpb
  rw [if_pos c]
theorem zpb_bit {z : dz} {m a b : Nat} (hz : z (6 + a) = nI m) (hm : m < 32) (hb : b < 5) : zpb z a b = (m.testBit b).toNat := by
  have key : ∀ m, m < 32 → ∀ b, b < 5 → ((nI m >>> (nI b &&& 31) &&& nI 1 = nI 1) ↔ m.testBit b = true) := by decide +kernel
  have k := key m hm b hb
  have e : zpipe a b z ↔ m.testBit b = true := by
    unfold zpipe
    rw [hz]
    exact k
  unfold zpb
  by_cases c : m.testBit b = true
  · rw [if_pos (e.mpr c), c]; rfl
  · rw [if_neg (fun q => c (e.mp q))]
    have : m.testBit b = false := by simpa using c
    rw [this]; rfl
def zpq (m : Nat → Nat) : Nat → Nat
  | 0 => 0
  | v + 1 => zpq m v + popc (m v)
theorem popc_le (m : Nat) : popc m ≤ 5 := by
  unfold popc
  have b : ∀ x : Bool, x.toNat ≤ 1 := fun x => by cases x <;> decide
  have b0 := b (m.testBit 0)
  have b1 := b (m.testBit 1)
  have b2 := b (m.testBit 2)
  have b3 := b (m.testBit 3)
  have b4 := b (m.testBit 4)
  omega
/-- each pipe has two ends -/
theorem zpq_two {z : dz} {m : Nat → Nat} (h1 : ∀ v, v < 5 → z (6 + v) = nI (m v) ∧ m v < 32 ∧ (m v).testBit v = false) (h2 : ∀ v, v < 5 → ∀ u, u < 5 → (m v).testBit u = (m u).testBit v) : zpq m 5 = 2 * zpt z 5 := by
  have eb : ∀ a b, a < 5 → b < 5 → zpb z a b = ((m a).testBit b).toNat := fun a b ha hb => zpb_bit (h1 a ha).1 (h1 a ha).2.1 hb
  have d0 := (h1 0 (by decide)).2.2
  have d1 := (h1 1 (by decide)).2.2
  have d2 := (h1 2 (by decide)).2.2
  have d3 := (h1 3 (by decide)).2.2
  have d4 := (h1 4 (by decide)).2.2
  have s10 := h2 1 (by decide) 0 (by decide)
  have s20 := h2 2 (by decide) 0 (by decide)
  have s30 := h2 3 (by decide) 0 (by decide)
  have s40 := h2 4 (by decide) 0 (by decide)
  have s21 := h2 2 (by decide) 1 (by decide)
  have s31 := h2 3 (by decide) 1 (by decide)
  have s41 := h2 4 (by decide) 1 (by decide)
  have s32 := h2 3 (by decide) 2 (by decide)
  have s42 := h2 4 (by decide) 2 (by decide)
  have s43 := h2 4 (by decide) 3 (by decide)
  have L : zpq m 5 = popc (m 0) + popc (m 1) + popc (m 2) + popc (m 3) + popc (m 4) := by
    show 0 + popc (m 0) + popc (m 1) + popc (m 2) + popc (m 3) + popc (m 4) = _
    omega
  have R : zpt z 5 = (zpb z 0 1 + zpb z 0 2 + zpb z 0 3 + zpb z 0 4) + (zpb z 1 2 + zpb z 1 3 + zpb z 1 4) + (zpb z 2 3 + zpb z 2 4) + zpb z 3 4 := by
    show (((((0 + (0 + zpb z 0 1 + zpb z 0 2 + zpb z 0 3 + zpb z 0 4)) + (0 + zpb z 1 2 + zpb z 1 3 + zpb z 1 4)) + (0 + zpb z 2 3 + zpb z 2 4)) + (0 + zpb z 3 4)) + 0) = _
    omega
  rw [L, R, eb 0 1 (by decide) (by decide), eb 0 2 (by decide) (by decide), eb 0 3 (by decide) (by decide), eb 0 4 (by decide) (by decide), eb 1 2 (by decide) (by decide), eb 1 3 (by decide) (by decide), eb 1 4 (by decide) (by decide), eb 2 3 (by decide) (by decide), eb 2 4 (by decide) (by decide), eb 3 4 (by decide) (by decide)]
  unfold popc
  rw [d0, d1, d2, d3, d4, s10, s20, s30, s40, s21, s31, s41, s32, s42, s43]
  show _
  simp only [Bool.toNat_false]
  omega
theorem c_S_pipesLaid_1 {z : dz} {M : am_M} {K : am_Q} (hM : M 2 = zp z) (hz : zpk z) (h : K (.inl (some (.int (nI (zpt z 5))))) M) : am_C mt_S_pipesLaid [.ref 1] M K := by
  obtain ⟨m, h1, h2⟩ := hz
  have ht := zpq_two h1 h2
  refine am_C_of_R am_S0 om_S_pipesLaid rfl [.ref 1, .null, .null] rfl rfl (g_S_pipesLaid_0 ?_)
  refine am_R_le (xs := [.ref 1, .int (nI (zpq m 0)), .int (nI 0)]) (by repeat' (first | exact trivial | exact Or.inr rfl | exact Or.inl rfl | exact Or.inr (congrArg Value.int (nI_succ _)) | refine ⟨?_, ?_⟩)) ?_
  have hle : ∀ v, v ≤ 5 → zpq m v ≤ 5 * v := by
    intro v
    induction v with
    | zero => intro _; exact Nat.le_refl _
    | succ v ih =>
      intro hv
      have := ih (by omega)
      have := popc_le (m v)
      show zpq m v + popc (m v) ≤ _
      omega
  refine lu (P := fun i => am_R am_S0 mt_S_pipesLaid 1 4 [.ref 1, .int (nI (zpq m i)), .int (nI i)] [] M K) 5 ?_ ?_
  · refine g_S_pipesLaid_4 ⟨fun c => g_S_pipesLaid_29 ⟨nI2_ne, ?_⟩, fun c => absurd (i_le (Nat.le_refl 5) (by decide)) c⟩
    have := hle 5 (Nat.le_refl _)
    have e : nI (zpq m 5) / nI 2 = nI (zpt z 5) := by
      refine ti_ext ?_
      rw [ti_div (by rw [nI_toInt (by omega)]; omega) (by rw [nI_toInt (by omega)]; omega), nI_toInt (by omega), nI_toInt (by omega), nI_toInt (by omega)]
      omega
    rw [← e] at h
    exact h
  · intro i hi ih
    have es : zpq m (i + 1) = zpq m i + popc (m i) := rfl
    rw [es, ← nI_add] at ih
    have e : M 2 (5 + i) = nI (m i) := by rw [hM]; unfold zp; rw [pz_p hi]; exact (h1 i hi).1
    refine g_S_pipesLaid_4 ⟨fun c => absurd c (i_nge hi (by decide)), fun c => ⟨5 + i, ix2 5 i, by show _ < 105; omega, ?_⟩⟩
    show am_C mt_J_bitCount [.int (M 2 (5 + i))] _ _
    rw [e]
    exact c_J_bitCount (h1 i hi).2.1 (am_R_le (by repeat' (first | exact trivial | exact Or.inr rfl | exact Or.inl rfl | exact Or.inr (congrArg Value.int (nI_succ _)) | refine ⟨?_, ?_⟩)) ih)
theorem c_S_pipesLaid_3 {z : dz} {M : am_M} {K : am_Q} (hM : M 4 = zp z) (hz : zpk z) (h : K (.inl (some (.int (nI (zpt z 5))))) M) : am_C mt_S_pipesLaid [.ref 3] M K := by
  obtain ⟨m, h1, h2⟩ := hz
  have ht := zpq_two h1 h2
  refine am_C_of_R am_S0 om_S_pipesLaid rfl [.ref 3, .null, .null] rfl rfl (g_S_pipesLaid_0 ?_)
  refine am_R_le (xs := [.ref 3, .int (nI (zpq m 0)), .int (nI 0)]) (by repeat' (first | exact trivial | exact Or.inr rfl | exact Or.inl rfl | exact Or.inr (congrArg Value.int (nI_succ _)) | refine ⟨?_, ?_⟩)) ?_
  have hle : ∀ v, v ≤ 5 → zpq m v ≤ 5 * v := by
    intro v
    induction v with
    | zero => intro _; exact Nat.le_refl _
    | succ v ih =>
      intro hv
      have := ih (by omega)
      have := popc_le (m v)
      show zpq m v + popc (m v) ≤ _
      omega
  refine lu (P := fun i => am_R am_S0 mt_S_pipesLaid 1 4 [.ref 3, .int (nI (zpq m i)), .int (nI i)] [] M K) 5 ?_ ?_
  · refine g_S_pipesLaid_4 ⟨fun c => g_S_pipesLaid_29 ⟨nI2_ne, ?_⟩, fun c => absurd (i_le (Nat.le_refl 5) (by decide)) c⟩
    have := hle 5 (Nat.le_refl _)
    have e : nI (zpq m 5) / nI 2 = nI (zpt z 5) := by
      refine ti_ext ?_
      rw [ti_div (by rw [nI_toInt (by omega)]; omega) (by rw [nI_toInt (by omega)]; omega), nI_toInt (by omega), nI_toInt (by omega), nI_toInt (by omega)]
      omega
    rw [← e] at h
    exact h
  · intro i hi ih
    have es : zpq m (i + 1) = zpq m i + popc (m i) := rfl
    rw [es, ← nI_add] at ih
    have e : M 4 (5 + i) = nI (m i) := by rw [hM]; unfold zp; rw [pz_p hi]; exact (h1 i hi).1
    refine g_S_pipesLaid_4 ⟨fun c => absurd c (i_nge hi (by decide)), fun c => ⟨5 + i, ix2 5 i, by show _ < 105; omega, ?_⟩⟩
    show am_C mt_J_bitCount [.int (M 4 (5 + i))] _ _
    rw [e]
    exact c_J_bitCount (h1 i hi).2.1 (am_R_le (by repeat' (first | exact trivial | exact Or.inr rfl | exact Or.inl rfl | exact Or.inr (congrArg Value.int (nI_succ _)) | refine ⟨?_, ?_⟩)) ih)
theorem c_S_pipesLaid_6 {z : dz} {M : am_M} {K : am_Q} (hM : M 7 = zp z) (hz : zpk z) (h : K (.inl (some (.int (nI (zpt z 5))))) M) : am_C mt_S_pipesLaid [.ref 6] M K := by
  obtain ⟨m, h1, h2⟩ := hz
  have ht := zpq_two h1 h2
  refine am_C_of_R am_S0 om_S_pipesLaid rfl [.ref 6, .null, .null] rfl rfl (g_S_pipesLaid_0 ?_)
  refine am_R_le (xs := [.ref 6, .int (nI (zpq m 0)), .int (nI 0)]) (by repeat' (first | exact trivial | exact Or.inr rfl | exact Or.inl rfl | exact Or.inr (congrArg Value.int (nI_succ _)) | refine ⟨?_, ?_⟩)) ?_
  have hle : ∀ v, v ≤ 5 → zpq m v ≤ 5 * v := by
    intro v
    induction v with
    | zero => intro _; exact Nat.le_refl _
    | succ v ih =>
      intro hv
      have := ih (by omega)
      have := popc_le (m v)
      show zpq m v + popc (m v) ≤ _
      omega
  refine lu (P := fun i => am_R am_S0 mt_S_pipesLaid 1 4 [.ref 6, .int (nI (zpq m i)), .int (nI i)] [] M K) 5 ?_ ?_
  · refine g_S_pipesLaid_4 ⟨fun c => g_S_pipesLaid_29 ⟨nI2_ne, ?_⟩, fun c => absurd (i_le (Nat.le_refl 5) (by decide)) c⟩
    have := hle 5 (Nat.le_refl _)
    have e : nI (zpq m 5) / nI 2 = nI (zpt z 5) := by
      refine ti_ext ?_
      rw [ti_div (by rw [nI_toInt (by omega)]; omega) (by rw [nI_toInt (by omega)]; omega), nI_toInt (by omega), nI_toInt (by omega), nI_toInt (by omega)]
      omega
    rw [← e] at h
    exact h
  · intro i hi ih
    have es : zpq m (i + 1) = zpq m i + popc (m i) := rfl
    rw [es, ← nI_add] at ih
    have e : M 7 (5 + i) = nI (m i) := by rw [hM]; unfold zp; rw [pz_p hi]; exact (h1 i hi).1
    refine g_S_pipesLaid_4 ⟨fun c => absurd c (i_nge hi (by decide)), fun c => ⟨5 + i, ix2 5 i, by show _ < 105; omega, ?_⟩⟩
    show am_C mt_J_bitCount [.int (M 7 (5 + i))] _ _
    rw [e]
    exact c_J_bitCount (h1 i hi).2.1 (am_R_le (by repeat' (first | exact trivial | exact Or.inr rfl | exact Or.inl rfl | exact Or.inr (congrArg Value.int (nI_succ _)) | refine ⟨?_, ?_⟩)) ih)
-- a dye's numbers
def zdn (d k : Nat) (z : dz) : Int32 := if k = 0 then z (11 + d) else if k = 1 then zin (2 + d) z else if k = 2 then zin (5 + d) z else if k = 3 then z (14 + d) else nI (zbs d z 5) - nI 1
theorem c_S_dyeProperty_1 {d k : Nat} {z : dz} {M : am_M} {K : am_Q} (hM : M 2 = zp z) (hd : d < 3) (hk : k ≤ 4) (h : K (.inl (some (.int (zdn d k z)))) M) : am_C mt_S_dyeProperty [.ref 1, .int (nI d), .int (nI k)] M K := by
  refine am_C_of_R am_S0 om_S_dyeProperty rfl [.ref 1, .int (nI d), .int (nI k)] rfl rfl (g_S_dyeProperty_0 ⟨fun c => absurd c (nI_pos (by omega)), fun c => ⟨fun c2 => g_S_dyeProperty_11 ?_, fun c2 => absurd ((nI_lti (by omega) (by decide)).mpr hd) c2⟩⟩)
  refine ⟨fun c => ?_, fun c => ?_, fun c => ?_, fun c => ?_, fun c => ?_, trivial⟩
  · have e : k = 4 := by rw [nI_toInt (by omega)] at c; omega
    subst e
    exact g_S_dyeProperty_82 (c_S_strongestVat_1 hM hd h)
  · have e : k = 0 := by have := sw_eq (by omega) c; omega
    subst e
    have e2 : M 2 (45 + d) = z (11 + d) := by rw [hM]; unfold zp; rw [pz_i hd]
    have h' : K (.inl (some (.int (z (11 + d))))) M := h
    rw [← e2] at h'
    exact g_S_dyeProperty_44 ⟨45 + d, ix2 45 d, by show _ < 105; omega, h'⟩
  · have e : k = 1 := by have := sw_eq (by omega) c; omega
    subst e
    refine g_S_dyeProperty_54 ?_
    show am_C mt_S_grainsInAll [.ref 1, .int (nI 15 + nI d)] _ _
    rw [ix2]
    exact c_S_grainsInAll_1 (b := 2 + d) hM (by omega) (fun v hv => by rw [show 15 + d + v * 3 = 15 + v * 3 + d by omega, pz_d hv hd]; omega) h
  · have e : k = 2 := by have := sw_eq (by omega) c; omega
    subst e
    refine g_S_dyeProperty_63 ?_
    show am_C mt_S_grainsInAll [.ref 1, .int (nI 30 + nI d)] _ _
    rw [ix2]
    exact c_S_grainsInAll_1 (b := 5 + d) hM (by omega) (fun v hv => by rw [show 30 + d + v * 3 = 30 + v * 3 + d by omega, pz_s hv hd]; omega) h
  · have e : k = 3 := by have := sw_eq (by omega) c; omega
    subst e
    have e2 : M 2 (48 + d) = z (14 + d) := by rw [hM]; unfold zp; rw [pz_o hd]
    have h' : K (.inl (some (.int (z (14 + d))))) M := h
    rw [← e2] at h'
    exact g_S_dyeProperty_72 ⟨48 + d, ix2 48 d, by show _ < 105; omega, h'⟩
theorem c_S_dyeProperty_3 {d k : Nat} {z : dz} {M : am_M} {K : am_Q} (hM : M 4 = zp z) (hd : d < 3) (hk : k ≤ 4) (h : K (.inl (some (.int (zdn d k z)))) M) : am_C mt_S_dyeProperty [.ref 3, .int (nI d), .int (nI k)] M K := by
  refine am_C_of_R am_S0 om_S_dyeProperty rfl [.ref 3, .int (nI d), .int (nI k)] rfl rfl (g_S_dyeProperty_0 ⟨fun c => absurd c (nI_pos (by omega)), fun c => ⟨fun c2 => g_S_dyeProperty_11 ?_, fun c2 => absurd ((nI_lti (by omega) (by decide)).mpr hd) c2⟩⟩)
  refine ⟨fun c => ?_, fun c => ?_, fun c => ?_, fun c => ?_, fun c => ?_, trivial⟩
  · have e : k = 4 := by rw [nI_toInt (by omega)] at c; omega
    subst e
    exact g_S_dyeProperty_82 (c_S_strongestVat_3 hM hd h)
  · have e : k = 0 := by have := sw_eq (by omega) c; omega
    subst e
    have e2 : M 4 (45 + d) = z (11 + d) := by rw [hM]; unfold zp; rw [pz_i hd]
    have h' : K (.inl (some (.int (z (11 + d))))) M := h
    rw [← e2] at h'
    exact g_S_dyeProperty_44 ⟨45 + d, ix2 45 d, by show _ < 105; omega, h'⟩
  · have e : k = 1 := by have := sw_eq (by omega) c; omega
    subst e
    refine g_S_dyeProperty_54 ?_
    show am_C mt_S_grainsInAll [.ref 3, .int (nI 15 + nI d)] _ _
    rw [ix2]
    exact c_S_grainsInAll_3 (b := 2 + d) hM (by omega) (fun v hv => by rw [show 15 + d + v * 3 = 15 + v * 3 + d by omega, pz_d hv hd]; omega) h
  · have e : k = 2 := by have := sw_eq (by omega) c; omega
    subst e
    refine g_S_dyeProperty_63 ?_
    show am_C mt_S_grainsInAll [.ref 3, .int (nI 30 + nI d)] _ _
    rw [ix2]
    exact c_S_grainsInAll_3 (b := 5 + d) hM (by omega) (fun v hv => by rw [show 30 + d + v * 3 = 30 + v * 3 + d by omega, pz_s hv hd]; omega) h
  · have e : k = 3 := by have := sw_eq (by omega) c; omega
    subst e
    have e2 : M 4 (48 + d) = z (14 + d) := by rw [hM]; unfold zp; rw [pz_o hd]
    have h' : K (.inl (some (.int (z (14 + d))))) M := h
    rw [← e2] at h'
    exact g_S_dyeProperty_72 ⟨48 + d, ix2 48 d, by show _ < 105; omega, h'⟩
theorem c_S_dyeProperty_6 {d k : Nat} {z : dz} {M : am_M} {K : am_Q} (hM : M 7 = zp z) (hd : d < 3) (hk : k ≤ 4) (h : K (.inl (some (.int (zdn d k z)))) M) : am_C mt_S_dyeProperty [.ref 6, .int (nI d), .int (nI k)] M K := by
  refine am_C_of_R am_S0 om_S_dyeProperty rfl [.ref 6, .int (nI d), .int (nI k)] rfl rfl (g_S_dyeProperty_0 ⟨fun c => absurd c (nI_pos (by omega)), fun c => ⟨fun c2 => g_S_dyeProperty_11 ?_, fun c2 => absurd ((nI_lti (by omega) (by decide)).mpr hd) c2⟩⟩)
  refine ⟨fun c => ?_, fun c => ?_, fun c => ?_, fun c => ?_, fun c => ?_, trivial⟩
  · have e : k = 4 := by rw [nI_toInt (by omega)] at c; omega
    subst e
    exact g_S_dyeProperty_82 (c_S_strongestVat_6 hM hd h)
  · have e : k = 0 := by have := sw_eq (by omega) c; omega
    subst e
    have e2 : M 7 (45 + d) = z (11 + d) := by rw [hM]; unfold zp; rw [pz_i hd]
    have h' : K (.inl (some (.int (z (11 + d))))) M := h
    rw [← e2] at h'
    exact g_S_dyeProperty_44 ⟨45 + d, ix2 45 d, by show _ < 105; omega, h'⟩
  · have e : k = 1 := by have := sw_eq (by omega) c; omega
    subst e
    refine g_S_dyeProperty_54 ?_
    show am_C mt_S_grainsInAll [.ref 6, .int (nI 15 + nI d)] _ _
    rw [ix2]
    exact c_S_grainsInAll_6 (b := 2 + d) hM (by omega) (fun v hv => by rw [show 15 + d + v * 3 = 15 + v * 3 + d by omega, pz_d hv hd]; omega) h
  · have e : k = 2 := by have := sw_eq (by omega) c; omega
    subst e
    refine g_S_dyeProperty_63 ?_
    show am_C mt_S_grainsInAll [.ref 6, .int (nI 30 + nI d)] _ _
    rw [ix2]
    exact c_S_grainsInAll_6 (b := 5 + d) hM (by omega) (fun v hv => by rw [show 30 + d + v * 3 = 30 + v * 3 + d by omega, pz_s hv hd]; omega) h
  · have e : k = 3 := by have := sw_eq (by omega) c; omega
    subst e
    have e2 : M 7 (48 + d) = z (14 + d) := by rw [hM]; unfold zp; rw [pz_o hd]
    have h' : K (.inl (some (.int (z (14 + d))))) M := h
    rw [← e2] at h'
    exact g_S_dyeProperty_72 ⟨48 + d, ix2 48 d, by show _ < 105; omega, h'⟩
def m_dyeOf (p q : Int32) (w : wS) : mS := if isd p then (if isr q 0 4 then (0, zdn (zn p) (zn q) (w_z w), w) else (2, nI 0, w)) else (1, nI 0, w)
theorem c_V_dyeOf {p q : Int32} {w : wS} {M : am_M} {K : am_Q} (hr : vr M w) (h : ∀ M', vr M' (m_dyeOf p q w).2.2 → vf M M' → K (oV 0 (m_dyeOf p q w).1 (m_dyeOf p q w).2.1) M') : am_C mt_V_dyeOf [.ref 0, .int p, .int q] M K := by
  unfold m_dyeOf at h
  refine am_C_of_R am_S0 om_V_dyeOf rfl [.ref 0, .int p, .int q] rfl rfl (g_V_dyeOf_0 (c_V_requireDye (fun hv => c_V_requireRange (fun hq => ?_) (fun hq => ?_)) (fun hv => ?_)))
  · have hq' : isr q 0 4 := hq
    rw [if_pos hv, if_pos hq'] at h
    obtain ⟨v, -, hv4, rfl⟩ := isr_nat (a := 0) (b := 2) hv (by decide) (by decide)
    obtain ⟨k, -, hk9, rfl⟩ := isr_nat hq' (by decide) (by decide)
    rw [zn_nI (show v < 2 ^ 31 by omega), zn_nI (show k < 2 ^ 31 by omega)] at h
    exact c_S_dyeProperty_1 hr.1 (by omega) hk9 (h M hr (vf_refl M))
  · have hq' : ¬ isr q 0 4 := hq
    rw [if_pos hv, if_neg hq'] at h
    exact h M hr (vf_refl M)
  · rw [if_neg hv] at h
    exact h M hr (vf_refl M)
noncomputable def zcn (k : Nat) (w : wS) : Int32 := if k = 0 then zhod (w_z w) else if k = 1 then w_z w 0 else if k = 2 then w_z w 5 else if k = 3 then nI (zpt (w_z w) 5) else if k = 4 then zin 1 (w_z w) else if k = 5 then w_z w 2 else if k = 6 then w_z w 3 else if k = 7 then w_z w 4 else if k = 8 then w_z w 1 else nI (w_s w)
theorem c_V_numberOf {n k : Nat} {w : wS} {M : am_M} {K : am_Q} (hr : vr M w) (hw : wk n w) (hk : k ≤ 9) (h : K (.inl (some (.int (zcn k w)))) M) : am_C mt_V_numberOf [.ref 0, .int (nI k)] M K := by
  have ez : M 2 = zp (w_z w) := hr.1
  have el : ∀ i, M 2 i = w_z w (pz i) := fun i => by rw [ez]; rfl
  refine am_C_of_R am_S0 om_V_numberOf rfl [.ref 0, .int (nI k)] rfl rfl (g_V_numberOf_0 ⟨fun c => ?_, fun c => ?_, fun c => ?_, fun c => ?_, fun c => ?_, fun c => ?_, fun c => ?_, fun c => ?_, fun c => ?_, fun c => ?_, trivial⟩)
  · have e : k = 9 := by rw [nI_toInt (by omega)] at c; omega
    subst e
    have h' : K (.inl (some (.int (nI (w_s w))))) M := h
    rw [← hr.2.1.1] at h'
    exact g_V_numberOf_142 h'
  · have e : k = 0 := by have := sw_eq (by omega) c; omega
    subst e
    exact g_V_numberOf_52 (c_S_hourOfDay_1 ez h)
  · have e : k = 1 := by have := sw_eq (by omega) c; omega
    subst e
    have h' : K (.inl (some (.int (w_z w (pz 52))))) M := h
    rw [← el 52] at h'
    exact g_V_numberOf_60 ⟨52, rfl, by decide, h'⟩
  · have e : k = 2 := by have := sw_eq (by omega) c; omega
    subst e
    have h' : K (.inl (some (.int (w_z w (pz 56))))) M := h
    rw [← el 56] at h'
    exact g_V_numberOf_71 ⟨56, rfl, by decide, h'⟩
  · have e : k = 3 := by have := sw_eq (by omega) c; omega
    subst e
    exact g_V_numberOf_82 (c_S_pipesLaid_1 ez hw.1.2.2.2 h)
  · have e : k = 4 := by have := sw_eq (by omega) c; omega
    subst e
    exact g_V_numberOf_90 (c_S_waterInAll_1 ez h)
  · have e : k = 5 := by have := sw_eq (by omega) c; omega
    subst e
    have h' : K (.inl (some (.int (w_z w (pz 54))))) M := h
    rw [← el 54] at h'
    exact g_V_numberOf_98 ⟨54, rfl, by decide, h'⟩
  · have e : k = 6 := by have := sw_eq (by omega) c; omega
    subst e
    have h' : K (.inl (some (.int (w_z w (pz 53))))) M := h
    rw [← el 53] at h'
    exact g_V_numberOf_109 ⟨53, rfl, by decide, h'⟩
  · have e : k = 7 := by have := sw_eq (by omega) c; omega
    subst e
    have h' : K (.inl (some (.int (w_z w (pz 55))))) M := h
    rw [← el 55] at h'
    exact g_V_numberOf_120 ⟨55, rfl, by decide, h'⟩
  · have e : k = 8 := by have := sw_eq (by omega) c; omega
    subst e
    have h' : K (.inl (some (.int (w_z w (pz 51))))) M := h
    rw [← el 51] at h'
    exact g_V_numberOf_131 ⟨51, rfl, by decide, h'⟩
noncomputable def m_count (p : Int32) (w : wS) : mS := if isr p 0 9 then (0, zcn (zn p) w, w) else (1, nI 0, w)
theorem c_V_count {n : Nat} {p : Int32} {w : wS} {M : am_M} {K : am_Q} (hr : vr M w) (hk : wk n w) (h : ∀ M', vr M' (m_count p w).2.2 → vf M M' → K (oV 1 (m_count p w).1 (m_count p w).2.1) M') : am_C mt_V_count [.ref 0, .int p] M K := by
  unfold m_count at h
  refine am_C_of_R am_S0 om_V_count rfl [.ref 0, .int p] rfl rfl (g_V_count_0 (c_V_requireRange (fun hq => ?_) (fun hq => ?_)))
  · have hq' : isr p 0 9 := hq
    rw [if_pos hq'] at h
    obtain ⟨k, -, hk9, rfl⟩ := isr_nat hq' (by decide) (by decide)
    rw [zn_nI (show k < 2 ^ 31 by omega)] at h
    exact c_V_numberOf hr hk hk9 (h M hr (vf_refl M))
  · have hq' : ¬ isr p 0 9 := hq
    rw [if_neg hq'] at h
    exact h M hr (vf_refl M)
end
section
/-! memories that no cell tells apart -/
def am_nl (o : Nat) : Nat := match am_kd o with
  | 0 => am_len 0 o
  | 1 => am_len 0 o
  | _ => am_nf (am_ci o)
def am_same (M M' : am_M) : Prop := (∀ o, o < 17 → ∀ i, i < am_nl o → M o i = M' o i) ∧ M 17 = M' 17
theorem am_same_symm {M M' : am_M} (h : am_same M M') : am_same M' M := ⟨fun o ho i hi => (h.1 o ho i hi).symm, h.2.symm⟩
theorem arrV_same {c : ClassId} {n : Nat} {f g : Nat → Value} (h : ∀ i, i < n → f i = g i) : arrV c n f = arrV c n g := by
  unfold arrV
  congr 2
  funext j
  exact h j.1 j.2
theorem va_at_same {D : va_G} {g : ClassId × ClassId × Nat} {a : Nat → Nat} {M M' : am_M} {H : Heap} {o : Nat} (h4 : am_kd o = 4 → M o = M' o) (hs : ∀ i, i < am_nl o → M o i = M' o i) (hP : va_at D am_cls (a o, am_e a g M o) H) : va_at D am_cls (a o, am_e a g M' o) H := by
  unfold am_nl at hs
  unfold am_e at hP ⊢
  have dflt : (∀ i, i < am_nf (am_ci o) → M o i = M' o i) → va_at D am_cls (a o, .inr (am_ci o, (List.range (am_nf (am_ci o))).map (fun k => am_tv a (am_val (am_ci o) o k M)))) H → va_at D am_cls (a o, .inr (am_ci o, (List.range (am_nf (am_ci o))).map (fun k => am_tv a (am_val (am_ci o) o k M')))) H := by
    intro hs hP
    have e : (List.range (am_nf (am_ci o))).map (fun k => am_tv a (am_val (am_ci o) o k M')) = (List.range (am_nf (am_ci o))).map (fun k => am_tv a (am_val (am_ci o) o k M)) := by
      refine List.map_congr_left fun k hk => ?_
      have hk' := List.mem_range.mp hk
      have ek := hs k hk'
      congr 1
      unfold am_val
      split
      · rfl
      · unfold am_v0
        split
        · rw [ek]
        · rfl
    rw [e]
    exact hP
  revert h4 hs hP
  match am_kd o with
  | 0 =>
    intro _ hs hP
    show H[a o]? = some (vp_cell g.1 (am_len 0 o, .inl (M' o)))
    have e : vp_cell g.1 (am_len 0 o, .inl (M' o)) = vp_cell g.1 (am_len 0 o, .inl (M o)) := by
      rw [vp_cell_i, vp_cell_i]
      exact arrV_same (fun i hi => by rw [hs i hi])
    rw [e]
    exact hP
  | 1 =>
    intro _ hs hP
    show H[a o]? = some (vp_cell g.2.1 (am_len 0 o, .inl (M' o)))
    have e : vp_cell g.2.1 (am_len 0 o, .inl (M' o)) = vp_cell g.2.1 (am_len 0 o, .inl (M o)) := by
      rw [vp_cell_i, vp_cell_i]
      exact arrV_same (fun i hi => by rw [hs i hi])
    rw [e]
    exact hP
  | 4 =>
    intro h4 _ hP
    show H[a o]? = some (vp_cell g.1 (g.2.2, .inl (M' o)))
    rw [← h4 rfl]
    exact hP
  | 2 => exact fun _ hs hP => dflt hs hP
  | 3 => exact fun _ hs hP => dflt hs hP
  | n + 5 => exact fun _ hs hP => dflt hs hP
theorem am_kd17 {o : Nat} (h : am_kd o = 4) : o = 17 := by
  unfold am_kd at h
  split at h <;> first | rfl | omega
theorem va_P_same {D : va_G} {g : ClassId × ClassId × Nat} {a : Nat → Nat} {M M' : am_M} {H : Heap} (h : am_same M M') (hP : va_P D am_cls (am_w a g M) H) : va_P D am_cls (am_w a g M') H := by
  intro k q hk
  unfold am_w at hk
  rw [List.getElem?_map] at hk
  by_cases c : k < am_nc g.2.2
  · rw [List.getElem?_range c] at hk
    cases hk
    have h2 := hP k (a k, am_e a g M k) (by unfold am_w; rw [List.getElem?_map, List.getElem?_range c]; rfl)
    by_cases c17 : k < 17
    · exact va_at_same (fun h4 => by rw [am_kd17 h4]; exact h.2) (h.1 k c17) h2
    · have hk17 : k = 17 := by unfold am_nc at c; split at c <;> omega
      subst hk17
      exact va_at_same (fun _ => h.2) (fun i _ => by rw [h.2]) h2
  · rw [List.getElem?_eq_none (by rw [List.length_range]; omega)] at hk
    cases hk
theorem am_C_out {t : am_MT} {av : List Value} {M : am_M} {K : am_Q} (h : am_C t av M (fun o M1 => ∃ M2, am_same M1 M2 ∧ K o M2)) : am_C t av M K := by
  intro l a D g sz hst hgx
  have h1 := h l a D g sz hst hgx
  intro p e ha hc hk s m args below hf happ hP hT
  obtain ⟨k, oc, q1, q2, q3, hQ⟩ := h1 p e ha hc hk s m args below hf happ hP hT
  refine ⟨k, oc, q1, q2, q3, ?_⟩
  rcases hQ with ⟨⟨⟨v, M', e1, ⟨M2, s2, e2⟩, e3⟩, e4, e5⟩, e6⟩ | ⟨q, e1, E, ce, Lc, ⟨⟨M', ⟨M2, s2, f1⟩, f2⟩, f3⟩, e3⟩
  · exact Or.inl ⟨⟨⟨v, M2, e1, e2, va_P_same s2 e3⟩, e4, e5⟩, e6⟩
  · exact Or.inr ⟨q, e1, E, ce, Lc, ⟨⟨M2, f1, va_P_same s2 f2⟩, f3⟩, e3⟩
theorem am_R_same {L : am_S} {t : am_MT} {n pc : Nat} {ls st : List Value} {M M' : am_M} {Q : am_Q} (h : am_same M M') (k : am_R L t n pc ls st M' Q) : am_R L t n pc ls st M Q := by
  intro p l e R s m args below meth c a D g A cells slots QQ hE hC h1 h2 hEnd H locs la hW hL
  exact k p l e R s m args below meth c a D g A cells slots QQ hE hC h1 h2 hEnd H locs la ⟨va_P_same h hW.1, hW.2⟩ hL
theorem am_same_set {M : am_M} {o : Nat} {f g : Nat → Int32} (h : ∀ i, i < am_nl o → f i = g i) (h17 : o ≠ 17 := by decide) : am_same (am_set M o f) (am_set M o g) := by
  refine ⟨?_, by rw [am_so _ _ (Ne.symm h17), am_so _ _ (Ne.symm h17)]⟩
  intro q hq i hi
  by_cases c : q = o
  · subst c
    rw [am_set_eq, am_set_eq]
    exact h i hi
  · rw [am_so _ _ c, am_so _ _ c]
-- copies of a state
theorem cpy_same {f g : dz} {i : Nat} (hi : i < 105) : va_cpy f g 0 0 105 i = f i := by
  rw [cpy_in (by omega)]
  congr 1
  omega
theorem c_S_takeFrom_3 {M : am_M} {K : am_Q} (h : K (.inl none) (am_set M 4 (M 2))) : am_C mt_S_takeFrom [.ref 3, .ref 1] M K :=
  am_C_out (am_C_of_R am_S0 om_S_takeFrom rfl [.ref 3, .ref 1] rfl rfl (g_S_takeFrom_0 ⟨0, 0, 105, rfl, rfl, rfl, by decide, by decide, _, am_same_set fun i hi => cpy_same hi, h⟩))
theorem c_S_takeFrom_6 {M : am_M} {K : am_Q} (h : K (.inl none) (am_set M 7 (M 2))) : am_C mt_S_takeFrom [.ref 6, .ref 1] M K :=
  am_C_out (am_C_of_R am_S0 om_S_takeFrom rfl [.ref 6, .ref 1] rfl rfl (g_S_takeFrom_0 ⟨0, 0, 105, rfl, rfl, rfl, by decide, by decide, _, am_same_set fun i hi => cpy_same hi, h⟩))
-- ifPassed
noncomputable def m_ifp (p q r : Int32) (w : wS) : mS := if isv q then (if isr p 1 240 ∧ isr r 1 7 then (0, zhours (w_z w) (zn p) (17 + 8 * zn q + zn r), w) else (2, nI 0, w)) else (1, nI 0, w)
theorem vr_keep {M M' : am_M} {w : wS} (h : vr M w) (h' : ∀ o, o = 2 ∨ o = 0 ∨ o = 16 ∨ o = 15 ∨ o = 14 ∨ o = 9 ∨ o = 10 → M' o = M o) : vr M' w := by
  unfold vr
  rw [h' 2 (by omega), h' 0 (by omega), h' 16 (by omega), h' 15 (by omega), h' 14 (by omega), h' 9 (by omega), h' 10 (by omega)]
  exact h
theorem c_V_ifPassed {n : Nat} {p q r : Int32} {w : wS} {M : am_M} {K : am_Q} (hr : vr M w) (hk : wk n w) (h : ∀ M', vr M' (m_ifp p q r w).2.2 → vf M M' → K (oV 0 (m_ifp p q r w).1 (m_ifp p q r w).2.1) M') : am_C mt_V_ifPassed [.ref 0, .int p, .int q, .int r] M K := by
  unfold m_ifp at h
  have bad : isv q → ¬ (isr p 1 240 ∧ isr r 1 7) → K (.inr (am_ex 1)) M := by
    intro hv hq
    rw [if_pos hv, if_neg hq] at h
    exact h M hr (vf_refl M)
  refine am_C_of_R am_S0 om_V_ifPassed rfl [.ref 0, .int p, .int q, .int r] rfl rfl (g_V_ifPassed_0 (c_V_requireVat (fun hv => c_V_requireRange (fun h1 => c_V_requireRange (fun h2 => ?_) (fun h2 => bad hv fun z => h2 z.2)) (fun h1 => bad hv fun z => h1 z.1)) (fun hv => ?_)))
  · have h1' : isr p 1 240 := h1
    have h2' : isr r 1 7 := h2
    rw [if_pos hv, if_pos ⟨h1', h2'⟩] at h
    obtain ⟨v, -, hv4, rfl⟩ := isr_nat (a := 0) (b := 4) hv (by decide) (by decide)
    obtain ⟨m, -, hm, rfl⟩ := isr_nat h1' (by decide) (by decide)
    obtain ⟨k, -, hk7, rfl⟩ := isr_nat h2' (by decide) (by decide)
    rw [zn_nI (show v < 2 ^ 31 by omega), zn_nI (show m < 2 ^ 31 by omega), zn_nI (show k < 2 ^ 31 by omega)] at h
    have e4 : am_set M 4 (M 2) 4 = zp (w_z w) := by rw [am_set_eq]; exact hr.1
    refine c_S_takeFrom_3 (c_S_runHours_3 e4 hk.1.1 (by omega) (c_S_vatProperty_3 (am_set_eq ..) (by omega) (by omega) ?_))
    rw [zvat_lo (by omega), am_set_set]
    exact h _ (vr_keep hr (fun o ho => am_so _ _ (by omega))) (vf_set (vf_refl M) (by decide))
  · rw [if_neg hv] at h
    exact h M hr (vf_refl M)
end
section
/-! emptyIn: the first hour without water -/
noncomputable def zef (v : Nat) (z : dz) : Nat → Nat
  | 0 => 0
  | i + 1 => by classical exact if zef v z i = i ∧ 0 < zhours z i (18 + 8 * v) then i + 1 else zef v z i
theorem zef_le (v : Nat) (z : dz) : ∀ i, zef v z i ≤ i
  | 0 => Nat.le_refl 0
  | i + 1 => by
    unfold zef
    have := zef_le v z i
    split <;> omega
theorem zef_stop {v : Nat} {z : dz} {i : Nat} (h : zef v z (i + 1) = i) : ∀ k, zef v z (i + 1 + k) = i
  | 0 => h
  | k + 1 => by
    have := zef_stop h k
    show zef v z (i + 1 + k + 1) = i
    unfold zef
    rw [if_neg (by omega)]
    exact this
noncomputable def zea (v : Nat) (z : dz) (k : Nat) : Int32 := if zef v z k = k then -nI 1 else nI (zef v z k)
noncomputable def m_emp (p : Int32) (w : wS) : mS := if isv p then (0, zea (zn p) (w_z w) 241, w) else (1, nI 0, w)
theorem zea_0 (v : Nat) (z : dz) : zea v z 0 = -nI 1 := by
  unfold zea
  rw [if_pos (show zef v z 0 = 0 from rfl)]
theorem zea_ne {v : Nat} {z : dz} {k : Nat} (hk : k < 2 ^ 31) : zea v z k = -nI 1 ↔ zef v z k = k := by
  unfold zea
  refine ⟨fun h => ?_, fun h => if_pos h⟩
  by_cases c : zef v z k = k
  · exact c
  · rw [if_neg c] at h
    have := zef_le v z k
    have h2 : (nI (zef v z k)).toInt = (-nI 1).toInt := by rw [h]
    rw [nI_toInt (by omega)] at h2
    have h3 : (-nI 1).toInt = -1 := by decide +kernel
    omega
theorem zea_next {v i : Nat} {z : dz} (h : zok z) (hv : v < 5) (hi : i < 2 ^ 30) : zea v z (i + 1) = if zea v z i = -nI 1 ∧ zhours z i (18 + 8 * v) = 0 then nI i else zea v z i := by
  have hw := ((zok_hours h i).1.1 v hv).1
  have ew : zhours z i (18 + 8 * v) = 0 ↔ ¬ 0 < zhours z i (18 + 8 * v) := by
    rw [ti_lt, ti_0]
    refine ⟨fun q => by rw [q, ti_0]; omega, fun q => ti_ext (by rw [ti_0]; omega)⟩
  have hle := zef_le v z i
  have hle1 := zef_le v z (i + 1)
  have e : zef v z (i + 1) = if zef v z i = i ∧ 0 < zhours z i (18 + 8 * v) then i + 1 else zef v z i := by
    show (if zef v z i = i ∧ 0 < zhours z i (18 + 8 * v) then i + 1 else zef v z i) = _
    congr
  have hc : (zea v z i = -nI 1 ∧ zhours z i (18 + 8 * v) = 0) ↔ (zef v z i = i ∧ ¬ 0 < zhours z i (18 + 8 * v)) := by rw [zea_ne (by omega), ew]
  by_cases c1 : zef v z i = i
  · by_cases c2 : 0 < zhours z i (18 + 8 * v)
    · rw [if_pos ⟨c1, c2⟩] at e
      rw [if_neg (fun q => (hc.mp q).2 c2)]
      unfold zea
      rw [if_pos e, if_pos c1]
    · rw [if_neg (fun q => c2 q.2)] at e
      rw [if_pos (hc.mpr ⟨c1, c2⟩)]
      unfold zea
      rw [if_neg (by omega), e, c1]
  · rw [if_neg (fun q => c1 q.1)] at e
    rw [if_neg (fun q => c1 (hc.mp q).1)]
    unfold zea
    rw [if_neg (by omega), if_neg c1, e]
theorem c_V_findEmptyHours {z : dz} {M : am_M} {K : am_Q} (hM : M 2 = zp z) (hz : zok z) (h : ∀ M', (∀ v, v < 5 → M' 13 v = zea v z 241) → (∀ o, o ≠ 4 → o ≠ 13 → M' o = M o) → K (.inl none) M') : am_C mt_V_findEmptyHours [.ref 0] M K := by
  refine am_C_of_R am_S0 om_V_findEmptyHours rfl [.ref 0, .null, .null] rfl rfl (g_V_findEmptyHours_0 (c_S_takeFrom_3 ?_))
  rw [hM]
  have base : am_R am_S0 mt_V_findEmptyHours 1 31 [.ref 0, .int (nI 5), .null] [] (am_set (am_set M 4 (zp z)) 13 (fun q => zea q z 0)) K := by
    refine g_V_findEmptyHours_31 ?_
    refine am_R_le (xs := [.ref 0, .int (nI 0), .null]) (by repeat' (first | exact trivial | exact Or.inr rfl | exact Or.inl rfl | exact Or.inr (congrArg Value.int (nI_succ _)) | refine ⟨?_, ?_⟩)) ?_
    have h0 : am_set (am_set M 4 (zp z)) 13 (fun q => zea q z 0) = am_set (am_set M 4 (zp (zhours z (0 - 1)))) 13 (fun q => zea q z 0) := rfl
    rw [h0]
    refine lu (P := fun i => am_R am_S0 mt_V_findEmptyHours 1 33 [.ref 0, .int (nI i), .null] [] (am_set (am_set M 4 (zp (zhours z (i - 1)))) 13 (fun q => zea q z i)) K) 241 ?_ ?_
    · refine g_V_findEmptyHours_33 ⟨fun c => g_V_findEmptyHours_103 (h _ (fun v hv => by rw [am_set_eq]) (fun o h1 h2 => by rw [am_so _ _ h2, am_so _ _ h1])), fun c => absurd (show nI 240 < nI 241 by decide +kernel) c⟩
    · intro i hi ih
      have hn : ¬ nI 240 < nI i := Int32.not_lt.mpr (i_le (by omega) (by decide))
      -- the vats of one hour
      have tail : am_R am_S0 mt_V_findEmptyHours 1 52 [.ref 0, .int (nI i), .null] [] (am_set (am_set M 4 (zp (zhours z i))) 13 (fun q => zea q z i)) K := by
        refine g_V_findEmptyHours_52 ?_
        refine am_R_le (xs := [.ref 0, .int (nI i), .int (nI 0)]) (by repeat' (first | exact trivial | exact Or.inr rfl | exact Or.inl rfl | exact Or.inr (congrArg Value.int (nI_succ _)) | refine ⟨?_, ?_⟩)) ?_
        have h1 : (fun q => zea q z i) = (fun q => if q < 0 then zea q z (i + 1) else zea q z i) := by funext q; rw [if_neg (by omega)]
        rw [h1]
        refine lu (P := fun j => am_R am_S0 mt_V_findEmptyHours 1 54 [.ref 0, .int (nI i), .int (nI j)] [] (am_set (am_set M 4 (zp (zhours z i))) 13 (fun q => if q < j then zea q z (i + 1) else zea q z i)) K) 5 ?_ ?_
        · refine g_V_findEmptyHours_54 ⟨fun c => g_V_findEmptyHours_97 ?_, fun c => absurd (i_le (Nat.le_refl 5) (by decide)) c⟩
          have ih' := am_R_same (M := am_set (am_set M 4 (zp (zhours z i))) 13 (fun q => if q < 5 then zea q z (i + 1) else zea q z i)) (am_same_set fun q hq => if_pos hq) ih
          exact am_R_le (by repeat' (first | exact trivial | exact Or.inr rfl | exact Or.inl rfl | exact Or.inr (congrArg Value.int (nI_succ _)) | refine ⟨?_, ?_⟩)) ih'
        · intro j hj ihj
          have e10 : zp (zhours z i) (10 + j) = zhours z i (18 + 8 * j) := by unfold zp; rw [pz_w hj]
          have en := zea_next (v := j) (i := i) hz hj (by omega)
          have keep : ¬ (zea j z i = -nI 1 ∧ zhours z i (18 + 8 * j) = 0) → am_R am_S0 mt_V_findEmptyHours 1 91 [.ref 0, .int (nI i), .int (nI j)] [] (am_set (am_set M 4 (zp (zhours z i))) 13 (fun q => if q < j then zea q z (i + 1) else zea q z i)) K := by
            intro c
            rw [if_neg c] at en
            have e : (fun q => if q < j + 1 then zea q z (i + 1) else zea q z i) = (fun q => if q < j then zea q z (i + 1) else zea q z i) := by
              funext q
              by_cases c1 : q < j
              · rw [if_pos c1, if_pos (by omega)]
              · by_cases c2 : q = j
                · subst c2; rw [if_pos (by omega), if_neg c1, en]
                · rw [if_neg c1, if_neg (by omega)]
            rw [e] at ihj
            exact g_V_findEmptyHours_91 (am_R_le (by repeat' (first | exact trivial | exact Or.inr rfl | exact Or.inl rfl | exact Or.inr (congrArg Value.int (nI_succ _)) | refine ⟨?_, ?_⟩)) ihj)
          have ej : (fun q => if q < j then zea q z (i + 1) else zea q z i) j = zea j z i := if_neg (Nat.lt_irrefl j)
          refine g_V_findEmptyHours_54 ⟨fun c => absurd c (i_nge hj (by decide)), fun c => ⟨j, rfl, by show _ < 5; omega, fun c2 => keep fun q => c2 ?_, fun c2 => ⟨10 + j, ix2 10 j, by show _ < 105; omega, fun c3 => keep fun q => c3 ?_, fun c3 => ⟨j, rfl, by show _ < 5; omega, ?_⟩⟩⟩⟩
          · exact ej.trans q.1
          · exact e10.trans q.2
          · have c4 : zea j z i = -nI 1 := ej.symm.trans (Classical.not_not.mp c2)
            have c5 : zhours z i (18 + 8 * j) = 0 := e10.symm.trans (Classical.not_not.mp c3)
            rw [if_pos ⟨c4, c5⟩] at en
            have e : (fun q => if q < j + 1 then zea q z (i + 1) else zea q z i) = upd (fun q => if q < j then zea q z (i + 1) else zea q z i) j (nI i) := by
              funext q
              by_cases c1 : q = j
              · subst c1; rw [upd_eq, if_pos (by omega), en]
              · rw [upd_ne _ _ c1]
                by_cases c2 : q < j
                · rw [if_pos c2, if_pos (by omega)]
                · rw [if_neg c2, if_neg (by omega)]
            rw [e, ← am_set_set _ 13 (fun q => if q < j then zea q z (i + 1) else zea q z i)] at ihj
            exact g_V_findEmptyHours_91 (am_R_le (by repeat' (first | exact trivial | exact Or.inr rfl | exact Or.inl rfl | exact Or.inr (congrArg Value.int (nI_succ _)) | refine ⟨?_, ?_⟩)) ihj)
      refine g_V_findEmptyHours_33 ⟨fun c => absurd c hn, fun c => ⟨fun c2 => ?_, fun c2 => ?_⟩⟩
      · have hi0 : i = 0 := by
          have c3 : nI i ≤ nI 0 := c2
          exact Classical.not_not.mp fun q => absurd c3 (i_nge (by omega) (by omega))
        subst hi0
        exact tail
      · have hi0 : i ≠ 0 := fun q => c2 (show nI i ≤ nI 0 by rw [q]; decide +kernel)
        have hz' := (zok_hours hz (i - 1)).1
        refine c_S_runHours_3 (z := zhours z (i - 1)) (n := 1) rfl hz' (by decide) ?_
        have e1 : zhours (zhours z (i - 1)) 1 = zhours z i := by
          show zhour (zhours z (i - 1)) = zhours z i
          obtain ⟨i', rfl⟩ : ∃ i', i = i' + 1 := ⟨i - 1, by omega⟩
          rfl
        rw [e1, am_set_comm _ (show 13 ≠ 4 by decide), am_set_set]
        exact tail
  refine am_R_le (xs := [.ref 0, .int (nI 0), .null]) (by repeat' (first | exact trivial | exact Or.inr rfl | exact Or.inl rfl | exact Or.inr (congrArg Value.int (nI_succ _)) | refine ⟨?_, ?_⟩)) ?_
  have h0 : am_set M 4 (zp z) = am_set (am_set M 4 (zp z)) 13 (fun q => if q < 0 then -nI 1 else M 13 q) := by
    funext o
    by_cases c : o = 13
    · subst c; rfl
    · rw [am_so _ _ c]
  rw [h0]
  refine lu (P := fun j => am_R am_S0 mt_V_findEmptyHours 1 13 [.ref 0, .int (nI j), .null] [] (am_set (am_set M 4 (zp z)) 13 (fun q => if q < j then -nI 1 else M 13 q)) K) 5 ?_ ?_
  · refine g_V_findEmptyHours_13 ⟨fun c => ?_, fun c => absurd (i_le (Nat.le_refl 5) (by decide)) c⟩
    have b' := am_R_same (M := am_set (am_set M 4 (zp z)) 13 (fun q => if q < 5 then -nI 1 else M 13 q)) (am_same_set fun q hq => by
      have hq' : q < 5 := hq
      rw [if_pos hq', zea_0]) base
    exact b'
  · intro j hj ih
    refine g_V_findEmptyHours_13 ⟨fun c => absurd c (i_nge hj (by decide)), fun c => ⟨j, rfl, by show _ < 5; omega, ?_⟩⟩
    have e : (fun q => if q < j + 1 then -nI 1 else M 13 q) = upd (fun q => if q < j then -nI 1 else M 13 q) j (-nI 1) := by
      funext q
      by_cases c1 : q = j
      · subst c1; rw [upd_eq, if_pos (by omega)]
      · rw [upd_ne _ _ c1]
        by_cases c2 : q < j
        · rw [if_pos c2, if_pos (by omega)]
        · rw [if_neg c2, if_neg (by omega)]
    rw [e, ← am_set_set _ 13 (fun q => if q < j then -nI 1 else M 13 q)] at ih
    exact am_R_le (by repeat' (first | exact trivial | exact Or.inr rfl | exact Or.inl rfl | exact Or.inr (congrArg Value.int (nI_succ _)) | refine ⟨?_, ?_⟩)) ih
theorem c_V_emptyIn {n : Nat} {p : Int32} {w : wS} {M : am_M} {K : am_Q} (hr : vr M w) (hk : wk n w) (h : ∀ M', vr M' (m_emp p w).2.2 → vf M M' → K (oV 0 (m_emp p w).1 (m_emp p w).2.1) M') : am_C mt_V_emptyIn [.ref 0, .int p] M K := by
  unfold m_emp at h
  refine am_C_of_R am_S0 om_V_emptyIn rfl [.ref 0, .int p] rfl rfl (g_V_emptyIn_0 (c_V_requireVat (fun hv => ?_) (fun hv => ?_)))
  · rw [if_pos hv] at h
    obtain ⟨v, -, hv4, rfl⟩ := isr_nat (a := 0) (b := 4) hv (by decide) (by decide)
    rw [zn_nI (by omega)] at h
    dsimp only at h
    refine c_V_findEmptyHours hr.1 hk.1.1 (fun M' h1 h2 => ⟨v, rfl, by show _ < 5; omega, ?_⟩)
    rw [← h1 v (by omega)] at h
    exact h M' (vr_keep hr (fun o ho => h2 o (by omega) (by omega))) (fun o ho => h2 o (by omega) (by omega))
  · rw [if_neg hv] at h
    exact h M hr (vf_refl M)
end
section
/-! mainValve -/
theorem zok_of {z z' : dz} {m : Nat} (h : zok z) (h1 : ∀ i, i < 57 → i ≠ 5 → z' i = z i) (h5 : z' 5 = nI m) (hm : m ≤ 8) (hv : ∀ k, k < m → zvok k z') : zok z' := by
  obtain ⟨hvt, hg, ha, hs, ⟨hw0, hw⟩, -⟩ := h
  refine ⟨fun v hv => ?_, fun v d hv hd => ?_, fun d hd => ?_, ?_, ?_, m, hm, h5, hv⟩
  · rw [h1 (18 + 8 * v) (by omega) (by omega), h1 (17 + 8 * v) (by omega) (by omega)]; exact hvt v hv
  · rw [h1 (19 + 8 * v + d) (by omega) (by omega), h1 (22 + 8 * v + d) (by omega) (by omega)]; exact hg v d hv hd
  · have e : zall z' d = zall z d := by
      unfold zall
      rw [h1 (19 + d) (by omega) (by omega), h1 (22 + d) (by omega) (by omega), h1 (27 + d) (by omega) (by omega), h1 (30 + d) (by omega) (by omega), h1 (35 + d) (by omega) (by omega), h1 (38 + d) (by omega) (by omega), h1 (43 + d) (by omega) (by omega), h1 (46 + d) (by omega) (by omega), h1 (51 + d) (by omega) (by omega), h1 (54 + d) (by omega) (by omega), h1 (14 + d) (by omega) (by omega)]
    rw [e, h1 (14 + d) (by omega) (by omega), h1 (11 + d) (by omega) (by omega)]
    exact ha d hd
  · rw [h1 1 (by decide) (by decide)]; exact hs
  · have e : zwat z' = zwat z := by
      unfold zwat
      rw [h1 18 (by decide) (by decide), h1 26 (by decide) (by decide), h1 34 (by decide) (by decide), h1 42 (by decide) (by decide), h1 50 (by decide) (by decide), h1 2 (by decide) (by decide)]
    rw [e, h1 2 (by decide) (by decide), h1 3 (by decide) (by decide)]
    exact ⟨hw0, hw⟩
theorem zdrop_lo {v m i : Nat} {z : dz} (hi : i < 57 + 6 * v) (h5 : i ≠ 5) : zdrop v m z i = z i := by
  unfold zdrop
  rw [cpy_out (by omega), upd_ne _ _ h5]
theorem zdrop_hi {v m i : Nat} {z : dz} (hi : 57 + 6 * v ≤ i) (h2 : i < 57 + 6 * (m - 1)) : zdrop v m z i = z (i + 6) := by
  unfold zdrop
  rw [cpy_in (by omega), upd_ne _ _ (by omega)]
  congr 1
  omega
theorem zok_drop {v m : Nat} {z : dz} (h : zok z) (hm : z 5 = nI m) (hm8 : m ≤ 8) (hv : v < m) : zok (zdrop v m z) := by
  obtain ⟨m', hm', e, hvs⟩ := h.2.2.2.2.2
  have : m' = m := (nI_eq (by omega) (by omega)).mp (e.symm.trans hm)
  subst this
  refine zok_of (m := m' - 1) h (fun i h1 h2 => zdrop_lo (by omega) h2) zdrop_5 (by omega) (fun k hk => ?_)
  unfold zvok
  by_cases c : k < v
  · rw [zdrop_lo (by omega) (by omega), zdrop_lo (by omega) (by omega), zdrop_lo (by omega) (by omega), zdrop_lo (by omega) (by omega), zdrop_lo (by omega) (by omega)]
    exact hvs k (by omega)
  · rw [zdrop_hi (by omega) (by omega), zdrop_hi (by omega) (by omega), zdrop_hi (by omega) (by omega), zdrop_hi (by omega) (by omega), zdrop_hi (by omega) (by omega)]
    have := hvs (k + 1) (by omega)
    unfold zvok at this
    rw [show 57 + 6 * (k + 1) = 57 + 6 * k + 6 by omega] at this
    rw [show 57 + 6 * k + 1 + 6 = 57 + 6 * k + 6 + 1 by omega, show 57 + 6 * k + 2 + 6 = 57 + 6 * k + 6 + 2 by omega, show 57 + 6 * k + 3 + 6 = 57 + 6 * k + 6 + 3 by omega, show 57 + 6 * k + 4 + 6 = 57 + 6 * k + 6 + 4 by omega]
    exact this
theorem zok_went {z : dz} (h : zok z) : 0 ≤ (z 2).toInt ∧ (z 2).toInt ≤ (z 3).toInt := by
  obtain ⟨h1, h2⟩ := h.2.2.2.2.1
  have := zwat_ge h.1 h1 (f := 0) (by decide)
  have := (h.1 0 (by decide)).1
  exact ⟨h1, by omega⟩
noncomputable def zmo (z : dz) (m k : Nat) : Int32 := zhours (zdrop k m z) 24 2
def zmb (f : Nat → Int32) : Nat → Nat
  | 0 => 0
  | k + 1 => if zmb f k = 0 ∨ f k < f (zmb f k - 1) then k + 1 else zmb f k
theorem zmb_le (f : Nat → Int32) : ∀ k, zmb f k ≤ k
  | 0 => Nat.le_refl 0
  | k + 1 => by
    unfold zmb
    have := zmb_le f k
    split <;> omega
theorem zmo_ti {z : dz} {m k : Nat} (h : zok z) (hm : z 5 = nI m) (hm8 : m ≤ 8) (hk : k < m) : 0 ≤ (zmo z m k).toInt ∧ (zmo z m k).toInt ≤ (z 3).toInt := by
  have h1 := zok_hours (zok_drop h hm hm8 hk) 24
  have h2 := zok_went h1.1
  have h3 : zhours (zdrop k m z) 24 3 = z 3 := by rw [h1.2 3 (by unfold zfix; omega), zdrop_lo (by omega) (by decide)]
  rw [h3] at h2
  exact h2
theorem bs_neg8 {b : Nat} (hb : b ≤ 8) : nI b - nI 1 < 0 ↔ b = 0 := by
  have key : ∀ b, b ≤ 8 → (nI b - nI 1 < 0 ↔ b = 0) := by decide +kernel
  exact key b hb
theorem bs_ne8 {b k : Nat} (hb : b ≤ k) (hk : k < 8) : ¬ nI b - nI 1 = nI k := by
  have key : ∀ b, b ≤ 8 → ∀ k, k < 8 → b ≤ k → ¬ nI b - nI 1 = nI k := by decide +kernel
  exact key b (by omega) k hk hb
theorem sub_lt {a b c : Int32} (ha : 0 ≤ a.toInt ∧ a.toInt ≤ 2000000) (hb : 0 ≤ b.toInt ∧ b.toInt ≤ 2000000) (hc : 0 ≤ c.toInt ∧ c.toInt ≤ 2000000) : c - b ≤ a - b ↔ c ≤ a := by
  have e1 := ti_sub (a := a) (b := b) (by omega) (by omega)
  have e2 := ti_sub (a := c) (b := b) (by omega) (by omega)
  rw [Int32.le_iff_toInt_le, Int32.le_iff_toInt_le]
  omega
end
section
/-! what holds stays so through the calls -/
theorem zpk_of {z z' : dz} (h : ∀ v, v < 5 → z' (6 + v) = z (6 + v)) (hp : zpk z) : zpk z' := by
  obtain ⟨m, h1, h2⟩ := hp
  exact ⟨m, fun v hv => ⟨(h v hv).trans (h1 v hv).1, (h1 v hv).2⟩, h2⟩
theorem zok_congr {z z' : dz} (h : ∀ i, i < 105 → z' i = z i) (hz : zok z) : zok z' := by
  obtain ⟨m, hm, e, hv⟩ := hz.2.2.2.2.2
  refine zok_of hz (fun i hi _ => h i (by omega)) ((h 5 (by decide)).trans e) hm (fun k hk => ?_)
  unfold zvok
  rw [h _ (by omega), h _ (by omega), h _ (by omega), h _ (by omega), h _ (by omega)]
  exact hv k hk
theorem zko_congr {n : Nat} {z z' : dz} (h : ∀ i, i < 105 → z' i = z i) (hz : zko n z) : zko n z' :=
  ⟨zok_congr h hz.1, by rw [h 3 (by decide)]; exact hz.2.1, by rw [h 0 (by decide)]; exact hz.2.2.1, zpk_of (fun v hv => h _ (by omega)) hz.2.2.2⟩
theorem zko_cp {n : Nat} {a z : dz} (h : zko n a) : zko n (zcp a z) := zko_congr (fun i hi => by unfold zcp; rw [if_pos hi]) h
theorem zok_fill {z : dz} {v : Nat} {q : Int32} (h : zok z) (hv : v < 5) (q1 : 0 ≤ q.toInt) (q2 : q.toInt ≤ 2000) (hc : (z (18 + 8 * v)).toInt + q.toInt ≤ (z (17 + 8 * v)).toInt) (h3 : (z 3).toInt ≤ 2000000) : zok (zadd (zadd z (18 + 8 * v) q) 3 q) := by
  obtain ⟨hvt, hg, ha, hs, ⟨hw0, hw⟩, m, hm8, hm, hvs⟩ := h
  obtain ⟨b1, b2, b3⟩ := hvt v hv
  have hz3 := (zok_went ⟨hvt, hg, ha, hs, ⟨hw0, hw⟩, m, hm8, hm, hvs⟩)
  have e1 := ti_add (a := z (18 + 8 * v)) (b := q) (by omega) (by omega)
  have e2 := ti_add (a := z 3) (b := q) (by omega) (by omega)
  unfold zadd
  rw [upd_ne _ (k := 18 + 8 * v) (j := 3) _ (by omega)]
  generalize z (18 + 8 * v) + q = x at e1 ⊢
  generalize z 3 + q = y at e2 ⊢
  refine ⟨fun u hu => ?_, zgrs_ne (fun u d hu hd => by omega) (zgrs_ne (fun u d hu hd => by omega) hg), zacc_ne (fun u d hu hd => by omega) (by omega) (zacc_ne (fun u d hu hd => by omega) (by omega) ha), ?_, ?_, m, hm8, ?_, fun k hk => ?_⟩
  · rw [upd_ne _ (k := 3) (j := 18 + 8 * u) _ (by omega), upd_ne _ (k := 3) (j := 17 + 8 * u) _ (by omega), upd_ne _ (k := 18 + 8 * v) (j := 17 + 8 * u) _ (by omega)]
    by_cases c : u = v
    · subst c
      rw [upd_eq]
      omega
    · rw [upd_ne _ _ (by omega)]
      exact hvt u hu
  · rw [upd_ne _ _ (by decide), upd_ne _ _ (by omega)]; exact hs
  · rw [zwat_ne (by decide), zwat_w hv, upd_eq, upd_ne _ (k := 3) (j := 2) _ (by decide), upd_ne _ (k := 18 + 8 * v) (j := 2) _ (by omega)]
    exact ⟨hw0, by omega⟩
  · rw [upd_ne _ _ (by decide), upd_ne _ _ (by omega)]; exact hm
  · have := hvs k hk
    unfold zvok at this ⊢
    rw [upd_ne _ _ (by omega), upd_ne _ _ (by omega), upd_ne _ _ (by omega), upd_ne _ _ (by omega), upd_ne _ _ (by omega), upd_ne _ _ (by omega), upd_ne _ _ (by omega), upd_ne _ _ (by omega), upd_ne _ _ (by omega), upd_ne _ _ (by omega)]
    exact this
theorem zall_p {z : dz} {e d : Nat} {x : Int32} (he : e < 3) (hd : d < 3) : zall (upd z (11 + e) x) d = zall z d := zall_ne (by omega) (fun v hv => ⟨by omega, by omega⟩)
theorem zok_dye {z : dz} {v e : Nat} {q : Int32} (h : zok z) (hv : v < 5) (he : e < 3) (q1 : 0 ≤ q.toInt) (hc : (z (11 + e)).toInt + q.toInt ≤ 99999) : zok (zadd (zadd z (19 + 8 * v + e) q) (11 + e) q) := by
  obtain ⟨hvt, hg, ha, hs, ⟨hw0, hw⟩, m, hm8, hm, hvs⟩ := h
  obtain ⟨l1, l2, l3, l4⟩ := zgr_le hg ha hv he
  obtain ⟨g1, g2⟩ := hg v e hv he
  obtain ⟨a1, a2, a3⟩ := ha e he
  have hput : 0 ≤ (z (11 + e)).toInt := by
    have k0 := hg 0 e (by decide) he
    have k1 := hg 1 e (by decide) he
    have k2 := hg 2 e (by decide) he
    have k3 := hg 3 e (by decide) he
    have k4 := hg 4 e (by decide) he
    rw [show 19 + 8 * 0 + e = 19 + e by omega, show 22 + 8 * 0 + e = 22 + e by omega] at k0
    rw [show 19 + 8 * 1 + e = 27 + e by omega, show 22 + 8 * 1 + e = 30 + e by omega] at k1
    rw [show 19 + 8 * 2 + e = 35 + e by omega, show 22 + 8 * 2 + e = 38 + e by omega] at k2
    rw [show 19 + 8 * 3 + e = 43 + e by omega, show 22 + 8 * 3 + e = 46 + e by omega] at k3
    rw [show 19 + 8 * 4 + e = 51 + e by omega, show 22 + 8 * 4 + e = 54 + e by omega] at k4
    unfold zall at a2
    omega
  have e1 := ti_add (a := z (19 + 8 * v + e)) (b := q) (by omega) (by omega)
  have e2 := ti_add (a := z (11 + e)) (b := q) (by omega) (by omega)
  unfold zadd
  rw [upd_ne _ (k := 19 + 8 * v + e) (j := 11 + e) _ (by omega)]
  generalize z (19 + 8 * v + e) + q = x at e1 ⊢
  generalize z (11 + e) + q = y at e2 ⊢
  refine ⟨fun u hu => ?_, ?_, ?_, ?_, ?_, m, hm8, ?_, fun k hk => ?_⟩
  · rw [upd_ne _ (j := 18 + 8 * u) _ (by omega), upd_ne _ (j := 18 + 8 * u) _ (by omega), upd_ne _ (j := 17 + 8 * u) _ (by omega), upd_ne _ (j := 17 + 8 * u) _ (by omega)]
    exact hvt u hu
  · refine zgrs_ne (fun u d hu hd => by omega) (fun u d hu hd => ?_)
    obtain ⟨w1, w2⟩ := hg u d hu hd
    rw [upd_ne _ (j := 22 + 8 * u + d) _ (by omega)]
    by_cases c : 19 + 8 * u + d = 19 + 8 * v + e
    · rw [upd_eq' _ _ c]; exact ⟨by omega, w2⟩
    · rw [upd_ne _ _ c]; exact ⟨w1, w2⟩
  · intro d hd
    obtain ⟨b1, b2, b3⟩ := ha d hd
    rw [zall_p he hd, upd_ne _ (k := 11 + e) (j := 14 + d) _ (by omega), upd_ne _ (k := 19 + 8 * v + e) (j := 14 + d) _ (by omega)]
    by_cases c : d = e
    · subst c
      rw [zall_d hv, upd_eq]
      exact ⟨b1, by omega, by omega⟩
    · rw [zall_ne (by omega) (fun v hv => ⟨by omega, by omega⟩), upd_ne _ (k := 11 + e) (j := 11 + d) _ (by omega), upd_ne _ (k := 19 + 8 * v + e) (j := 11 + d) _ (by omega)]
      exact ⟨b1, b2, b3⟩
  · rw [upd_ne _ _ (by omega), upd_ne _ _ (by omega)]; exact hs
  · rw [zwat_ne (by omega), zwat_ne (by omega), upd_ne _ (j := 2) _ (by omega), upd_ne _ (j := 2) _ (by omega), upd_ne _ (j := 3) _ (by omega), upd_ne _ (j := 3) _ (by omega)]
    exact ⟨hw0, hw⟩
  · rw [upd_ne _ _ (by omega), upd_ne _ _ (by omega)]; exact hm
  · have := hvs k hk
    unfold zvok at this ⊢
    rw [upd_ne _ _ (by omega), upd_ne _ _ (by omega), upd_ne _ _ (by omega), upd_ne _ _ (by omega), upd_ne _ _ (by omega), upd_ne _ _ (by omega), upd_ne _ _ (by omega), upd_ne _ _ (by omega), upd_ne _ _ (by omega), upd_ne _ _ (by omega)]
    exact this
theorem zok_cap {z : dz} {v : Nat} {q : Int32} (h : zok z) (hv : v < 5) (q2 : q.toInt ≤ 2000) (hc : (z (18 + 8 * v)).toInt ≤ q.toInt) : zok (upd z (17 + 8 * v) q) := by
  obtain ⟨hvt, hg, ha, hs, ⟨hw0, hw⟩, m, hm8, hm, hvs⟩ := h
  refine ⟨fun u hu => ?_, zgrs_ne (fun u d hu hd => by omega) hg, zacc_ne (fun u d hu hd => by omega) (by omega) ha, ?_, ?_, m, hm8, ?_, fun k hk => ?_⟩
  · rw [upd_ne _ (j := 18 + 8 * u) _ (by omega)]
    by_cases c : u = v
    · subst c
      rw [upd_eq]
      exact ⟨(hvt u hu).1, hc, q2⟩
    · rw [upd_ne _ _ (by omega)]; exact hvt u hu
  · rw [upd_ne _ _ (by omega)]; exact hs
  · rw [zwat_ne (by omega), upd_ne _ (j := 2) _ (by omega), upd_ne _ (j := 3) _ (by omega)]
    exact ⟨hw0, hw⟩
  · rw [upd_ne _ _ (by omega)]; exact hm
  · have := hvs k hk
    unfold zvok at this ⊢
    rw [upd_ne _ _ (by omega), upd_ne _ _ (by omega), upd_ne _ _ (by omega), upd_ne _ _ (by omega), upd_ne _ _ (by omega)]
    exact this
theorem zok_sets {z : dz} {q : Int32} (h : zok z) (q1 : 0 ≤ q.toInt) (q2 : q.toInt ≤ 200) : zok (upd z 1 q) := by
  obtain ⟨hvt, hg, ha, hs, ⟨hw0, hw⟩, m, hm8, hm, hvs⟩ := h
  refine ⟨fun u hu => ?_, zgrs_ne (fun u d hu hd => by omega) hg, zacc_ne (fun u d hu hd => by omega) (by omega) ha, ?_, ?_, m, hm8, ?_, fun k hk => ?_⟩
  · rw [upd_ne _ (j := 18 + 8 * u) _ (by omega), upd_ne _ _ (by omega)]; exact hvt u hu
  · rw [upd_eq]; exact ⟨q1, q2⟩
  · rw [zwat_ne (by omega), upd_ne _ (j := 2) _ (by omega), upd_ne _ (j := 3) _ (by omega)]
    exact ⟨hw0, hw⟩
  · rw [upd_ne _ _ (by omega)]; exact hm
  · have := hvs k hk
    unfold zvok at this ⊢
    rw [upd_ne _ _ (by omega), upd_ne _ _ (by omega), upd_ne _ _ (by omega), upd_ne _ _ (by omega), upd_ne _ _ (by omega)]
    exact this
theorem zput_lo {m i : Nat} {f t r a b : Int32} {z : dz} (hi : i < 57 + 6 * m) (h5 : i ≠ 5) : zput m f t r a b z i = z i := by
  unfold zput
  rw [upd_ne _ _ h5, upd_ne _ _ (by omega), upd_ne _ _ (by omega), upd_ne _ _ (by omega), upd_ne _ _ (by omega), upd_ne _ _ (by omega), upd_ne _ _ (by omega)]
theorem zok_put {m : Nat} {f t r a b : Nat} {z : dz} (h : zok z) (hm : z 5 = nI m) (hm8 : m < 8) (hf : f < 5) (ht : t ≤ 5) (hft : f ≠ t) (hr1 : 1 ≤ r) (hr2 : r ≤ 500) (hab : a ≤ b) (hb : b ≤ 23) : zok (zput m (nI f) (nI t) (nI r) (nI a) (nI b) z) := by
  obtain ⟨m', hm', e, hvs⟩ := h.2.2.2.2.2
  have : m' = m := (nI_eq (by omega) (by omega)).mp (e.symm.trans hm)
  subst this
  refine zok_of (m := m' + 1) h (fun i h1 h2 => zput_lo (by omega) h2) (by unfold zput; rw [upd_eq]) (by omega) (fun k hk => ?_)
  by_cases c : k < m'
  · have := hvs k c
    unfold zvok at this ⊢
    rw [zput_lo (by omega) (by omega), zput_lo (by omega) (by omega), zput_lo (by omega) (by omega), zput_lo (by omega) (by omega), zput_lo (by omega) (by omega)]
    exact this
  · have ek : k = m' := by omega
    subst ek
    refine ⟨f, t, r, a, b, ?_, ?_, ?_, ?_, ?_, hf, ht, hft, hr1, hr2, hab, hb⟩
    all_goals
      unfold zput
      rw [upd_ne _ (k := 5) _ (by omega), upd_ne _ (k := 57 + 6 * k + 5) _ (by omega)]
    · rw [upd_ne _ _ (by omega), upd_ne _ _ (by omega), upd_ne _ _ (by omega), upd_ne _ _ (by omega), upd_eq]
    · rw [upd_ne _ _ (by omega), upd_ne _ _ (by omega), upd_ne _ _ (by omega), upd_eq]
    · rw [upd_ne _ _ (by omega), upd_ne _ _ (by omega), upd_eq]
    · rw [upd_ne _ _ (by omega), upd_eq]
    · rw [upd_eq]
theorem zhour_0 {z : dz} (h : zok z) : zhour z 0 = z 0 + nI 1 := by
  obtain ⟨m, hm8, hm, hv⟩ := h.2.2.2.2.2
  have e : zn (z 5) = m := by rw [hm]; exact zn_nI (by omega)
  unfold zhour
  rw [zadd_eq, e]
  have k1 : ∀ (y : dz) v, v ≤ 5 → zsettles y v 0 = y 0 := by
    intro y v
    induction v with
    | zero => intro _; rfl
    | succ v ih =>
      intro hv
      have s : ∀ (x : dz) d, d ≤ 3 → zsettle v x d 0 = x 0 := by
        intro x d
        induction d with
        | zero => intro _; rfl
        | succ d ihd =>
          intro hd
          show zset1 v d _ 0 = _
          unfold zset1
          split
          · rw [zadd_ne _ _ (by omega), zadd_ne _ _ (by omega), ihd (by omega)]
          · exact ihd (by omega)
      show zsettle v _ 3 0 = _
      rw [s _ 3 (Nat.le_refl _), ih (by omega)]
  have k2 : ∀ (y : dz) a, a ≤ 5 → zpipes y a 0 = y 0 := by
    intro y a
    induction a with
    | zero => intro _; rfl
    | succ a ih =>
      intro ha
      have s : ∀ (x : dz) k, a + k < 5 → zlevs a x k 0 = x 0 := by
        intro x k
        induction k with
        | zero => intro _; rfl
        | succ k ihk =>
          intro hk
          show zlev1 a (a + 1 + k) _ 0 = _
          unfold zlev1
          split
          · unfold zlevel
            split
            · rw [zmove_keep0 (by omega) (by omega), ihk (by omega)]
            · rw [zmove_keep0 (by omega) (by omega), ihk (by omega)]
          · exact ihk (by omega)
      show zlevs a _ (4 - a) 0 = _
      rw [s _ _ (by omega), ih (by omega)]
  rw [k1 _ 5 (Nat.le_refl _), k2 _ 5 (Nat.le_refl _), zvalves_keep0 h hm hm8 m (Nat.le_refl _)]
theorem zhours_0 {z : dz} (h : zok z) : ∀ n, zhours z n 0 = z 0 + nI n
  | 0 => (Int32.add_zero _).symm
  | n + 1 => by
    show zhour (zhours z n) 0 = _
    rw [zhour_0 (zok_hours h n).1, zhours_0 h n, Int32.add_assoc, nI_add]
theorem zko_hours {n k : Nat} {z : dz} (h : zko n z) (hk : k ≤ 240) (h0 : (z 0).toInt + k ≤ 99999) : zko n (zhours z k) := by
  obtain ⟨h1, h2⟩ := zok_hours h.1 k
  refine ⟨h1, by rw [h2 3 (by unfold zfix; omega)]; exact h.2.1, ?_, zpk_of (fun v hv => h2 _ (by unfold zfix; omega)) h.2.2.2⟩
  have e : (nI k).toInt = k := nI_toInt (by omega)
  have := h.2.2.1
  rw [zhours_0 h.1, ti_add (by omega) (by omega)]
  omega
/-- a number of others is changed -/
theorem zko_upd {n : Nat} {z z' : dz} (h : zko n z) (hz : zok z') (h3 : z' 3 = z 3) (h0 : z' 0 = z 0) (hp : ∀ v, v < 5 → z' (6 + v) = z (6 + v)) : zko n z' := ⟨hz, by rw [h3]; exact h.2.1, by rw [h0]; exact h.2.2.1, zpk_of hp h.2.2.2⟩
theorem zko_refuse {n : Nat} {z : dz} (h : zko n z) : zko n (zadd z 4 (nI 1)) := zko_upd h (zok_upd (by omega) h.1) (zadd_ne _ _ (by omega)) (zadd_ne _ _ (by omega)) (fun v hv => zadd_ne _ _ (by omega))
theorem isr_ti {p : Int32} {a b : Nat} (h : isr p a b) (ha : a < 2 ^ 31) (hb : b < 2 ^ 31) : (a : Int) ≤ p.toInt ∧ p.toInt ≤ b := by
  have h1 := Int32.le_iff_toInt_le.mp h.1
  have h2 := Int32.le_iff_toInt_le.mp h.2
  rw [nI_toInt hb] at h2
  rw [nI_toInt ha] at h1
  exact ⟨h1, h2⟩
theorem k_fill {n : Nat} {p q : Int32} {w : wS} (hn : n ≤ 600) (hk : wk n w) : wk (n + 1) (m_fill p q w).2.2 := by
  have h1 := wk_le (wk_rec hk) (Nat.le_succ n)
  unfold m_fill
  split
  · rename_i hv
    split
    · rename_i hq
      obtain ⟨q1, q2⟩ := isr_ti hq (by decide) (by decide)
      obtain ⟨v, -, hv4, rfl⟩ := isr_nat (a := 0) (b := 4) hv (by decide) (by decide)
      rw [zn_nI (by omega)]
      obtain ⟨b1, b2, b3⟩ := hk.1.1.1 v (by omega)
      have e1 := ti_add (a := w_z w (18 + 8 * v)) (b := q) (by omega) (by omega)
      split
      · exact wk_setz h1 (zko_refuse (zko_le hk.1 (Nat.le_succ n)))
      · rename_i c
        have c2 : ¬ (w_z w (17 + 8 * v)).toInt < (w_z w (18 + 8 * v) + q).toInt := fun z => c (ti_lt.mpr z)
        have h3 := hk.1.2.1
        refine wk_setz h1 ⟨zok_fill hk.1.1 (by omega) (by omega) (by omega) (by omega) (by omega), ?_, ?_, zpk_of (fun u hu => ?_) hk.1.2.2.2⟩
        · show (zadd (zadd (w_z w) (18 + 8 * v) q) 3 q 3).toInt ≤ _
          have hw := zok_went hk.1.1
          rw [zadd_eq, zadd_ne _ _ (by omega), ti_add (by omega) (by omega)]
          omega
        · rw [zadd_ne _ _ (by omega), zadd_ne _ _ (by omega)]; exact hk.1.2.2.1
        · rw [zadd_ne _ _ (by omega), zadd_ne _ _ (by omega)]
    · exact wk_le hk (Nat.le_succ n)
  · exact wk_le hk (Nat.le_succ n)
theorem k_dye {n : Nat} {p d q : Int32} {w : wS} (hk : wk n w) : wk (n + 1) (m_dye p d q w).2.2 := by
  have h1 := wk_le (wk_rec hk) (Nat.le_succ n)
  unfold m_dye
  split
  · rename_i hv
    split
    · rename_i hq
      obtain ⟨q1, q2⟩ := isr_ti hq (by decide) (by decide)
      split
      · exact wk_le hk (Nat.le_succ n)
      · rename_i c
        split
        · exact wk_setz h1 (zko_refuse (zko_le hk.1 (Nat.le_succ n)))
        · obtain ⟨v, -, hv4, rfl⟩ := isr_nat (a := 0) (b := 4) hv.1 (by decide) (by decide)
          obtain ⟨e, -, he2, rfl⟩ := isr_nat (a := 0) (b := 2) hv.2 (by decide) (by decide)
          rw [zn_nI (show v < 2 ^ 31 by omega), zn_nI (show e < 2 ^ 31 by omega)]
          rw [zn_nI (show e < 2 ^ 31 by omega)] at c
          have a3 := (hk.1.1.2.2.1 e (by omega)).2.2
          have hge := (zgr_le hk.1.1.2.1 hk.1.1.2.2.1 (show 0 < 5 by decide) (show e < 3 by omega))
          have a2 := (hk.1.1.2.2.1 e (by omega))
          have lo : -99999 ≤ (w_z w (11 + e)).toInt := by
            have := (hk.1.1.2.1 0 e (by decide) (by omega))
            have k1 := (hk.1.1.2.1 1 e (by decide) (by omega))
            have k2 := (hk.1.1.2.1 2 e (by decide) (by omega))
            have k3 := (hk.1.1.2.1 3 e (by decide) (by omega))
            have k4 := (hk.1.1.2.1 4 e (by decide) (by omega))
            rw [show 19 + 8 * 0 + e = 19 + e by omega, show 22 + 8 * 0 + e = 22 + e by omega] at this
            rw [show 19 + 8 * 1 + e = 27 + e by omega, show 22 + 8 * 1 + e = 30 + e by omega] at k1
            rw [show 19 + 8 * 2 + e = 35 + e by omega, show 22 + 8 * 2 + e = 38 + e by omega] at k2
            rw [show 19 + 8 * 3 + e = 43 + e by omega, show 22 + 8 * 3 + e = 46 + e by omega] at k3
            rw [show 19 + 8 * 4 + e = 51 + e by omega, show 22 + 8 * 4 + e = 54 + e by omega] at k4
            have := a2.2.1
            unfold zall at this
            omega
          have e1 := ti_add (a := w_z w (11 + e)) (b := q) (by omega) (by omega)
          have c2 : ¬ (nI 99999).toInt < (w_z w (11 + e) + q).toInt := fun z => c (ti_lt.mpr z)
          rw [nI_toInt (by decide)] at c2
          exact wk_setz h1 (zko_upd (zko_le hk.1 (Nat.le_succ n)) (zok_dye hk.1.1 (by omega) (by omega) (by omega) (by omega)) (by rw [zadd_ne _ _ (by omega), zadd_ne _ _ (by omega)]) (by rw [zadd_ne _ _ (by omega), zadd_ne _ _ (by omega)]) (fun u hu => by rw [zadd_ne _ _ (by omega), zadd_ne _ _ (by omega)]))
    · exact wk_le hk (Nat.le_succ n)
  · exact wk_le hk (Nat.le_succ n)
theorem k_cap {n : Nat} {p q : Int32} {w : wS} (hk : wk n w) : wk (n + 1) (m_cap p q w).2.2 := by
  have h1 := wk_le (wk_rec hk) (Nat.le_succ n)
  unfold m_cap
  split
  · rename_i hv
    split
    · rename_i hq
      obtain ⟨q1, q2⟩ := isr_ti hq (by decide) (by decide)
      obtain ⟨v, -, hv4, rfl⟩ := isr_nat (a := 0) (b := 4) hv (by decide) (by decide)
      rw [zn_nI (by omega)]
      split
      · exact wk_setz h1 (zko_refuse (zko_le hk.1 (Nat.le_succ n)))
      · rename_i c
        have c2 : ¬ q.toInt < (w_z w (18 + 8 * v)).toInt := fun z => c (ti_lt.mpr z)
        exact wk_setz h1 (zko_upd (zko_le hk.1 (Nat.le_succ n)) (zok_cap hk.1.1 (by omega) q2 (by omega)) (by rw [upd_ne _ _ (by omega)]) (by rw [upd_ne _ _ (by omega)]) (fun u hu => by rw [upd_ne _ _ (by omega)]))
    · exact wk_le hk (Nat.le_succ n)
  · exact wk_le hk (Nat.le_succ n)
theorem k_set {n : Nat} {p : Int32} {w : wS} (hk : wk n w) : wk (n + 1) (m_set p w).2.2 := by
  have h1 := wk_le (wk_rec hk) (Nat.le_succ n)
  unfold m_set
  split
  · rename_i hq
    obtain ⟨q1, q2⟩ := isr_ti hq (by decide) (by decide)
    exact wk_setz h1 (zko_upd (zko_le hk.1 (Nat.le_succ n)) (zok_sets hk.1.1 q1 q2) (by rw [upd_ne _ _ (by omega)]) (by rw [upd_ne _ _ (by omega)]) (fun u hu => by rw [upd_ne _ _ (by omega)]))
  · exact wk_le hk (Nat.le_succ n)
theorem k_stir {n : Nat} {p : Int32} {w : wS} (hk : wk n w) : wk (n + 1) (m_stir p w).2.2 := by
  have h1 := wk_le (wk_rec hk) (Nat.le_succ n)
  unfold m_stir
  split
  · rename_i hv
    obtain ⟨v, -, hv4, rfl⟩ := isr_nat (a := 0) (b := 4) hv (by decide) (by decide)
    rw [zn_nI (by omega)]
    have keep : ∀ i, i < 17 → ∀ d, d ≤ 3 → zst v (w_z w) d i = w_z w i := by
      intro i hi d
      induction d with
      | zero => intro _; rfl
      | succ d ih =>
        intro hd
        show zst1 v d _ i = _
        unfold zst1
        rw [zadd_ne _ _ (by omega), zadd_ne _ _ (by omega), ih (by omega)]
    exact wk_setz h1 (zko_upd (zko_le hk.1 (Nat.le_succ n)) (zok_st hk.1.1 (by omega) 3 (Nat.le_refl _)) (keep 3 (by decide) 3 (Nat.le_refl _)) (keep 0 (by decide) 3 (Nat.le_refl _)) (fun u hu => keep _ (by omega) 3 (Nat.le_refl _)))
  · exact wk_le hk (Nat.le_succ n)
theorem k_close {n : Nat} {p : Int32} {w : wS} (hk : wk n w) : wk (n + 1) (m_close p w).2.2 := by
  have h1 := wk_le (wk_rec hk) (Nat.le_succ n)
  obtain ⟨m, hm8, hm, -⟩ := hk.1.1.2.2.2.2.2
  unfold m_close
  split
  · rename_i hq
    rw [hm] at hq
    obtain ⟨v, hv, rfl⟩ := isl_nat hm8 hq
    rw [hm, zn_nI (show v < 2 ^ 31 by omega), zn_nI (show m < 2 ^ 31 by omega)]
    exact wk_setz h1 (zko_upd (zko_le hk.1 (Nat.le_succ n)) (zok_drop hk.1.1 hm hm8 hv) (zdrop_lo (by omega) (by omega)) (zdrop_lo (by omega) (by omega)) (fun u hu => zdrop_lo (by omega) (by omega)))
  · exact wk_le hk (Nat.le_succ n)
theorem k_valve {n : Nat} {f t r a b : Int32} {w : wS} (hk : wk n w) : wk (n + 1) (m_valve f t r a b w).2.2 := by
  have h1 := wk_le (wk_rec hk) (Nat.le_succ n)
  obtain ⟨m, hm8, hm, -⟩ := hk.1.1.2.2.2.2.2
  unfold m_valve
  split
  · rename_i hv
    split
    · rename_i hq
      split
      · exact wk_le hk (Nat.le_succ n)
      · rename_i c
        have hm7 : m < 8 := by
          have : m ≠ 8 := fun q => c (by rw [hm, q])
          omega
        obtain ⟨f', -, hf, rfl⟩ := isr_nat (a := 0) (b := 4) hv.1 (by decide) (by decide)
        obtain ⟨t', -, ht, rfl⟩ := isr_nat hv.2 (by decide) (by decide)
        obtain ⟨r', hr1, hr2, rfl⟩ := isr_nat hq.2.1 (by decide) (by decide)
        obtain ⟨a', -, ha, rfl⟩ := isr_nat hq.2.2.1 (by decide) (by decide)
        obtain ⟨b', hb1, hb2, rfl⟩ := isr_nat (a := a') (b := 23) hq.2.2.2 (by omega) (by decide)
        rw [hm, zn_nI (show m < 2 ^ 31 by omega)]
        exact wk_setz h1 (zko_upd (zko_le hk.1 (Nat.le_succ n)) (zok_put hk.1.1 hm hm7 (by omega) ht (fun q => hq.1 (by rw [q])) hr1 hr2 hb1 hb2) (zput_lo (by omega) (by omega)) (zput_lo (by omega) (by omega)) (fun u hu => zput_lo (by omega) (by omega)))
    · exact wk_le hk (Nat.le_succ n)
  · exact wk_le hk (Nat.le_succ n)
end
section
/-! mainValve in the class; what holds stays so: pass, undo, keep, goBack, append, clearBuffer, pipe -/
theorem c_V_mainValve {m : Nat} {z : dz} {f : Nat → Int32} {M : am_M} {K : am_Q} (hM : M 2 = zp z) (hz : zok z) (hm : z 5 = nI m) (hm8 : m ≤ 8) (hf : ∀ k, k < m → zhours (zdrop k m z) 24 2 = f k) (h : ∀ M', (∀ o, o ≠ 4 → M' o = M o) → K (.inl (some (.int (nI (zmb f m) - nI 1)))) M') : am_C mt_V_mainValve [.ref 0] M K := by
  have e5 : zp z 56 = nI m := hm
  have e0 : nI (zmb f 0) - nI 1 = -nI 1 := (show nI 0 - nI 1 = -nI 1 by decide +kernel)
  have key : ∀ n k, k + n = m → ∀ g, am_R am_S0 mt_V_mainValve 1 6 [.ref 0, .int (nI (zmb f k) - nI 1), .int (if zmb f k = 0 then nI 0 else f (zmb f k - 1)), .int (nI k), .null] [] (am_set M 4 g) K := by
    intro n
    induction n with
    | zero =>
      intro k hk g
      have : k = m := by omega
      subst this
      refine g_V_mainValve_6 ⟨56, rfl, by decide, fun c => g_V_mainValve_82 (h _ (fun o ho => by rw [am_so _ _ ho])), fun c => absurd ?_ c⟩
      show M 2 56 ≤ nI k
      rw [hM, e5]
      exact i_le (Nat.le_refl k) (by omega)
    | succ n ihn =>
      intro k hk g
      have hk' : k < m := by omega
      have ih := ihn (k + 1) (by omega)
      have hb := zmb_le f k
      have eb : zmb f (k + 1) = if zmb f k = 0 ∨ f k < f (zmb f k - 1) then k + 1 else zmb f k := rfl
      rw [eb] at ih
      generalize zmb f k = b at hb ih ⊢
      have hzd := zok_drop hz hm hm8 hk'
      have eF := hf k hk'
      refine g_V_mainValve_6 ⟨56, rfl, by decide, fun c => absurd c ?_, fun c => ?_⟩
      · show ¬ M 2 56 ≤ nI k
        rw [hM, e5]
        exact i_nge hk' (by omega)
      have e2 : am_set M 4 g 2 = zp z := hM
      refine c_S_takeFrom_3 ?_
      rw [e2, am_set_set]
      refine c_S_removeValve_3 (z := z) (am_set_eq ..) hm hm8 hk' ?_
      rw [am_set_set]
      refine c_S_runHours_3 (n := 24) (z := zdrop k m z) (am_set_eq ..) hzd (by decide) ?_
      rw [am_set_set]
      generalize zhours (zdrop k m z) 24 = F at eF ⊢
      have eF2 : am_set M 4 (zp F) 4 54 = f k := by rw [am_set_eq]; exact eF
      refine ⟨54, rfl, by decide, ?_⟩
      have ih' := ih (zp F)
      have all : ∀ d, d = f k → ((nI b - nI 1 = -nI 1 → am_R am_S0 mt_V_mainValve 1 71 [.ref 0, .int (nI b - nI 1), .int (if b = 0 then nI 0 else f (b - 1)), .int (nI k), .int d] [] (am_set M 4 (zp F)) K) ∧ (¬ nI b - nI 1 = -nI 1 → (((if b = 0 then nI 0 else f (b - 1)) ≤ d → am_R am_S0 mt_V_mainValve 1 76 [.ref 0, .int (nI b - nI 1), .int (if b = 0 then nI 0 else f (b - 1)), .int (nI k), .int d] [] (am_set M 4 (zp F)) K) ∧ (¬ (if b = 0 then nI 0 else f (b - 1)) ≤ d → am_R am_S0 mt_V_mainValve 1 71 [.ref 0, .int (nI b - nI 1), .int (if b = 0 then nI 0 else f (b - 1)), .int (nI k), .int d] [] (am_set M 4 (zp F)) K)))) := by
        intro d ed
        subst ed
        have yes : (b = 0 ∨ f k < f (b - 1)) → am_R am_S0 mt_V_mainValve 1 71 [.ref 0, .int (nI b - nI 1), .int (if b = 0 then nI 0 else f (b - 1)), .int (nI k), .int (f k)] [] (am_set M 4 (zp F)) K := by
          intro c
          rw [if_pos c, nI_sub1 (by omega), if_neg (by omega), Nat.add_sub_cancel] at ih'
          exact g_V_mainValve_71 (g_V_mainValve_76 (am_R_le (by repeat' (first | exact trivial | exact Or.inr rfl | exact Or.inl rfl | exact Or.inr (congrArg Value.int (nI_succ _)) | refine ⟨?_, ?_⟩)) ih'))
        have no : ¬ (b = 0 ∨ f k < f (b - 1)) → am_R am_S0 mt_V_mainValve 1 76 [.ref 0, .int (nI b - nI 1), .int (if b = 0 then nI 0 else f (b - 1)), .int (nI k), .int (f k)] [] (am_set M 4 (zp F)) K := by
          intro c
          rw [if_neg c] at ih'
          exact g_V_mainValve_76 (am_R_le (by repeat' (first | exact trivial | exact Or.inr rfl | exact Or.inl rfl | exact Or.inr (congrArg Value.int (nI_succ _)) | refine ⟨?_, ?_⟩)) ih')
        refine ⟨fun c => yes (Or.inl ?_), fun c => ?_⟩
        · exact (bs_neg8 (by omega)).mp (by rw [c]; decide +kernel)
        · have hb0 : b ≠ 0 := fun q => c (by rw [q]; decide +kernel)
          rw [if_neg hb0] at yes no ⊢
          refine ⟨fun c2 => no fun q => ?_, fun c2 => yes (Or.inr (Int32.not_le.mp c2))⟩
          rcases q with q | q
          · exact hb0 q
          · exact Int32.not_le.mpr q c2
      exact all _ eF2
  have k0 := key m 0 (by omega) (M 4)
  rw [am_set_self, e0] at k0
  exact am_C_of_R am_S0 om_V_mainValve rfl [.ref 0, .null, .null, .null, .null] rfl rfl (g_V_mainValve_0 (am_R_le (by repeat' (first | exact trivial | exact Or.inr rfl | exact Or.inl rfl | exact Or.inr (congrArg Value.int (nI_succ _)) | refine ⟨?_, ?_⟩)) k0))
noncomputable def m_main (w : wS) : Int32 := nI (zmb (zmo (w_z w) (zn (w_z w 5))) (zn (w_z w 5))) - nI 1
theorem c_V_main {n : Nat} {w : wS} {M : am_M} {K : am_Q} (hr : vr M w) (hk : wk n w) (h : ∀ M', vr M' w → vf M M' → K (.inl (some (.int (m_main w)))) M') : am_C mt_V_mainValve [.ref 0] M K := by
  obtain ⟨m, hm8, hm, -⟩ := hk.1.1.2.2.2.2.2
  have em : zn (w_z w 5) = m := by rw [hm]; exact zn_nI (by omega)
  unfold m_main at h
  rw [em] at h
  exact c_V_mainValve hr.1 hk.1.1 hm hm8 (fun k _ => rfl) (fun M' hM' => h M' (vr_keep hr (fun o ho => hM' o (by omega))) (fun o ho => hM' o (by omega)))
theorem k_pass {n : Nat} {p : Int32} {w : wS} (hk : wk n w) : wk (n + 1) (m_pass p w).2.2 := by
  have h1 := wk_le (wk_rec hk) (Nat.le_succ n)
  unfold m_pass
  split
  · rename_i hq
    obtain ⟨v, hv1, hv2, rfl⟩ := isr_nat hq (by decide) (by decide)
    split
    · exact wk_le hk (Nat.le_succ n)
    · rename_i c
      have c2 : ¬ (nI 99999).toInt < (w_z w 0 + nI v).toInt := fun z => c (ti_lt.mpr z)
      have h0 := hk.1.2.2.1
      have e : (nI v).toInt = v := nI_toInt (by omega)
      rw [nI_toInt (by decide), ti_add (by omega) (by omega)] at c2
      rw [zn_nI (by omega)]
      exact wk_setz h1 (zko_hours (zko_le hk.1 (Nat.le_succ n)) hv2 (by omega))
  · exact wk_le hk (Nat.le_succ n)
theorem k_undo {n : Nat} {w : wS} (hk : wk n w) : wk (n + 1) (m_undo w).2.2 := by
  have h1 := wk_le hk (Nat.le_succ n)
  unfold m_undo
  split
  · exact h1
  · rename_i c
    exact ⟨zko_cp (h1.2.1 _ (by omega)), fun j hj => h1.2.1 j (by have hj' : j < w_s w - 1 := hj; omega), h1.2.2.1, (by show w_s w - 1 ≤ 6; have := h1.2.2.2.1; omega), h1.2.2.2.2⟩
theorem k_keep {n : Nat} {p : Int32} {w : wS} (hk : wk n w) : wk (n + 1) (m_keep p w).2.2 := by
  have h1 := wk_le hk (Nat.le_succ n)
  unfold m_keep
  split
  · refine ⟨h1.1, h1.2.1, fun j hj hkp => ?_, h1.2.2.2⟩
    have hkp' : (if j = zn p then true else w_kp w j) = true := hkp
    show zko (n + 1) (if j = zn p then w_z w else w_sl w j)
    by_cases c : j = zn p
    · rw [if_pos c]; exact h1.1
    · rw [if_neg c] at hkp' ⊢
      exact h1.2.2.1 j hj hkp'
  · exact h1
theorem k_back {n : Nat} {p : Int32} {w : wS} (hk : wk n w) : wk (n + 1) (m_back p w).2.2 := by
  have h1 := wk_le (wk_rec hk) (Nat.le_succ n)
  unfold m_back
  split
  · rename_i hq
    obtain ⟨v, -, hv, rfl⟩ := isr_nat hq (by decide) (by decide)
    rw [zn_nI (by omega)]
    split
    · rename_i c
      exact wk_setz h1 (zko_cp (zko_le (hk.2.2.1 v (by omega) c) (Nat.le_succ n)))
    · exact wk_le hk (Nat.le_succ n)
  · exact wk_le hk (Nat.le_succ n)
theorem k_app {n : Nat} {p : Int32} {w : wS} (hk : wk n w) : wk (n + 1) (m_app p w).2.2 := by
  have h1 := wk_le hk (Nat.le_succ n)
  unfold m_app
  split
  · rename_i hq
    split
    · exact h1
    · rename_i c
      obtain ⟨v, hv1, hv2, rfl⟩ := isr_nat hq (by decide) (by decide)
      obtain ⟨a1, a2, a3, a4, a5, a6⟩ := h1
      refine ⟨a1, a2, a3, a4, (by show w_ln w + 1 ≤ 60; omega), fun k hk' => ?_⟩
      have hk2 : k < w_ln w + 1 := hk'
      show ∃ c, 33 ≤ c ∧ c ≤ 126 ∧ (if k = w_ln w then nI v else w_tx w k) = nI c
      by_cases c2 : k = w_ln w
      · rw [if_pos c2]; exact ⟨v, hv1, hv2, rfl⟩
      · rw [if_neg c2]; exact a6 k (by omega)
  · exact h1
theorem k_clr {n : Nat} {w : wS} (hk : wk n w) : wk (n + 1) (w_clr w) := by
  obtain ⟨a1, a2, a3, a4, a5, a6⟩ := wk_le hk (Nat.le_succ n)
  exact ⟨a1, a2, a3, a4, Nat.zero_le 60, fun k hk' => absurd hk' (Nat.not_lt_zero k)⟩
theorem zpk_pipe {z : dz} {v u : Nat} (h : zpk z) (hv : v < 5) (hu : u < 5) (hne : u ≠ v) : zpk (w_pp z v u) := by
  obtain ⟨m, h1, h2⟩ := h
  have f1 : ∀ m, m < 32 → ∀ v, v < 5 → m ^^^ (1 <<< v) < 32 := by decide
  have f2 : ∀ v, v < 5 → ∀ u, u < 5 → (1 <<< v).testBit u = decide (v = u) := by decide
  have fb : ∀ a, a < 5 → ∀ b, b < 5 → (if a = u then m u ^^^ (1 <<< v) else if a = v then m v ^^^ (1 <<< u) else m a).testBit b = ((m a).testBit b ^^ decide (a = u ∧ b = v ∨ a = v ∧ b = u)) := by
    intro a ha b hb
    by_cases c1 : a = u
    · subst c1
      rw [if_pos rfl, Nat.testBit_xor, f2 v hv b hb]
      congr 1
      exact decide_eq_decide.mpr ⟨fun q => Or.inl ⟨rfl, q.symm⟩, fun q => by omega⟩
    · rw [if_neg c1]
      by_cases c2 : a = v
      · subst c2
        rw [if_pos rfl, Nat.testBit_xor, f2 u hu b hb]
        congr 1
        exact decide_eq_decide.mpr ⟨fun q => Or.inr ⟨rfl, q.symm⟩, fun q => by omega⟩
      · rw [if_neg c2]
        have : ¬ (a = u ∧ b = v ∨ a = v ∧ b = u) := by omega
        rw [decide_eq_false this, Bool.xor_false]
  refine ⟨fun a => if a = u then m u ^^^ (1 <<< v) else if a = v then m v ^^^ (1 <<< u) else m a, fun a ha => ?_, fun a ha b hb => ?_⟩
  · rw [w_pp_eq hne]
    dsimp only
    obtain ⟨k1, k2, k3⟩ := h1 a ha
    refine ⟨?_, ?_, ?_⟩
    · by_cases c1 : a = u
      · subst c1
        rw [if_pos rfl, upd_eq, k1, ti_xor_bit _ _ k2 hv]
      · rw [if_neg c1, upd_ne _ _ (by omega)]
        by_cases c2 : a = v
        · subst c2
          rw [if_pos rfl, upd_eq, k1, ti_xor_bit _ _ k2 hu]
        · rw [if_neg c2, upd_ne _ _ (by omega)]
          exact k1
    · by_cases c1 : a = u
      · subst c1
        rw [if_pos rfl]; exact f1 _ k2 _ hv
      · rw [if_neg c1]
        by_cases c2 : a = v
        · subst c2
          rw [if_pos rfl]; exact f1 _ k2 _ hu
        · rw [if_neg c2]; exact k2
    · rw [fb a ha a ha, k3, decide_eq_false (by omega)]
      rfl
  · dsimp only
    rw [fb a ha b hb, fb b hb a ha, h2 a ha b hb]
    congr 1
    exact decide_eq_decide.mpr (by omega)
theorem k_pipe {n : Nat} {p q : Int32} {w : wS} (hk : wk n w) : wk (n + 1) (m_pipe p q w).2.2 := by
  have h1 := wk_le (wk_rec hk) (Nat.le_succ n)
  unfold m_pipe
  split
  · rename_i hv
    split
    · exact wk_le hk (Nat.le_succ n)
    · rename_i c
      obtain ⟨v, -, hv4, rfl⟩ := isr_nat (a := 0) (b := 4) hv.1 (by decide) (by decide)
      obtain ⟨u, -, hu4, rfl⟩ := isr_nat (a := 0) (b := 4) hv.2 (by decide) (by decide)
      rw [zn_nI (show v < 2 ^ 31 by omega), zn_nI (show u < 2 ^ 31 by omega)]
      have hne : u ≠ v := fun q => c (by rw [q])
      have hp := zpk_pipe hk.1.2.2.2 (show v < 5 by omega) (show u < 5 by omega) hne
      rw [w_pp_eq hne] at hp
      refine wk_setz h1 ⟨zok_upd (by omega) (zok_upd (by omega) hk.1.1), ?_, ?_, hp⟩
      · have := hk.1.2.1
        rw [upd_ne _ _ (by omega), upd_ne _ _ (by omega)]
        omega
      · rw [upd_ne _ _ (by omega), upd_ne _ _ (by omega)]; exact hk.1.2.2.1
  · exact wk_le hk (Nat.le_succ n)
end
section
/-! goneShare -/
theorem fp_n64 {a b : Int32} (ha : 0 ≤ a.toInt) (hab : a.toInt ≤ b.toInt) (hb : 0 < b.toInt) (hb2 : b.toInt ≤ 299997) : vf_n64 (FP.ddiv (FP.i2d a) (FP.i2d b)) := n64_of (f_share_nan ha hab hb hb2)
def zgone (z : dz) : Int32 := z 14 + z 15 + z 16
def zput3 (z : dz) : Int32 := z 11 + z 12 + z 13
def zshare (z : dz) : UInt64 := if zput3 z = 0 then 0 else FP.ddiv (FP.i2d (zgone z)) (FP.i2d (zput3 z))
theorem zacc_out {z : dz} (h : zok z) {d : Nat} (hd : d < 3) : 0 ≤ (z (14 + d)).toInt ∧ (z (14 + d)).toInt ≤ (z (11 + d)).toInt ∧ (z (11 + d)).toInt ≤ 99999 := by
  obtain ⟨a1, a2, a3⟩ := h.2.2.1 d hd
  have k0 := h.2.1 0 d (by decide) hd
  have k1 := h.2.1 1 d (by decide) hd
  have k2 := h.2.1 2 d (by decide) hd
  have k3 := h.2.1 3 d (by decide) hd
  have k4 := h.2.1 4 d (by decide) hd
  rw [show 19 + 8 * 0 + d = 19 + d by omega, show 22 + 8 * 0 + d = 22 + d by omega] at k0
  rw [show 19 + 8 * 1 + d = 27 + d by omega, show 22 + 8 * 1 + d = 30 + d by omega] at k1
  rw [show 19 + 8 * 2 + d = 35 + d by omega, show 22 + 8 * 2 + d = 38 + d by omega] at k2
  rw [show 19 + 8 * 3 + d = 43 + d by omega, show 22 + 8 * 3 + d = 46 + d by omega] at k3
  rw [show 19 + 8 * 4 + d = 51 + d by omega, show 22 + 8 * 4 + d = 54 + d by omega] at k4
  unfold zall at a2
  omega
theorem zshare_ti {z : dz} (h : zok z) : (zgone z).toInt = (z 14).toInt + (z 15).toInt + (z 16).toInt ∧ (zput3 z).toInt = (z 11).toInt + (z 12).toInt + (z 13).toInt ∧ 0 ≤ (zgone z).toInt ∧ (zgone z).toInt ≤ (zput3 z).toInt ∧ (zput3 z).toInt ≤ 299997 := by
  have h0 := zacc_out h (show 0 < 3 by decide)
  have h1 := zacc_out h (show 1 < 3 by decide)
  have h2 := zacc_out h (show 2 < 3 by decide)
  simp only [Nat.reduceAdd] at h0 h1 h2
  have e1 := ti_add (a := z 14) (b := z 15) (by omega) (by omega)
  have e2 := ti_add (a := z 14 + z 15) (b := z 16) (by omega) (by omega)
  have e3 := ti_add (a := z 11) (b := z 12) (by omega) (by omega)
  have e4 := ti_add (a := z 11 + z 12) (b := z 13) (by omega) (by omega)
  unfold zgone zput3
  omega
theorem c_V_goneShare {z : dz} {M : am_M} {K : am_Q} (hM : M 2 = zp z) (hz : zok z) (h : K (.inl (some (.double (zshare z)))) M) : am_C mt_V_goneShare [.ref 0] M K := by
  obtain ⟨-, -, t1, t2, t3⟩ := zshare_ti hz
  have s1 : zsum (fun d => z (11 + d)) 3 = zput3 z := by
    show nI 0 + z 11 + z 12 + z 13 = z 11 + z 12 + z 13
    rw [show nI 0 + z 11 = z 11 from Int32.zero_add _]
  have s2 : zsum (fun d => z (14 + d)) 3 = zgone z := by
    show nI 0 + z 14 + z 15 + z 16 = z 14 + z 15 + z 16
    rw [show nI 0 + z 14 = z 14 from Int32.zero_add _]
  unfold zshare at h
  refine am_C_of_R am_S0 om_V_goneShare rfl [.ref 0, .null, .null, .null] rfl rfl (g_V_goneShare_0 ?_)
  refine am_R_le (xs := [.ref 0, .int (zsum (fun d => z (11 + d)) 0), .int (zsum (fun d => z (14 + d)) 0), .int (nI 0)]) (by repeat' (first | exact trivial | exact Or.inr rfl | exact Or.inl rfl | exact Or.inr (congrArg Value.int (nI_succ _)) | refine ⟨?_, ?_⟩)) ?_
  refine lu (P := fun i => am_R am_S0 mt_V_goneShare 1 6 [.ref 0, .int (zsum (fun d => z (11 + d)) i), .int (zsum (fun d => z (14 + d)) i), .int (nI i)] [] M K) 3 ?_ ?_
  · rw [s1, s2]
    refine g_V_goneShare_6 ⟨fun c => g_V_goneShare_47 ⟨fun c2 => g_V_goneShare_59 (g_V_goneShare_60 ?_), fun c2 => ?_⟩, fun c => absurd (i_le (Nat.le_refl 3) (by decide)) c⟩
    · have c3 : zput3 z = 0 := by
        have := Int32.le_iff_toInt_le.mp (show zput3 z ≤ 0 from c2)
        rw [ti_0] at this
        exact ti_ext (by rw [ti_0]; omega)
      rw [if_pos c3] at h
      exact h
    · have c3 : ¬ zput3 z ≤ 0 := c2
      rw [Int32.le_iff_toInt_le, ti_0] at c3
      have c4 : ¬ zput3 z = 0 := fun q => c3 (by rw [q, ti_0]; omega)
      rw [if_neg c4] at h
      exact ⟨fp_n64 t1 t2 (by omega) t3, g_V_goneShare_60 h⟩
  · intro i hi ih
    have e1 : z (11 + i) = M 2 (45 + i) := by rw [hM]; unfold zp; rw [pz_i hi]
    have e2 : z (14 + i) = M 2 (48 + i) := by rw [hM]; unfold zp; rw [pz_o hi]
    have k1 : zsum (fun d => z (11 + d)) (i + 1) = zsum (fun d => z (11 + d)) i + z (11 + i) := rfl
    have k2 : zsum (fun d => z (14 + d)) (i + 1) = zsum (fun d => z (14 + d)) i + z (14 + i) := rfl
    rw [k1, k2, e1, e2] at ih
    exact g_V_goneShare_6 ⟨fun c => absurd c (i_nge hi (by decide)), fun c => ⟨45 + i, ix2 45 i, by show _ < 105; omega, 48 + i, ix2 48 i, by show _ < 105; omega, am_R_le (by repeat' (first | exact trivial | exact Or.inr rfl | exact Or.inl rfl | exact Or.inr (congrArg Value.int (nI_succ _)) | refine ⟨?_, ?_⟩)) ih⟩⟩
end
section
/-! an hour of two states that differ in nothing that a look or a plan tells -/
def zD (i : Nat) : Prop := i = 0 ∨ i = 2 ∨ (14 ≤ i ∧ i < 17) ∨ (57 ≤ i ∧ (i - 57) % 6 = 5)
def ag (a b : dz) : Prop := ∀ i, ¬ zD i → a i = b i
theorem ag_refl (a : dz) : ag a a := fun _ _ => rfl
theorem ag_symm {a b : dz} (h : ag a b) : ag b a := fun i hi => (h i hi).symm
theorem ag_trans {a b c : dz} (h : ag a b) (h' : ag b c) : ag a c := fun i hi => (h i hi).trans (h' i hi)
theorem ag_add {a b : dz} (h : ag a b) (i : Nat) (x : Int32) : ag (zadd a i x) (zadd b i x) := by
  intro j hj
  by_cases c : j = i
  · subst c
    rw [zadd_eq, zadd_eq, h j hj]
  · rw [zadd_ne _ _ c, zadd_ne _ _ c, h j hj]
theorem ag_upd {a b : dz} (h : ag a b) {i : Nat} (x y : Int32) (hi : zD i) : ag (upd a i x) (upd b i y) := by
  intro j hj
  have c : j ≠ i := fun q => hj (q ▸ hi)
  rw [upd_ne _ _ c, upd_ne _ _ c, h j hj]
theorem ag_moved {a b : dz} (h : ag a b) {fr to : Nat} {much : Int32} (hf : fr < 5) (ht : to ≤ 5) : zmoved fr to much a = zmoved fr to much b := by
  unfold zmoved
  rw [h (18 + 8 * fr) (by unfold zD; omega)]
  split
  · rfl
  · rw [h (17 + 8 * to) (by unfold zD; omega), h (18 + 8 * to) (by unfold zD; omega)]
theorem ag_dyes {a b : dz} (h : ag a b) {fr to : Nat} {m had : Int32} (hf : fr < 5) : ∀ d, d ≤ 3 → ag (zdyes fr to m had a d) (zdyes fr to m had b d)
  | 0, _ => h
  | d + 1, hd => by
    have ih := ag_dyes h (fr := fr) (to := to) (m := m) (had := had) hf d (by omega)
    show ag (zdye fr to m had d _) (zdye fr to m had d _)
    unfold zdye
    have e : zgr fr m had d (zdyes fr to m had a d) = zgr fr m had d (zdyes fr to m had b d) := by
      unfold zgr
      rw [ih (19 + 8 * fr + d) (by unfold zD; omega)]
    rw [e]
    exact ag_add (ag_add ih _ _) _ _
theorem ag_move {a b : dz} (h : ag a b) {fr to : Nat} {much : Int32} (hf : fr < 5) (ht : to ≤ 5) : ag (zmove fr to much a) (zmove fr to much b) := by
  unfold zmove
  rw [ag_moved h hf ht, h (18 + 8 * fr) (by unfold zD; omega)]
  split
  · exact h
  · exact ag_add (ag_add (ag_dyes h hf 3 (Nat.le_refl _)) _ _) _ _
theorem ag_level {a b : dz} (h : ag a b) {one other : Nat} (h1 : one < 5) (h2 : other < 5) : ag (zlevel one other a) (zlevel one other b) := by
  unfold zlevel
  rw [h (18 + 8 * one) (by unfold zD; omega), h (18 + 8 * other) (by unfold zD; omega)]
  split
  · exact ag_move h h1 (by omega)
  · exact ag_move h h2 (by omega)
theorem ag_lev1 {a b : dz} (h : ag a b) {one other : Nat} (h1 : one < 5) (h2 : other < 5) : ag (zlev1 one other a) (zlev1 one other b) := by
  have e : zpipe one other a ↔ zpipe one other b := by
    unfold zpipe
    rw [h (6 + one) (by unfold zD; omega)]
  unfold zlev1
  by_cases c : zpipe one other a
  · rw [if_pos c, if_pos (e.mp c)]
    exact ag_level h h1 h2
  · rw [if_neg c, if_neg (fun q => c (e.mpr q))]
    exact h
theorem ag_levs {a b : dz} (h : ag a b) {one : Nat} (h1 : one < 5) : ∀ k, one + k < 5 → ag (zlevs one a k) (zlevs one b k)
  | 0, _ => h
  | k + 1, hk => ag_lev1 (ag_levs h h1 k (by omega)) h1 (by omega)
theorem ag_pipes {a b : dz} (h : ag a b) : ∀ k, k ≤ 5 → ag (zpipes a k) (zpipes b k)
  | 0, _ => h
  | k + 1, hk => ag_levs (ag_pipes h k (by omega)) (by omega) _ (by omega)
theorem ag_set1 {a b : dz} (h : ag a b) {v d : Nat} (hv : v < 5) (hd : d < 3) : ag (zset1 v d a) (zset1 v d b) := by
  have e : zholds v a = zholds v b := by
    unfold zholds
    rw [h (18 + 8 * v) (by unfold zD; omega), h 1 (by unfold zD; omega)]
  unfold zset1
  rw [e, h (19 + 8 * v + d) (by unfold zD; omega)]
  split
  · exact ag_add (ag_add h _ _) _ _
  · exact h
theorem ag_settle {a b : dz} (h : ag a b) {v : Nat} (hv : v < 5) : ∀ d, d ≤ 3 → ag (zsettle v a d) (zsettle v b d)
  | 0, _ => h
  | d + 1, hd => ag_set1 (ag_settle h hv d (by omega)) hv (by omega)
theorem ag_settles {a b : dz} (h : ag a b) : ∀ v, v ≤ 5 → ag (zsettles a v) (zsettles b v)
  | 0, _ => h
  | v + 1, hv => ag_settle (ag_settles h v (by omega)) (by omega) 3 (Nat.le_refl _)
theorem ag_valve {a b : dz} (h : ag a b) (hh : zhod a = zhod b) {k m : Nat} (hz : zok a) (hm : a 5 = nI m) (hm8 : m ≤ 8) (hk : k < m) : ag (zvalve k a) (zvalve k b) := by
  obtain ⟨m', hm', e, hv⟩ := hz.2.2.2.2.2
  have : m' = m := (nI_eq (by omega) (by omega)).mp (e.symm.trans hm)
  subst this
  obtain ⟨e1, e2, e3, e4, e5, e6⟩ := zvok_use (hv k hk)
  have eo : zopen k a ↔ zopen k b := by
    unfold zopen
    rw [h (57 + 6 * k + 3) (by unfold zD; omega), h (57 + 6 * k + 4) (by unfold zD; omega), hh]
  have g0 := h (57 + 6 * k) (by unfold zD; omega)
  have g1 := h (57 + 6 * k + 1) (by unfold zD; omega)
  have g2 := h (57 + 6 * k + 2) (by unfold zD; omega)
  unfold zvalve
  by_cases c : zopen k a
  · rw [if_pos c, if_pos (eo.mp c)]
    refine ag_upd ?_ _ _ (by unfold zD; omega)
    rw [← g0, ← g1, ← g2]
    exact ag_move h e3 e4
  · rw [if_neg c, if_neg (fun q => c (eo.mpr q))]
    exact h
theorem ag_valves {a b : dz} (h : ag a b) (hh : zhod a = zhod b) {m : Nat} (hza : zok a) (hzb : zok b) (hm : a 5 = nI m) (hm8 : m ≤ 8) : ∀ k, k ≤ m → ag (zvalves a k) (zvalves b k)
  | 0, _ => h
  | k + 1, hk => by
    have ih := ag_valves h hh hza hzb hm hm8 k (by omega)
    have hmb : b 5 = nI m := by rw [← h 5 (by unfold zD; omega)]; exact hm
    obtain ⟨h1, h2⟩ := zok_valves hza hm hm8 k (by omega)
    have e : zhod (zvalves a k) = zhod (zvalves b k) := by
      have ha := zvalves_keep0 hza hm hm8 k (by omega)
      have hb := zvalves_keep0 hzb hmb hm8 k (by omega)
      unfold zhod at hh ⊢
      rw [ha, hb]
      exact hh
    exact ag_valve ih e h1 (by rw [h2 5 (by unfold zfix; omega)]; exact hm) hm8 (by omega)
theorem ag_hour {a b : dz} (h : ag a b) (hh : zhod a = zhod b) (hza : zok a) (hzb : zok b) : ag (zhour a) (zhour b) := by
  obtain ⟨m, hm8, hm, hv⟩ := hza.2.2.2.2.2
  have hmb : b 5 = nI m := by rw [← h 5 (by unfold zD; omega)]; exact hm
  have ea : zn (a 5) = m := by rw [hm]; exact zn_nI (by omega)
  have eb : zn (b 5) = m := by rw [hmb]; exact zn_nI (by omega)
  unfold zhour
  rw [ea, eb]
  exact ag_add (ag_settles (ag_pipes (ag_valves h hh hza hzb hm hm8 m (Nat.le_refl _)) 5 (Nat.le_refl _)) 5 (Nat.le_refl _)) _ _
/-- the hour of the day, of hours of a small number -/
theorem zhod_ti {z : dz} (h0 : 0 ≤ (z 0).toInt) (h9 : (z 0).toInt ≤ 1000000) : (zhod z).toInt = (z 0).toInt % 24 := by
  have e24 : (nI 24).toInt = 24 := nI_toInt (by decide)
  have e1 := ti_div (a := z 0) (b := nI 24) h0 (by omega)
  rw [e24] at e1
  have e2 := ti_mul (a := z 0 / nI 24) (b := nI 24) (by rw [e1, e24]; omega) (by rw [e1, e24]; omega)
  rw [e1, e24] at e2
  have e3 := ti_sub (a := z 0) (b := z 0 / nI 24 * nI 24) (by omega) (by omega)
  unfold zhod
  omega
theorem ag_hours {a b : dz} (h : ag a b) (hza : zok a) (hzb : zok b) (a0 : 0 ≤ (a 0).toInt ∧ (a 0).toInt ≤ 500000) (b0 : 0 ≤ (b 0).toInt ∧ (b 0).toInt ≤ 500000) (hm : (a 0).toInt % 24 = (b 0).toInt % 24) : ∀ k, k ≤ 24 → ag (zhours a k) (zhours b k)
  | 0, _ => h
  | k + 1, hk => by
    have ih := ag_hours h hza hzb a0 b0 hm k (by omega)
    have ea := zhours_0 hza k
    have eb := zhours_0 hzb k
    have ek : (nI k).toInt = k := nI_toInt (by omega)
    have ta := ti_add (a := a 0) (b := nI k) (by omega) (by omega)
    have tb := ti_add (a := b 0) (b := nI k) (by omega) (by omega)
    rw [← ea] at ta
    rw [← eb] at tb
    refine ag_hour ih (ti_ext ?_) (zok_hours hza k).1 (zok_hours hzb k).1
    rw [zhod_ti (by omega) (by omega), zhod_ti (by omega) (by omega)]
    omega
end
section
/-! rounds of a row of days: what the three ways of finding them give -/
-- E tells which days look the same
def rdE (E : Nat → Nat → Prop) : Prop := (∀ i, E i i) ∧ (∀ i j, E i j → E j i) ∧ (∀ i j k, E i j → E j k → E i k) ∧ ∀ i j, i < 120 → j < 120 → E i j → E (i + 1) (j + 1)
/-- d is the first day that looks like one ahead of it, a -/
def rd1 (E : Nat → Nat → Prop) (a d : Nat) : Prop := a < d ∧ E a d ∧ ∀ j, j < d → ∀ i, i < j → ¬ E i j
theorem rd_shift {E : Nat → Nat → Prop} (h : rdE E) {i j : Nat} (hE : E i j) : ∀ k, i + k ≤ 120 → j + k ≤ 120 → E (i + k) (j + k)
  | 0, _, _ => hE
  | k + 1, h1, h2 => h.2.2.2 (i + k) (j + k) (by omega) (by omega) (rd_shift h hE k (by omega) (by omega))
/-- behind the lead, days look the same that are a whole number of rounds apart -/
theorem rd_mul {E : Nat → Nat → Prop} (h : rdE E) {a d : Nat} (h1 : rd1 E a d) : ∀ n i, a ≤ i → i + n * (d - a) ≤ 120 → E i (i + n * (d - a))
  | 0, i, _, _ => by rw [Nat.zero_mul]; exact h.1 i
  | n + 1, i, hi, hb => by
    obtain ⟨q1, q2, q3⟩ := h1
    have e : (n + 1) * (d - a) = n * (d - a) + (d - a) := Nat.succ_mul n (d - a)
    have k1 := rd_mul h ⟨q1, q2, q3⟩ n i hi (by omega)
    have k2 := rd_shift h q2 (i + n * (d - a) - a) (by omega) (by omega)
    rw [show a + (i + n * (d - a) - a) = i + n * (d - a) by omega, show d + (i + n * (d - a) - a) = i + (n * (d - a) + (d - a)) by omega] at k2
    rw [e]
    exact h.2.2.1 _ _ _ k1 k2
/-- the first day of a round that a day looks like -/
theorem rd_red {E : Nat → Nat → Prop} (h : rdE E) {a d i : Nat} (h1 : rd1 E a d) (hi : a ≤ i) (hb : i ≤ 120) : E (a + (i - a) % (d - a)) i := by
  have q1 := h1.1
  have e := Nat.div_add_mod (i - a) (d - a)
  have e2 : (i - a) / (d - a) * (d - a) = (d - a) * ((i - a) / (d - a)) := Nat.mul_comm _ _
  have k := rd_mul h h1 ((i - a) / (d - a)) (a + (i - a) % (d - a)) (by omega) (by omega)
  rw [show a + (i - a) % (d - a) + (i - a) / (d - a) * (d - a) = i by omega] at k
  exact k
/-- what looks the same: the same day, or behind the lead and a whole number of rounds apart -/
theorem rd_iff {E : Nat → Nat → Prop} (h : rdE E) {a d i j : Nat} (h1 : rd1 E a d) (hij : i < j) (hj : j ≤ 120) : E i j ↔ a ≤ i ∧ (j - i) % (d - a) = 0 := by
  obtain ⟨q1, q2, q3⟩ := h1
  have uni : ∀ x y, x < d → y < d → E x y → x = y := by
    intro x y hx hy hxy
    by_cases c : x < y
    · exact absurd hxy (q3 y hy x c)
    · by_cases c2 : y < x
      · exact absurd (h.2.1 _ _ hxy) (q3 x hx y c2)
      · omega
  have hp : 0 < d - a := by omega
  constructor
  · intro hE
    have hjd : ¬ j < d := fun c => q3 j c i hij hE
    have rj := rd_red h ⟨q1, q2, q3⟩ (show a ≤ j by omega) hj
    have mj := Nat.mod_lt (j - a) hp
    by_cases c : i < a
    · have := uni i (a + (j - a) % (d - a)) (by omega) (by omega) (h.2.2.1 _ _ _ hE (h.2.1 _ _ rj))
      omega
    · have ri := rd_red h ⟨q1, q2, q3⟩ (show a ≤ i by omega) (by omega)
      have mi := Nat.mod_lt (i - a) hp
      have e := uni _ _ (show a + (i - a) % (d - a) < d by omega) (show a + (j - a) % (d - a) < d by omega) (h.2.2.1 _ _ _ ri (h.2.2.1 _ _ _ hE (h.2.1 _ _ rj)))
      refine ⟨by omega, ?_⟩
      have em : (i - a) % (d - a) = (j - a) % (d - a) := by omega
      have e3 : j - i = (j - a) - (i - a) := by omega
      rw [e3]
      exact Nat.sub_mod_eq_zero_of_mod_eq em.symm
  · intro ⟨c1, c2⟩
    have e := Nat.div_add_mod (j - i) (d - a)
    have e2 : (j - i) / (d - a) * (d - a) = (d - a) * ((j - i) / (d - a)) := Nat.mul_comm _ _
    have k := rd_mul h ⟨q1, q2, q3⟩ ((j - i) / (d - a)) i c1 (by omega)
    rw [show i + (j - i) / (d - a) * (d - a) = j by omega] at k
    exact k
/-- no two days of the first N + 1 look the same -/
def rd0 (E : Nat → Nat → Prop) (N : Nat) : Prop := ∀ j, j ≤ N → ∀ i, i < j → ¬ E i j
theorem rd_or (E : Nat → Nat → Prop) : ∀ N, rd0 E N ∨ ∃ a d, d ≤ N ∧ rd1 E a d := by
  intro N
  induction N with
  | zero => exact Or.inl fun j hj i hi => by omega
  | succ N ih =>
    rcases ih with ih | ⟨a, d, h1, h2⟩
    · by_cases c : ∃ i, i < N + 1 ∧ E i (N + 1)
      · obtain ⟨i, hi, hE⟩ := c
        exact Or.inr ⟨i, N + 1, Nat.le_refl _, hi, hE, fun j hj i' hi' => ih j (by omega) i' hi'⟩
      · refine Or.inl fun j hj i hi hE => ?_
        by_cases c2 : j = N + 1
        · subst c2; exact c ⟨i, hi, hE⟩
        · exact ih j (by omega) i hi hE
    · exact Or.inr ⟨a, d, by omega, h2⟩
end
section
/-! the same look: in the class and in the reference -/
theorem c_D_isSameLook {a b : Nat} {M : am_M} {K : am_Q} (ha : a ≤ 120) (hb : b ≤ 120) (h1 : (∀ k, k < 35 → M 8 (a * 35 + k) = M 8 (b * 35 + k)) → K (.inl (some (.int (nI 1)))) M) (h0 : ¬ (∀ k, k < 35 → M 8 (a * 35 + k) = M 8 (b * 35 + k)) → K (.inl (some (.int (nI 0)))) M) : am_C mt_D_isSameLook [.ref 5, .int (nI a), .int (nI b)] M K := by
  have key : ∀ n i, i + n = 35 → (∀ k, k < i → M 8 (a * 35 + k) = M 8 (b * 35 + k)) → am_R am_S0 mt_D_isSameLook 1 24 [.ref 5, .int (nI a), .int (nI b), .int (nI i)] [] M K := by
    intro n
    induction n with
    | zero =>
      intro i hi hall
      have : i = 35 := by omega
      subst this
      exact g_D_isSameLook_24 ⟨fun c => g_D_isSameLook_63 ⟨Or.inr rfl, h1 hall⟩, fun c => absurd (i_le (Nat.le_refl 35) (by decide)) c⟩
    | succ n ih =>
      intro i hi hall
      refine g_D_isSameLook_24 ⟨fun c => absurd c (i_nge (show i < 35 by omega) (by decide)), fun c => ⟨a * 35 + i, ix5 a 35 i, by show _ < 4235; omega, b * 35 + i, ix5 b 35 i, by show _ < 4235; omega, fun c3 => ?_, fun c3 => ?_⟩⟩
      · have c4 : M 8 (a * 35 + i) = M 8 (b * 35 + i) := c3
        have next := ih (i + 1) (by omega) (fun k hk => by
          by_cases c5 : k = i
          · rw [c5]; exact c4
          · exact hall k (by omega))
        exact g_D_isSameLook_57 (am_R_le (by repeat' (first | exact trivial | exact Or.inr rfl | exact Or.inl rfl | exact Or.inr (congrArg Value.int (nI_succ _)) | refine ⟨?_, ?_⟩)) next)
      · have c4 : ¬ M 8 (a * 35 + i) = M 8 (b * 35 + i) := c3
        exact ⟨Or.inl rfl, h0 fun q => c4 (q i (by omega))⟩
  have n0 : ∀ x, x ≤ 120 → ¬ nI x < 0 := fun x hx => nI_pos (by omega)
  have n1 : ∀ x, x ≤ 120 → ¬ nI 120 < nI x := fun x hx => Int32.not_lt.mpr (i_le hx (by decide))
  refine am_C_of_R am_S0 om_D_isSameLook rfl [.ref 5, .int (nI a), .int (nI b), .null] rfl rfl (g_D_isSameLook_0 ⟨fun c => absurd c (n0 a ha), fun c => ⟨fun c => absurd c (n0 b hb), fun c => ⟨fun c => absurd c (n1 a ha), fun c => ⟨fun c => g_D_isSameLook_22 ?_, fun c => absurd (i_le hb (by decide)) c⟩⟩⟩⟩)
  exact am_R_le (by repeat' (first | exact trivial | exact Or.inr rfl | exact Or.inl rfl | exact Or.inr (congrArg Value.int (nI_succ _)) | refine ⟨?_, ?_⟩)) (key 35 0 rfl (fun k hk => absurd hk (Nat.not_lt_zero k)))
end
section
/-! the row of days of a state -/
theorem zhours_add (z : dz) (a : Nat) : ∀ b, zhours z (a + b) = zhours (zhours z a) b
  | 0 => rfl
  | b + 1 => by
    show zhour (zhours z (a + b)) = zhour (zhours (zhours z a) b)
    rw [zhours_add z a b]
noncomputable def zdy (z : dz) (i : Nat) : dz := zhours z (24 * i)
theorem zdy_0 (z : dz) : zdy z 0 = z := rfl
theorem zdy_next (z : dz) (i : Nat) : zdy z (i + 1) = zhours (zdy z i) 24 := by
  unfold zdy
  rw [show 24 * (i + 1) = 24 * i + 24 by omega, zhours_add]
theorem zdy_ok {z : dz} (h : zok z) (i : Nat) : zok (zdy z i) ∧ ∀ k, zfix k → zdy z i k = z k := zok_hours h _
theorem ag_lookZ {a b : dz} (hf : ∀ i, zfix i → a i = b i) : (∀ k, k < 35 → a (18 + 8 * (k / 7) + k % 7) = b (18 + 8 * (k / 7) + k % 7)) ↔ ag a b := by
  refine ⟨fun h i hi => ?_, fun h k hk => h _ (by unfold zD; omega)⟩
  by_cases c : zfix i
  · exact hf i c
  · have h1 : 18 ≤ i ∧ i < 57 ∧ (i - 17) % 8 ≠ 0 := by
      unfold zfix at c
      unfold zD at hi
      omega
    have e := h (7 * ((i - 17) / 8) + ((i - 17) % 8 - 1)) (by omega)
    rw [show 18 + 8 * ((7 * ((i - 17) / 8) + ((i - 17) % 8 - 1)) / 7) + (7 * ((i - 17) / 8) + ((i - 17) % 8 - 1)) % 7 = i by omega] at e
    exact e
theorem pz_look : ∀ i, i < 57 → 18 ≤ i → (i - 17) % 8 ≠ 0 → ∃ k, k < 35 ∧ pz (10 + k) = i := by decide +kernel
theorem pz_lookr : ∀ k, k < 35 → 18 ≤ pz (10 + k) ∧ pz (10 + k) < 57 := by decide +kernel
theorem ag_lookV {a b : dz} (hf : ∀ i, zfix i → a i = b i) : (∀ k, k < 35 → zp a (10 + k) = zp b (10 + k)) ↔ ag a b := by
  refine ⟨fun h i hi => ?_, fun h k hk => ?_⟩
  · by_cases c : zfix i
    · exact hf i c
    · have h1 : 18 ≤ i ∧ i < 57 ∧ (i - 17) % 8 ≠ 0 := by
        unfold zfix at c
        unfold zD at hi
        omega
      obtain ⟨k, hk, e⟩ := pz_look i h1.2.1 h1.1 h1.2.2
      have e2 : a (pz (10 + k)) = b (pz (10 + k)) := h k hk
      rw [e] at e2
      exact e2
  · have := pz_lookr k hk
    exact h _ (by unfold zD; omega)
def zE (z : dz) (i j : Nat) : Prop := ag (zdy z i) (zdy z j)
theorem zE_rd {n : Nat} {z : dz} (h : zko n z) : rdE (zE z) := by
  refine ⟨fun i => ag_refl _, fun i j => ag_symm, fun i j k => ag_trans, fun i j hi hj hE => ?_⟩
  have h0 := h.2.2.1
  have t : ∀ i, i < 120 → (zdy z i 0).toInt = (z 0).toInt + 24 * i := by
    intro i hi
    have ek : (nI (24 * i)).toInt = (24 * i : Nat) := nI_toInt (by omega)
    unfold zdy
    rw [zhours_0 h.1, ti_add (by omega) (by omega)]
    omega
  have ti := t i hi
  have tj := t j hj
  unfold zE
  rw [zdy_next, zdy_next]
  exact ag_hours hE (zdy_ok h.1 i).1 (zdy_ok h.1 j).1 (by omega) (by omega) (by omega) 24 (Nat.le_refl _)
end
section
/-! the class reaches days -/
def dI (z : dz) (M : am_M) (r : Nat) : Prop := M 5 2 = nI r ∧ M 7 = zp (zdy z r) ∧ r ≤ 120 ∧ ∀ d, d ≤ r → ∀ k, k < 35 → M 8 (d * 35 + k) = zp (zdy z d) (10 + k)
/-- what days leave -/
def dF (M M' : am_M) : Prop := (∀ o, o ≠ 5 → o ≠ 7 → o ≠ 8 → M' o = M o) ∧ M' 5 3 = M 5 3 ∧ M' 5 4 = M 5 4
theorem dF_refl (M : am_M) : dF M M := ⟨fun _ _ _ _ => rfl, rfl, rfl⟩
theorem dF_trans {M M' M'' : am_M} (h : dF M M') (h' : dF M' M'') : dF M M'' := ⟨fun o a b c => (h'.1 o a b c).trans (h.1 o a b c), h'.2.1.trans h.2.1, h'.2.2.trans h.2.2⟩
theorem c_D_beginWith {z : dz} {M : am_M} {K : am_Q} (hM : M 2 = zp z) (h : ∀ M', dI z M' 0 → dF M M' → K (.inl none) M') : am_C mt_D_beginWith [.ref 5, .ref 1] M K := by
  refine am_C_of_R am_S0 om_D_beginWith rfl [.ref 5, .ref 1] rfl rfl (g_D_beginWith_0 (c_S_takeFrom_6 ⟨10, 0, 35, rfl, rfl, rfl, by decide, by decide, h _ ⟨?_, ?_, by decide, ?_⟩ ⟨?_, ?_, ?_⟩⟩))
  · exact upd_eq (M 5) 2 (nI 0)
  · exact hM
  · intro d hd k hk
    have : d = 0 := by omega
    subst this
    show va_cpy (M 2) (M 8) 10 0 35 (0 * 35 + k) = zp z (10 + k)
    rw [cpy_in (by omega), hM]
    congr 1
    omega
  · intro o h5 h7 h8
    rw [am_so _ _ h8, am_so _ _ h5, am_so _ _ h7]
  · exact upd_ne (M 5) (k := 2) (j := 3) (nI 0) (by decide)
  · exact upd_ne (M 5) (k := 2) (j := 4) (nI 0) (by decide)
theorem c_D_reachDay {z : dz} {d r : Nat} {M : am_M} {K : am_Q} (hz : zok z) (hI : dI z M r) (hd : d ≤ 120) (h : ∀ M' r', dI z M' r' → d ≤ r' → dF M M' → K (.inl none) M') : am_C mt_D_reachDay [.ref 5, .int (nI d)] M K := by
  have key : ∀ n r M, d - r = n → dI z M r → (∀ M' r', dI z M' r' → d ≤ r' → dF M M' → K (.inl none) M') → am_R am_S0 mt_D_reachDay 1 0 [.ref 5, .int (nI d)] [] M K := by
    intro n
    induction n with
    | zero =>
      intro r M hn hI h
      refine g_D_reachDay_0 ⟨fun c => g_D_reachDay_64 (h M r hI (by omega) (dF_refl M)), fun c => absurd ?_ c⟩
      show nI d ≤ M 5 2
      rw [hI.1]
      exact i_le (by omega) (by have := hI.2.2.1; omega)
    | succ n ih =>
      intro r M hn hI h
      obtain ⟨i1, i2, i3, i4⟩ := hI
      have e1 : M 5 2 + nI 1 = nI (r + 1) := by rw [i1, nI_add]
      refine g_D_reachDay_0 ⟨fun c => absurd c ?_, fun c => ⟨fun c2 => absurd c2 ?_, fun c2 => c_S_runHours_6 (z := zdy z r) i2 (zdy_ok hz r).1 (n := 24) (by decide) ?_⟩⟩
      · show ¬ nI d ≤ M 5 2
        rw [i1]
        exact i_nge (by omega) (by omega)
      · show ¬ nI 120 ≤ M 5 2
        rw [i1]
        exact i_nge (by omega) (by decide)
      · rw [← zdy_next]
        generalize hF : zdy z (r + 1) = F
        refine ⟨10, (r + 1) * 35, 35, rfl, ?_, rfl, by decide, by show _ ≤ 4235; omega, ?_⟩
        · show upd (M 5) 2 (M 5 2 + nI 1) 2 * nI 35 = _
          rw [upd_eq, e1, pk_mul]
        · refine ih (r + 1) (am_set (am_set (am_set M 7 (zp F)) 5 (upd (M 5) 2 (M 5 2 + nI 1))) 8 (va_cpy (zp F) (M 8) 10 ((r + 1) * 35) 35)) (by omega) ⟨?_, ?_, by omega, ?_⟩ (fun M' r' a1 a2 a3 => h M' r' a1 a2 (dF_trans ⟨?_, ?_, ?_⟩ a3))
          · show upd (M 5) 2 (M 5 2 + nI 1) 2 = _
            rw [upd_eq, e1]
          · rw [hF]; rfl
          · intro x hx k hk
            show va_cpy (zp F) (M 8) 10 ((r + 1) * 35) 35 (x * 35 + k) = _
            by_cases c3 : x = r + 1
            · subst c3
              rw [cpy_in (by omega), hF]
              congr 1
              omega
            · rw [cpy_out (by omega)]
              exact i4 x (by omega) k hk
          · intro o h5 h7 h8
            rw [am_so _ _ h8, am_so _ _ h5, am_so _ _ h7]
          · exact upd_ne (M 5) (k := 2) (j := 3) (M 5 2 + nI 1) (by decide)
          · exact upd_ne (M 5) (k := 2) (j := 4) (M 5 2 + nI 1) (by decide)
  exact am_C_of_R am_S0 om_D_reachDay rfl [.ref 5, .int (nI d)] rfl rfl (key _ r M rfl hI h)
/-- two days that are reached look the same -/
theorem c_D_same {z : dz} {a b r : Nat} {M : am_M} {K : am_Q} (hz : zok z) (hI : dI z M r) (ha : a ≤ r) (hb : b ≤ r) (h1 : zE z a b → K (.inl (some (.int (nI 1)))) M) (h0 : ¬ zE z a b → K (.inl (some (.int (nI 0)))) M) : am_C mt_D_isSameLook [.ref 5, .int (nI a), .int (nI b)] M K := by
  have hr := hI.2.2.1
  have e : (∀ k, k < 35 → M 8 (a * 35 + k) = M 8 (b * 35 + k)) ↔ zE z a b := by
    have hl := ag_lookV (a := zdy z a) (b := zdy z b) (fun i hi => ((zdy_ok hz a).2 i hi).trans ((zdy_ok hz b).2 i hi).symm)
    unfold zE
    rw [← hl]
    refine ⟨fun q k hk => ?_, fun q k hk => ?_⟩
    · rw [← hI.2.2.2 a ha k hk, ← hI.2.2.2 b hb k hk]; exact q k hk
    · rw [hI.2.2.2 a ha k hk, hI.2.2.2 b hb k hk]; exact q k hk
  exact c_D_isSameLook (by omega) (by omega) (fun q => h1 (e.mp q)) (fun q => h0 fun c => q (e.mpr c))
end
section
/-! the class finds a round by looking back -/
theorem rd1_uni {E : Nat → Nat → Prop} (h : rdE E) {a d a' d' : Nat} (h1 : rd1 E a d) (h2 : rd1 E a' d') : a = a' ∧ d = d' := by
  obtain ⟨p1, p2, p3⟩ := h1
  obtain ⟨q1, q2, q3⟩ := h2
  have ed : d = d' := by
    by_cases c : d < d'
    · exact absurd p2 (q3 d c a p1)
    · by_cases c2 : d' < d
      · exact absurd q2 (p3 d' c2 a' q1)
      · omega
  subst ed
  refine ⟨?_, rfl⟩
  have e := h.2.2.1 a d a' p2 (h.2.1 _ _ q2)
  by_cases c : a < a'
  · exact absurd e (p3 a' q1 a c)
  · by_cases c2 : a' < a
    · exact absurd (h.2.1 _ _ e) (p3 a p1 a' c2)
    · omega
/-- a round of at most 60 days, in two numbers: its length, its lead -/
def rdR (E : Nat → Nat → Prop) (len lead : Int32) : Prop := (rd0 E 60 → len = -nI 1 ∧ lead = -nI 1) ∧ ∀ a d, d ≤ 60 → rd1 E a d → len = nI (d - a) ∧ lead = nI a
theorem rdR_none {E : Nat → Nat → Prop} (h : rd0 E 60) : rdR E (-nI 1) (-nI 1) := ⟨fun _ => ⟨rfl, rfl⟩, fun a d hd q => absurd q.2.1 (h d hd a q.1)⟩
theorem rdR_some {E : Nat → Nat → Prop} (hE : rdE E) {a d : Nat} (hd : d ≤ 60) (h : rd1 E a d) : rdR E (nI (d - a)) (nI a) :=
  ⟨fun q => absurd h.2.1 (q d hd a h.1), fun a' d' _ q => by obtain ⟨e1, e2⟩ := rd1_uni hE h q; rw [e1, e2]; exact ⟨rfl, rfl⟩⟩
theorem rdR_uni {E : Nat → Nat → Prop} {a b a' b' : Int32} (h : rdR E a b) (h' : rdR E a' b') : a = a' ∧ b = b' := by
  rcases rd_or E 60 with c | ⟨x, d, hd, c⟩
  · obtain ⟨e1, e2⟩ := h.1 c
    obtain ⟨e3, e4⟩ := h'.1 c
    exact ⟨e1.trans e3.symm, e2.trans e4.symm⟩
  · obtain ⟨e1, e2⟩ := h.2 x d hd c
    obtain ⟨e3, e4⟩ := h'.2 x d hd c
    exact ⟨e1.trans e3.symm, e2.trans e4.symm⟩
def dG (M M' : am_M) : Prop := ∀ o, o ≠ 5 → o ≠ 7 → o ≠ 8 → M' o = M o
theorem dG_trans {M M' M'' : am_M} (h : dG M M') (h' : dG M' M'') : dG M M'' := fun o a b c => (h' o a b c).trans (h o a b c)
/-- a field of the days is set that is not the number of days reached -/
theorem dI_5 {z : dz} {M : am_M} {r k : Nat} {x : Int32} (h : dI z M r) (hk : k ≠ 2) : dI z (am_set M 5 (upd (M 5) k x)) r := by
  obtain ⟨i1, i2, i3, i4⟩ := h
  refine ⟨?_, i2, i3, i4⟩
  rw [am_set_eq, upd_ne _ _ (Ne.symm hk)]
  exact i1
theorem dG_5 {M : am_M} {k : Nat} {x : Int32} : dG M (am_set M 5 (upd (M 5) k x)) := fun o h5 _ _ => am_so _ _ h5
theorem c_D_findByLookingBack {n r : Nat} {z : dz} {M : am_M} {K : am_Q} (hz : zko n z) (hI : dI z M r) (h : ∀ M' r', dI z M' r' → rdR (zE z) (M' 5 3) (M' 5 4) → dG M M' → K (.inl none) M') : am_C mt_D_findByLookingBack [.ref 5] M K := by
  have hE := zE_rd hz
  have key : ∀ n day, day + n = 61 → 1 ≤ day → rd0 (zE z) (day - 1) → ∀ M1 r1, dI z M1 r1 → M1 5 3 = -nI 1 → M1 5 4 = -nI 1 → dG M M1 → am_R am_S0 mt_D_findByLookingBack 1 12 [.ref 5, .int (nI day), .null] [] M1 K := by
    intro n
    induction n with
    | zero =>
      intro day hn hd h0 M1 r1 hI1 e3 e4 hG
      have : day = 61 := by omega
      subst this
      refine g_D_findByLookingBack_12 ⟨fun c => g_D_findByLookingBack_64 (h M1 r1 hI1 ?_ hG), fun c => absurd (show nI 60 < nI 61 by decide +kernel) c⟩
      rw [e3, e4]
      exact rdR_none h0
    | succ n ih =>
      intro day hn hd h0 M1 r1 hI1 e3 e4 hG
      refine g_D_findByLookingBack_12 ⟨fun c => absurd c (Int32.not_lt.mpr (i_le (show day ≤ 60 by omega) (by decide))), fun c => c_D_reachDay hz.1 hI1 (by omega) (fun M2 r2 hI2 hr2 hF => ?_)⟩
      have hG2 : dG M M2 := dG_trans hG hF.1
      have inner : ∀ n ah, ah + n = day → (∀ i, i < ah → ¬ zE z i day) → am_R am_S0 mt_D_findByLookingBack 1 25 [.ref 5, .int (nI day), .int (nI ah)] [] M2 K := by
        intro n
        induction n with
        | zero =>
          intro ah ha hno
          have : ah = day := by omega
          subst this
          refine g_D_findByLookingBack_25 ⟨fun c => g_D_findByLookingBack_58 ?_, fun c => absurd (i_le (Nat.le_refl _) (by omega)) c⟩
          have next := ih (ah + 1) (by omega) (by omega) (fun j hj i hi => by
            by_cases c2 : j = ah
            · rw [c2] at hi ⊢; exact hno i hi
            · exact h0 j (by omega) i hi) M2 r2 hI2 (hF.2.1.trans e3) (hF.2.2.trans e4) hG2
          exact am_R_le (by repeat' (first | exact trivial | exact Or.inr rfl | exact Or.inl rfl | exact Or.inr (congrArg Value.int (nI_succ _)) | refine ⟨?_, ?_⟩)) next
        | succ n ihn =>
          intro ah ha hno
          refine g_D_findByLookingBack_25 ⟨fun c => absurd c (i_nge (show ah < day by omega) (by omega)), fun c => c_D_same hz.1 hI2 (show ah ≤ r2 by omega) (show day ≤ r2 by omega) (fun hs => ⟨fun c2 => absurd c2 nI1_ne, fun c2 => ?_⟩) (fun hs => ⟨fun c2 => g_D_findByLookingBack_52 ?_, fun c2 => absurd rfl c2⟩)⟩
          · have h1 : rd1 (zE z) ah day := ⟨by omega, hs, fun j hj i hi => h0 j (by omega) i hi⟩
            have es : nI day - nI ah = nI (day - ah) := nI_subk (by omega)
            have hh := h (am_set (am_set M2 5 (upd (M2 5) 3 (nI day - nI ah))) 5 (upd (am_set M2 5 (upd (M2 5) 3 (nI day - nI ah)) 5) 4 (nI ah))) r2 (dI_5 (dI_5 hI2 (by decide)) (by decide)) (by
              show rdR (zE z) (upd (upd (M2 5) 3 (nI day - nI ah)) 4 (nI ah) 3) (upd (upd (M2 5) 3 (nI day - nI ah)) 4 (nI ah) 4)
              rw [upd_eq, upd_ne _ _ (by decide), upd_eq, es]
              exact rdR_some hE (by omega) h1) (dG_trans hG2 (dG_trans dG_5 dG_5))
            exact hh
          · have next := ihn (ah + 1) (by omega) (fun i hi => by
              by_cases c3 : i = ah
              · rw [c3]; exact hs
              · exact hno i (by omega))
            exact am_R_le (by repeat' (first | exact trivial | exact Or.inr rfl | exact Or.inl rfl | exact Or.inr (congrArg Value.int (nI_succ _)) | refine ⟨?_, ?_⟩)) next
      exact am_R_le (by repeat' (first | exact trivial | exact Or.inr rfl | exact Or.inl rfl | exact Or.inr (congrArg Value.int (nI_succ _)) | refine ⟨?_, ?_⟩)) (inner day 0 (by omega) (fun i hi => absurd hi (Nat.not_lt_zero i)))
  have k0 := key 60 1 rfl (Nat.le_refl _) (fun j hj i hi => by omega) (am_set (am_set M 5 (upd (M 5) 3 (-nI 1))) 5 (upd (am_set M 5 (upd (M 5) 3 (-nI 1)) 5) 4 (-nI 1))) r (dI_5 (dI_5 hI (by decide)) (by decide)) (by
    show upd (upd (M 5) 3 (-nI 1)) 4 (-nI 1) 3 = _
    rw [upd_ne _ _ (by decide), upd_eq]) (upd_eq (upd (M 5) 3 (-nI 1)) 4 (-nI 1)) (dG_trans dG_5 dG_5)
  exact am_C_of_R am_S0 om_D_findByLookingBack rfl [.ref 5, .null, .null] rfl rfl (g_D_findByLookingBack_0 (am_R_le (by repeat' (first | exact trivial | exact Or.inr rfl | exact Or.inl rfl | exact Or.inr (congrArg Value.int (nI_succ _)) | refine ⟨?_, ?_⟩)) k0))
end
section
/-! the class finds a round by two runners -/
theorem rd_meet {E : Nat → Nat → Prop} (hE : rdE E) (h : ∀ m, 1 ≤ m → m ≤ 60 → ¬ E m (2 * m)) : rd0 E 60 := by
  rcases rd_or E 60 with c | ⟨a, d, hd, c⟩
  · exact c
  · exfalso
    have hp : 0 < d - a := by have := c.1; omega
    have e1 := Nat.div_add_mod a (d - a)
    have e2 := Nat.mod_lt a hp
    have e3 : (d - a) * (a / (d - a) + 1) = (d - a) * (a / (d - a)) + (d - a) := Nat.mul_succ _ _
    refine h ((d - a) * (a / (d - a) + 1)) (by omega) (by omega) ?_
    refine (rd_iff hE c (by omega) (by omega)).mpr ⟨by omega, ?_⟩
    rw [show 2 * ((d - a) * (a / (d - a) + 1)) - (d - a) * (a / (d - a) + 1) = (d - a) * (a / (d - a) + 1) by omega]
    exact Nat.mul_mod_right _ _
theorem c_D_findByRunners {n r : Nat} {z : dz} {M : am_M} {K : am_Q} (hz : zko n z) (hI : dI z M r) (h : ∀ M' r', dI z M' r' → rdR (zE z) (M' 5 3) (M' 5 4) → dG M M' → K (.inl none) M') : am_C mt_D_findByRunners [.ref 5] M K := by
  have hE := zE_rd hz
  have two : ∀ m : Nat, nI 2 * nI m = nI (2 * m) := fun m => pk_mul 2 m
  -- behind a meeting
  have met : ∀ m M1 r1, 1 ≤ m → m ≤ 60 → 2 * m ≤ r1 → dI z M1 r1 → M1 5 3 = -nI 1 → M1 5 4 = -nI 1 → dG M M1 → zE z m (2 * m) → am_R am_S0 mt_D_findByRunners 1 51 [.ref 5, .int (nI m), .null, .null] [] M1 K := by
    intro m M1 r1 hm1 hm hr hI1 e3 e4 hG hs
    have hr1 := hI1.2.2.1
    rcases rd_or (zE z) 120 with c | ⟨a, d, hd, c⟩
    · exact absurd hs (c (2 * m) (by omega) m (by omega))
    have hp : 0 < d - a := by have := c.1; omega
    obtain ⟨ham, hmod⟩ := (rd_iff hE c (show m < 2 * m by omega) (by omega)).mp hs
    rw [show 2 * m - m = m by omega] at hmod
    have hpm : d - a ≤ m := Nat.le_of_dvd (by omega) (Nat.dvd_of_mod_eq_zero hmod)
    have fin : am_R am_S0 mt_D_findByRunners 1 99 [.ref 5, .int (nI m), .int (nI a), .int (nI (d - a))] [] M1 K := by
      refine g_D_findByRunners_99 ⟨fun c2 => g_D_findByRunners_117 (h M1 r1 hI1 ?_ hG), fun c2 => ?_⟩
      · have c3 : nI 60 < nI a + nI (d - a) := c2
        rw [nI_add] at c3
        have := (nI_lti (by decide) (by omega)).mp c3
        rw [e3, e4]
        exact rdR_none (fun j hj i hi => c.2.2 j (by omega) i hi)
      · have c3 : ¬ nI 60 < nI a + nI (d - a) := c2
        rw [nI_add] at c3
        have hd60 : d ≤ 60 := by
          have : ¬ 60 < a + (d - a) := fun q => c3 ((nI_lti (by decide) (by omega)).mpr q)
          omega
        have hh := h (am_set (am_set M1 5 (upd (M1 5) 3 (nI (d - a)))) 5 (upd (am_set M1 5 (upd (M1 5) 3 (nI (d - a))) 5) 4 (nI a))) r1 (dI_5 (dI_5 hI1 (by decide)) (by decide)) (by
          show rdR (zE z) (upd (upd (M1 5) 3 (nI (d - a))) 4 (nI a) 3) (upd (upd (M1 5) 3 (nI (d - a))) 4 (nI a) 4)
          rw [upd_eq, upd_ne _ _ (by decide), upd_eq]
          exact rdR_some hE hd60 c) (dG_trans hG (dG_trans dG_5 dG_5))
        exact g_D_findByRunners_117 hh
    have dist : ∀ k t, t + k = d - a → 1 ≤ t → am_R am_S0 mt_D_findByRunners 1 77 [.ref 5, .int (nI m), .int (nI a), .int (nI t)] [] M1 K := by
      intro k
      induction k with
      | zero =>
        intro t ht h1
        have : t = d - a := by omega
        subst this
        refine g_D_findByRunners_77 ⟨fun c2 => fin, fun c2 => ?_⟩
        have hlt : d - a < m := by
          have c3 : ¬ nI m ≤ nI (d - a) := c2
          exact (nI_lti (by omega) (by omega)).mp (Int32.not_le.mp c3)
        show am_C mt_D_isSameLook [.ref 5, .int (nI a), .int (nI a + nI (d - a))] _ _
        rw [nI_add]
        refine c_D_same hz.1 hI1 (by omega) (by omega) (fun hs => ⟨fun c3 => fin, fun c3 => absurd nI1_ne c3⟩) (fun hs => absurd ((rd_iff hE c (by omega) (by omega)).mpr ⟨Nat.le_refl a, ?_⟩) hs)
        rw [show a + (d - a) - a = d - a by omega, Nat.mod_self]
      | succ k ih =>
        intro t ht h1
        refine g_D_findByRunners_77 ⟨fun c2 => absurd c2 (i_nge (show t < m by omega) (by omega)), fun c2 => ?_⟩
        show am_C mt_D_isSameLook [.ref 5, .int (nI a), .int (nI a + nI t)] _ _
        rw [nI_add]
        refine c_D_same hz.1 hI1 (by omega) (by omega) (fun hs => ?_) (fun hs => ⟨fun c3 => absurd rfl c3, fun c3 => am_R_le (by repeat' (first | exact trivial | exact Or.inr rfl | exact Or.inl rfl | exact Or.inr (congrArg Value.int (nI_succ _)) | refine ⟨?_, ?_⟩)) (ih (t + 1) (by omega) (by omega))⟩)
        have q := ((rd_iff hE c (by omega) (by omega)).mp hs).2
        rw [show a + t - a = t by omega, Nat.mod_eq_of_lt (by omega)] at q
        omega
    have toDist : am_R am_S0 mt_D_findByRunners 1 75 [.ref 5, .int (nI m), .int (nI a), .null] [] M1 K :=
      g_D_findByRunners_75 (am_R_le (by repeat' (first | exact trivial | exact Or.inr rfl | exact Or.inl rfl | exact Or.inr (congrArg Value.int (nI_succ _)) | refine ⟨?_, ?_⟩)) (dist (d - a - 1) 1 (by omega) (Nat.le_refl _)))
    have start : ∀ k s, s + k = a → am_R am_S0 mt_D_findByRunners 1 53 [.ref 5, .int (nI m), .int (nI s), .null] [] M1 K := by
      intro k
      induction k with
      | zero =>
        intro s hs0
        have : s = a := by omega
        subst this
        refine g_D_findByRunners_53 ⟨fun c2 => toDist, fun c2 => ?_⟩
        have hlt : s < m := by
          have c3 : ¬ nI m ≤ nI s := c2
          exact (nI_lti (by omega) (by omega)).mp (Int32.not_le.mp c3)
        show am_C mt_D_isSameLook [.ref 5, .int (nI s), .int (nI m + nI s)] _ _
        rw [nI_add]
        refine c_D_same hz.1 hI1 (by omega) (by omega) (fun hs => ⟨fun c3 => toDist, fun c3 => absurd nI1_ne c3⟩) (fun hs => absurd ((rd_iff hE c (by omega) (by omega)).mpr ⟨Nat.le_refl s, ?_⟩) hs)
        rw [show m + s - s = m by omega]; exact hmod
      | succ k ih =>
        intro s hs0
        refine g_D_findByRunners_53 ⟨fun c2 => absurd c2 (i_nge (show s < m by omega) (by omega)), fun c2 => ?_⟩
        show am_C mt_D_isSameLook [.ref 5, .int (nI s), .int (nI m + nI s)] _ _
        rw [nI_add]
        refine c_D_same hz.1 hI1 (by omega) (by omega) (fun hs => ?_) (fun hs => ⟨fun c3 => absurd rfl c3, fun c3 => am_R_le (by repeat' (first | exact trivial | exact Or.inr rfl | exact Or.inl rfl | exact Or.inr (congrArg Value.int (nI_succ _)) | refine ⟨?_, ?_⟩)) (ih (s + 1) (by omega))⟩)
        have q := ((rd_iff hE c (by omega) (by omega)).mp hs).1
        omega
    exact g_D_findByRunners_51 (am_R_le (by repeat' (first | exact trivial | exact Or.inr rfl | exact Or.inl rfl | exact Or.inr (congrArg Value.int (nI_succ _)) | refine ⟨?_, ?_⟩)) (start a 0 (by omega)))
  have at39 : ∀ m M1 r1, 1 ≤ m → m ≤ 60 → 2 * m ≤ r1 → dI z M1 r1 → M1 5 3 = -nI 1 → M1 5 4 = -nI 1 → dG M M1 → (¬ zE z m (2 * m) → ∀ i, 1 ≤ i → i ≤ 60 → ¬ zE z i (2 * i)) → am_R am_S0 mt_D_findByRunners 1 39 [.ref 5, .int (nI m), .null, .null] [] M1 K := by
    intro m M1 r1 hm1 hm hr hI1 e3 e4 hG hno
    refine g_D_findByRunners_39 ?_
    show am_C mt_D_isSameLook [.ref 5, .int (nI m), .int (nI 2 * nI m)] _ _
    rw [two]
    exact c_D_same hz.1 hI1 (by omega) (by omega) (fun hs => ⟨fun c => met m M1 r1 hm1 hm hr hI1 e3 e4 hG hs, fun c => absurd nI1_ne c⟩) (fun hs => ⟨fun c => absurd rfl c, fun c => h M1 r1 hI1 (by rw [e3, e4]; exact rdR_none (rd_meet hE (hno hs))) hG⟩)
  have run : ∀ k m, m + k = 59 → (∀ i, 1 ≤ i → i ≤ m → ¬ zE z i (2 * i)) → ∀ M1 r1, dI z M1 r1 → M1 5 3 = -nI 1 → M1 5 4 = -nI 1 → dG M M1 → am_R am_S0 mt_D_findByRunners 1 12 [.ref 5, .int (nI m), .null, .null] [] M1 K := by
    intro k
    induction k with
    | zero =>
      intro m hm hno M1 r1 hI1 e3 e4 hG
      have : m = 59 := by omega
      subst this
      refine g_D_findByRunners_12 ?_
      show am_C mt_D_reachDay [.ref 5, .int (nI 2 * (nI 59 + nI 1))] _ _
      rw [nI_add, two]
      refine c_D_reachDay hz.1 hI1 (by decide) (fun M2 r2 hI2 hr2 hF => ⟨fun c => ?_, fun c => absurd (show nI 60 ≤ nI 59 + nI 1 by decide +kernel) c⟩)
      have q := at39 60 M2 r2 (by decide) (by decide) (by omega) hI2 (hF.2.1.trans e3) (hF.2.2.trans e4) (dG_trans hG hF.1) (fun q i h1 h2 => by
        by_cases c3 : i = 60
        · rw [c3]; exact q
        · exact hno i h1 (by omega))
      exact am_R_le (by repeat' (first | exact trivial | exact Or.inr rfl | exact Or.inl rfl | exact Or.inr (congrArg Value.int (nI_succ _)) | refine ⟨?_, ?_⟩)) q
    | succ k ih =>
      intro m hm hno M1 r1 hI1 e3 e4 hG
      refine g_D_findByRunners_12 ?_
      show am_C mt_D_reachDay [.ref 5, .int (nI 2 * (nI m + nI 1))] _ _
      rw [nI_add, two]
      refine c_D_reachDay hz.1 hI1 (by omega) (fun M2 r2 hI2 hr2 hF => ⟨fun c => ?_, fun c => ?_⟩)
      · have c2 : nI 60 ≤ nI m + nI 1 := c
        rw [nI_add] at c2
        exact absurd c2 (i_nge (by omega) (by decide))
      · show am_C mt_D_isSameLook [.ref 5, .int (nI m + nI 1), .int (nI 2 * (nI m + nI 1))] _ _
        rw [nI_add, two]
        refine c_D_same hz.1 hI2 (by omega) (by omega) (fun hs => ⟨fun c3 => absurd c3 nI1_ne, fun c3 => ?_⟩) (fun hs => ⟨fun c3 => ?_, fun c3 => absurd rfl c3⟩)
        · have q := at39 (m + 1) M2 r2 (by omega) (by omega) (by omega) hI2 (hF.2.1.trans e3) (hF.2.2.trans e4) (dG_trans hG hF.1) (fun q => absurd hs q)
          exact am_R_le (by repeat' (first | exact trivial | exact Or.inr rfl | exact Or.inl rfl | exact Or.inr (congrArg Value.int (nI_succ _)) | refine ⟨?_, ?_⟩)) q
        · have q := ih (m + 1) (by omega) (fun i h1 h2 => by
            by_cases c4 : i = m + 1
            · rw [c4]; exact hs
            · exact hno i h1 (by omega)) M2 r2 hI2 (hF.2.1.trans e3) (hF.2.2.trans e4) (dG_trans hG hF.1)
          exact am_R_le (by repeat' (first | exact trivial | exact Or.inr rfl | exact Or.inl rfl | exact Or.inr (congrArg Value.int (nI_succ _)) | refine ⟨?_, ?_⟩)) q
  have k0 := run 59 0 rfl (fun i h1 h2 => by omega) (am_set (am_set M 5 (upd (M 5) 3 (-nI 1))) 5 (upd (am_set M 5 (upd (M 5) 3 (-nI 1)) 5) 4 (-nI 1))) r (dI_5 (dI_5 hI (by decide)) (by decide)) (by
    show upd (upd (M 5) 3 (-nI 1)) 4 (-nI 1) 3 = _
    rw [upd_ne _ _ (by decide), upd_eq]) (upd_eq (upd (M 5) 3 (-nI 1)) 4 (-nI 1)) (dG_trans dG_5 dG_5)
  exact am_C_of_R am_S0 om_D_findByRunners rfl [.ref 5, .null, .null, .null] rfl rfl (g_D_findByRunners_0 (am_R_le (by repeat' (first | exact trivial | exact Or.inr rfl | exact Or.inl rfl | exact Or.inr (congrArg Value.int (nI_succ _)) | refine ⟨?_, ?_⟩)) k0))
end
section
/-! round in the class -/
noncomputable def rdL (E : Nat → Nat → Prop) : Int32 × Int32 := by
  classical exact if h : ∃ q : Nat × Nat, q.2 ≤ 60 ∧ rd1 E q.1 q.2 then (nI (h.choose.2 - h.choose.1), nI h.choose.1) else (-nI 1, -nI 1)
theorem rdL_R {E : Nat → Nat → Prop} (hE : rdE E) : rdR E (rdL E).1 (rdL E).2 := by
  unfold rdL
  split
  · rename_i h
    exact rdR_some hE h.choose_spec.1 h.choose_spec.2
  · rename_i h
    rcases rd_or E 60 with c | ⟨a, d, hd, c⟩
    · exact rdR_none c
    · exact absurd ⟨(a, d), hd, c⟩ h
noncomputable def m_rnd (k : Nat) (z : dz) : Int32 := if k % 2 = 0 then (rdL (zE z)).1 else (rdL (zE z)).2
noncomputable def m_round (p : Int32) (w : wS) : mS := if isr p 0 3 then (0, m_rnd (zn p) (w_z w), w) else (1, nI 0, w)
theorem rem2 : ∀ k, k < 4 → nI k - nI k / nI 2 * nI 2 = nI (k % 2) := by decide +kernel
theorem c_V_round {n : Nat} {p : Int32} {w : wS} {M : am_M} {K : am_Q} (hr : vr M w) (hk : wk n w) (h : ∀ M', vr M' (m_round p w).2.2 → vf M M' → K (oV 1 (m_round p w).1 (m_round p w).2.1) M') : am_C mt_V_round [.ref 0, .int p] M K := by
  unfold m_round at h
  refine am_C_of_R am_S0 om_V_round rfl [.ref 0, .int p] rfl rfl (g_V_round_0 (c_V_requireRange (fun hq => ?_) (fun hq => ?_)))
  · have hq' : isr p 0 3 := hq
    rw [if_pos hq'] at h
    obtain ⟨k, -, hk3, rfl⟩ := isr_nat hq' (by decide) (by decide)
    rw [zn_nI (by omega)] at h
    have tail : ∀ M1, rdR (zE (w_z w)) (M1 5 3) (M1 5 4) → dG M M1 → am_R am_S0 mt_V_round 1 39 [.ref 0, .int (nI k)] [] M1 K := by
      intro M1 hR hG
      obtain ⟨u1, u2⟩ := rdR_uni hR (rdL_R (zE_rd hk.1))
      have hh : K (.inl (some (.int (m_rnd k (w_z w))))) M1 := h M1 (vr_keep hr (fun o ho => hG o (by omega) (by omega) (by omega))) (fun o ho => hG o (by omega) (by omega) (by omega))
      have er := rem2 k (by omega)
      unfold m_rnd at hh
      refine g_V_round_39 ⟨nI2_ne, fun c => g_V_round_55 (g_V_round_62 ?_), fun c => g_V_round_62 ?_⟩
      · have c2 : ¬ (nI k - nI k / nI 2 * nI 2 = 0) := c
        rw [er] at c2
        have : ¬ k % 2 = 0 := fun q => c2 (by rw [q]; rfl)
        rw [if_neg this, ← u2] at hh
        exact hh
      · have c2 : nI k - nI k / nI 2 * nI 2 = 0 := Classical.not_not.mp c
        rw [er] at c2
        have : k % 2 = 0 := (nI_eq (a := k % 2) (b := 0) (by omega) (by decide)).mp c2
        rw [if_pos this, ← u1] at hh
        exact hh
    refine c_D_beginWith (z := w_z w) hr.1 (fun M1 hI hF => ⟨fun c => g_V_round_32 (c_D_findByLookingBack hk.1 hI (fun M2 r2 hI2 hR hG => tail M2 hR (dG_trans hF.1 hG))), fun c => c_D_findByRunners hk.1 hI (fun M2 r2 hI2 hR hG => tail M2 hR (dG_trans hF.1 hG))⟩)
  · have hq' : ¬ isr p 0 3 := hq
    rw [if_neg hq'] at h
    exact h M hr (vf_refl M)
end
section
/-! states without anything behind their 105 numbers: what is restored is what was -/
def tl (z : dz) : Prop := ∀ k, 105 ≤ k → z k = 0
theorem tl_upd {z : dz} {i : Nat} {x : Int32} (h : tl z) (hi : i < 105) : tl (upd z i x) := fun k hk => by rw [upd_ne _ _ (by omega)]; exact h k hk
theorem tl_add {z : dz} {i : Nat} {x : Int32} (h : tl z) (hi : i < 105) : tl (zadd z i x) := tl_upd h hi
theorem tl_hours {z : dz} (hz : zok z) (h : tl z) (k : Nat) : tl (zhours z k) := fun i hi => ((zok_hours hz k).2 i (Or.inr (Or.inr (Or.inr (Or.inr hi))))).trans (h i hi)
theorem zcp_tl {a z : dz} (ha : tl a) (hz : tl z) : zcp a z = a := by
  funext k
  unfold zcp
  by_cases c : k < 105
  · rw [if_pos c]
  · rw [if_neg c, hz k (by omega), ha k (by omega)]
def wt (w : wS) : Prop := tl (w_z w) ∧ (∀ j, j < w_s w → tl (w_sv w j)) ∧ ∀ j, j < 2 → w_kp w j = true → tl (w_sl w j)
def wi (n : Nat) (w : wS) : Prop := wk n w ∧ wt w
theorem wi_le {n m : Nat} {w : wS} (h : wi n w) (hm : n ≤ m) : wi m w := ⟨wk_le h.1 hm, h.2⟩
theorem wt_rec {w : wS} (hs : w_s w ≤ 6) (h : wt w) : wt (w_rec w) := by
  obtain ⟨h1, h2, h3⟩ := h
  refine ⟨h1, fun j hj => ?_, h3⟩
  have hj' : j < w_at w + 1 := hj
  show tl (if j = w_at w then w_z w else if w_s w = 6 then w_sv w (j + 1) else w_sv w j)
  by_cases c : j = w_at w
  · rw [if_pos c]; exact h1
  · rw [if_neg c]
    unfold w_at at hj' c
    by_cases c6 : w_s w = 6
    · rw [if_pos c6] at hj' c ⊢
      exact h2 _ (by omega)
    · rw [if_neg c6] at hj' c ⊢
      exact h2 _ (by omega)
theorem wt_setz {w : wS} {z : dz} (h : wt w) (hz : tl z) : wt (w_setz w z) := ⟨hz, h.2⟩
theorem wi_rec {n : Nat} {w : wS} (h : wi n w) : wi n (w_rec w) := ⟨wk_rec h.1, wt_rec h.1.2.2.2.1 h.2⟩
theorem wi_setz {n : Nat} {w : wS} {z : dz} (h : wi n w) (hz : zko n z) (ht : tl z) : wi n (w_setz w z) := ⟨wk_setz h.1 hz, wt_setz h.2 ht⟩
-- hours, snapshots, what is undone
noncomputable def w_pass (w : wS) (k : Nat) : wS := w_setz (w_rec w) (zhours (w_z w) k)
theorem wi_pass {n k : Nat} {w : wS} (h : wi n w) (hk : k ≤ 240) (h0 : (w_z w 0).toInt + k ≤ 99999) : wi n (w_pass w k) := wi_setz (wi_rec h) (zko_hours h.1.1 hk h0) (tl_hours h.1.1.1 h.2.1 k)
def w_undo (w : wS) : wS := (zcp (w_sv w (w_s w - 1)) (w_z w), w_s w - 1, w.2.2)
theorem wi_undo {n : Nat} {w : wS} (h : wi n w) (hs : 0 < w_s w) : wi n (w_undo w) := by
  obtain ⟨⟨a1, a2, a3, a4, a5⟩, b1, b2, b3⟩ := h
  refine ⟨⟨zko_cp (a2 _ (by omega)), fun j hj => a2 j (by have hj' : j < w_s w - 1 := hj; omega), a3, (by show w_s w - 1 ≤ 6; omega), a5⟩, ?_, fun j hj => b2 j (by have hj' : j < w_s w - 1 := hj; omega), b3⟩
  show tl (zcp (w_sv w (w_s w - 1)) (w_z w))
  rw [zcp_tl (b2 _ (by omega)) b1]
  exact b2 _ (by omega)
def w_keep (w : wS) (i : Nat) : wS := (w_z w, w_s w, w_sv w, (fun j => if j = i then w_z w else w_sl w j), (fun j => if j = i then true else w_kp w j), w_tx w, w_ln w)
theorem wi_keep {n : Nat} {w : wS} (h : wi n w) (i : Nat) : wi n (w_keep w i) := by
  obtain ⟨⟨a1, a2, a3, a4⟩, b1, b2, b3⟩ := h
  refine ⟨⟨a1, a2, fun j hj hkp => ?_, a4⟩, b1, b2, fun j hj hkp => ?_⟩
  · have hkp' : (if j = i then true else w_kp w j) = true := hkp
    show zko n (if j = i then w_z w else w_sl w j)
    by_cases c : j = i
    · rw [if_pos c]; exact a1
    · rw [if_neg c] at hkp' ⊢
      exact a3 j hj hkp'
  · have hkp' : (if j = i then true else w_kp w j) = true := hkp
    show tl (if j = i then w_z w else w_sl w j)
    by_cases c : j = i
    · rw [if_pos c]; exact b1
    · rw [if_neg c] at hkp' ⊢
      exact b3 j hj hkp'
def w_back (w : wS) (i : Nat) : wS := w_setz (w_rec w) (zcp (w_sl w i) (w_z w))
theorem wi_back {n i : Nat} {w : wS} (h : wi n w) (hi : i < 2) (hk : w_kp w i = true) : wi n (w_back w i) := by
  refine wi_setz (wi_rec h) (zko_cp (h.1.2.2.1 i hi hk)) ?_
  rw [zcp_tl (h.2.2.2 i hi hk) h.2.1]
  exact h.2.2.2 i hi hk
theorem w_back_z {n i : Nat} {w : wS} (h : wi n w) (hi : i < 2) (hk : w_kp w i = true) : w_z (w_back w i) = w_sl w i := zcp_tl (h.2.2.2 i hi hk) h.2.1
/-- the slot i holds z -/
def hs (w : wS) (i : Nat) (z : dz) : Prop := w_kp w i = true ∧ w_sl w i = z
theorem hs_keep (w : wS) (i : Nat) : hs (w_keep w i) i (w_z w) := ⟨if_pos rfl, if_pos rfl⟩
theorem hs_pass {w : wS} {i : Nat} {z : dz} (h : hs w i z) (k : Nat) : hs (w_pass w k) i z := h
theorem hs_back {w : wS} {i : Nat} {z : dz} (h : hs w i z) (j : Nat) : hs (w_back w j) i z := h
noncomputable def w_close (w : wS) (k : Nat) : wS := w_setz (w_rec w) (zdrop k (zn (w_z w 5)) (w_z w))
theorem tl_drop {v m : Nat} {z : dz} (h : tl z) (hm : m ≤ 8) (hv : v < m) : tl (zdrop v m z) := fun k hk => by
  unfold zdrop
  rw [cpy_out (by omega), upd_ne _ _ (by omega)]
  exact h k hk
theorem wi_close {n k m : Nat} {w : wS} (h : wi n w) (hm : w_z w 5 = nI m) (hm8 : m ≤ 8) (hk : k < m) : wi n (w_close w k) := by
  have e : zn (w_z w 5) = m := by rw [hm]; exact zn_nI (by omega)
  unfold w_close
  rw [e]
  exact wi_setz (wi_rec h) (zko_upd h.1.1 (zok_drop h.1.1.1 hm hm8 hk) (zdrop_lo (by omega) (by omega)) (zdrop_lo (by omega) (by omega)) (fun u hu => zdrop_lo (by omega) (by omega))) (tl_drop h.2.1 hm8 hk)
/-- the last saved states -/
def t1 (w : wS) (z : dz) : Prop := 0 < w_s w ∧ w_sv w (w_s w - 1) = z
def t2 (w : wS) (z : dz) : Prop := 1 < w_s w ∧ w_sv w (w_s w - 2) = z
theorem t1_rec {w : wS} {z : dz} : t1 (w_setz (w_rec w) z) (w_z w) := by
  refine ⟨Nat.succ_pos _, ?_⟩
  show (if w_at w + 1 - 1 = w_at w then w_z w else if w_s w = 6 then w_sv w (w_at w + 1 - 1 + 1) else w_sv w (w_at w + 1 - 1)) = w_z w
  rw [if_pos (by omega)]
theorem t2_rec {w : wS} {z z1 : dz} (h6 : w_s w ≤ 6) (h : t1 w z1) : t2 (w_setz (w_rec w) z) z1 := by
  obtain ⟨h1, h2⟩ := h
  unfold t2
  show 1 < w_at w + 1 ∧ (if w_at w + 1 - 2 = w_at w then w_z w else if w_s w = 6 then w_sv w (w_at w + 1 - 2 + 1) else w_sv w (w_at w + 1 - 2)) = z1
  unfold w_at
  by_cases c : w_s w = 6
  · rw [if_pos c, if_neg (by omega), if_pos c]
    rw [c] at h2
    exact ⟨by omega, h2⟩
  · rw [if_neg c, if_neg (by omega), if_neg c]
    refine ⟨by omega, ?_⟩
    rw [show w_s w + 1 - 2 = w_s w - 1 by omega]
    exact h2
theorem t1_undo {w : wS} {z : dz} (h : t2 w z) : t1 (w_undo w) z := by
  obtain ⟨h1, h2⟩ := h
  refine ⟨by show 0 < w_s w - 1; omega, ?_⟩
  show w_sv w (w_s w - 1 - 1) = z
  rw [show w_s w - 1 - 1 = w_s w - 2 by omega]
  exact h2
theorem w_undo_z {n : Nat} {w : wS} {z : dz} (h : wi n w) (ht : t1 w z) : w_z (w_undo w) = z := by
  show zcp (w_sv w (w_s w - 1)) (w_z w) = z
  rw [zcp_tl (h.2.2.1 _ (by have := ht.1; omega)) h.2.1]
  exact ht.2
end
section
/-! the law's wrappers, written by wip/p29/mkL.py -/
/-- what a wrapper tells -/
def lt (b th : Nat) (r : Int32) : Int32 := if th = 0 then r else -nI (30 + th + b)
theorem b_L_fill {p q : Int32} {w : wS} : (m_fill p q w).1 ≤ 2 := by unfold m_fill; (repeat' split) <;> first | exact Nat.zero_le _ | exact Nat.le_refl _ | exact Nat.le_succ _ | exact (by decide : 1 ≤ 3)
theorem c_L_fill {n : Nat} {p q : Int32} {w : wS} {M : am_M} {K : am_Q} (hr : vr M w) (hk : wk n w) (h : ∀ M', vr M' (m_fill p q w).2.2 → vf M M' → K (.inl (some (.int (lt 0 (m_fill p q w).1 (m_fill p q w).2.1)))) M') : am_C mt_L_fill [.ref 0, .int p, .int q] M K := by
  have hB := b_L_fill (p := p) (q := q) (w := w)
  refine am_C_of_R am_S0 om_L_fill rfl [.ref 0, .int p, .int q, .null, .null] rfl rfl (g_L_fill_0 (c_V_fill hr hk (fun M' rr f => ?_)))
  generalize m_fill p q w = mm at hB h rr ⊢
  obtain ⟨c, a, w'⟩ := mm
  rcases c with _ | _ | _ | c
  · exact g_L_fill_20 (h M' rr f)
  · exact ⟨10, (show am_hd (am_ex 0) (mt_h mt_L_fill) = some 10 by decide +kernel), fun q => g_L_fill_10 (h M' rr f)⟩
  · exact ⟨15, (show am_hd (am_ex 1) (mt_h mt_L_fill) = some 15 by decide +kernel), fun q => g_L_fill_15 (h M' rr f)⟩
  · exact absurd hB (by show ¬ c + 3 ≤ 2; omega)
theorem b_L_dye {p q s : Int32} {w : wS} : (m_dye p q s w).1 ≤ 3 := by unfold m_dye; (repeat' split) <;> first | exact Nat.zero_le _ | exact Nat.le_refl _ | exact Nat.le_succ _ | exact (by decide : 1 ≤ 3)
theorem c_L_dye {n : Nat} {p q s : Int32} {w : wS} {M : am_M} {K : am_Q} (hr : vr M w) (hk : wk n w) (h : ∀ M', vr M' (m_dye p q s w).2.2 → vf M M' → K (.inl (some (.int (lt 0 (m_dye p q s w).1 (m_dye p q s w).2.1)))) M') : am_C mt_L_dye [.ref 0, .int p, .int q, .int s] M K := by
  have hB := b_L_dye (p := p) (q := q) (s := s) (w := w)
  refine am_C_of_R am_S0 om_L_dye rfl [.ref 0, .int p, .int q, .int s, .null, .null] rfl rfl (g_L_dye_0 (c_V_dye hr (fun M' rr f => ?_)))
  generalize m_dye p q s w = mm at hB h rr ⊢
  obtain ⟨c, a, w'⟩ := mm
  rcases c with _ | _ | _ | _ | c
  · exact g_L_dye_27 (h M' rr f)
  · exact ⟨12, (show am_hd (am_ex 0) (mt_h mt_L_dye) = some 12 by decide +kernel), fun q => g_L_dye_12 (h M' rr f)⟩
  · exact ⟨17, (show am_hd (am_ex 1) (mt_h mt_L_dye) = some 17 by decide +kernel), fun q => g_L_dye_17 (h M' rr f)⟩
  · exact ⟨22, (show am_hd (am_ex 2) (mt_h mt_L_dye) = some 22 by decide +kernel), fun q => g_L_dye_22 (h M' rr f)⟩
  · exact absurd hB (by show ¬ c + 4 ≤ 3; omega)
theorem b_L_stir {p : Int32} {w : wS} : (m_stir p w).1 ≤ 1 := by unfold m_stir; (repeat' split) <;> first | exact Nat.zero_le _ | exact Nat.le_refl _ | exact Nat.le_succ _ | exact (by decide : 1 ≤ 3)
theorem c_L_stir {n : Nat} {p : Int32} {w : wS} {M : am_M} {K : am_Q} (hr : vr M w) (hk : wk n w) (h : ∀ M', vr M' (m_stir p w).2.2 → vf M M' → K (.inl (some (.int (lt 0 (m_stir p w).1 (m_stir p w).2.1)))) M') : am_C mt_L_stir [.ref 0, .int p] M K := by
  have hB := b_L_stir (p := p) (w := w)
  refine am_C_of_R am_S0 om_L_stir rfl [.ref 0, .int p, .null, .null] rfl rfl (g_L_stir_0 (c_V_stir hr hk (fun M' rr f => ?_)))
  generalize m_stir p w = mm at hB h rr ⊢
  obtain ⟨c, a, w'⟩ := mm
  rcases c with _ | _ | c
  · exact g_L_stir_13 (h M' rr f)
  · exact ⟨9, (show am_hd (am_ex 0) (mt_h mt_L_stir) = some 9 by decide +kernel), fun q => g_L_stir_9 (h M' rr f)⟩
  · exact absurd hB (by show ¬ c + 2 ≤ 1; omega)
theorem b_L_capacity {p q : Int32} {w : wS} : (m_cap p q w).1 ≤ 2 := by unfold m_cap; (repeat' split) <;> first | exact Nat.zero_le _ | exact Nat.le_refl _ | exact Nat.le_succ _ | exact (by decide : 1 ≤ 3)
theorem c_L_capacity {n : Nat} {p q : Int32} {w : wS} {M : am_M} {K : am_Q} (hr : vr M w) (hk : wk n w) (h : ∀ M', vr M' (m_cap p q w).2.2 → vf M M' → K (.inl (some (.int (lt 0 (m_cap p q w).1 (m_cap p q w).2.1)))) M') : am_C mt_L_capacity [.ref 0, .int p, .int q] M K := by
  have hB := b_L_capacity (p := p) (q := q) (w := w)
  refine am_C_of_R am_S0 om_L_capacity rfl [.ref 0, .int p, .int q, .null, .null] rfl rfl (g_L_capacity_0 (c_V_capacity hr (fun M' rr f => ?_)))
  generalize m_cap p q w = mm at hB h rr ⊢
  obtain ⟨c, a, w'⟩ := mm
  rcases c with _ | _ | _ | c
  · exact g_L_capacity_20 (h M' rr f)
  · exact ⟨10, (show am_hd (am_ex 0) (mt_h mt_L_capacity) = some 10 by decide +kernel), fun q => g_L_capacity_10 (h M' rr f)⟩
  · exact ⟨15, (show am_hd (am_ex 1) (mt_h mt_L_capacity) = some 15 by decide +kernel), fun q => g_L_capacity_15 (h M' rr f)⟩
  · exact absurd hB (by show ¬ c + 3 ≤ 2; omega)
theorem b_L_valve {p q s t u : Int32} {w : wS} : (m_valve p q s t u w).1 ≤ 3 := by unfold m_valve; (repeat' split) <;> first | exact Nat.zero_le _ | exact Nat.le_refl _ | exact Nat.le_succ _ | exact (by decide : 1 ≤ 3)
theorem c_L_valve {n : Nat} {p q s t u : Int32} {w : wS} {M : am_M} {K : am_Q} (hr : vr M w) (hk : wk n w) (h : ∀ M', vr M' (m_valve p q s t u w).2.2 → vf M M' → K (.inl (some (.int (lt 0 (m_valve p q s t u w).1 (m_valve p q s t u w).2.1)))) M') : am_C mt_L_valve [.ref 0, .int p, .int q, .int s, .int t, .int u] M K := by
  have hB := b_L_valve (p := p) (q := q) (s := s) (t := t) (u := u) (w := w)
  refine am_C_of_R am_S0 om_L_valve rfl [.ref 0, .int p, .int q, .int s, .int t, .int u, .null, .null] rfl rfl (g_L_valve_0 (c_V_valve hr hk (fun M' rr f => ?_)))
  generalize m_valve p q s t u w = mm at hB h rr ⊢
  obtain ⟨c, a, w'⟩ := mm
  rcases c with _ | _ | _ | _ | c
  · exact g_L_valve_31 (h M' rr f)
  · exact ⟨16, (show am_hd (am_ex 0) (mt_h mt_L_valve) = some 16 by decide +kernel), fun q => g_L_valve_16 (h M' rr f)⟩
  · exact ⟨21, (show am_hd (am_ex 1) (mt_h mt_L_valve) = some 21 by decide +kernel), fun q => g_L_valve_21 (h M' rr f)⟩
  · exact ⟨26, (show am_hd (am_ex 2) (mt_h mt_L_valve) = some 26 by decide +kernel), fun q => g_L_valve_26 (h M' rr f)⟩
  · exact absurd hB (by show ¬ c + 4 ≤ 3; omega)
theorem b_L_close {p : Int32} {w : wS} : (m_close p w).1 ≤ 1 := by unfold m_close; (repeat' split) <;> first | exact Nat.zero_le _ | exact Nat.le_refl _ | exact Nat.le_succ _ | exact (by decide : 1 ≤ 3)
theorem c_L_close {n : Nat} {p : Int32} {w : wS} {M : am_M} {K : am_Q} (hr : vr M w) (hk : wk n w) (h : ∀ M', vr M' (m_close p w).2.2 → vf M M' → K (.inl (some (.int (lt 0 (m_close p w).1 (m_close p w).2.1)))) M') : am_C mt_L_close [.ref 0, .int p] M K := by
  have hB := b_L_close (p := p) (w := w)
  refine am_C_of_R am_S0 om_L_close rfl [.ref 0, .int p, .null, .null] rfl rfl (g_L_close_0 (c_V_close hr hk (fun M' rr f => ?_)))
  generalize m_close p w = mm at hB h rr ⊢
  obtain ⟨c, a, w'⟩ := mm
  rcases c with _ | _ | c
  · exact g_L_close_13 (h M' rr f)
  · exact ⟨9, (show am_hd (am_ex 0) (mt_h mt_L_close) = some 9 by decide +kernel), fun q => g_L_close_9 (h M' rr f)⟩
  · exact absurd hB (by show ¬ c + 2 ≤ 1; omega)
theorem b_L_pipe {p q : Int32} {w : wS} : (m_pipe p q w).1 ≤ 2 := by unfold m_pipe; (repeat' split) <;> first | exact Nat.zero_le _ | exact Nat.le_refl _ | exact Nat.le_succ _ | exact (by decide : 1 ≤ 3)
theorem c_L_pipe {n : Nat} {p q : Int32} {w : wS} {M : am_M} {K : am_Q} (hr : vr M w) (hk : wk n w) (h : ∀ M', vr M' (m_pipe p q w).2.2 → vf M M' → K (.inl (some (.int (lt 0 (m_pipe p q w).1 (m_pipe p q w).2.1)))) M') : am_C mt_L_pipe [.ref 0, .int p, .int q] M K := by
  have hB := b_L_pipe (p := p) (q := q) (w := w)
  refine am_C_of_R am_S0 om_L_pipe rfl [.ref 0, .int p, .int q, .null, .null] rfl rfl (g_L_pipe_0 (c_V_pipe hr (fun M' rr f => ?_)))
  generalize m_pipe p q w = mm at hB h rr ⊢
  obtain ⟨c, a, w'⟩ := mm
  rcases c with _ | _ | _ | c
  · exact g_L_pipe_20 (h M' rr f)
  · exact ⟨10, (show am_hd (am_ex 0) (mt_h mt_L_pipe) = some 10 by decide +kernel), fun q => g_L_pipe_10 (h M' rr f)⟩
  · exact ⟨15, (show am_hd (am_ex 1) (mt_h mt_L_pipe) = some 15 by decide +kernel), fun q => g_L_pipe_15 (h M' rr f)⟩
  · exact absurd hB (by show ¬ c + 3 ≤ 2; omega)
theorem b_L_set {p : Int32} {w : wS} : (m_set p w).1 ≤ 1 := by unfold m_set; (repeat' split) <;> first | exact Nat.zero_le _ | exact Nat.le_refl _ | exact Nat.le_succ _ | exact (by decide : 1 ≤ 3)
theorem c_L_set {n : Nat} {p : Int32} {w : wS} {M : am_M} {K : am_Q} (hr : vr M w) (hk : wk n w) (h : ∀ M', vr M' (m_set p w).2.2 → vf M M' → K (.inl (some (.int (lt 1 (m_set p w).1 (m_set p w).2.1)))) M') : am_C mt_L_set [.ref 0, .int p] M K := by
  have hB := b_L_set (p := p) (w := w)
  refine am_C_of_R am_S0 om_L_set rfl [.ref 0, .int p, .null, .null] rfl rfl (g_L_set_0 (c_V_set hr (fun M' rr f => ?_)))
  generalize m_set p w = mm at hB h rr ⊢
  obtain ⟨c, a, w'⟩ := mm
  rcases c with _ | _ | c
  · exact g_L_set_13 (h M' rr f)
  · exact ⟨9, (show am_hd (am_ex 1) (mt_h mt_L_set) = some 9 by decide +kernel), fun q => g_L_set_9 (h M' rr f)⟩
  · exact absurd hB (by show ¬ c + 2 ≤ 1; omega)
theorem b_L_pass {p : Int32} {w : wS} : (m_pass p w).1 ≤ 2 := by unfold m_pass; (repeat' split) <;> first | exact Nat.zero_le _ | exact Nat.le_refl _ | exact Nat.le_succ _ | exact (by decide : 1 ≤ 3)
theorem c_L_pass {n : Nat} {p : Int32} {w : wS} {M : am_M} {K : am_Q} (hr : vr M w) (hk : wk n w) (h : ∀ M', vr M' (m_pass p w).2.2 → vf M M' → K (.inl (some (.int (lt 1 (m_pass p w).1 (m_pass p w).2.1)))) M') : am_C mt_L_pass [.ref 0, .int p] M K := by
  have hB := b_L_pass (p := p) (w := w)
  refine am_C_of_R am_S0 om_L_pass rfl [.ref 0, .int p, .null, .null] rfl rfl (g_L_pass_0 (c_V_pass hr hk (fun M' rr f => ?_)))
  generalize m_pass p w = mm at hB h rr ⊢
  obtain ⟨c, a, w'⟩ := mm
  rcases c with _ | _ | _ | c
  · exact g_L_pass_17 (h M' rr f)
  · exact ⟨9, (show am_hd (am_ex 1) (mt_h mt_L_pass) = some 9 by decide +kernel), fun q => g_L_pass_9 (h M' rr f)⟩
  · exact ⟨13, (show am_hd (am_ex 2) (mt_h mt_L_pass) = some 13 by decide +kernel), fun q => g_L_pass_13 (h M' rr f)⟩
  · exact absurd hB (by show ¬ c + 3 ≤ 2; omega)
theorem b_L_goBack {p : Int32} {w : wS} : (m_back p w).1 ≤ 2 := by unfold m_back; (repeat' split) <;> first | exact Nat.zero_le _ | exact Nat.le_refl _ | exact Nat.le_succ _ | exact (by decide : 1 ≤ 3)
theorem c_L_goBack {n : Nat} {p : Int32} {w : wS} {M : am_M} {K : am_Q} (hr : vr M w) (hk : wk n w) (h : ∀ M', vr M' (m_back p w).2.2 → vf M M' → K (.inl (some (.int (lt 1 (m_back p w).1 (m_back p w).2.1)))) M') : am_C mt_L_goBack [.ref 0, .int p] M K := by
  have hB := b_L_goBack (p := p) (w := w)
  refine am_C_of_R am_S0 om_L_goBack rfl [.ref 0, .int p, .null, .null] rfl rfl (g_L_goBack_0 (c_V_goBack hr (fun M' rr f => ?_)))
  generalize m_back p w = mm at hB h rr ⊢
  obtain ⟨c, a, w'⟩ := mm
  rcases c with _ | _ | _ | c
  · exact g_L_goBack_17 (h M' rr f)
  · exact ⟨9, (show am_hd (am_ex 1) (mt_h mt_L_goBack) = some 9 by decide +kernel), fun q => g_L_goBack_9 (h M' rr f)⟩
  · exact ⟨13, (show am_hd (am_ex 2) (mt_h mt_L_goBack) = some 13 by decide +kernel), fun q => g_L_goBack_13 (h M' rr f)⟩
  · exact absurd hB (by show ¬ c + 3 ≤ 2; omega)
theorem b_L_undo {w : wS} : (m_undo w).1 ≤ 1 := by unfold m_undo; (repeat' split) <;> first | exact Nat.zero_le _ | exact Nat.le_refl _ | exact Nat.le_succ _ | exact (by decide : 1 ≤ 3)
theorem c_L_undo {n : Nat} {w : wS} {M : am_M} {K : am_Q} (hr : vr M w) (hk : wk n w) (h : ∀ M', vr M' (m_undo w).2.2 → vf M M' → K (.inl (some (.int (lt 2 (m_undo w).1 (m_undo w).2.1)))) M') : am_C mt_L_undo [.ref 0] M K := by
  have hB := b_L_undo (w := w)
  refine am_C_of_R am_S0 om_L_undo rfl [.ref 0, .null, .null] rfl rfl (g_L_undo_0 (c_V_undo hr (fun M' rr f => ?_)))
  generalize m_undo w = mm at hB h rr ⊢
  obtain ⟨c, a, w'⟩ := mm
  rcases c with _ | _ | c
  · exact g_L_undo_12 (h M' rr f)
  · exact ⟨8, (show am_hd (am_ex 2) (mt_h mt_L_undo) = some 8 by decide +kernel), fun q => g_L_undo_8 (h M' rr f)⟩
  · exact absurd hB (by show ¬ c + 2 ≤ 1; omega)
theorem b_L_keep {p : Int32} {w : wS} : (m_keep p w).1 ≤ 1 := by unfold m_keep; (repeat' split) <;> first | exact Nat.zero_le _ | exact Nat.le_refl _ | exact Nat.le_succ _ | exact (by decide : 1 ≤ 3)
theorem c_L_keep {n : Nat} {p : Int32} {w : wS} {M : am_M} {K : am_Q} (hr : vr M w) (hk : wk n w) (h : ∀ M', vr M' (m_keep p w).2.2 → vf M M' → K (.inl (some (.int (lt 1 (m_keep p w).1 (m_keep p w).2.1)))) M') : am_C mt_L_keep [.ref 0, .int p] M K := by
  have hB := b_L_keep (p := p) (w := w)
  refine am_C_of_R am_S0 om_L_keep rfl [.ref 0, .int p, .null, .null] rfl rfl (g_L_keep_0 (c_V_keep hr (fun M' rr f => ?_)))
  generalize m_keep p w = mm at hB h rr ⊢
  obtain ⟨c, a, w'⟩ := mm
  rcases c with _ | _ | c
  · exact g_L_keep_13 (h M' rr f)
  · exact ⟨9, (show am_hd (am_ex 1) (mt_h mt_L_keep) = some 9 by decide +kernel), fun q => g_L_keep_9 (h M' rr f)⟩
  · exact absurd hB (by show ¬ c + 2 ≤ 1; omega)
end
