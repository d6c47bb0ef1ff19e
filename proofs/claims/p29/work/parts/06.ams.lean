/-! the abstract machine's steps are the machine's: stack, locals, branches -/
theorem am_li_spec {ls st st' : List Value} {k : Nat} (h : am_li ls st k = some st') : ∃ x, ls[k]? = some (.int x) ∧ st' = .int x :: st := by
  unfold am_li at h
  split at h
  · cases h; exact ⟨_, by assumption, rfl⟩
  · cases h
theorem am_la_spec {ls st st' : List Value} {k : Nat} (h : am_la ls st k = some st') : ∃ x, ls[k]? = some (.ref x) ∧ st' = .ref x :: st := by
  unfold am_la at h
  split at h
  · cases h; exact ⟨_, by assumption, rfl⟩
  · cases h
theorem am_ll_spec {ls st st' : List Value} {k : Nat} (h : am_ll ls st k = some st') : ∃ x, ls[k]? = some (.long x) ∧ st' = .long x :: st := by
  unfold am_ll at h
  split at h
  · cases h; exact ⟨_, by assumption, rfl⟩
  · cases h
theorem am_ld_spec {ls st st' : List Value} {k : Nat} (h : am_ld ls st k = some st') : ∃ x, ls[k]? = some (.double x) ∧ st' = .double x :: st := by
  unfold am_ld at h
  split at h
  · cases h; exact ⟨_, by assumption, rfl⟩
  · cases h
theorem am_i2_spec {f : Int32 → Int32 → Int32} {st st' : List Value} (h : am_i2 f st = some st') : ∃ x y r, st = .int y :: .int x :: r ∧ st' = .int (f x y) :: r := by
  unfold am_i2 at h
  split at h
  · cases h; exact ⟨_, _, _, rfl, rfl⟩
  · cases h
theorem am_l2_spec {f : Int64 → Int64 → Int64} {st st' : List Value} (h : am_l2 f st = some st') : ∃ x y r, st = .long y :: .long x :: r ∧ st' = .long (f x y) :: r := by
  unfold am_l2 at h
  split at h
  · cases h; exact ⟨_, _, _, rfl, rfl⟩
  · cases h
/-- what a program checks of an instruction that moves the stack alone -/
def am_ckp (i : Instr) (w : Nat) : Bool := match i with
  | .iconst k => decide (Int32.ofInt k = am_k k) && decide (w = 1)
  | .bipush k => decide ((Int8.ofInt k).toInt32 = am_k k) && decide (w = 2)
  | .sipush k => decide ((Int16.ofInt k).toInt32 = am_k k) && decide (w = 3)
  | .iload _ => decide (w = 2)
  | .aload _ => decide (w = 2)
  | .lload _ => decide (w = 2)
  | .dload _ => decide (w = 2)
  | _ => decide (w = 1)
def am_cks (nL : Nat) (i : Instr) (w : Nat) : Bool := match i with
  | .istore_n k => decide ((k : Nat) < nL) && decide (w = 1)
  | .astore_n k => decide ((k : Nat) < nL) && decide (w = 1)
  | .lstore_n k => decide ((k : Nat) + 1 < nL) && decide (w = 1)
  | .dstore_n k => decide ((k : Nat) + 1 < nL) && decide (w = 1)
  | .istore k => decide (k < nL) && decide (w = 2)
  | .astore k => decide (k < nL) && decide (w = 2)
  | .lstore k => decide (k + 1 < nL) && decide (w = 2)
  | .dstore k => decide (k + 1 < nL) && decide (w = 2)
  | .iinc k d => decide (Int32.ofInt d = am_k d) && (decide (k < nL) && decide (w = 3))
  | _ => false
section AMS
variable {p : Program} {l : Launch} {e : Env} {R : Room} {s : State} {m : MethodId} {args : Array Value} {below : List Frame} {meth : Method} {c : Code} {H : Heap} {locs : List Loc} {cells slots : Nat} {QQ : State → Prop} {cc : ByteArray} {pc : Nat} {la : Array Slot} {a : Nat → Nat} {nL : Nat} {ls : List Value}
set_option maxHeartbeats 2000000 in
theorem am_pu_W (hx : p.tables.exec = Jvm.exec) (hb : c.code = cc) (hl : am_lv a nL ls la) {i : Instr} {w : Nat} {st st' : List Value} (h : am_pu i ls st = some st') (hd : decode cc pc = .ok (i, w)) (hck : am_ckp i w = true)
    (k : W p l e R s m args below meth c H locs cells slots QQ (F0 m (pc + w) la (st'.map (am_tv a)))) : W p l e R s m args below meth c H locs cells slots QQ (F0 m pc la (st.map (am_tv a))) := by
  cases i
  case iconst z =>
    obtain ⟨h1, rfl⟩ : Int32.ofInt z = am_k z ∧ w = 1 := by simpa [am_ckp] using hck
    cases h
    exact lv_iconst hx hb hd h1 k
  case bipush z =>
    obtain ⟨h1, rfl⟩ : (Int8.ofInt z).toInt32 = am_k z ∧ w = 2 := by simpa [am_ckp] using hck
    cases h
    exact lv_bipush hx hb hd h1 k
  case sipush z =>
    obtain ⟨h1, rfl⟩ : (Int16.ofInt z).toInt32 = am_k z ∧ w = 3 := by simpa [am_ckp] using hck
    cases h
    exact lv_sipush hx hb hd h1 k
  case lconst z =>
    obtain rfl : w = 1 := by simpa [am_ckp] using hck
    cases h
    exact lv_lconst hx hb hd rfl k
  case dconst z =>
    obtain rfl : w = 1 := by simpa [am_ckp] using hck
    cases h
    match z, hd, k with
    | 0, hd, k => exact lv_dconst0 hx hb hd k
    | 1, hd, k => exact lv_dconst1 hx hb hd k
  case iload_n z =>
    obtain rfl : w = 1 := by simpa [am_ckp] using hck
    obtain ⟨x, h1, rfl⟩ := am_li_spec h
    exact lv_iload_n hx hb hd rfl (am_lv_ld hl h1 (fun q => by cases q)) k
  case iload z =>
    obtain rfl : w = 2 := by simpa [am_ckp] using hck
    obtain ⟨x, h1, rfl⟩ := am_li_spec h
    exact lv_iload hx hb hd (am_lv_ld hl h1 (fun q => by cases q)) k
  case aload_n z =>
    obtain rfl : w = 1 := by simpa [am_ckp] using hck
    obtain ⟨x, h1, rfl⟩ := am_la_spec h
    exact lv_aload_n hx hb hd rfl (am_lv_ld hl h1 (fun q => by cases q)) k
  case aload z =>
    obtain rfl : w = 2 := by simpa [am_ckp] using hck
    obtain ⟨x, h1, rfl⟩ := am_la_spec h
    exact lv_aload hx hb hd (am_lv_ld hl h1 (fun q => by cases q)) k
  case lload_n z =>
    obtain rfl : w = 1 := by simpa [am_ckp] using hck
    obtain ⟨x, h1, rfl⟩ := am_ll_spec h
    exact lv_lload_n hx hb hd rfl (am_lv_ld hl h1 (fun q => by cases q)) k
  case lload z =>
    obtain rfl : w = 2 := by simpa [am_ckp] using hck
    obtain ⟨x, h1, rfl⟩ := am_ll_spec h
    exact lv_lload hx hb hd (am_lv_ld hl h1 (fun q => by cases q)) k
  case dload_n z =>
    obtain rfl : w = 1 := by simpa [am_ckp] using hck
    obtain ⟨x, h1, rfl⟩ := am_ld_spec h
    exact lv_dload_n hx hb hd rfl (am_lv_ld hl h1 (fun q => by cases q)) k
  case dload z =>
    obtain rfl : w = 2 := by simpa [am_ckp] using hck
    obtain ⟨x, h1, rfl⟩ := am_ld_spec h
    exact lv_dload hx hb hd (am_lv_ld hl h1 (fun q => by cases q)) k
  case iadd =>
    obtain rfl : w = 1 := by simpa [am_ckp] using hck
    obtain ⟨x, y, r, rfl, rfl⟩ := am_i2_spec h
    exact lv_iadd hx hb hd k
  case isub =>
    obtain rfl : w = 1 := by simpa [am_ckp] using hck
    obtain ⟨x, y, r, rfl, rfl⟩ := am_i2_spec h
    exact lv_isub hx hb hd k
  case imul =>
    obtain rfl : w = 1 := by simpa [am_ckp] using hck
    obtain ⟨x, y, r, rfl, rfl⟩ := am_i2_spec h
    exact lv_imul hx hb hd k
  case iand =>
    obtain rfl : w = 1 := by simpa [am_ckp] using hck
    obtain ⟨x, y, r, rfl, rfl⟩ := am_i2_spec h
    exact lv_iand hx hb hd k
  case ixor =>
    obtain rfl : w = 1 := by simpa [am_ckp] using hck
    obtain ⟨x, y, r, rfl, rfl⟩ := am_i2_spec h
    exact lv_ixor hx hb hd k
  case ishl =>
    obtain rfl : w = 1 := by simpa [am_ckp] using hck
    obtain ⟨x, y, r, rfl, rfl⟩ := am_i2_spec h
    exact lv_ishl hx hb hd k
  case ishr =>
    obtain rfl : w = 1 := by simpa [am_ckp] using hck
    obtain ⟨x, y, r, rfl, rfl⟩ := am_i2_spec h
    exact lv_ishr hx hb hd k
  case iushr =>
    obtain rfl : w = 1 := by simpa [am_ckp] using hck
    obtain ⟨x, y, r, rfl, rfl⟩ := am_i2_spec h
    exact lv_iushr hx hb hd rfl k
  case ladd =>
    obtain rfl : w = 1 := by simpa [am_ckp] using hck
    obtain ⟨x, y, r, rfl, rfl⟩ := am_l2_spec h
    exact lv_ladd hx hb hd k
  case lsub =>
    obtain rfl : w = 1 := by simpa [am_ckp] using hck
    obtain ⟨x, y, r, rfl, rfl⟩ := am_l2_spec h
    exact lv_lsub hx hb hd k
  case lmul =>
    obtain rfl : w = 1 := by simpa [am_ckp] using hck
    obtain ⟨x, y, r, rfl, rfl⟩ := am_l2_spec h
    exact lv_lmul hx hb hd k
  case ineg =>
    obtain rfl : w = 1 := by simpa [am_ckp] using hck
    simp only [am_pu] at h
    split at h
    · cases h
      exact lv_ineg hx hb hd k
    · cases h
  case lshl =>
    obtain rfl : w = 1 := by simpa [am_ckp] using hck
    simp only [am_pu] at h
    split at h
    · cases h
      exact lv_lshl hx hb hd rfl k
    · cases h
  case lcmp =>
    obtain rfl : w = 1 := by simpa [am_ckp] using hck
    simp only [am_pu] at h
    split at h
    · cases h
      exact W.lcmp hx hb hd k
    · cases h
  case dcmp op =>
    obtain rfl : w = 1 := by simpa [am_ckp] using hck
    simp only [am_pu] at h
    split at h
    · cases h
      exact lv_dcmp hx hb hd k
    · cases h
  case i2l =>
    obtain rfl : w = 1 := by simpa [am_ckp] using hck
    simp only [am_pu] at h
    split at h
    · cases h
      exact lv_i2l hx hb hd rfl k
    · cases h
  case i2d =>
    obtain rfl : w = 1 := by simpa [am_ckp] using hck
    simp only [am_pu] at h
    split at h
    · cases h
      exact lv_i2d hx hb hd k
    · cases h
  case d2l =>
    obtain rfl : w = 1 := by simpa [am_ckp] using hck
    simp only [am_pu] at h
    split at h
    · cases h
      exact lv_d2l hx hb hd k
    · cases h
  case dup =>
    obtain rfl : w = 1 := by simpa [am_ckp] using hck
    simp only [am_pu] at h
    split at h
    · cases h
      exact lv_dup hx hb hd rfl k
    · cases h
      exact lv_dup hx hb hd rfl k
    · cases h
  case dup2 =>
    obtain rfl : w = 1 := by simpa [am_ckp] using hck
    simp only [am_pu] at h
    split at h
    · cases h
      exact lv_dup2_11 hx hb hd rfl rfl k
    · cases h
  case pop =>
    obtain rfl : w = 1 := by simpa [am_ckp] using hck
    simp only [am_pu] at h
    split at h
    · cases h
      exact lv_pop hx hb hd rfl k
    · cases h
  all_goals exact absurd h (by simp [am_pu])
set_option maxHeartbeats 2000000 in
theorem am_sto_W (hx : p.tables.exec = Jvm.exec) (hb : c.code = cc) (hl : am_lv a nL ls la) {i : Instr} {w : Nat} {st : List Value} {q : List Value × List Value} (h : am_sto i ls st = some q) (hd : decode cc pc = .ok (i, w)) (hck : am_cks nL i w = true)
    (k : ∀ la' : Array Slot, am_lv a nL q.1 la' → W p l e R s m args below meth c H locs cells slots QQ (F0 m (pc + w) la' (q.2.map (am_tv a)))) : W p l e R s m args below meth c H locs cells slots QQ (F0 m pc la (st.map (am_tv a))) := by
  cases i
  case istore_n z =>
    obtain ⟨hn, rfl⟩ : (z : Nat) < nL ∧ w = 1 := by simpa [am_cks] using hck
    simp only [am_sto] at h
    split at h
    · cases h
      exact lv_istore_n hx hb hd rfl (am_lv_has hl) hn rfl (fun la' h' => k la' (am_lv_s1 hl hn h'))
    · cases h
  case astore_n z =>
    obtain ⟨hn, rfl⟩ : (z : Nat) < nL ∧ w = 1 := by simpa [am_cks] using hck
    simp only [am_sto] at h
    split at h
    · cases h
      exact lv_astore_n hx hb hd rfl (am_lv_has hl) hn rfl (fun la' h' => k la' (am_lv_s1 hl hn h'))
    · cases h
  case lstore_n z =>
    obtain ⟨hn, rfl⟩ : (z : Nat) + 1 < nL ∧ w = 1 := by simpa [am_cks] using hck
    simp only [am_sto] at h
    split at h
    · cases h
      exact lv_lstore_n hx hb hd rfl (am_lv_has hl) hn rfl (fun la' h' => k la' (am_lv_s2 hl hn h'))
    · cases h
  case dstore_n z =>
    obtain ⟨hn, rfl⟩ : (z : Nat) + 1 < nL ∧ w = 1 := by simpa [am_cks] using hck
    simp only [am_sto] at h
    split at h
    · cases h
      exact lv_dstore_n hx hb hd rfl (am_lv_has hl) hn rfl (fun la' h' => k la' (am_lv_s2 hl hn h'))
    · cases h
  case istore z =>
    obtain ⟨hn, rfl⟩ : z < nL ∧ w = 2 := by simpa [am_cks] using hck
    simp only [am_sto] at h
    split at h
    · cases h
      exact lv_istore hx hb hd (am_lv_has hl) hn rfl (fun la' h' => k la' (am_lv_s1 hl hn h'))
    · cases h
  case astore z =>
    obtain ⟨hn, rfl⟩ : z < nL ∧ w = 2 := by simpa [am_cks] using hck
    simp only [am_sto] at h
    split at h
    · cases h
      exact lv_astore hx hb hd (am_lv_has hl) hn rfl (fun la' h' => k la' (am_lv_s1 hl hn h'))
    · cases h
  case lstore z =>
    obtain ⟨hn, rfl⟩ : z + 1 < nL ∧ w = 2 := by simpa [am_cks] using hck
    simp only [am_sto] at h
    split at h
    · cases h
      exact lv_lstore hx hb hd (am_lv_has hl) hn rfl (fun la' h' => k la' (am_lv_s2 hl hn h'))
    · cases h
  case dstore z =>
    obtain ⟨hn, rfl⟩ : z + 1 < nL ∧ w = 2 := by simpa [am_cks] using hck
    simp only [am_sto] at h
    split at h
    · cases h
      exact lv_dstore hx hb hd (am_lv_has hl) hn rfl (fun la' h' => k la' (am_lv_s2 hl hn h'))
    · cases h
  case iinc z d =>
    obtain ⟨hk, hn, rfl⟩ : Int32.ofInt d = am_k d ∧ z < nL ∧ w = 3 := by simpa [am_cks] using hck
    simp only [am_sto] at h
    split at h
    · rename_i x hx'
      cases h
      obtain ⟨j, hj⟩ := List.getElem?_of_mem (am_lw_mem.mpr ⟨.int x, hx', (fun q => by cases q), rfl⟩ : (z, Value.int x) ∈ am_lw a ls)
      exact lv_iinc hx hb hd (am_lv_has hl) hj (by rw [hk]) hn rfl (fun la' h' => k la' (am_lv_s1 hl hn h'))
    · cases h
  all_goals exact absurd h (by simp [am_sto])
theorem am_if1_W (hx : p.tables.exec = Jvm.exec) (hb : c.code = cc) {cd : ClassFile.Cond} {o : Int} {st : List Value} {v : Int32} (hd : decode cc pc = .ok (.ifCond cd o, 3)) (ho : 0 ≤ (pc : Int) + o)
    (kt : am_c1 cd v → W p l e R s m args below meth c H locs cells slots QQ (F0 m ((pc : Int) + o).toNat la st)) (kf : ¬ am_c1 cd v → W p l e R s m args below meth c H locs cells slots QQ (F0 m (pc + 3) la st)) : W p l e R s m args below meth c H locs cells slots QQ (F0 m pc la (.int v :: st)) := by
  have ht : (pc : Int) + o = ((((pc : Int) + o).toNat : Nat) : Int) := by omega
  cases cd
  · exact lv_if_eq hx hb hd ht kt kf
  · exact lv_if_ne hx hb hd ht kt (fun q => kf (fun z => z q))
  · exact lv_if_lt hx hb hd ht kt kf
  · exact lv_if_ge hx hb hd ht kt kf
  · exact lv_if_gt hx hb hd ht kt kf
  · exact lv_if_le hx hb hd ht kt kf
theorem am_if2_W (hx : p.tables.exec = Jvm.exec) (hb : c.code = cc) {cd : ClassFile.Cond} {o : Int} {st : List Value} {v1 v2 : Int32} (hd : decode cc pc = .ok (.if_icmp cd o, 3)) (ho : 0 ≤ (pc : Int) + o)
    (kt : am_c2 cd v1 v2 → W p l e R s m args below meth c H locs cells slots QQ (F0 m ((pc : Int) + o).toNat la st)) (kf : ¬ am_c2 cd v1 v2 → W p l e R s m args below meth c H locs cells slots QQ (F0 m (pc + 3) la st)) : W p l e R s m args below meth c H locs cells slots QQ (F0 m pc la (.int v2 :: .int v1 :: st)) := by
  have ht : (pc : Int) + o = ((((pc : Int) + o).toNat : Nat) : Int) := by omega
  cases cd
  · exact lv_icmp_eq hx hb hd ht kt kf
  · exact lv_icmp_ne hx hb hd ht kt (fun q => kf (fun z => z q))
  · exact lv_icmp_lt hx hb hd ht kt kf
  · exact lv_icmp_ge hx hb hd ht kt kf
  · exact lv_icmp_gt hx hb hd ht kt kf
  · exact lv_icmp_le hx hb hd ht kt kf
theorem am_sw_get {r : Nat → Prop} {x : Int32} {pc : Nat} : ∀ (os : List Int) (k : Int), am_sw r x pc os k → ∀ (j : Nat) (o : Int), os[j]? = some o → x.toInt = k + j → r ((pc : Int) + o).toNat
  | [], k, _, j, o, h, _ => by simp at h
  | o1 :: os, k, h, j, o, hj, hx => by
    cases j with
    | zero =>
      rw [List.getElem?_cons_zero] at hj
      cases hj
      exact h.1 (by omega)
    | succ j =>
      rw [List.getElem?_cons_succ] at hj
      exact am_sw_get os (k + 1) h.2 j o hj (by omega)
theorem am_tsw_W (hx : p.tables.exec = Jvm.exec) (hb : c.code = cc) {d lo hi : Int} {os : Array Int} {w : Nat} {st : List Value} {v : Int32} (hd : decode cc pc = .ok (.tableswitch d lo hi os, w)) (ho : 0 ≤ (pc : Int) + d) (hos : ∀ o ∈ os.toList, 0 ≤ (pc : Int) + o) (hsz : hi < lo + os.size)
    (kd : (v.toInt < lo ∨ hi < v.toInt) → W p l e R s m args below meth c H locs cells slots QQ (F0 m ((pc : Int) + d).toNat la st)) (ks : am_sw (fun tg => W p l e R s m args below meth c H locs cells slots QQ (F0 m tg la st)) v pc os.toList lo) : W p l e R s m args below meth c H locs cells slots QQ (F0 m pc la (.int v :: st)) := by
  by_cases h : v.toInt < lo ∨ hi < v.toInt
  · exact lv_tableOut hx hb hd h (show (pc : Int) + d = ((((pc : Int) + d).toNat : Nat) : Int) by omega) (kd h)
  · have h1 : ¬ v.toInt < lo := fun q => h (Or.inl q)
    have h2 : ¬ hi < v.toInt := fun q => h (Or.inr q)
    have hlt : (v.toInt - lo).toNat < os.size := by omega
    have hget : os[(v.toInt - lo).toNat]? = some os[(v.toInt - lo).toNat] := Array.getElem?_eq_getElem hlt
    have hgl : os.toList[(v.toInt - lo).toNat]? = some os[(v.toInt - lo).toNat] := by rw [Array.getElem?_toList]; exact hget
    have hm := hos _ (List.mem_of_getElem? hgl)
    exact lv_tableIn hx hb hd h1 h2 hget (show (pc : Int) + _ = ((((pc : Int) + _).toNat : Nat) : Int) by omega) (am_sw_get _ _ ks _ _ hgl (by omega))
theorem am_ls_get {r : Nat → Prop} {x : Int32} {pc : Nat} {d : Int} : ∀ (ps : List (Int × Int)), am_ls r x pc d ps → r ((pc : Int) + Op.lookupswitch.offset ps d x.toInt).toNat
  | [], h => h
  | q :: os, h => by
    by_cases e : x.toInt = q.1
    · have h1 : Op.lookupswitch.offset (q :: os) d x.toInt = q.2 := by simp [Op.lookupswitch.offset, e]
      rw [h1]
      exact h.1 e
    · have h1 : Op.lookupswitch.offset (q :: os) d x.toInt = Op.lookupswitch.offset os d x.toInt := by simp [Op.lookupswitch.offset, show ¬ q.1 = x.toInt from fun z => e z.symm]
      rw [h1]
      exact am_ls_get os (h.2 e)
theorem am_lso {x d : Int} {P : Int → Prop} : ∀ (ps : List (Int × Int)), P d → (∀ q ∈ ps, P q.2) → P (Op.lookupswitch.offset ps d x)
  | [], h, _ => h
  | q :: os, h, hq => by
    by_cases e : x = q.1
    · have h1 : Op.lookupswitch.offset (q :: os) d x = q.2 := by simp [Op.lookupswitch.offset, e]
      rw [h1]
      exact hq q List.mem_cons_self
    · have h1 : Op.lookupswitch.offset (q :: os) d x = Op.lookupswitch.offset os d x := by simp [Op.lookupswitch.offset, show ¬ q.1 = x from fun z => e z.symm]
      rw [h1]
      exact am_lso os h (fun q' h' => hq q' (List.mem_cons_of_mem _ h'))
theorem am_lsw_W (hx : p.tables.exec = Jvm.exec) (hb : c.code = cc) {d : Int} {ps : Array (Int × Int)} {w : Nat} {st : List Value} {v : Int32} (hd : decode cc pc = .ok (.lookupswitch d ps, w)) (ho : 0 ≤ (pc : Int) + d) (hos : ∀ q ∈ ps.toList, 0 ≤ (pc : Int) + q.2) (hp : (ps.toList.zip (ps.toList.drop 1)).all (fun (a, next) => a.1 < next.1) = true)
    (ks : am_ls (fun tg => W p l e R s m args below meth c H locs cells slots QQ (F0 m tg la st)) v pc d ps.toList) : W p l e R s m args below meth c H locs cells slots QQ (F0 m pc la (.int v :: st)) := by
  have h0 : 0 ≤ (pc : Int) + Op.lookupswitch.offset ps.toList d v.toInt := am_lso (P := fun o => 0 ≤ (pc : Int) + o) _ ho hos
  exact lv_lookup hx hb hd hp rfl (show (pc : Int) + _ = ((((pc : Int) + _).toNat : Nat) : Int) by omega) (am_ls_get _ ks)
end AMS
