/-! rules of am_R, an instruction each: memory and constants -/
theorem am_good_of {w : Jvm.Cond} {k : Nat} (h : lw_tbl[k]? = some w) (g : goodWord w = true) : w ∈ am_good := List.mem_filter.mpr ⟨List.mem_of_getElem? h, g⟩
def am_Rn : Nat → String
  | 0 => RX0 | 1 => RX1 | 2 => RX2 | _ => RX3
def am_T : Nat → u_T
  | 0 => TX0 | 1 => TX1 | 2 => TX2 | _ => TX3
def am_ty : Nat → Nat → FieldType
  | 0 => tyX0 | 1 => tyX1 | 2 => tyX2 | _ => tyX3
theorem am_cls_get {x : Nat} (h : x < 4) : am_cls[x]? = some (am_Rn x, am_T x, am_nf x) := by
  match x, h with
  | 0, _ => rfl
  | 1, _ => rfl
  | 2, _ => rfl
  | 3, _ => rfl
theorem am_hinX0 : ∀ w ∈ u_ws RX0 TX0 5, w ∈ am_good := by decide +kernel
theorem am_hinX1 : ∀ w ∈ u_ws RX1 TX1 1, w ∈ am_good := by decide +kernel
theorem am_hinX2 : ∀ w ∈ u_ws RX2 TX2 7, w ∈ am_good := by decide +kernel
theorem am_hinX3 : ∀ w ∈ u_ws RX3 TX3 9, w ∈ am_good := by decide +kernel
theorem am_hin {x : Nat} (h : x < 4) : ∀ w ∈ u_ws (am_Rn x) (am_T x) (am_nf x), w ∈ am_good := by
  match x, h with
  | 0, _ => exact am_hinX0
  | 1, _ => exact am_hinX1
  | 2, _ => exact am_hinX2
  | 3, _ => exact am_hinX3
theorem am_tyok {x : Nat} (h : x < 4) : ∀ k, k < am_nf x → parseFieldDescriptor (am_T x k).2.2.1 = some (am_ty x k) := by
  match x, h with
  | 0, _ => exact tyX0_ok
  | 1, _ => exact tyX1_ok
  | 2, _ => exact tyX2_ok
  | 3, _ => exact tyX3_ok
theorem am_nmok {x : Nat} (h : x < 4) : ∀ a, a < am_nf x → ∀ b, b < am_nf x → a ≠ b → (am_T x a).2.1 ≠ (am_T x b).2.1 := by
  match x, h with
  | 0, _ => exact nmX0
  | 1, _ => exact nmX1
  | 2, _ => exact nmX2
  | 3, _ => exact nmX3
theorem am_kd_lt {o : Nat} (h : am_kd o < 3) : o < 17 := by
  unfold am_kd at h
  split at h <;> omega
theorem am_ci_lt {o : Nat} (h : am_ci o < 4) : o < 17 ∧ am_kd o = 9 := by
  unfold am_ci at h
  split at h <;> first | exact ⟨by omega, rfl⟩ | omega
theorem am_kd9' : ∀ o, o < 17 → am_kd o = 9 → am_ci o < 4 := by decide
theorem am_kd9 {o : Nat} (h : am_kd o = 9) (ho : o < 17) : am_ci o < 4 := am_kd9' o ho h
theorem am_len_ne {L o : Nat} (h : o ≠ 17) : am_len 0 o = am_len L o := by
  unfold am_len
  split <;> first | rfl | omega
theorem am_len_lt {L o : Nat} (h : o ≠ 17) : am_len L o < 5000 := by
  unfold am_len
  split <;> omega
theorem am_tv_ref {a : Nat → Nat} {o : Nat} (h : o < 29) : am_tv a (.ref o) = .ref (a o) := by simp [am_tv, h]
theorem am_e0 {a : Nat → Nat} {g : ClassId × ClassId × Nat} {M : am_M} {o : Nat} (h : am_kd o = 0) : am_e a g M o = .inl (g.1, am_len 0 o, .inl (M o)) := by simp [am_e, h]
theorem am_e1 {a : Nat → Nat} {g : ClassId × ClassId × Nat} {M : am_M} {o : Nat} (h : am_kd o = 1) : am_e a g M o = .inl (g.2.1, am_len 0 o, .inl (M o)) := by simp [am_e, h]
theorem am_e4 {a : Nat → Nat} {g : ClassId × ClassId × Nat} {M : am_M} {o : Nat} (h : am_kd o = 4) : am_e a g M o = .inl (g.1, g.2.2, .inl (M o)) := by simp [am_e, h]
theorem am_e9 {a : Nat → Nat} {g : ClassId × ClassId × Nat} {M : am_M} {o : Nat} (h : am_kd o = 9) : am_e a g M o = .inr (am_ci o, (List.range (am_nf (am_ci o))).map (fun k => am_tv a (am_val (am_ci o) o k M))) := by simp [am_e, h]
theorem am_rd_spec {t : am_MT} {o : Nat} (h : am_rd t o = true) : am_kd o = 0 ∨ (o = 17 ∧ mt_w t = true) := by
  simpa [am_rd, Nat.beq_eq] using h
theorem am_inL {k n : Nat} (h : k < n) (hn : n < 2 ^ 31) : vp_in (nI k) n := vp_in_nI h hn
section AMR
variable {L : am_S} {t : am_MT} {n pc : Nat} {ls st : List Value} {M : am_M} {Q : am_Q}
theorem am_R_pu {i : Instr} {w : Nat} {st' : List Value} (h : am_pu i ls st = some st') (hd : decode (mt_b t) pc = .ok (i, w)) (hck : am_ckp i w = true) (k : am_R L t n (pc + w) ls st' M Q) : am_R L t n pc ls st M Q := by
  intro p l e R s m args below meth c a D g A cells slots QQ hE hC h1 h2 hEnd H locs la hW hL
  exact am_pu_W hE.1 hE.2.1 hL h hd hck (k p l e R s m args below meth c a D g A cells slots QQ hE hC h1 h2 hEnd H locs la hW hL)
theorem am_R_sto {i : Instr} {w : Nat} {q : List Value × List Value} (h : am_sto i ls st = some q) (hd : decode (mt_b t) pc = .ok (i, w)) (hck : am_cks (mt_l t) i w = true) (k : am_R L t n (pc + w) q.1 q.2 M Q) : am_R L t n pc ls st M Q := by
  intro p l e R s m args below meth c a D g A cells slots QQ hE hC h1 h2 hEnd H locs la hW hL
  exact am_sto_W hE.1 hE.2.1 hL h hd hck (fun la' hL' => k p l e R s m args below meth c a D g A cells slots QQ hE hC h1 h2 hEnd H locs la' hW hL')
theorem am_R_if1 {cd : ClassFile.Cond} {o : Int} {v : Int32} (hd : decode (mt_b t) pc = .ok (.ifCond cd o, 3)) (ho : 0 ≤ (pc : Int) + o) (kt : am_c1 cd v → am_R L t n ((pc : Int) + o).toNat ls st M Q) (kf : ¬ am_c1 cd v → am_R L t n (pc + 3) ls st M Q) : am_R L t n pc ls (.int v :: st) M Q := by
  intro p l e R s m args below meth c a D g A cells slots QQ hE hC h1 h2 hEnd H locs la hW hL
  exact am_if1_W hE.1 hE.2.1 hd ho (fun q => kt q p l e R s m args below meth c a D g A cells slots QQ hE hC h1 h2 hEnd H locs la hW hL) (fun q => kf q p l e R s m args below meth c a D g A cells slots QQ hE hC h1 h2 hEnd H locs la hW hL)
theorem am_R_if2 {cd : ClassFile.Cond} {o : Int} {v1 v2 : Int32} (hd : decode (mt_b t) pc = .ok (.if_icmp cd o, 3)) (ho : 0 ≤ (pc : Int) + o) (kt : am_c2 cd v1 v2 → am_R L t n ((pc : Int) + o).toNat ls st M Q) (kf : ¬ am_c2 cd v1 v2 → am_R L t n (pc + 3) ls st M Q) : am_R L t n pc ls (.int v2 :: .int v1 :: st) M Q := by
  intro p l e R s m args below meth c a D g A cells slots QQ hE hC h1 h2 hEnd H locs la hW hL
  exact am_if2_W hE.1 hE.2.1 hd ho (fun q => kt q p l e R s m args below meth c a D g A cells slots QQ hE hC h1 h2 hEnd H locs la hW hL) (fun q => kf q p l e R s m args below meth c a D g A cells slots QQ hE hC h1 h2 hEnd H locs la hW hL)
theorem am_R_goto {o : Int} (hd : decode (mt_b t) pc = .ok (.goto o, 3)) (ho : 0 ≤ (pc : Int) + o) (k : am_R L t n ((pc : Int) + o).toNat ls st M Q) : am_R L t n pc ls st M Q := by
  intro p l e R s m args below meth c a D g A cells slots QQ hE hC h1 h2 hEnd H locs la hW hL
  exact lv_goto hE.1 hE.2.1 hd (show (pc : Int) + o = ((((pc : Int) + o).toNat : Nat) : Int) by omega) (k p l e R s m args below meth c a D g A cells slots QQ hE hC h1 h2 hEnd H locs la hW hL)
theorem am_sw_mono {r r' : Nat → Prop} {x : Int32} {pc : Nat} (h : ∀ q, r q → r' q) : ∀ (os : List Int) (k : Int), am_sw r x pc os k → am_sw r' x pc os k
  | [], _, _ => trivial
  | _ :: os, k, q => ⟨fun e => h _ (q.1 e), am_sw_mono h os (k + 1) q.2⟩
theorem am_ls_mono {r r' : Nat → Prop} {x : Int32} {pc : Nat} {d : Int} (h : ∀ q, r q → r' q) : ∀ (os : List (Int × Int)), am_ls r x pc d os → am_ls r' x pc d os
  | [], q => h _ q
  | _ :: os, q => ⟨fun e => h _ (q.1 e), fun e => am_ls_mono h os (q.2 e)⟩
theorem am_R_tsw {d lo hi : Int} {os : Array Int} {w : Nat} {v : Int32} (hd : decode (mt_b t) pc = .ok (.tableswitch d lo hi os, w)) (ho : 0 ≤ (pc : Int) + d) (hos : ∀ o ∈ os.toList, 0 ≤ (pc : Int) + o) (hsz : hi < lo + os.size)
    (kd : (v.toInt < lo ∨ hi < v.toInt) → am_R L t n ((pc : Int) + d).toNat ls st M Q) (ks : am_sw (fun tg => am_R L t n tg ls st M Q) v pc os.toList lo) : am_R L t n pc ls (.int v :: st) M Q := by
  intro p l e R s m args below meth c a D g A cells slots QQ hE hC h1 h2 hEnd H locs la hW hL
  exact am_tsw_W hE.1 hE.2.1 hd ho hos hsz (fun q => kd q p l e R s m args below meth c a D g A cells slots QQ hE hC h1 h2 hEnd H locs la hW hL) (am_sw_mono (fun q k => k p l e R s m args below meth c a D g A cells slots QQ hE hC h1 h2 hEnd H locs la hW hL) _ _ ks)
theorem am_R_lsw {d : Int} {ps : Array (Int × Int)} {w : Nat} {v : Int32} (hd : decode (mt_b t) pc = .ok (.lookupswitch d ps, w)) (ho : 0 ≤ (pc : Int) + d) (hos : ∀ q ∈ ps.toList, 0 ≤ (pc : Int) + q.2) (hp : (ps.toList.zip (ps.toList.drop 1)).all (fun (a, next) => a.1 < next.1) = true)
    (ks : am_ls (fun tg => am_R L t n tg ls st M Q) v pc d ps.toList) : am_R L t n pc ls (.int v :: st) M Q := by
  intro p l e R s m args below meth c a D g A cells slots QQ hE hC h1 h2 hEnd H locs la hW hL
  exact am_lsw_W hE.1 hE.2.1 hd ho hos hp (am_ls_mono (fun q k => k p l e R s m args below meth c a D g A cells slots QQ hE hC h1 h2 hEnd H locs la hW hL) _ ks)
theorem am_R_ldc {idx z : Nat} {v : Int32} (hd : decode (mt_b t) pc = .ok (.ldc idx, 2)) (hw : lw_tbl[z]? = some (.constant (mt_y t).cls idx v)) (k : am_R L t n (pc + 2) ls (.int v :: st) M Q) : am_R L t n pc ls st M Q := by
  intro p l e R s m args below meth c a D g A cells slots QQ hE hC h1 h2 hEnd H locs la hW hL
  exact lv_ldc hE.1 hE.2.1 hE.2.2.2.1 (hE.2.2.2.2.1 _ (am_good_of hw rfl)) hd (k p l e R s m args below meth c a D g A cells slots QQ hE hC h1 h2 hEnd H locs la hW hL)
theorem am_R_ldcw {idx z : Nat} {v : Int32} (hd : decode (mt_b t) pc = .ok (.ldc_w idx, 3)) (hw : lw_tbl[z]? = some (.constant (mt_y t).cls idx v)) (k : am_R L t n (pc + 3) ls (.int v :: st) M Q) : am_R L t n pc ls st M Q := by
  intro p l e R s m args below meth c a D g A cells slots QQ hE hC h1 h2 hEnd H locs la hW hL
  exact lv_ldcw hE.1 hE.2.1 hE.2.2.2.1 (hE.2.2.2.2.1 _ (am_good_of hw rfl)) hd (k p l e R s m args below meth c a D g A cells slots QQ hE hC h1 h2 hEnd H locs la hW hL)
theorem am_R_ldc2 {idx z : Nat} {v : Int64} (hd : decode (mt_b t) pc = .ok (.ldc2_w idx, 3)) (hw : lw_tbl[z]? = some (.constantLong (mt_y t).cls idx v)) (k : am_R L t n (pc + 3) ls (.long v :: st) M Q) : am_R L t n pc ls st M Q := by
  intro p l e R s m args below meth c a D g A cells slots QQ hE hC h1 h2 hEnd H locs la hW hL
  exact lv_ldc2 hE.1 hE.2.1 hE.2.2.2.1 (hE.2.2.2.2.1 _ (am_good_of hw rfl)) hd (k p l e R s m args below meth c a D g A cells slots QQ hE hC h1 h2 hEnd H locs la hW hL)
theorem am_R_ldc2d {idx z : Nat} {v : UInt64} (hd : decode (mt_b t) pc = .ok (.ldc2_w idx, 3)) (hw : lw_tbl[z]? = some (.constantDouble (mt_y t).cls idx v)) (k : am_R L t n (pc + 3) ls (.double v :: st) M Q) : am_R L t n pc ls st M Q := by
  intro p l e R s m args below meth c a D g A cells slots QQ hE hC h1 h2 hEnd H locs la hW hL
  exact lv_ldc2d hE.1 hE.2.1 hE.2.2.2.1 (hE.2.2.2.2.1 _ (am_good_of hw rfl)) hd (k p l e R s m args below meth c a D g A cells slots QQ hE hC h1 h2 hEnd H locs la hW hL)
theorem am_R_idiv {v1 v2 : Int32} (hd : decode (mt_b t) pc = .ok (.idiv, 1)) (hne : ¬ v2 = 0) (k : am_R L t n (pc + 1) ls (.int (v1 / v2) :: st) M Q) : am_R L t n pc ls (.int v2 :: .int v1 :: st) M Q := by
  intro p l e R s m args below meth c a D g A cells slots QQ hE hC h1 h2 hEnd H locs la hW hL
  exact lv_idiv hE.1 hE.2.1 hd hne (k p l e R s m args below meth c a D g A cells slots QQ hE hC h1 h2 hEnd H locs la hW hL)
theorem am_R_irem {v1 v2 : Int32} (hd : decode (mt_b t) pc = .ok (.irem, 1)) (hne : ¬ v2 = 0) (k : am_R L t n (pc + 1) ls (.int (v1 - v1 / v2 * v2) :: st) M Q) : am_R L t n pc ls (.int v2 :: .int v1 :: st) M Q := by
  intro p l e R s m args below meth c a D g A cells slots QQ hE hC h1 h2 hEnd H locs la hW hL
  exact lv_irem hE.1 hE.2.1 hd hne (k p l e R s m args below meth c a D g A cells slots QQ hE hC h1 h2 hEnd H locs la hW hL)
theorem am_R_ddiv {v1 v2 : UInt64} (hd : decode (mt_b t) pc = .ok (.ddiv, 1)) (hne : vf_n64 (FP.ddiv v1 v2)) (k : am_R L t n (pc + 1) ls (.double (FP.ddiv v1 v2) :: st) M Q) : am_R L t n pc ls (.double v2 :: .double v1 :: st) M Q := by
  intro p l e R s m args below meth c a D g A cells slots QQ hE hC h1 h2 hEnd H locs la hW hL
  exact lv_ddiv hE.1 hE.2.1 hd hne (k p l e R s m args below meth c a D g A cells slots QQ hE hC h1 h2 hEnd H locs la hW hL)
-- fields
theorem am_R_get {idx x y z o : Nat} (hd : decode (mt_b t) pc = .ok (.getfield idx, 3)) (hw : lw_tbl[z]? = some (.fieldLink (mt_y t).cls idx (am_T x y).1 (am_T x y).2.1 (am_T x y).2.2.1)) (hx : x < 4) (hy : y < am_nf x) (ho : am_ci o = x) (k : am_R L t n (pc + 3) ls (am_val x o y M :: st) M Q) : am_R L t n pc ls (.ref o :: st) M Q := by
  intro p l e R s m args below meth c a D g A cells slots QQ hE hC h1 h2 hEnd H locs la hW hL
  obtain ⟨h27, h9⟩ := am_ci_lt (o := o) (by omega)
  have hg := am_w_get a g M (am_nc_lo (x := g.2.2) h27)
  rw [am_e9 h9, ho] at hg
  have hv : ((List.range (am_nf x)).map (fun k => am_tv a (am_val x o k M)))[y]? = some (am_tv a (am_val x o y M)) := by simp [hy]
  show W p l e R s m args below meth c H locs cells slots QQ (F0 m pc la (am_tv a (.ref o) :: st.map (am_tv a)))
  rw [am_tv_ref (by omega)]
  exact va_get hE.1 hE.2.1 hE.2.2.2.2.1 (am_hin hx) hE.2.2.2.1 hC.1 hW.1 o hg (am_cls_get hx) y hy (hE.2.2.2.2.1 _ (am_good_of hw rfl)) (fun _ h => h) hv hd
    (k p l e R s m args below meth c a D g A cells slots QQ hE hC h1 h2 hEnd H locs la hW hL)
theorem am_val_set {M : am_M} {x o y j : Nat} {v : Int32} (h : j ≠ y) : am_val x o j (am_set M o (upd (M o) y v)) = am_val x o j M := by
  unfold am_val
  split
  · rfl
  · unfold am_v0
    split
    · rw [am_set_eq]
      simp [upd, h]
    · rfl
theorem am_R_put {idx x y z o : Nat} {v : Int32} {ty : FieldType} (hd : decode (mt_b t) pc = .ok (.putfield idx, 3)) (hw : lw_tbl[z]? = some (.fieldLink (mt_y t).cls idx (am_T x y).1 (am_T x y).2.1 (am_T x y).2.2.1)) (hx : x < 4) (hy : y < am_nf x) (hfin : (am_T x y).2.2.2 = false) (hty : parseFieldDescriptor (am_T x y).2.2.1 = some ty) (hfit : fits ty (.int v) = true) (hr : am_fr x y = 0) (hx1 : x ≠ 1) (ho : am_ci o = x) (hn : narrow ty (.int v) = .int v)
    (k : am_R L t n (pc + 3) ls st (am_set M o (upd (M o) y v)) Q) : am_R L t n pc ls (.int v :: .ref o :: st) M Q := by
  intro p l e R s m args below meth c a D g A cells slots QQ hE hC h1 h2 hEnd H locs la hW hL
  obtain ⟨h27, h9⟩ := am_ci_lt (o := o) (by omega)
  have hg := am_w_get a g M (am_nc_lo (x := g.2.2) h27)
  rw [am_e9 h9, ho] at hg
  show W p l e R s m args below meth c H locs cells slots QQ (F0 m pc la (.int v :: am_tv a (.ref o) :: st.map (am_tv a)))
  rw [am_tv_ref (by omega)]
  have he : ∀ (f : List Value), f = ((List.range (am_nf x)).map (fun k => am_tv a (am_val x o k M))).set y (.int v) → Sum.inr (x, f) = am_e a g (am_set M o (upd (M o) y v)) o := by
    rintro f rfl
    rw [am_e9 h9, ho]
    congr 2
    apply List.ext_getElem?
    intro j
    by_cases hj : j = y
    · subst hj
      rw [List.getElem?_set_self (by simpa using hy)]
      have h3 : am_val x o j (am_set M o (upd (M o) j v)) = .int v := by
        unfold am_val
        split
        · exact absurd rfl hx1
        · rw [hr]
          show Value.int _ = _
          rw [am_set_eq]
          simp [upd]
      simp [hy, h3, am_tv]
    · rw [List.getElem?_set_ne (Ne.symm hj)]
      by_cases hjn : j < am_nf x
      · simp [hjn, am_val_set hj]
      · rw [List.getElem?_eq_none (by simpa using Nat.not_lt.mp hjn), List.getElem?_eq_none (by simpa using Nat.not_lt.mp hjn)]
  refine va_put hE.1 hE.2.1 hE.2.2.2.2.1 (am_hin hx) (am_ty x) (am_tyok hx) (am_nmok hx) hE.2.2.2.1 hC.1 hW.1 (hC.2.1 M) hW.2.1 o hg (am_cls_get hx) y hy (hE.2.2.2.2.1 _ (am_good_of hw rfl)) (fun _ h => h) hfin hty hn hfit (by simpa using hy) hd (fun H1 locs1 hP hD hS => ?_)
  rw [am_w_set (am_nc_lo (x := g.2.2) h27) (fun q hq => am_set_ne hq) (he _ rfl)] at hP
  exact k p l e R s m args below meth c a D g A cells slots QQ hE hC h1 h2 hEnd H1 locs1 la ⟨hP, hS, hW.2.2⟩ hL
-- arrays
theorem am_R_iald {o kk : Nat} {v : Int32} (hd : decode (mt_b t) pc = .ok (.iaload, 1)) (hL31 : mt_w t = true → L.1 < 2 ^ 31) (hr : am_rd t o = true) (hv : v = nI kk) (hk : kk < am_len L.1 o) (k : am_R L t n (pc + 1) ls (.int (am_rv L M kk o) :: st) M Q) : am_R L t n pc ls (.int v :: .ref o :: st) M Q := by
  intro p l e R s m args below meth c a D g A cells slots QQ hE hC h1 h2 hEnd H locs la hW hL
  subst hv
  have kk' := k p l e R s m args below meth c a D g A cells slots QQ hE hC h1 h2 hEnd H locs la hW hL
  show W p l e R s m args below meth c H locs cells slots QQ (F0 m pc la (.int (nI kk) :: am_tv a (.ref o) :: st.map (am_tv a)))
  rcases am_rd_spec hr with h0 | ⟨rfl, hw⟩
  · have h27 := am_kd_lt (o := o) (by omega)
    have hne : o ≠ 17 := by omega
    have hlt := am_len_lt (L := L.1) hne
    rw [am_tv_ref (by omega)]
    have hg := am_w_get a g M (am_nc_lo (x := g.2.2) h27)
    rw [am_e0 h0, am_len_ne (L := L.1) hne] at hg
    refine va_iald hE.1 hE.2.1 hC.1 hW.1 o 0 hg rfl (vp_in_nI hk (by omega)) hd ?_
    rw [nI_clamp (by omega)]
    exact kk'
  · rw [am_tv_ref (by omega)]
    have hx := hC.2.2.2.2.2 hw
    have hk' : kk < L.1 := hk
    have hg := am_w_get a g M (o := 17) (am_nc_x (k := kk) (by omega))
    rw [am_e4 rfl, hx] at hg
    refine va_iald hE.1 hE.2.1 hC.1 hW.1 17 0 hg rfl (vp_in_nI hk' (hL31 hw)) hd ?_
    rw [nI_clamp (by have := hL31 hw; omega)]
    exact kk'
theorem am_R_zald {o kk : Nat} {v : Int32} (hd : decode (mt_b t) pc = .ok (.baload, 1)) (h0 : am_kd o = 1) (hv : v = nI kk) (hk : kk < am_len L.1 o) (k : am_R L t n (pc + 1) ls (.int (M o kk) :: st) M Q) : am_R L t n pc ls (.int v :: .ref o :: st) M Q := by
  intro p l e R s m args below meth c a D g A cells slots QQ hE hC h1 h2 hEnd H locs la hW hL
  subst hv
  have kk' := k p l e R s m args below meth c a D g A cells slots QQ hE hC h1 h2 hEnd H locs la hW hL
  show W p l e R s m args below meth c H locs cells slots QQ (F0 m pc la (.int (nI kk) :: am_tv a (.ref o) :: st.map (am_tv a)))
  have h27 := am_kd_lt (o := o) (by omega)
  have hne : o ≠ 17 := by omega
  have hlt := am_len_lt (L := L.1) hne
  rw [am_tv_ref (by omega)]
  have hg := am_w_get a g M (am_nc_lo (x := g.2.2) h27)
  rw [am_e1 h0, am_len_ne (L := L.1) hne] at hg
  refine va_zald hE.1 hE.2.1 hC.1 hW.1 o 1 hg rfl (vp_in_nI hk (by omega)) hd ?_
  rw [nI_clamp (by omega)]
  exact kk'
theorem am_R_iast {o kk : Nat} {v z : Int32} (hd : decode (mt_b t) pc = .ok (.iastore, 1)) (hL31 : mt_w t = true → L.1 < 2 ^ 31) (hr : am_rd t o = true) (hv : v = nI kk) (hk : kk < am_len L.1 o) (k : am_R L t n (pc + 1) ls st (am_set M o (upd (M o) kk z)) Q) : am_R L t n pc ls (.int z :: .int v :: .ref o :: st) M Q := by
  intro p l e R s m args below meth c a D g A cells slots QQ hE hC h1 h2 hEnd H locs la hW hL
  subst hv
  show W p l e R s m args below meth c H locs cells slots QQ (F0 m pc la (.int z :: .int (nI kk) :: am_tv a (.ref o) :: st.map (am_tv a)))
  rcases am_rd_spec hr with h0 | ⟨rfl, hw⟩
  · have h27 := am_kd_lt (o := o) (by omega)
    have hne : o ≠ 17 := by omega
    have hlt := am_len_lt (L := L.1) hne
    rw [am_tv_ref (by omega)]
    have hg := am_w_get a g M (am_nc_lo (x := g.2.2) h27)
    rw [am_e0 h0, am_len_ne (L := L.1) hne] at hg
    refine va_iast hE.1 hE.2.1 hC.1 hW.1 (hC.2.1 M) hW.2.1 o 0 hg rfl (vp_in_nI hk (by omega)) hd (fun H1 locs1 hP hD hS => ?_)
    rw [nI_clamp (by omega), am_w_set (M' := am_set M o (upd (M o) kk z)) (am_nc_lo (x := g.2.2) h27) (fun q hq => am_set_ne hq) (by rw [am_e0 h0, am_set_eq, am_len_ne (L := L.1) hne])] at hP
    exact k p l e R s m args below meth c a D g A cells slots QQ hE hC h1 h2 hEnd H1 locs1 la ⟨hP, hS, hW.2.2⟩ hL
  · rw [am_tv_ref (by omega)]
    have hx := hC.2.2.2.2.2 hw
    have hk' : kk < L.1 := hk
    have hg := am_w_get a g M (o := 17) (am_nc_x (k := kk) (by omega))
    rw [am_e4 rfl, hx] at hg
    refine va_iast hE.1 hE.2.1 hC.1 hW.1 (hC.2.1 M) hW.2.1 17 0 hg rfl (vp_in_nI hk' (hL31 hw)) hd (fun H1 locs1 hP hD hS => ?_)
    rw [nI_clamp (by have := hL31 hw; omega), am_w_set (M' := am_set M 17 (upd (M 17) kk z)) (am_nc_x (k := kk) (by omega)) (fun q hq => am_set_ne hq) (by rw [am_e4 rfl, am_set_eq, hx])] at hP
    exact k p l e R s m args below meth c a D g A cells slots QQ hE hC h1 h2 hEnd H1 locs1 la ⟨hP, hS, hW.2.2⟩ hL
theorem am_R_zast {o kk : Nat} {v z : Int32} (hd : decode (mt_b t) pc = .ok (.bastore, 1)) (h0 : am_kd o = 1) (hz : vp_nar .boolean z = z) (hv : v = nI kk) (hk : kk < am_len L.1 o) (k : am_R L t n (pc + 1) ls st (am_set M o (upd (M o) kk z)) Q) : am_R L t n pc ls (.int z :: .int v :: .ref o :: st) M Q := by
  intro p l e R s m args below meth c a D g A cells slots QQ hE hC h1 h2 hEnd H locs la hW hL
  subst hv
  show W p l e R s m args below meth c H locs cells slots QQ (F0 m pc la (.int z :: .int (nI kk) :: am_tv a (.ref o) :: st.map (am_tv a)))
  have h27 := am_kd_lt (o := o) (by omega)
  have hne : o ≠ 17 := by omega
  have hlt := am_len_lt (L := L.1) hne
  rw [am_tv_ref (by omega)]
  have hg := am_w_get a g M (am_nc_lo (x := g.2.2) h27)
  rw [am_e1 h0, am_len_ne (L := L.1) hne] at hg
  refine va_zast hE.1 hE.2.1 hC.1 hW.1 (hC.2.1 M) hW.2.1 o 1 hg rfl (vp_in_nI hk (by omega)) hd (fun H1 locs1 hP hD hS => ?_)
  rw [nI_clamp (by omega), hz, am_w_set (M' := am_set M o (upd (M o) kk z)) (am_nc_lo (x := g.2.2) h27) (fun q hq => am_set_ne hq) (by rw [am_e1 h0, am_set_eq, am_len_ne (L := L.1) hne])] at hP
  exact k p l e R s m args below meth c a D g A cells slots QQ hE hC h1 h2 hEnd H1 locs1 la ⟨hP, hS, hW.2.2⟩ hL
end AMR
