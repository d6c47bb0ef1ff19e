/-! the law up to its loop -/
def st_M (o : Nat) : Nat → Int32 := match o with
  | 0 => fun k => ([0, 0, 0, 0, 0, 0, 0, 0, (nI 0)] : List Int32).getD k 0
  | 1 => fun k => ([0] : List Int32).getD k 0
  | 2 => upd (upd (upd (upd (upd (upd (fun _ => 0) 0 (nI 1000)) 1 (nI 1000)) 2 (nI 1000)) 3 (nI 1000)) 4 (nI 1000)) 51 (nI 20)
  | 3 => fun k => ([0] : List Int32).getD k 0
  | 4 => fun _ => 0
  | 5 => fun k => ([0, 0, (nI 0), (-nI 1), (-nI 1)] : List Int32).getD k 0
  | 6 => fun k => ([0] : List Int32).getD k 0
  | 7 => fun _ => 0
  | 8 => fun _ => 0
  | 9 => fun k => ([0, (nI 0), 0, (nI 0), 0, (nI 0), (-nI 1)] : List Int32).getD k 0
  | 10 => fun _ => 0
  | 11 => fun _ => 0
  | 12 => fun _ => 0
  | 13 => fun _ => 0
  | 14 => fun _ => 0
  | 15 => fun _ => 0
  | 16 => fun _ => 0
  | 17 => fun k => ([0, 0, 0, 0, 0, 0, 0, 0, 0, 0, 0, 0, 0, 0, 0, 0, 0] : List Int32).getD k 0
  | 18 => upd (upd (upd (upd (upd (upd (fun _ => 0) 1 (nI 20)) 17 (nI 1000)) 25 (nI 1000)) 33 (nI 1000)) 41 (nI 1000)) 49 (nI 1000)
  | 19 => fun _ => 0
  | 20 => fun _ => 0
  | 21 => fun _ => 0
  | 22 => fun _ => 0
  | 23 => fun _ => 0
  | 24 => fun _ => 0
  | 25 => fun _ => 0
  | _ => fun _ => 0
def st_a (l : List Nat) (o : Nat) : Nat := l.getD o 0
set_option maxRecDepth 100000 in
theorem st_wd (g : ClassId × ClassId × ClassId) (v0 v1 v2 v3 v4 v5 v6 v7 v8 v9 v10 v11 v12 v13 v14 v15 v16 z0 z1 z2 z3 z4 z5 z6 z7 z8 j0 b q : Nat) : am_w (st_a [v0, v1, v2, v3, v4, v5, v6, v7, v8, v9, v10, v11, v12, v13, v14, v15, v16, z0, z1, z2, z3, z4, z5, z6, z7, z8, j0, b, q]) g st_M = [(v0, .inr (3, [.ref v1, .ref v3, .ref v5, .ref v9, .ref v13, .ref v14, .ref v15, .ref v16, .int (nI 0)])), (v1, .inr (1, [.ref v2])), (v2, .inl (g.1, 105, .inl (upd (upd (upd (upd (upd (upd (fun _ => 0) 0 (nI 1000)) 1 (nI 1000)) 2 (nI 1000)) 3 (nI 1000)) 4 (nI 1000)) 51 (nI 20)))), (v3, .inr (1, [.ref v4])), (v4, .inl (g.1, 105, .inl (fun _ => 0))), (v5, .inr (0, [.ref v6, .ref v8, .int (nI 0), .int (-nI 1), .int (-nI 1)])), (v6, .inr (1, [.ref v7])), (v7, .inl (g.1, 105, .inl (fun _ => 0))), (v8, .inl (g.1, 4235, .inl (fun _ => 0))), (v9, .inr (2, [.ref v10, .int (nI 0), .ref v11, .int (nI 0), .ref v12, .int (nI 0), .int (-nI 1)])), (v10, .inl (g.1, 60, .inl (fun _ => 0))), (v11, .inl (g.1, 40, .inl (fun _ => 0))), (v12, .inl (g.1, 5, .inl (fun _ => 0))), (v13, .inl (g.1, 5, .inl (fun _ => 0))), (v14, .inl (g.1, 210, .inl (fun _ => 0))), (v15, .inl (g.2.1, 2, .inl (fun _ => 0))), (v16, .inl (g.1, 630, .inl (fun _ => 0))), (z0, .inr (4, [.int 0, .ref z1, .ref z2, .ref z3, .int 0, .ref z4, .ref z5, .ref z6, .int 0, .ref z7, .int 0, .int 0, .ref z8, .int 0, .int 0, .int 0, .int 0])), (z1, .inl (g.1, 105, .inl (upd (upd (upd (upd (upd (upd (fun _ => 0) 1 (nI 20)) 17 (nI 1000)) 25 (nI 1000)) 33 (nI 1000)) 41 (nI 1000)) 49 (nI 1000)))), (z2, .inl (g.1, 105, .inl (fun _ => 0))), (z3, .inl (g.1, 630, .inl (fun _ => 0))), (z4, .inl (g.1, 210, .inl (fun _ => 0))), (z5, .inl (g.2.1, 2, .inl (fun _ => 0))), (z6, .inl (g.1, 60, .inl (fun _ => 0))), (z7, .inl (g.1, 2135, .inl (fun _ => 0))), (z8, .inl (g.1, 40, .inl (fun _ => 0))), (j0, .inl (g.2.2, 1, .inr (.inl (fun _ => (0 : Int32).toInt64))))] := rfl
def st_z : dz := upd (upd (upd (upd (upd (upd (fun _ => 0) 17 (nI 1000)) 25 (nI 1000)) 33 (nI 1000)) 41 (nI 1000)) 49 (nI 1000)) 1 (nI 20)
def st_ws : wS := (st_z, 0, fun _ _ => 0, fun _ _ => 0, fun _ => false, fun _ => 0, 0)
theorem st_2 : st_M 2 = zp st_z := by
  show upd (upd (upd (upd (upd (upd (zp (fun _ => 0)) 0 (nI 1000)) 1 (nI 1000)) 2 (nI 1000)) 3 (nI 1000)) 4 (nI 1000)) 51 (nI 20) = _
  rw [zp_upd, zp_upd, zp_upd, zp_upd, zp_upd, zp_upd]
  rfl
theorem st_18 : st_M 18 = st_z := by
  funext k
  show upd (upd (upd (upd (upd (upd (fun _ => 0) 1 (nI 20)) 17 (nI 1000)) 25 (nI 1000)) 33 (nI 1000)) 41 (nI 1000)) 49 (nI 1000) k = st_z k
  by_cases h : k = 1
  · subst h; rfl
  · unfold st_z
    rw [upd_ne _ _ h]
    simp [upd, h]
theorem st_vr : vr st_M st_ws := ⟨st_2, ⟨rfl, by decide⟩, fun j h => absurd h (Nat.not_lt_zero j), fun j _ => rfl, fun j _ h => absurd h Bool.false_ne_true, ⟨rfl, by decide⟩, fun k h => absurd h (Nat.not_lt_zero k)⟩
theorem st_zr : zr st_M st_ws := ⟨st_18, ⟨rfl, by decide⟩, fun j h => absurd h (Nat.not_lt_zero j), fun j _ => rfl, fun j _ h => absurd h Bool.false_ne_true, ⟨rfl, by decide⟩, fun k h => absurd h (Nat.not_lt_zero k)⟩
theorem st_zk1 : ∀ v, v < 5 → 0 ≤ (st_z (18 + 8 * v)).toInt ∧ (st_z (18 + 8 * v)).toInt ≤ (st_z (17 + 8 * v)).toInt ∧ (st_z (17 + 8 * v)).toInt ≤ 2000 := by decide +kernel
theorem st_zk2 : ∀ v, v < 5 → ∀ d, d < 3 → 0 ≤ (st_z (19 + 8 * v + d)).toInt ∧ 0 ≤ (st_z (22 + 8 * v + d)).toInt := by decide +kernel
theorem st_zk3 : ∀ d, d < 3 → 0 ≤ (st_z (14 + d)).toInt ∧ zall st_z d = (st_z (11 + d)).toInt ∧ (st_z (11 + d)).toInt ≤ 99999 := by unfold zall; decide +kernel
theorem st_zk4 : (0 ≤ (st_z 1).toInt ∧ (st_z 1).toInt ≤ 200) ∧ 0 ≤ (st_z 2).toInt ∧ zwat st_z = (st_z 3).toInt := by unfold zwat; decide +kernel
theorem st_zk5 : ∀ v, v < 5 → st_z (6 + v) = nI 0 ∧ 0 < 32 ∧ (0 : Nat).testBit v = false := by decide +kernel
theorem st_wk : wk 0 st_ws := ⟨⟨⟨st_zk1, fun v d hv hd => st_zk2 v hv d hd, st_zk3, st_zk4.1, st_zk4.2, 0, by decide, by decide +kernel, fun k h => absurd h (Nat.not_lt_zero k)⟩, by decide +kernel, by decide +kernel, fun _ => 0, st_zk5, fun v _ u _ => by simp⟩, fun j h => absurd h (Nat.not_lt_zero j), fun j _ h => absurd h Bool.false_ne_true, by decide, by decide, fun k h => absurd h (Nat.not_lt_zero k)⟩
theorem st_d0 : decode code 0 = .ok (.new 8, 3) := by decide +kernel
theorem st_d3 : decode code 3 = .ok (.dup, 1) := by decide +kernel
theorem st_d4 : decode code 4 = .ok (.invokespecial 83, 3) := by decide +kernel
theorem st_d7 : decode code 7 = .ok (.astore_n 1, 1) := by decide +kernel
theorem st_d8 : decode code 8 = .ok (.new 84, 3) := by decide +kernel
theorem st_d11 : decode code 11 = .ok (.dup, 1) := by decide +kernel
theorem st_d12 : decode code 12 = .ok (.invokespecial 86, 3) := by decide +kernel
theorem st_d15 : decode code 15 = .ok (.astore_n 2, 1) := by decide +kernel
theorem st_d16 : decode code 16 = .ok (.iconst 1, 1) := by decide +kernel
theorem st_d17 : decode code 17 = .ok (.newarray .long, 2) := by decide +kernel
theorem st_d19 : decode code 19 = .ok (.astore_n 3, 1) := by decide +kernel
theorem st_d20 : decode code 20 = .ok (.iconst 0, 1) := by decide +kernel
theorem st_d21 : decode code 21 = .ok (.istore 4, 2) := by decide +kernel
set_option maxHeartbeats 8000000 in
set_option maxRecDepth 200000 in
theorem st_law {p : Program} {e : Env} {s : State} {m : MethodId} {below : List Frame} {meth : Method} {c : Code} (l : Launch) (hst : l.stackTraces = false) {b L : Nat} {xs : Nat → Int32} (hL : L ≤ 3072) (hx : p.tables.exec = Jvm.exec) (hb : c.code = code) (hr : meth.sig.returnType = ret) (hml : c.maxLocals = 9) (hown : s.vm.findClass "DyeVatsLaw" = some m.cls) (hts : ∀ w ∈ lw_tbl, w.before #[Value.ref b] s = true) (hX : va_X b L xs s s.heap) (hbl : b < s.heap.size) (hlocks : meth.locks = false) (htab : c.exceptionTable.toList = tableOf []) (hgv : (Jvm.Cond.and given_1 narrow_1).before #[Value.ref b] s = true) {QQ : State → Prop}
    (hend : ∀ (pc : Nat) (H : Heap) (locs : List Loc) (ls : Array Slot), decode code pc = .ok (.ireturn, 1) → (∀ q ∈ locs, s.heap.size ≤ q.base) → W p l e room_1 s m #[Value.ref b] below meth c H locs 1065 17107 QQ (F0 m pc ls [.int 1])) :
    W p l e room_1 s m #[Value.ref b] below meth c s.heap [] 0 0 QQ (entryFrame m ([Value.ref b] : List Value).toArray 9) := by
  have hA : ∀ q : Nat, s.heap.size ≤ q → (fun q : Nat => s.heap.size ≤ q) q := fun _ h => h
  have hg : ∀ w ∈ am_good, w.before #[Value.ref b] s = true := fun w h => hts w (List.mem_filter.mp h).1
  obtain ⟨q28, hSF⟩ := st_SF hts hgv
  obtain ⟨D, g, hK⟩ := st_K hts
  have hN : ci_n s := ⟨va_Nw.of rfl (A := #[Value.ref b]) (st_w hts (k := 94) rfl), va_Nw.of rfl (A := #[Value.ref b]) (st_w hts (k := 107) rfl), va_Nw.of rfl (A := #[Value.ref b]) (st_w hts (k := 133) rfl), va_Nw.of rfl (A := #[Value.ref b]) (st_w hts (k := 112) rfl)⟩
  have hS : va_S (fun q : Nat => s.heap.size ≤ q) s.heap s.heap [] := va_S.rf
  have hP : va_P D am_cls [] s.heap := fun k q h => by simp at h
  have hD : va_D (fun q : Nat => s.heap.size ≤ q) [] := ⟨fun i j p q h => by simp at h, fun k q h => by simp at h⟩
  have hl := lv_entry ([.ref b]) (n := 9) (Nat.le_of_ble_eq_true rfl)
  rw [lg_entry_eq]
  generalize (lg_sl ([.ref b]) ++ List.replicate (9 - (lg_sl ([.ref b])).length) Slot.unset).toArray = ls at hl ⊢
  have hl : lv_has ls 9 [(0, .ref b)] := hl
  refine va_new (ci := 3) (fs := [.null, .null, .null, .null, .null, .null, .null, .null, .int 0]) (C := am_Rn 3) (T := am_T 3) (N := am_nf 3) hx hb hg (am_hin (x := 3) (by decide)) (am_ty 3) (am_tyok (x := 3) (by decide)) hown (hg _ (am_good_of (k := 84) rfl rfl)) (hg _ (am_good_of (k := 85) rfl rfl)) (hg _ (am_good_of (k := 65) rfl rfl)) hK hP hD hS hA rfl (fun j hj => ci_def3 j hj) (Nat.le_of_ble_eq_true rfl) (Nat.le_of_ble_eq_true rfl) st_d0 (fun v0 H hP hD hS => ?_)
  have hP : va_P D am_cls [(v0, .inr (3, [.null, .null, .null, .null, .null, .null, .null, .null, .int 0]))] H := hP
  have hD : va_D (fun q : Nat => s.heap.size ≤ q) [(v0, .inr (3, [.null, .null, .null, .null, .null, .null, .null, .null, .int 0]))] := hD
  refine W.widen (k := 1) (n := 9) (by show _ ≤ _; omega) (Nat.le_of_ble_eq_true rfl) ?_
  refine lv_dup hx hb st_d3 rfl ?_
  have hPc := hP.sub (ws' := [(v0, .inr (3, [.null, .null, .null, .null, .null, .null, .null, .null, .int 0]))]) [0] rfl
  have hDc := hD.sub (ws' := [(v0, .inr (3, [.null, .null, .null, .null, .null, .null, .null, .null, .int 0]))]) [0] (by decide) rfl
  have hFc := va_free (wc := [(v0, .inr (3, [.null, .null, .null, .null, .null, .null, .null, .null, .int 0]))]) hD hS hA [0] rfl
  refine va_callv (va_runI (As := []) (rest := [.ref v0]) (n := 0) ⟨hx, hb, hml, hown, hg⟩ (ci_V l D g v0 H.size) ⟨callB_of (R := room_1) 0 hg (ch_gi (am_good_of (k := 88) rfl rfl)) rfl rfl rfl (hg _ (am_good_of (k := 65) rfl rfl)) (hg _ (am_good_of (k := 86) rfl rfl)) ⟨by decide, by decide, by decide +kernel⟩ ⟨by decide, by decide⟩, rfl, (hg _ (am_good_of (k := 87) rfl rfl))⟩ ⟨ci_blind _ _ _ _ _, fun U hU hW => ⟨rfl, by rw [hU], by rw [hU]; exact hPc, va_K.moved hW.alike hK, hDc.weaken (fun _ _ _ _ => trivial), ci_nw hW hN⟩⟩ rfl rfl hl.1 rfl (lv_room (Nat.le_of_ble_eq_true rfl)) st_d4 ⟨Nat.le_of_ble_eq_true rfl, Nat.le_of_ble_eq_true rfl⟩) hS (fun q _ h => hFc q h) hFc (fun u t H1 locs ht hvm hw hB hz1 hk1 hS => ?_)
  obtain ⟨v1, v2, v3, v4, v5, v6, v7, v8, v9, v10, v11, v12, v13, v14, v15, v16, hP1, hK1, hD1⟩ := hB
  rw [ht] at hP1
  obtain ⟨hP, hD⟩ := va_join (wr := []) (w1 := [(v0, .inr (3, [.ref v1, .ref v3, .ref v5, .ref v9, .ref v13, .ref v14, .ref v15, .ref v16, .int (nI 0)])), (v1, .inr (1, [.ref v2])), (v2, .inl (g.1, 105, .inl (upd (upd (upd (upd (upd (upd (fun _ => 0) 0 (nI 1000)) 1 (nI 1000)) 2 (nI 1000)) 3 (nI 1000)) 4 (nI 1000)) 51 (nI 20)))), (v3, .inr (1, [.ref v4])), (v4, .inl (g.1, 105, .inl (fun _ => 0))), (v5, .inr (0, [.ref v6, .ref v8, .int (nI 0), .int (-nI 1), .int (-nI 1)])), (v6, .inr (1, [.ref v7])), (v7, .inl (g.1, 105, .inl (fun _ => 0))), (v8, .inl (g.1, 4235, .inl (fun _ => 0))), (v9, .inr (2, [.ref v10, .int (nI 0), .ref v11, .int (nI 0), .ref v12, .int (nI 0), .int (-nI 1)])), (v10, .inl (g.1, 60, .inl (fun _ => 0))), (v11, .inl (g.1, 40, .inl (fun _ => 0))), (v12, .inl (g.1, 5, .inl (fun _ => 0))), (v13, .inl (g.1, 5, .inl (fun _ => 0))), (v14, .inl (g.1, 210, .inl (fun _ => 0))), (v15, .inl (g.2.1, 2, .inl (fun _ => 0))), (v16, .inl (g.1, 630, .inl (fun _ => 0)))]) hP hD [0] [] rfl rfl (by decide) (by decide) hk1 hFc hP1 hD1
  generalize H1 = H at hP hS ⊢
  have hP : va_P D am_cls [(v0, .inr (3, [.ref v1, .ref v3, .ref v5, .ref v9, .ref v13, .ref v14, .ref v15, .ref v16, .int (nI 0)])), (v1, .inr (1, [.ref v2])), (v2, .inl (g.1, 105, .inl (upd (upd (upd (upd (upd (upd (fun _ => 0) 0 (nI 1000)) 1 (nI 1000)) 2 (nI 1000)) 3 (nI 1000)) 4 (nI 1000)) 51 (nI 20)))), (v3, .inr (1, [.ref v4])), (v4, .inl (g.1, 105, .inl (fun _ => 0))), (v5, .inr (0, [.ref v6, .ref v8, .int (nI 0), .int (-nI 1), .int (-nI 1)])), (v6, .inr (1, [.ref v7])), (v7, .inl (g.1, 105, .inl (fun _ => 0))), (v8, .inl (g.1, 4235, .inl (fun _ => 0))), (v9, .inr (2, [.ref v10, .int (nI 0), .ref v11, .int (nI 0), .ref v12, .int (nI 0), .int (-nI 1)])), (v10, .inl (g.1, 60, .inl (fun _ => 0))), (v11, .inl (g.1, 40, .inl (fun _ => 0))), (v12, .inl (g.1, 5, .inl (fun _ => 0))), (v13, .inl (g.1, 5, .inl (fun _ => 0))), (v14, .inl (g.1, 210, .inl (fun _ => 0))), (v15, .inl (g.2.1, 2, .inl (fun _ => 0))), (v16, .inl (g.1, 630, .inl (fun _ => 0)))] H := hP
  have hD : va_D (fun q : Nat => s.heap.size ≤ q) [(v0, .inr (3, [.ref v1, .ref v3, .ref v5, .ref v9, .ref v13, .ref v14, .ref v15, .ref v16, .int (nI 0)])), (v1, .inr (1, [.ref v2])), (v2, .inl (g.1, 105, .inl (upd (upd (upd (upd (upd (upd (fun _ => 0) 0 (nI 1000)) 1 (nI 1000)) 2 (nI 1000)) 3 (nI 1000)) 4 (nI 1000)) 51 (nI 20)))), (v3, .inr (1, [.ref v4])), (v4, .inl (g.1, 105, .inl (fun _ => 0))), (v5, .inr (0, [.ref v6, .ref v8, .int (nI 0), .int (-nI 1), .int (-nI 1)])), (v6, .inr (1, [.ref v7])), (v7, .inl (g.1, 105, .inl (fun _ => 0))), (v8, .inl (g.1, 4235, .inl (fun _ => 0))), (v9, .inr (2, [.ref v10, .int (nI 0), .ref v11, .int (nI 0), .ref v12, .int (nI 0), .int (-nI 1)])), (v10, .inl (g.1, 60, .inl (fun _ => 0))), (v11, .inl (g.1, 40, .inl (fun _ => 0))), (v12, .inl (g.1, 5, .inl (fun _ => 0))), (v13, .inl (g.1, 5, .inl (fun _ => 0))), (v14, .inl (g.1, 210, .inl (fun _ => 0))), (v15, .inl (g.2.1, 2, .inl (fun _ => 0))), (v16, .inl (g.1, 630, .inl (fun _ => 0)))] := hD
  refine W.widen (k := 17) (n := 5526) (by omega) (by omega) ?_
  refine lv_astore_n (lv' := [(1, .ref v0), (0, .ref b)]) hx hb st_d7 rfl hl (by decide) rfl (fun ls hl => ?_)
  refine va_new (ci := 4) (fs := [.int 0, .null, .null, .null, .int 0, .null, .null, .null, .int 0, .null, .int 0, .int 0, .null, .int 0, .int 0, .int 0, .int 0]) (C := am_Rn 4) (T := am_T 4) (N := am_nf 4) hx hb hg (am_hin (x := 4) (by decide)) (am_ty 4) (am_tyok (x := 4) (by decide)) hown (hg _ (am_good_of (k := 717) rfl rfl)) (hg _ (am_good_of (k := 718) rfl rfl)) (hg _ (am_good_of (k := 69) rfl rfl)) hK hP hD hS hA rfl (fun j hj => ci_def4 j hj) (Nat.le_of_ble_eq_true rfl) (Nat.le_of_ble_eq_true rfl) st_d8 (fun z0 H hP hD hS => ?_)
  have hP : va_P D am_cls [(v0, .inr (3, [.ref v1, .ref v3, .ref v5, .ref v9, .ref v13, .ref v14, .ref v15, .ref v16, .int (nI 0)])), (v1, .inr (1, [.ref v2])), (v2, .inl (g.1, 105, .inl (upd (upd (upd (upd (upd (upd (fun _ => 0) 0 (nI 1000)) 1 (nI 1000)) 2 (nI 1000)) 3 (nI 1000)) 4 (nI 1000)) 51 (nI 20)))), (v3, .inr (1, [.ref v4])), (v4, .inl (g.1, 105, .inl (fun _ => 0))), (v5, .inr (0, [.ref v6, .ref v8, .int (nI 0), .int (-nI 1), .int (-nI 1)])), (v6, .inr (1, [.ref v7])), (v7, .inl (g.1, 105, .inl (fun _ => 0))), (v8, .inl (g.1, 4235, .inl (fun _ => 0))), (v9, .inr (2, [.ref v10, .int (nI 0), .ref v11, .int (nI 0), .ref v12, .int (nI 0), .int (-nI 1)])), (v10, .inl (g.1, 60, .inl (fun _ => 0))), (v11, .inl (g.1, 40, .inl (fun _ => 0))), (v12, .inl (g.1, 5, .inl (fun _ => 0))), (v13, .inl (g.1, 5, .inl (fun _ => 0))), (v14, .inl (g.1, 210, .inl (fun _ => 0))), (v15, .inl (g.2.1, 2, .inl (fun _ => 0))), (v16, .inl (g.1, 630, .inl (fun _ => 0))), (z0, .inr (4, [.int 0, .null, .null, .null, .int 0, .null, .null, .null, .int 0, .null, .int 0, .int 0, .null, .int 0, .int 0, .int 0, .int 0]))] H := hP
  have hD : va_D (fun q : Nat => s.heap.size ≤ q) [(v0, .inr (3, [.ref v1, .ref v3, .ref v5, .ref v9, .ref v13, .ref v14, .ref v15, .ref v16, .int (nI 0)])), (v1, .inr (1, [.ref v2])), (v2, .inl (g.1, 105, .inl (upd (upd (upd (upd (upd (upd (fun _ => 0) 0 (nI 1000)) 1 (nI 1000)) 2 (nI 1000)) 3 (nI 1000)) 4 (nI 1000)) 51 (nI 20)))), (v3, .inr (1, [.ref v4])), (v4, .inl (g.1, 105, .inl (fun _ => 0))), (v5, .inr (0, [.ref v6, .ref v8, .int (nI 0), .int (-nI 1), .int (-nI 1)])), (v6, .inr (1, [.ref v7])), (v7, .inl (g.1, 105, .inl (fun _ => 0))), (v8, .inl (g.1, 4235, .inl (fun _ => 0))), (v9, .inr (2, [.ref v10, .int (nI 0), .ref v11, .int (nI 0), .ref v12, .int (nI 0), .int (-nI 1)])), (v10, .inl (g.1, 60, .inl (fun _ => 0))), (v11, .inl (g.1, 40, .inl (fun _ => 0))), (v12, .inl (g.1, 5, .inl (fun _ => 0))), (v13, .inl (g.1, 5, .inl (fun _ => 0))), (v14, .inl (g.1, 210, .inl (fun _ => 0))), (v15, .inl (g.2.1, 2, .inl (fun _ => 0))), (v16, .inl (g.1, 630, .inl (fun _ => 0))), (z0, .inr (4, [.int 0, .null, .null, .null, .int 0, .null, .null, .null, .int 0, .null, .int 0, .int 0, .null, .int 0, .int 0, .int 0, .int 0]))] := hD
  refine W.widen (k := 18) (n := 5543) (by show _ ≤ _; omega) (Nat.le_of_ble_eq_true rfl) ?_
  refine lv_dup hx hb st_d11 rfl ?_
  have hPc := hP.sub (ws' := [(z0, .inr (4, [.int 0, .null, .null, .null, .int 0, .null, .null, .null, .int 0, .null, .int 0, .int 0, .null, .int 0, .int 0, .int 0, .int 0]))]) [17] rfl
  have hDc := hD.sub (ws' := [(z0, .inr (4, [.int 0, .null, .null, .null, .int 0, .null, .null, .null, .int 0, .null, .int 0, .int 0, .null, .int 0, .int 0, .int 0, .int 0]))]) [17] (by decide) rfl
  have hFc := va_free (wc := [(z0, .inr (4, [.int 0, .null, .null, .null, .int 0, .null, .null, .null, .int 0, .null, .int 0, .int 0, .null, .int 0, .int 0, .int 0, .int 0]))]) hD hS hA [17] rfl
  refine va_callv (va_runI (As := []) (rest := [.ref z0]) (n := 0) ⟨hx, hb, hml, hown, hg⟩ (ci_Z l D g z0 H.size) ⟨callB_of (R := room_1) 0 hg (ch_gi (am_good_of (k := 721) rfl rfl)) rfl rfl rfl (hg _ (am_good_of (k := 69) rfl rfl)) (hg _ (am_good_of (k := 719) rfl rfl)) ⟨by decide, by decide, by decide +kernel⟩ ⟨by decide, by decide⟩, rfl, (hg _ (am_good_of (k := 720) rfl rfl))⟩ ⟨ci_blind _ _ _ _ _, fun U hU hW => ⟨rfl, by rw [hU], by rw [hU]; exact hPc, va_K.moved hW.alike hK, hDc.weaken (fun _ _ _ _ => trivial), ci_nw hW hN⟩⟩ rfl rfl hl.1 rfl (lv_room (Nat.le_of_ble_eq_true rfl)) st_d12 ⟨Nat.le_of_ble_eq_true rfl, Nat.le_of_ble_eq_true rfl⟩) hS (fun q _ h => hFc q h) hFc (fun u t H1 locs ht hvm hw hB hz1 hk1 hS => ?_)
  obtain ⟨z1, z2, z3, z4, z5, z6, z7, z8, hP1, hK1, hD1⟩ := hB
  rw [ht] at hP1
  obtain ⟨hP, hD⟩ := va_join (wr := [(v0, .inr (3, [.ref v1, .ref v3, .ref v5, .ref v9, .ref v13, .ref v14, .ref v15, .ref v16, .int (nI 0)])), (v1, .inr (1, [.ref v2])), (v2, .inl (g.1, 105, .inl (upd (upd (upd (upd (upd (upd (fun _ => 0) 0 (nI 1000)) 1 (nI 1000)) 2 (nI 1000)) 3 (nI 1000)) 4 (nI 1000)) 51 (nI 20)))), (v3, .inr (1, [.ref v4])), (v4, .inl (g.1, 105, .inl (fun _ => 0))), (v5, .inr (0, [.ref v6, .ref v8, .int (nI 0), .int (-nI 1), .int (-nI 1)])), (v6, .inr (1, [.ref v7])), (v7, .inl (g.1, 105, .inl (fun _ => 0))), (v8, .inl (g.1, 4235, .inl (fun _ => 0))), (v9, .inr (2, [.ref v10, .int (nI 0), .ref v11, .int (nI 0), .ref v12, .int (nI 0), .int (-nI 1)])), (v10, .inl (g.1, 60, .inl (fun _ => 0))), (v11, .inl (g.1, 40, .inl (fun _ => 0))), (v12, .inl (g.1, 5, .inl (fun _ => 0))), (v13, .inl (g.1, 5, .inl (fun _ => 0))), (v14, .inl (g.1, 210, .inl (fun _ => 0))), (v15, .inl (g.2.1, 2, .inl (fun _ => 0))), (v16, .inl (g.1, 630, .inl (fun _ => 0)))]) (w1 := [(z0, .inr (4, [.int 0, .ref z1, .ref z2, .ref z3, .int 0, .ref z4, .ref z5, .ref z6, .int 0, .ref z7, .int 0, .int 0, .ref z8, .int 0, .int 0, .int 0, .int 0])), (z1, .inl (g.1, 105, .inl (upd (upd (upd (upd (upd (upd (fun _ => 0) 1 (nI 20)) 17 (nI 1000)) 25 (nI 1000)) 33 (nI 1000)) 41 (nI 1000)) 49 (nI 1000)))), (z2, .inl (g.1, 105, .inl (fun _ => 0))), (z3, .inl (g.1, 630, .inl (fun _ => 0))), (z4, .inl (g.1, 210, .inl (fun _ => 0))), (z5, .inl (g.2.1, 2, .inl (fun _ => 0))), (z6, .inl (g.1, 60, .inl (fun _ => 0))), (z7, .inl (g.1, 2135, .inl (fun _ => 0))), (z8, .inl (g.1, 40, .inl (fun _ => 0)))]) hP hD [17] [0, 1, 2, 3, 4, 5, 6, 7, 8, 9, 10, 11, 12, 13, 14, 15, 16] rfl rfl (by decide) (by decide) hk1 hFc hP1 hD1
  generalize H1 = H at hP hS ⊢
  have hP : va_P D am_cls [(v0, .inr (3, [.ref v1, .ref v3, .ref v5, .ref v9, .ref v13, .ref v14, .ref v15, .ref v16, .int (nI 0)])), (v1, .inr (1, [.ref v2])), (v2, .inl (g.1, 105, .inl (upd (upd (upd (upd (upd (upd (fun _ => 0) 0 (nI 1000)) 1 (nI 1000)) 2 (nI 1000)) 3 (nI 1000)) 4 (nI 1000)) 51 (nI 20)))), (v3, .inr (1, [.ref v4])), (v4, .inl (g.1, 105, .inl (fun _ => 0))), (v5, .inr (0, [.ref v6, .ref v8, .int (nI 0), .int (-nI 1), .int (-nI 1)])), (v6, .inr (1, [.ref v7])), (v7, .inl (g.1, 105, .inl (fun _ => 0))), (v8, .inl (g.1, 4235, .inl (fun _ => 0))), (v9, .inr (2, [.ref v10, .int (nI 0), .ref v11, .int (nI 0), .ref v12, .int (nI 0), .int (-nI 1)])), (v10, .inl (g.1, 60, .inl (fun _ => 0))), (v11, .inl (g.1, 40, .inl (fun _ => 0))), (v12, .inl (g.1, 5, .inl (fun _ => 0))), (v13, .inl (g.1, 5, .inl (fun _ => 0))), (v14, .inl (g.1, 210, .inl (fun _ => 0))), (v15, .inl (g.2.1, 2, .inl (fun _ => 0))), (v16, .inl (g.1, 630, .inl (fun _ => 0))), (z0, .inr (4, [.int 0, .ref z1, .ref z2, .ref z3, .int 0, .ref z4, .ref z5, .ref z6, .int 0, .ref z7, .int 0, .int 0, .ref z8, .int 0, .int 0, .int 0, .int 0])), (z1, .inl (g.1, 105, .inl (upd (upd (upd (upd (upd (upd (fun _ => 0) 1 (nI 20)) 17 (nI 1000)) 25 (nI 1000)) 33 (nI 1000)) 41 (nI 1000)) 49 (nI 1000)))), (z2, .inl (g.1, 105, .inl (fun _ => 0))), (z3, .inl (g.1, 630, .inl (fun _ => 0))), (z4, .inl (g.1, 210, .inl (fun _ => 0))), (z5, .inl (g.2.1, 2, .inl (fun _ => 0))), (z6, .inl (g.1, 60, .inl (fun _ => 0))), (z7, .inl (g.1, 2135, .inl (fun _ => 0))), (z8, .inl (g.1, 40, .inl (fun _ => 0)))] H := hP
  have hD : va_D (fun q : Nat => s.heap.size ≤ q) [(v0, .inr (3, [.ref v1, .ref v3, .ref v5, .ref v9, .ref v13, .ref v14, .ref v15, .ref v16, .int (nI 0)])), (v1, .inr (1, [.ref v2])), (v2, .inl (g.1, 105, .inl (upd (upd (upd (upd (upd (upd (fun _ => 0) 0 (nI 1000)) 1 (nI 1000)) 2 (nI 1000)) 3 (nI 1000)) 4 (nI 1000)) 51 (nI 20)))), (v3, .inr (1, [.ref v4])), (v4, .inl (g.1, 105, .inl (fun _ => 0))), (v5, .inr (0, [.ref v6, .ref v8, .int (nI 0), .int (-nI 1), .int (-nI 1)])), (v6, .inr (1, [.ref v7])), (v7, .inl (g.1, 105, .inl (fun _ => 0))), (v8, .inl (g.1, 4235, .inl (fun _ => 0))), (v9, .inr (2, [.ref v10, .int (nI 0), .ref v11, .int (nI 0), .ref v12, .int (nI 0), .int (-nI 1)])), (v10, .inl (g.1, 60, .inl (fun _ => 0))), (v11, .inl (g.1, 40, .inl (fun _ => 0))), (v12, .inl (g.1, 5, .inl (fun _ => 0))), (v13, .inl (g.1, 5, .inl (fun _ => 0))), (v14, .inl (g.1, 210, .inl (fun _ => 0))), (v15, .inl (g.2.1, 2, .inl (fun _ => 0))), (v16, .inl (g.1, 630, .inl (fun _ => 0))), (z0, .inr (4, [.int 0, .ref z1, .ref z2, .ref z3, .int 0, .ref z4, .ref z5, .ref z6, .int 0, .ref z7, .int 0, .int 0, .ref z8, .int 0, .int 0, .int 0, .int 0])), (z1, .inl (g.1, 105, .inl (upd (upd (upd (upd (upd (upd (fun _ => 0) 1 (nI 20)) 17 (nI 1000)) 25 (nI 1000)) 33 (nI 1000)) 41 (nI 1000)) 49 (nI 1000)))), (z2, .inl (g.1, 105, .inl (fun _ => 0))), (z3, .inl (g.1, 630, .inl (fun _ => 0))), (z4, .inl (g.1, 210, .inl (fun _ => 0))), (z5, .inl (g.2.1, 2, .inl (fun _ => 0))), (z6, .inl (g.1, 60, .inl (fun _ => 0))), (z7, .inl (g.1, 2135, .inl (fun _ => 0))), (z8, .inl (g.1, 40, .inl (fun _ => 0)))] := hD
  refine W.widen (k := 26) (n := 8830) (by omega) (by omega) ?_
  refine lv_astore_n (lv' := [(2, .ref z0), (1, .ref v0), (0, .ref b)]) hx hb st_d15 rfl hl (by decide) rfl (fun ls hl => ?_)
  refine lv_iconst (v := nI 1) hx hb st_d16 (by decide +kernel) ?_
  refine nw_l (N' := 1) hx hb (hg _ (am_good_of (k := 1071) rfl rfl)) hK hP hD hS hA rfl (by decide) (Nat.le_of_ble_eq_true rfl) (Nat.le_of_ble_eq_true rfl) st_d17 (fun j0 H hP hD hS => ?_)
  refine W.widen (k := 27) (n := 8831) (by omega) (by omega) ?_
  refine lv_astore_n (lv' := [(3, .ref j0), (2, .ref z0), (1, .ref v0), (0, .ref b)]) hx hb st_d19 rfl hl (by decide) rfl (fun ls hl => ?_)
  refine lv_iconst (v := nI 0) hx hb st_d20 (by decide +kernel) ?_
  refine lv_istore (lv' := [(4, .int (nI 0)), (3, .ref j0), (2, .ref z0), (1, .ref v0), (0, .ref b)]) hx hb st_d21 hl (by decide) rfl (fun ls hl => ?_)
  have e64 : (fun _ : Nat => (0 : Int64)) = fun _ => (0 : Int32).toInt64 := funext fun _ => by decide +kernel
  rw [e64] at hP hD
  have hP : va_P D am_cls (am_w (st_a [v0, v1, v2, v3, v4, v5, v6, v7, v8, v9, v10, v11, v12, v13, v14, v15, v16, z0, z1, z2, z3, z4, z5, z6, z7, z8, j0, b, q28]) g st_M) H := by rw [st_wd]; exact hP
  have hD : va_D (fun q : Nat => s.heap.size ≤ q) (am_w (st_a [v0, v1, v2, v3, v4, v5, v6, v7, v8, v9, v10, v11, v12, v13, v14, v15, v16, z0, z1, z2, z3, z4, z5, z6, z7, z8, j0, b, q28]) g st_M) := by rw [st_wd]; exact hD
  refine l_loop (L := (L, xs)) (w := st_ws) (M := st_M) (Q := fun oc _ => oc = .inl (some (.int 1))) hL st_vr st_zr st_wk (fun _ => rfl) p l e room_1 s m _ below meth c (st_a [v0, v1, v2, v3, v4, v5, v6, v7, v8, v9, v10, v11, v12, v13, v14, v15, v16, z0, z1, z2, z3, z4, z5, z6, z7, z8, j0, b, q28]) D g (fun q : Nat => s.heap.size ≤ q) 27 8831 QQ ⟨hx, hb, hml, hown, hg, hlocks, hst, htab, hr, Nat.le_of_ble_eq_true rfl, Nat.le_of_ble_eq_true rfl⟩ ⟨hK, fun M' => am_D_any hD M', hA, hSF, fun _ => ⟨hbl, Nat.not_le.mpr hbl⟩⟩ (Nat.le_of_ble_eq_true rfl) (Nat.le_of_ble_eq_true rfl) ?_ H locs ls ⟨hP, hS, fun _ => hX⟩ ⟨hl.1, hl.2.1, rfl, ?_⟩
  · intro k hk1 _
    refine ⟨fun v M' H1 locs1 pc la i hQ hW hri hd hla => ?_, fun E M' H1 locs1 pc la rest q ce hQ => ?_, fun x M' H1 locs1 pc la rest ik ii ic hQ => ?_⟩
    · cases hQ
      obtain ⟨rfl, -⟩ := hri
      exact W.widen (k := 1065) (n := 17107) (by omega) (by omega) (hend pc H1 locs1 la hd hW.2.1.2.2)
    · cases hQ
    · cases hQ
  · intro i v hi hv
    match i, hi with
    | 0, hi => cases hi; exact lv_at hl 4 rfl
    | 1, hi => cases hi; exact lv_at hl 3 rfl
    | 2, hi => cases hi; exact lv_at hl 2 rfl
    | 3, hi => cases hi; exact lv_at hl 1 rfl
    | 4, hi => cases hi; exact lv_at hl 0 rfl
    | 5, hi => cases hi; exact absurd rfl hv
    | 6, hi => cases hi; exact absurd rfl hv
    | 7, hi => cases hi; exact absurd rfl hv
    | 8, hi => cases hi; exact absurd rfl hv
    | n + 9, hi => cases hi
