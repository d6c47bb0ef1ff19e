/-! the law up to its loop -/
def st_M (o : Nat) : Nat → Int32 := match o with
  | 0 => fun k => ([0, 0, 0, 0, 0, 0, 0, 0, (nI 0)] : List Int32).getD k 0
  | 1 => fun k => ([0] : List Int32).getD k 0
  | 2 => upd (upd (upd (upd (upd (upd (fun _ => 0) 0 (nI 1000)) 1 (nI 1000)) 2 (nI 1000)) 3 (nI 1000)) 4 (nI 1000)) 51 (nI 20)
  | 3 => fun k => ([0] : List Int32).getD k 0
  | 4 => fun _ => 0
  | 5 => fun k => ([0, 0, (nI 0), (-nI 1), (-nI 1)] : List Int32).getD k 0
  | 6 => fun k => ([0] : List Int32).getD k 0
  | 7 => fun _ => 0
  | 8 => fun _ => 0
  | 9 => fun k => ([0, (nI 0), 0, (nI 0), 0, (nI 0), (-nI 1)] : List Int32).getD k 0
  | 10 => fun _ => 0
  | 11 => fun _ => 0
  | 12 => fun _ => 0
  | 13 => fun _ => 0
  | 14 => fun _ => 0
  | 15 => fun _ => 0
  | 16 => fun _ => 0
  | _ => fun _ => 0
def st_a (l : List Nat) (o : Nat) : Nat := l.getD o 0
set_option maxRecDepth 100000 in
theorem st_wd (g : ClassId × ClassId × Nat) (hg : g.2.2 = 0) (v0 v1 v2 v3 v4 v5 v6 v7 v8 v9 v10 v11 v12 v13 v14 v15 v16 b : Nat) : am_w (st_a [v0, v1, v2, v3, v4, v5, v6, v7, v8, v9, v10, v11, v12, v13, v14, v15, v16, 0, 0, 0, 0, 0, 0, 0, 0, 0, 0, b]) g st_M = [(v0, .inr (3, [.ref v1, .ref v3, .ref v5, .ref v9, .ref v13, .ref v14, .ref v15, .ref v16, .int (nI 0)])), (v1, .inr (1, [.ref v2])), (v2, .inl (g.1, 105, .inl (upd (upd (upd (upd (upd (upd (fun _ => 0) 0 (nI 1000)) 1 (nI 1000)) 2 (nI 1000)) 3 (nI 1000)) 4 (nI 1000)) 51 (nI 20)))), (v3, .inr (1, [.ref v4])), (v4, .inl (g.1, 105, .inl (fun _ => 0))), (v5, .inr (0, [.ref v6, .ref v8, .int (nI 0), .int (-nI 1), .int (-nI 1)])), (v6, .inr (1, [.ref v7])), (v7, .inl (g.1, 105, .inl (fun _ => 0))), (v8, .inl (g.1, 4235, .inl (fun _ => 0))), (v9, .inr (2, [.ref v10, .int (nI 0), .ref v11, .int (nI 0), .ref v12, .int (nI 0), .int (-nI 1)])), (v10, .inl (g.1, 60, .inl (fun _ => 0))), (v11, .inl (g.1, 40, .inl (fun _ => 0))), (v12, .inl (g.1, 5, .inl (fun _ => 0))), (v13, .inl (g.1, 5, .inl (fun _ => 0))), (v14, .inl (g.1, 210, .inl (fun _ => 0))), (v15, .inl (g.2.1, 2, .inl (fun _ => 0))), (v16, .inl (g.1, 630, .inl (fun _ => 0)))] := by
  unfold am_w
  rw [hg]
  rfl
theorem st_2 : st_M 2 = zp st_z := by
  show upd (upd (upd (upd (upd (upd (zp (fun _ => 0)) 0 (nI 1000)) 1 (nI 1000)) 2 (nI 1000)) 3 (nI 1000)) 4 (nI 1000)) 51 (nI 20) = _
  rw [zp_upd, zp_upd, zp_upd, zp_upd, zp_upd, zp_upd]
  rfl
theorem st_vr : vr st_M st_ws := ⟨st_2, ⟨rfl, by decide⟩, fun j h => absurd h (Nat.not_lt_zero j), fun j _ => rfl, fun j _ h => absurd h Bool.false_ne_true, ⟨rfl, by decide⟩, fun k h => absurd h (Nat.not_lt_zero k)⟩
theorem st_d0 : decode code 0 = .ok (.new 10, 3) := by decide +kernel
theorem st_d3 : decode code 3 = .ok (.dup, 1) := by decide +kernel
theorem st_d4 : decode code 4 = .ok (.invokespecial 146, 3) := by decide +kernel
theorem st_d7 : decode code 7 = .ok (.astore_n 1, 1) := by decide +kernel
set_option maxHeartbeats 8000000 in
set_option maxRecDepth 200000 in
theorem st_law {p : Program} {e : Env} {s : State} {m : MethodId} {below : List Frame} {meth : Method} {c : Code} (l : Launch) (hst : l.stackTraces = false) {b L : Nat} {xs : Nat → Int32} (hL : L ≤ 260) (hx : p.tables.exec = Jvm.exec) (hb : c.code = code) (hr : meth.sig.returnType = ret) (hml : c.maxLocals = 8) (hown : s.vm.findClass "DyeVatsLaw" = some m.cls) (hts : ∀ w ∈ lw_tbl, w.before #[Value.ref b] s = true) (hX : va_X b L xs s s.heap) (hbl : b < s.heap.size) (hlocks : meth.locks = false) (htab : c.exceptionTable.toList = tableOf []) (hgv : (Jvm.Cond.and given_1 narrow_1).before #[Value.ref b] s = true) {QQ : State → Prop}
    (hend : ∀ (pc : Nat) (H : Heap) (locs : List Loc) (ls : Array Slot), decode code pc = .ok (.ireturn, 1) → (∀ q ∈ locs, s.heap.size ≤ q.base) → W p l e room_1 s m #[Value.ref b] below meth c H locs 600086 7301442 QQ (F0 m pc ls [.int 1])) :
    W p l e room_1 s m #[Value.ref b] below meth c s.heap [] 0 0 QQ (entryFrame m ([Value.ref b] : List Value).toArray 8) := by
  have hA : ∀ q : Nat, s.heap.size ≤ q → (fun q : Nat => s.heap.size ≤ q) q := fun _ h => h
  have hg : ∀ w ∈ am_good, w.before #[Value.ref b] s = true := fun w h => hts w (List.mem_filter.mp h).1
  have hSF := st_SF hts hgv
  obtain ⟨D, g, hg0, hK⟩ := st_K hts
  have hN : ci_n s := ⟨va_Nw.of rfl (A := #[Value.ref b]) (st_w hts (k := 39) rfl), va_Nw.of rfl (A := #[Value.ref b]) (st_w hts (k := 52) rfl), va_Nw.of rfl (A := #[Value.ref b]) (st_w hts (k := 78) rfl), va_Nw.of rfl (A := #[Value.ref b]) (st_w hts (k := 57) rfl)⟩
  have hS : va_S (fun q : Nat => s.heap.size ≤ q) s.heap s.heap [] := va_S.rf
  have hP : va_P D am_cls [] s.heap := fun k q h => by simp at h
  have hD : va_D (fun q : Nat => s.heap.size ≤ q) [] := ⟨fun i j p q h => by simp at h, fun k q h => by simp at h⟩
  have hl := lv_entry ([.ref b]) (n := 8) (Nat.le_of_ble_eq_true rfl)
  rw [lg_entry_eq]
  generalize (lg_sl ([.ref b]) ++ List.replicate (8 - (lg_sl ([.ref b])).length) Slot.unset).toArray = ls at hl ⊢
  have hl : lv_has ls 8 [(0, .ref b)] := hl
  refine va_new (ci := 3) (fs := [.null, .null, .null, .null, .null, .null, .null, .null, .int 0]) (C := am_Rn 3) (T := am_T 3) (N := am_nf 3) hx hb hg (am_hin (x := 3) (by decide)) (am_ty 3) (am_tyok (x := 3) (by decide)) hown (hg _ (am_good_of (k := 29) rfl rfl)) (hg _ (am_good_of (k := 30) rfl rfl)) (hg _ (am_good_of (k := 16) rfl rfl)) hK hP hD hS hA rfl (fun j hj => ci_def3 j hj) (Nat.le_of_ble_eq_true rfl) (Nat.le_of_ble_eq_true rfl) st_d0 (fun v0 H hP hD hS => ?_)
  have hP : va_P D am_cls [(v0, .inr (3, [.null, .null, .null, .null, .null, .null, .null, .null, .int 0]))] H := hP
  have hD : va_D (fun q : Nat => s.heap.size ≤ q) [(v0, .inr (3, [.null, .null, .null, .null, .null, .null, .null, .null, .int 0]))] := hD
  refine W.widen (k := 1) (n := 9) (by show _ ≤ _; omega) (Nat.le_of_ble_eq_true rfl) ?_
  refine lv_dup hx hb st_d3 rfl ?_
  have hPc := hP.sub (ws' := [(v0, .inr (3, [.null, .null, .null, .null, .null, .null, .null, .null, .int 0]))]) [0] rfl
  have hDc := hD.sub (ws' := [(v0, .inr (3, [.null, .null, .null, .null, .null, .null, .null, .null, .int 0]))]) [0] (by decide) rfl
  have hFc := va_free (wc := [(v0, .inr (3, [.null, .null, .null, .null, .null, .null, .null, .null, .int 0]))]) hD hS hA [0] rfl
  refine va_callv (va_runI (As := []) (rest := [.ref v0]) (n := 0) ⟨hx, hb, hml, hown, hg⟩ (ci_V l D g v0 H.size) ⟨callB_of (R := room_1) 0 hg (ch_gi (am_good_of (k := 33) rfl rfl)) rfl rfl rfl (hg _ (am_good_of (k := 16) rfl rfl)) (hg _ (am_good_of (k := 31) rfl rfl)) ⟨by decide, by decide, by decide +kernel⟩ ⟨by decide, by decide⟩, rfl, (hg _ (am_good_of (k := 32) rfl rfl))⟩ ⟨ci_blind _ _ _ _ _, fun U hU hW => ⟨rfl, by rw [hU], by rw [hU]; exact hPc, va_K.moved hW.alike hK, hDc.weaken (fun _ _ _ _ => trivial), ci_nw hW hN⟩⟩ rfl rfl hl.1 rfl (lv_room (Nat.le_of_ble_eq_true rfl)) st_d4 ⟨Nat.le_of_ble_eq_true rfl, Nat.le_of_ble_eq_true rfl⟩) hS (fun q _ h => hFc q h) hFc (fun u t H1 locs ht hvm hw hB hz1 hk1 hS => ?_)
  obtain ⟨v1, v2, v3, v4, v5, v6, v7, v8, v9, v10, v11, v12, v13, v14, v15, v16, hP1, hK1, hD1⟩ := hB
  rw [ht] at hP1
  obtain ⟨hP, hD⟩ := va_join (wr := []) (w1 := [(v0, .inr (3, [.ref v1, .ref v3, .ref v5, .ref v9, .ref v13, .ref v14, .ref v15, .ref v16, .int (nI 0)])), (v1, .inr (1, [.ref v2])), (v2, .inl (g.1, 105, .inl (upd (upd (upd (upd (upd (upd (fun _ => 0) 0 (nI 1000)) 1 (nI 1000)) 2 (nI 1000)) 3 (nI 1000)) 4 (nI 1000)) 51 (nI 20)))), (v3, .inr (1, [.ref v4])), (v4, .inl (g.1, 105, .inl (fun _ => 0))), (v5, .inr (0, [.ref v6, .ref v8, .int (nI 0), .int (-nI 1), .int (-nI 1)])), (v6, .inr (1, [.ref v7])), (v7, .inl (g.1, 105, .inl (fun _ => 0))), (v8, .inl (g.1, 4235, .inl (fun _ => 0))), (v9, .inr (2, [.ref v10, .int (nI 0), .ref v11, .int (nI 0), .ref v12, .int (nI 0), .int (-nI 1)])), (v10, .inl (g.1, 60, .inl (fun _ => 0))), (v11, .inl (g.1, 40, .inl (fun _ => 0))), (v12, .inl (g.1, 5, .inl (fun _ => 0))), (v13, .inl (g.1, 5, .inl (fun _ => 0))), (v14, .inl (g.1, 210, .inl (fun _ => 0))), (v15, .inl (g.2.1, 2, .inl (fun _ => 0))), (v16, .inl (g.1, 630, .inl (fun _ => 0)))]) hP hD [0] [] rfl rfl (by decide) (by decide) hk1 hFc hP1 hD1
  generalize H1 = H at hP hS ⊢
  have hP : va_P D am_cls [(v0, .inr (3, [.ref v1, .ref v3, .ref v5, .ref v9, .ref v13, .ref v14, .ref v15, .ref v16, .int (nI 0)])), (v1, .inr (1, [.ref v2])), (v2, .inl (g.1, 105, .inl (upd (upd (upd (upd (upd (upd (fun _ => 0) 0 (nI 1000)) 1 (nI 1000)) 2 (nI 1000)) 3 (nI 1000)) 4 (nI 1000)) 51 (nI 20)))), (v3, .inr (1, [.ref v4])), (v4, .inl (g.1, 105, .inl (fun _ => 0))), (v5, .inr (0, [.ref v6, .ref v8, .int (nI 0), .int (-nI 1), .int (-nI 1)])), (v6, .inr (1, [.ref v7])), (v7, .inl (g.1, 105, .inl (fun _ => 0))), (v8, .inl (g.1, 4235, .inl (fun _ => 0))), (v9, .inr (2, [.ref v10, .int (nI 0), .ref v11, .int (nI 0), .ref v12, .int (nI 0), .int (-nI 1)])), (v10, .inl (g.1, 60, .inl (fun _ => 0))), (v11, .inl (g.1, 40, .inl (fun _ => 0))), (v12, .inl (g.1, 5, .inl (fun _ => 0))), (v13, .inl (g.1, 5, .inl (fun _ => 0))), (v14, .inl (g.1, 210, .inl (fun _ => 0))), (v15, .inl (g.2.1, 2, .inl (fun _ => 0))), (v16, .inl (g.1, 630, .inl (fun _ => 0)))] H := hP
  have hD : va_D (fun q : Nat => s.heap.size ≤ q) [(v0, .inr (3, [.ref v1, .ref v3, .ref v5, .ref v9, .ref v13, .ref v14, .ref v15, .ref v16, .int (nI 0)])), (v1, .inr (1, [.ref v2])), (v2, .inl (g.1, 105, .inl (upd (upd (upd (upd (upd (upd (fun _ => 0) 0 (nI 1000)) 1 (nI 1000)) 2 (nI 1000)) 3 (nI 1000)) 4 (nI 1000)) 51 (nI 20)))), (v3, .inr (1, [.ref v4])), (v4, .inl (g.1, 105, .inl (fun _ => 0))), (v5, .inr (0, [.ref v6, .ref v8, .int (nI 0), .int (-nI 1), .int (-nI 1)])), (v6, .inr (1, [.ref v7])), (v7, .inl (g.1, 105, .inl (fun _ => 0))), (v8, .inl (g.1, 4235, .inl (fun _ => 0))), (v9, .inr (2, [.ref v10, .int (nI 0), .ref v11, .int (nI 0), .ref v12, .int (nI 0), .int (-nI 1)])), (v10, .inl (g.1, 60, .inl (fun _ => 0))), (v11, .inl (g.1, 40, .inl (fun _ => 0))), (v12, .inl (g.1, 5, .inl (fun _ => 0))), (v13, .inl (g.1, 5, .inl (fun _ => 0))), (v14, .inl (g.1, 210, .inl (fun _ => 0))), (v15, .inl (g.2.1, 2, .inl (fun _ => 0))), (v16, .inl (g.1, 630, .inl (fun _ => 0)))] := hD
  refine W.widen (k := 17) (n := 5526) (by omega) (by omega) ?_
  refine lv_astore_n (lv' := [(1, .ref v0), (0, .ref b)]) hx hb st_d7 rfl hl (by decide) rfl (fun ls hl => ?_)
  have hP : va_P D am_cls (am_w (st_a [v0, v1, v2, v3, v4, v5, v6, v7, v8, v9, v10, v11, v12, v13, v14, v15, v16, 0, 0, 0, 0, 0, 0, 0, 0, 0, 0, b]) g st_M) H := by rw [st_wd _ hg0]; exact hP
  have hD : va_D (fun q : Nat => s.heap.size ≤ q) (am_w (st_a [v0, v1, v2, v3, v4, v5, v6, v7, v8, v9, v10, v11, v12, v13, v14, v15, v16, 0, 0, 0, 0, 0, 0, 0, 0, 0, 0, b]) g st_M) := by rw [st_wd _ hg0]; exact hD
  refine l_law (Ln := L) (xs := xs) (f := st_M 17) (M := st_M) (K := fun oc _ => oc = .inl (some (.int (nI 1)))) (by omega) ⟨st_vr, rfl⟩ (fun _ => rfl) p l e room_1 s m _ below meth c (st_a [v0, v1, v2, v3, v4, v5, v6, v7, v8, v9, v10, v11, v12, v13, v14, v15, v16, 0, 0, 0, 0, 0, 0, 0, 0, 0, 0, b]) D g (fun q : Nat => s.heap.size ≤ q) 17 5526 QQ ⟨hx, hb, hml, hown, hg, hlocks, hst, htab, hr, Nat.le_of_ble_eq_true rfl, Nat.le_of_ble_eq_true rfl⟩ ⟨hK, fun M' => am_D_any hD M', hA, hSF, fun _ => ⟨hbl, Nat.not_le.mpr hbl⟩, fun _ => hg0⟩ (Nat.le_of_ble_eq_true rfl) (Nat.le_of_ble_eq_true rfl) ?_ H locs ls ⟨hP, hS, fun _ => hX⟩ ⟨hl.1, hl.2.1, rfl, ?_⟩
  · intro k hk1 _
    refine ⟨fun v M' H1 locs1 pc la i hQ hW hri hd hla => ?_, fun E M' H1 locs1 pc la rest q ce hQ => ?_, fun x M' H1 locs1 pc la rest ik ii ic hQ => ?_⟩
    · cases hQ
      obtain ⟨rfl, -⟩ := hri
      exact W.widen (k := 600086) (n := 7301442) (by omega) (by omega) (hend pc H1 locs1 la hd hW.2.1.2.2)
    · cases hQ
    · cases hQ
  · intro i v hi hv
    match i, hi with
    | 0, hi => cases hi; exact lv_at hl 1 rfl
    | 1, hi => cases hi; exact lv_at hl 0 rfl
    | 2, hi => cases hi; exact absurd rfl hv
    | 3, hi => cases hi; exact absurd rfl hv
    | 4, hi => cases hi; exact absurd rfl hv
    | 5, hi => cases hi; exact absurd rfl hv
    | 6, hi => cases hi; exact absurd rfl hv
    | 7, hi => cases hi; exact absurd rfl hv
    | n + 8, hi => cases hi
