/-! what holds at the entry of the law -/
theorem st_w {s : State} {b k : Nat} (hts : ∀ w ∈ lw_tbl, w.before #[Value.ref b] s = true) {w : Jvm.Cond} (h : lw_tbl[k]? = some w) : w.before #[Value.ref b] s = true := hts _ (List.mem_of_getElem? h)
theorem st_tx {s : State} {b k : Nat} {tx : String} (h1 : (Cond.stringRef RX3 k tx).before #[Value.ref b] s = true) (h2 : (Cond.exactly (.string RX3 k) "java/lang/String").before #[Value.ref b] s = true) : ∃ sa : Nat, vk_R RX3 k tx sa s := by
  obtain ⟨a, c, cell, kk, q1, -⟩ := Cond.exactly_spec h2
  exact ⟨a, vk_R.of h1 q1⟩
set_option maxRecDepth 100000 in
theorem st_txs {s : State} {b : Nat} (hts : ∀ w ∈ lw_tbl, w.before #[Value.ref b] s = true) (hgv : (Jvm.Cond.and given_1 narrow_1).before #[Value.ref b] s = true) : ∀ t ∈ am_tx, ∃ sa : Nat, vk_R RX3 t.1 t.2 sa s := by
  have hs := flat_of_before _ hgv
  exact List.forall_mem_cons.mpr ⟨st_tx (st_w hts (k := 452) rfl) (hs _ (by decide +kernel)), List.forall_mem_cons.mpr ⟨st_tx (st_w hts (k := 481) rfl) (hs _ (by decide +kernel)), List.forall_mem_cons.mpr ⟨st_tx (st_w hts (k := 482) rfl) (hs _ (by decide +kernel)), List.forall_mem_cons.mpr ⟨st_tx (st_w hts (k := 497) rfl) (hs _ (by decide +kernel)), List.forall_mem_cons.mpr ⟨st_tx (st_w hts (k := 512) rfl) (hs _ (by decide +kernel)), List.forall_mem_cons.mpr ⟨st_tx (st_w hts (k := 337) rfl) (hs _ (by decide +kernel)), List.forall_mem_cons.mpr ⟨st_tx (st_w hts (k := 357) rfl) (hs _ (by decide +kernel)), List.forall_mem_cons.mpr ⟨st_tx (st_w hts (k := 181) rfl) (hs _ (by decide +kernel)), List.forall_mem_cons.mpr ⟨st_tx (st_w hts (k := 416) rfl) (hs _ (by decide +kernel)), List.forall_mem_cons.mpr ⟨st_tx (st_w hts (k := 403) rfl) (hs _ (by decide +kernel)), List.forall_mem_cons.mpr ⟨st_tx (st_w hts (k := 273) rfl) (hs _ (by decide +kernel)), fun _ h => absurd h List.not_mem_nil⟩⟩⟩⟩⟩⟩⟩⟩⟩⟩⟩
set_option maxRecDepth 100000 in
theorem st_Nc {s : State} {b : Nat} (hgv : (Jvm.Cond.and given_1 narrow_1).before #[Value.ref b] s = true) (i j : Nat) (h : am_ex i ≠ am_ex j) : va_Nc (am_ex i) (am_ex j) s := by
  have hs := flat_of_before _ hgv
  match i, j, h with
  | 0, 0, h => exact absurd rfl h
  | 0, 1, h => show va_Nc "java/lang/IndexOutOfBoundsException" "java/lang/IllegalArgumentException" s; exact va_Nc.of (args := #[Value.ref b]) (hs _ (by decide +kernel))
  | 0, n2 + 2, h => show va_Nc "java/lang/IndexOutOfBoundsException" "java/lang/IllegalStateException" s; exact va_Nc.of (args := #[Value.ref b]) (hs _ (by decide +kernel))
  | 1, 0, h => show va_Nc "java/lang/IllegalArgumentException" "java/lang/IndexOutOfBoundsException" s; exact va_Nc.of (args := #[Value.ref b]) (hs _ (by decide +kernel))
  | 1, 1, h => exact absurd rfl h
  | 1, n2 + 2, h => show va_Nc "java/lang/IllegalArgumentException" "java/lang/IllegalStateException" s; exact va_Nc.of (args := #[Value.ref b]) (hs _ (by decide +kernel))
  | n + 2, 0, h => show va_Nc "java/lang/IllegalStateException" "java/lang/IndexOutOfBoundsException" s; exact va_Nc.of (args := #[Value.ref b]) (hs _ (by decide +kernel))
  | n + 2, 1, h => show va_Nc "java/lang/IllegalStateException" "java/lang/IllegalArgumentException" s; exact va_Nc.of (args := #[Value.ref b]) (hs _ (by decide +kernel))
  | n + 2, n2 + 2, h => exact absurd rfl h
set_option maxRecDepth 100000 in
theorem st_SF {s : State} {b : Nat} (hts : ∀ w ∈ lw_tbl, w.before #[Value.ref b] s = true) (hgv : (Jvm.Cond.and given_1 narrow_1).before #[Value.ref b] s = true) : am_SF (fun q : Nat => s.heap.size ≤ q) s s.heap := by
  have hs := flat_of_before _ hgv
  have hA : ∀ a : Nat, a < s.heap.size → ¬ (fun q : Nat => s.heap.size ≤ q) a := fun a h => Nat.not_le.mpr h
  refine ⟨vx_Zqof (st_w hts (k := 167) rfl) (st_w hts (k := 20) rfl) (hs _ (by decide +kernel)) hA, vx_Zqof (st_w hts (k := 169) rfl) (st_w hts (k := 20) rfl) (hs _ (by decide +kernel)) hA, st_txs hts hgv, st_Nc hgv, fun i => ?_, ?_⟩
  · match i with
    | 0 => show va_Nw (.castable "java/lang/IndexOutOfBoundsException" "java/lang/IndexOutOfBoundsException") s; exact va_Nw.of rfl (A := #[Value.ref b]) (st_w hts (k := 142) rfl)
    | 1 => show va_Nw (.castable "java/lang/IllegalArgumentException" "java/lang/IllegalArgumentException") s; exact va_Nw.of rfl (A := #[Value.ref b]) (st_w hts (k := 266) rfl)
    | _ + 2 => show va_Nw (.castable "java/lang/IllegalStateException" "java/lang/IllegalStateException") s; exact va_Nw.of rfl (A := #[Value.ref b]) (st_w hts (k := 330) rfl)
  · exact List.forall_mem_cons.mpr ⟨va_Nw.of rfl (A := #[Value.ref b]) (st_w hts (k := 144) rfl), List.forall_mem_cons.mpr ⟨va_Nw.of rfl (A := #[Value.ref b]) (st_w hts (k := 146) rfl), List.forall_mem_cons.mpr ⟨va_Nw.of rfl (A := #[Value.ref b]) (st_w hts (k := 148) rfl), fun _ h => absurd h List.not_mem_nil⟩⟩⟩
set_option maxRecDepth 100000 in
theorem st_K {s : State} {b : Nat} (hts : ∀ w ∈ lw_tbl, w.before #[Value.ref b] s = true) : ∃ (D : va_G) (g : ClassId × ClassId × Nat), g.2.2 = 0 ∧ va_K D am_cls (am_tys g) s := by
  have hg : ∀ w ∈ am_good, w.before #[Value.ref b] s = true := fun w h => hts w (List.mem_filter.mp h).1
  obtain ⟨c0, i0, k0⟩ := u_known (C := RX0) (T := TX0) (N := 5) (n := 5) hg am_hinX0 (st_w hts (k := 51) rfl)
  obtain ⟨c1, i1, k1⟩ := u_known (C := RX1) (T := TX1) (N := 1) (n := 1) hg am_hinX1 (st_w hts (k := 38) rfl)
  obtain ⟨c2, i2, k2⟩ := u_known (C := RX2) (T := TX2) (N := 7) (n := 7) hg am_hinX2 (st_w hts (k := 77) rfl)
  obtain ⟨c3, i3, k3⟩ := u_known (C := RX3) (T := TX3) (N := 9) (n := 9) hg am_hinX3 (st_w hts (k := 30) rfl)
  obtain ⟨a0, ka0, co0, e0, f0, h0⟩ := Cond.arrayClass_spec (type := .int) (args := #[Value.ref b]) (first := s) (o := none) (s := s) (idx := []) (st_w hts (k := 49) rfl)
  obtain ⟨a1, ka1, co1, e1, f1, h1⟩ := Cond.arrayClass_spec (type := .boolean) (args := #[Value.ref b]) (first := s) (o := none) (s := s) (idx := []) (st_w hts (k := 132) rfl)
  refine ⟨(fun k => match k with | 0 => c0 | 1 => c1 | 2 => c2 | _ => c3, fun k => match k with | 0 => i0 | 1 => i1 | 2 => i2 | _ => i3), (a0, a1, 0), rfl, fun k q hq => ?_, fun k q hq => ?_⟩
  · match k, hq with
    | 0, hq => cases hq; exact k0
    | 1, hq => cases hq; exact k1
    | 2, hq => cases hq; exact k2
    | 3, hq => cases hq; exact k3
    | n + 4, hq => cases hq
  · match k, hq with
    | 0, hq => cases hq; exact ⟨fun n z => ⟨fun k h => (by cases h), ka0, f0, co0, h0⟩, e0⟩
    | 1, hq => cases hq; exact ⟨fun n z => ⟨fun k h => (by cases h), ka1, f1, co1, h1⟩, e1⟩
    | n + 2, hq => cases hq
