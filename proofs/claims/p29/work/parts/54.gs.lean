/-! goneShare -/
theorem fp_n64 {a b : Int32} (ha : 0 ≤ a.toInt) (hab : a.toInt ≤ b.toInt) (hb : 0 < b.toInt) (hb2 : b.toInt ≤ 299997) : vf_n64 (FP.ddiv (FP.i2d a) (FP.i2d b)) := n64_of (f_share_nan ha hab hb hb2)
def zgone (z : dz) : Int32 := z 14 + z 15 + z 16
def zput3 (z : dz) : Int32 := z 11 + z 12 + z 13
def zshare (z : dz) : UInt64 := if zput3 z = 0 then 0 else FP.ddiv (FP.i2d (zgone z)) (FP.i2d (zput3 z))
theorem zacc_out {z : dz} (h : zok z) {d : Nat} (hd : d < 3) : 0 ≤ (z (14 + d)).toInt ∧ (z (14 + d)).toInt ≤ (z (11 + d)).toInt ∧ (z (11 + d)).toInt ≤ 99999 := by
  obtain ⟨a1, a2, a3⟩ := h.2.2.1 d hd
  have k0 := h.2.1 0 d (by decide) hd
  have k1 := h.2.1 1 d (by decide) hd
  have k2 := h.2.1 2 d (by decide) hd
  have k3 := h.2.1 3 d (by decide) hd
  have k4 := h.2.1 4 d (by decide) hd
  rw [show 19 + 8 * 0 + d = 19 + d by omega, show 22 + 8 * 0 + d = 22 + d by omega] at k0
  rw [show 19 + 8 * 1 + d = 27 + d by omega, show 22 + 8 * 1 + d = 30 + d by omega] at k1
  rw [show 19 + 8 * 2 + d = 35 + d by omega, show 22 + 8 * 2 + d = 38 + d by omega] at k2
  rw [show 19 + 8 * 3 + d = 43 + d by omega, show 22 + 8 * 3 + d = 46 + d by omega] at k3
  rw [show 19 + 8 * 4 + d = 51 + d by omega, show 22 + 8 * 4 + d = 54 + d by omega] at k4
  unfold zall at a2
  omega
theorem zshare_ti {z : dz} (h : zok z) : (zgone z).toInt = (z 14).toInt + (z 15).toInt + (z 16).toInt ∧ (zput3 z).toInt = (z 11).toInt + (z 12).toInt + (z 13).toInt ∧ 0 ≤ (zgone z).toInt ∧ (zgone z).toInt ≤ (zput3 z).toInt ∧ (zput3 z).toInt ≤ 299997 := by
  have h0 := zacc_out h (show 0 < 3 by decide)
  have h1 := zacc_out h (show 1 < 3 by decide)
  have h2 := zacc_out h (show 2 < 3 by decide)
  simp only [Nat.reduceAdd] at h0 h1 h2
  have e1 := ti_add (a := z 14) (b := z 15) (by omega) (by omega)
  have e2 := ti_add (a := z 14 + z 15) (b := z 16) (by omega) (by omega)
  have e3 := ti_add (a := z 11) (b := z 12) (by omega) (by omega)
  have e4 := ti_add (a := z 11 + z 12) (b := z 13) (by omega) (by omega)
  unfold zgone zput3
  omega
theorem c_V_goneShare {z : dz} {M : am_M} {K : am_Q} (hM : M 2 = zp z) (hz : zok z) (h : K (.inl (some (.double (zshare z)))) M) : am_C mt_V_goneShare [.ref 0] M K := by
  obtain ⟨-, -, t1, t2, t3⟩ := zshare_ti hz
  have s1 : zsum (fun d => z (11 + d)) 3 = zput3 z := by
    show nI 0 + z 11 + z 12 + z 13 = z 11 + z 12 + z 13
    rw [show nI 0 + z 11 = z 11 from Int32.zero_add _]
  have s2 : zsum (fun d => z (14 + d)) 3 = zgone z := by
    show nI 0 + z 14 + z 15 + z 16 = z 14 + z 15 + z 16
    rw [show nI 0 + z 14 = z 14 from Int32.zero_add _]
  unfold zshare at h
  refine am_C_of_R am_S0 om_V_goneShare rfl [.ref 0, .null, .null, .null] rfl rfl (g_V_goneShare_0 ?_)
  refine am_R_le (xs := [.ref 0, .int (zsum (fun d => z (11 + d)) 0), .int (zsum (fun d => z (14 + d)) 0), .int (nI 0)]) (by repeat' (first | exact trivial | exact Or.inr rfl | exact Or.inl rfl | exact Or.inr (congrArg Value.int (nI_succ _)) | refine ⟨?_, ?_⟩)) ?_
  refine lu (P := fun i => am_R am_S0 mt_V_goneShare 1 6 [.ref 0, .int (zsum (fun d => z (11 + d)) i), .int (zsum (fun d => z (14 + d)) i), .int (nI i)] [] M K) 3 ?_ ?_
  · rw [s1, s2]
    refine g_V_goneShare_6 ⟨fun c => g_V_goneShare_47 ⟨fun c2 => g_V_goneShare_59 (g_V_goneShare_60 ?_), fun c2 => ?_⟩, fun c => absurd (i_le (Nat.le_refl 3) (by decide)) c⟩
    · have c3 : zput3 z = 0 := by
        have := Int32.le_iff_toInt_le.mp (show zput3 z ≤ 0 from c2)
        rw [ti_0] at this
        exact ti_ext (by rw [ti_0]; omega)
      rw [if_pos c3] at h
      exact h
    · have c3 : ¬ zput3 z ≤ 0 := c2
      rw [Int32.le_iff_toInt_le, ti_0] at c3
      have c4 : ¬ zput3 z = 0 := fun q => c3 (by rw [q, ti_0]; omega)
      rw [if_neg c4] at h
      exact ⟨fp_n64 t1 t2 (by omega) t3, g_V_goneShare_60 h⟩
  · intro i hi ih
    have e1 : z (11 + i) = M 2 (45 + i) := by rw [hM]; unfold zp; rw [pz_i hi]
    have e2 : z (14 + i) = M 2 (48 + i) := by rw [hM]; unfold zp; rw [pz_o hi]
    have k1 : zsum (fun d => z (11 + d)) (i + 1) = zsum (fun d => z (11 + d)) i + z (11 + i) := rfl
    have k2 : zsum (fun d => z (14 + d)) (i + 1) = zsum (fun d => z (14 + d)) i + z (14 + i) := rfl
    rw [k1, k2, e1, e2] at ih
    exact g_V_goneShare_6 ⟨fun c => absurd c (i_nge hi (by decide)), fun c => ⟨45 + i, ix2 45 i, by show _ < 105; omega, 48 + i, ix2 48 i, by show _ < 105; omega, am_R_le (by repeat' (first | exact trivial | exact Or.inr rfl | exact Or.inl rfl | exact Or.inr (congrArg Value.int (nI_succ _)) | refine ⟨?_, ?_⟩)) ih⟩⟩
