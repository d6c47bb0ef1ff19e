theorem am_R_chr {L : am_S} {t : am_MT} {n pc : Nat} {ls st : List Value} {M : am_M} {Q : am_Q} {idx z k : Nat} {v : Int32} (hd : decode (mt_b t) pc = .ok (.invokevirtual idx, 3)) (hw : lw_tbl[z]? = some (.methodLink (mt_y t).cls idx ⟨"java/lang/String", "charAt", "(I)C"⟩)) (h1' : 4 ≤ mt_rf t) (h2' : 85 ≤ mt_rl t) (hcat : am_cat st ≤ 8) (hv : v = nI k) (hk : k < 5)
    (kk : am_R L t n (pc + 3) ls (.int (am_sg k) :: st) M Q) : am_R L t n pc ls (.int v :: .ref 28 :: st) M Q := by
  sorry
