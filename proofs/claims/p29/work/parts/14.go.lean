/-! the rule of a stretch of code: written by wip/p29/mk14.py -/
theorem am_fit_int : ∀ z : Int32, fits .int (.int z) = true := fun _ => rfl
theorem am_ckc_spec {t u : am_MT} {pc na : Nat} (h : am_ckc t u pc na = true) : (parseMethodDescriptor (mt_y u).desc).map (fun d => d.parameters.length) = some na ∧ mt_rf u + 1 ≤ mt_rf t ∧ 8 + (mt_l u + 11) + mt_rl u ≤ mt_rl t ∧ (mt_g u = true → mt_g t = true) ∧ (mt_h t ≠ [] → mt_g t = true ∧ (mt_y t).cls = "DyeVatsLaw" ∧ am_cov pc (mt_h t) = true) := by
  simp only [am_ckc, Bool.and_eq_true, decide_eq_true_eq, Bool.or_eq_true, Bool.not_eq_true'] at h
  obtain ⟨h1, h2, h3, h4, h5⟩ := h
  refine ⟨h1, h2, h3, fun hu => ?_, fun hne => ?_⟩
  · rcases h4 with h4 | h4
    · rw [hu] at h4; cases h4
    · exact h4
  · rcases h5 with h5 | h5
    · exact absurd h5 hne
    · exact h5
theorem am_okB_cons {t : am_MT} {pc w x y z : Nat} {i : Instr} {is : List am_I} (h : am_okB t pc ((i, w, x, y, z) :: is) = true) : decode (mt_b t) pc = .ok (i, w) ∧ (am_isp i = true → am_ckp i w = true) ∧ (am_iss i = true → am_cks (mt_l t) i w = true) ∧ am_ck t pc i w x y z = true ∧ am_okB t (pc + w) is = true := by
  simp only [am_okB, Bool.and_eq_true, decide_eq_true_eq, Bool.or_eq_true, Bool.not_eq_true'] at h
  obtain ⟨h1, h2, h3, h4, h5⟩ := h
  refine ⟨h1, fun hp => ?_, fun hp => ?_, h4, h5⟩
  · rcases h2 with h2 | h2
    · rw [hp] at h2; cases h2
    · exact h2
  · rcases h3 with h3 | h3
    · rw [hp] at h3; cases h3
    · exact h3
set_option maxHeartbeats 4000000 in
theorem am_go (L : am_S) (t : am_MT) (hL31 : mt_w t = true → L.1 < 2 ^ 31) : ∀ (is : List am_I) (n pc : Nat) (ls st : List Value) (M : am_M) (Q : am_Q), am_okB t pc is = true → am_B L t is n pc ls st M Q → am_R L t n pc ls st M Q := by
  intro is
  induction is with
  | nil => exact fun n pc ls st M Q _ h => h
  | cons q is ih =>
    obtain ⟨i, w, x, y, z⟩ := q
    intro n pc ls st M Q hok h
    obtain ⟨hd, hp1, hs1, hck, hok'⟩ := am_okB_cons hok
    unfold am_B at h
    cases hp : am_pu i ls st with
    | some st' =>
      simp only [hp] at h
      exact am_R_pu hp hd (hp1 (am_isp_of hp)) (ih _ _ _ _ _ _ hok' h)
    | none =>
      simp only [hp] at h
      cases hs : am_sto i ls st with
      | some q =>
        simp only [hs] at h
        exact am_R_sto hs hd (hs1 (am_iss_of hs)) (ih _ _ _ _ _ _ hok' h)
      | none =>
        simp only [hs] at h
        have hcov : ∀ {p : Prop}, False → p := fun h => False.elim h
        cases i
        case ifCond cd off =>
          rcases st with _ | ⟨v, st⟩
          · exact hcov h
          cases v
          case long _ => exact hcov h
          case float _ => exact hcov h
          case double _ => exact hcov h
          case null => exact hcov h
          case ref _ => exact hcov h
          case retAddr _ => exact hcov h
          rename_i v
          simp only [am_ck, Bool.and_eq_true, decide_eq_true_eq] at hck
          obtain ⟨rfl, ho⟩ := hck
          exact am_R_if1 hd ho h.1 (fun z => ih _ _ _ _ _ _ hok' (h.2 z))
        case if_icmp cd off =>
          rcases st with _ | ⟨v2, st⟩
          · exact hcov h
          cases v2
          case long _ => exact hcov h
          case float _ => exact hcov h
          case double _ => exact hcov h
          case null => exact hcov h
          case ref _ => exact hcov h
          case retAddr _ => exact hcov h
          rename_i v2
          rcases st with _ | ⟨v1, st⟩
          · exact hcov h
          cases v1
          case long _ => exact hcov h
          case float _ => exact hcov h
          case double _ => exact hcov h
          case null => exact hcov h
          case ref _ => exact hcov h
          case retAddr _ => exact hcov h
          rename_i v1
          simp only [am_ck, Bool.and_eq_true, decide_eq_true_eq] at hck
          obtain ⟨rfl, ho⟩ := hck
          exact am_R_if2 hd ho h.1 (fun z => ih _ _ _ _ _ _ hok' (h.2 z))
        case goto off =>
          simp only [am_ck, Bool.and_eq_true, decide_eq_true_eq] at hck
          obtain ⟨rfl, ho⟩ := hck
          exact am_R_goto hd ho h
        case tableswitch d lo hi os =>
          rcases st with _ | ⟨v, st⟩
          · exact hcov h
          cases v
          case long _ => exact hcov h
          case float _ => exact hcov h
          case double _ => exact hcov h
          case null => exact hcov h
          case ref _ => exact hcov h
          case retAddr _ => exact hcov h
          rename_i v
          simp only [am_ck, Bool.and_eq_true, decide_eq_true_eq, List.all_eq_true] at hck
          exact am_R_tsw hd hck.1 hck.2.1 hck.2.2 h.1 h.2
        case lookupswitch d ps =>
          rcases st with _ | ⟨v, st⟩
          · exact hcov h
          cases v
          case long _ => exact hcov h
          case float _ => exact hcov h
          case double _ => exact hcov h
          case null => exact hcov h
          case ref _ => exact hcov h
          case retAddr _ => exact hcov h
          rename_i v
          simp only [am_ck, Bool.and_eq_true, decide_eq_true_eq] at hck
          exact am_R_lsw hd hck.1 (fun q hq => by simpa using List.all_eq_true.mp hck.2.1 q hq) hck.2.2 h
        case ldc idx =>
          simp only [am_ck, Bool.and_eq_true, decide_eq_true_eq] at hck
          obtain ⟨rfl, hck⟩ := hck
          cases y with
          | zero => exact am_R_ldc hd (by simpa using hck) (ih _ _ _ _ _ _ hok' h)
          | succ y => exact hcov h
        case ldc_w idx =>
          simp only [am_ck, Bool.and_eq_true, decide_eq_true_eq] at hck
          obtain ⟨rfl, hck⟩ := hck
          exact am_R_ldcw hd hck (ih _ _ _ _ _ _ hok' h)
        case ldc2_w idx =>
          simp only [am_ck, Bool.and_eq_true, decide_eq_true_eq] at hck
          obtain ⟨rfl, hck⟩ := hck
          cases y with
          | zero => exact am_R_ldc2 hd (by simpa using hck) (ih _ _ _ _ _ _ hok' h)
          | succ y => exact am_R_ldc2d hd (by simpa using hck) (ih _ _ _ _ _ _ hok' h)
        case idiv =>
          rcases st with _ | ⟨v2, st⟩
          · exact hcov h
          cases v2
          case long _ => exact hcov h
          case float _ => exact hcov h
          case double _ => exact hcov h
          case null => exact hcov h
          case ref _ => exact hcov h
          case retAddr _ => exact hcov h
          rename_i v2
          rcases st with _ | ⟨v1, st⟩
          · exact hcov h
          cases v1
          case long _ => exact hcov h
          case float _ => exact hcov h
          case double _ => exact hcov h
          case null => exact hcov h
          case ref _ => exact hcov h
          case retAddr _ => exact hcov h
          rename_i v1
          obtain rfl : w = 1 := by simpa [am_ck, am_isp, am_iss] using hck
          exact am_R_idiv hd h.1 (ih _ _ _ _ _ _ hok' h.2)
        case irem =>
          rcases st with _ | ⟨v2, st⟩
          · exact hcov h
          cases v2
          case long _ => exact hcov h
          case float _ => exact hcov h
          case double _ => exact hcov h
          case null => exact hcov h
          case ref _ => exact hcov h
          case retAddr _ => exact hcov h
          rename_i v2
          rcases st with _ | ⟨v1, st⟩
          · exact hcov h
          cases v1
          case long _ => exact hcov h
          case float _ => exact hcov h
          case double _ => exact hcov h
          case null => exact hcov h
          case ref _ => exact hcov h
          case retAddr _ => exact hcov h
          rename_i v1
          obtain rfl : w = 1 := by simpa [am_ck, am_isp, am_iss] using hck
          exact am_R_irem hd h.1 (ih _ _ _ _ _ _ hok' h.2)
        case ddiv =>
          rcases st with _ | ⟨v2, st⟩
          · exact hcov h
          cases v2
          case int _ => exact hcov h
          case long _ => exact hcov h
          case float _ => exact hcov h
          case null => exact hcov h
          case ref _ => exact hcov h
          case retAddr _ => exact hcov h
          rename_i v2
          rcases st with _ | ⟨v1, st⟩
          · exact hcov h
          cases v1
          case int _ => exact hcov h
          case long _ => exact hcov h
          case float _ => exact hcov h
          case null => exact hcov h
          case ref _ => exact hcov h
          case retAddr _ => exact hcov h
          rename_i v1
          obtain rfl : w = 1 := by simpa [am_ck, am_isp, am_iss] using hck
          exact am_R_ddiv hd h.1 (ih _ _ _ _ _ _ hok' h.2)
        case getfield idx =>
          rcases st with _ | ⟨a, st⟩
          · exact hcov h
          cases a
          case int _ => exact hcov h
          case long _ => exact hcov h
          case float _ => exact hcov h
          case double _ => exact hcov h
          case null => exact hcov h
          case retAddr _ => exact hcov h
          rename_i a
          simp only [am_ck, Bool.and_eq_true, decide_eq_true_eq] at hck
          obtain ⟨rfl, hw, hx, hy⟩ := hck
          simp only at h
          split at h
          · rename_i hci
            exact am_R_get hd hw hx hy (Nat.eq_of_beq_eq_true hci) (ih _ _ _ _ _ _ hok' h)
          · exact hcov h
        case putfield idx =>
          rcases st with _ | ⟨v, st⟩
          · exact hcov h
          cases v
          case long _ => exact hcov h
          case float _ => exact hcov h
          case double _ => exact hcov h
          case null => exact hcov h
          case ref _ => exact hcov h
          case retAddr _ => exact hcov h
          rename_i v
          rcases st with _ | ⟨a, st⟩
          · exact hcov h
          cases a
          case int _ => exact hcov h
          case long _ => exact hcov h
          case float _ => exact hcov h
          case double _ => exact hcov h
          case null => exact hcov h
          case retAddr _ => exact hcov h
          rename_i a
          simp only [am_ck, Bool.and_eq_true, decide_eq_true_eq] at hck
          obtain ⟨rfl, hw, hx, hy, hf, hty, hr, hx1⟩ := hck
          simp only at h
          split at h
          · rename_i hci
            exact am_R_put hd hw hx hy hf hty rfl hr hx1 (Nat.eq_of_beq_eq_true hci) rfl (ih _ _ _ _ _ _ hok' h)
          · exact hcov h
        case iaload =>
          rcases st with _ | ⟨v, st⟩
          · exact hcov h
          cases v
          case long _ => exact hcov h
          case float _ => exact hcov h
          case double _ => exact hcov h
          case null => exact hcov h
          case ref _ => exact hcov h
          case retAddr _ => exact hcov h
          rename_i v
          rcases st with _ | ⟨a, st⟩
          · exact hcov h
          cases a
          case int _ => exact hcov h
          case long _ => exact hcov h
          case float _ => exact hcov h
          case double _ => exact hcov h
          case null => exact hcov h
          case retAddr _ => exact hcov h
          rename_i a
          obtain rfl : w = 1 := by simpa [am_ck, am_isp, am_iss] using hck
          simp only at h
          split at h
          · rename_i hr
            obtain ⟨k, h1, h2, h3⟩ := h
            exact am_R_iald hd hL31 hr h1 h2 (ih _ _ _ _ _ _ hok' h3)
          · exact hcov h
        case baload =>
          rcases st with _ | ⟨v, st⟩
          · exact hcov h
          cases v
          case long _ => exact hcov h
          case float _ => exact hcov h
          case double _ => exact hcov h
          case null => exact hcov h
          case ref _ => exact hcov h
          case retAddr _ => exact hcov h
          rename_i v
          rcases st with _ | ⟨a, st⟩
          · exact hcov h
          cases a
          case int _ => exact hcov h
          case long _ => exact hcov h
          case float _ => exact hcov h
          case double _ => exact hcov h
          case null => exact hcov h
          case retAddr _ => exact hcov h
          rename_i a
          obtain rfl : w = 1 := by simpa [am_ck, am_isp, am_iss] using hck
          simp only at h
          split at h
          · rename_i hr
            obtain ⟨k, h1, h2, h3⟩ := h
            exact am_R_zald hd (Nat.eq_of_beq_eq_true hr) h1 h2 (ih _ _ _ _ _ _ hok' h3)
          · exact hcov h
        case iastore =>
          rcases st with _ | ⟨u, st⟩
          · exact hcov h
          cases u
          case long _ => exact hcov h
          case float _ => exact hcov h
          case double _ => exact hcov h
          case null => exact hcov h
          case ref _ => exact hcov h
          case retAddr _ => exact hcov h
          rename_i u
          rcases st with _ | ⟨v, st⟩
          · exact hcov h
          cases v
          case long _ => exact hcov h
          case float _ => exact hcov h
          case double _ => exact hcov h
          case null => exact hcov h
          case ref _ => exact hcov h
          case retAddr _ => exact hcov h
          rename_i v
          rcases st with _ | ⟨a, st⟩
          · exact hcov h
          cases a
          case int _ => exact hcov h
          case long _ => exact hcov h
          case float _ => exact hcov h
          case double _ => exact hcov h
          case null => exact hcov h
          case retAddr _ => exact hcov h
          rename_i a
          obtain rfl : w = 1 := by simpa [am_ck, am_isp, am_iss] using hck
          simp only at h
          split at h
          · rename_i hr
            obtain ⟨k, h1, h2, h3⟩ := h
            exact am_R_iast hd hL31 hr h1 h2 (ih _ _ _ _ _ _ hok' h3)
          · exact hcov h
        case bastore =>
          rcases st with _ | ⟨u, st⟩
          · exact hcov h
          cases u
          case long _ => exact hcov h
          case float _ => exact hcov h
          case double _ => exact hcov h
          case null => exact hcov h
          case ref _ => exact hcov h
          case retAddr _ => exact hcov h
          rename_i u
          rcases st with _ | ⟨v, st⟩
          · exact hcov h
          cases v
          case long _ => exact hcov h
          case float _ => exact hcov h
          case double _ => exact hcov h
          case null => exact hcov h
          case ref _ => exact hcov h
          case retAddr _ => exact hcov h
          rename_i v
          rcases st with _ | ⟨a, st⟩
          · exact hcov h
          cases a
          case int _ => exact hcov h
          case long _ => exact hcov h
          case float _ => exact hcov h
          case double _ => exact hcov h
          case null => exact hcov h
          case retAddr _ => exact hcov h
          rename_i a
          obtain rfl : w = 1 := by simpa [am_ck, am_isp, am_iss] using hck
          simp only at h
          split at h
          · rename_i hr
            obtain ⟨hz, k, h1, h2, h3⟩ := h
            exact am_R_zast hd (Nat.eq_of_beq_eq_true hr) (by rcases hz with rfl | rfl <;> rfl) h1 h2 (ih _ _ _ _ _ _ hok' h3)
          · exact hcov h
        case ireturn =>
          rcases st with _ | ⟨v, st⟩
          · exact hcov h
          cases v
          case long _ => exact hcov h
          case float _ => exact hcov h
          case double _ => exact hcov h
          case null => exact hcov h
          case ref _ => exact hcov h
          case retAddr _ => exact hcov h
          rename_i v
          rcases st with _ | ⟨v9, st⟩
          rotate_left
          · exact hcov h
          obtain rfl : w = 1 := by simpa [am_ck, am_isp, am_iss] using hck
          simp only at h
          split at h
          · rename_i hr
            exact am_R_ret (v := some (.int v)) hd ⟨rfl, .int, hr, rfl⟩ h
          · rename_i hr
            exact am_R_ret (v := some (.int v)) hd ⟨rfl, .boolean, hr, by rcases h.1 with rfl | rfl <;> rfl⟩ h.2
          · exact hcov h
        case lreturn =>
          rcases st with _ | ⟨v, st⟩
          · exact hcov h
          cases v
          case int _ => exact hcov h
          case float _ => exact hcov h
          case double _ => exact hcov h
          case null => exact hcov h
          case ref _ => exact hcov h
          case retAddr _ => exact hcov h
          rename_i v
          rcases st with _ | ⟨v9, st⟩
          rotate_left
          · exact hcov h
          obtain rfl : w = 1 := by simpa [am_ck, am_isp, am_iss] using hck
          simp only at h
          split at h
          · rename_i hr
            exact am_R_ret (v := some (.long v)) hd ⟨rfl, hr⟩ h
          · exact hcov h
        case dreturn =>
          rcases st with _ | ⟨v, st⟩
          · exact hcov h
          cases v
          case int _ => exact hcov h
          case long _ => exact hcov h
          case float _ => exact hcov h
          case null => exact hcov h
          case ref _ => exact hcov h
          case retAddr _ => exact hcov h
          rename_i v
          rcases st with _ | ⟨v9, st⟩
          rotate_left
          · exact hcov h
          obtain rfl : w = 1 := by simpa [am_ck, am_isp, am_iss] using hck
          simp only at h
          split at h
          · rename_i hr
            exact am_R_ret (v := some (.double v)) hd ⟨rfl, hr⟩ h
          · exact hcov h
        case return_ =>
          rcases st with _ | ⟨v9, st⟩
          rotate_left
          · exact hcov h
          obtain rfl : w = 1 := by simpa [am_ck, am_isp, am_iss] using hck
          simp only at h
          split at h
          · rename_i hr
            exact am_R_ret (v := none) hd ⟨rfl, hr⟩ h
          · exact hcov h
        case new idx =>
          rcases st with _ | ⟨v9, st⟩
          rotate_left
          · exact hcov h
          simp only [am_ck, Bool.and_eq_true, decide_eq_true_eq, List.any_eq_true] at hck
          obtain ⟨hx, rfl, rfl, hh, hRX, h6, h90, ⟨q, hq1, hq2⟩, d3, d4, d6, d9⟩ := hck
          cases n with
          | zero => exact hcov h
          | succ n => exact am_R_new (by omega) hx hh hRX h6 h90 ⟨q.2, by rw [← hq2]; exact hq1⟩ hd d3 d4 d6 d9 h
        case invokestatic idx =>
          have hw3 : w = 3 := by
            unfold am_ck at hck
            simp only [Bool.and_eq_true, decide_eq_true_eq] at hck
            exact hck.1
          subst hw3
          have hck2 := hck
          unfold am_ck at hck2
          simp only [Bool.and_eq_true, decide_eq_true_eq] at hck2
          replace hck2 := hck2.2
          by_cases c0 : x = 200
          · subst c0
            rcases st with _ | ⟨v2, st⟩
            · exact hcov h
            cases v2
            case long _ => exact hcov h
            case float _ => exact hcov h
            case double _ => exact hcov h
            case null => exact hcov h
            case ref _ => exact hcov h
            case retAddr _ => exact hcov h
            rename_i v2
            rcases st with _ | ⟨v1, st⟩
            · exact hcov h
            cases v1
            case long _ => exact hcov h
            case float _ => exact hcov h
            case double _ => exact hcov h
            case null => exact hcov h
            case ref _ => exact hcov h
            case retAddr _ => exact hcov h
            rename_i v1
            simp only [Bool.and_eq_true, decide_eq_true_eq] at hck2
            simp only at h
            split at h
            · rename_i hc
              exact am_R_min (w := fun _ => True) hd hck2.1 am_wmin hck2.2.1 hck2.2.2 (Nat.le_of_ble_eq_true hc) (ih _ _ _ _ _ _ hok' h)
            · exact hcov h
          by_cases c1 : x = 201
          · subst c1
            rcases st with _ | ⟨v2, st⟩
            · exact hcov h
            cases v2
            case long _ => exact hcov h
            case float _ => exact hcov h
            case double _ => exact hcov h
            case null => exact hcov h
            case ref _ => exact hcov h
            case retAddr _ => exact hcov h
            rename_i v2
            rcases st with _ | ⟨v1, st⟩
            · exact hcov h
            cases v1
            case long _ => exact hcov h
            case float _ => exact hcov h
            case double _ => exact hcov h
            case null => exact hcov h
            case ref _ => exact hcov h
            case retAddr _ => exact hcov h
            rename_i v1
            simp only [Bool.and_eq_true, decide_eq_true_eq] at hck2
            simp only at h
            split at h
            · rename_i hc
              exact am_R_max hd hck2.1 am_wmax hck2.2.1 hck2.2.2 (Nat.le_of_ble_eq_true hc) (ih _ _ _ _ _ _ hok' h)
            · exact hcov h
          by_cases c2 : x = 202
          · subst c2
            rcases st with _ | ⟨nn, st⟩
            · exact hcov h
            cases nn
            case long _ => exact hcov h
            case float _ => exact hcov h
            case double _ => exact hcov h
            case null => exact hcov h
            case ref _ => exact hcov h
            case retAddr _ => exact hcov h
            rename_i nn
            rcases st with _ | ⟨dp, st⟩
            · exact hcov h
            cases dp
            case long _ => exact hcov h
            case float _ => exact hcov h
            case double _ => exact hcov h
            case null => exact hcov h
            case ref _ => exact hcov h
            case retAddr _ => exact hcov h
            rename_i dp
            rcases st with _ | ⟨dd, st⟩
            · exact hcov h
            cases dd
            case int _ => exact hcov h
            case long _ => exact hcov h
            case float _ => exact hcov h
            case double _ => exact hcov h
            case null => exact hcov h
            case retAddr _ => exact hcov h
            rename_i dd
            rcases st with _ | ⟨sp, st⟩
            · exact hcov h
            cases sp
            case long _ => exact hcov h
            case float _ => exact hcov h
            case double _ => exact hcov h
            case null => exact hcov h
            case ref _ => exact hcov h
            case retAddr _ => exact hcov h
            rename_i sp
            rcases st with _ | ⟨oo, st⟩
            · exact hcov h
            cases oo
            case int _ => exact hcov h
            case long _ => exact hcov h
            case float _ => exact hcov h
            case double _ => exact hcov h
            case null => exact hcov h
            case retAddr _ => exact hcov h
            rename_i oo
            simp only [Bool.and_eq_true, decide_eq_true_eq] at hck2
            simp only at h
            split at h
            · rename_i hc
              simp only [Bool.and_eq_true] at hc
              obtain ⟨sk, dk, nk, e1, e2, e3, b1, b2, h3⟩ := h
              exact am_R_copy hd hck2.1 am_wcpy hck2.2.1 hck2.2.2 (Nat.le_of_ble_eq_true hc.1) (Nat.eq_of_beq_eq_true hc.2.1) (Nat.eq_of_beq_eq_true hc.2.2) e1 e2 e3 b1 b2 (ih _ _ _ _ _ _ hok' h3)
            · exact hcov h
          split at hck2
          · exact absurd rfl c0
          · exact absurd rfl c1
          · exact absurd rfl c2
          simp only [Bool.and_eq_true, decide_eq_true_eq] at hck2
          obtain ⟨hx, hc1, hw0, hl, hst, hcc⟩ := hck2
          simp only at h
          split at h
          rotate_left
          · exact hcov h
          rename_i av r hargs
          split at h
          rotate_left
          · exact hcov h
          rename_i n hcat
          obtain ⟨p0, e1, e2, e3⟩ := am_args_spec _ _ _ hargs
          rw [List.append_nil] at e1
          have hlen : av.length = y := by rw [e1, List.length_reverse, e3]
          rw [← hlen] at hcc
          obtain ⟨g1, g2, g3, g4, g5⟩ := am_ckc_spec hcc
          refine am_R_callS (by rw [hc1]; exact Nat.succ_le_succ (Nat.zero_le n)) (by rw [hc1]; exact Nat.le_refl 1) (Or.inl hc1) (fun h => by rw [hw0] at h; cases h) (am_okM_all x hx) hd hl hst g1 g2 g3 g4 g5 e2 e1 (Nat.le_of_ble_eq_true hcat) (am_C_mono h ?_)
          have hgi : ∀ k : Nat, (if mt_g (am_mt x) = true then k + 1 - mt_c (am_mt x) else k + 1) = (if mt_g (am_mt x) = true then k else k + 1) := fun k => by rw [hc1]; rfl
          exact fun oc M' hK => by
            match oc, hK with
            | .inl none, hK => exact (by unfold am_KK; rw [hgi]; exact ih _ _ _ _ _ _ hok' hK)
            | .inl (some v), hK => exact (by unfold am_KK; rw [hgi]; exact ih _ _ _ _ _ _ hok' hK)
            | .inr E, hK =>
              cases hh : mt_h t with
              | nil =>
                simp only [hh] at hK
                exact Or.inl ⟨hh, hK⟩
              | cons hx hxs =>
                simp only [hh] at hK
                obtain ⟨hp, e1, e2⟩ := hK
                exact Or.inr ⟨hp, by rw [hh]; exact e1, by rw [hc1]; exact e2⟩
        case invokevirtual idx =>
          have hw3 : w = 3 := by
            unfold am_ck at hck
            simp only [Bool.and_eq_true, decide_eq_true_eq] at hck
            exact hck.1
          subst hw3
          have hck2 := hck
          unfold am_ck at hck2
          simp only [Bool.and_eq_true, decide_eq_true_eq] at hck2
          replace hck2 := hck2.2
          obtain ⟨hx, hc1, hw0, hy1, hl, hi, hse, hc5, hcls, hhu, hgu, hcc⟩ := hck2
          simp only at h
          split at h
          rotate_left
          · exact hcov h
          rename_i oo av r hargs
          split at h
          rotate_left
          · exact hcov h
          rename_i n hcat
          simp only [Bool.and_eq_true] at hcat
          obtain ⟨p0, e1, e2, e3⟩ := am_args_spec _ _ _ hargs
          rw [List.append_nil] at e1
          have hlen : av.length = y - 1 := by
            have := congrArg List.length e1
            rw [List.length_reverse, e3, List.length_cons] at this
            omega
          rw [← hlen] at hcc
          obtain ⟨g1, g2, g3, g4, g5⟩ := am_ckc_spec hcc
          refine am_R_callV (by rw [hc1]; exact Nat.succ_le_succ (Nat.zero_le n)) hc1 (fun h => by rw [hw0] at h; cases h) (am_okM_all x hx) hd hl hi hse g1 (Nat.eq_of_beq_eq_true hcat.2) hc5 hcls hhu g2 g3 g4 g5 e2 e1 (Nat.le_of_ble_eq_true hcat.1) (am_C_mono h ?_)
          have hgi : ∀ k : Nat, (if mt_g (am_mt x) = true then k - mt_c (am_mt x) else k) = k := fun k => by rw [hgu]; rfl
          exact fun oc M' hK => by
            match oc, hK with
            | .inl none, hK => exact (by unfold am_KK; rw [hgi]; exact ih _ _ _ _ _ _ hok' hK)
            | .inl (some v), hK => exact (by unfold am_KK; rw [hgi]; exact ih _ _ _ _ _ _ hok' hK)
            | .inr E, hK =>
              cases hh : mt_h t with
              | nil =>
                simp only [hh] at hK
                exact Or.inl ⟨hh, hK⟩
              | cons hx hxs =>
                simp only [hh] at hK
                obtain ⟨hp, e1, e2⟩ := hK
                exact Or.inr ⟨hp, by rw [hh]; exact e1, by rw [hc1]; exact e2⟩
        all_goals exact hcov h
