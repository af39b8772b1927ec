set_option maxHeartbeats 4000000 in
set_option maxRecDepth 100000 in
theorem c_X8_back (l : Launch) (G : GE) (w : WF) (came : Nat) (now : Nat) (bc : Nat) (n : Int) (cst : Nat → Nat → Int) (cpl : Nat → Nat → Int) (csp : Nat → Nat → Int) (cnp : Nat → Nat) (cstop : Nat → Int) (e0 : w 0 = .inr (7, [.ref (gad G 1), .int (iN ((came : Nat) : Int)), .int (iN ((now : Nat) : Int)), .ref (gad G 2), .ref (gad G 5), .int (iN ((bc : Nat) : Int)), .ref (gad G 6), .ref (gad G 10), .ref (gad G 14), .ref (gad G 15), .ref (gad G 18)])) (hC : FAM G w cst cpl csp cnp cstop) (p0 : -2147483648 ≤ n ∧ n < 2147483648) (p1 : OKS came cst cpl csp cnp cstop) (p2 : now ≤ 400) : Met l yX8_back wsX8_back ({ frames := 2, cells := 0, slots := 0, locals := 42 }) (PcG G w [.ref (gad G 0), .int (iN n)]) (QI G (fun r w1 => r = iN (if 0 ≤ n ∧ n ≤ 100 then (if n ≤ (now : Int) then (now : Int) - n else -100003) else -100002) ∧ (∀ k : Nat, k ≠ 0 → k < 19 ∨ 59 ≤ k → w1 k = w k) ∧ w1 0 = .inr (7, [.ref (gad G 1), .int (iN ((if 0 ≤ n ∧ n ≤ 100 ∧ n ≤ (now : Int) then cutC cst ((now - n.toNat : Nat) : Int) came else came : Nat) : Int)), .int (iN ((if 0 ≤ n ∧ n ≤ 100 ∧ n ≤ (now : Int) then now - n.toNat else now : Nat) : Int)), .ref (gad G 2), .ref (gad G 5), .int (iN ((bc : Nat) : Int)), .ref (gad G 6), .ref (gad G 10), .ref (gad G 14), .ref (gad G 15), .ref (gad G 18)]) ∧ FAM G w1 cst cpl csp (if 0 ≤ n ∧ n ≤ 100 ∧ n ≤ (now : Int) then ufN cst ((now - n.toNat : Nat) : Int) cnp (cutC cst ((now - n.toNat : Nat) : Int) came) else cnp) (if 0 ≤ n ∧ n ≤ 100 ∧ n ≤ (now : Int) then ufS ((now - n.toNat : Nat) : Int) cstop (cutC cst ((now - n.toNat : Nat) : Int) came) else cstop))) 0 0 (AA G) := by
  refine Met.ofW (cc := cX8_back) (maxL := 2) (ret := (some .int)) (by decide) rfl ?_
  intro p e s m args below meth c s₁ B hml hv
  obtain ⟨rfl, hP, hK⟩ := hv
  have hx := B.exec
  have hb := B.bytes
  have hr := B.returns
  have hts := atoms_spec (ws := wsX8_back) B.pre
  have hown : s.vm.findClass RX8 = some m.cls := findClass_of_methodNamed B.named
  have hlocks := B.notSynchronized
  have hS : va_S (AA G) s.heap s.heap [] := va_S.rf
  have hAA : ∀ q, AA G q → AA G q := fun _ h => h
  have hl := lv_entry ([.ref (gad G 0), .int (iN n)]) (n := 2) (Nat.le_of_ble_eq_true rfl)
  rw [lg_entry_eq]
  generalize (lg_sl ([.ref (gad G 0), .int (iN n)]) ++ List.replicate (2 - (lg_sl ([.ref (gad G 0), .int (iN n)])).length) Slot.unset).toArray = ls at hl ⊢
  have hl : lv_has ls 2 [(0, .ref (gad G 0)), (1, .int (iN n))] := hl
  have hc10 : came ≤ 10 := p1.1
  refine lv_iload_n hx hb dX8_back_0 rfl (lv_at hl 1 rfl) ?_
  refine n_iconst hx hb dX8_back_1 ?_
  refine n_bipush hx hb dX8_back_2 (by decide) ?_
  refine vp_callSi (W.runS (As := [.int (iN n), .int (iN 0), .int (iN 100)]) (rest := []) ⟨hx, hb, hml, hown, hts⟩ (c_X8_isFromTo l n 0 100 (p0) (by omega) (by omega)) (va_cwS 3 hts gX8_back_X8_isFromTo rfl rfl rfl (by decide +kernel) ⟨Nat.le_of_ble_eq_true rfl, Nat.le_of_ble_eq_true rfl⟩) ⟨fun _ _ _ _ q => q, fun _ _ _ => rfl⟩ rfl rfl hl.1 rfl (lv_room (Nat.le_of_ble_eq_true rfl)) dX8_back_4 ⟨Nat.zero_le _, Nat.zero_le _⟩) (fun r_1 hr_1 => ?_)
  rw [show r_1 = iN (if (0 ≤ n ∧ n ≤ 100) then 1 else 0) from hr_1]
  refine n_ifb_ne (tgt := 13) hx hb dX8_back_7 (by decide) (fun c_7 => ?_) (fun c_7 => ?_)
  · refine lv_iload_n hx hb dX8_back_13 rfl (lv_at hl 1 rfl) ?_
    refine lv_aload_n hx hb dX8_back_14 rfl (lv_at hl 0 rfl) ?_
    refine f_get (C := RX8) (T := TX8) (N := 11) hx hb hts (by decide +kernel) hown hK hP 0 (by omega) e0 rfl 2 (by decide) (hts (.fieldLink RX8 72 "KeptMoving" "now" "I") (by decide +kernel)) (fun _ h9 => h9) rfl dX8_back_15 ?_
    refine n_icmp_le (tgt := 24) hx hb dX8_back_18 (by decide) (by omega) (by omega) (by omega) (by omega) (fun c_18 => ?_) (fun c_18 => ?_)
    · refine lv_aload_n hx hb dX8_back_24 rfl (lv_at hl 0 rfl) ?_
      refine lv_dup hx hb dX8_back_25 rfl ?_
      refine f_get (C := RX8) (T := TX8) (N := 11) hx hb hts (by decide +kernel) hown hK hP 0 (by omega) e0 rfl 2 (by decide) (hts (.fieldLink RX8 72 "KeptMoving" "now" "I") (by decide +kernel)) (fun _ h9 => h9) rfl dX8_back_26 ?_
      refine lv_iload_n hx hb dX8_back_29 rfl (lv_at hl 1 rfl) ?_
      refine n_isub hx hb dX8_back_30 ?_
      refine n_top (A := ((now : Nat) : Int) - n) (B := ((now - n.toNat : Nat) : Int)) (by omega) ?_
      refine f_put (v := .int (iN ((now - n.toNat : Nat) : Int))) (ty := .int) (C := RX8) (T := TX8) (N := 11) hx hb hts (by decide +kernel) tyX8 tyX8_ok nmX8 hown hK hP hS hAA 0 (by omega) e0 rfl 2 (by decide) (hts (.fieldLink RX8 72 "KeptMoving" "now" "I") (by decide +kernel)) (fun _ h9 => h9) rfl (by decide +kernel) (rfl) (rfl) (Nat.le_of_ble_eq_true rfl) (rfl) dX8_back_31 (fun H locs hP hS => ?_)
      have hP : PW G (va_up w 0 (.inr (7, [.ref (gad G 1), .int (iN ((came : Nat) : Int)), .int (iN ((now - n.toNat : Nat) : Int)), .ref (gad G 2), .ref (gad G 5), .int (iN ((bc : Nat) : Int)), .ref (gad G 6), .ref (gad G 10), .ref (gad G 14), .ref (gad G 15), .ref (gad G 18)]))) H := hP
      obtain ⟨w_2, hw_3⟩ : ∃ z : WF, z = va_up w 0 (.inr (7, [.ref (gad G 1), .int (iN ((came : Nat) : Int)), .int (iN ((now - n.toNat : Nat) : Int)), .ref (gad G 2), .ref (gad G 5), .int (iN ((bc : Nat) : Int)), .ref (gad G 6), .ref (gad G 10), .ref (gad G 14), .ref (gad G 15), .ref (gad G 18)])) := ⟨_, rfl⟩
      rw [← hw_3] at hP
      have fr_4 : ∀ k : Nat, k ≠ 0 → w_2 k = w k := fun k h => by rw [hw_3]; exact va_up_ne _ _ h
      have hC_5 : FAM G w_2 cst cpl csp cnp cstop := hC.keep (fun k h1 h2 => fr_4 k (by omega))
      have e_6 : w_2 0 = .inr (7, [.ref (gad G 1), .int (iN ((came : Nat) : Int)), .int (iN ((now - n.toNat : Nat) : Int)), .ref (gad G 2), .ref (gad G 5), .int (iN ((bc : Nat) : Int)), .ref (gad G 6), .ref (gad G 10), .ref (gad G 14), .ref (gad G 15), .ref (gad G 18)]) := by rw [hw_3]; exact va_up_self _ _ _
      refine lv_aload_n hx hb dX8_back_34 rfl (lv_at hl 0 rfl) ?_
      refine f_callv (W.runV (As := []) (rest := []) ⟨hx, hb, hml, hown, hts⟩ (c_X8_undoFromNow l G w_2 came (now - n.toNat) bc cst cpl csp cnp cstop e_6 hC_5 (p1) (by omega)) (cwV 0 hts gX8_back_X8_undoFromNow rfl rfl rfl (by decide +kernel) ⟨Nat.le_of_ble_eq_true rfl, Nat.le_of_ble_eq_true rfl⟩) (f_preV hP hK 0 (by omega) 7 e_6 rfl) rfl rfl hl.1 rfl (lv_room (Nat.le_of_ble_eq_true rfl)) dX8_back_35 ⟨Nat.zero_le _, Nat.zero_le _⟩) hS hAA (fun w_7 H locs q_8 hP hS => ?_)
      obtain ⟨fr_9, e_10, hC_11⟩ := q_8
      have e_12 : w_7 0 = .inr (7, [.ref (gad G 1), .int (iN ((cutC cst (((now - n.toNat) : Nat) : Int) came : Nat) : Int)), .int (iN (((now - n.toNat) : Nat) : Int)), .ref (gad G 2), .ref (gad G 5), .int (iN ((bc : Nat) : Int)), .ref (gad G 6), .ref (gad G 10), .ref (gad G 14), .ref (gad G 15), .ref (gad G 18)]) := e_10
      refine lv_aload_n hx hb dX8_back_38 rfl (lv_at hl 0 rfl) ?_
      refine f_get (C := RX8) (T := TX8) (N := 11) hx hb hts (by decide +kernel) hown hK hP 0 (by omega) e_12 rfl 2 (by decide) (hts (.fieldLink RX8 72 "KeptMoving" "now" "I") (by decide +kernel)) (fun _ h9 => h9) rfl dX8_back_39 ?_
      exact r_i hx hb hr dX8_back_42 hlocks hP hS ⟨(congrArg iN (by rw [if_pos (by omega), if_pos (by omega)]; omega)), (fun k h0 hf => ((fr_9 k (by omega) (by omega)).trans (fr_4 k (by omega)))), (by rw [if_pos (show 0 ≤ n ∧ n ≤ 100 ∧ n ≤ (now : Int) by omega), if_pos (show 0 ≤ n ∧ n ≤ 100 ∧ n ≤ (now : Int) by omega)]; exact e_12), (by rw [if_pos (show 0 ≤ n ∧ n ≤ 100 ∧ n ≤ (now : Int) by omega), if_pos (show 0 ≤ n ∧ n ≤ 100 ∧ n ≤ (now : Int) by omega)]; exact hC_11)⟩
    · refine n_ldc (z := (-100003)) hx hb hown (hts (.constant RX8 88 (-100003)) (by decide +kernel)) (by decide) dX8_back_21 ?_
      exact r_i hx hb hr dX8_back_23 hlocks hP hS ⟨(show iN (-100003) = iN _ by rw [if_pos (by omega), if_neg (by omega)]), (fun k _ _ => rfl), (by rw [if_neg (show ¬ (0 ≤ n ∧ n ≤ 100 ∧ n ≤ (now : Int)) by omega), if_neg (show ¬ (0 ≤ n ∧ n ≤ 100 ∧ n ≤ (now : Int)) by omega)]; exact e0), (by rw [if_neg (show ¬ (0 ≤ n ∧ n ≤ 100 ∧ n ≤ (now : Int)) by omega), if_neg (show ¬ (0 ≤ n ∧ n ≤ 100 ∧ n ≤ (now : Int)) by omega)]; exact hC)⟩
  · refine n_ldc (z := (-100002)) hx hb hown (hts (.constant RX8 66 (-100002)) (by decide +kernel)) (by decide) dX8_back_10 ?_
    exact r_i hx hb hr dX8_back_12 hlocks hP hS ⟨(show iN (-100002) = iN _ by rw [if_neg (by omega)]), (fun k _ _ => rfl), (by rw [if_neg (show ¬ (0 ≤ n ∧ n ≤ 100 ∧ n ≤ (now : Int)) by omega), if_neg (show ¬ (0 ≤ n ∧ n ≤ 100 ∧ n ≤ (now : Int)) by omega)]; exact e0), (by rw [if_neg (show ¬ (0 ≤ n ∧ n ≤ 100 ∧ n ≤ (now : Int)) by omega), if_neg (show ¬ (0 ≤ n ∧ n ≤ 100 ∧ n ≤ (now : Int)) by omega)]; exact hC)⟩

set_option maxHeartbeats 4000000 in
set_option maxRecDepth 100000 in
theorem c_X8_told (l : Launch) (G : GE) (w : WF) (came : Nat) (now : Nat) (bc : Nat) (i : Int) (wh : Int) (cst : Nat → Nat → Int) (cpl : Nat → Nat → Int) (csp : Nat → Nat → Int) (cnp : Nat → Nat) (cstop : Nat → Int) (e0 : w 0 = .inr (7, [.ref (gad G 1), .int (iN ((came : Nat) : Int)), .int (iN ((now : Nat) : Int)), .ref (gad G 2), .ref (gad G 5), .int (iN ((bc : Nat) : Int)), .ref (gad G 6), .ref (gad G 10), .ref (gad G 14), .ref (gad G 15), .ref (gad G 18)])) (hC : FAM G w cst cpl csp cnp cstop) (p0 : -2147483648 ≤ i ∧ i < 2147483648) (p1 : -2147483648 ≤ wh ∧ wh < 2147483648) (p2 : OKS came cst cpl csp cnp cstop) : Met l yX8_told wsX8_told ({ frames := 1, cells := 0, slots := 0, locals := 21 }) (PcG G w [.ref (gad G 0), .int (iN i), .int (iN wh)]) (vp_Si (fun r => r = iN (if 0 ≤ i ∧ i < (came : Int) then (if wh = 0 then cst i.toNat 0 else if wh = 1 then cstop i.toNat else if wh = 2 then ((cnp i.toNat : Nat) : Int) else if wh = 3 then csp i.toNat (cnp i.toNat - 1) else -100002) else -100001))) 0 0 (fun _ => False) := by
  refine Met.ofW (cc := cX8_told) (maxL := 4) (ret := (some .int)) (by decide) rfl ?_
  intro p e s m args below meth c s₁ B hml hv
  obtain ⟨rfl, hP, hK⟩ := hv
  have hx := B.exec
  have hb := B.bytes
  have hr := B.returns
  have hts := atoms_spec (ws := wsX8_told) B.pre
  have hown : s.vm.findClass RX8 = some m.cls := findClass_of_methodNamed B.named
  have hlocks := B.notSynchronized
  have hl := lv_entry ([.ref (gad G 0), .int (iN i), .int (iN wh)]) (n := 4) (Nat.le_of_ble_eq_true rfl)
  rw [lg_entry_eq]
  generalize (lg_sl ([.ref (gad G 0), .int (iN i), .int (iN wh)]) ++ List.replicate (4 - (lg_sl ([.ref (gad G 0), .int (iN i), .int (iN wh)])).length) Slot.unset).toArray = ls at hl ⊢
  have hl : lv_has ls 4 [(0, .ref (gad G 0)), (1, .int (iN i)), (2, .int (iN wh))] := hl
  have hc10 : came ≤ 10 := p2.1
  refine lv_aload_n hx hb dX8_told_0 rfl (lv_at hl 0 rfl) ?_
  refine lv_iload_n hx hb dX8_told_1 rfl (lv_at hl 1 rfl) ?_
  refine vp_callSi (W.runV (As := [.int (iN i)]) (rest := []) ⟨hx, hb, hml, hown, hts⟩ (c_X8_isKnown l G w came now bc i e0 (p0) (by omega)) (cwV 1 hts gX8_told_X8_isKnown rfl rfl rfl (by decide +kernel) ⟨Nat.le_of_ble_eq_true rfl, Nat.le_of_ble_eq_true rfl⟩) (f_preV hP hK 0 (by omega) 7 e0 rfl) rfl rfl hl.1 rfl (lv_room (Nat.le_of_ble_eq_true rfl)) dX8_told_2 ⟨Nat.zero_le _, Nat.zero_le _⟩) (fun r_1 hr_1 => ?_)
  rw [show r_1 = iN (if (0 ≤ i ∧ i < ((came : Nat) : Int)) then 1 else 0) from hr_1]
  refine n_ifb_ne (tgt := 11) hx hb dX8_told_5 (by decide) (fun c_5 => ?_) (fun c_5 => ?_)
  · have hVi := p2.2 i.toNat (by omega)
    obtain ⟨hv1, hv2, hv3, hv4⟩ := id hVi
    refine lv_aload_n hx hb dX8_told_11 rfl (lv_at hl 0 rfl) ?_
    refine f_get (C := RX8) (T := TX8) (N := 11) hx hb hts (by decide +kernel) hown hK hP 0 (by omega) e0 rfl 0 (by decide) (hts (.fieldLink RX8 11 "KeptMoving" "courses" "[LKeptMoving$Course;") (by decide +kernel)) (fun _ h9 => h9) rfl dX8_told_12 ?_
    refine lv_iload_n hx hb dX8_told_15 rfl (lv_at hl 1 rfl) ?_
    refine n_aldq hx hb hK hP i.toNat (by omega) (by omega) dX8_told_16 ?_
    refine lv_astore_n (lv' := [(3, .ref (gad G (19 + 4 * i.toNat))), (0, .ref (gad G 0)), (1, .int (iN i)), (2, .int (iN wh))]) hx hb dX8_told_17 rfl hl (by decide) rfl (fun ls hl => ?_)
    refine lv_iload_n hx hb dX8_told_18 rfl (lv_at hl 3 rfl) ?_
    by_cases sw19_0 : wh = 0
    · refine n_tabIn (v := 0) (off := 29) (tgt := 48) hx hb sw19_0 (by omega) (by omega) dX8_told_19 (by decide) (by decide) (by decide) (by decide) ?_
      refine lv_aload_n hx hb dX8_told_48 rfl (lv_at hl 0 rfl) ?_
      obtain ⟨x_2, x_3, x_4, x_5⟩ := hC i.toNat (by omega)
      refine vp_callSi (va_Run.run (va_runVN (As := []) (rest := []) ⟨hx, hb, hml, hown, hts⟩ (c_X0_began l G w i.toNat (cst i.toNat) (cpl i.toNat) (csp i.toNat) (cnp i.toNat) (cstop i.toNat) x_2 x_3 x_4 x_5 (by omega)) ⟨va_cnB 0 hts gX8_told_X0_began_n100 rfl rfl rfl (hK.nm 12 rfl) (hts (.initialized RX0) (by decide +kernel)) (by decide +kernel) ⟨Nat.le_of_ble_eq_true rfl, Nat.le_of_ble_eq_true rfl⟩, hts (.instanceMethod yX0_began) (by decide +kernel), hts (.selects RX0 yX0_began yX0_began) (by decide +kernel)⟩ (f_preV hP hK (19 + 4 * i.toNat) (by omega) 0 x_2 rfl) rfl rfl hl.1 rfl (lv_room (Nat.le_of_ble_eq_true rfl)) dX8_told_49 ⟨Nat.zero_le _, Nat.zero_le _⟩)) (fun r_6 hr_6 => ?_)
      rw [show r_6 = iN ((cst i.toNat) 0) from hr_6]
      exact r_si hx hb hr dX8_told_52 hlocks (show _ = iN (if 0 ≤ i ∧ i < (came : Int) then (if wh = 0 then cst i.toNat 0 else if wh = 1 then cstop i.toNat else if wh = 2 then ((cnp i.toNat : Nat) : Int) else if wh = 3 then csp i.toNat (cnp i.toNat - 1) else -100002) else -100001) by rw [if_pos (by omega), if_pos (by omega)])
    by_cases sw19_1 : wh = 1
    · refine n_tabIn (v := 1) (off := 34) (tgt := 53) hx hb sw19_1 (by omega) (by omega) dX8_told_19 (by decide) (by decide) (by decide) (by decide) ?_
      refine lv_aload_n hx hb dX8_told_53 rfl (lv_at hl 0 rfl) ?_
      obtain ⟨x_7, x_8, x_9, x_10⟩ := hC i.toNat (by omega)
      refine f_getN (C := RX0) (T := TX0) (N := 5) hx hb hts (by decide +kernel) hown hK hP (19 + 4 * i.toNat) (by omega) x_7 rfl 4 (by decide) (hK.nf 1 rfl) (fun _ h9 => h9) rfl dX8_told_54 ?_
      exact r_si hx hb hr dX8_told_57 hlocks (show _ = iN (if 0 ≤ i ∧ i < (came : Int) then (if wh = 0 then cst i.toNat 0 else if wh = 1 then cstop i.toNat else if wh = 2 then ((cnp i.toNat : Nat) : Int) else if wh = 3 then csp i.toNat (cnp i.toNat - 1) else -100002) else -100001) by rw [if_pos (by omega), if_neg (by omega), if_pos (by omega)])
    by_cases sw19_2 : wh = 2
    · refine n_tabIn (v := 2) (off := 39) (tgt := 58) hx hb sw19_2 (by omega) (by omega) dX8_told_19 (by decide) (by decide) (by decide) (by decide) ?_
      refine lv_aload_n hx hb dX8_told_58 rfl (lv_at hl 0 rfl) ?_
      obtain ⟨x_11, x_12, x_13, x_14⟩ := hC i.toNat (by omega)
      refine f_getN (C := RX0) (T := TX0) (N := 5) hx hb hts (by decide +kernel) hown hK hP (19 + 4 * i.toNat) (by omega) x_11 rfl 3 (by decide) (hK.nf 0 rfl) (fun _ h9 => h9) rfl dX8_told_59 ?_
      exact r_si hx hb hr dX8_told_62 hlocks (show _ = iN (if 0 ≤ i ∧ i < (came : Int) then (if wh = 0 then cst i.toNat 0 else if wh = 1 then cstop i.toNat else if wh = 2 then ((cnp i.toNat : Nat) : Int) else if wh = 3 then csp i.toNat (cnp i.toNat - 1) else -100002) else -100001) by rw [if_pos (by omega), if_neg (by omega), if_neg (by omega), if_pos (by omega)])
    by_cases sw19_3 : wh = 3
    · refine n_tabIn (v := 3) (off := 44) (tgt := 63) hx hb sw19_3 (by omega) (by omega) dX8_told_19 (by decide) (by decide) (by decide) (by decide) ?_
      refine lv_aload_n hx hb dX8_told_63 rfl (lv_at hl 0 rfl) ?_
      obtain ⟨x_15, x_16, x_17, x_18⟩ := hC i.toNat (by omega)
      refine vp_callSi (va_Run.run (va_runVN (As := []) (rest := []) ⟨hx, hb, hml, hown, hts⟩ (c_X0_latestSpeed l G w i.toNat (cst i.toNat) (cpl i.toNat) (csp i.toNat) (cnp i.toNat) (cstop i.toNat) x_15 x_16 x_17 x_18 (by omega) (hv1)) ⟨va_cnB 0 hts gX8_told_X0_latestSpeed_n92 rfl rfl rfl (hK.nm 10 rfl) (hts (.initialized RX0) (by decide +kernel)) (by decide +kernel) ⟨Nat.le_of_ble_eq_true rfl, Nat.le_of_ble_eq_true rfl⟩, hts (.instanceMethod yX0_latestSpeed) (by decide +kernel), hts (.selects RX0 yX0_latestSpeed yX0_latestSpeed) (by decide +kernel)⟩ (f_preV hP hK (19 + 4 * i.toNat) (by omega) 0 x_15 rfl) rfl rfl hl.1 rfl (lv_room (Nat.le_of_ble_eq_true rfl)) dX8_told_64 ⟨Nat.zero_le _, Nat.zero_le _⟩)) (fun r_19 hr_19 => ?_)
      rw [show r_19 = iN ((csp i.toNat) ((cnp i.toNat) - 1)) from hr_19]
      exact r_si hx hb hr dX8_told_67 hlocks (show _ = iN (if 0 ≤ i ∧ i < (came : Int) then (if wh = 0 then cst i.toNat 0 else if wh = 1 then cstop i.toNat else if wh = 2 then ((cnp i.toNat : Nat) : Int) else if wh = 3 then csp i.toNat (cnp i.toNat - 1) else -100002) else -100001) by rw [if_pos (by omega), if_neg (by omega), if_neg (by omega), if_neg (by omega), if_pos (by omega)])
    refine n_tabOut (tgt := 68) hx hb (by omega) (by omega) dX8_told_19 (by omega) (by decide) ?_
    refine n_ldc (z := (-100002)) hx hb hown (hts (.constant RX8 66 (-100002)) (by decide +kernel)) (by decide) dX8_told_68 ?_
    exact r_si hx hb hr dX8_told_70 hlocks (show _ = iN (if 0 ≤ i ∧ i < (came : Int) then (if wh = 0 then cst i.toNat 0 else if wh = 1 then cstop i.toNat else if wh = 2 then ((cnp i.toNat : Nat) : Int) else if wh = 3 then csp i.toNat (cnp i.toNat - 1) else -100002) else -100001) by rw [if_pos (by omega), if_neg (by omega), if_neg (by omega), if_neg (by omega), if_neg (by omega)])
  · refine n_ldc (z := (-100001)) hx hb hown (hts (.constant RX8 83 (-100001)) (by decide +kernel)) (by decide) dX8_told_8 ?_
    exact r_si hx hb hr dX8_told_10 hlocks (show _ = iN (if 0 ≤ i ∧ i < (came : Int) then (if wh = 0 then cst i.toNat 0 else if wh = 1 then cstop i.toNat else if wh = 2 then ((cnp i.toNat : Nat) : Int) else if wh = 3 then csp i.toNat (cnp i.toNat - 1) else -100002) else -100001) by rw [if_neg (by omega)])

set_option maxHeartbeats 4000000 in
set_option maxRecDepth 100000 in
theorem c_X8_place (l : Launch) (G : GE) (w : WF) (came : Nat) (now : Nat) (bc : Nat) (i : Int) (n : Int) (d : Int) (wh : Int) (cst : Nat → Nat → Int) (cpl : Nat → Nat → Int) (csp : Nat → Nat → Int) (cnp : Nat → Nat) (cstop : Nat → Int) (e0 : w 0 = .inr (7, [.ref (gad G 1), .int (iN ((came : Nat) : Int)), .int (iN ((now : Nat) : Int)), .ref (gad G 2), .ref (gad G 5), .int (iN ((bc : Nat) : Int)), .ref (gad G 6), .ref (gad G 10), .ref (gad G 14), .ref (gad G 15), .ref (gad G 18)])) (hC : FAM G w cst cpl csp cnp cstop) (p0 : -2147483648 ≤ i ∧ i < 2147483648) (p1 : -2147483648 ≤ n ∧ n < 2147483648) (p2 : -2147483648 ≤ d ∧ d < 2147483648) (p3 : -2147483648 ≤ wh ∧ wh < 2147483648) (p4 : OKS came cst cpl csp cnp cstop) : Met l yX8_place wsX8_place ({ frames := 2, cells := 0, slots := 0, locals := 47 }) (PcG G w [.ref (gad G 0), .int (iN i), .int (iN n), .int (iN d), .int (iN wh)]) (vp_Sl (fun r => r = jN (if 0 ≤ i ∧ i < (came : Int) then (if (1 ≤ d ∧ d ≤ 200 ∧ 0 ≤ n ∧ n ≤ 600 * d) ∧ 0 ≤ wh ∧ wh ≤ 1 then (if cst i.toNat 0 * d ≤ n ∧ (cstop i.toNat = -1 ∨ n < cstop i.toNat * d) then (if wh = 0 then frac (upAt (cst i.toNat) (cpl i.toNat) (csp i.toNat) (cnp i.toNat) n d) d / 256 else frac (upAt (cst i.toNat) (cpl i.toNat) (csp i.toNat) (cnp i.toNat) n d) d % 256) else -100003) else -100002) else -100001))) 0 0 (fun _ => False) := by
  refine Met.ofW (cc := cX8_place) (maxL := 8) (ret := (some .long)) (by decide) rfl ?_
  intro p e s m args below meth c s₁ B hml hv
  obtain ⟨rfl, hP, hK⟩ := hv
  have hx := B.exec
  have hb := B.bytes
  have hr := B.returns
  have hts := atoms_spec (ws := wsX8_place) B.pre
  have hown : s.vm.findClass RX8 = some m.cls := findClass_of_methodNamed B.named
  have hlocks := B.notSynchronized
  have hl := lv_entry ([.ref (gad G 0), .int (iN i), .int (iN n), .int (iN d), .int (iN wh)]) (n := 8) (Nat.le_of_ble_eq_true rfl)
  rw [lg_entry_eq]
  generalize (lg_sl ([.ref (gad G 0), .int (iN i), .int (iN n), .int (iN d), .int (iN wh)]) ++ List.replicate (8 - (lg_sl ([.ref (gad G 0), .int (iN i), .int (iN n), .int (iN d), .int (iN wh)])).length) Slot.unset).toArray = ls at hl ⊢
  have hl : lv_has ls 8 [(0, .ref (gad G 0)), (1, .int (iN i)), (2, .int (iN n)), (3, .int (iN d)), (4, .int (iN wh))] := hl
  have hc10 : came ≤ 10 := p4.1
  refine lv_aload_n hx hb dX8_place_0 rfl (lv_at hl 0 rfl) ?_
  refine lv_iload_n hx hb dX8_place_1 rfl (lv_at hl 1 rfl) ?_
  refine vp_callSi (W.runV (As := [.int (iN i)]) (rest := []) ⟨hx, hb, hml, hown, hts⟩ (c_X8_isKnown l G w came now bc i e0 (p0) (by omega)) (cwV 1 hts gX8_place_X8_isKnown rfl rfl rfl (by decide +kernel) ⟨Nat.le_of_ble_eq_true rfl, Nat.le_of_ble_eq_true rfl⟩) (f_preV hP hK 0 (by omega) 7 e0 rfl) rfl rfl hl.1 rfl (lv_room (Nat.le_of_ble_eq_true rfl)) dX8_place_2 ⟨Nat.zero_le _, Nat.zero_le _⟩) (fun r_1 hr_1 => ?_)
  rw [show r_1 = iN (if (0 ≤ i ∧ i < ((came : Nat) : Int)) then 1 else 0) from hr_1]
  refine n_ifb_ne (tgt := 12) hx hb dX8_place_5 (by decide) (fun c_5 => ?_) (fun c_5 => ?_)
  · refine lv_iload_n hx hb dX8_place_12 rfl (lv_at hl 2 rfl) ?_
    refine lv_iload_n hx hb dX8_place_13 rfl (lv_at hl 3 rfl) ?_
    refine vp_callSi (W.runS (As := [.int (iN n), .int (iN d)]) (rest := []) ⟨hx, hb, hml, hown, hts⟩ (c_X8_isMoment l n d (p1) (p2)) (va_cwS 2 hts gX8_place_X8_isMoment rfl rfl rfl (by decide +kernel) ⟨Nat.le_of_ble_eq_true rfl, Nat.le_of_ble_eq_true rfl⟩) ⟨fun _ _ _ _ q => q, fun _ _ _ => rfl⟩ rfl rfl hl.1 rfl (lv_room (Nat.le_of_ble_eq_true rfl)) dX8_place_14 ⟨Nat.zero_le _, Nat.zero_le _⟩) (fun r_2 hr_2 => ?_)
    rw [show r_2 = iN (if (1 ≤ d ∧ d ≤ 200 ∧ 0 ≤ n ∧ n ≤ 600 * d) then 1 else 0) from hr_2]
    refine n_ifb_eq (tgt := 30) hx hb dX8_place_17 (by decide) (fun c_17 => ?_) (fun c_17 => ?_)
    · refine n_ldc2 (z := (-100002)) hx hb hown (hts (.constantLong RX8 138 (-100002)) (by decide +kernel)) (by decide) dX8_place_30 ?_
      exact r_sl hx hb hr dX8_place_33 hlocks (show _ = jN (if 0 ≤ i ∧ i < (came : Int) then (if (1 ≤ d ∧ d ≤ 200 ∧ 0 ≤ n ∧ n ≤ 600 * d) ∧ 0 ≤ wh ∧ wh ≤ 1 then (if cst i.toNat 0 * d ≤ n ∧ (cstop i.toNat = -1 ∨ n < cstop i.toNat * d) then (if wh = 0 then frac (upAt (cst i.toNat) (cpl i.toNat) (csp i.toNat) (cnp i.toNat) n d) d / 256 else frac (upAt (cst i.toNat) (cpl i.toNat) (csp i.toNat) (cnp i.toNat) n d) d % 256) else -100003) else -100002) else -100001) by rw [if_pos (by omega), if_neg (by omega)])
    · refine lv_iload hx hb dX8_place_20 (lv_at hl 4 rfl) ?_
      refine n_iconst hx hb dX8_place_22 ?_
      refine n_iconst hx hb dX8_place_23 ?_
      refine vp_callSi (W.runS (As := [.int (iN wh), .int (iN 0), .int (iN 1)]) (rest := []) ⟨hx, hb, hml, hown, hts⟩ (c_X8_isFromTo l wh 0 1 (p3) (by omega) (by omega)) (va_cwS 3 hts gX8_place_X8_isFromTo rfl rfl rfl (by decide +kernel) ⟨Nat.le_of_ble_eq_true rfl, Nat.le_of_ble_eq_true rfl⟩) ⟨fun _ _ _ _ q => q, fun _ _ _ => rfl⟩ rfl rfl hl.1 rfl (lv_room (Nat.le_of_ble_eq_true rfl)) dX8_place_24 ⟨Nat.zero_le _, Nat.zero_le _⟩) (fun r_3 hr_3 => ?_)
      rw [show r_3 = iN (if (0 ≤ wh ∧ wh ≤ 1) then 1 else 0) from hr_3]
      refine n_ifb_ne (tgt := 34) hx hb dX8_place_27 (by decide) (fun c_27 => ?_) (fun c_27 => ?_)
      · have hVi := p4.2 i.toNat (by omega)
        obtain ⟨hv1, hv2, hv3, hv4⟩ := id hVi
        have hv20 := hv2 0 (by omega)
        have hup := upAt_rng hVi (d := d) (n := n) (by omega) (by omega)
        have hfr := frac_rng (u := upAt (cst i.toNat) (cpl i.toNat) (csp i.toNat) (cnp i.toNat) n d) (lo := d) (by omega) (by omega)
        refine lv_aload_n hx hb dX8_place_34 rfl (lv_at hl 0 rfl) ?_
        refine f_get (C := RX8) (T := TX8) (N := 11) hx hb hts (by decide +kernel) hown hK hP 0 (by omega) e0 rfl 0 (by decide) (hts (.fieldLink RX8 11 "KeptMoving" "courses" "[LKeptMoving$Course;") (by decide +kernel)) (fun _ h9 => h9) rfl dX8_place_35 ?_
        refine lv_iload_n hx hb dX8_place_38 rfl (lv_at hl 1 rfl) ?_
        refine n_aldq hx hb hK hP i.toNat (by omega) (by omega) dX8_place_39 ?_
        refine lv_astore (lv' := [(5, .ref (gad G (19 + 4 * i.toNat))), (0, .ref (gad G 0)), (1, .int (iN i)), (2, .int (iN n)), (3, .int (iN d)), (4, .int (iN wh))]) hx hb dX8_place_40 hl (by decide) rfl (fun ls hl => ?_)
        refine lv_aload hx hb dX8_place_42 (lv_at hl 0 rfl) ?_
        refine lv_iload_n hx hb dX8_place_44 rfl (lv_at hl 3 rfl) ?_
        refine lv_iload_n hx hb dX8_place_45 rfl (lv_at hl 4 rfl) ?_
        obtain ⟨x_4, x_5, x_6, x_7⟩ := hC i.toNat (by omega)
        refine vp_callSi (va_Run.run (va_runVN (As := [.int (iN n), .int (iN d)]) (rest := []) ⟨hx, hb, hml, hown, hts⟩ (c_X0_isThere l G w i.toNat (cst i.toNat) (cpl i.toNat) (csp i.toNat) (cnp i.toNat) (cstop i.toNat) n d x_4 x_5 x_6 x_7 (by omega) (hv20) (hv3) (by omega) (by omega)) ⟨va_cnB 2 hts gX8_place_X0_isThere_n140 rfl rfl rfl (hK.nm 16 rfl) (hts (.initialized RX0) (by decide +kernel)) (by decide +kernel) ⟨Nat.le_of_ble_eq_true rfl, Nat.le_of_ble_eq_true rfl⟩, hts (.instanceMethod yX0_isThere) (by decide +kernel), hts (.selects RX0 yX0_isThere yX0_isThere) (by decide +kernel)⟩ (f_preV hP hK (19 + 4 * i.toNat) (by omega) 0 x_4 rfl) rfl rfl hl.1 rfl (lv_room (Nat.le_of_ble_eq_true rfl)) dX8_place_46 ⟨Nat.zero_le _, Nat.zero_le _⟩)) (fun r_8 hr_8 => ?_)
        rw [show r_8 = iN (if ((cst i.toNat) 0 * d ≤ n ∧ ((cstop i.toNat) = -1 ∨ n < (cstop i.toNat) * d)) then 1 else 0) from hr_8]
        refine n_ifb_ne (tgt := 56) hx hb dX8_place_49 (by decide) (fun c_49 => ?_) (fun c_49 => ?_)
        · refine lv_aload hx hb dX8_place_56 (lv_at hl 0 rfl) ?_
          refine lv_iload_n hx hb dX8_place_58 rfl (lv_at hl 3 rfl) ?_
          refine lv_iload_n hx hb dX8_place_59 rfl (lv_at hl 4 rfl) ?_
          refine vp_callSi (va_Run.run (va_runVN (As := [.int (iN n), .int (iN d)]) (rest := []) ⟨hx, hb, hml, hown, hts⟩ (c_X0_upperAt l G w i.toNat (cst i.toNat) (cpl i.toNat) (csp i.toNat) (cnp i.toNat) (cstop i.toNat) n d x_4 x_5 x_6 x_7 (by omega) (hv1) (hv2) (by omega) (by omega)) ⟨va_cnB 2 hts gX8_place_X0_upperAt_n145 rfl rfl rfl (hK.nm 17 rfl) (hts (.initialized RX0) (by decide +kernel)) (by decide +kernel) ⟨Nat.le_of_ble_eq_true rfl, Nat.le_of_ble_eq_true rfl⟩, hts (.instanceMethod yX0_upperAt) (by decide +kernel), hts (.selects RX0 yX0_upperAt yX0_upperAt) (by decide +kernel)⟩ (f_preV hP hK (19 + 4 * i.toNat) (by omega) 0 x_4 rfl) rfl rfl hl.1 rfl (lv_room (Nat.le_of_ble_eq_true rfl)) dX8_place_60 ⟨Nat.zero_le _, Nat.zero_le _⟩)) (fun r_9 hr_9 => ?_)
          rw [show r_9 = iN (upAt (cst i.toNat) (cpl i.toNat) (csp i.toNat) (cnp i.toNat) n d) from hr_9]
          refine lv_iload_n hx hb dX8_place_63 rfl (lv_at hl 4 rfl) ?_
          refine vp_callSl (va_Run.run (va_runSN (As := [.int (iN (upAt (cst i.toNat) (cpl i.toNat) (csp i.toNat) (cnp i.toNat) n d)), .int (iN d)]) (rest := []) ⟨hx, hb, hml, hown, hts⟩ (c_X2_of l (upAt (cst i.toNat) (cpl i.toNat) (csp i.toNat) (cnp i.toNat) n d) d (by omega) (by omega)) ⟨va_cnB 2 hts gX8_place_X2_of_n148 rfl rfl rfl (hK.nm 35 rfl) (hts (.initialized RX2) (by decide +kernel)) (by decide +kernel) ⟨Nat.le_of_ble_eq_true rfl, Nat.le_of_ble_eq_true rfl⟩, hts (.static yX2_of) (by decide +kernel), trivial⟩ ⟨fun _ _ _ _ q => q, fun _ _ _ => rfl⟩ rfl rfl hl.1 rfl (lv_room (Nat.le_of_ble_eq_true rfl)) dX8_place_64 ⟨Nat.zero_le _, Nat.zero_le _⟩)) (fun r_10 hr_10 => ?_)
          rw [show r_10 = jN (frac (upAt (cst i.toNat) (cpl i.toNat) (csp i.toNat) (cnp i.toNat) n d) d) from hr_10]
          refine lv_lstore (lv' := [(6, .long (jN (frac (upAt (cst i.toNat) (cpl i.toNat) (csp i.toNat) (cnp i.toNat) n d) d))), (5, .ref (gad G (19 + 4 * i.toNat))), (0, .ref (gad G 0)), (1, .int (iN i)), (2, .int (iN n)), (3, .int (iN d)), (4, .int (iN wh))]) hx hb dX8_place_67 hl (by decide) rfl (fun ls hl => ?_)
          refine lv_iload hx hb dX8_place_69 (lv_at hl 6 rfl) ?_
          refine n_if_ne (tgt := 83) hx hb dX8_place_71 (by decide) (by omega) (by omega) (fun c_71 => ?_) (fun c_71 => ?_)
          · refine lv_lload hx hb dX8_place_83 (lv_at hl 0 rfl) ?_
            refine vp_callSi (va_Run.run (va_runSN (As := [.long (jN (frac (upAt (cst i.toNat) (cpl i.toNat) (csp i.toNat) (cnp i.toNat) n d) d))]) (rest := []) ⟨hx, hb, hml, hown, hts⟩ (c_X2_lower l (frac (upAt (cst i.toNat) (cpl i.toNat) (csp i.toNat) (cnp i.toNat) n d) d) (hfr)) ⟨va_cnB 1 hts gX8_place_X2_lower_n158 rfl rfl rfl (hK.nm 37 rfl) (hts (.initialized RX2) (by decide +kernel)) (by decide +kernel) ⟨Nat.le_of_ble_eq_true rfl, Nat.le_of_ble_eq_true rfl⟩, hts (.static yX2_lower) (by decide +kernel), trivial⟩ ⟨fun _ _ _ _ q => q, fun _ _ _ => rfl⟩ rfl rfl hl.1 rfl (lv_room (Nat.le_of_ble_eq_true rfl)) dX8_place_85 ⟨Nat.zero_le _, Nat.zero_le _⟩)) (fun r_11 hr_11 => ?_)
            rw [show r_11 = iN ((frac (upAt (cst i.toNat) (cpl i.toNat) (csp i.toNat) (cnp i.toNat) n d) d) % 256) from hr_11]
            refine n_i2l hx hb (by omega) (by omega) dX8_place_88 ?_
            exact r_sl hx hb hr dX8_place_89 hlocks (show _ = jN (if 0 ≤ i ∧ i < (came : Int) then (if (1 ≤ d ∧ d ≤ 200 ∧ 0 ≤ n ∧ n ≤ 600 * d) ∧ 0 ≤ wh ∧ wh ≤ 1 then (if cst i.toNat 0 * d ≤ n ∧ (cstop i.toNat = -1 ∨ n < cstop i.toNat * d) then (if wh = 0 then frac (upAt (cst i.toNat) (cpl i.toNat) (csp i.toNat) (cnp i.toNat) n d) d / 256 else frac (upAt (cst i.toNat) (cpl i.toNat) (csp i.toNat) (cnp i.toNat) n d) d % 256) else -100003) else -100002) else -100001) by rw [if_pos (by omega), if_pos (by omega), if_pos (by assumption), if_neg (by omega)])
          · refine lv_lload hx hb dX8_place_74 (lv_at hl 0 rfl) ?_
            refine vp_callSi (va_Run.run (va_runSN (As := [.long (jN (frac (upAt (cst i.toNat) (cpl i.toNat) (csp i.toNat) (cnp i.toNat) n d) d))]) (rest := []) ⟨hx, hb, hml, hown, hts⟩ (c_X2_upper l (frac (upAt (cst i.toNat) (cpl i.toNat) (csp i.toNat) (cnp i.toNat) n d) d) (hfr)) ⟨va_cnB 1 hts gX8_place_X2_upper_n154 rfl rfl rfl (hK.nm 36 rfl) (hts (.initialized RX2) (by decide +kernel)) (by decide +kernel) ⟨Nat.le_of_ble_eq_true rfl, Nat.le_of_ble_eq_true rfl⟩, hts (.static yX2_upper) (by decide +kernel), trivial⟩ ⟨fun _ _ _ _ q => q, fun _ _ _ => rfl⟩ rfl rfl hl.1 rfl (lv_room (Nat.le_of_ble_eq_true rfl)) dX8_place_76 ⟨Nat.zero_le _, Nat.zero_le _⟩)) (fun r_12 hr_12 => ?_)
            rw [show r_12 = iN ((frac (upAt (cst i.toNat) (cpl i.toNat) (csp i.toNat) (cnp i.toNat) n d) d) / 256) from hr_12]
            refine n_i2l hx hb (by omega) (by omega) dX8_place_79 ?_
            refine lv_goto (tgt := 89) hx hb dX8_place_80 (by decide) ?_
            exact r_sl hx hb hr dX8_place_89 hlocks (show _ = jN (if 0 ≤ i ∧ i < (came : Int) then (if (1 ≤ d ∧ d ≤ 200 ∧ 0 ≤ n ∧ n ≤ 600 * d) ∧ 0 ≤ wh ∧ wh ≤ 1 then (if cst i.toNat 0 * d ≤ n ∧ (cstop i.toNat = -1 ∨ n < cstop i.toNat * d) then (if wh = 0 then frac (upAt (cst i.toNat) (cpl i.toNat) (csp i.toNat) (cnp i.toNat) n d) d / 256 else frac (upAt (cst i.toNat) (cpl i.toNat) (csp i.toNat) (cnp i.toNat) n d) d % 256) else -100003) else -100002) else -100001) by rw [if_pos (by omega), if_pos (by omega), if_pos (by assumption), if_pos (by omega)])
        · refine n_ldc2 (z := (-100003)) hx hb hown (hts (.constantLong RX8 143 (-100003)) (by decide +kernel)) (by decide) dX8_place_52 ?_
          exact r_sl hx hb hr dX8_place_55 hlocks (show _ = jN (if 0 ≤ i ∧ i < (came : Int) then (if (1 ≤ d ∧ d ≤ 200 ∧ 0 ≤ n ∧ n ≤ 600 * d) ∧ 0 ≤ wh ∧ wh ≤ 1 then (if cst i.toNat 0 * d ≤ n ∧ (cstop i.toNat = -1 ∨ n < cstop i.toNat * d) then (if wh = 0 then frac (upAt (cst i.toNat) (cpl i.toNat) (csp i.toNat) (cnp i.toNat) n d) d / 256 else frac (upAt (cst i.toNat) (cpl i.toNat) (csp i.toNat) (cnp i.toNat) n d) d % 256) else -100003) else -100002) else -100001) by rw [if_pos (by omega), if_pos (by omega), if_neg (by assumption)])
      · refine n_ldc2 (z := (-100002)) hx hb hown (hts (.constantLong RX8 138 (-100002)) (by decide +kernel)) (by decide) dX8_place_30 ?_
        exact r_sl hx hb hr dX8_place_33 hlocks (show _ = jN (if 0 ≤ i ∧ i < (came : Int) then (if (1 ≤ d ∧ d ≤ 200 ∧ 0 ≤ n ∧ n ≤ 600 * d) ∧ 0 ≤ wh ∧ wh ≤ 1 then (if cst i.toNat 0 * d ≤ n ∧ (cstop i.toNat = -1 ∨ n < cstop i.toNat * d) then (if wh = 0 then frac (upAt (cst i.toNat) (cpl i.toNat) (csp i.toNat) (cnp i.toNat) n d) d / 256 else frac (upAt (cst i.toNat) (cpl i.toNat) (csp i.toNat) (cnp i.toNat) n d) d % 256) else -100003) else -100002) else -100001) by rw [if_pos (by omega), if_neg (by omega)])
  · refine n_ldc2 (z := (-100001)) hx hb hown (hts (.constantLong RX8 132 (-100001)) (by decide +kernel)) (by decide) dX8_place_8 ?_
    exact r_sl hx hb hr dX8_place_11 hlocks (show _ = jN (if 0 ≤ i ∧ i < (came : Int) then (if (1 ≤ d ∧ d ≤ 200 ∧ 0 ≤ n ∧ n ≤ 600 * d) ∧ 0 ≤ wh ∧ wh ≤ 1 then (if cst i.toNat 0 * d ≤ n ∧ (cstop i.toNat = -1 ∨ n < cstop i.toNat * d) then (if wh = 0 then frac (upAt (cst i.toNat) (cpl i.toNat) (csp i.toNat) (cnp i.toNat) n d) d / 256 else frac (upAt (cst i.toNat) (cpl i.toNat) (csp i.toNat) (cnp i.toNat) n d) d % 256) else -100003) else -100002) else -100001) by rw [if_neg (by omega)])

/-- who is there at a moment, and where (upper numbers over one lower number) -/
def upF (cst cpl csp : Nat → Nat → Int) (cnp : Nat → Nat) (n d : Int) : Nat → Int := fun i => upAt (cst i) (cpl i) (csp i) (cnp i) n d
def thF (cst : Nat → Nat → Int) (cstop : Nat → Int) (n d : Int) : Nat → Bool := fun i => decide (cst i 0 * d ≤ n ∧ (cstop i = -1 ∨ n < cstop i * d))
def tellR (f : Nat → Int) (th : Nat → Bool) (came : Nat) (k : Int) : Int := if 0 ≤ k ∧ k < ((ordR f th came).1 : Int) then (((ordR f th came).2 k.toNat : Nat) : Int) else -1
theorem isOrd_tell {f : Nat → Int} {th : Nat → Bool} {came sz : Nat} {nums upps : Nat → Int} (h : isOrd f th came sz nums upps) (k : Int) : (if 0 ≤ k ∧ k < (sz : Int) then nums k.toNat else -1) = tellR f th came k := by
  obtain ⟨rfl, h2⟩ := h
  unfold tellR
  by_cases h : 0 ≤ k ∧ k < ((ordR f th came).1 : Int)
  · rw [if_pos h, if_pos h]
    exact (h2 _ (by omega)).1
  · rw [if_neg h, if_neg h]
theorem clP_cong {u v : Nat → Int} : ∀ {n : Nat}, (∀ k, k < n → u k = v k) → clP u n = clP v n
  | 0, _ => rfl
  | 1, _ => rfl
  | n + 2, h => by
    have ih := clP_cong (n := n + 1) (fun k hk => h k (by omega))
    unfold clP
    rw [ih, h n (by omega), h (n + 1) (by omega)]
theorem hpC_cong {u v : Nat → Int} {wd : Int} : ∀ {n : Nat}, (∀ k, k < n → u k = v k) → hpC u wd n = hpC v wd n
  | 0, _ => rfl
  | 1, _ => rfl
  | n + 2, h => by
    have ih := hpC_cong (wd := wd) (n := n + 1) (fun k hk => h k (by omega))
    unfold hpC
    rw [ih, h n (by omega), h (n + 1) (by omega)]
/-- the upper numbers of the order -/
def ordU (f : Nat → Int) (th : Nat → Bool) (came : Nat) : Nat → Int := fun k => f ((ordR f th came).2 k)

theorem ordB {came : Nat} {cst cpl csp : Nat → Nat → Int} {cnp : Nat → Nat} {cstop : Nat → Int} {n d : Int} {q sz : Nat} {nums upps : Nat → Int} (hV : OKS came cst cpl csp cnp cstop) (hd : 1 ≤ d ∧ d ≤ 200) (hn : 0 ≤ n ∧ n ≤ 600 * d) (hq : q ≤ came) (h : isOrd (upF cst cpl csp cnp n d) (thF cst cstop n d) q sz nums upps) : ∀ k : Nat, k < sz → -100000000 ≤ upps k ∧ upps k ≤ 100000000 := fun k hk => by
  rw [(h.2 k hk).2]
  have hlt := ordR_lt (upF cst cpl csp cnp n d) (thF cst cstop n d) q k (by rw [← h.1]; exact hk)
  have h3 := upAt_rng (hV.2 _ (Nat.lt_of_lt_of_le hlt hq)) hd hn
  exact ⟨Int.le_trans (by decide) h3.1, Int.le_trans h3.2.1 (by decide)⟩

set_option maxHeartbeats 4000000 in
set_option maxRecDepth 100000 in
theorem c_X8_lineUp (l : Launch) (G : GE) (w : WF) (came : Nat) (now : Nat) (bc : Nat) (lsz : Nat) (lnum : Nat → Int) (lupp : Nat → Int) (n : Int) (d : Int) (cst : Nat → Nat → Int) (cpl : Nat → Nat → Int) (csp : Nat → Nat → Int) (cnp : Nat → Nat) (cstop : Nat → Int) (e0 : w 0 = .inr (7, [.ref (gad G 1), .int (iN ((came : Nat) : Int)), .int (iN ((now : Nat) : Int)), .ref (gad G 2), .ref (gad G 5), .int (iN ((bc : Nat) : Int)), .ref (gad G 6), .ref (gad G 10), .ref (gad G 14), .ref (gad G 15), .ref (gad G 18)])) (e1 : w 2 = .inr (2, [.ref (gad G 3), .ref (gad G 4), .int (iN ((lsz : Nat) : Int))])) (e2 : w 3 = .inl (gI G, 10, .inl (aN lnum))) (e3 : w 4 = .inl (gI G, 10, .inl (aN lupp))) (hC : FAM G w cst cpl csp cnp cstop) (p0 : 1 ≤ d ∧ d ≤ 200) (p1 : 0 ≤ n ∧ n ≤ 600 * d) (p2 : OKS came cst cpl csp cnp cstop) : Met l yX8_lineUp wsX8_lineUp ({ frames := 2, cells := 0, slots := 0, locals := 47 }) (PcG G w [.ref (gad G 0), .int (iN n), .int (iN d)]) (QV G (fun w1 => ∃ (sz2 : Nat) (nums2 : Nat → Int) (upps2 : Nat → Int), (∀ k : Nat, k ≠ 2 → k ≠ 3 → k ≠ 4 → w1 k = w k) ∧ w1 2 = .inr (2, [.ref (gad G 3), .ref (gad G 4), .int (iN ((sz2 : Nat) : Int))]) ∧ w1 3 = .inl (gI G, 10, .inl (aN nums2)) ∧ w1 4 = .inl (gI G, 10, .inl (aN upps2)) ∧ (isOrd (upF cst cpl csp cnp n d) (thF cst cstop n d) came sz2 nums2 upps2))) 0 0 (AA G) := by
  refine Met.ofW (cc := cX8_lineUp) (maxL := 4) (ret := none) (by decide) rfl ?_
  intro p e s m args below meth c s₁ B hml hv
  obtain ⟨rfl, hP, hK⟩ := hv
  have hx := B.exec
  have hb := B.bytes
  have hr := B.returns
  have hts := atoms_spec (ws := wsX8_lineUp) B.pre
  have hown : s.vm.findClass RX8 = some m.cls := findClass_of_methodNamed B.named
  have hlocks := B.notSynchronized
  have hS : va_S (AA G) s.heap s.heap [] := va_S.rf
  have hAA : ∀ q, AA G q → AA G q := fun _ h => h
  have hl := lv_entry ([.ref (gad G 0), .int (iN n), .int (iN d)]) (n := 4) (Nat.le_of_ble_eq_true rfl)
  rw [lg_entry_eq]
  generalize (lg_sl ([.ref (gad G 0), .int (iN n), .int (iN d)]) ++ List.replicate (4 - (lg_sl ([.ref (gad G 0), .int (iN n), .int (iN d)])).length) Slot.unset).toArray = ls at hl ⊢
  have hl : lv_has ls 4 [(0, .ref (gad G 0)), (1, .int (iN n)), (2, .int (iN d))] := hl
  have hc10 : came ≤ 10 := p2.1
  refine lv_aload_n hx hb dX8_lineUp_0 rfl (lv_at hl 0 rfl) ?_
  refine f_get (C := RX8) (T := TX8) (N := 11) hx hb hts (by decide +kernel) hown hK hP 0 (by omega) e0 rfl 3 (by decide) (hts (.fieldLink RX8 19 "KeptMoving" "line" "LKeptMoving$Line;") (by decide +kernel)) (fun _ h9 => h9) rfl dX8_lineUp_1 ?_
  refine f_callv (va_Run.run (va_runVN (As := []) (rest := []) ⟨hx, hb, hml, hown, hts⟩ (c_X3_clear l G w lsz lnum lupp e1 e2 e3) ⟨va_cnB 0 hts gX8_lineUp_X3_clear_n220 rfl rfl rfl (hK.nm 15 rfl) (hts (.initialized RX3) (by decide +kernel)) (by decide +kernel) ⟨Nat.le_of_ble_eq_true rfl, Nat.le_of_ble_eq_true rfl⟩, hts (.instanceMethod yX3_clear) (by decide +kernel), hts (.selects RX3 yX3_clear yX3_clear) (by decide +kernel)⟩ (f_preV hP hK 2 (by omega) 2 e1 rfl) rfl rfl hl.1 rfl (lv_room (Nat.le_of_ble_eq_true rfl)) dX8_lineUp_4 ⟨Nat.zero_le _, Nat.zero_le _⟩)) hS hAA (fun w_1 H locs q_2 hP hS => ?_)
  obtain ⟨fr_3, e_4⟩ := q_2
  have e_5 : w_1 0 = .inr (7, [.ref (gad G 1), .int (iN ((came : Nat) : Int)), .int (iN ((now : Nat) : Int)), .ref (gad G 2), .ref (gad G 5), .int (iN ((bc : Nat) : Int)), .ref (gad G 6), .ref (gad G 10), .ref (gad G 14), .ref (gad G 15), .ref (gad G 18)]) := (fr_3 0 (by omega)).trans e0
  have e_6 : w_1 3 = .inl (gI G, 10, .inl (aN lnum)) := (fr_3 3 (by omega)).trans e2
  have e_7 : w_1 4 = .inl (gI G, 10, .inl (aN lupp)) := (fr_3 4 (by omega)).trans e3
  have e_8 : w_1 2 = .inr (2, [.ref (gad G 3), .ref (gad G 4), .int (iN 0)]) := e_4
  have hC_9 : FAM G w_1 cst cpl csp cnp cstop := hC.keep (fun k h1 h2 => fr_3 k (by omega))
  refine n_iconst hx hb dX8_lineUp_7 ?_
  refine lv_istore_n (lv' := [(3, .int (iN 0)), (0, .ref (gad G 0)), (1, .int (iN n)), (2, .int (iN d))]) hx hb dX8_lineUp_8 rfl hl (by decide) rfl (fun ls hl => ?_)
  have K9 : ∀ (N : Nat) (q : Nat) (sz2 : Nat) (nums2 : Nat → Int) (upps2 : Nat → Int) (w2 : WF) (H : Heap) (locs : List Loc) (ls : Array Slot), (q ≤ came) → (isOrd (upF cst cpl csp cnp n d) (thF cst cstop n d) q sz2 nums2 upps2) → 11 - q < N → w2 2 = .inr (2, [.ref (gad G 3), .ref (gad G 4), .int (iN ((sz2 : Nat) : Int))]) → w2 3 = .inl (gI G, 10, .inl (aN nums2)) → w2 4 = .inl (gI G, 10, .inl (aN upps2)) → (∀ k : Nat, k ≠ 2 → k ≠ 3 → k ≠ 4 → w2 k = w k) → PW G w2 H → va_S (AA G) s.heap H locs → lv_has ls 4 [(0, .ref (gad G 0)), (1, .int (iN n)), (2, .int (iN d)), (3, .int (iN ((q : Nat) : Int)))] → W p l e (headSpec wsX8_lineUp ({ frames := 2, cells := 0, slots := 0, locals := 47 })).room s m (([.ref (gad G 0), .int (iN n), .int (iN d)] : List Value).toArray) below meth c H locs 0 0 (MQ below (QV G (fun w1 => ∃ (sz2 : Nat) (nums2 : Nat → Int) (upps2 : Nat → Int), (∀ k : Nat, k ≠ 2 → k ≠ 3 → k ≠ 4 → w1 k = w k) ∧ w1 2 = .inr (2, [.ref (gad G 3), .ref (gad G 4), .int (iN ((sz2 : Nat) : Int))]) ∧ w1 3 = .inl (gI G, 10, .inl (aN nums2)) ∧ w1 4 = .inl (gI G, 10, .inl (aN upps2)) ∧ (isOrd (upF cst cpl csp cnp n d) (thF cst cstop n d) came sz2 nums2 upps2))) (([.ref (gad G 0), .int (iN n), .int (iN d)] : List Value).toArray) s 0 0 (AA G)) (F0 m 9 ls []) := by
    intro N
    induction N with
    | zero =>
      intros
      exfalso
      omega
    | succ N ih9 =>
      intro q sz2 nums2 upps2 w2 H locs ls i9_0 i9_1 hN9 f9_0 f9_1 f9_2 hfr9 hP hS hl
      have e_10 : w2 0 = .inr (7, [.ref (gad G 1), .int (iN ((came : Nat) : Int)), .int (iN ((now : Nat) : Int)), .ref (gad G 2), .ref (gad G 5), .int (iN ((bc : Nat) : Int)), .ref (gad G 6), .ref (gad G 10), .ref (gad G 14), .ref (gad G 15), .ref (gad G 18)]) := by rw [hfr9 0 (by omega) (by omega) (by omega)]; exact e0
      have hC9 : FAM G w2 cst cpl csp cnp cstop := hC.keep (fun k h1 h2 => hfr9 k (by omega) (by omega) (by omega))
      refine lv_iload_n hx hb dX8_lineUp_9 rfl (lv_at hl 3 rfl) ?_
      refine lv_aload_n hx hb dX8_lineUp_10 rfl (lv_at hl 0 rfl) ?_
      refine f_get (C := RX8) (T := TX8) (N := 11) hx hb hts (by decide +kernel) hown hK hP 0 (by omega) e_10 rfl 1 (by decide) (hts (.fieldLink RX8 67 "KeptMoving" "came" "I") (by decide +kernel)) (fun _ h9 => h9) rfl dX8_lineUp_11 ?_
      refine n_icmp_ge (tgt := 56) hx hb dX8_lineUp_14 (by decide) (by omega) (by omega) (by omega) (by omega) (fun c_14 => ?_) (fun c_14 => ?_)
      · exact r_v hx hb hr dX8_lineUp_56 hlocks hP hS (⟨sz2, nums2, upps2, (fun k h0 h1 h2 => hfr9 k (by omega) (by omega) (by omega)), f9_0, f9_1, f9_2, (by rw [show came = q by omega]; exact i9_1)⟩)
      · have hqq : q < came := by omega
        have hVi := p2.2 q hqq
        obtain ⟨hv1, hv2, hv3, hv4⟩ := id hVi
        have hv20 := hv2 0 (by omega)
        have hup := upAt_rng hVi p0 p1
        have hole := ordR_le (upF cst cpl csp cnp n d) (thF cst cstop n d) q
        have hosz : sz2 = (ordR (upF cst cpl csp cnp n d) (thF cst cstop n d) q).1 := i9_1.1
        refine lv_aload_n hx hb dX8_lineUp_17 rfl (lv_at hl 0 rfl) ?_
        refine f_get (C := RX8) (T := TX8) (N := 11) hx hb hts (by decide +kernel) hown hK hP 0 (by omega) e_10 rfl 0 (by decide) (hts (.fieldLink RX8 11 "KeptMoving" "courses" "[LKeptMoving$Course;") (by decide +kernel)) (fun _ h9 => h9) rfl dX8_lineUp_18 ?_
        refine lv_iload_n hx hb dX8_lineUp_21 rfl (lv_at hl 3 rfl) ?_
        refine n_aldq hx hb hK hP q (rfl) (by omega) dX8_lineUp_22 ?_
        refine lv_iload_n hx hb dX8_lineUp_23 rfl (lv_at hl 1 rfl) ?_
        refine lv_iload_n hx hb dX8_lineUp_24 rfl (lv_at hl 2 rfl) ?_
        obtain ⟨x_11, x_12, x_13, x_14⟩ := hC9 q (by omega)
        refine vp_callSi (va_Run.run (va_runVN (As := [.int (iN n), .int (iN d)]) (rest := []) ⟨hx, hb, hml, hown, hts⟩ (c_X0_isThere l G w2 q (cst q) (cpl q) (csp q) (cnp q) (cstop q) n d x_11 x_12 x_13 x_14 (by omega) (hv20) (hv3) (by omega) (p0)) ⟨va_cnB 2 hts gX8_lineUp_X0_isThere_n140 rfl rfl rfl (hK.nm 16 rfl) (hts (.initialized RX0) (by decide +kernel)) (by decide +kernel) ⟨Nat.le_of_ble_eq_true rfl, Nat.le_of_ble_eq_true rfl⟩, hts (.instanceMethod yX0_isThere) (by decide +kernel), hts (.selects RX0 yX0_isThere yX0_isThere) (by decide +kernel)⟩ (f_preV hP hK (19 + 4 * q) (by omega) 0 x_11 rfl) rfl rfl hl.1 rfl (lv_room (Nat.le_of_ble_eq_true rfl)) dX8_lineUp_25 ⟨Nat.zero_le _, Nat.zero_le _⟩)) (fun r_15 hr_15 => ?_)
        rw [show r_15 = iN (if ((cst q) 0 * d ≤ n ∧ ((cstop q) = -1 ∨ n < (cstop q) * d)) then 1 else 0) from hr_15]
        refine n_ifb_eq (tgt := 50) hx hb dX8_lineUp_28 (by decide) (fun c_28 => ?_) (fun c_28 => ?_)
        · refine lv_iinc (v := iN ((q + 1 : Nat) : Int)) (lv' := [(3, .int (iN ((q + 1 : Nat) : Int))), (0, .ref (gad G 0)), (1, .int (iN n)), (2, .int (iN d))]) hx hb dX8_lineUp_50 hl (k := 3) rfl (iN_incN _) (by decide) rfl (fun ls hl => ?_)
          refine lv_goto (tgt := 9) hx hb dX8_lineUp_53 (by decide) ?_
          exact ih9 (q + 1) (sz2) (nums2) (upps2) w2 _ _ _ (by omega) (isOrd_out i9_1 (fun z => c_28 (of_decide_eq_true z))) (by omega) (f9_0) (f9_1) (f9_2) (fun k h0 h1 h2 => hfr9 k (by omega) (by omega) (by omega)) hP hS (lv_sub hl [1, 2, 3, 0] rfl)
        · refine lv_aload_n hx hb dX8_lineUp_31 rfl (lv_at hl 0 rfl) ?_
          refine f_get (C := RX8) (T := TX8) (N := 11) hx hb hts (by decide +kernel) hown hK hP 0 (by omega) e_10 rfl 3 (by decide) (hts (.fieldLink RX8 19 "KeptMoving" "line" "LKeptMoving$Line;") (by decide +kernel)) (fun _ h9 => h9) rfl dX8_lineUp_32 ?_
          refine lv_iload_n hx hb dX8_lineUp_35 rfl (lv_at hl 3 rfl) ?_
          refine lv_aload_n hx hb dX8_lineUp_36 rfl (lv_at hl 0 rfl) ?_
          refine f_get (C := RX8) (T := TX8) (N := 11) hx hb hts (by decide +kernel) hown hK hP 0 (by omega) e_10 rfl 0 (by decide) (hts (.fieldLink RX8 11 "KeptMoving" "courses" "[LKeptMoving$Course;") (by decide +kernel)) (fun _ h9 => h9) rfl dX8_lineUp_37 ?_
          refine lv_iload_n hx hb dX8_lineUp_40 rfl (lv_at hl 3 rfl) ?_
          refine n_aldq hx hb hK hP q (rfl) (by omega) dX8_lineUp_41 ?_
          refine lv_iload_n hx hb dX8_lineUp_42 rfl (lv_at hl 1 rfl) ?_
          refine lv_iload_n hx hb dX8_lineUp_43 rfl (lv_at hl 2 rfl) ?_
          refine vp_callSi (va_Run.run (va_runVN (As := [.int (iN n), .int (iN d)]) (rest := [.int (iN ((q : Nat) : Int)), .ref (gad G 2)]) ⟨hx, hb, hml, hown, hts⟩ (c_X0_upperAt l G w2 q (cst q) (cpl q) (csp q) (cnp q) (cstop q) n d x_11 x_12 x_13 x_14 (by omega) (hv1) (hv2) (by omega) (p0)) ⟨va_cnB 2 hts gX8_lineUp_X0_upperAt_n145 rfl rfl rfl (hK.nm 17 rfl) (hts (.initialized RX0) (by decide +kernel)) (by decide +kernel) ⟨Nat.le_of_ble_eq_true rfl, Nat.le_of_ble_eq_true rfl⟩, hts (.instanceMethod yX0_upperAt) (by decide +kernel), hts (.selects RX0 yX0_upperAt yX0_upperAt) (by decide +kernel)⟩ (f_preV hP hK (19 + 4 * q) (by omega) 0 x_11 rfl) rfl rfl hl.1 rfl (lv_room (Nat.le_of_ble_eq_true rfl)) dX8_lineUp_44 ⟨Nat.zero_le _, Nat.zero_le _⟩)) (fun r_16 hr_16 => ?_)
          rw [show r_16 = iN (upAt (cst q) (cpl q) (csp q) (cnp q) n d) from hr_16]
          refine f_callv (va_Run.run (va_runVN (As := [.int (iN ((q : Nat) : Int)), .int (iN (upAt (cst q) (cpl q) (csp q) (cnp q) n d))]) (rest := []) ⟨hx, hb, hml, hown, hts⟩ (c_X3_insert l G w2 sz2 nums2 upps2 ((q : Nat) : Int) (upAt (cst q) (cpl q) (csp q) (cnp q) n d) f9_0 f9_1 f9_2 (by omega) (ordB p2 p0 p1 (by omega) i9_1) (by omega)) ⟨va_cnB 2 hts gX8_lineUp_X3_insert_n223 rfl rfl rfl (hK.nm 18 rfl) (hts (.initialized RX3) (by decide +kernel)) (by decide +kernel) ⟨Nat.le_of_ble_eq_true rfl, Nat.le_of_ble_eq_true rfl⟩, hts (.instanceMethod yX3_insert) (by decide +kernel), hts (.selects RX3 yX3_insert yX3_insert) (by decide +kernel)⟩ (f_preV hP hK 2 (by omega) 2 f9_0 rfl) rfl rfl hl.1 rfl (lv_room (Nat.le_of_ble_eq_true rfl)) dX8_lineUp_47 ⟨Nat.zero_le _, Nat.zero_le _⟩)) hS hAA (fun w_17 H locs q_18 hP hS => ?_)
          obtain ⟨fr_19, e_20, e_21, e_22⟩ := q_18
          have e_23 : w_17 0 = .inr (7, [.ref (gad G 1), .int (iN ((came : Nat) : Int)), .int (iN ((now : Nat) : Int)), .ref (gad G 2), .ref (gad G 5), .int (iN ((bc : Nat) : Int)), .ref (gad G 6), .ref (gad G 10), .ref (gad G 14), .ref (gad G 15), .ref (gad G 18)]) := (fr_19 0 (by omega) (by omega) (by omega)).trans e_10
          have e_24 : w_17 2 = .inr (2, [.ref (gad G 3), .ref (gad G 4), .int (iN ((sz2 + 1 : Nat) : Int))]) := e_20
          have e_25 : w_17 3 = .inl (gI G, 10, .inl (aN (insF nums2 (spotP (fun k => decide ((upAt (cst q) (cpl q) (csp q) (cnp q) n d) < upps2 k)) sz2) sz2 ((q : Nat) : Int)))) := e_21
          have e_26 : w_17 4 = .inl (gI G, 10, .inl (aN (insF upps2 (spotP (fun k => decide ((upAt (cst q) (cpl q) (csp q) (cnp q) n d) < upps2 k)) sz2) sz2 (upAt (cst q) (cpl q) (csp q) (cnp q) n d)))) := e_22
          have hC_27 : FAM G w_17 cst cpl csp cnp cstop := hC9.keep (fun k h1 h2 => fr_19 k (by omega) (by omega) (by omega))
          refine lv_iinc (v := iN ((q + 1 : Nat) : Int)) (lv' := [(3, .int (iN ((q + 1 : Nat) : Int))), (0, .ref (gad G 0)), (1, .int (iN n)), (2, .int (iN d))]) hx hb dX8_lineUp_50 hl (k := 3) rfl (iN_incN _) (by decide) rfl (fun ls hl => ?_)
          refine lv_goto (tgt := 9) hx hb dX8_lineUp_53 (by decide) ?_
          exact ih9 (q + 1) (sz2 + 1) (insF nums2 (spotP (fun k => decide ((upAt (cst q) (cpl q) (csp q) (cnp q) n d) < upps2 k)) sz2) sz2 ((q : Nat) : Int)) (insF upps2 (spotP (fun k => decide ((upAt (cst q) (cpl q) (csp q) (cnp q) n d) < upps2 k)) sz2) sz2 (upAt (cst q) (cpl q) (csp q) (cnp q) n d)) w_17 _ _ _ (by omega) (isOrd_in i9_1 (decide_eq_true c_28) rfl) (by omega) (e_24) (e_25) (e_26) (fun k h0 h1 h2 => ((fr_19 k (by omega) (by omega) (by omega)).trans (hfr9 k (by omega) (by omega) (by omega)))) hP hS (lv_sub hl [1, 2, 3, 0] rfl)
  exact K9 ((11 - 0) + 1) (0) (0) (lnum) (lupp) w_1 _ _ _ (by omega) (⟨rfl, fun k hk => absurd hk (Nat.not_lt_zero k)⟩) (by omega) (e_8) (e_6) (e_7) (fun k h0 h1 h2 => fr_3 k (by omega)) hP hS (lv_sub hl [1, 2, 3, 0] rfl)

set_option maxHeartbeats 4000000 in
set_option maxRecDepth 100000 in
theorem c_X8_order (l : Launch) (G : GE) (w : WF) (came : Nat) (now : Nat) (bc : Nat) (lsz : Nat) (lnum : Nat → Int) (lupp : Nat → Int) (n : Int) (d : Int) (k : Int) (cst : Nat → Nat → Int) (cpl : Nat → Nat → Int) (csp : Nat → Nat → Int) (cnp : Nat → Nat) (cstop : Nat → Int) (e0 : w 0 = .inr (7, [.ref (gad G 1), .int (iN ((came : Nat) : Int)), .int (iN ((now : Nat) : Int)), .ref (gad G 2), .ref (gad G 5), .int (iN ((bc : Nat) : Int)), .ref (gad G 6), .ref (gad G 10), .ref (gad G 14), .ref (gad G 15), .ref (gad G 18)])) (e1 : w 2 = .inr (2, [.ref (gad G 3), .ref (gad G 4), .int (iN ((lsz : Nat) : Int))])) (e2 : w 3 = .inl (gI G, 10, .inl (aN lnum))) (e3 : w 4 = .inl (gI G, 10, .inl (aN lupp))) (hC : FAM G w cst cpl csp cnp cstop) (p0 : -2147483648 ≤ n ∧ n < 2147483648) (p1 : -2147483648 ≤ d ∧ d < 2147483648) (p2 : -2147483648 ≤ k ∧ k < 2147483648) (p3 : OKS came cst cpl csp cnp cstop) : Met l yX8_order wsX8_order ({ frames := 3, cells := 0, slots := 0, locals := 70 }) (PcG G w [.ref (gad G 0), .int (iN n), .int (iN d), .int (iN k)]) (QI G (fun r w1 => r = iN (if (1 ≤ d ∧ d ≤ 200 ∧ 0 ≤ n ∧ n ≤ 600 * d) then tellR (upF cst cpl csp cnp n d) (thF cst cstop n d) came k else -100002) ∧ ∃ (sz3 : Nat) (nums3 : Nat → Int) (upps3 : Nat → Int), (∀ k : Nat, k ≠ 2 → k ≠ 3 → k ≠ 4 → w1 k = w k) ∧ w1 2 = .inr (2, [.ref (gad G 3), .ref (gad G 4), .int (iN ((sz3 : Nat) : Int))]) ∧ w1 3 = .inl (gI G, 10, .inl (aN nums3)) ∧ w1 4 = .inl (gI G, 10, .inl (aN upps3)))) 0 0 (AA G) := by
  refine Met.ofW (cc := cX8_order) (maxL := 4) (ret := (some .int)) (by decide) rfl ?_
  intro p e s m args below meth c s₁ B hml hv
  obtain ⟨rfl, hP, hK⟩ := hv
  have hx := B.exec
  have hb := B.bytes
  have hr := B.returns
  have hts := atoms_spec (ws := wsX8_order) B.pre
  have hown : s.vm.findClass RX8 = some m.cls := findClass_of_methodNamed B.named
  have hlocks := B.notSynchronized
  have hS : va_S (AA G) s.heap s.heap [] := va_S.rf
  have hAA : ∀ q, AA G q → AA G q := fun _ h => h
  have hl := lv_entry ([.ref (gad G 0), .int (iN n), .int (iN d), .int (iN k)]) (n := 4) (Nat.le_of_ble_eq_true rfl)
  rw [lg_entry_eq]
  generalize (lg_sl ([.ref (gad G 0), .int (iN n), .int (iN d), .int (iN k)]) ++ List.replicate (4 - (lg_sl ([.ref (gad G 0), .int (iN n), .int (iN d), .int (iN k)])).length) Slot.unset).toArray = ls at hl ⊢
  have hl : lv_has ls 4 [(0, .ref (gad G 0)), (1, .int (iN n)), (2, .int (iN d)), (3, .int (iN k))] := hl
  have hc10 : came ≤ 10 := p3.1
  refine lv_iload_n hx hb dX8_order_0 rfl (lv_at hl 1 rfl) ?_
  refine lv_iload_n hx hb dX8_order_1 rfl (lv_at hl 2 rfl) ?_
  refine vp_callSi (W.runS (As := [.int (iN n), .int (iN d)]) (rest := []) ⟨hx, hb, hml, hown, hts⟩ (c_X8_isMoment l n d (p0) (p1)) (va_cwS 2 hts gX8_order_X8_isMoment rfl rfl rfl (by decide +kernel) ⟨Nat.le_of_ble_eq_true rfl, Nat.le_of_ble_eq_true rfl⟩) ⟨fun _ _ _ _ q => q, fun _ _ _ => rfl⟩ rfl rfl hl.1 rfl (lv_room (Nat.le_of_ble_eq_true rfl)) dX8_order_2 ⟨Nat.zero_le _, Nat.zero_le _⟩) (fun r_1 hr_1 => ?_)
  rw [show r_1 = iN (if (1 ≤ d ∧ d ≤ 200 ∧ 0 ≤ n ∧ n ≤ 600 * d) then 1 else 0) from hr_1]
  refine n_ifb_ne (tgt := 11) hx hb dX8_order_5 (by decide) (fun c_5 => ?_) (fun c_5 => ?_)
  · refine lv_aload_n hx hb dX8_order_11 rfl (lv_at hl 0 rfl) ?_
    refine lv_iload_n hx hb dX8_order_12 rfl (lv_at hl 1 rfl) ?_
    refine lv_iload_n hx hb dX8_order_13 rfl (lv_at hl 2 rfl) ?_
    refine f_callv (W.runV (As := [.int (iN n), .int (iN d)]) (rest := []) ⟨hx, hb, hml, hown, hts⟩ (c_X8_lineUp l G w came now bc lsz lnum lupp n d cst cpl csp cnp cstop e0 e1 e2 e3 hC (by omega) (by omega) (p3)) (cwV 2 hts gX8_order_X8_lineUp rfl rfl rfl (by decide +kernel) ⟨Nat.le_of_ble_eq_true rfl, Nat.le_of_ble_eq_true rfl⟩) (f_preV hP hK 0 (by omega) 7 e0 rfl) rfl rfl hl.1 rfl (lv_room (Nat.le_of_ble_eq_true rfl)) dX8_order_14 ⟨Nat.zero_le _, Nat.zero_le _⟩) hS hAA (fun w_2 H locs q_3 hP hS => ?_)
    obtain ⟨sz2_4, nums2_5, upps2_6, fr_7, e_8, e_9, e_10, q_11⟩ := q_3
    have e_12 : w_2 0 = .inr (7, [.ref (gad G 1), .int (iN ((came : Nat) : Int)), .int (iN ((now : Nat) : Int)), .ref (gad G 2), .ref (gad G 5), .int (iN ((bc : Nat) : Int)), .ref (gad G 6), .ref (gad G 10), .ref (gad G 14), .ref (gad G 15), .ref (gad G 18)]) := (fr_7 0 (by omega) (by omega) (by omega)).trans e0
    have e_13 : w_2 2 = .inr (2, [.ref (gad G 3), .ref (gad G 4), .int (iN ((sz2_4 : Nat) : Int))]) := e_8
    have e_14 : w_2 3 = .inl (gI G, 10, .inl (aN nums2_5)) := e_9
    have e_15 : w_2 4 = .inl (gI G, 10, .inl (aN upps2_6)) := e_10
    have hC_16 : FAM G w_2 cst cpl csp cnp cstop := hC.keep (fun k h1 h2 => fr_7 k (by omega) (by omega) (by omega))
    refine lv_aload_n hx hb dX8_order_17 rfl (lv_at hl 0 rfl) ?_
    refine f_get (C := RX8) (T := TX8) (N := 11) hx hb hts (by decide +kernel) hown hK hP 0 (by omega) e_12 rfl 3 (by decide) (hts (.fieldLink RX8 19 "KeptMoving" "line" "LKeptMoving$Line;") (by decide +kernel)) (fun _ h9 => h9) rfl dX8_order_18 ?_
    refine lv_iload_n hx hb dX8_order_21 rfl (lv_at hl 3 rfl) ?_
    refine vp_callSi (va_Run.run (va_runVN (As := [.int (iN k)]) (rest := []) ⟨hx, hb, hml, hown, hts⟩ (c_X3_tell l G w_2 sz2_4 nums2_5 upps2_6 k e_13 e_14 e_15 (by rw [q_11.1]; exact Nat.le_trans (ordR_le _ _ _) hc10) (p2)) ⟨va_cnB 1 hts gX8_order_X3_tell_n161 rfl rfl rfl (hK.nm 38 rfl) (hts (.initialized RX3) (by decide +kernel)) (by decide +kernel) ⟨Nat.le_of_ble_eq_true rfl, Nat.le_of_ble_eq_true rfl⟩, hts (.instanceMethod yX3_tell) (by decide +kernel), hts (.selects RX3 yX3_tell yX3_tell) (by decide +kernel)⟩ (f_preV hP hK 2 (by omega) 2 e_13 rfl) rfl rfl hl.1 rfl (lv_room (Nat.le_of_ble_eq_true rfl)) dX8_order_22 ⟨Nat.zero_le _, Nat.zero_le _⟩)) (fun r_17 hr_17 => ?_)
    rw [show r_17 = iN (if 0 ≤ k ∧ k < ((sz2_4 : Nat) : Int) then nums2_5 k.toNat else -1) from hr_17]
    exact r_i hx hb hr dX8_order_25 hlocks hP hS ⟨(congrArg iN (by rw [if_pos (show (1 ≤ d ∧ d ≤ 200 ∧ 0 ≤ n ∧ n ≤ 600 * d) by omega)]; exact isOrd_tell q_11 k)), sz2_4, nums2_5, upps2_6, (fun k h0 h1 h2 => fr_7 k (by omega) (by omega) (by omega)), e_13, e_14, e_15⟩
  · refine n_ldc (z := (-100002)) hx hb hown (hts (.constant RX8 66 (-100002)) (by decide +kernel)) (by decide) dX8_order_8 ?_
    exact r_i hx hb hr dX8_order_10 hlocks hP hS ⟨(show iN (-100002) = iN _ by rw [if_neg (by omega)]), lsz, lnum, lupp, (fun k _ _ _ => rfl), e1, e2, e3⟩

set_option maxHeartbeats 4000000 in
set_option maxRecDepth 100000 in
theorem c_X8_kept (l : Launch) (G : GE) (w : WF) (came : Nat) (now : Nat) (bc : Nat) (lsz : Nat) (lnum : Nat → Int) (lupp : Nat → Int) (k : Int) (cst : Nat → Nat → Int) (cpl : Nat → Nat → Int) (csp : Nat → Nat → Int) (cnp : Nat → Nat) (cstop : Nat → Int) (e0 : w 0 = .inr (7, [.ref (gad G 1), .int (iN ((came : Nat) : Int)), .int (iN ((now : Nat) : Int)), .ref (gad G 2), .ref (gad G 5), .int (iN ((bc : Nat) : Int)), .ref (gad G 6), .ref (gad G 10), .ref (gad G 14), .ref (gad G 15), .ref (gad G 18)])) (e1 : w 2 = .inr (2, [.ref (gad G 3), .ref (gad G 4), .int (iN ((lsz : Nat) : Int))])) (e2 : w 3 = .inl (gI G, 10, .inl (aN lnum))) (e3 : w 4 = .inl (gI G, 10, .inl (aN lupp))) (hC : FAM G w cst cpl csp cnp cstop) (p0 : -2147483648 ≤ k ∧ k < 2147483648) (p1 : OKS came cst cpl csp cnp cstop) (p2 : now ≤ 400) : Met l yX8_kept wsX8_kept ({ frames := 3, cells := 0, slots := 0, locals := 70 }) (PcG G w [.ref (gad G 0), .int (iN k)]) (QI G (fun r w1 => r = iN (tellR (upF cst cpl csp cnp (now : Int) 1) (thF cst cstop (now : Int) 1) came k) ∧ ∃ (sz3 : Nat) (nums3 : Nat → Int) (upps3 : Nat → Int), (∀ k : Nat, k ≠ 2 → k ≠ 3 → k ≠ 4 → w1 k = w k) ∧ w1 2 = .inr (2, [.ref (gad G 3), .ref (gad G 4), .int (iN ((sz3 : Nat) : Int))]) ∧ w1 3 = .inl (gI G, 10, .inl (aN nums3)) ∧ w1 4 = .inl (gI G, 10, .inl (aN upps3)))) 0 0 (AA G) := by
  refine Met.ofW (cc := cX8_kept) (maxL := 2) (ret := (some .int)) (by decide) rfl ?_
  intro p e s m args below meth c s₁ B hml hv
  obtain ⟨rfl, hP, hK⟩ := hv
  have hx := B.exec
  have hb := B.bytes
  have hr := B.returns
  have hts := atoms_spec (ws := wsX8_kept) B.pre
  have hown : s.vm.findClass RX8 = some m.cls := findClass_of_methodNamed B.named
  have hlocks := B.notSynchronized
  have hS : va_S (AA G) s.heap s.heap [] := va_S.rf
  have hAA : ∀ q, AA G q → AA G q := fun _ h => h
  have hl := lv_entry ([.ref (gad G 0), .int (iN k)]) (n := 2) (Nat.le_of_ble_eq_true rfl)
  rw [lg_entry_eq]
  generalize (lg_sl ([.ref (gad G 0), .int (iN k)]) ++ List.replicate (2 - (lg_sl ([.ref (gad G 0), .int (iN k)])).length) Slot.unset).toArray = ls at hl ⊢
  have hl : lv_has ls 2 [(0, .ref (gad G 0)), (1, .int (iN k))] := hl
  have hc10 : came ≤ 10 := p1.1
  refine lv_aload_n hx hb dX8_kept_0 rfl (lv_at hl 0 rfl) ?_
  refine lv_aload_n hx hb dX8_kept_1 rfl (lv_at hl 0 rfl) ?_
  refine f_get (C := RX8) (T := TX8) (N := 11) hx hb hts (by decide +kernel) hown hK hP 0 (by omega) e0 rfl 2 (by decide) (hts (.fieldLink RX8 72 "KeptMoving" "now" "I") (by decide +kernel)) (fun _ h9 => h9) rfl dX8_kept_2 ?_
  refine n_iconst hx hb dX8_kept_5 ?_
  refine f_callv (W.runV (As := [.int (iN ((now : Nat) : Int)), .int (iN 1)]) (rest := []) ⟨hx, hb, hml, hown, hts⟩ (c_X8_lineUp l G w came now bc lsz lnum lupp ((now : Nat) : Int) 1 cst cpl csp cnp cstop e0 e1 e2 e3 hC (by omega) (by omega) (p1)) (cwV 2 hts gX8_kept_X8_lineUp rfl rfl rfl (by decide +kernel) ⟨Nat.le_of_ble_eq_true rfl, Nat.le_of_ble_eq_true rfl⟩) (f_preV hP hK 0 (by omega) 7 e0 rfl) rfl rfl hl.1 rfl (lv_room (Nat.le_of_ble_eq_true rfl)) dX8_kept_6 ⟨Nat.zero_le _, Nat.zero_le _⟩) hS hAA (fun w_1 H locs q_2 hP hS => ?_)
  obtain ⟨sz2_3, nums2_4, upps2_5, fr_6, e_7, e_8, e_9, q_10⟩ := q_2
  have e_11 : w_1 0 = .inr (7, [.ref (gad G 1), .int (iN ((came : Nat) : Int)), .int (iN ((now : Nat) : Int)), .ref (gad G 2), .ref (gad G 5), .int (iN ((bc : Nat) : Int)), .ref (gad G 6), .ref (gad G 10), .ref (gad G 14), .ref (gad G 15), .ref (gad G 18)]) := (fr_6 0 (by omega) (by omega) (by omega)).trans e0
  have e_12 : w_1 2 = .inr (2, [.ref (gad G 3), .ref (gad G 4), .int (iN ((sz2_3 : Nat) : Int))]) := e_7
  have e_13 : w_1 3 = .inl (gI G, 10, .inl (aN nums2_4)) := e_8
  have e_14 : w_1 4 = .inl (gI G, 10, .inl (aN upps2_5)) := e_9
  have hC_15 : FAM G w_1 cst cpl csp cnp cstop := hC.keep (fun k h1 h2 => fr_6 k (by omega) (by omega) (by omega))
  refine lv_aload_n hx hb dX8_kept_9 rfl (lv_at hl 0 rfl) ?_
  refine f_get (C := RX8) (T := TX8) (N := 11) hx hb hts (by decide +kernel) hown hK hP 0 (by omega) e_11 rfl 3 (by decide) (hts (.fieldLink RX8 19 "KeptMoving" "line" "LKeptMoving$Line;") (by decide +kernel)) (fun _ h9 => h9) rfl dX8_kept_10 ?_
  refine lv_iload_n hx hb dX8_kept_13 rfl (lv_at hl 1 rfl) ?_
  refine vp_callSi (va_Run.run (va_runVN (As := [.int (iN k)]) (rest := []) ⟨hx, hb, hml, hown, hts⟩ (c_X3_tell l G w_1 sz2_3 nums2_4 upps2_5 k e_12 e_13 e_14 (by rw [q_10.1]; exact Nat.le_trans (ordR_le _ _ _) hc10) (p0)) ⟨va_cnB 1 hts gX8_kept_X3_tell_n161 rfl rfl rfl (hK.nm 38 rfl) (hts (.initialized RX3) (by decide +kernel)) (by decide +kernel) ⟨Nat.le_of_ble_eq_true rfl, Nat.le_of_ble_eq_true rfl⟩, hts (.instanceMethod yX3_tell) (by decide +kernel), hts (.selects RX3 yX3_tell yX3_tell) (by decide +kernel)⟩ (f_preV hP hK 2 (by omega) 2 e_12 rfl) rfl rfl hl.1 rfl (lv_room (Nat.le_of_ble_eq_true rfl)) dX8_kept_14 ⟨Nat.zero_le _, Nat.zero_le _⟩)) (fun r_16 hr_16 => ?_)
  rw [show r_16 = iN (if 0 ≤ k ∧ k < ((sz2_3 : Nat) : Int) then nums2_4 k.toNat else -1) from hr_16]
  exact r_i hx hb hr dX8_kept_17 hlocks hP hS ⟨(congrArg iN (isOrd_tell q_10 k)), sz2_3, nums2_4, upps2_5, (fun k h0 h1 h2 => fr_6 k (by omega) (by omega) (by omega)), e_12, e_13, e_14⟩

set_option maxHeartbeats 4000000 in
set_option maxRecDepth 100000 in
theorem c_X8_at (l : Launch) (G : GE) (w : WF) (came : Nat) (now : Nat) (bc : Nat) (lsz : Nat) (lnum : Nat → Int) (lupp : Nat → Int) (n : Int) (d : Int) (wh : Int) (wd : Int) (cst : Nat → Nat → Int) (cpl : Nat → Nat → Int) (csp : Nat → Nat → Int) (cnp : Nat → Nat) (cstop : Nat → Int) (e0 : w 0 = .inr (7, [.ref (gad G 1), .int (iN ((came : Nat) : Int)), .int (iN ((now : Nat) : Int)), .ref (gad G 2), .ref (gad G 5), .int (iN ((bc : Nat) : Int)), .ref (gad G 6), .ref (gad G 10), .ref (gad G 14), .ref (gad G 15), .ref (gad G 18)])) (e1 : w 2 = .inr (2, [.ref (gad G 3), .ref (gad G 4), .int (iN ((lsz : Nat) : Int))])) (e2 : w 3 = .inl (gI G, 10, .inl (aN lnum))) (e3 : w 4 = .inl (gI G, 10, .inl (aN lupp))) (hC : FAM G w cst cpl csp cnp cstop) (p0 : -2147483648 ≤ n ∧ n < 2147483648) (p1 : -2147483648 ≤ d ∧ d < 2147483648) (p2 : -2147483648 ≤ wh ∧ wh < 2147483648) (p3 : -2147483648 ≤ wd ∧ wd < 2147483648) (p4 : OKS came cst cpl csp cnp cstop) : Met l yX8_at wsX8_at ({ frames := 3, cells := 0, slots := 0, locals := 70 }) (PcG G w [.ref (gad G 0), .int (iN n), .int (iN d), .int (iN wh), .int (iN wd)]) (QI G (fun r w1 => r = iN (if (1 ≤ d ∧ d ≤ 200 ∧ 0 ≤ n ∧ n ≤ 600 * d) ∧ 0 ≤ wh ∧ wh ≤ 4 ∧ 0 ≤ wd ∧ wd ≤ 2000 then (if wh = 0 then ((ordR (upF cst cpl csp cnp n d) (thF cst cstop n d) came).1 : Int) else if wh = 1 then tellR (upF cst cpl csp cnp n d) (thF cst cstop n d) came (((ordR (upF cst cpl csp cnp n d) (thF cst cstop n d) came).1 : Int) - 1) else if wh = 2 then tellR (upF cst cpl csp cnp n d) (thF cst cstop n d) came ((clP (ordU (upF cst cpl csp cnp n d) (thF cst cstop n d) came) (ordR (upF cst cpl csp cnp n d) (thF cst cstop n d) came).1).1 - 1) else if wh = 3 then tellR (upF cst cpl csp cnp n d) (thF cst cstop n d) came (clP (ordU (upF cst cpl csp cnp n d) (thF cst cstop n d) came) (ordR (upF cst cpl csp cnp n d) (thF cst cstop n d) came).1).1 else min ((ordR (upF cst cpl csp cnp n d) (thF cst cstop n d) came).1 : Int) 1 + hpC (ordU (upF cst cpl csp cnp n d) (thF cst cstop n d) came) (wd * d) (ordR (upF cst cpl csp cnp n d) (thF cst cstop n d) came).1) else -100002) ∧ ∃ (sz3 : Nat) (nums3 : Nat → Int) (upps3 : Nat → Int), (∀ k : Nat, k ≠ 2 → k ≠ 3 → k ≠ 4 → w1 k = w k) ∧ w1 2 = .inr (2, [.ref (gad G 3), .ref (gad G 4), .int (iN ((sz3 : Nat) : Int))]) ∧ w1 3 = .inl (gI G, 10, .inl (aN nums3)) ∧ w1 4 = .inl (gI G, 10, .inl (aN upps3)))) 0 0 (AA G) := by
  refine Met.ofW (cc := cX8_at) (maxL := 5) (ret := (some .int)) (by decide) rfl ?_
  intro p e s m args below meth c s₁ B hml hv
  obtain ⟨rfl, hP, hK⟩ := hv
  have hx := B.exec
  have hb := B.bytes
  have hr := B.returns
  have hts := atoms_spec (ws := wsX8_at) B.pre
  have hown : s.vm.findClass RX8 = some m.cls := findClass_of_methodNamed B.named
  have hlocks := B.notSynchronized
  have hS : va_S (AA G) s.heap s.heap [] := va_S.rf
  have hAA : ∀ q, AA G q → AA G q := fun _ h => h
  have hl := lv_entry ([.ref (gad G 0), .int (iN n), .int (iN d), .int (iN wh), .int (iN wd)]) (n := 5) (Nat.le_of_ble_eq_true rfl)
  rw [lg_entry_eq]
  generalize (lg_sl ([.ref (gad G 0), .int (iN n), .int (iN d), .int (iN wh), .int (iN wd)]) ++ List.replicate (5 - (lg_sl ([.ref (gad G 0), .int (iN n), .int (iN d), .int (iN wh), .int (iN wd)])).length) Slot.unset).toArray = ls at hl ⊢
  have hl : lv_has ls 5 [(0, .ref (gad G 0)), (1, .int (iN n)), (2, .int (iN d)), (3, .int (iN wh)), (4, .int (iN wd))] := hl
  have hc10 : came ≤ 10 := p4.1
  refine lv_iload_n hx hb dX8_at_0 rfl (lv_at hl 1 rfl) ?_
  refine lv_iload_n hx hb dX8_at_1 rfl (lv_at hl 2 rfl) ?_
  refine vp_callSi (W.runS (As := [.int (iN n), .int (iN d)]) (rest := []) ⟨hx, hb, hml, hown, hts⟩ (c_X8_isMoment l n d (p0) (p1)) (va_cwS 2 hts gX8_at_X8_isMoment rfl rfl rfl (by decide +kernel) ⟨Nat.le_of_ble_eq_true rfl, Nat.le_of_ble_eq_true rfl⟩) ⟨fun _ _ _ _ q => q, fun _ _ _ => rfl⟩ rfl rfl hl.1 rfl (lv_room (Nat.le_of_ble_eq_true rfl)) dX8_at_2 ⟨Nat.zero_le _, Nat.zero_le _⟩) (fun r_1 hr_1 => ?_)
  rw [show r_1 = iN (if (1 ≤ d ∧ d ≤ 200 ∧ 0 ≤ n ∧ n ≤ 600 * d) then 1 else 0) from hr_1]
  refine n_ifb_eq (tgt := 29) hx hb dX8_at_5 (by decide) (fun c_5 => ?_) (fun c_5 => ?_)
  · refine n_ldc (z := (-100002)) hx hb hown (hts (.constant RX8 66 (-100002)) (by decide +kernel)) (by decide) dX8_at_29 ?_
    exact r_i hx hb hr dX8_at_31 hlocks hP hS ⟨(show iN (-100002) = iN _ by rw [if_neg (by omega)]), lsz, lnum, lupp, (fun k _ _ _ => rfl), e1, e2, e3⟩
  · refine lv_iload_n hx hb dX8_at_8 rfl (lv_at hl 3 rfl) ?_
    refine n_iconst hx hb dX8_at_9 ?_
    refine n_iconst hx hb dX8_at_10 ?_
    refine vp_callSi (W.runS (As := [.int (iN wh), .int (iN 0), .int (iN 4)]) (rest := []) ⟨hx, hb, hml, hown, hts⟩ (c_X8_isFromTo l wh 0 4 (p2) (by omega) (by omega)) (va_cwS 3 hts gX8_at_X8_isFromTo rfl rfl rfl (by decide +kernel) ⟨Nat.le_of_ble_eq_true rfl, Nat.le_of_ble_eq_true rfl⟩) ⟨fun _ _ _ _ q => q, fun _ _ _ => rfl⟩ rfl rfl hl.1 rfl (lv_room (Nat.le_of_ble_eq_true rfl)) dX8_at_11 ⟨Nat.zero_le _, Nat.zero_le _⟩) (fun r_2 hr_2 => ?_)
    rw [show r_2 = iN (if (0 ≤ wh ∧ wh ≤ 4) then 1 else 0) from hr_2]
    refine n_ifb_eq (tgt := 29) hx hb dX8_at_14 (by decide) (fun c_14 => ?_) (fun c_14 => ?_)
    · refine n_ldc (z := (-100002)) hx hb hown (hts (.constant RX8 66 (-100002)) (by decide +kernel)) (by decide) dX8_at_29 ?_
      exact r_i hx hb hr dX8_at_31 hlocks hP hS ⟨(show iN (-100002) = iN _ by rw [if_neg (by omega)]), lsz, lnum, lupp, (fun k _ _ _ => rfl), e1, e2, e3⟩
    · refine lv_iload hx hb dX8_at_17 (lv_at hl 4 rfl) ?_
      refine n_iconst hx hb dX8_at_19 ?_
      refine n_sipush hx hb dX8_at_20 (by decide) ?_
      refine vp_callSi (W.runS (As := [.int (iN wd), .int (iN 0), .int (iN 2000)]) (rest := []) ⟨hx, hb, hml, hown, hts⟩ (c_X8_isFromTo l wd 0 2000 (p3) (by omega) (by omega)) (va_cwS 3 hts gX8_at_X8_isFromTo rfl rfl rfl (by decide +kernel) ⟨Nat.le_of_ble_eq_true rfl, Nat.le_of_ble_eq_true rfl⟩) ⟨fun _ _ _ _ q => q, fun _ _ _ => rfl⟩ rfl rfl hl.1 rfl (lv_room (Nat.le_of_ble_eq_true rfl)) dX8_at_23 ⟨Nat.zero_le _, Nat.zero_le _⟩) (fun r_3 hr_3 => ?_)
      rw [show r_3 = iN (if (0 ≤ wd ∧ wd ≤ 2000) then 1 else 0) from hr_3]
      refine n_ifb_ne (tgt := 32) hx hb dX8_at_26 (by decide) (fun c_26 => ?_) (fun c_26 => ?_)
      · refine lv_aload_n hx hb dX8_at_32 rfl (lv_at hl 0 rfl) ?_
        refine lv_iload_n hx hb dX8_at_33 rfl (lv_at hl 1 rfl) ?_
        refine lv_iload_n hx hb dX8_at_34 rfl (lv_at hl 2 rfl) ?_
        refine f_callv (W.runV (As := [.int (iN n), .int (iN d)]) (rest := []) ⟨hx, hb, hml, hown, hts⟩ (c_X8_lineUp l G w came now bc lsz lnum lupp n d cst cpl csp cnp cstop e0 e1 e2 e3 hC (by omega) (by omega) (p4)) (cwV 2 hts gX8_at_X8_lineUp rfl rfl rfl (by decide +kernel) ⟨Nat.le_of_ble_eq_true rfl, Nat.le_of_ble_eq_true rfl⟩) (f_preV hP hK 0 (by omega) 7 e0 rfl) rfl rfl hl.1 rfl (lv_room (Nat.le_of_ble_eq_true rfl)) dX8_at_35 ⟨Nat.zero_le _, Nat.zero_le _⟩) hS hAA (fun w_4 H locs q_5 hP hS => ?_)
        obtain ⟨sz2_6, nums2_7, upps2_8, fr_9, e_10, e_11, e_12, q_13⟩ := q_5
        have e_14 : w_4 0 = .inr (7, [.ref (gad G 1), .int (iN ((came : Nat) : Int)), .int (iN ((now : Nat) : Int)), .ref (gad G 2), .ref (gad G 5), .int (iN ((bc : Nat) : Int)), .ref (gad G 6), .ref (gad G 10), .ref (gad G 14), .ref (gad G 15), .ref (gad G 18)]) := (fr_9 0 (by omega) (by omega) (by omega)).trans e0
        have e_15 : w_4 2 = .inr (2, [.ref (gad G 3), .ref (gad G 4), .int (iN ((sz2_6 : Nat) : Int))]) := e_10
        have e_16 : w_4 3 = .inl (gI G, 10, .inl (aN nums2_7)) := e_11
        have e_17 : w_4 4 = .inl (gI G, 10, .inl (aN upps2_8)) := e_12
        have hC_18 : FAM G w_4 cst cpl csp cnp cstop := hC.keep (fun k h1 h2 => fr_9 k (by omega) (by omega) (by omega))
        have hole := ordR_le (upF cst cpl csp cnp n d) (thF cst cstop n d) came
        have hosz : sz2_6 = (ordR (upF cst cpl csp cnp n d) (thF cst cstop n d) came).1 := q_13.1
        have hub := ordB p4 (by omega) (by omega) (Nat.le_refl came) q_13
        have hcl := clP_rng upps2_8 sz2_6 hub
        have hclq : clP upps2_8 sz2_6 = clP (ordU (upF cst cpl csp cnp n d) (thF cst cstop n d) came) (ordR (upF cst cpl csp cnp n d) (thF cst cstop n d) came).1 := by rw [← hosz]; exact clP_cong (fun k hk => (q_13.2 k hk).2)
        have hhpq : hpC upps2_8 (wd * d) sz2_6 = hpC (ordU (upF cst cpl csp cnp n d) (thF cst cstop n d) came) (wd * d) (ordR (upF cst cpl csp cnp n d) (thF cst cstop n d) came).1 := by rw [← hosz]; exact hpC_cong (fun k hk => (q_13.2 k hk).2)
        have hwd : 0 ≤ wd * d ∧ wd * d ≤ 2000 * 200 := ⟨Int.mul_nonneg (by omega) (by omega), (mb3 (A := 2000) (B := 200) (by omega) (by omega)).2⟩
        refine lv_iload_n hx hb dX8_at_38 rfl (lv_at hl 3 rfl) ?_
        by_cases sw39_0 : wh = 0
        · refine n_tabIn (v := 0) (off := 29) (tgt := 68) hx hb sw39_0 (by omega) (by omega) dX8_at_39 (by decide) (by decide) (by decide) (by decide) ?_
          refine lv_aload_n hx hb dX8_at_68 rfl (lv_at hl 0 rfl) ?_
          refine f_get (C := RX8) (T := TX8) (N := 11) hx hb hts (by decide +kernel) hown hK hP 0 (by omega) e_14 rfl 3 (by decide) (hts (.fieldLink RX8 19 "KeptMoving" "line" "LKeptMoving$Line;") (by decide +kernel)) (fun _ h9 => h9) rfl dX8_at_69 ?_
          refine f_getN (C := RX3) (T := TX3) (N := 3) hx hb hts (by decide +kernel) hown hK hP 2 (by omega) e_15 rfl 2 (by decide) (hK.nf 2 rfl) (fun _ h9 => h9) rfl dX8_at_72 ?_
          exact r_i hx hb hr dX8_at_75 hlocks hP hS ⟨(congrArg iN (by rw [if_pos (show (1 ≤ d ∧ d ≤ 200 ∧ 0 ≤ n ∧ n ≤ 600 * d) ∧ 0 ≤ wh ∧ wh ≤ 4 ∧ 0 ≤ wd ∧ wd ≤ 2000 by omega), if_pos (show wh = 0 by omega)]; exact congrArg (fun z : Nat => (z : Int)) hosz)), sz2_6, nums2_7, upps2_8, (fun k h0 h1 h2 => fr_9 k (by omega) (by omega) (by omega)), e_15, e_16, e_17⟩
        by_cases sw39_1 : wh = 1
        · refine n_tabIn (v := 1) (off := 37) (tgt := 76) hx hb sw39_1 (by omega) (by omega) dX8_at_39 (by decide) (by decide) (by decide) (by decide) ?_
          refine lv_aload_n hx hb dX8_at_76 rfl (lv_at hl 0 rfl) ?_
          refine f_get (C := RX8) (T := TX8) (N := 11) hx hb hts (by decide +kernel) hown hK hP 0 (by omega) e_14 rfl 3 (by decide) (hts (.fieldLink RX8 19 "KeptMoving" "line" "LKeptMoving$Line;") (by decide +kernel)) (fun _ h9 => h9) rfl dX8_at_77 ?_
          refine lv_aload_n hx hb dX8_at_80 rfl (lv_at hl 0 rfl) ?_
          refine f_get (C := RX8) (T := TX8) (N := 11) hx hb hts (by decide +kernel) hown hK hP 0 (by omega) e_14 rfl 3 (by decide) (hts (.fieldLink RX8 19 "KeptMoving" "line" "LKeptMoving$Line;") (by decide +kernel)) (fun _ h9 => h9) rfl dX8_at_81 ?_
          refine f_getN (C := RX3) (T := TX3) (N := 3) hx hb hts (by decide +kernel) hown hK hP 2 (by omega) e_15 rfl 2 (by decide) (hK.nf 2 rfl) (fun _ h9 => h9) rfl dX8_at_84 ?_
          refine n_iconst hx hb dX8_at_87 ?_
          refine n_isub hx hb dX8_at_88 ?_
          refine vp_callSi (va_Run.run (va_runVN (As := [.int (iN (((sz2_6 : Nat) : Int) - 1))]) (rest := []) ⟨hx, hb, hml, hown, hts⟩ (c_X3_tell l G w_4 sz2_6 nums2_7 upps2_8 (((sz2_6 : Nat) : Int) - 1) e_15 e_16 e_17 (by omega) (by omega)) ⟨va_cnB 1 hts gX8_at_X3_tell_n161 rfl rfl rfl (hK.nm 38 rfl) (hts (.initialized RX3) (by decide +kernel)) (by decide +kernel) ⟨Nat.le_of_ble_eq_true rfl, Nat.le_of_ble_eq_true rfl⟩, hts (.instanceMethod yX3_tell) (by decide +kernel), hts (.selects RX3 yX3_tell yX3_tell) (by decide +kernel)⟩ (f_preV hP hK 2 (by omega) 2 e_15 rfl) rfl rfl hl.1 rfl (lv_room (Nat.le_of_ble_eq_true rfl)) dX8_at_89 ⟨Nat.zero_le _, Nat.zero_le _⟩)) (fun r_19 hr_19 => ?_)
          rw [show r_19 = iN (if 0 ≤ (((sz2_6 : Nat) : Int) - 1) ∧ (((sz2_6 : Nat) : Int) - 1) < ((sz2_6 : Nat) : Int) then nums2_7 (((sz2_6 : Nat) : Int) - 1).toNat else -1) from hr_19]
          exact r_i hx hb hr dX8_at_92 hlocks hP hS ⟨(congrArg iN (by rw [if_pos (show (1 ≤ d ∧ d ≤ 200 ∧ 0 ≤ n ∧ n ≤ 600 * d) ∧ 0 ≤ wh ∧ wh ≤ 4 ∧ 0 ≤ wd ∧ wd ≤ 2000 by omega), if_neg (show ¬ wh = 0 by omega), if_pos (show wh = 1 by omega)]; rw [isOrd_tell q_13, hosz])), sz2_6, nums2_7, upps2_8, (fun k h0 h1 h2 => fr_9 k (by omega) (by omega) (by omega)), e_15, e_16, e_17⟩
        by_cases sw39_2 : wh = 2
        · refine n_tabIn (v := 2) (off := 54) (tgt := 93) hx hb sw39_2 (by omega) (by omega) dX8_at_39 (by decide) (by decide) (by decide) (by decide) ?_
          refine lv_aload_n hx hb dX8_at_93 rfl (lv_at hl 0 rfl) ?_
          refine f_get (C := RX8) (T := TX8) (N := 11) hx hb hts (by decide +kernel) hown hK hP 0 (by omega) e_14 rfl 3 (by decide) (hts (.fieldLink RX8 19 "KeptMoving" "line" "LKeptMoving$Line;") (by decide +kernel)) (fun _ h9 => h9) rfl dX8_at_94 ?_
          refine lv_aload_n hx hb dX8_at_97 rfl (lv_at hl 0 rfl) ?_
          refine f_get (C := RX8) (T := TX8) (N := 11) hx hb hts (by decide +kernel) hown hK hP 0 (by omega) e_14 rfl 3 (by decide) (hts (.fieldLink RX8 19 "KeptMoving" "line" "LKeptMoving$Line;") (by decide +kernel)) (fun _ h9 => h9) rfl dX8_at_98 ?_
          refine vp_callSi (va_Run.run (va_runVN (As := []) (rest := [.ref (gad G 2)]) ⟨hx, hb, hml, hown, hts⟩ (c_X3_closestUpper l G w_4 sz2_6 nums2_7 upps2_8 e_15 e_16 e_17 (by omega) (hub)) ⟨va_cnB 0 hts gX8_at_X3_closestUpper_n165 rfl rfl rfl (hK.nm 39 rfl) (hts (.initialized RX3) (by decide +kernel)) (by decide +kernel) ⟨Nat.le_of_ble_eq_true rfl, Nat.le_of_ble_eq_true rfl⟩, hts (.instanceMethod yX3_closestUpper) (by decide +kernel), hts (.selects RX3 yX3_closestUpper yX3_closestUpper) (by decide +kernel)⟩ (f_preV hP hK 2 (by omega) 2 e_15 rfl) rfl rfl hl.1 rfl (lv_room (Nat.le_of_ble_eq_true rfl)) dX8_at_101 ⟨Nat.zero_le _, Nat.zero_le _⟩)) (fun r_20 hr_20 => ?_)
          rw [show r_20 = iN ((clP upps2_8 sz2_6).1) from hr_20]
          refine n_iconst hx hb dX8_at_104 ?_
          refine n_isub hx hb dX8_at_105 ?_
          refine vp_callSi (va_Run.run (va_runVN (As := [.int (iN (((clP upps2_8 sz2_6).1) - 1))]) (rest := []) ⟨hx, hb, hml, hown, hts⟩ (c_X3_tell l G w_4 sz2_6 nums2_7 upps2_8 (((clP upps2_8 sz2_6).1) - 1) e_15 e_16 e_17 (by omega) (by omega)) ⟨va_cnB 1 hts gX8_at_X3_tell_n161 rfl rfl rfl (hK.nm 38 rfl) (hts (.initialized RX3) (by decide +kernel)) (by decide +kernel) ⟨Nat.le_of_ble_eq_true rfl, Nat.le_of_ble_eq_true rfl⟩, hts (.instanceMethod yX3_tell) (by decide +kernel), hts (.selects RX3 yX3_tell yX3_tell) (by decide +kernel)⟩ (f_preV hP hK 2 (by omega) 2 e_15 rfl) rfl rfl hl.1 rfl (lv_room (Nat.le_of_ble_eq_true rfl)) dX8_at_106 ⟨Nat.zero_le _, Nat.zero_le _⟩)) (fun r_21 hr_21 => ?_)
          rw [show r_21 = iN (if 0 ≤ (((clP upps2_8 sz2_6).1) - 1) ∧ (((clP upps2_8 sz2_6).1) - 1) < ((sz2_6 : Nat) : Int) then nums2_7 (((clP upps2_8 sz2_6).1) - 1).toNat else -1) from hr_21]
          exact r_i hx hb hr dX8_at_109 hlocks hP hS ⟨(congrArg iN (by rw [if_pos (show (1 ≤ d ∧ d ≤ 200 ∧ 0 ≤ n ∧ n ≤ 600 * d) ∧ 0 ≤ wh ∧ wh ≤ 4 ∧ 0 ≤ wd ∧ wd ≤ 2000 by omega), if_neg (show ¬ wh = 0 by omega), if_neg (show ¬ wh = 1 by omega), if_pos (show wh = 2 by omega)]; rw [isOrd_tell q_13, hclq])), sz2_6, nums2_7, upps2_8, (fun k h0 h1 h2 => fr_9 k (by omega) (by omega) (by omega)), e_15, e_16, e_17⟩
        by_cases sw39_3 : wh = 3
        · refine n_tabIn (v := 3) (off := 71) (tgt := 110) hx hb sw39_3 (by omega) (by omega) dX8_at_39 (by decide) (by decide) (by decide) (by decide) ?_
          refine lv_aload_n hx hb dX8_at_110 rfl (lv_at hl 0 rfl) ?_
          refine f_get (C := RX8) (T := TX8) (N := 11) hx hb hts (by decide +kernel) hown hK hP 0 (by omega) e_14 rfl 3 (by decide) (hts (.fieldLink RX8 19 "KeptMoving" "line" "LKeptMoving$Line;") (by decide +kernel)) (fun _ h9 => h9) rfl dX8_at_111 ?_
          refine lv_aload_n hx hb dX8_at_114 rfl (lv_at hl 0 rfl) ?_
          refine f_get (C := RX8) (T := TX8) (N := 11) hx hb hts (by decide +kernel) hown hK hP 0 (by omega) e_14 rfl 3 (by decide) (hts (.fieldLink RX8 19 "KeptMoving" "line" "LKeptMoving$Line;") (by decide +kernel)) (fun _ h9 => h9) rfl dX8_at_115 ?_
          refine vp_callSi (va_Run.run (va_runVN (As := []) (rest := [.ref (gad G 2)]) ⟨hx, hb, hml, hown, hts⟩ (c_X3_closestUpper l G w_4 sz2_6 nums2_7 upps2_8 e_15 e_16 e_17 (by omega) (hub)) ⟨va_cnB 0 hts gX8_at_X3_closestUpper_n165 rfl rfl rfl (hK.nm 39 rfl) (hts (.initialized RX3) (by decide +kernel)) (by decide +kernel) ⟨Nat.le_of_ble_eq_true rfl, Nat.le_of_ble_eq_true rfl⟩, hts (.instanceMethod yX3_closestUpper) (by decide +kernel), hts (.selects RX3 yX3_closestUpper yX3_closestUpper) (by decide +kernel)⟩ (f_preV hP hK 2 (by omega) 2 e_15 rfl) rfl rfl hl.1 rfl (lv_room (Nat.le_of_ble_eq_true rfl)) dX8_at_118 ⟨Nat.zero_le _, Nat.zero_le _⟩)) (fun r_22 hr_22 => ?_)
          rw [show r_22 = iN ((clP upps2_8 sz2_6).1) from hr_22]
          refine vp_callSi (va_Run.run (va_runVN (As := [.int (iN ((clP upps2_8 sz2_6).1))]) (rest := []) ⟨hx, hb, hml, hown, hts⟩ (c_X3_tell l G w_4 sz2_6 nums2_7 upps2_8 ((clP upps2_8 sz2_6).1) e_15 e_16 e_17 (by omega) (by omega)) ⟨va_cnB 1 hts gX8_at_X3_tell_n161 rfl rfl rfl (hK.nm 38 rfl) (hts (.initialized RX3) (by decide +kernel)) (by decide +kernel) ⟨Nat.le_of_ble_eq_true rfl, Nat.le_of_ble_eq_true rfl⟩, hts (.instanceMethod yX3_tell) (by decide +kernel), hts (.selects RX3 yX3_tell yX3_tell) (by decide +kernel)⟩ (f_preV hP hK 2 (by omega) 2 e_15 rfl) rfl rfl hl.1 rfl (lv_room (Nat.le_of_ble_eq_true rfl)) dX8_at_121 ⟨Nat.zero_le _, Nat.zero_le _⟩)) (fun r_23 hr_23 => ?_)
          rw [show r_23 = iN (if 0 ≤ ((clP upps2_8 sz2_6).1) ∧ ((clP upps2_8 sz2_6).1) < ((sz2_6 : Nat) : Int) then nums2_7 ((clP upps2_8 sz2_6).1).toNat else -1) from hr_23]
          exact r_i hx hb hr dX8_at_124 hlocks hP hS ⟨(congrArg iN (by rw [if_pos (show (1 ≤ d ∧ d ≤ 200 ∧ 0 ≤ n ∧ n ≤ 600 * d) ∧ 0 ≤ wh ∧ wh ≤ 4 ∧ 0 ≤ wd ∧ wd ≤ 2000 by omega), if_neg (show ¬ wh = 0 by omega), if_neg (show ¬ wh = 1 by omega), if_neg (show ¬ wh = 2 by omega), if_pos (show wh = 3 by omega)]; rw [isOrd_tell q_13, hclq])), sz2_6, nums2_7, upps2_8, (fun k h0 h1 h2 => fr_9 k (by omega) (by omega) (by omega)), e_15, e_16, e_17⟩
        refine n_tabOut (tgt := 125) hx hb (by omega) (by omega) dX8_at_39 (by omega) (by decide) ?_
        refine lv_aload_n hx hb dX8_at_125 rfl (lv_at hl 0 rfl) ?_
        refine f_get (C := RX8) (T := TX8) (N := 11) hx hb hts (by decide +kernel) hown hK hP 0 (by omega) e_14 rfl 3 (by decide) (hts (.fieldLink RX8 19 "KeptMoving" "line" "LKeptMoving$Line;") (by decide +kernel)) (fun _ h9 => h9) rfl dX8_at_126 ?_
        refine lv_iload hx hb dX8_at_129 (lv_at hl 4 rfl) ?_
        refine lv_iload_n hx hb dX8_at_131 rfl (lv_at hl 2 rfl) ?_
        refine n_imul hx hb dX8_at_132 ?_
        refine vp_callSi (va_Run.run (va_runVN (As := [.int (iN (wd * d))]) (rest := []) ⟨hx, hb, hml, hown, hts⟩ (c_X3_heaps l G w_4 sz2_6 nums2_7 upps2_8 (wd * d) e_15 e_16 e_17 (by omega) (hub) (by omega)) ⟨va_cnB 1 hts gX8_at_X3_heaps_n168 rfl rfl rfl (hK.nm 40 rfl) (hts (.initialized RX3) (by decide +kernel)) (by decide +kernel) ⟨Nat.le_of_ble_eq_true rfl, Nat.le_of_ble_eq_true rfl⟩, hts (.instanceMethod yX3_heaps) (by decide +kernel), hts (.selects RX3 yX3_heaps yX3_heaps) (by decide +kernel)⟩ (f_preV hP hK 2 (by omega) 2 e_15 rfl) rfl rfl hl.1 rfl (lv_room (Nat.le_of_ble_eq_true rfl)) dX8_at_133 ⟨Nat.zero_le _, Nat.zero_le _⟩)) (fun r_24 hr_24 => ?_)
        rw [show r_24 = iN (min ((sz2_6 : Nat) : Int) 1 + hpC upps2_8 (wd * d) sz2_6) from hr_24]
        exact r_i hx hb hr dX8_at_136 hlocks hP hS ⟨(congrArg iN (by rw [if_pos (show (1 ≤ d ∧ d ≤ 200 ∧ 0 ≤ n ∧ n ≤ 600 * d) ∧ 0 ≤ wh ∧ wh ≤ 4 ∧ 0 ≤ wd ∧ wd ≤ 2000 by omega), if_neg (show ¬ wh = 0 by omega), if_neg (show ¬ wh = 1 by omega), if_neg (show ¬ wh = 2 by omega), if_neg (show ¬ wh = 3 by omega)]; rw [hhpq, hosz])), sz2_6, nums2_7, upps2_8, (fun k h0 h1 h2 => fr_9 k (by omega) (by omega) (by omega)), e_15, e_16, e_17⟩
      · refine n_ldc (z := (-100002)) hx hb hown (hts (.constant RX8 66 (-100002)) (by decide +kernel)) (by decide) dX8_at_29 ?_
        exact r_i hx hb hr dX8_at_31 hlocks hP hS ⟨(show iN (-100002) = iN _ by rw [if_neg (by omega)]), lsz, lnum, lupp, (fun k _ _ _ => rfl), e1, e2, e3⟩
