set_option maxHeartbeats 4000000 in
set_option maxRecDepth 100000 in
theorem c_X9_told (l : Launch) (G : GE) (w : WF) (now : Nat) (came : Nat) (rm : Nat) (mt : Nat) (tm : Nat) (thg : Int) (onn : Int) (two : Int) (lw : Int) (hg : Int) (sq : Nat) (ga : Nat → Int) (pn : Nat → Nat) (mbe : Nat → Int) (mpl : Nat → Int) (msp : Nat → Int) (i : Int) (wh : Int) (e0 : w 59 = .inr (8, [.int (iN ((now : Nat) : Int)), .int (iN ((came : Nat) : Int)), .ref (gad G 60), .ref (gad G 61), .ref (gad G 62), .ref (gad G 63), .ref (gad G 64), .ref (gad G 65), .int (iN ((rm : Nat) : Int)), .int (iN ((mt : Nat) : Int)), .ref (gad G 66), .ref (gad G 67), .ref (gad G 68), .ref (gad G 69), .ref (gad G 70), .int (iN ((tm : Nat) : Int)), .ref (gad G 71), .ref (gad G 72), .int (iN thg), .int (iN onn), .int (iN two), .long (jN lw), .long (jN hg), .int (iN ((sq : Nat) : Int)), .ref (gad G 73), .ref (gad G 74)])) (e1 : w 60 = .inl (gI G, 10, .inl (aN ga))) (e2 : w 61 = .inl (gI G, 10, .inl (aN (pnI pn)))) (e3 : w 62 = .inl (gI G, 80, .inl (aN mbe))) (e4 : w 63 = .inl (gI G, 80, .inl (aN mpl))) (e5 : w 64 = .inl (gI G, 80, .inl (aN msp))) (p0 : -2147483648 ≤ i ∧ i < 2147483648) (p1 : -2147483648 ≤ wh ∧ wh < 2147483648) (p2 : OKS came (rw8 mbe) (rw8 mpl) (rw8 msp) pn ga) : Met l yX9_told wsX9_told ({ frames := 2, cells := 0, slots := 0, locals := 46 }) (PcG G w [.ref (gad G 59), .int (iN i), .int (iN wh)]) (vp_Si (fun r => r = iN (if 0 ≤ i ∧ i ≤ (came : Int) - 1 then (if wh = 0 then mbe (8 * i.toNat) else if wh = 1 then ga i.toNat else if wh = 2 then ((pn i.toNat : Nat) : Int) else if wh = 3 then msp (8 * i.toNat + pn i.toNat - 1) else -100002) else -100001))) 0 0 (fun _ => False) := by
  refine Met.ofW (cc := cX9_told) (maxL := 3) (ret := (some .int)) (by decide) rfl ?_
  intro p e s m args below meth c s₁ B hml hv
  obtain ⟨rfl, hP, hK⟩ := hv
  have hx := B.exec
  have hb := B.bytes
  have hr := B.returns
  have hts := atoms_spec (ws := wsX9_told) B.pre
  have hown : s.vm.findClass RX9 = some m.cls := findClass_of_methodNamed B.named
  have hlocks := B.notSynchronized
  have hl := lv_entry ([.ref (gad G 59), .int (iN i), .int (iN wh)]) (n := 3) (Nat.le_of_ble_eq_true rfl)
  rw [lg_entry_eq]
  generalize (lg_sl ([.ref (gad G 59), .int (iN i), .int (iN wh)]) ++ List.replicate (3 - (lg_sl ([.ref (gad G 59), .int (iN i), .int (iN wh)])).length) Slot.unset).toArray = ls at hl ⊢
  have hl : lv_has ls 3 [(0, .ref (gad G 59)), (1, .int (iN i)), (2, .int (iN wh))] := hl
  have hc10 : came ≤ 10 := p2.1
  refine lv_aload_n hx hb dX9_told_0 rfl (lv_at hl 0 rfl) ?_
  refine lv_iload_n hx hb dX9_told_1 rfl (lv_at hl 1 rfl) ?_
  refine vp_callSi (W.runV (As := [.int (iN i)]) (rest := []) ⟨hx, hb, hml, hown, hts⟩ (c_X9_isPoint l G w now came rm mt tm thg onn two lw hg sq i e0 (p0) (hc10)) (cwV 1 hts gX9_told_X9_isPoint rfl rfl rfl (by decide +kernel) ⟨Nat.le_of_ble_eq_true rfl, Nat.le_of_ble_eq_true rfl⟩) (f_preV hP hK 59 (by omega) 8 e0 rfl) rfl rfl hl.1 rfl (lv_room (Nat.le_of_ble_eq_true rfl)) dX9_told_2 ⟨Nat.zero_le _, Nat.zero_le _⟩) (fun r_1 hr_1 => ?_)
  rw [show r_1 = iN (if (0 ≤ i ∧ i ≤ ((came : Nat) : Int) - 1) then 1 else 0) from hr_1]
  refine n_ifb_ne (tgt := 11) hx hb dX9_told_5 (by decide) (fun c_5 => ?_) (fun c_5 => ?_)
  · have hz_2 : i = ((i.toNat : Nat) : Int) := by omega
    have hl : lv_has ls 3 [(0, .ref (gad G 59)), (1, .int (iN ((i.toNat : Nat) : Int))), (2, .int (iN wh))] := by rw [← hz_2]; exact hl
    have hc10 : came ≤ 10 := p2.1
    have hVi := p2.2 i.toNat (by omega)
    obtain ⟨hv1, hv2, hv3, hv4⟩ := id hVi
    refine lv_iload_n hx hb dX9_told_11 rfl (lv_at hl 2 rfl) ?_
    by_cases sw12_0 : wh = 0
    · refine n_tabIn (v := 0) (off := 32) (tgt := 44) hx hb sw12_0 (by omega) (by omega) dX9_told_12 (by decide) (by decide) (by decide) (by decide) ?_
      refine lv_aload_n hx hb dX9_told_44 rfl (lv_at hl 0 rfl) ?_
      refine f_get (C := RX9) (T := TX9) (N := 26) hx hb hts (by decide +kernel) hown hK hP 59 (by omega) e0 rfl 4 (by decide) (hts (.fieldLink RX9 16 "KeptMovingModel" "begins" "[I") (by decide +kernel)) (fun _ h9 => h9) rfl dX9_told_45 ?_
      refine n_bipush hx hb dX9_told_48 (by decide) ?_
      refine lv_iload_n hx hb dX9_told_50 rfl (lv_at hl 1 rfl) ?_
      refine n_imul hx hb dX9_told_51 ?_
      refine n_top (A := 8 * ((i.toNat : Nat) : Int)) (B := ((8 * i.toNat : Nat) : Int)) (by omega) ?_
      refine n_iald hx hb hK hP 62 (by omega) e3 (8 * i.toNat) rfl (by omega) (by decide) dX9_told_52 ?_
      exact r_si hx hb hr dX9_told_53 hlocks (show _ = iN (if 0 ≤ i ∧ i ≤ (came : Int) - 1 then (if wh = 0 then mbe (8 * i.toNat) else if wh = 1 then ga i.toNat else if wh = 2 then ((pn i.toNat : Nat) : Int) else if wh = 3 then msp (8 * i.toNat + pn i.toNat - 1) else -100002) else -100001) by rw [if_pos (by omega), if_pos (by omega)])
    by_cases sw12_1 : wh = 1
    · refine n_tabIn (v := 1) (off := 42) (tgt := 54) hx hb sw12_1 (by omega) (by omega) dX9_told_12 (by decide) (by decide) (by decide) (by decide) ?_
      refine lv_aload_n hx hb dX9_told_54 rfl (lv_at hl 0 rfl) ?_
      refine f_get (C := RX9) (T := TX9) (N := 26) hx hb hts (by decide +kernel) hown hK hP 59 (by omega) e0 rfl 2 (by decide) (hts (.fieldLink RX9 7 "KeptMovingModel" "goneAt" "[I") (by decide +kernel)) (fun _ h9 => h9) rfl dX9_told_55 ?_
      refine lv_iload_n hx hb dX9_told_58 rfl (lv_at hl 1 rfl) ?_
      refine n_iald hx hb hK hP 60 (by omega) e1 i.toNat rfl (by omega) (by decide) dX9_told_59 ?_
      exact r_si hx hb hr dX9_told_60 hlocks (show _ = iN (if 0 ≤ i ∧ i ≤ (came : Int) - 1 then (if wh = 0 then mbe (8 * i.toNat) else if wh = 1 then ga i.toNat else if wh = 2 then ((pn i.toNat : Nat) : Int) else if wh = 3 then msp (8 * i.toNat + pn i.toNat - 1) else -100002) else -100001) by rw [if_pos (by omega), if_neg (by omega), if_pos (by omega)])
    by_cases sw12_2 : wh = 2
    · refine n_tabIn (v := 2) (off := 49) (tgt := 61) hx hb sw12_2 (by omega) (by omega) dX9_told_12 (by decide) (by decide) (by decide) (by decide) ?_
      refine lv_aload_n hx hb dX9_told_61 rfl (lv_at hl 0 rfl) ?_
      refine f_get (C := RX9) (T := TX9) (N := 26) hx hb hts (by decide +kernel) hown hK hP 59 (by omega) e0 rfl 3 (by decide) (hts (.fieldLink RX9 13 "KeptMovingModel" "pieces" "[I") (by decide +kernel)) (fun _ h9 => h9) rfl dX9_told_62 ?_
      refine lv_iload_n hx hb dX9_told_65 rfl (lv_at hl 1 rfl) ?_
      refine n_iald hx hb hK hP 61 (by omega) e2 i.toNat rfl (by omega) (by decide) dX9_told_66 ?_
      refine n_top (B := ((pn i.toNat : Nat) : Int)) rfl ?_
      exact r_si hx hb hr dX9_told_67 hlocks (show _ = iN (if 0 ≤ i ∧ i ≤ (came : Int) - 1 then (if wh = 0 then mbe (8 * i.toNat) else if wh = 1 then ga i.toNat else if wh = 2 then ((pn i.toNat : Nat) : Int) else if wh = 3 then msp (8 * i.toNat + pn i.toNat - 1) else -100002) else -100001) by rw [if_pos (by omega), if_neg (by omega), if_neg (by omega), if_pos (by omega)])
    by_cases sw12_3 : wh = 3
    · refine n_tabIn (v := 3) (off := 56) (tgt := 68) hx hb sw12_3 (by omega) (by omega) dX9_told_12 (by decide) (by decide) (by decide) (by decide) ?_
      refine lv_aload_n hx hb dX9_told_68 rfl (lv_at hl 0 rfl) ?_
      refine f_get (C := RX9) (T := TX9) (N := 26) hx hb hts (by decide +kernel) hown hK hP 59 (by omega) e0 rfl 6 (by decide) (hts (.fieldLink RX9 22 "KeptMovingModel" "speeds" "[I") (by decide +kernel)) (fun _ h9 => h9) rfl dX9_told_69 ?_
      refine lv_aload_n hx hb dX9_told_72 rfl (lv_at hl 0 rfl) ?_
      refine lv_iload_n hx hb dX9_told_73 rfl (lv_at hl 1 rfl) ?_
      refine vp_callSi (W.runV (As := [.int (iN ((i.toNat : Nat) : Int))]) (rest := [.ref (gad G 64)]) ⟨hx, hb, hml, hown, hts⟩ (c_X9_latest l G w now came rm mt tm thg onn two lw hg sq ga pn mbe mpl msp i.toNat e0 e1 e2 e3 e4 e5 (by omega) (hv1)) (cwV 1 hts gX9_told_X9_latest rfl rfl rfl (by decide +kernel) ⟨Nat.le_of_ble_eq_true rfl, Nat.le_of_ble_eq_true rfl⟩) (f_preV hP hK 59 (by omega) 8 e0 rfl) rfl rfl hl.1 rfl (lv_room (Nat.le_of_ble_eq_true rfl)) dX9_told_74 ⟨Nat.zero_le _, Nat.zero_le _⟩) (fun r_3 hr_3 => ?_)
      rw [show r_3 = iN ((8 * i.toNat + pn i.toNat - 1 : Nat) : Int) from hr_3]
      refine n_iald hx hb hK hP 64 (by omega) e5 (8 * i.toNat + pn i.toNat - 1) rfl (by omega) (by decide) dX9_told_77 ?_
      exact r_si hx hb hr dX9_told_78 hlocks (show _ = iN (if 0 ≤ i ∧ i ≤ (came : Int) - 1 then (if wh = 0 then mbe (8 * i.toNat) else if wh = 1 then ga i.toNat else if wh = 2 then ((pn i.toNat : Nat) : Int) else if wh = 3 then msp (8 * i.toNat + pn i.toNat - 1) else -100002) else -100001) by rw [if_pos (by omega), if_neg (by omega), if_neg (by omega), if_neg (by omega), if_pos (by omega)])
    refine n_tabOut (tgt := 79) hx hb (by omega) (by omega) dX9_told_12 (by omega) (by decide) ?_
    refine n_ldc (z := (-100002)) hx hb hown (hts (.constant RX9 73 (-100002)) (by decide +kernel)) (by decide) dX9_told_79 ?_
    exact r_si hx hb hr dX9_told_81 hlocks (show _ = iN (if 0 ≤ i ∧ i ≤ (came : Int) - 1 then (if wh = 0 then mbe (8 * i.toNat) else if wh = 1 then ga i.toNat else if wh = 2 then ((pn i.toNat : Nat) : Int) else if wh = 3 then msp (8 * i.toNat + pn i.toNat - 1) else -100002) else -100001) by rw [if_pos (by omega), if_neg (by omega), if_neg (by omega), if_neg (by omega), if_neg (by omega)])
  · refine n_ldc (z := (-100001)) hx hb hown (hts (.constant RX9 82 (-100001)) (by decide +kernel)) (by decide) dX9_told_8 ?_
    exact r_si hx hb hr dX9_told_10 hlocks (show _ = iN (if 0 ≤ i ∧ i ≤ (came : Int) - 1 then (if wh = 0 then mbe (8 * i.toNat) else if wh = 1 then ga i.toNat else if wh = 2 then ((pn i.toNat : Nat) : Int) else if wh = 3 then msp (8 * i.toNat + pn i.toNat - 1) else -100002) else -100001) by rw [if_neg (by omega)])

set_option maxHeartbeats 4000000 in
set_option maxRecDepth 100000 in
theorem c_X9_isMoment (l : Launch) (n : Int) (d : Int) (p0 : -2147483648 ≤ n ∧ n < 2147483648) (p1 : -2147483648 ≤ d ∧ d < 2147483648) : Met l yX9_isMoment wsX9_isMoment ({ frames := 1, cells := 0, slots := 0, locals := 25 }) (PcN [.int (iN n), .int (iN d)]) (vp_Si (fun r => r = iN (if (1 ≤ d ∧ d ≤ 200 ∧ 0 ≤ n ∧ n ≤ 600 * d) then 1 else 0))) 0 0 (fun _ => False) := by
  refine Met.ofW (cc := cX9_isMoment) (maxL := 2) (ret := (some .boolean)) (by decide) rfl ?_
  intro p e s m args below meth c s₁ B hml hv
  obtain rfl := hv
  have hx := B.exec
  have hb := B.bytes
  have hr := B.returns
  have hts := atoms_spec (ws := wsX9_isMoment) B.pre
  have hown : s.vm.findClass RX9 = some m.cls := findClass_of_methodNamed B.named
  have hlocks := B.notSynchronized
  have hl := lv_entry ([.int (iN n), .int (iN d)]) (n := 2) (Nat.le_of_ble_eq_true rfl)
  rw [lg_entry_eq]
  generalize (lg_sl ([.int (iN n), .int (iN d)]) ++ List.replicate (2 - (lg_sl ([.int (iN n), .int (iN d)])).length) Slot.unset).toArray = ls at hl ⊢
  have hl : lv_has ls 2 [(0, .int (iN n)), (1, .int (iN d))] := hl
  refine lv_iload_n hx hb dX9_isMoment_0 rfl (lv_at hl 1 rfl) ?_
  refine n_i2l hx hb (by omega) (by omega) dX9_isMoment_1 ?_
  refine n_lconst (z := 1) hx hb dX9_isMoment_2 (by decide) ?_
  refine n_ldc2 (z := (200)) hx hb hown (hts (.constantLong RX9 104 (200)) (by decide +kernel)) (by decide) dX9_isMoment_3 ?_
  refine vp_callSi (W.runS (As := [.long (jN d), .long (jN 1), .long (jN 200)]) (rest := []) ⟨hx, hb, hml, hown, hts⟩ (c_X9_in l d (1 : Int) (200 : Int) (by omega) (by omega) (by omega)) (va_cwS 3 hts gX9_isMoment_X9_in rfl rfl rfl (by decide +kernel) ⟨Nat.le_of_ble_eq_true rfl, Nat.le_of_ble_eq_true rfl⟩) ⟨fun _ _ _ _ q => q, fun _ _ _ => rfl⟩ rfl rfl hl.1 rfl (lv_room (Nat.le_of_ble_eq_true rfl)) dX9_isMoment_6 ⟨Nat.zero_le _, Nat.zero_le _⟩) (fun r_1 hr_1 => ?_)
  rw [show r_1 = iN (if ((1 : Int) ≤ d ∧ d ≤ (200 : Int)) then 1 else 0) from hr_1]
  refine n_ifb_eq (tgt := 29) hx hb dX9_isMoment_9 (by decide) (fun c_9 => ?_) (fun c_9 => ?_)
  · refine n_iconst hx hb dX9_isMoment_29 ?_
    exact r_z0 hx hb hr dX9_isMoment_30 hlocks (show iN 0 = iN (if (1 ≤ d ∧ d ≤ 200 ∧ 0 ≤ n ∧ n ≤ 600 * d) then 1 else 0) by rw [if_neg (by omega)])
  · refine lv_iload_n hx hb dX9_isMoment_12 rfl (lv_at hl 0 rfl) ?_
    refine n_if_lt (tgt := 29) hx hb dX9_isMoment_13 (by decide) (by omega) (by omega) (fun c_13 => ?_) (fun c_13 => ?_)
    · refine n_iconst hx hb dX9_isMoment_29 ?_
      exact r_z0 hx hb hr dX9_isMoment_30 hlocks (show iN 0 = iN (if (1 ≤ d ∧ d ≤ 200 ∧ 0 ≤ n ∧ n ≤ 600 * d) then 1 else 0) by rw [if_neg (by omega)])
    · refine lv_iload_n hx hb dX9_isMoment_16 rfl (lv_at hl 0 rfl) ?_
      refine n_sipush hx hb dX9_isMoment_17 (by decide) ?_
      refine lv_iload_n hx hb dX9_isMoment_20 rfl (lv_at hl 1 rfl) ?_
      refine n_imul hx hb dX9_isMoment_21 ?_
      refine n_icmp_gt (tgt := 29) hx hb dX9_isMoment_22 (by decide) (by omega) (by omega) (by omega) (by omega) (fun c_22 => ?_) (fun c_22 => ?_)
      · refine n_iconst hx hb dX9_isMoment_29 ?_
        exact r_z0 hx hb hr dX9_isMoment_30 hlocks (show iN 0 = iN (if (1 ≤ d ∧ d ≤ 200 ∧ 0 ≤ n ∧ n ≤ 600 * d) then 1 else 0) by rw [if_neg (by omega)])
      · refine n_iconst hx hb dX9_isMoment_25 ?_
        refine lv_goto (tgt := 30) hx hb dX9_isMoment_26 (by decide) ?_
        exact r_z1 hx hb hr dX9_isMoment_30 hlocks (show iN 1 = iN (if (1 ≤ d ∧ d ≤ 200 ∧ 0 ≤ n ∧ n ≤ 600 * d) then 1 else 0) by rw [if_pos (by omega)])

theorem pcAt_step {st : Nat → Int} {n d : Int} {q : Nat} (h0 : 0 < q) (h : ¬ st q * d ≤ n) : pcAt st n d (q + 1) = pcAt st n d (q - 1 + 1) := by
  rw [show q - 1 + 1 = q by omega]
  exact if_neg (fun z => h z.2)
theorem pcAt_end {st : Nat → Int} {n d : Int} {q : Nat} (h : q = 0 ∨ st q * d ≤ n) : pcAt st n d (q + 1) = q := by
  rcases Nat.eq_zero_or_pos q with z | z
  · subst z
    rfl
  · exact if_pos ⟨z, by
      rcases h with h | h
      · omega
      · exact h⟩

set_option maxHeartbeats 4000000 in
set_option maxRecDepth 100000 in
theorem c_X9_placeAt (l : Launch) (G : GE) (w : WF) (now : Nat) (came : Nat) (rm : Nat) (mt : Nat) (tm : Nat) (thg : Int) (onn : Int) (two : Int) (lw : Int) (hg : Int) (sq : Nat) (ga : Nat → Int) (pn : Nat → Nat) (mbe : Nat → Int) (mpl : Nat → Int) (msp : Nat → Int) (i : Nat) (n : Int) (d : Int) (e0 : w 59 = .inr (8, [.int (iN ((now : Nat) : Int)), .int (iN ((came : Nat) : Int)), .ref (gad G 60), .ref (gad G 61), .ref (gad G 62), .ref (gad G 63), .ref (gad G 64), .ref (gad G 65), .int (iN ((rm : Nat) : Int)), .int (iN ((mt : Nat) : Int)), .ref (gad G 66), .ref (gad G 67), .ref (gad G 68), .ref (gad G 69), .ref (gad G 70), .int (iN ((tm : Nat) : Int)), .ref (gad G 71), .ref (gad G 72), .int (iN thg), .int (iN onn), .int (iN two), .long (jN lw), .long (jN hg), .int (iN ((sq : Nat) : Int)), .ref (gad G 73), .ref (gad G 74)])) (e1 : w 60 = .inl (gI G, 10, .inl (aN ga))) (e2 : w 61 = .inl (gI G, 10, .inl (aN (pnI pn)))) (e3 : w 62 = .inl (gI G, 80, .inl (aN mbe))) (e4 : w 63 = .inl (gI G, 80, .inl (aN mpl))) (e5 : w 64 = .inl (gI G, 80, .inl (aN msp))) (p0 : i < 10) (p1 : 1 ≤ pn i ∧ pn i ≤ 8) (p2 : ∀ p : Nat, p < pn i → 0 ≤ rw8 mbe i p ∧ rw8 mbe i p ≤ 400) (p3 : ∀ p : Nat, p < pn i → (-21000 ≤ rw8 mpl i p ∧ rw8 mpl i p ≤ 21000) ∧ (-50 ≤ rw8 msp i p ∧ rw8 msp i p ≤ 50)) (p4 : 0 ≤ n ∧ n ≤ 1000000000000) (p5 : 1 ≤ d ∧ d ≤ 1000000) : Met l yX9_placeAt wsX9_placeAt ({ frames := 1, cells := 0, slots := 0, locals := 21 }) (PcG G w [.ref (gad G 59), .int (iN ((i : Nat) : Int)), .long (jN n), .long (jN d)]) (vp_Sl (fun r => r = jN (upAt (rw8 mbe i) (rw8 mpl i) (rw8 msp i) (pn i) n d))) 0 0 (fun _ => False) := by
  refine Met.ofW (cc := cX9_placeAt) (maxL := 7) (ret := (some .long)) (by decide) rfl ?_
  intro p e s m args below meth c s₁ B hml hv
  obtain ⟨rfl, hP, hK⟩ := hv
  have hx := B.exec
  have hb := B.bytes
  have hr := B.returns
  have hts := atoms_spec (ws := wsX9_placeAt) B.pre
  have hown : s.vm.findClass RX9 = some m.cls := findClass_of_methodNamed B.named
  have hlocks := B.notSynchronized
  have hl := lv_entry ([.ref (gad G 59), .int (iN ((i : Nat) : Int)), .long (jN n), .long (jN d)]) (n := 7) (Nat.le_of_ble_eq_true rfl)
  rw [lg_entry_eq]
  generalize (lg_sl ([.ref (gad G 59), .int (iN ((i : Nat) : Int)), .long (jN n), .long (jN d)]) ++ List.replicate (7 - (lg_sl ([.ref (gad G 59), .int (iN ((i : Nat) : Int)), .long (jN n), .long (jN d)])).length) Slot.unset).toArray = ls at hl ⊢
  have hl : lv_has ls 7 [(0, .ref (gad G 59)), (1, .int (iN ((i : Nat) : Int))), (2, .long (jN n)), (4, .long (jN d))] := hl
  refine lv_aload_n hx hb dX9_placeAt_0 rfl (lv_at hl 0 rfl) ?_
  refine lv_iload_n hx hb dX9_placeAt_1 rfl (lv_at hl 1 rfl) ?_
  refine vp_callSi (W.runV (As := [.int (iN ((i : Nat) : Int))]) (rest := []) ⟨hx, hb, hml, hown, hts⟩ (c_X9_latest l G w now came rm mt tm thg onn two lw hg sq ga pn mbe mpl msp i e0 e1 e2 e3 e4 e5 (p0) (p1)) (cwV 1 hts gX9_placeAt_X9_latest rfl rfl rfl (by decide +kernel) ⟨Nat.le_of_ble_eq_true rfl, Nat.le_of_ble_eq_true rfl⟩) (f_preV hP hK 59 (by omega) 8 e0 rfl) rfl rfl hl.1 rfl (lv_room (Nat.le_of_ble_eq_true rfl)) dX9_placeAt_2 ⟨Nat.zero_le _, Nat.zero_le _⟩) (fun r_1 hr_1 => ?_)
  rw [show r_1 = iN ((8 * i + pn i - 1 : Nat) : Int) from hr_1]
  refine n_top (A := ((8 * i + pn i - 1 : Nat) : Int)) (B := ((8 * i + (pn i - 1) : Nat) : Int)) (by omega) ?_
  refine lv_istore (lv' := [(6, .int (iN ((8 * i + (pn i - 1) : Nat) : Int))), (0, .ref (gad G 59)), (1, .int (iN ((i : Nat) : Int))), (2, .long (jN n)), (4, .long (jN d))]) hx hb dX9_placeAt_5 hl (by decide) rfl (fun ls hl => ?_)
  have K7 : ∀ (N : Nat) (q : Nat) (ls : Array Slot), (q < pn i) → (pcAt (rw8 mbe i) n d (q + 1) = pcAt (rw8 mbe i) n d (pn i)) → q < N → lv_has ls 7 [(0, .ref (gad G 59)), (1, .int (iN ((i : Nat) : Int))), (2, .long (jN n)), (4, .long (jN d)), (6, .int (iN ((8 * i + q : Nat) : Int)))] → W p l e (headSpec wsX9_placeAt ({ frames := 1, cells := 0, slots := 0, locals := 21 })).room s m (([.ref (gad G 59), .int (iN ((i : Nat) : Int)), .long (jN n), .long (jN d)] : List Value).toArray) below meth c s.heap [] 0 0 (MQ below (vp_Sl (fun r => r = jN (upAt (rw8 mbe i) (rw8 mpl i) (rw8 msp i) (pn i) n d))) (([.ref (gad G 59), .int (iN ((i : Nat) : Int)), .long (jN n), .long (jN d)] : List Value).toArray) s 0 0 (fun _ => False)) (F0 m 7 ls []) := by
    intro N
    induction N with
    | zero =>
      intros
      exfalso
      omega
    | succ N ih7 =>
      intro q ls i7_0 i7_1 hN7 hl
      refine lv_iload hx hb dX9_placeAt_7 (lv_at hl 4 rfl) ?_
      refine n_bipush hx hb dX9_placeAt_9 (by decide) ?_
      refine lv_iload_n hx hb dX9_placeAt_11 rfl (lv_at hl 1 rfl) ?_
      refine n_imul hx hb dX9_placeAt_12 ?_
      refine n_top (A := 8 * ((i : Nat) : Int)) (B := ((8 * i : Nat) : Int)) (by omega) ?_
      refine n_icmp_le (tgt := 38) hx hb dX9_placeAt_13 (by decide) (by omega) (by omega) (by omega) (by omega) (fun c_13 => ?_) (fun c_13 => ?_)
      · have hpe : pcAt (rw8 mbe i) n d (pn i) = q := by rw [← i7_1]; exact pcAt_end (Or.inl (by omega))
        have hbq2 := p2 q (by omega)
        have hbp2 := p3 q (by omega)
        have hw1 : rw8 mbe i q = mbe (8 * i + q) := rfl
        have hw2 : rw8 mpl i q = mpl (8 * i + q) := rfl
        have hw3 : rw8 msp i q = msp (8 * i + q) := rfl
        rw [hw1] at hbq2
        rw [hw2, hw3] at hbp2
        refine lv_aload_n hx hb dX9_placeAt_38 rfl (lv_at hl 0 rfl) ?_
        refine f_get (C := RX9) (T := TX9) (N := 26) hx hb hts (by decide +kernel) hown hK hP 59 (by omega) e0 rfl 5 (by decide) (hts (.fieldLink RX9 19 "KeptMovingModel" "places" "[I") (by decide +kernel)) (fun _ h9 => h9) rfl dX9_placeAt_39 ?_
        refine lv_iload hx hb dX9_placeAt_42 (lv_at hl 4 rfl) ?_
        refine n_iald hx hb hK hP 63 (by omega) e4 (8 * i + q) rfl (by omega) (by decide) dX9_placeAt_44 ?_
        refine n_i2l hx hb (by omega) (by omega) dX9_placeAt_45 ?_
        refine lv_lload hx hb dX9_placeAt_46 (lv_at hl 3 rfl) ?_
        refine n_lmul hx hb dX9_placeAt_48 ?_
        refine lv_aload_n hx hb dX9_placeAt_49 rfl (lv_at hl 0 rfl) ?_
        refine f_get (C := RX9) (T := TX9) (N := 26) hx hb hts (by decide +kernel) hown hK hP 59 (by omega) e0 rfl 6 (by decide) (hts (.fieldLink RX9 22 "KeptMovingModel" "speeds" "[I") (by decide +kernel)) (fun _ h9 => h9) rfl dX9_placeAt_50 ?_
        refine lv_iload hx hb dX9_placeAt_53 (lv_at hl 4 rfl) ?_
        refine n_iald hx hb hK hP 64 (by omega) e5 (8 * i + q) rfl (by omega) (by decide) dX9_placeAt_55 ?_
        refine n_i2l hx hb (by omega) (by omega) dX9_placeAt_56 ?_
        refine lv_lload_n hx hb dX9_placeAt_57 rfl (lv_at hl 2 rfl) ?_
        refine lv_aload_n hx hb dX9_placeAt_58 rfl (lv_at hl 0 rfl) ?_
        refine f_get (C := RX9) (T := TX9) (N := 26) hx hb hts (by decide +kernel) hown hK hP 59 (by omega) e0 rfl 4 (by decide) (hts (.fieldLink RX9 16 "KeptMovingModel" "begins" "[I") (by decide +kernel)) (fun _ h9 => h9) rfl dX9_placeAt_59 ?_
        refine lv_iload hx hb dX9_placeAt_62 (lv_at hl 4 rfl) ?_
        refine n_iald hx hb hK hP 62 (by omega) e3 (8 * i + q) rfl (by omega) (by decide) dX9_placeAt_64 ?_
        refine n_i2l hx hb (by omega) (by omega) dX9_placeAt_65 ?_
        refine lv_lload hx hb dX9_placeAt_66 (lv_at hl 3 rfl) ?_
        refine n_lmul hx hb dX9_placeAt_68 ?_
        refine n_lsub hx hb dX9_placeAt_69 ?_
        refine n_lmul hx hb dX9_placeAt_70 ?_
        refine n_ladd hx hb dX9_placeAt_71 ?_
        exact r_sl hx hb hr dX9_placeAt_72 hlocks (by show jN _ = jN (upAt (rw8 mbe i) (rw8 mpl i) (rw8 msp i) (pn i) n d); unfold upAt; rw [hpe]; rfl)
      · have hm := mb4 (p2 q (by omega)) p5
        have hz : rw8 mbe i q = mbe (8 * i + q) := rfl
        rw [hz] at hm
        have hbq := p2 q (by omega)
        rw [hz] at hbq
        refine lv_aload_n hx hb dX9_placeAt_16 rfl (lv_at hl 0 rfl) ?_
        refine f_get (C := RX9) (T := TX9) (N := 26) hx hb hts (by decide +kernel) hown hK hP 59 (by omega) e0 rfl 4 (by decide) (hts (.fieldLink RX9 16 "KeptMovingModel" "begins" "[I") (by decide +kernel)) (fun _ h9 => h9) rfl dX9_placeAt_17 ?_
        refine lv_iload hx hb dX9_placeAt_20 (lv_at hl 4 rfl) ?_
        refine n_iald hx hb hK hP 62 (by omega) e3 (8 * i + q) rfl (by omega) (by decide) dX9_placeAt_22 ?_
        refine n_i2l hx hb (by omega) (by omega) dX9_placeAt_23 ?_
        refine lv_lload hx hb dX9_placeAt_24 (lv_at hl 3 rfl) ?_
        refine n_lmul hx hb dX9_placeAt_26 ?_
        refine lv_lload_n hx hb dX9_placeAt_27 rfl (lv_at hl 2 rfl) ?_
        refine n_lcmp hx hb (by omega) (by omega) (by omega) (by omega) dX9_placeAt_28 ?_
        refine n_ifc_le (tgt := 38) hx hb dX9_placeAt_29 (by decide) (fun c_29 => ?_) (fun c_29 => ?_)
        · have hpe : pcAt (rw8 mbe i) n d (pn i) = q := by rw [← i7_1]; exact pcAt_end (Or.inr (by rw [hz]; omega))
          have hbq2 := p2 q (by omega)
          have hbp2 := p3 q (by omega)
          have hw1 : rw8 mbe i q = mbe (8 * i + q) := rfl
          have hw2 : rw8 mpl i q = mpl (8 * i + q) := rfl
          have hw3 : rw8 msp i q = msp (8 * i + q) := rfl
          rw [hw1] at hbq2
          rw [hw2, hw3] at hbp2
          refine lv_aload_n hx hb dX9_placeAt_38 rfl (lv_at hl 0 rfl) ?_
          refine f_get (C := RX9) (T := TX9) (N := 26) hx hb hts (by decide +kernel) hown hK hP 59 (by omega) e0 rfl 5 (by decide) (hts (.fieldLink RX9 19 "KeptMovingModel" "places" "[I") (by decide +kernel)) (fun _ h9 => h9) rfl dX9_placeAt_39 ?_
          refine lv_iload hx hb dX9_placeAt_42 (lv_at hl 4 rfl) ?_
          refine n_iald hx hb hK hP 63 (by omega) e4 (8 * i + q) rfl (by omega) (by decide) dX9_placeAt_44 ?_
          refine n_i2l hx hb (by omega) (by omega) dX9_placeAt_45 ?_
          refine lv_lload hx hb dX9_placeAt_46 (lv_at hl 3 rfl) ?_
          refine n_lmul hx hb dX9_placeAt_48 ?_
          refine lv_aload_n hx hb dX9_placeAt_49 rfl (lv_at hl 0 rfl) ?_
          refine f_get (C := RX9) (T := TX9) (N := 26) hx hb hts (by decide +kernel) hown hK hP 59 (by omega) e0 rfl 6 (by decide) (hts (.fieldLink RX9 22 "KeptMovingModel" "speeds" "[I") (by decide +kernel)) (fun _ h9 => h9) rfl dX9_placeAt_50 ?_
          refine lv_iload hx hb dX9_placeAt_53 (lv_at hl 4 rfl) ?_
          refine n_iald hx hb hK hP 64 (by omega) e5 (8 * i + q) rfl (by omega) (by decide) dX9_placeAt_55 ?_
          refine n_i2l hx hb (by omega) (by omega) dX9_placeAt_56 ?_
          refine lv_lload_n hx hb dX9_placeAt_57 rfl (lv_at hl 2 rfl) ?_
          refine lv_aload_n hx hb dX9_placeAt_58 rfl (lv_at hl 0 rfl) ?_
          refine f_get (C := RX9) (T := TX9) (N := 26) hx hb hts (by decide +kernel) hown hK hP 59 (by omega) e0 rfl 4 (by decide) (hts (.fieldLink RX9 16 "KeptMovingModel" "begins" "[I") (by decide +kernel)) (fun _ h9 => h9) rfl dX9_placeAt_59 ?_
          refine lv_iload hx hb dX9_placeAt_62 (lv_at hl 4 rfl) ?_
          refine n_iald hx hb hK hP 62 (by omega) e3 (8 * i + q) rfl (by omega) (by decide) dX9_placeAt_64 ?_
          refine n_i2l hx hb (by omega) (by omega) dX9_placeAt_65 ?_
          refine lv_lload hx hb dX9_placeAt_66 (lv_at hl 3 rfl) ?_
          refine n_lmul hx hb dX9_placeAt_68 ?_
          refine n_lsub hx hb dX9_placeAt_69 ?_
          refine n_lmul hx hb dX9_placeAt_70 ?_
          refine n_ladd hx hb dX9_placeAt_71 ?_
          exact r_sl hx hb hr dX9_placeAt_72 hlocks (by show jN _ = jN (upAt (rw8 mbe i) (rw8 mpl i) (rw8 msp i) (pn i) n d); unfold upAt; rw [hpe]; rfl)
        · refine lv_iinc (v := iN (((8 * i + q) - 1 : Nat) : Int)) (lv' := [(6, .int (iN (((8 * i + q) - 1 : Nat) : Int))), (0, .ref (gad G 59)), (1, .int (iN ((i : Nat) : Int))), (2, .long (jN n)), (4, .long (jN d))]) hx hb dX9_placeAt_32 hl (k := 4) rfl (iN_decN (by omega)) (by decide) rfl (fun ls hl => ?_)
          have hz_2 : (8 * i + q) - 1 = 8 * i + (q - 1) := by omega
          have hl : lv_has ls 7 [(6, .int (iN ((8 * i + (q - 1) : Nat) : Int))), (0, .ref (gad G 59)), (1, .int (iN ((i : Nat) : Int))), (2, .long (jN n)), (4, .long (jN d))] := by rw [← hz_2]; exact hl
          refine lv_goto (tgt := 7) hx hb dX9_placeAt_35 (by decide) ?_
          exact ih7 (q - 1) _ (by omega) (by rw [← i7_1]; exact (pcAt_step (by omega) (by rw [hz]; omega)).symm) (by omega) (lv_sub hl [1, 2, 3, 4, 0] rfl)
  exact K7 ((pn i - 1) + 1) (pn i - 1) _ (by omega) (by rw [show pn i - 1 + 1 = pn i by omega]) (by omega) (lv_sub hl [1, 2, 3, 4, 0] rfl)

set_option maxHeartbeats 4000000 in
set_option maxRecDepth 100000 in
theorem c_X9_common (l : Launch) (a : Int) (b : Int) (p0 : -1000000000000000 ≤ a ∧ a ≤ 1000000000000000) (p1 : 0 ≤ b ∧ b ≤ 1000000000000000) : Met l yX9_common wsX9_common ({ frames := 0, cells := 0, slots := 0, locals := 0 }) (PcN [.long (jN a), .long (jN b)]) (vp_Sl (fun r => r = jN ((Nat.gcd a.natAbs b.natAbs : Nat) : Int))) 0 0 (fun _ => False) := by
  refine Met.ofW (cc := cX9_common) (maxL := 10) (ret := (some .long)) (by decide) rfl ?_
  intro p e s m args below meth c s₁ B hml hv
  obtain rfl := hv
  have hx := B.exec
  have hb := B.bytes
  have hr := B.returns
  have hts := atoms_spec (ws := wsX9_common) B.pre
  have hown : s.vm.findClass RX9 = some m.cls := findClass_of_methodNamed B.named
  have hlocks := B.notSynchronized
  have hl := lv_entry ([.long (jN a), .long (jN b)]) (n := 10) (Nat.le_of_ble_eq_true rfl)
  rw [lg_entry_eq]
  generalize (lg_sl ([.long (jN a), .long (jN b)]) ++ List.replicate (10 - (lg_sl ([.long (jN a), .long (jN b)])).length) Slot.unset).toArray = ls at hl ⊢
  have hl : lv_has ls 10 [(0, .long (jN a)), (2, .long (jN b))] := hl
  refine lv_lload_n hx hb dX9_common_0 rfl (lv_at hl 0 rfl) ?_
  refine n_lconst (z := 0) hx hb dX9_common_1 (by decide) ?_
  refine n_lcmp hx hb (by omega) (by omega) (by omega) (by omega) dX9_common_2 ?_
  refine n_ifc_ge (tgt := 11) hx hb dX9_common_3 (by decide) (fun c_3 => ?_) (fun c_3 => ?_)
  · refine lv_lload_n hx hb dX9_common_11 rfl (lv_at hl 0 rfl) ?_
    refine lv_lstore (lv' := [(4, .long (jN a)), (0, .long (jN a)), (2, .long (jN b))]) hx hb dX9_common_12 hl (by decide) rfl (fun ls hl => ?_)
    refine lv_lload_n hx hb dX9_common_14 rfl (lv_at hl 2 rfl) ?_
    refine lv_lstore (lv' := [(6, .long (jN b)), (4, .long (jN a)), (0, .long (jN a)), (2, .long (jN b))]) hx hb dX9_common_15 hl (by decide) rfl (fun ls hl => ?_)
    have K17 : ∀ (N : Nat) (A : Nat) (B : Nat) (ls : Array Slot), (Nat.gcd A B = Nat.gcd a.natAbs b.natAbs) → (A ≤ 1000000000000000 ∧ B ≤ 1000000000000000) → B < N → lv_has ls 10 [(4, .long (jN ((A : Nat) : Int))), (6, .long (jN ((B : Nat) : Int)))] → W p l e (headSpec wsX9_common ({ frames := 0, cells := 0, slots := 0, locals := 0 })).room s m (([.long (jN a), .long (jN b)] : List Value).toArray) below meth c s.heap [] 0 0 (MQ below (vp_Sl (fun r => r = jN ((Nat.gcd a.natAbs b.natAbs : Nat) : Int))) (([.long (jN a), .long (jN b)] : List Value).toArray) s 0 0 (fun _ => False)) (F0 m 17 ls []) := by
      intro N
      induction N with
      | zero =>
        intros
        exfalso
        omega
      | succ N ih17 =>
        intro A B ls i17_0 i17_1 hN17 hl
        refine lv_lload hx hb dX9_common_17 (lv_at hl 1 rfl) ?_
        refine n_lconst (z := 0) hx hb dX9_common_19 (by decide) ?_
        refine n_lcmp hx hb (by omega) (by omega) (by omega) (by omega) dX9_common_20 ?_
        refine n_ifc_eq (tgt := 42) hx hb dX9_common_21 (by decide) (fun c_21 => ?_) (fun c_21 => ?_)
        · refine lv_lload hx hb dX9_common_42 (lv_at hl 0 rfl) ?_
          exact r_sl hx hb hr dX9_common_44 hlocks (show jN ((A : Nat) : Int) = jN _ by rw [← i17_0, show B = 0 by omega, Nat.gcd_zero_right])
        · refine lv_lload hx hb dX9_common_24 (lv_at hl 0 rfl) ?_
          refine lv_lload hx hb dX9_common_26 (lv_at hl 1 rfl) ?_
          refine n_lrem hx hb (by omega) (by omega) (by omega) (by omega) (by omega) dX9_common_28 ?_
          refine lv_lstore (lv' := [(8, .long (jN (Int.tmod ((A : Nat) : Int) ((B : Nat) : Int)))), (4, .long (jN ((A : Nat) : Int))), (6, .long (jN ((B : Nat) : Int)))]) hx hb dX9_common_29 hl (by decide) rfl (fun ls hl => ?_)
          have hz_1 : Int.tmod ((A : Nat) : Int) ((B : Nat) : Int) = ((A % B : Nat) : Int) := by exact (Int.ofNat_tmod A B).symm
          have hl : lv_has ls 10 [(8, .long (jN ((A % B : Nat) : Int))), (4, .long (jN ((A : Nat) : Int))), (6, .long (jN ((B : Nat) : Int)))] := by rw [← hz_1]; exact hl
          refine lv_lload hx hb dX9_common_31 (lv_at hl 2 rfl) ?_
          refine lv_lstore (lv' := [(4, .long (jN ((B : Nat) : Int))), (8, .long (jN ((A % B : Nat) : Int))), (6, .long (jN ((B : Nat) : Int)))]) hx hb dX9_common_33 hl (by decide) rfl (fun ls hl => ?_)
          refine lv_lload hx hb dX9_common_35 (lv_at hl 1 rfl) ?_
          refine lv_lstore (lv' := [(6, .long (jN ((A % B : Nat) : Int))), (4, .long (jN ((B : Nat) : Int))), (8, .long (jN ((A % B : Nat) : Int)))]) hx hb dX9_common_37 hl (by decide) rfl (fun ls hl => ?_)
          refine lv_goto (tgt := 17) hx hb dX9_common_39 (by decide) ?_
          exact ih17 (B) ((A % B)) _ (by rw [Nat.gcd_comm B, ← Nat.gcd_rec, Nat.gcd_comm B A]; exact i17_0) (⟨by omega, by have := Nat.mod_lt A (show B > 0 by omega); omega⟩) (by have := Nat.mod_lt A (show B > 0 by omega); omega) (lv_sub hl [1, 0] rfl)
    have hz_2 : a = ((Int.natAbs a : Nat) : Int) := by omega
    have hl : lv_has ls 10 [(6, .long (jN b)), (4, .long (jN ((Int.natAbs a : Nat) : Int))), (0, .long (jN a)), (2, .long (jN b))] := by rw [← hz_2]; exact hl
    have hz_3 : b = ((Int.natAbs b : Nat) : Int) := by omega
    have hl : lv_has ls 10 [(6, .long (jN ((Int.natAbs b : Nat) : Int))), (4, .long (jN ((Int.natAbs a : Nat) : Int))), (0, .long (jN a)), (2, .long (jN b))] := by rw [← hz_3]; exact hl
    exact K17 (b.natAbs + 1) (a.natAbs) (b.natAbs) _ (rfl) (by omega) (by omega) (lv_sub hl [1, 0] rfl)
  · refine lv_lload_n hx hb dX9_common_6 rfl (lv_at hl 0 rfl) ?_
    refine n_lneg hx hb dX9_common_7 ?_
    refine lv_goto (tgt := 12) hx hb dX9_common_8 (by decide) ?_
    refine lv_lstore (lv' := [(4, .long (jN (-a))), (0, .long (jN a)), (2, .long (jN b))]) hx hb dX9_common_12 hl (by decide) rfl (fun ls hl => ?_)
    refine lv_lload_n hx hb dX9_common_14 rfl (lv_at hl 2 rfl) ?_
    refine lv_lstore (lv' := [(6, .long (jN b)), (4, .long (jN (-a))), (0, .long (jN a)), (2, .long (jN b))]) hx hb dX9_common_15 hl (by decide) rfl (fun ls hl => ?_)
    have K17 : ∀ (N : Nat) (A : Nat) (B : Nat) (ls : Array Slot), (Nat.gcd A B = Nat.gcd a.natAbs b.natAbs) → (A ≤ 1000000000000000 ∧ B ≤ 1000000000000000) → B < N → lv_has ls 10 [(4, .long (jN ((A : Nat) : Int))), (6, .long (jN ((B : Nat) : Int)))] → W p l e (headSpec wsX9_common ({ frames := 0, cells := 0, slots := 0, locals := 0 })).room s m (([.long (jN a), .long (jN b)] : List Value).toArray) below meth c s.heap [] 0 0 (MQ below (vp_Sl (fun r => r = jN ((Nat.gcd a.natAbs b.natAbs : Nat) : Int))) (([.long (jN a), .long (jN b)] : List Value).toArray) s 0 0 (fun _ => False)) (F0 m 17 ls []) := by
      intro N
      induction N with
      | zero =>
        intros
        exfalso
        omega
      | succ N ih17 =>
        intro A B ls i17_0 i17_1 hN17 hl
        refine lv_lload hx hb dX9_common_17 (lv_at hl 1 rfl) ?_
        refine n_lconst (z := 0) hx hb dX9_common_19 (by decide) ?_
        refine n_lcmp hx hb (by omega) (by omega) (by omega) (by omega) dX9_common_20 ?_
        refine n_ifc_eq (tgt := 42) hx hb dX9_common_21 (by decide) (fun c_21 => ?_) (fun c_21 => ?_)
        · refine lv_lload hx hb dX9_common_42 (lv_at hl 0 rfl) ?_
          exact r_sl hx hb hr dX9_common_44 hlocks (show jN ((A : Nat) : Int) = jN _ by rw [← i17_0, show B = 0 by omega, Nat.gcd_zero_right])
        · refine lv_lload hx hb dX9_common_24 (lv_at hl 0 rfl) ?_
          refine lv_lload hx hb dX9_common_26 (lv_at hl 1 rfl) ?_
          refine n_lrem hx hb (by omega) (by omega) (by omega) (by omega) (by omega) dX9_common_28 ?_
          refine lv_lstore (lv' := [(8, .long (jN (Int.tmod ((A : Nat) : Int) ((B : Nat) : Int)))), (4, .long (jN ((A : Nat) : Int))), (6, .long (jN ((B : Nat) : Int)))]) hx hb dX9_common_29 hl (by decide) rfl (fun ls hl => ?_)
          have hz_4 : Int.tmod ((A : Nat) : Int) ((B : Nat) : Int) = ((A % B : Nat) : Int) := by exact (Int.ofNat_tmod A B).symm
          have hl : lv_has ls 10 [(8, .long (jN ((A % B : Nat) : Int))), (4, .long (jN ((A : Nat) : Int))), (6, .long (jN ((B : Nat) : Int)))] := by rw [← hz_4]; exact hl
          refine lv_lload hx hb dX9_common_31 (lv_at hl 2 rfl) ?_
          refine lv_lstore (lv' := [(4, .long (jN ((B : Nat) : Int))), (8, .long (jN ((A % B : Nat) : Int))), (6, .long (jN ((B : Nat) : Int)))]) hx hb dX9_common_33 hl (by decide) rfl (fun ls hl => ?_)
          refine lv_lload hx hb dX9_common_35 (lv_at hl 1 rfl) ?_
          refine lv_lstore (lv' := [(6, .long (jN ((A % B : Nat) : Int))), (4, .long (jN ((B : Nat) : Int))), (8, .long (jN ((A % B : Nat) : Int)))]) hx hb dX9_common_37 hl (by decide) rfl (fun ls hl => ?_)
          refine lv_goto (tgt := 17) hx hb dX9_common_39 (by decide) ?_
          exact ih17 (B) ((A % B)) _ (by rw [Nat.gcd_comm B, ← Nat.gcd_rec, Nat.gcd_comm B A]; exact i17_0) (⟨by omega, by have := Nat.mod_lt A (show B > 0 by omega); omega⟩) (by have := Nat.mod_lt A (show B > 0 by omega); omega) (lv_sub hl [1, 0] rfl)
    have hz_5 : -a = ((Int.natAbs a : Nat) : Int) := by omega
    have hl : lv_has ls 10 [(6, .long (jN b)), (4, .long (jN ((Int.natAbs a : Nat) : Int))), (0, .long (jN a)), (2, .long (jN b))] := by rw [← hz_5]; exact hl
    have hz_6 : b = ((Int.natAbs b : Nat) : Int) := by omega
    have hl : lv_has ls 10 [(6, .long (jN ((Int.natAbs b : Nat) : Int))), (4, .long (jN ((Int.natAbs a : Nat) : Int))), (0, .long (jN a)), (2, .long (jN b))] := by rw [← hz_6]; exact hl
    exact K17 (b.natAbs + 1) (a.natAbs) (b.natAbs) _ (rfl) (by omega) (by omega) (lv_sub hl [1, 0] rfl)

set_option maxHeartbeats 4000000 in
set_option maxRecDepth 100000 in
theorem c_X9_share (l : Launch) (u : Int) (lo : Int) (wh : Int) (p0 : -1000000000000000 ≤ u ∧ u ≤ 1000000000000000) (p1 : 1 ≤ lo ∧ lo ≤ 1000000000000000) (p2 : -10 ≤ wh ∧ wh ≤ 10) : Met l yX9_share wsX9_share ({ frames := 1, cells := 0, slots := 0, locals := 29 }) (PcN [.long (jN u), .long (jN lo), .int (iN wh)]) (vp_Sl (fun r => r = jN (if wh = 0 then Int.tdiv u (((Nat.gcd u.natAbs lo.natAbs : Nat) : Int)) else Int.tdiv lo (((Nat.gcd u.natAbs lo.natAbs : Nat) : Int))))) 0 0 (fun _ => False) := by
  refine Met.ofW (cc := cX9_share) (maxL := 7) (ret := (some .long)) (by decide) rfl ?_
  intro p e s m args below meth c s₁ B hml hv
  obtain rfl := hv
  have hx := B.exec
  have hb := B.bytes
  have hr := B.returns
  have hts := atoms_spec (ws := wsX9_share) B.pre
  have hown : s.vm.findClass RX9 = some m.cls := findClass_of_methodNamed B.named
  have hlocks := B.notSynchronized
  have hl := lv_entry ([.long (jN u), .long (jN lo), .int (iN wh)]) (n := 7) (Nat.le_of_ble_eq_true rfl)
  rw [lg_entry_eq]
  generalize (lg_sl ([.long (jN u), .long (jN lo), .int (iN wh)]) ++ List.replicate (7 - (lg_sl ([.long (jN u), .long (jN lo), .int (iN wh)])).length) Slot.unset).toArray = ls at hl ⊢
  have hl : lv_has ls 7 [(0, .long (jN u)), (2, .long (jN lo)), (4, .int (iN wh))] := hl
  have hg0 : 0 < Nat.gcd u.natAbs lo.natAbs := Nat.gcd_pos_of_pos_right _ (by omega)
  have hg1 : Nat.gcd u.natAbs lo.natAbs ≤ lo.natAbs := Nat.le_of_dvd (by omega) (Nat.gcd_dvd_right _ _)
  refine lv_lload_n hx hb dX9_share_0 rfl (lv_at hl 0 rfl) ?_
  refine lv_lload_n hx hb dX9_share_1 rfl (lv_at hl 1 rfl) ?_
  refine vp_callSl (W.runS (As := [.long (jN u), .long (jN lo)]) (rest := []) ⟨hx, hb, hml, hown, hts⟩ (c_X9_common l u lo (by omega) (by omega)) (va_cwS 2 hts gX9_share_X9_common rfl rfl rfl (by decide +kernel) ⟨Nat.le_of_ble_eq_true rfl, Nat.le_of_ble_eq_true rfl⟩) ⟨fun _ _ _ _ q => q, fun _ _ _ => rfl⟩ rfl rfl hl.1 rfl (lv_room (Nat.le_of_ble_eq_true rfl)) dX9_share_2 ⟨Nat.zero_le _, Nat.zero_le _⟩) (fun r_1 hr_1 => ?_)
  rw [show r_1 = jN ((Nat.gcd u.natAbs lo.natAbs : Nat) : Int) from hr_1]
  refine lv_lstore (lv' := [(5, .long (jN ((Nat.gcd u.natAbs lo.natAbs : Nat) : Int))), (0, .long (jN u)), (2, .long (jN lo)), (4, .int (iN wh))]) hx hb dX9_share_5 hl (by decide) rfl (fun ls hl => ?_)
  refine lv_iload hx hb dX9_share_7 (lv_at hl 3 rfl) ?_
  refine n_if_ne (tgt := 19) hx hb dX9_share_9 (by decide) (by omega) (by omega) (fun c_9 => ?_) (fun c_9 => ?_)
  · refine lv_lload_n hx hb dX9_share_19 rfl (lv_at hl 2 rfl) ?_
    refine lv_lload hx hb dX9_share_20 (lv_at hl 0 rfl) ?_
    refine n_ldiv hx hb (by omega) (by omega) (by omega) (by omega) (by omega) dX9_share_22 ?_
    exact r_sl hx hb hr dX9_share_23 hlocks (show jN _ = jN (if wh = 0 then Int.tdiv u (((Nat.gcd u.natAbs lo.natAbs : Nat) : Int)) else Int.tdiv lo (((Nat.gcd u.natAbs lo.natAbs : Nat) : Int))) by rw [if_neg (by omega)])
  · refine lv_lload_n hx hb dX9_share_12 rfl (lv_at hl 1 rfl) ?_
    refine lv_lload hx hb dX9_share_13 (lv_at hl 0 rfl) ?_
    refine n_ldiv hx hb (by omega) (by omega) (by omega) (by omega) (by omega) dX9_share_15 ?_
    refine lv_goto (tgt := 23) hx hb dX9_share_16 (by decide) ?_
    exact r_sl hx hb hr dX9_share_23 hlocks (show jN _ = jN (if wh = 0 then Int.tdiv u (((Nat.gcd u.natAbs lo.natAbs : Nat) : Int)) else Int.tdiv lo (((Nat.gcd u.natAbs lo.natAbs : Nat) : Int))) by rw [if_pos (by omega)])

set_option maxHeartbeats 4000000 in
set_option maxRecDepth 100000 in
theorem c_X9_place (l : Launch) (G : GE) (w : WF) (now : Nat) (came : Nat) (rm : Nat) (mt : Nat) (tm : Nat) (thg : Int) (onn : Int) (two : Int) (lw : Int) (hg : Int) (sq : Nat) (ga : Nat → Int) (pn : Nat → Nat) (mbe : Nat → Int) (mpl : Nat → Int) (msp : Nat → Int) (i : Int) (n : Int) (d : Int) (wh : Int) (e0 : w 59 = .inr (8, [.int (iN ((now : Nat) : Int)), .int (iN ((came : Nat) : Int)), .ref (gad G 60), .ref (gad G 61), .ref (gad G 62), .ref (gad G 63), .ref (gad G 64), .ref (gad G 65), .int (iN ((rm : Nat) : Int)), .int (iN ((mt : Nat) : Int)), .ref (gad G 66), .ref (gad G 67), .ref (gad G 68), .ref (gad G 69), .ref (gad G 70), .int (iN ((tm : Nat) : Int)), .ref (gad G 71), .ref (gad G 72), .int (iN thg), .int (iN onn), .int (iN two), .long (jN lw), .long (jN hg), .int (iN ((sq : Nat) : Int)), .ref (gad G 73), .ref (gad G 74)])) (e1 : w 60 = .inl (gI G, 10, .inl (aN ga))) (e2 : w 61 = .inl (gI G, 10, .inl (aN (pnI pn)))) (e3 : w 62 = .inl (gI G, 80, .inl (aN mbe))) (e4 : w 63 = .inl (gI G, 80, .inl (aN mpl))) (e5 : w 64 = .inl (gI G, 80, .inl (aN msp))) (p0 : -2147483648 ≤ i ∧ i < 2147483648) (p1 : -2147483648 ≤ n ∧ n < 2147483648) (p2 : -2147483648 ≤ d ∧ d < 2147483648) (p3 : -2147483648 ≤ wh ∧ wh < 2147483648) (p4 : OKS came (rw8 mbe) (rw8 mpl) (rw8 msp) pn ga) : Met l yX9_place wsX9_place ({ frames := 2, cells := 0, slots := 0, locals := 55 }) (PcG G w [.ref (gad G 59), .int (iN i), .int (iN n), .int (iN d), .int (iN wh)]) (vp_Sl (fun r => r = jN (if 0 ≤ i ∧ i ≤ (came : Int) - 1 then (if (1 ≤ d ∧ d ≤ 200 ∧ 0 ≤ n ∧ n ≤ 600 * d) ∧ 0 ≤ wh ∧ wh ≤ 1 then (if rw8 mbe i.toNat 0 * d ≤ n ∧ (ga i.toNat = -1 ∨ n < ga i.toNat * d) then (if wh = 0 then Int.tdiv (upAt (rw8 mbe i.toNat) (rw8 mpl i.toNat) (rw8 msp i.toNat) (pn i.toNat) n d) (((Nat.gcd (upAt (rw8 mbe i.toNat) (rw8 mpl i.toNat) (rw8 msp i.toNat) (pn i.toNat) n d).natAbs d.natAbs : Nat) : Int)) else Int.tdiv d (((Nat.gcd (upAt (rw8 mbe i.toNat) (rw8 mpl i.toNat) (rw8 msp i.toNat) (pn i.toNat) n d).natAbs d.natAbs : Nat) : Int))) else -100003) else -100002) else -100001))) 0 0 (fun _ => False) := by
  refine Met.ofW (cc := cX9_place) (maxL := 5) (ret := (some .long)) (by decide) rfl ?_
  intro p e s m args below meth c s₁ B hml hv
  obtain ⟨rfl, hP, hK⟩ := hv
  have hx := B.exec
  have hb := B.bytes
  have hr := B.returns
  have hts := atoms_spec (ws := wsX9_place) B.pre
  have hown : s.vm.findClass RX9 = some m.cls := findClass_of_methodNamed B.named
  have hlocks := B.notSynchronized
  have hl := lv_entry ([.ref (gad G 59), .int (iN i), .int (iN n), .int (iN d), .int (iN wh)]) (n := 5) (Nat.le_of_ble_eq_true rfl)
  rw [lg_entry_eq]
  generalize (lg_sl ([.ref (gad G 59), .int (iN i), .int (iN n), .int (iN d), .int (iN wh)]) ++ List.replicate (5 - (lg_sl ([.ref (gad G 59), .int (iN i), .int (iN n), .int (iN d), .int (iN wh)])).length) Slot.unset).toArray = ls at hl ⊢
  have hl : lv_has ls 5 [(0, .ref (gad G 59)), (1, .int (iN i)), (2, .int (iN n)), (3, .int (iN d)), (4, .int (iN wh))] := hl
  have hc10 : came ≤ 10 := p4.1
  refine lv_aload_n hx hb dX9_place_0 rfl (lv_at hl 0 rfl) ?_
  refine lv_iload_n hx hb dX9_place_1 rfl (lv_at hl 1 rfl) ?_
  refine vp_callSi (W.runV (As := [.int (iN i)]) (rest := []) ⟨hx, hb, hml, hown, hts⟩ (c_X9_isPoint l G w now came rm mt tm thg onn two lw hg sq i e0 (p0) (hc10)) (cwV 1 hts gX9_place_X9_isPoint rfl rfl rfl (by decide +kernel) ⟨Nat.le_of_ble_eq_true rfl, Nat.le_of_ble_eq_true rfl⟩) (f_preV hP hK 59 (by omega) 8 e0 rfl) rfl rfl hl.1 rfl (lv_room (Nat.le_of_ble_eq_true rfl)) dX9_place_2 ⟨Nat.zero_le _, Nat.zero_le _⟩) (fun r_1 hr_1 => ?_)
  rw [show r_1 = iN (if (0 ≤ i ∧ i ≤ ((came : Nat) : Int) - 1) then 1 else 0) from hr_1]
  refine n_ifb_ne (tgt := 12) hx hb dX9_place_5 (by decide) (fun c_5 => ?_) (fun c_5 => ?_)
  · have hz_2 : i = ((i.toNat : Nat) : Int) := by omega
    have hl : lv_has ls 5 [(0, .ref (gad G 59)), (1, .int (iN ((i.toNat : Nat) : Int))), (2, .int (iN n)), (3, .int (iN d)), (4, .int (iN wh))] := by rw [← hz_2]; exact hl
    have hc10 : came ≤ 10 := p4.1
    have hVi := p4.2 i.toNat (by omega)
    obtain ⟨hv1, hv2, hv3, hv4⟩ := id hVi
    have hv20 := hv2 0 (by omega)
    refine lv_iload_n hx hb dX9_place_12 rfl (lv_at hl 2 rfl) ?_
    refine lv_iload_n hx hb dX9_place_13 rfl (lv_at hl 3 rfl) ?_
    refine vp_callSi (W.runS (As := [.int (iN n), .int (iN d)]) (rest := []) ⟨hx, hb, hml, hown, hts⟩ (c_X9_isMoment l n d (p1) (p2)) (va_cwS 2 hts gX9_place_X9_isMoment rfl rfl rfl (by decide +kernel) ⟨Nat.le_of_ble_eq_true rfl, Nat.le_of_ble_eq_true rfl⟩) ⟨fun _ _ _ _ q => q, fun _ _ _ => rfl⟩ rfl rfl hl.1 rfl (lv_room (Nat.le_of_ble_eq_true rfl)) dX9_place_14 ⟨Nat.zero_le _, Nat.zero_le _⟩) (fun r_3 hr_3 => ?_)
    rw [show r_3 = iN (if (1 ≤ d ∧ d ≤ 200 ∧ 0 ≤ n ∧ n ≤ 600 * d) then 1 else 0) from hr_3]
    refine n_ifb_eq (tgt := 31) hx hb dX9_place_17 (by decide) (fun c_17 => ?_) (fun c_17 => ?_)
    · refine n_ldc2 (z := (-100002)) hx hb hown (hts (.constantLong RX9 116 (-100002)) (by decide +kernel)) (by decide) dX9_place_31 ?_
      exact r_sl hx hb hr dX9_place_34 hlocks (show _ = jN (if 0 ≤ i ∧ i ≤ (came : Int) - 1 then (if (1 ≤ d ∧ d ≤ 200 ∧ 0 ≤ n ∧ n ≤ 600 * d) ∧ 0 ≤ wh ∧ wh ≤ 1 then (if rw8 mbe i.toNat 0 * d ≤ n ∧ (ga i.toNat = -1 ∨ n < ga i.toNat * d) then (if wh = 0 then Int.tdiv (upAt (rw8 mbe i.toNat) (rw8 mpl i.toNat) (rw8 msp i.toNat) (pn i.toNat) n d) (((Nat.gcd (upAt (rw8 mbe i.toNat) (rw8 mpl i.toNat) (rw8 msp i.toNat) (pn i.toNat) n d).natAbs d.natAbs : Nat) : Int)) else Int.tdiv d (((Nat.gcd (upAt (rw8 mbe i.toNat) (rw8 mpl i.toNat) (rw8 msp i.toNat) (pn i.toNat) n d).natAbs d.natAbs : Nat) : Int))) else -100003) else -100002) else -100001) by rw [if_pos (by omega), if_neg (by omega)])
    · refine lv_iload hx hb dX9_place_20 (lv_at hl 4 rfl) ?_
      refine n_i2l hx hb (by omega) (by omega) dX9_place_22 ?_
      refine n_lconst (z := 0) hx hb dX9_place_23 (by decide) ?_
      refine n_lconst (z := 1) hx hb dX9_place_24 (by decide) ?_
      refine vp_callSi (W.runS (As := [.long (jN wh), .long (jN 0), .long (jN 1)]) (rest := []) ⟨hx, hb, hml, hown, hts⟩ (c_X9_in l wh (0 : Int) (1 : Int) (by omega) (by omega) (by omega)) (va_cwS 3 hts gX9_place_X9_in rfl rfl rfl (by decide +kernel) ⟨Nat.le_of_ble_eq_true rfl, Nat.le_of_ble_eq_true rfl⟩) ⟨fun _ _ _ _ q => q, fun _ _ _ => rfl⟩ rfl rfl hl.1 rfl (lv_room (Nat.le_of_ble_eq_true rfl)) dX9_place_25 ⟨Nat.zero_le _, Nat.zero_le _⟩) (fun r_4 hr_4 => ?_)
      rw [show r_4 = iN (if ((0 : Int) ≤ wh ∧ wh ≤ (1 : Int)) then 1 else 0) from hr_4]
      refine n_ifb_ne (tgt := 35) hx hb dX9_place_28 (by decide) (fun c_28 => ?_) (fun c_28 => ?_)
      · refine lv_aload_n hx hb dX9_place_35 rfl (lv_at hl 0 rfl) ?_
        refine lv_iload_n hx hb dX9_place_36 rfl (lv_at hl 1 rfl) ?_
        refine lv_iload_n hx hb dX9_place_37 rfl (lv_at hl 2 rfl) ?_
        refine n_i2l hx hb (by omega) (by omega) dX9_place_38 ?_
        refine lv_iload_n hx hb dX9_place_39 rfl (lv_at hl 3 rfl) ?_
        refine n_i2l hx hb (by omega) (by omega) dX9_place_40 ?_
        refine vp_callSi (W.runV (As := [.int (iN ((i.toNat : Nat) : Int)), .long (jN n), .long (jN d)]) (rest := []) ⟨hx, hb, hml, hown, hts⟩ (c_X9_isThere l G w now came rm mt tm thg onn two lw hg sq ga pn mbe mpl msp i.toNat n d e0 e1 e2 e3 e4 e5 (by omega) (hv20) (hv3) (by omega) (by omega)) (cwV 3 hts gX9_place_X9_isThere rfl rfl rfl (by decide +kernel) ⟨Nat.le_of_ble_eq_true rfl, Nat.le_of_ble_eq_true rfl⟩) (f_preV hP hK 59 (by omega) 8 e0 rfl) rfl rfl hl.1 rfl (lv_room (Nat.le_of_ble_eq_true rfl)) dX9_place_41 ⟨Nat.zero_le _, Nat.zero_le _⟩) (fun r_5 hr_5 => ?_)
        rw [show r_5 = iN (if (rw8 mbe i.toNat 0 * d ≤ n ∧ (ga i.toNat = -1 ∨ n < ga i.toNat * d)) then 1 else 0) from hr_5]
        refine n_ifb_eq (tgt := 66) hx hb dX9_place_44 (by decide) (fun c_44 => ?_) (fun c_44 => ?_)
        · refine n_ldc2 (z := (-100003)) hx hb hown (hts (.constantLong RX9 126 (-100003)) (by decide +kernel)) (by decide) dX9_place_66 ?_
          exact r_sl hx hb hr dX9_place_69 hlocks (show _ = jN (if 0 ≤ i ∧ i ≤ (came : Int) - 1 then (if (1 ≤ d ∧ d ≤ 200 ∧ 0 ≤ n ∧ n ≤ 600 * d) ∧ 0 ≤ wh ∧ wh ≤ 1 then (if rw8 mbe i.toNat 0 * d ≤ n ∧ (ga i.toNat = -1 ∨ n < ga i.toNat * d) then (if wh = 0 then Int.tdiv (upAt (rw8 mbe i.toNat) (rw8 mpl i.toNat) (rw8 msp i.toNat) (pn i.toNat) n d) (((Nat.gcd (upAt (rw8 mbe i.toNat) (rw8 mpl i.toNat) (rw8 msp i.toNat) (pn i.toNat) n d).natAbs d.natAbs : Nat) : Int)) else Int.tdiv d (((Nat.gcd (upAt (rw8 mbe i.toNat) (rw8 mpl i.toNat) (rw8 msp i.toNat) (pn i.toNat) n d).natAbs d.natAbs : Nat) : Int))) else -100003) else -100002) else -100001) by rw [if_pos (by omega), if_pos (by omega), if_neg c_44])
        · have hup := upAt_rng hVi (d := d) (n := n) (by omega) (by omega)
          refine lv_aload_n hx hb dX9_place_47 rfl (lv_at hl 0 rfl) ?_
          refine lv_iload_n hx hb dX9_place_48 rfl (lv_at hl 1 rfl) ?_
          refine lv_iload_n hx hb dX9_place_49 rfl (lv_at hl 2 rfl) ?_
          refine n_i2l hx hb (by omega) (by omega) dX9_place_50 ?_
          refine lv_iload_n hx hb dX9_place_51 rfl (lv_at hl 3 rfl) ?_
          refine n_i2l hx hb (by omega) (by omega) dX9_place_52 ?_
          refine vp_callSl (W.runV (As := [.int (iN ((i.toNat : Nat) : Int)), .long (jN n), .long (jN d)]) (rest := []) ⟨hx, hb, hml, hown, hts⟩ (c_X9_placeAt l G w now came rm mt tm thg onn two lw hg sq ga pn mbe mpl msp i.toNat n d e0 e1 e2 e3 e4 e5 (by omega) (hv1) (hv2) (hv4) (by omega) (by omega)) (cwV 3 hts gX9_place_X9_placeAt rfl rfl rfl (by decide +kernel) ⟨Nat.le_of_ble_eq_true rfl, Nat.le_of_ble_eq_true rfl⟩) (f_preV hP hK 59 (by omega) 8 e0 rfl) rfl rfl hl.1 rfl (lv_room (Nat.le_of_ble_eq_true rfl)) dX9_place_53 ⟨Nat.zero_le _, Nat.zero_le _⟩) (fun r_6 hr_6 => ?_)
          rw [show r_6 = jN (upAt (rw8 mbe i.toNat) (rw8 mpl i.toNat) (rw8 msp i.toNat) (pn i.toNat) n d) from hr_6]
          refine lv_iload_n hx hb dX9_place_56 rfl (lv_at hl 3 rfl) ?_
          refine n_i2l hx hb (by omega) (by omega) dX9_place_57 ?_
          refine lv_iload hx hb dX9_place_58 (lv_at hl 4 rfl) ?_
          refine vp_callSl (W.runS (As := [.long (jN (upAt (rw8 mbe i.toNat) (rw8 mpl i.toNat) (rw8 msp i.toNat) (pn i.toNat) n d)), .long (jN d), .int (iN wh)]) (rest := []) ⟨hx, hb, hml, hown, hts⟩ (c_X9_share l (upAt (rw8 mbe i.toNat) (rw8 mpl i.toNat) (rw8 msp i.toNat) (pn i.toNat) n d) d wh (by omega) (by omega) (by omega)) (va_cwS 3 hts gX9_place_X9_share rfl rfl rfl (by decide +kernel) ⟨Nat.le_of_ble_eq_true rfl, Nat.le_of_ble_eq_true rfl⟩) ⟨fun _ _ _ _ q => q, fun _ _ _ => rfl⟩ rfl rfl hl.1 rfl (lv_room (Nat.le_of_ble_eq_true rfl)) dX9_place_60 ⟨Nat.zero_le _, Nat.zero_le _⟩) (fun r_7 hr_7 => ?_)
          rw [show r_7 = jN (if wh = 0 then Int.tdiv (upAt (rw8 mbe i.toNat) (rw8 mpl i.toNat) (rw8 msp i.toNat) (pn i.toNat) n d) (((Nat.gcd (upAt (rw8 mbe i.toNat) (rw8 mpl i.toNat) (rw8 msp i.toNat) (pn i.toNat) n d).natAbs d.natAbs : Nat) : Int)) else Int.tdiv d (((Nat.gcd (upAt (rw8 mbe i.toNat) (rw8 mpl i.toNat) (rw8 msp i.toNat) (pn i.toNat) n d).natAbs d.natAbs : Nat) : Int))) from hr_7]
          refine lv_goto (tgt := 69) hx hb dX9_place_63 (by decide) ?_
          exact r_sl hx hb hr dX9_place_69 hlocks (show _ = jN (if 0 ≤ i ∧ i ≤ (came : Int) - 1 then (if (1 ≤ d ∧ d ≤ 200 ∧ 0 ≤ n ∧ n ≤ 600 * d) ∧ 0 ≤ wh ∧ wh ≤ 1 then (if rw8 mbe i.toNat 0 * d ≤ n ∧ (ga i.toNat = -1 ∨ n < ga i.toNat * d) then (if wh = 0 then Int.tdiv (upAt (rw8 mbe i.toNat) (rw8 mpl i.toNat) (rw8 msp i.toNat) (pn i.toNat) n d) (((Nat.gcd (upAt (rw8 mbe i.toNat) (rw8 mpl i.toNat) (rw8 msp i.toNat) (pn i.toNat) n d).natAbs d.natAbs : Nat) : Int)) else Int.tdiv d (((Nat.gcd (upAt (rw8 mbe i.toNat) (rw8 mpl i.toNat) (rw8 msp i.toNat) (pn i.toNat) n d).natAbs d.natAbs : Nat) : Int))) else -100003) else -100002) else -100001) by rw [if_pos (show 0 ≤ i ∧ i ≤ (came : Int) - 1 by omega), if_pos (show (1 ≤ d ∧ d ≤ 200 ∧ 0 ≤ n ∧ n ≤ 600 * d) ∧ 0 ≤ wh ∧ wh ≤ 1 by omega), if_pos c_44])
      · refine n_ldc2 (z := (-100002)) hx hb hown (hts (.constantLong RX9 116 (-100002)) (by decide +kernel)) (by decide) dX9_place_31 ?_
        exact r_sl hx hb hr dX9_place_34 hlocks (show _ = jN (if 0 ≤ i ∧ i ≤ (came : Int) - 1 then (if (1 ≤ d ∧ d ≤ 200 ∧ 0 ≤ n ∧ n ≤ 600 * d) ∧ 0 ≤ wh ∧ wh ≤ 1 then (if rw8 mbe i.toNat 0 * d ≤ n ∧ (ga i.toNat = -1 ∨ n < ga i.toNat * d) then (if wh = 0 then Int.tdiv (upAt (rw8 mbe i.toNat) (rw8 mpl i.toNat) (rw8 msp i.toNat) (pn i.toNat) n d) (((Nat.gcd (upAt (rw8 mbe i.toNat) (rw8 mpl i.toNat) (rw8 msp i.toNat) (pn i.toNat) n d).natAbs d.natAbs : Nat) : Int)) else Int.tdiv d (((Nat.gcd (upAt (rw8 mbe i.toNat) (rw8 mpl i.toNat) (rw8 msp i.toNat) (pn i.toNat) n d).natAbs d.natAbs : Nat) : Int))) else -100003) else -100002) else -100001) by rw [if_pos (by omega), if_neg (by omega)])
  · refine n_ldc2 (z := (-100001)) hx hb hown (hts (.constantLong RX9 110 (-100001)) (by decide +kernel)) (by decide) dX9_place_8 ?_
    exact r_sl hx hb hr dX9_place_11 hlocks (show _ = jN (if 0 ≤ i ∧ i ≤ (came : Int) - 1 then (if (1 ≤ d ∧ d ≤ 200 ∧ 0 ≤ n ∧ n ≤ 600 * d) ∧ 0 ≤ wh ∧ wh ≤ 1 then (if rw8 mbe i.toNat 0 * d ≤ n ∧ (ga i.toNat = -1 ∨ n < ga i.toNat * d) then (if wh = 0 then Int.tdiv (upAt (rw8 mbe i.toNat) (rw8 mpl i.toNat) (rw8 msp i.toNat) (pn i.toNat) n d) (((Nat.gcd (upAt (rw8 mbe i.toNat) (rw8 mpl i.toNat) (rw8 msp i.toNat) (pn i.toNat) n d).natAbs d.natAbs : Nat) : Int)) else Int.tdiv d (((Nat.gcd (upAt (rw8 mbe i.toNat) (rw8 mpl i.toNat) (rw8 msp i.toNat) (pn i.toNat) n d).natAbs d.natAbs : Nat) : Int))) else -100003) else -100002) else -100001) by rw [if_neg (by omega)])

def isRow (f : Nat → Int) (th : Nat → Bool) (i sz : Nat) (row : Nat → Int) : Prop := sz = (ordR f th i).1 ∧ ∀ k, k < sz → row k = (((ordR f th i).2 k : Nat) : Int)
def gtU (f : Nat → Int) (th : Nat → Bool) (i : Nat) : Nat → Bool := fun k => decide (f i < f ((ordR f th i).2 k))
theorem isRow_in {f : Nat → Int} {th : Nat → Bool} {i sz : Nat} {row : Nat → Int} (h : isRow f th i sz row) (hth : th i = true) : isRow f th (i + 1) (sz + 1) (insF row (spotP (gtU f th i) sz) sz ((i : Nat) : Int)) := by
  obtain ⟨rfl, h2⟩ := h
  refine ⟨?_, fun k hk => ?_⟩
  · show _ = (if th i then _ else _ : Nat × (Nat → Nat)).1
    rw [if_pos hth]
  · rw [show ordR f th (i + 1) = (if th i then ((ordR f th i).1 + 1, insF (ordR f th i).2 (spotP (fun k => decide (f i < f ((ordR f th i).2 k))) (ordR f th i).1) (ordR f th i).1 i) else ordR f th i) from rfl, if_pos hth]
    exact insF_map (g := fun q : Nat => (q : Int)) h2 rfl (spot_le _ _) k hk
theorem isRow_out {f : Nat → Int} {th : Nat → Bool} {i sz : Nat} {row : Nat → Int} (h : isRow f th i sz row) (hth : ¬ th i = true) : isRow f th (i + 1) sz row := by
  unfold isRow ordR
  rw [if_neg hth]
  exact h
theorem isRow_tell {f : Nat → Int} {th : Nat → Bool} {came sz : Nat} {row : Nat → Int} (h : isRow f th came sz row) (k : Int) : (if 0 ≤ k ∧ k ≤ (sz : Int) - 1 then row k.toNat else -1) = tellR f th came k := by
  obtain ⟨rfl, h2⟩ := h
  unfold tellR
  by_cases h : 0 ≤ k ∧ k < ((ordR f th came).1 : Int)
  · rw [if_pos h, if_pos (by omega)]
    exact h2 _ (by omega)
  · rw [if_neg h, if_neg (by omega)]

set_option maxHeartbeats 4000000 in
set_option maxRecDepth 100000 in
theorem c_X9_findOrder (l : Launch) (G : GE) (w : WF) (now : Nat) (came : Nat) (rm : Nat) (mt : Nat) (tm : Nat) (thg : Int) (onn : Int) (two : Int) (lw : Int) (hg : Int) (sq : Nat) (ga : Nat → Int) (pn : Nat → Nat) (mbe : Nat → Int) (mpl : Nat → Int) (msp : Nat → Int) (row : Nat → Int) (n : Int) (d : Int) (e0 : w 59 = .inr (8, [.int (iN ((now : Nat) : Int)), .int (iN ((came : Nat) : Int)), .ref (gad G 60), .ref (gad G 61), .ref (gad G 62), .ref (gad G 63), .ref (gad G 64), .ref (gad G 65), .int (iN ((rm : Nat) : Int)), .int (iN ((mt : Nat) : Int)), .ref (gad G 66), .ref (gad G 67), .ref (gad G 68), .ref (gad G 69), .ref (gad G 70), .int (iN ((tm : Nat) : Int)), .ref (gad G 71), .ref (gad G 72), .int (iN thg), .int (iN onn), .int (iN two), .long (jN lw), .long (jN hg), .int (iN ((sq : Nat) : Int)), .ref (gad G 73), .ref (gad G 74)])) (e1 : w 60 = .inl (gI G, 10, .inl (aN ga))) (e2 : w 61 = .inl (gI G, 10, .inl (aN (pnI pn)))) (e3 : w 62 = .inl (gI G, 80, .inl (aN mbe))) (e4 : w 63 = .inl (gI G, 80, .inl (aN mpl))) (e5 : w 64 = .inl (gI G, 80, .inl (aN msp))) (e6 : w 65 = .inl (gI G, 10, .inl (aN row))) (p0 : OKS came (rw8 mbe) (rw8 mpl) (rw8 msp) pn ga) (p1 : 1 ≤ d ∧ d ≤ 200) (p2 : 0 ≤ n ∧ n ≤ 600 * d) : Met l yX9_findOrder wsX9_findOrder ({ frames := 2, cells := 0, slots := 0, locals := 47 }) (PcG G w [.ref (gad G 59), .long (jN n), .long (jN d)]) (QV G (fun w1 => ∃ (rm2 : Nat) (row2 : Nat → Int), (∀ k : Nat, k ≠ 59 → k ≠ 65 → w1 k = w k) ∧ w1 59 = .inr (8, [.int (iN ((now : Nat) : Int)), .int (iN ((came : Nat) : Int)), .ref (gad G 60), .ref (gad G 61), .ref (gad G 62), .ref (gad G 63), .ref (gad G 64), .ref (gad G 65), .int (iN ((rm2 : Nat) : Int)), .int (iN ((mt : Nat) : Int)), .ref (gad G 66), .ref (gad G 67), .ref (gad G 68), .ref (gad G 69), .ref (gad G 70), .int (iN ((tm : Nat) : Int)), .ref (gad G 71), .ref (gad G 72), .int (iN thg), .int (iN onn), .int (iN two), .long (jN lw), .long (jN hg), .int (iN ((sq : Nat) : Int)), .ref (gad G 73), .ref (gad G 74)]) ∧ w1 65 = .inl (gI G, 10, .inl (aN row2)) ∧ (isRow (upF (rw8 mbe) (rw8 mpl) (rw8 msp) pn n d) (thF (rw8 mbe) ga n d) came rm2 row2))) 0 0 (AA G) := by
  refine Met.ofW (cc := cX9_findOrder) (maxL := 7) (ret := none) (by decide) rfl ?_
  intro p e s m args below meth c s₁ B hml hv
  obtain ⟨rfl, hP, hK⟩ := hv
  have hx := B.exec
  have hb := B.bytes
  have hr := B.returns
  have hts := atoms_spec (ws := wsX9_findOrder) B.pre
  have hown : s.vm.findClass RX9 = some m.cls := findClass_of_methodNamed B.named
  have hlocks := B.notSynchronized
  have hS : va_S (AA G) s.heap s.heap [] := va_S.rf
  have hAA : ∀ q, AA G q → AA G q := fun _ h => h
  have hl := lv_entry ([.ref (gad G 59), .long (jN n), .long (jN d)]) (n := 7) (Nat.le_of_ble_eq_true rfl)
  rw [lg_entry_eq]
  generalize (lg_sl ([.ref (gad G 59), .long (jN n), .long (jN d)]) ++ List.replicate (7 - (lg_sl ([.ref (gad G 59), .long (jN n), .long (jN d)])).length) Slot.unset).toArray = ls at hl ⊢
  have hl : lv_has ls 7 [(0, .ref (gad G 59)), (1, .long (jN n)), (3, .long (jN d))] := hl
  have hc10 : came ≤ 10 := p0.1
  refine lv_aload_n hx hb dX9_findOrder_0 rfl (lv_at hl 0 rfl) ?_
  refine n_iconst hx hb dX9_findOrder_1 ?_
  refine f_put (v := .int (iN 0)) (ty := .int) (C := RX9) (T := TX9) (N := 26) hx hb hts (by decide +kernel) tyX9 tyX9_ok nmX9 hown hK hP hS hAA 59 (by omega) e0 rfl 8 (by decide) (hts (.fieldLink RX9 128 "KeptMovingModel" "rowMany" "I") (by decide +kernel)) (fun _ h9 => h9) rfl (by decide +kernel) (rfl) (rfl) (Nat.le_of_ble_eq_true rfl) (rfl) dX9_findOrder_2 (fun H locs hP hS => ?_)
  have hP : PW G (va_up w 59 (.inr (8, [.int (iN ((now : Nat) : Int)), .int (iN ((came : Nat) : Int)), .ref (gad G 60), .ref (gad G 61), .ref (gad G 62), .ref (gad G 63), .ref (gad G 64), .ref (gad G 65), .int (iN 0), .int (iN ((mt : Nat) : Int)), .ref (gad G 66), .ref (gad G 67), .ref (gad G 68), .ref (gad G 69), .ref (gad G 70), .int (iN ((tm : Nat) : Int)), .ref (gad G 71), .ref (gad G 72), .int (iN thg), .int (iN onn), .int (iN two), .long (jN lw), .long (jN hg), .int (iN ((sq : Nat) : Int)), .ref (gad G 73), .ref (gad G 74)]))) H := hP
  obtain ⟨w_1, hw_2⟩ : ∃ z : WF, z = va_up w 59 (.inr (8, [.int (iN ((now : Nat) : Int)), .int (iN ((came : Nat) : Int)), .ref (gad G 60), .ref (gad G 61), .ref (gad G 62), .ref (gad G 63), .ref (gad G 64), .ref (gad G 65), .int (iN 0), .int (iN ((mt : Nat) : Int)), .ref (gad G 66), .ref (gad G 67), .ref (gad G 68), .ref (gad G 69), .ref (gad G 70), .int (iN ((tm : Nat) : Int)), .ref (gad G 71), .ref (gad G 72), .int (iN thg), .int (iN onn), .int (iN two), .long (jN lw), .long (jN hg), .int (iN ((sq : Nat) : Int)), .ref (gad G 73), .ref (gad G 74)])) := ⟨_, rfl⟩
  rw [← hw_2] at hP
  have fr_3 : ∀ k : Nat, k ≠ 59 → w_1 k = w k := fun k h => by rw [hw_2]; exact va_up_ne _ _ h
  have e_4 : w_1 59 = .inr (8, [.int (iN ((now : Nat) : Int)), .int (iN ((came : Nat) : Int)), .ref (gad G 60), .ref (gad G 61), .ref (gad G 62), .ref (gad G 63), .ref (gad G 64), .ref (gad G 65), .int (iN 0), .int (iN ((mt : Nat) : Int)), .ref (gad G 66), .ref (gad G 67), .ref (gad G 68), .ref (gad G 69), .ref (gad G 70), .int (iN ((tm : Nat) : Int)), .ref (gad G 71), .ref (gad G 72), .int (iN thg), .int (iN onn), .int (iN two), .long (jN lw), .long (jN hg), .int (iN ((sq : Nat) : Int)), .ref (gad G 73), .ref (gad G 74)]) := by rw [hw_2]; exact va_up_self _ _ _
  have e_5 : w_1 60 = .inl (gI G, 10, .inl (aN ga)) := (fr_3 60 (by omega)).trans e1
  have e_6 : w_1 61 = .inl (gI G, 10, .inl (aN (pnI pn))) := (fr_3 61 (by omega)).trans e2
  have e_7 : w_1 62 = .inl (gI G, 80, .inl (aN mbe)) := (fr_3 62 (by omega)).trans e3
  have e_8 : w_1 63 = .inl (gI G, 80, .inl (aN mpl)) := (fr_3 63 (by omega)).trans e4
  have e_9 : w_1 64 = .inl (gI G, 80, .inl (aN msp)) := (fr_3 64 (by omega)).trans e5
  have e_10 : w_1 65 = .inl (gI G, 10, .inl (aN row)) := (fr_3 65 (by omega)).trans e6
  refine n_iconst hx hb dX9_findOrder_5 ?_
  refine lv_istore (lv' := [(5, .int (iN 0)), (0, .ref (gad G 59)), (1, .long (jN n)), (3, .long (jN d))]) hx hb dX9_findOrder_6 hl (by decide) rfl (fun ls hl => ?_)
  have K8 : ∀ (N : Nat) (i : Nat) (rm2 : Nat) (row2 : Nat → Int) (w2 : WF) (H : Heap) (locs : List Loc) (ls : Array Slot), (i ≤ came) → (isRow (upF (rw8 mbe) (rw8 mpl) (rw8 msp) pn n d) (thF (rw8 mbe) ga n d) i rm2 row2) → 11 - i < N → w2 59 = .inr (8, [.int (iN ((now : Nat) : Int)), .int (iN ((came : Nat) : Int)), .ref (gad G 60), .ref (gad G 61), .ref (gad G 62), .ref (gad G 63), .ref (gad G 64), .ref (gad G 65), .int (iN ((rm2 : Nat) : Int)), .int (iN ((mt : Nat) : Int)), .ref (gad G 66), .ref (gad G 67), .ref (gad G 68), .ref (gad G 69), .ref (gad G 70), .int (iN ((tm : Nat) : Int)), .ref (gad G 71), .ref (gad G 72), .int (iN thg), .int (iN onn), .int (iN two), .long (jN lw), .long (jN hg), .int (iN ((sq : Nat) : Int)), .ref (gad G 73), .ref (gad G 74)]) → w2 65 = .inl (gI G, 10, .inl (aN row2)) → (∀ k : Nat, k ≠ 59 → k ≠ 65 → w2 k = w k) → PW G w2 H → va_S (AA G) s.heap H locs → lv_has ls 7 [(0, .ref (gad G 59)), (1, .long (jN n)), (3, .long (jN d)), (5, .int (iN ((i : Nat) : Int)))] → W p l e (headSpec wsX9_findOrder ({ frames := 2, cells := 0, slots := 0, locals := 47 })).room s m (([.ref (gad G 59), .long (jN n), .long (jN d)] : List Value).toArray) below meth c H locs 0 0 (MQ below (QV G (fun w1 => ∃ (rm2 : Nat) (row2 : Nat → Int), (∀ k : Nat, k ≠ 59 → k ≠ 65 → w1 k = w k) ∧ w1 59 = .inr (8, [.int (iN ((now : Nat) : Int)), .int (iN ((came : Nat) : Int)), .ref (gad G 60), .ref (gad G 61), .ref (gad G 62), .ref (gad G 63), .ref (gad G 64), .ref (gad G 65), .int (iN ((rm2 : Nat) : Int)), .int (iN ((mt : Nat) : Int)), .ref (gad G 66), .ref (gad G 67), .ref (gad G 68), .ref (gad G 69), .ref (gad G 70), .int (iN ((tm : Nat) : Int)), .ref (gad G 71), .ref (gad G 72), .int (iN thg), .int (iN onn), .int (iN two), .long (jN lw), .long (jN hg), .int (iN ((sq : Nat) : Int)), .ref (gad G 73), .ref (gad G 74)]) ∧ w1 65 = .inl (gI G, 10, .inl (aN row2)) ∧ (isRow (upF (rw8 mbe) (rw8 mpl) (rw8 msp) pn n d) (thF (rw8 mbe) ga n d) came rm2 row2))) (([.ref (gad G 59), .long (jN n), .long (jN d)] : List Value).toArray) s 0 0 (AA G)) (F0 m 8 ls []) := by
    intro N
    induction N with
    | zero =>
      intros
      exfalso
      omega
    | succ N ih8 =>
      intro i rm2 row2 w2 H locs ls i8_0 i8_1 hN8 f8_0 f8_1 hfr8 hP hS hl
      have e_11 : w2 60 = .inl (gI G, 10, .inl (aN ga)) := by rw [hfr8 60 (by omega) (by omega)]; exact e1
      have e_12 : w2 61 = .inl (gI G, 10, .inl (aN (pnI pn))) := by rw [hfr8 61 (by omega) (by omega)]; exact e2
      have e_13 : w2 62 = .inl (gI G, 80, .inl (aN mbe)) := by rw [hfr8 62 (by omega) (by omega)]; exact e3
      have e_14 : w2 63 = .inl (gI G, 80, .inl (aN mpl)) := by rw [hfr8 63 (by omega) (by omega)]; exact e4
      have e_15 : w2 64 = .inl (gI G, 80, .inl (aN msp)) := by rw [hfr8 64 (by omega) (by omega)]; exact e5
      refine lv_iload hx hb dX9_findOrder_8 (lv_at hl 3 rfl) ?_
      refine lv_aload_n hx hb dX9_findOrder_10 rfl (lv_at hl 0 rfl) ?_
      refine f_get (C := RX9) (T := TX9) (N := 26) hx hb hts (by decide +kernel) hown hK hP 59 (by omega) f8_0 rfl 1 (by decide) (hts (.fieldLink RX9 57 "KeptMovingModel" "points" "I") (by decide +kernel)) (fun _ h9 => h9) rfl dX9_findOrder_11 ?_
      refine n_icmp_ge (tgt := 113) hx hb dX9_findOrder_14 (by decide) (by omega) (by omega) (by omega) (by omega) (fun c_14 => ?_) (fun c_14 => ?_)
      · exact r_v hx hb hr dX9_findOrder_113 hlocks hP hS (⟨rm2, row2, (fun k h0 h1 => hfr8 k (by omega) (by omega)), f8_0, f8_1, (by rw [show came = i by omega]; exact i8_1)⟩)
      · obtain ⟨hv1, hv2, hv3, hv4⟩ := id (p0.2 i (by omega))
        have hv20 := hv2 0 (by omega)
        have hui := upAt_rng (p0.2 i (by omega)) p1 p2
        have hole := ordR_le (upF (rw8 mbe) (rw8 mpl) (rw8 msp) pn n d) (thF (rw8 mbe) ga n d) i
        have hosz : rm2 = (ordR (upF (rw8 mbe) (rw8 mpl) (rw8 msp) pn n d) (thF (rw8 mbe) ga n d) i).1 := i8_1.1
        refine lv_aload_n hx hb dX9_findOrder_17 rfl (lv_at hl 0 rfl) ?_
        refine lv_iload hx hb dX9_findOrder_18 (lv_at hl 3 rfl) ?_
        refine lv_lload_n hx hb dX9_findOrder_20 rfl (lv_at hl 1 rfl) ?_
        refine lv_lload_n hx hb dX9_findOrder_21 rfl (lv_at hl 2 rfl) ?_
        refine vp_callSi (W.runV (As := [.int (iN ((i : Nat) : Int)), .long (jN n), .long (jN d)]) (rest := []) ⟨hx, hb, hml, hown, hts⟩ (c_X9_isThere l G w2 now came rm2 mt tm thg onn two lw hg sq ga pn mbe mpl msp i n d f8_0 e_11 e_12 e_13 e_14 e_15 (by omega) (hv20) (hv3) (by omega) (by omega)) (cwV 3 hts gX9_findOrder_X9_isThere rfl rfl rfl (by decide +kernel) ⟨Nat.le_of_ble_eq_true rfl, Nat.le_of_ble_eq_true rfl⟩) (f_preV hP hK 59 (by omega) 8 f8_0 rfl) rfl rfl hl.1 rfl (lv_room (Nat.le_of_ble_eq_true rfl)) dX9_findOrder_22 ⟨Nat.zero_le _, Nat.zero_le _⟩) (fun r_16 hr_16 => ?_)
        rw [show r_16 = iN (if (rw8 mbe i 0 * d ≤ n ∧ (ga i = -1 ∨ n < ga i * d)) then 1 else 0) from hr_16]
        refine n_ifb_eq (tgt := 107) hx hb dX9_findOrder_25 (by decide) (fun c_25 => ?_) (fun c_25 => ?_)
        · refine lv_iinc (v := iN ((i + 1 : Nat) : Int)) (lv' := [(5, .int (iN ((i + 1 : Nat) : Int))), (0, .ref (gad G 59)), (1, .long (jN n)), (3, .long (jN d))]) hx hb dX9_findOrder_107 hl (k := 3) rfl (iN_incN _) (by decide) rfl (fun ls hl => ?_)
          refine lv_goto (tgt := 8) hx hb dX9_findOrder_110 (by decide) ?_
          exact ih8 (i + 1) (rm2) (row2) w2 _ _ _ (by omega) (isRow_out i8_1 (fun z => c_25 (of_decide_eq_true z))) (by omega) (f8_0) (f8_1) (fun k h0 h1 => hfr8 k (by omega) (by omega)) hP hS (lv_sub hl [1, 2, 3, 0] rfl)
        · refine lv_aload_n hx hb dX9_findOrder_28 rfl (lv_at hl 0 rfl) ?_
          refine f_get (C := RX9) (T := TX9) (N := 26) hx hb hts (by decide +kernel) hown hK hP 59 (by omega) f8_0 rfl 8 (by decide) (hts (.fieldLink RX9 128 "KeptMovingModel" "rowMany" "I") (by decide +kernel)) (fun _ h9 => h9) rfl dX9_findOrder_29 ?_
          refine lv_istore (lv' := [(6, .int (iN ((rm2 : Nat) : Int))), (0, .ref (gad G 59)), (1, .long (jN n)), (3, .long (jN d)), (5, .int (iN ((i : Nat) : Int)))]) hx hb dX9_findOrder_32 hl (by decide) rfl (fun ls hl => ?_)
          have K34 : ∀ (N : Nat) (q : Nat) (w2 : WF) (H : Heap) (locs : List Loc) (ls : Array Slot), (q ≤ rm2) → (spotP (gtU (upF (rw8 mbe) (rw8 mpl) (rw8 msp) pn n d) (thF (rw8 mbe) ga n d) i) q = spotP (gtU (upF (rw8 mbe) (rw8 mpl) (rw8 msp) pn n d) (thF (rw8 mbe) ga n d) i) rm2) → q < N → w2 59 = .inr (8, [.int (iN ((now : Nat) : Int)), .int (iN ((came : Nat) : Int)), .ref (gad G 60), .ref (gad G 61), .ref (gad G 62), .ref (gad G 63), .ref (gad G 64), .ref (gad G 65), .int (iN ((rm2 : Nat) : Int)), .int (iN ((mt : Nat) : Int)), .ref (gad G 66), .ref (gad G 67), .ref (gad G 68), .ref (gad G 69), .ref (gad G 70), .int (iN ((tm : Nat) : Int)), .ref (gad G 71), .ref (gad G 72), .int (iN thg), .int (iN onn), .int (iN two), .long (jN lw), .long (jN hg), .int (iN ((sq : Nat) : Int)), .ref (gad G 73), .ref (gad G 74)]) → w2 65 = .inl (gI G, 10, .inl (aN (shF row2 q rm2))) → (∀ k : Nat, k ≠ 59 → k ≠ 65 → w2 k = w k) → PW G w2 H → va_S (AA G) s.heap H locs → lv_has ls 7 [(0, .ref (gad G 59)), (1, .long (jN n)), (3, .long (jN d)), (5, .int (iN ((i : Nat) : Int))), (6, .int (iN ((q : Nat) : Int)))] → W p l e (headSpec wsX9_findOrder ({ frames := 2, cells := 0, slots := 0, locals := 47 })).room s m (([.ref (gad G 59), .long (jN n), .long (jN d)] : List Value).toArray) below meth c H locs 0 0 (MQ below (QV G (fun w1 => ∃ (rm2 : Nat) (row2 : Nat → Int), (∀ k : Nat, k ≠ 59 → k ≠ 65 → w1 k = w k) ∧ w1 59 = .inr (8, [.int (iN ((now : Nat) : Int)), .int (iN ((came : Nat) : Int)), .ref (gad G 60), .ref (gad G 61), .ref (gad G 62), .ref (gad G 63), .ref (gad G 64), .ref (gad G 65), .int (iN ((rm2 : Nat) : Int)), .int (iN ((mt : Nat) : Int)), .ref (gad G 66), .ref (gad G 67), .ref (gad G 68), .ref (gad G 69), .ref (gad G 70), .int (iN ((tm : Nat) : Int)), .ref (gad G 71), .ref (gad G 72), .int (iN thg), .int (iN onn), .int (iN two), .long (jN lw), .long (jN hg), .int (iN ((sq : Nat) : Int)), .ref (gad G 73), .ref (gad G 74)]) ∧ w1 65 = .inl (gI G, 10, .inl (aN row2)) ∧ (isRow (upF (rw8 mbe) (rw8 mpl) (rw8 msp) pn n d) (thF (rw8 mbe) ga n d) came rm2 row2))) (([.ref (gad G 59), .long (jN n), .long (jN d)] : List Value).toArray) s 0 0 (AA G)) (F0 m 34 ls []) := by
            intro N
            induction N with
            | zero =>
              intros
              exfalso
              omega
            | succ N ih34 =>
              intro q w2 H locs ls i34_0 i34_1 hN34 f34_0 f34_1 hfr34 hP hS hl
              have e_17 : w2 60 = .inl (gI G, 10, .inl (aN ga)) := by rw [hfr34 60 (by omega) (by omega)]; exact e1
              have e_18 : w2 61 = .inl (gI G, 10, .inl (aN (pnI pn))) := by rw [hfr34 61 (by omega) (by omega)]; exact e2
              have e_19 : w2 62 = .inl (gI G, 80, .inl (aN mbe)) := by rw [hfr34 62 (by omega) (by omega)]; exact e3
              have e_20 : w2 63 = .inl (gI G, 80, .inl (aN mpl)) := by rw [hfr34 63 (by omega) (by omega)]; exact e4
              have e_21 : w2 64 = .inl (gI G, 80, .inl (aN msp)) := by rw [hfr34 64 (by omega) (by omega)]; exact e5
              refine lv_iload hx hb dX9_findOrder_34 (lv_at hl 4 rfl) ?_
              refine n_if_le (tgt := 88) hx hb dX9_findOrder_36 (by decide) (by omega) (by omega) (fun c_36 => ?_) (fun c_36 => ?_)
              · have hj : spotP (gtU (upF (rw8 mbe) (rw8 mpl) (rw8 msp) pn n d) (thF (rw8 mbe) ga n d) i) rm2 = q := by rw [← i34_1]; exact spot_end (Or.inl (by omega))
                refine lv_aload_n hx hb dX9_findOrder_88 rfl (lv_at hl 0 rfl) ?_
                refine f_get (C := RX9) (T := TX9) (N := 26) hx hb hts (by decide +kernel) hown hK hP 59 (by omega) f34_0 rfl 7 (by decide) (hts (.fieldLink RX9 25 "KeptMovingModel" "row" "[I") (by decide +kernel)) (fun _ h9 => h9) rfl dX9_findOrder_89 ?_
                refine lv_iload hx hb dX9_findOrder_92 (lv_at hl 4 rfl) ?_
                refine lv_iload hx hb dX9_findOrder_94 (lv_at hl 3 rfl) ?_
                refine n_iast hx hb hK hP hS hAA 65 (by omega) f34_1 (fun _ => rfl) q rfl (by omega) (by decide) dX9_findOrder_96 (fun H locs hP hS => ?_)
                obtain ⟨w_22, hw_23⟩ : ∃ z : WF, z = va_up w2 65 (.inl (gI G, 10, .inl (aN (va_up (shF row2 q rm2) q ((i : Nat) : Int))))) := ⟨_, rfl⟩
                rw [← hw_23] at hP
                have fr_24 : ∀ k : Nat, k ≠ 65 → w_22 k = w2 k := fun k h => by rw [hw_23]; exact va_up_ne _ _ h
                have e_25 : w_22 59 = .inr (8, [.int (iN ((now : Nat) : Int)), .int (iN ((came : Nat) : Int)), .ref (gad G 60), .ref (gad G 61), .ref (gad G 62), .ref (gad G 63), .ref (gad G 64), .ref (gad G 65), .int (iN ((rm2 : Nat) : Int)), .int (iN ((mt : Nat) : Int)), .ref (gad G 66), .ref (gad G 67), .ref (gad G 68), .ref (gad G 69), .ref (gad G 70), .int (iN ((tm : Nat) : Int)), .ref (gad G 71), .ref (gad G 72), .int (iN thg), .int (iN onn), .int (iN two), .long (jN lw), .long (jN hg), .int (iN ((sq : Nat) : Int)), .ref (gad G 73), .ref (gad G 74)]) := (fr_24 59 (by omega)).trans f34_0
                have e_26 : w_22 65 = .inl (gI G, 10, .inl (aN (va_up (shF row2 q rm2) q ((i : Nat) : Int)))) := by rw [hw_23]; exact va_up_self _ _ _
                have e_27 : w_22 60 = .inl (gI G, 10, .inl (aN ga)) := (fr_24 60 (by omega)).trans e_17
                have e_28 : w_22 61 = .inl (gI G, 10, .inl (aN (pnI pn))) := (fr_24 61 (by omega)).trans e_18
                have e_29 : w_22 62 = .inl (gI G, 80, .inl (aN mbe)) := (fr_24 62 (by omega)).trans e_19
                have e_30 : w_22 63 = .inl (gI G, 80, .inl (aN mpl)) := (fr_24 63 (by omega)).trans e_20
                have e_31 : w_22 64 = .inl (gI G, 80, .inl (aN msp)) := (fr_24 64 (by omega)).trans e_21
                refine lv_aload_n hx hb dX9_findOrder_97 rfl (lv_at hl 0 rfl) ?_
                refine lv_dup hx hb dX9_findOrder_98 rfl ?_
                refine f_get (C := RX9) (T := TX9) (N := 26) hx hb hts (by decide +kernel) hown hK hP 59 (by omega) e_25 rfl 8 (by decide) (hts (.fieldLink RX9 128 "KeptMovingModel" "rowMany" "I") (by decide +kernel)) (fun _ h9 => h9) rfl dX9_findOrder_99 ?_
                refine n_iconst hx hb dX9_findOrder_102 ?_
                refine n_iadd hx hb dX9_findOrder_103 ?_
                refine n_top (A := ((rm2 : Nat) : Int) + 1) (B := ((rm2 + 1 : Nat) : Int)) (by omega) ?_
                refine f_put (v := .int (iN ((rm2 + 1 : Nat) : Int))) (ty := .int) (C := RX9) (T := TX9) (N := 26) hx hb hts (by decide +kernel) tyX9 tyX9_ok nmX9 hown hK hP hS hAA 59 (by omega) e_25 rfl 8 (by decide) (hts (.fieldLink RX9 128 "KeptMovingModel" "rowMany" "I") (by decide +kernel)) (fun _ h9 => h9) rfl (by decide +kernel) (rfl) (rfl) (Nat.le_of_ble_eq_true rfl) (rfl) dX9_findOrder_104 (fun H locs hP hS => ?_)
                have hP : PW G (va_up w_22 59 (.inr (8, [.int (iN ((now : Nat) : Int)), .int (iN ((came : Nat) : Int)), .ref (gad G 60), .ref (gad G 61), .ref (gad G 62), .ref (gad G 63), .ref (gad G 64), .ref (gad G 65), .int (iN ((rm2 + 1 : Nat) : Int)), .int (iN ((mt : Nat) : Int)), .ref (gad G 66), .ref (gad G 67), .ref (gad G 68), .ref (gad G 69), .ref (gad G 70), .int (iN ((tm : Nat) : Int)), .ref (gad G 71), .ref (gad G 72), .int (iN thg), .int (iN onn), .int (iN two), .long (jN lw), .long (jN hg), .int (iN ((sq : Nat) : Int)), .ref (gad G 73), .ref (gad G 74)]))) H := hP
                obtain ⟨w_32, hw_33⟩ : ∃ z : WF, z = va_up w_22 59 (.inr (8, [.int (iN ((now : Nat) : Int)), .int (iN ((came : Nat) : Int)), .ref (gad G 60), .ref (gad G 61), .ref (gad G 62), .ref (gad G 63), .ref (gad G 64), .ref (gad G 65), .int (iN ((rm2 + 1 : Nat) : Int)), .int (iN ((mt : Nat) : Int)), .ref (gad G 66), .ref (gad G 67), .ref (gad G 68), .ref (gad G 69), .ref (gad G 70), .int (iN ((tm : Nat) : Int)), .ref (gad G 71), .ref (gad G 72), .int (iN thg), .int (iN onn), .int (iN two), .long (jN lw), .long (jN hg), .int (iN ((sq : Nat) : Int)), .ref (gad G 73), .ref (gad G 74)])) := ⟨_, rfl⟩
                rw [← hw_33] at hP
                have fr_34 : ∀ k : Nat, k ≠ 59 → w_32 k = w_22 k := fun k h => by rw [hw_33]; exact va_up_ne _ _ h
                have e_35 : w_32 59 = .inr (8, [.int (iN ((now : Nat) : Int)), .int (iN ((came : Nat) : Int)), .ref (gad G 60), .ref (gad G 61), .ref (gad G 62), .ref (gad G 63), .ref (gad G 64), .ref (gad G 65), .int (iN ((rm2 + 1 : Nat) : Int)), .int (iN ((mt : Nat) : Int)), .ref (gad G 66), .ref (gad G 67), .ref (gad G 68), .ref (gad G 69), .ref (gad G 70), .int (iN ((tm : Nat) : Int)), .ref (gad G 71), .ref (gad G 72), .int (iN thg), .int (iN onn), .int (iN two), .long (jN lw), .long (jN hg), .int (iN ((sq : Nat) : Int)), .ref (gad G 73), .ref (gad G 74)]) := by rw [hw_33]; exact va_up_self _ _ _
                have e_36 : w_32 65 = .inl (gI G, 10, .inl (aN (va_up (shF row2 q rm2) q ((i : Nat) : Int)))) := (fr_34 65 (by omega)).trans e_26
                have e_37 : w_32 60 = .inl (gI G, 10, .inl (aN ga)) := (fr_34 60 (by omega)).trans e_27
                have e_38 : w_32 61 = .inl (gI G, 10, .inl (aN (pnI pn))) := (fr_34 61 (by omega)).trans e_28
                have e_39 : w_32 62 = .inl (gI G, 80, .inl (aN mbe)) := (fr_34 62 (by omega)).trans e_29
                have e_40 : w_32 63 = .inl (gI G, 80, .inl (aN mpl)) := (fr_34 63 (by omega)).trans e_30
                have e_41 : w_32 64 = .inl (gI G, 80, .inl (aN msp)) := (fr_34 64 (by omega)).trans e_31
                refine lv_iinc (v := iN ((i + 1 : Nat) : Int)) (lv' := [(5, .int (iN ((i + 1 : Nat) : Int))), (0, .ref (gad G 59)), (1, .long (jN n)), (3, .long (jN d)), (6, .int (iN ((q : Nat) : Int)))]) hx hb dX9_findOrder_107 hl (k := 3) rfl (iN_incN _) (by decide) rfl (fun ls hl => ?_)
                refine lv_goto (tgt := 8) hx hb dX9_findOrder_110 (by decide) ?_
                exact ih8 (i + 1) (rm2 + 1) (insF row2 q rm2 ((i : Nat) : Int)) w_32 _ _ _ (by omega) ((by have hz := isRow_in i8_1 (decide_eq_true c_25); rw [hj] at hz; exact hz)) (by omega) (e_35) (e_36.trans (by rw [shF_end (by omega)])) (fun k h0 h1 => ((((fr_34 k (by omega)).trans (fr_24 k (by omega)))).trans (hfr34 k (by omega) (by omega)))) hP hS (lv_sub hl [1, 2, 3, 0] rfl)
              · have hrk : shF row2 q rm2 (q - 1) = ((((ordR (upF (rw8 mbe) (rw8 mpl) (rw8 msp) pn n d) (thF (rw8 mbe) ga n d) i).2 (q - 1)) : Nat) : Int) := by rw [shF_lo (by omega)]; exact i8_1.2 (q - 1) (by omega)
                have hlt := ordR_lt (upF (rw8 mbe) (rw8 mpl) (rw8 msp) pn n d) (thF (rw8 mbe) ga n d) i (q - 1) (by omega)
                obtain ⟨gv1, gv2, gv3, gv4⟩ := id (p0.2 ((ordR (upF (rw8 mbe) (rw8 mpl) (rw8 msp) pn n d) (thF (rw8 mbe) ga n d) i).2 (q - 1)) (by omega))
                have huj := upAt_rng (p0.2 ((ordR (upF (rw8 mbe) (rw8 mpl) (rw8 msp) pn n d) (thF (rw8 mbe) ga n d) i).2 (q - 1)) (by omega)) p1 p2
                refine lv_aload_n hx hb dX9_findOrder_39 rfl (lv_at hl 0 rfl) ?_
                refine lv_aload_n hx hb dX9_findOrder_40 rfl (lv_at hl 0 rfl) ?_
                refine f_get (C := RX9) (T := TX9) (N := 26) hx hb hts (by decide +kernel) hown hK hP 59 (by omega) f34_0 rfl 7 (by decide) (hts (.fieldLink RX9 25 "KeptMovingModel" "row" "[I") (by decide +kernel)) (fun _ h9 => h9) rfl dX9_findOrder_41 ?_
                refine lv_iload hx hb dX9_findOrder_44 (lv_at hl 4 rfl) ?_
                refine n_iconst hx hb dX9_findOrder_46 ?_
                refine n_isub hx hb dX9_findOrder_47 ?_
                refine n_top (A := ((q : Nat) : Int) - 1) (B := ((q - 1 : Nat) : Int)) (by omega) ?_
                refine n_iald hx hb hK hP 65 (by omega) f34_1 (q - 1) rfl (by omega) (by decide) dX9_findOrder_48 ?_
                refine n_top (A := (shF row2 q rm2) (q - 1)) (B := ((((ordR (upF (rw8 mbe) (rw8 mpl) (rw8 msp) pn n d) (thF (rw8 mbe) ga n d) i).2 (q - 1)) : Nat) : Int)) (by exact hrk) ?_
                refine lv_lload_n hx hb dX9_findOrder_49 rfl (lv_at hl 1 rfl) ?_
                refine lv_lload_n hx hb dX9_findOrder_50 rfl (lv_at hl 2 rfl) ?_
                refine vp_callSl (W.runV (As := [.int (iN ((((ordR (upF (rw8 mbe) (rw8 mpl) (rw8 msp) pn n d) (thF (rw8 mbe) ga n d) i).2 (q - 1)) : Nat) : Int)), .long (jN n), .long (jN d)]) (rest := []) ⟨hx, hb, hml, hown, hts⟩ (c_X9_placeAt l G w2 now came rm2 mt tm thg onn two lw hg sq ga pn mbe mpl msp ((ordR (upF (rw8 mbe) (rw8 mpl) (rw8 msp) pn n d) (thF (rw8 mbe) ga n d) i).2 (q - 1)) n d f34_0 e_17 e_18 e_19 e_20 e_21 (by omega) (gv1) (gv2) (gv4) (by omega) (by omega)) (cwV 3 hts gX9_findOrder_X9_placeAt rfl rfl rfl (by decide +kernel) ⟨Nat.le_of_ble_eq_true rfl, Nat.le_of_ble_eq_true rfl⟩) (f_preV hP hK 59 (by omega) 8 f34_0 rfl) rfl rfl hl.1 rfl (lv_room (Nat.le_of_ble_eq_true rfl)) dX9_findOrder_51 ⟨Nat.zero_le _, Nat.zero_le _⟩) (fun r_42 hr_42 => ?_)
                rw [show r_42 = jN (upAt (rw8 mbe ((ordR (upF (rw8 mbe) (rw8 mpl) (rw8 msp) pn n d) (thF (rw8 mbe) ga n d) i).2 (q - 1))) (rw8 mpl ((ordR (upF (rw8 mbe) (rw8 mpl) (rw8 msp) pn n d) (thF (rw8 mbe) ga n d) i).2 (q - 1))) (rw8 msp ((ordR (upF (rw8 mbe) (rw8 mpl) (rw8 msp) pn n d) (thF (rw8 mbe) ga n d) i).2 (q - 1))) (pn ((ordR (upF (rw8 mbe) (rw8 mpl) (rw8 msp) pn n d) (thF (rw8 mbe) ga n d) i).2 (q - 1))) n d) from hr_42]
                refine lv_aload_n hx hb dX9_findOrder_54 rfl (lv_at hl 0 rfl) ?_
                refine lv_iload hx hb dX9_findOrder_55 (lv_at hl 3 rfl) ?_
                refine lv_lload_n hx hb dX9_findOrder_57 rfl (lv_at hl 1 rfl) ?_
                refine lv_lload_n hx hb dX9_findOrder_58 rfl (lv_at hl 2 rfl) ?_
                refine vp_callSl (W.runV (As := [.int (iN ((i : Nat) : Int)), .long (jN n), .long (jN d)]) (rest := [.long (jN (upAt (rw8 mbe ((ordR (upF (rw8 mbe) (rw8 mpl) (rw8 msp) pn n d) (thF (rw8 mbe) ga n d) i).2 (q - 1))) (rw8 mpl ((ordR (upF (rw8 mbe) (rw8 mpl) (rw8 msp) pn n d) (thF (rw8 mbe) ga n d) i).2 (q - 1))) (rw8 msp ((ordR (upF (rw8 mbe) (rw8 mpl) (rw8 msp) pn n d) (thF (rw8 mbe) ga n d) i).2 (q - 1))) (pn ((ordR (upF (rw8 mbe) (rw8 mpl) (rw8 msp) pn n d) (thF (rw8 mbe) ga n d) i).2 (q - 1))) n d))]) ⟨hx, hb, hml, hown, hts⟩ (c_X9_placeAt l G w2 now came rm2 mt tm thg onn two lw hg sq ga pn mbe mpl msp i n d f34_0 e_17 e_18 e_19 e_20 e_21 (by omega) (hv1) (hv2) (hv4) (by omega) (by omega)) (cwV 3 hts gX9_findOrder_X9_placeAt rfl rfl rfl (by decide +kernel) ⟨Nat.le_of_ble_eq_true rfl, Nat.le_of_ble_eq_true rfl⟩) (f_preV hP hK 59 (by omega) 8 f34_0 rfl) rfl rfl hl.1 rfl (lv_room (Nat.le_of_ble_eq_true rfl)) dX9_findOrder_59 ⟨Nat.zero_le _, Nat.zero_le _⟩) (fun r_43 hr_43 => ?_)
                rw [show r_43 = jN (upAt (rw8 mbe i) (rw8 mpl i) (rw8 msp i) (pn i) n d) from hr_43]
                refine n_lcmp hx hb (by omega) (by omega) (by omega) (by omega) dX9_findOrder_62 ?_
                refine n_ifc_le (tgt := 88) hx hb dX9_findOrder_63 (by decide) (fun c_63 => ?_) (fun c_63 => ?_)
                · have hj : spotP (gtU (upF (rw8 mbe) (rw8 mpl) (rw8 msp) pn n d) (thF (rw8 mbe) ga n d) i) rm2 = q := by rw [← i34_1]; exact spot_end (Or.inr (decide_eq_false (by show ¬ (upAt (rw8 mbe i) (rw8 mpl i) (rw8 msp i) (pn i) n d < upAt (rw8 mbe ((ordR (upF (rw8 mbe) (rw8 mpl) (rw8 msp) pn n d) (thF (rw8 mbe) ga n d) i).2 (q - 1))) (rw8 mpl ((ordR (upF (rw8 mbe) (rw8 mpl) (rw8 msp) pn n d) (thF (rw8 mbe) ga n d) i).2 (q - 1))) (rw8 msp ((ordR (upF (rw8 mbe) (rw8 mpl) (rw8 msp) pn n d) (thF (rw8 mbe) ga n d) i).2 (q - 1))) (pn ((ordR (upF (rw8 mbe) (rw8 mpl) (rw8 msp) pn n d) (thF (rw8 mbe) ga n d) i).2 (q - 1))) n d); omega)))
                  refine lv_aload_n hx hb dX9_findOrder_88 rfl (lv_at hl 0 rfl) ?_
                  refine f_get (C := RX9) (T := TX9) (N := 26) hx hb hts (by decide +kernel) hown hK hP 59 (by omega) f34_0 rfl 7 (by decide) (hts (.fieldLink RX9 25 "KeptMovingModel" "row" "[I") (by decide +kernel)) (fun _ h9 => h9) rfl dX9_findOrder_89 ?_
                  refine lv_iload hx hb dX9_findOrder_92 (lv_at hl 4 rfl) ?_
                  refine lv_iload hx hb dX9_findOrder_94 (lv_at hl 3 rfl) ?_
                  refine n_iast hx hb hK hP hS hAA 65 (by omega) f34_1 (fun _ => rfl) q rfl (by omega) (by decide) dX9_findOrder_96 (fun H locs hP hS => ?_)
                  obtain ⟨w_44, hw_45⟩ : ∃ z : WF, z = va_up w2 65 (.inl (gI G, 10, .inl (aN (va_up (shF row2 q rm2) q ((i : Nat) : Int))))) := ⟨_, rfl⟩
                  rw [← hw_45] at hP
                  have fr_46 : ∀ k : Nat, k ≠ 65 → w_44 k = w2 k := fun k h => by rw [hw_45]; exact va_up_ne _ _ h
                  have e_47 : w_44 59 = .inr (8, [.int (iN ((now : Nat) : Int)), .int (iN ((came : Nat) : Int)), .ref (gad G 60), .ref (gad G 61), .ref (gad G 62), .ref (gad G 63), .ref (gad G 64), .ref (gad G 65), .int (iN ((rm2 : Nat) : Int)), .int (iN ((mt : Nat) : Int)), .ref (gad G 66), .ref (gad G 67), .ref (gad G 68), .ref (gad G 69), .ref (gad G 70), .int (iN ((tm : Nat) : Int)), .ref (gad G 71), .ref (gad G 72), .int (iN thg), .int (iN onn), .int (iN two), .long (jN lw), .long (jN hg), .int (iN ((sq : Nat) : Int)), .ref (gad G 73), .ref (gad G 74)]) := (fr_46 59 (by omega)).trans f34_0
                  have e_48 : w_44 65 = .inl (gI G, 10, .inl (aN (va_up (shF row2 q rm2) q ((i : Nat) : Int)))) := by rw [hw_45]; exact va_up_self _ _ _
                  have e_49 : w_44 60 = .inl (gI G, 10, .inl (aN ga)) := (fr_46 60 (by omega)).trans e_17
                  have e_50 : w_44 61 = .inl (gI G, 10, .inl (aN (pnI pn))) := (fr_46 61 (by omega)).trans e_18
                  have e_51 : w_44 62 = .inl (gI G, 80, .inl (aN mbe)) := (fr_46 62 (by omega)).trans e_19
                  have e_52 : w_44 63 = .inl (gI G, 80, .inl (aN mpl)) := (fr_46 63 (by omega)).trans e_20
                  have e_53 : w_44 64 = .inl (gI G, 80, .inl (aN msp)) := (fr_46 64 (by omega)).trans e_21
                  refine lv_aload_n hx hb dX9_findOrder_97 rfl (lv_at hl 0 rfl) ?_
                  refine lv_dup hx hb dX9_findOrder_98 rfl ?_
                  refine f_get (C := RX9) (T := TX9) (N := 26) hx hb hts (by decide +kernel) hown hK hP 59 (by omega) e_47 rfl 8 (by decide) (hts (.fieldLink RX9 128 "KeptMovingModel" "rowMany" "I") (by decide +kernel)) (fun _ h9 => h9) rfl dX9_findOrder_99 ?_
                  refine n_iconst hx hb dX9_findOrder_102 ?_
                  refine n_iadd hx hb dX9_findOrder_103 ?_
                  refine n_top (A := ((rm2 : Nat) : Int) + 1) (B := ((rm2 + 1 : Nat) : Int)) (by omega) ?_
                  refine f_put (v := .int (iN ((rm2 + 1 : Nat) : Int))) (ty := .int) (C := RX9) (T := TX9) (N := 26) hx hb hts (by decide +kernel) tyX9 tyX9_ok nmX9 hown hK hP hS hAA 59 (by omega) e_47 rfl 8 (by decide) (hts (.fieldLink RX9 128 "KeptMovingModel" "rowMany" "I") (by decide +kernel)) (fun _ h9 => h9) rfl (by decide +kernel) (rfl) (rfl) (Nat.le_of_ble_eq_true rfl) (rfl) dX9_findOrder_104 (fun H locs hP hS => ?_)
                  have hP : PW G (va_up w_44 59 (.inr (8, [.int (iN ((now : Nat) : Int)), .int (iN ((came : Nat) : Int)), .ref (gad G 60), .ref (gad G 61), .ref (gad G 62), .ref (gad G 63), .ref (gad G 64), .ref (gad G 65), .int (iN ((rm2 + 1 : Nat) : Int)), .int (iN ((mt : Nat) : Int)), .ref (gad G 66), .ref (gad G 67), .ref (gad G 68), .ref (gad G 69), .ref (gad G 70), .int (iN ((tm : Nat) : Int)), .ref (gad G 71), .ref (gad G 72), .int (iN thg), .int (iN onn), .int (iN two), .long (jN lw), .long (jN hg), .int (iN ((sq : Nat) : Int)), .ref (gad G 73), .ref (gad G 74)]))) H := hP
                  obtain ⟨w_54, hw_55⟩ : ∃ z : WF, z = va_up w_44 59 (.inr (8, [.int (iN ((now : Nat) : Int)), .int (iN ((came : Nat) : Int)), .ref (gad G 60), .ref (gad G 61), .ref (gad G 62), .ref (gad G 63), .ref (gad G 64), .ref (gad G 65), .int (iN ((rm2 + 1 : Nat) : Int)), .int (iN ((mt : Nat) : Int)), .ref (gad G 66), .ref (gad G 67), .ref (gad G 68), .ref (gad G 69), .ref (gad G 70), .int (iN ((tm : Nat) : Int)), .ref (gad G 71), .ref (gad G 72), .int (iN thg), .int (iN onn), .int (iN two), .long (jN lw), .long (jN hg), .int (iN ((sq : Nat) : Int)), .ref (gad G 73), .ref (gad G 74)])) := ⟨_, rfl⟩
                  rw [← hw_55] at hP
                  have fr_56 : ∀ k : Nat, k ≠ 59 → w_54 k = w_44 k := fun k h => by rw [hw_55]; exact va_up_ne _ _ h
                  have e_57 : w_54 59 = .inr (8, [.int (iN ((now : Nat) : Int)), .int (iN ((came : Nat) : Int)), .ref (gad G 60), .ref (gad G 61), .ref (gad G 62), .ref (gad G 63), .ref (gad G 64), .ref (gad G 65), .int (iN ((rm2 + 1 : Nat) : Int)), .int (iN ((mt : Nat) : Int)), .ref (gad G 66), .ref (gad G 67), .ref (gad G 68), .ref (gad G 69), .ref (gad G 70), .int (iN ((tm : Nat) : Int)), .ref (gad G 71), .ref (gad G 72), .int (iN thg), .int (iN onn), .int (iN two), .long (jN lw), .long (jN hg), .int (iN ((sq : Nat) : Int)), .ref (gad G 73), .ref (gad G 74)]) := by rw [hw_55]; exact va_up_self _ _ _
                  have e_58 : w_54 65 = .inl (gI G, 10, .inl (aN (va_up (shF row2 q rm2) q ((i : Nat) : Int)))) := (fr_56 65 (by omega)).trans e_48
                  have e_59 : w_54 60 = .inl (gI G, 10, .inl (aN ga)) := (fr_56 60 (by omega)).trans e_49
                  have e_60 : w_54 61 = .inl (gI G, 10, .inl (aN (pnI pn))) := (fr_56 61 (by omega)).trans e_50
                  have e_61 : w_54 62 = .inl (gI G, 80, .inl (aN mbe)) := (fr_56 62 (by omega)).trans e_51
                  have e_62 : w_54 63 = .inl (gI G, 80, .inl (aN mpl)) := (fr_56 63 (by omega)).trans e_52
                  have e_63 : w_54 64 = .inl (gI G, 80, .inl (aN msp)) := (fr_56 64 (by omega)).trans e_53
                  refine lv_iinc (v := iN ((i + 1 : Nat) : Int)) (lv' := [(5, .int (iN ((i + 1 : Nat) : Int))), (0, .ref (gad G 59)), (1, .long (jN n)), (3, .long (jN d)), (6, .int (iN ((q : Nat) : Int)))]) hx hb dX9_findOrder_107 hl (k := 3) rfl (iN_incN _) (by decide) rfl (fun ls hl => ?_)
                  refine lv_goto (tgt := 8) hx hb dX9_findOrder_110 (by decide) ?_
                  exact ih8 (i + 1) (rm2 + 1) (insF row2 q rm2 ((i : Nat) : Int)) w_54 _ _ _ (by omega) ((by have hz := isRow_in i8_1 (decide_eq_true c_25); rw [hj] at hz; exact hz)) (by omega) (e_57) (e_58.trans (by rw [shF_end (by omega)])) (fun k h0 h1 => ((((fr_56 k (by omega)).trans (fr_46 k (by omega)))).trans (hfr34 k (by omega) (by omega)))) hP hS (lv_sub hl [1, 2, 3, 0] rfl)
                · refine lv_aload_n hx hb dX9_findOrder_66 rfl (lv_at hl 0 rfl) ?_
                  refine f_get (C := RX9) (T := TX9) (N := 26) hx hb hts (by decide +kernel) hown hK hP 59 (by omega) f34_0 rfl 7 (by decide) (hts (.fieldLink RX9 25 "KeptMovingModel" "row" "[I") (by decide +kernel)) (fun _ h9 => h9) rfl dX9_findOrder_67 ?_
                  refine lv_iload hx hb dX9_findOrder_70 (lv_at hl 4 rfl) ?_
                  refine lv_aload_n hx hb dX9_findOrder_72 rfl (lv_at hl 0 rfl) ?_
                  refine f_get (C := RX9) (T := TX9) (N := 26) hx hb hts (by decide +kernel) hown hK hP 59 (by omega) f34_0 rfl 7 (by decide) (hts (.fieldLink RX9 25 "KeptMovingModel" "row" "[I") (by decide +kernel)) (fun _ h9 => h9) rfl dX9_findOrder_73 ?_
                  refine lv_iload hx hb dX9_findOrder_76 (lv_at hl 4 rfl) ?_
                  refine n_iconst hx hb dX9_findOrder_78 ?_
                  refine n_isub hx hb dX9_findOrder_79 ?_
                  refine n_top (A := ((q : Nat) : Int) - 1) (B := ((q - 1 : Nat) : Int)) (by omega) ?_
                  refine n_iald hx hb hK hP 65 (by omega) f34_1 (q - 1) rfl (by omega) (by decide) dX9_findOrder_80 ?_
                  refine n_iast hx hb hK hP hS hAA 65 (by omega) f34_1 (fun _ => rfl) q rfl (by omega) (by decide) dX9_findOrder_81 (fun H locs hP hS => ?_)
                  obtain ⟨w_64, hw_65⟩ : ∃ z : WF, z = va_up w2 65 (.inl (gI G, 10, .inl (aN (va_up (shF row2 q rm2) q ((shF row2 q rm2) (q - 1)))))) := ⟨_, rfl⟩
                  rw [← hw_65] at hP
                  have fr_66 : ∀ k : Nat, k ≠ 65 → w_64 k = w2 k := fun k h => by rw [hw_65]; exact va_up_ne _ _ h
                  have e_67 : w_64 59 = .inr (8, [.int (iN ((now : Nat) : Int)), .int (iN ((came : Nat) : Int)), .ref (gad G 60), .ref (gad G 61), .ref (gad G 62), .ref (gad G 63), .ref (gad G 64), .ref (gad G 65), .int (iN ((rm2 : Nat) : Int)), .int (iN ((mt : Nat) : Int)), .ref (gad G 66), .ref (gad G 67), .ref (gad G 68), .ref (gad G 69), .ref (gad G 70), .int (iN ((tm : Nat) : Int)), .ref (gad G 71), .ref (gad G 72), .int (iN thg), .int (iN onn), .int (iN two), .long (jN lw), .long (jN hg), .int (iN ((sq : Nat) : Int)), .ref (gad G 73), .ref (gad G 74)]) := (fr_66 59 (by omega)).trans f34_0
                  have e_68 : w_64 65 = .inl (gI G, 10, .inl (aN (va_up (shF row2 q rm2) q ((shF row2 q rm2) (q - 1))))) := by rw [hw_65]; exact va_up_self _ _ _
                  have e_69 : w_64 60 = .inl (gI G, 10, .inl (aN ga)) := (fr_66 60 (by omega)).trans e_17
                  have e_70 : w_64 61 = .inl (gI G, 10, .inl (aN (pnI pn))) := (fr_66 61 (by omega)).trans e_18
                  have e_71 : w_64 62 = .inl (gI G, 80, .inl (aN mbe)) := (fr_66 62 (by omega)).trans e_19
                  have e_72 : w_64 63 = .inl (gI G, 80, .inl (aN mpl)) := (fr_66 63 (by omega)).trans e_20
                  have e_73 : w_64 64 = .inl (gI G, 80, .inl (aN msp)) := (fr_66 64 (by omega)).trans e_21
                  refine lv_iinc (v := iN ((q - 1 : Nat) : Int)) (lv' := [(6, .int (iN ((q - 1 : Nat) : Int))), (0, .ref (gad G 59)), (1, .long (jN n)), (3, .long (jN d)), (5, .int (iN ((i : Nat) : Int)))]) hx hb dX9_findOrder_82 hl (k := 4) rfl (iN_decN (by omega)) (by decide) rfl (fun ls hl => ?_)
                  refine lv_goto (tgt := 34) hx hb dX9_findOrder_85 (by decide) ?_
                  exact ih34 (q - 1) w_64 _ _ _ (by omega) (by rw [← i34_1]; exact (spot_step (by omega) (decide_eq_true (by show upAt (rw8 mbe i) (rw8 mpl i) (rw8 msp i) (pn i) n d < upAt (rw8 mbe ((ordR (upF (rw8 mbe) (rw8 mpl) (rw8 msp) pn n d) (thF (rw8 mbe) ga n d) i).2 (q - 1))) (rw8 mpl ((ordR (upF (rw8 mbe) (rw8 mpl) (rw8 msp) pn n d) (thF (rw8 mbe) ga n d) i).2 (q - 1))) (rw8 msp ((ordR (upF (rw8 mbe) (rw8 mpl) (rw8 msp) pn n d) (thF (rw8 mbe) ga n d) i).2 (q - 1))) (pn ((ordR (upF (rw8 mbe) (rw8 mpl) (rw8 msp) pn n d) (thF (rw8 mbe) ga n d) i).2 (q - 1))) n d; omega))).symm) (by omega) (e_67) (e_68.trans (by rw [shF_step (by omega) (by omega)])) (fun k h0 h1 => ((fr_66 k (by omega)).trans (hfr34 k (by omega) (by omega)))) hP hS (lv_sub hl [1, 2, 3, 4, 0] rfl)
          exact K34 (rm2 + 1) (rm2) w2 _ _ _ (by omega) (rfl) (by omega) (f8_0) (f8_1.trans (by rw [shF_0])) (fun k h0 h1 => hfr8 k (by omega) (by omega)) hP hS (lv_sub hl [1, 2, 3, 4, 0] rfl)
  exact K8 ((11 - 0) + 1) (0) (0) (row) w_1 _ _ _ (by omega) (⟨rfl, fun k hk => absurd hk (Nat.not_lt_zero k)⟩) (by omega) (e_4) (e_10) (fun k h0 h1 => fr_3 k (by omega)) hP hS (lv_sub hl [1, 2, 3, 0] rfl)
