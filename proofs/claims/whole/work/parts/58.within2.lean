set_option maxHeartbeats 4000000 in
set_option maxRecDepth 100000 in
theorem c_X8_within2 (l : Launch) (G : GE) (w : WF) (came : Nat) (now : Nat) (bc : Nat) (bs : Nat → Int) (sz0 : Nat) (th : Nat → Int) (ps : Nat → Int) (vs : Nat → Int) (f0 : Int) (un0 : Int) (q0 : ST) (pso : Int) (psz : Nat) (ple : Int) (pfb : Int) (pfe : Int) (csz : Nat) (cb : Nat → Int) (ce : Nat → Int) (lo : Int) (hi : Int) (mm : Int) (ed : Int) (k : Int) (wh : Int) (cst : Nat → Nat → Int) (cpl : Nat → Nat → Int) (csp : Nat → Nat → Int) (cnp : Nat → Nat) (cstop : Nat → Int) (e0 : w 0 = .inr (7, [.ref (gad G 1), .int (iN ((came : Nat) : Int)), .int (iN ((now : Nat) : Int)), .ref (gad G 2), .ref (gad G 5), .int (iN ((bc : Nat) : Int)), .ref (gad G 6), .ref (gad G 10), .ref (gad G 14), .ref (gad G 15), .ref (gad G 18)])) (e1 : w 5 = .inl (gI G, 92, .inl (aN bs))) (e2 : w 6 = .inr (4, [.ref (gad G 7), .ref (gad G 8), .ref (gad G 9), .int (iN ((sz0 : Nat) : Int))])) (e3 : w 7 = .inl (gZ G, 10, .inl (aN th))) (e4 : w 8 = .inl (gI G, 10, .inl (aN ps))) (e5 : w 9 = .inl (gI G, 10, .inl (aN vs))) (e6 : w 14 = .inr (6, [.int (iN f0), .long (jN un0), .long (jN q0.1), .long (jN q0.2.1), .int (iN q0.2.2)])) (e7 : w 18 = .inr (5, [.int (iN pso), .int (iN ((psz : Nat) : Int)), .long (jN ple), .long (jN pfb), .long (jN pfe)])) (e8 : w 15 = .inr (1, [.ref (gad G 16), .ref (gad G 17), .int (iN ((csz : Nat) : Int))])) (e9 : w 16 = .inl (gJ G, 10, .inr (.inl (aJ cb)))) (e10 : w 17 = .inl (gJ G, 10, .inr (.inl (aJ ce)))) (hC : FAM G w cst cpl csp cnp cstop) (p0 : OKS came cst cpl csp cnp cstop) (p1 : -2147483648 ≤ lo ∧ lo < 2147483648) (p2 : -2147483648 ≤ hi ∧ hi < 2147483648) (p3 : -2147483648 ≤ mm ∧ mm < 2147483648) (p4 : -2147483648 ≤ ed ∧ ed < 2147483648) (p5 : -2147483648 ≤ k ∧ k < 2147483648) (p6 : -2147483648 ≤ wh ∧ wh < 2147483648) (p7 : PBD ple pfb pfe) : Met l yX8_within wsX8_within ({ frames := 6, cells := 0, slots := 0, locals := 133 }) (PcG G w [.ref (gad G 0), .int (iN lo), .int (iN hi), .int (iN mm), .int (iN ed), .int (iN k), .int (iN wh)]) (QI G (fun r w1 => r = iN (if (-60000 ≤ lo ∧ lo ≤ hi ∧ hi ≤ 60000) ∧ (1 ≤ mm ∧ mm ≤ 10) ∧ 1 ≤ ed ∧ ed ≤ 600 ∧ 0 ≤ wh ∧ wh ≤ 3 then spT (wnL (cst, cpl, csp, cnp, cstop) came ed lo hi mm (bcF (cst, cpl, csp, cnp, cstop) came ed)) k wh else -100002) ∧ ∃ (bc2 : Nat) (bs2 : Nat → Int) (sz2 : Nat) (th2 : Nat → Int) (ps2 : Nat → Int) (vs2 : Nat → Int) (f2 : Int) (un2 : Int) (q2 : ST) (pso2 : Int) (psz2 : Nat) (ple2 : Int) (pfb2 : Int) (pfe2 : Int) (csz2 : Nat) (cb2 : Nat → Int) (ce2 : Nat → Int), (∀ k : Nat, k ≠ 0 → k ≠ 5 → k ≠ 6 → k ≠ 7 → k ≠ 8 → k ≠ 9 → k ≠ 14 → k ≠ 18 → k ≠ 15 → k ≠ 16 → k ≠ 17 → w1 k = w k) ∧ w1 0 = .inr (7, [.ref (gad G 1), .int (iN ((came : Nat) : Int)), .int (iN ((now : Nat) : Int)), .ref (gad G 2), .ref (gad G 5), .int (iN ((bc2 : Nat) : Int)), .ref (gad G 6), .ref (gad G 10), .ref (gad G 14), .ref (gad G 15), .ref (gad G 18)]) ∧ w1 5 = .inl (gI G, 92, .inl (aN bs2)) ∧ w1 6 = .inr (4, [.ref (gad G 7), .ref (gad G 8), .ref (gad G 9), .int (iN ((sz2 : Nat) : Int))]) ∧ w1 7 = .inl (gZ G, 10, .inl (aN th2)) ∧ w1 8 = .inl (gI G, 10, .inl (aN ps2)) ∧ w1 9 = .inl (gI G, 10, .inl (aN vs2)) ∧ w1 14 = .inr (6, [.int (iN f2), .long (jN un2), .long (jN q2.1), .long (jN q2.2.1), .int (iN q2.2.2)]) ∧ w1 18 = .inr (5, [.int (iN pso2), .int (iN ((psz2 : Nat) : Int)), .long (jN ple2), .long (jN pfb2), .long (jN pfe2)]) ∧ w1 15 = .inr (1, [.ref (gad G 16), .ref (gad G 17), .int (iN ((csz2 : Nat) : Int))]) ∧ w1 16 = .inl (gJ G, 10, .inr (.inl (aJ cb2))) ∧ w1 17 = .inl (gJ G, 10, .inr (.inl (aJ ce2))) ∧ (PBD ple2 pfb2 pfe2))) 0 0 (AA G) := by
  refine Met.ofW (cc := cX8_within) (maxL := 8) (ret := (some .int)) (by decide) rfl ?_
  intro p e s m args below meth c s₁ B hml hv
  obtain ⟨rfl, hP, hK⟩ := hv
  have hx := B.exec
  have hb := B.bytes
  have hr := B.returns
  have hts := atoms_spec (ws := wsX8_within) B.pre
  have hown : s.vm.findClass RX8 = some m.cls := findClass_of_methodNamed B.named
  have hlocks := B.notSynchronized
  have hS : va_S (AA G) s.heap s.heap [] := va_S.rf
  have hAA : ∀ q, AA G q → AA G q := fun _ h => h
  have hl := lv_entry ([.ref (gad G 0), .int (iN lo), .int (iN hi), .int (iN mm), .int (iN ed), .int (iN k), .int (iN wh)]) (n := 8) (Nat.le_of_ble_eq_true rfl)
  rw [lg_entry_eq]
  generalize (lg_sl ([.ref (gad G 0), .int (iN lo), .int (iN hi), .int (iN mm), .int (iN ed), .int (iN k), .int (iN wh)]) ++ List.replicate (8 - (lg_sl ([.ref (gad G 0), .int (iN lo), .int (iN hi), .int (iN mm), .int (iN ed), .int (iN k), .int (iN wh)])).length) Slot.unset).toArray = ls at hl ⊢
  have hl : lv_has ls 8 [(0, .ref (gad G 0)), (1, .int (iN lo)), (2, .int (iN hi)), (3, .int (iN mm)), (4, .int (iN ed)), (5, .int (iN k)), (6, .int (iN wh))] := hl
  have hc10 : came ≤ 10 := p0.1
  refine lv_iload_n hx hb dX8_within_0 rfl (lv_at hl 1 rfl) ?_
  refine lv_iload_n hx hb dX8_within_1 rfl (lv_at hl 2 rfl) ?_
  refine vp_callSi (W.runS (As := [.int (iN lo), .int (iN hi)]) (rest := []) ⟨hx, hb, hml, hown, hts⟩ (c_X8_isWindow l lo hi (p1) (p2)) (va_cwS 2 hts gX8_within_X8_isWindow rfl rfl rfl (by decide +kernel) ⟨Nat.le_of_ble_eq_true rfl, Nat.le_of_ble_eq_true rfl⟩) ⟨fun _ _ _ _ q => q, fun _ _ _ => rfl⟩ rfl rfl hl.1 rfl (lv_room (Nat.le_of_ble_eq_true rfl)) dX8_within_2 ⟨Nat.zero_le _, Nat.zero_le _⟩) (fun r_1 hr_1 => ?_)
  rw [show r_1 = iN (if (-60000 ≤ lo ∧ lo ≤ hi ∧ hi ≤ 60000) then 1 else 0) from hr_1]
  refine n_ifb_eq (tgt := 28) hx hb dX8_within_5 (by decide) (fun c_5 => ?_) (fun c_5 => ?_)
  · refine n_ldc (z := (-100002)) hx hb hown (hts (.constant RX8 66 (-100002)) (by decide +kernel)) (by decide) dX8_within_28 ?_
    exact r_i hx hb hr dX8_within_30 hlocks hP hS ⟨(congrArg iN (by rw [if_neg (show ¬ ((-60000 ≤ lo ∧ lo ≤ hi ∧ hi ≤ 60000) ∧ (1 ≤ mm ∧ mm ≤ 10) ∧ 1 ≤ ed ∧ ed ≤ 600 ∧ 0 ≤ wh ∧ wh ≤ 3) by omega)])), bc, bs, sz0, th, ps, vs, f0, un0, q0, pso, psz, ple, pfb, pfe, csz, cb, ce, (fun k _ _ _ _ _ _ _ _ _ _ _ => rfl), e0, e1, e2, e3, e4, e5, e6, e7, e8, e9, e10, p7⟩
  · refine lv_iload_n hx hb dX8_within_8 rfl (lv_at hl 3 rfl) ?_
    refine n_iconst hx hb dX8_within_9 ?_
    refine n_bipush hx hb dX8_within_10 (by decide) ?_
    refine vp_callSi (W.runS (As := [.int (iN mm), .int (iN 1), .int (iN 10)]) (rest := []) ⟨hx, hb, hml, hown, hts⟩ (c_X8_isFromTo l mm (1 : Int) (10 : Int) (p3) (by omega) (by omega)) (va_cwS 3 hts gX8_within_X8_isFromTo rfl rfl rfl (by decide +kernel) ⟨Nat.le_of_ble_eq_true rfl, Nat.le_of_ble_eq_true rfl⟩) ⟨fun _ _ _ _ q => q, fun _ _ _ => rfl⟩ rfl rfl hl.1 rfl (lv_room (Nat.le_of_ble_eq_true rfl)) dX8_within_12 ⟨Nat.zero_le _, Nat.zero_le _⟩) (fun r_2 hr_2 => ?_)
    rw [show r_2 = iN (if ((1 : Int) ≤ mm ∧ mm ≤ (10 : Int)) then 1 else 0) from hr_2]
    refine n_ifb_eq (tgt := 28) hx hb dX8_within_15 (by decide) (fun c_15 => ?_) (fun c_15 => ?_)
    · refine n_ldc (z := (-100002)) hx hb hown (hts (.constant RX8 66 (-100002)) (by decide +kernel)) (by decide) dX8_within_28 ?_
      exact r_i hx hb hr dX8_within_30 hlocks hP hS ⟨(congrArg iN (by rw [if_neg (show ¬ ((-60000 ≤ lo ∧ lo ≤ hi ∧ hi ≤ 60000) ∧ (1 ≤ mm ∧ mm ≤ 10) ∧ 1 ≤ ed ∧ ed ≤ 600 ∧ 0 ≤ wh ∧ wh ≤ 3) by omega)])), bc, bs, sz0, th, ps, vs, f0, un0, q0, pso, psz, ple, pfb, pfe, csz, cb, ce, (fun k _ _ _ _ _ _ _ _ _ _ _ => rfl), e0, e1, e2, e3, e4, e5, e6, e7, e8, e9, e10, p7⟩
    · refine lv_iload hx hb dX8_within_18 (lv_at hl 4 rfl) ?_
      refine lv_iload hx hb dX8_within_20 (lv_at hl 6 rfl) ?_
      refine vp_callSi (W.runS (As := [.int (iN ed), .int (iN wh)]) (rest := []) ⟨hx, hb, hml, hown, hts⟩ (c_X8_isSpanAsked l ed wh (p4) (p6)) (va_cwS 2 hts gX8_within_X8_isSpanAsked rfl rfl rfl (by decide +kernel) ⟨Nat.le_of_ble_eq_true rfl, Nat.le_of_ble_eq_true rfl⟩) ⟨fun _ _ _ _ q => q, fun _ _ _ => rfl⟩ rfl rfl hl.1 rfl (lv_room (Nat.le_of_ble_eq_true rfl)) dX8_within_22 ⟨Nat.zero_le _, Nat.zero_le _⟩) (fun r_3 hr_3 => ?_)
      rw [show r_3 = iN (if (1 ≤ ed ∧ ed ≤ 600 ∧ 0 ≤ wh ∧ wh ≤ 3) then 1 else 0) from hr_3]
      refine n_ifb_ne (tgt := 31) hx hb dX8_within_25 (by decide) (fun c_25 => ?_) (fun c_25 => ?_)
      · refine lv_aload_n hx hb dX8_within_31 rfl (lv_at hl 0 rfl) ?_
        refine f_get (C := RX8) (T := TX8) (N := 11) hx hb hts (by decide +kernel) hown hK hP 0 (by omega) e0 rfl 10 (by decide) (hts (.fieldLink RX8 58 "KeptMoving" "spans" "LKeptMoving$Spans;") (by decide +kernel)) (fun _ h9 => h9) rfl dX8_within_32 ?_
        refine lv_iload hx hb dX8_within_35 (lv_at hl 5 rfl) ?_
        refine f_callv (va_Run.run (va_runVN (As := [.int (iN k)]) (rest := []) ⟨hx, hb, hml, hown, hts⟩ (c_X6_seek l G w pso psz ple pfb pfe k e7) ⟨va_cnB 1 hts gX8_within_X6_seek_n183 rfl rfl rfl (hK.nm 44 rfl) (hts (.initialized RX6) (by decide +kernel)) (by decide +kernel) ⟨Nat.le_of_ble_eq_true rfl, Nat.le_of_ble_eq_true rfl⟩, hts (.instanceMethod yX6_seek) (by decide +kernel), hts (.selects RX6 yX6_seek yX6_seek) (by decide +kernel)⟩ (f_preV hP hK 18 (by omega) 5 e7 rfl) rfl rfl hl.1 rfl (lv_room (Nat.le_of_ble_eq_true rfl)) dX8_within_37 ⟨Nat.zero_le _, Nat.zero_le _⟩)) hS hAA (fun w_4 H locs q_5 hP hS => ?_)
        obtain ⟨fr_6, e_7⟩ := q_5
        have e_8 : w_4 0 = .inr (7, [.ref (gad G 1), .int (iN ((came : Nat) : Int)), .int (iN ((now : Nat) : Int)), .ref (gad G 2), .ref (gad G 5), .int (iN ((bc : Nat) : Int)), .ref (gad G 6), .ref (gad G 10), .ref (gad G 14), .ref (gad G 15), .ref (gad G 18)]) := (fr_6 0 (by omega)).trans e0
        have e_9 : w_4 5 = .inl (gI G, 92, .inl (aN bs)) := (fr_6 5 (by omega)).trans e1
        have e_10 : w_4 6 = .inr (4, [.ref (gad G 7), .ref (gad G 8), .ref (gad G 9), .int (iN ((sz0 : Nat) : Int))]) := (fr_6 6 (by omega)).trans e2
        have e_11 : w_4 7 = .inl (gZ G, 10, .inl (aN th)) := (fr_6 7 (by omega)).trans e3
        have e_12 : w_4 8 = .inl (gI G, 10, .inl (aN ps)) := (fr_6 8 (by omega)).trans e4
        have e_13 : w_4 9 = .inl (gI G, 10, .inl (aN vs)) := (fr_6 9 (by omega)).trans e5
        have e_14 : w_4 14 = .inr (6, [.int (iN f0), .long (jN un0), .long (jN q0.1), .long (jN q0.2.1), .int (iN q0.2.2)]) := (fr_6 14 (by omega)).trans e6
        have e_15 : w_4 15 = .inr (1, [.ref (gad G 16), .ref (gad G 17), .int (iN ((csz : Nat) : Int))]) := (fr_6 15 (by omega)).trans e8
        have e_16 : w_4 16 = .inl (gJ G, 10, .inr (.inl (aJ cb))) := (fr_6 16 (by omega)).trans e9
        have e_17 : w_4 17 = .inl (gJ G, 10, .inr (.inl (aJ ce))) := (fr_6 17 (by omega)).trans e10
        have e_18 : w_4 18 = .inr (5, [.int (iN k), .int (iN 0), .long (jN ple), .long (jN pfb), .long (jN pfe)]) := e_7
        have hC_19 : FAM G w_4 cst cpl csp cnp cstop := hC.keep (fun k h1 h2 => fr_6 k (by omega))
        refine lv_aload_n hx hb dX8_within_40 rfl (lv_at hl 0 rfl) ?_
        refine lv_iload hx hb dX8_within_41 (lv_at hl 4 rfl) ?_
        refine f_callv (W.runV (As := [.int (iN ed)]) (rest := []) ⟨hx, hb, hml, hown, hts⟩ (c_X8_gatherBends l G w_4 came now bc bs ed cst cpl csp cnp cstop e_8 e_9 hC_19 (p0) (by omega)) (cwV 1 hts gX8_within_X8_gatherBends rfl rfl rfl (by decide +kernel) ⟨Nat.le_of_ble_eq_true rfl, Nat.le_of_ble_eq_true rfl⟩) (f_preV hP hK 0 (by omega) 7 e_8 rfl) rfl rfl hl.1 rfl (lv_room (Nat.le_of_ble_eq_true rfl)) dX8_within_43 ⟨Nat.zero_le _, Nat.zero_le _⟩) hS hAA (fun w_20 H locs q_21 hP hS => ?_)
        obtain ⟨bc2_22, bs2_23, fr_24, e_25, e_26, q_27⟩ := q_21
        have e_28 : w_20 6 = .inr (4, [.ref (gad G 7), .ref (gad G 8), .ref (gad G 9), .int (iN ((sz0 : Nat) : Int))]) := (fr_24 6 (by omega) (by omega)).trans e_10
        have e_29 : w_20 7 = .inl (gZ G, 10, .inl (aN th)) := (fr_24 7 (by omega) (by omega)).trans e_11
        have e_30 : w_20 8 = .inl (gI G, 10, .inl (aN ps)) := (fr_24 8 (by omega) (by omega)).trans e_12
        have e_31 : w_20 9 = .inl (gI G, 10, .inl (aN vs)) := (fr_24 9 (by omega) (by omega)).trans e_13
        have e_32 : w_20 14 = .inr (6, [.int (iN f0), .long (jN un0), .long (jN q0.1), .long (jN q0.2.1), .int (iN q0.2.2)]) := (fr_24 14 (by omega) (by omega)).trans e_14
        have e_33 : w_20 15 = .inr (1, [.ref (gad G 16), .ref (gad G 17), .int (iN ((csz : Nat) : Int))]) := (fr_24 15 (by omega) (by omega)).trans e_15
        have e_34 : w_20 16 = .inl (gJ G, 10, .inr (.inl (aJ cb))) := (fr_24 16 (by omega) (by omega)).trans e_16
        have e_35 : w_20 17 = .inl (gJ G, 10, .inr (.inl (aJ ce))) := (fr_24 17 (by omega) (by omega)).trans e_17
        have e_36 : w_20 18 = .inr (5, [.int (iN k), .int (iN 0), .long (jN ple), .long (jN pfb), .long (jN pfe)]) := (fr_24 18 (by omega) (by omega)).trans e_18
        have e_37 : w_20 0 = .inr (7, [.ref (gad G 1), .int (iN ((came : Nat) : Int)), .int (iN ((now : Nat) : Int)), .ref (gad G 2), .ref (gad G 5), .int (iN ((bc2_22 : Nat) : Int)), .ref (gad G 6), .ref (gad G 10), .ref (gad G 14), .ref (gad G 15), .ref (gad G 18)]) := e_25
        have e_38 : w_20 5 = .inl (gI G, 92, .inl (aN bs2_23)) := e_26
        have hC_39 : FAM G w_20 cst cpl csp cnp cstop := hC_19.keep (fun k h1 h2 => fr_24 k (by omega) (by omega))
        have hbq := q_27
        have hbr := bndF_rng p0 (last := ed) (by omega)
        have hbce := isB_bc hbq
        have hbq0 := hbq.1
        have hball : ∀ z : Nat, z < bc2_22 → 0 ≤ bs2_23 z ∧ bs2_23 z ≤ 600 := fun z hz => by have h9 := hbr z; rw [hbq.2.1 z hz]; omega
        refine n_iconst hx hb dX8_within_46 ?_
        refine lv_istore (lv' := [(7, .int (iN 0)), (0, .ref (gad G 0)), (1, .int (iN lo)), (2, .int (iN hi)), (3, .int (iN mm)), (4, .int (iN ed)), (5, .int (iN k)), (6, .int (iN wh))]) hx hb dX8_within_47 hl (by decide) rfl (fun ls hl => ?_)
        have K49 : ∀ (N : Nat) (b : Nat) (sz2 : Nat) (th2 : Nat → Int) (ps2 : Nat → Int) (vs2 : Nat → Int) (f2 : Int) (un2 : Int) (q2 : ST) (psz2 : Nat) (ple2 : Int) (pfb2 : Int) (pfe2 : Int) (csz2 : Nat) (cb2 : Nat → Int) (ce2 : Nat → Int) (w2 : WF) (H : Heap) (locs : List Loc) (ls : Array Slot), (b ≤ bcF (cst, cpl, csp, cnp, cstop) came ed) → (isP (wnL (cst, cpl, csp, cnp, cstop) came ed lo hi mm b) k psz2 ple2 pfb2 pfe2) → 93 - b < N → w2 0 = .inr (7, [.ref (gad G 1), .int (iN ((came : Nat) : Int)), .int (iN ((now : Nat) : Int)), .ref (gad G 2), .ref (gad G 5), .int (iN ((bc2_22 : Nat) : Int)), .ref (gad G 6), .ref (gad G 10), .ref (gad G 14), .ref (gad G 15), .ref (gad G 18)]) → w2 5 = .inl (gI G, 92, .inl (aN bs2_23)) → w2 6 = .inr (4, [.ref (gad G 7), .ref (gad G 8), .ref (gad G 9), .int (iN ((sz2 : Nat) : Int))]) → w2 7 = .inl (gZ G, 10, .inl (aN th2)) → w2 8 = .inl (gI G, 10, .inl (aN ps2)) → w2 9 = .inl (gI G, 10, .inl (aN vs2)) → w2 14 = .inr (6, [.int (iN f2), .long (jN un2), .long (jN q2.1), .long (jN q2.2.1), .int (iN q2.2.2)]) → w2 18 = .inr (5, [.int (iN k), .int (iN ((psz2 : Nat) : Int)), .long (jN ple2), .long (jN pfb2), .long (jN pfe2)]) → w2 15 = .inr (1, [.ref (gad G 16), .ref (gad G 17), .int (iN ((csz2 : Nat) : Int))]) → w2 16 = .inl (gJ G, 10, .inr (.inl (aJ cb2))) → w2 17 = .inl (gJ G, 10, .inr (.inl (aJ ce2))) → (∀ k : Nat, k ≠ 0 → k ≠ 5 → k ≠ 6 → k ≠ 7 → k ≠ 8 → k ≠ 9 → k ≠ 14 → k ≠ 18 → k ≠ 15 → k ≠ 16 → k ≠ 17 → w2 k = w k) → PW G w2 H → va_S (AA G) s.heap H locs → lv_has ls 8 [(0, .ref (gad G 0)), (1, .int (iN lo)), (2, .int (iN hi)), (3, .int (iN mm)), (4, .int (iN ed)), (5, .int (iN k)), (6, .int (iN wh)), (7, .int (iN ((b : Nat) : Int)))] → W p l e (headSpec wsX8_within ({ frames := 6, cells := 0, slots := 0, locals := 133 })).room s m (([.ref (gad G 0), .int (iN lo), .int (iN hi), .int (iN mm), .int (iN ed), .int (iN k), .int (iN wh)] : List Value).toArray) below meth c H locs 0 0 (MQ below (QI G (fun r w1 => r = iN (if (-60000 ≤ lo ∧ lo ≤ hi ∧ hi ≤ 60000) ∧ (1 ≤ mm ∧ mm ≤ 10) ∧ 1 ≤ ed ∧ ed ≤ 600 ∧ 0 ≤ wh ∧ wh ≤ 3 then spT (wnL (cst, cpl, csp, cnp, cstop) came ed lo hi mm (bcF (cst, cpl, csp, cnp, cstop) came ed)) k wh else -100002) ∧ ∃ (bc2 : Nat) (bs2 : Nat → Int) (sz2 : Nat) (th2 : Nat → Int) (ps2 : Nat → Int) (vs2 : Nat → Int) (f2 : Int) (un2 : Int) (q2 : ST) (pso2 : Int) (psz2 : Nat) (ple2 : Int) (pfb2 : Int) (pfe2 : Int) (csz2 : Nat) (cb2 : Nat → Int) (ce2 : Nat → Int), (∀ k : Nat, k ≠ 0 → k ≠ 5 → k ≠ 6 → k ≠ 7 → k ≠ 8 → k ≠ 9 → k ≠ 14 → k ≠ 18 → k ≠ 15 → k ≠ 16 → k ≠ 17 → w1 k = w k) ∧ w1 0 = .inr (7, [.ref (gad G 1), .int (iN ((came : Nat) : Int)), .int (iN ((now : Nat) : Int)), .ref (gad G 2), .ref (gad G 5), .int (iN ((bc2 : Nat) : Int)), .ref (gad G 6), .ref (gad G 10), .ref (gad G 14), .ref (gad G 15), .ref (gad G 18)]) ∧ w1 5 = .inl (gI G, 92, .inl (aN bs2)) ∧ w1 6 = .inr (4, [.ref (gad G 7), .ref (gad G 8), .ref (gad G 9), .int (iN ((sz2 : Nat) : Int))]) ∧ w1 7 = .inl (gZ G, 10, .inl (aN th2)) ∧ w1 8 = .inl (gI G, 10, .inl (aN ps2)) ∧ w1 9 = .inl (gI G, 10, .inl (aN vs2)) ∧ w1 14 = .inr (6, [.int (iN f2), .long (jN un2), .long (jN q2.1), .long (jN q2.2.1), .int (iN q2.2.2)]) ∧ w1 18 = .inr (5, [.int (iN pso2), .int (iN ((psz2 : Nat) : Int)), .long (jN ple2), .long (jN pfb2), .long (jN pfe2)]) ∧ w1 15 = .inr (1, [.ref (gad G 16), .ref (gad G 17), .int (iN ((csz2 : Nat) : Int))]) ∧ w1 16 = .inl (gJ G, 10, .inr (.inl (aJ cb2))) ∧ w1 17 = .inl (gJ G, 10, .inr (.inl (aJ ce2))) ∧ (PBD ple2 pfb2 pfe2))) (([.ref (gad G 0), .int (iN lo), .int (iN hi), .int (iN mm), .int (iN ed), .int (iN k), .int (iN wh)] : List Value).toArray) s 0 0 (AA G)) (F0 m 49 ls []) := by
          intro N
          induction N with
          | zero =>
            intros
            exfalso
            omega
          | succ N ih49 =>
            intro b sz2 th2 ps2 vs2 f2 un2 q2 psz2 ple2 pfb2 pfe2 csz2 cb2 ce2 w2 H locs ls i49_0 i49_1 hN49 f49_0 f49_1 f49_2 f49_3 f49_4 f49_5 f49_6 f49_7 f49_8 f49_9 f49_10 hfr49 hP hS hl
            have hC49 : FAM G w2 cst cpl csp cnp cstop := hC.keep (fun k h1 h2 => hfr49 k (by omega) (by omega) (by omega) (by omega) (by omega) (by omega) (by omega) (by omega) (by omega) (by omega) (by omega))
            refine lv_iload hx hb dX8_within_49 (lv_at hl 7 rfl) ?_
            refine lv_aload_n hx hb dX8_within_51 rfl (lv_at hl 0 rfl) ?_
            refine f_get (C := RX8) (T := TX8) (N := 11) hx hb hts (by decide +kernel) hown hK hP 0 (by omega) f49_0 rfl 5 (by decide) (hts (.fieldLink RX8 189 "KeptMoving" "bendCount" "I") (by decide +kernel)) (fun _ h9 => h9) rfl dX8_within_52 ?_
            refine n_icmp_ge (tgt := 81) hx hb dX8_within_55 (by decide) (by omega) (by omega) (by omega) (by omega) (fun c_55 => ?_) (fun c_55 => ?_)
            · refine lv_aload_n hx hb dX8_within_81 rfl (lv_at hl 0 rfl) ?_
              refine f_get (C := RX8) (T := TX8) (N := 11) hx hb hts (by decide +kernel) hown hK hP 0 (by omega) f49_0 rfl 10 (by decide) (hts (.fieldLink RX8 58 "KeptMoving" "spans" "LKeptMoving$Spans;") (by decide +kernel)) (fun _ h9 => h9) rfl dX8_within_82 ?_
              refine lv_iload hx hb dX8_within_85 (lv_at hl 6 rfl) ?_
              refine vp_callSi (va_Run.run (va_runVN (As := [.int (iN wh)]) (rest := []) ⟨hx, hb, hml, hown, hts⟩ (c_X6_tell l G w2 k psz2 ple2 pfb2 pfe2 wh f49_7 (by have := wnL_len (cst, cpl, csp, cnp, cstop) came ed lo hi mm hc10 b; rw [i49_1.1]; omega) (p5) (by omega) (i49_1.2.2.2.2.1) (i49_1.2.2.2.2.2)) ⟨va_cnB 1 hts gX8_within_X6_tell_n202 rfl rfl rfl (hK.nm 55 rfl) (hts (.initialized RX6) (by decide +kernel)) (by decide +kernel) ⟨Nat.le_of_ble_eq_true rfl, Nat.le_of_ble_eq_true rfl⟩, hts (.instanceMethod yX6_tell) (by decide +kernel), hts (.selects RX6 yX6_tell yX6_tell) (by decide +kernel)⟩ (f_preV hP hK 18 (by omega) 5 f49_7 rfl) rfl rfl hl.1 rfl (lv_room (Nat.le_of_ble_eq_true rfl)) dX8_within_87 ⟨Nat.zero_le _, Nat.zero_le _⟩)) (fun r_40 hr_40 => ?_)
              rw [show r_40 = iN (if k = -1 then ((psz2 : Nat) : Int) else if k < 0 ∨ ((psz2 : Nat) : Int) ≤ k then -1 else if wh = 0 then pfb2 / 256 else if wh = 1 then pfb2 % 256 else if wh = 2 then pfe2 / 256 else pfe2 % 256) from hr_40]
              exact r_i hx hb hr dX8_within_90 hlocks hP hS ⟨(congrArg iN (by rw [if_pos (show (-60000 ≤ lo ∧ lo ≤ hi ∧ hi ≤ 60000) ∧ (1 ≤ mm ∧ mm ≤ 10) ∧ 1 ≤ ed ∧ ed ≤ 600 ∧ 0 ≤ wh ∧ wh ≤ 3 by omega), show bcF (cst, cpl, csp, cnp, cstop) came ed = b by omega]; exact isP_tell i49_1 wh)), bc2_22, bs2_23, sz2, th2, ps2, vs2, f2, un2, q2, k, psz2, ple2, pfb2, pfe2, csz2, cb2, ce2, (fun k h0 h1 h2 h3 h4 h5 h6 h7 h8 h9 h10 => hfr49 k (by omega) (by omega) (by omega) (by omega) (by omega) (by omega) (by omega) (by omega) (by omega) (by omega) (by omega)), f49_0, f49_1, f49_2, f49_3, f49_4, f49_5, f49_6, f49_7, f49_8, f49_9, f49_10, isP_pbd i49_1⟩
            · have hb1 := hbq.2.1 b (by omega)
              have hbr1 := hbr b
              have hbr2 := hbr (b + 1)
              have hb2 : b + 1 < bc2_22 → bs2_23 (b + 1) = bndF (cst, cpl, csp, cnp, cstop) came ed (b + 1) := fun z => hbq.2.1 (b + 1) z
              refine lv_aload_n hx hb dX8_within_58 rfl (lv_at hl 0 rfl) ?_
              refine lv_iload hx hb dX8_within_59 (lv_at hl 7 rfl) ?_
              refine f_callv (W.runV (As := [.int (iN ((b : Nat) : Int))]) (rest := []) ⟨hx, hb, hml, hown, hts⟩ (c_X8_openStretch l G w2 came now bc2_22 bs2_23 sz2 th2 ps2 vs2 f2 un2 q2 b cst cpl csp cnp cstop f49_0 f49_1 f49_2 f49_3 f49_4 f49_5 f49_6 hC49 (p0) (⟨by omega, hbq0.2⟩) (hball)) (cwV 1 hts gX8_within_X8_openStretch rfl rfl rfl (by decide +kernel) ⟨Nat.le_of_ble_eq_true rfl, Nat.le_of_ble_eq_true rfl⟩) (f_preV hP hK 0 (by omega) 7 f49_0 rfl) rfl rfl hl.1 rfl (lv_room (Nat.le_of_ble_eq_true rfl)) dX8_within_61 ⟨Nat.zero_le _, Nat.zero_le _⟩) hS hAA (fun w_41 H locs q_42 hP hS => ?_)
              obtain ⟨th2_43, ps2_44, vs2_45, fr_46, e_47, e_48, e_49, e_50, e_51, q_52⟩ := q_42
              have e_53 : w_41 0 = .inr (7, [.ref (gad G 1), .int (iN ((came : Nat) : Int)), .int (iN ((now : Nat) : Int)), .ref (gad G 2), .ref (gad G 5), .int (iN ((bc2_22 : Nat) : Int)), .ref (gad G 6), .ref (gad G 10), .ref (gad G 14), .ref (gad G 15), .ref (gad G 18)]) := (fr_46 0 (by omega) (by omega) (by omega) (by omega) (by omega)).trans f49_0
              have e_54 : w_41 5 = .inl (gI G, 92, .inl (aN bs2_23)) := (fr_46 5 (by omega) (by omega) (by omega) (by omega) (by omega)).trans f49_1
              have e_55 : w_41 18 = .inr (5, [.int (iN k), .int (iN ((psz2 : Nat) : Int)), .long (jN ple2), .long (jN pfb2), .long (jN pfe2)]) := (fr_46 18 (by omega) (by omega) (by omega) (by omega) (by omega)).trans f49_7
              have e_56 : w_41 15 = .inr (1, [.ref (gad G 16), .ref (gad G 17), .int (iN ((csz2 : Nat) : Int))]) := (fr_46 15 (by omega) (by omega) (by omega) (by omega) (by omega)).trans f49_8
              have e_57 : w_41 16 = .inl (gJ G, 10, .inr (.inl (aJ cb2))) := (fr_46 16 (by omega) (by omega) (by omega) (by omega) (by omega)).trans f49_9
              have e_58 : w_41 17 = .inl (gJ G, 10, .inr (.inl (aJ ce2))) := (fr_46 17 (by omega) (by omega) (by omega) (by omega) (by omega)).trans f49_10
              have e_59 : w_41 6 = .inr (4, [.ref (gad G 7), .ref (gad G 8), .ref (gad G 9), .int (iN ((came : Nat) : Int))]) := e_47
              have e_60 : w_41 7 = .inl (gZ G, 10, .inl (aN th2_43)) := e_48
              have e_61 : w_41 8 = .inl (gI G, 10, .inl (aN ps2_44)) := e_49
              have e_62 : w_41 9 = .inl (gI G, 10, .inl (aN vs2_45)) := e_50
              have e_63 : w_41 14 = .inr (6, [.int (iN (bs2_23 b)), .long (jN ((if b + 1 < bc2_22 then bs2_23 (b + 1) else bs2_23 b) * 256 + 1)), .long (jN (bs2_23 b * 256 + 1)), .long (jN ((if b + 1 < bc2_22 then bs2_23 (b + 1) else bs2_23 b) * 256 + 1)), .int (iN 0)]) := e_51
              have hC_64 : FAM G w_41 cst cpl csp cnp cstop := hC49.keep (fun k h1 h2 => fr_46 k (by omega) (by omega) (by omega) (by omega) (by omega))
              refine lv_aload_n hx hb dX8_within_64 rfl (lv_at hl 0 rfl) ?_
              refine lv_iload_n hx hb dX8_within_65 rfl (lv_at hl 1 rfl) ?_
              refine lv_iload_n hx hb dX8_within_66 rfl (lv_at hl 2 rfl) ?_
              have hnx : (if b + 1 < bc2_22 then bs2_23 (b + 1) else bs2_23 b) = nxB (cst, cpl, csp, cnp, cstop) came ed b := by unfold nxB; rw [← hbce]; split; exact hb2 (by assumption); exact hb1
              have hnr : 0 ≤ (if b + 1 < bc2_22 then bs2_23 (b + 1) else bs2_23 b) ∧ (if b + 1 < bc2_22 then bs2_23 (b + 1) else bs2_23 b) ≤ 600 := by split; exact hball _ (by assumption); exact hball _ (by omega)
              have hq0 : okQ (bs2_23 b * 256 + 1, (if b + 1 < bc2_22 then bs2_23 (b + 1) else bs2_23 b) * 256 + 1, 0) := q0_ok (hball b (by omega)) ⟨_, rfl, hnr⟩
              have hscr : ∀ z : Nat, z < came → _ := fun z hz => sc_rng p0 (hball b (by omega)) q_52 hz
              refine f_callv (W.runV (As := [.int (iN lo), .int (iN hi)]) (rest := []) ⟨hx, hb, hml, hown, hts⟩ (c_X8_gatherCrowd l G w_41 (cst, cpl, csp, cnp, cstop) came now bc2_22 th2_43 ps2_44 vs2_45 (bs2_23 b) ((if b + 1 < bc2_22 then bs2_23 (b + 1) else bs2_23 b) * 256 + 1) (bs2_23 b * 256 + 1, (if b + 1 < bc2_22 then bs2_23 (b + 1) else bs2_23 b) * 256 + 1, 0) csz2 cb2 ce2 lo hi e_53 e_59 e_60 e_61 e_62 e_63 e_56 e_57 e_58 (hc10) (hball b (by omega)) (q_52) (⟨_, rfl, hnr⟩) (hscr) (by omega) (by omega) (hq0)) (cwV 2 hts gX8_within_X8_gatherCrowd rfl rfl rfl (by decide +kernel) ⟨Nat.le_of_ble_eq_true rfl, Nat.le_of_ble_eq_true rfl⟩) (f_preV hP hK 0 (by omega) 7 e_53 rfl) rfl rfl hl.1 rfl (lv_room (Nat.le_of_ble_eq_true rfl)) dX8_within_67 ⟨Nat.zero_le _, Nat.zero_le _⟩) hS hAA (fun w_65 H locs q_66 hP hS => ?_)
              obtain ⟨q2_67, csz2_68, cb2_69, ce2_70, fr_71, e_72, e_73, e_74, e_75, q_76, q_77, q_78⟩ := q_66
              have e_79 : w_65 0 = .inr (7, [.ref (gad G 1), .int (iN ((came : Nat) : Int)), .int (iN ((now : Nat) : Int)), .ref (gad G 2), .ref (gad G 5), .int (iN ((bc2_22 : Nat) : Int)), .ref (gad G 6), .ref (gad G 10), .ref (gad G 14), .ref (gad G 15), .ref (gad G 18)]) := (fr_71 0 (by omega) (by omega) (by omega) (by omega)).trans e_53
              have e_80 : w_65 5 = .inl (gI G, 92, .inl (aN bs2_23)) := (fr_71 5 (by omega) (by omega) (by omega) (by omega)).trans e_54
              have e_81 : w_65 18 = .inr (5, [.int (iN k), .int (iN ((psz2 : Nat) : Int)), .long (jN ple2), .long (jN pfb2), .long (jN pfe2)]) := (fr_71 18 (by omega) (by omega) (by omega) (by omega)).trans e_55
              have e_82 : w_65 6 = .inr (4, [.ref (gad G 7), .ref (gad G 8), .ref (gad G 9), .int (iN ((came : Nat) : Int))]) := (fr_71 6 (by omega) (by omega) (by omega) (by omega)).trans e_59
              have e_83 : w_65 7 = .inl (gZ G, 10, .inl (aN th2_43)) := (fr_71 7 (by omega) (by omega) (by omega) (by omega)).trans e_60
              have e_84 : w_65 8 = .inl (gI G, 10, .inl (aN ps2_44)) := (fr_71 8 (by omega) (by omega) (by omega) (by omega)).trans e_61
              have e_85 : w_65 9 = .inl (gI G, 10, .inl (aN vs2_45)) := (fr_71 9 (by omega) (by omega) (by omega) (by omega)).trans e_62
              have e_86 : w_65 14 = .inr (6, [.int (iN (bs2_23 b)), .long (jN ((if b + 1 < bc2_22 then bs2_23 (b + 1) else bs2_23 b) * 256 + 1)), .long (jN q2_67.1), .long (jN q2_67.2.1), .int (iN q2_67.2.2)]) := e_72
              have e_87 : w_65 15 = .inr (1, [.ref (gad G 16), .ref (gad G 17), .int (iN ((csz2_68 : Nat) : Int))]) := e_73
              have e_88 : w_65 16 = .inl (gJ G, 10, .inr (.inl (aJ cb2_69))) := e_74
              have e_89 : w_65 17 = .inl (gJ G, 10, .inr (.inl (aJ ce2_70))) := e_75
              have hC_90 : FAM G w_65 cst cpl csp cnp cstop := hC_64.keep (fun k h1 h2 => fr_71 k (by omega) (by omega) (by omega) (by omega))
              have hcl := cw_len (cst, cpl, csp, cnp, cstop) (bs2_23 b) ((if b + 1 < bc2_22 then bs2_23 (b + 1) else bs2_23 b) * 256 + 1) lo hi came
              have hcz := q_76.1
              refine lv_aload_n hx hb dX8_within_70 rfl (lv_at hl 0 rfl) ?_
              refine lv_iload_n hx hb dX8_within_71 rfl (lv_at hl 3 rfl) ?_
              refine f_callv (W.runV (As := [.int (iN mm)]) (rest := []) ⟨hx, hb, hml, hown, hts⟩ (c_X8_addCrowded l G w_65 came now bc2_22 csz2_68 cb2_69 ce2_70 (wnL (cst, cpl, csp, cnp, cstop) came ed lo hi mm b) k psz2 ple2 pfb2 pfe2 mm e_79 e_87 e_88 e_89 e_81 (by omega) (by omega) (isR_bd q_76) (isR_bd q_77) (i49_1) (by have := wnL_len (cst, cpl, csp, cnp, cstop) came ed lo hi mm hc10 b; omega) (p5)) (cwV 1 hts gX8_within_X8_addCrowded rfl rfl rfl (by decide +kernel) ⟨Nat.le_of_ble_eq_true rfl, Nat.le_of_ble_eq_true rfl⟩) (f_preV hP hK 0 (by omega) 7 e_79 rfl) rfl rfl hl.1 rfl (lv_room (Nat.le_of_ble_eq_true rfl)) dX8_within_72 ⟨Nat.zero_le _, Nat.zero_le _⟩) hS hAA (fun w_91 H locs q_92 hP hS => ?_)
              obtain ⟨psz2_93, ple2_94, pfb2_95, pfe2_96, fr_97, e_98, q_99⟩ := q_92
              have e_100 : w_91 0 = .inr (7, [.ref (gad G 1), .int (iN ((came : Nat) : Int)), .int (iN ((now : Nat) : Int)), .ref (gad G 2), .ref (gad G 5), .int (iN ((bc2_22 : Nat) : Int)), .ref (gad G 6), .ref (gad G 10), .ref (gad G 14), .ref (gad G 15), .ref (gad G 18)]) := (fr_97 0 (by omega)).trans e_79
              have e_101 : w_91 5 = .inl (gI G, 92, .inl (aN bs2_23)) := (fr_97 5 (by omega)).trans e_80
              have e_102 : w_91 6 = .inr (4, [.ref (gad G 7), .ref (gad G 8), .ref (gad G 9), .int (iN ((came : Nat) : Int))]) := (fr_97 6 (by omega)).trans e_82
              have e_103 : w_91 7 = .inl (gZ G, 10, .inl (aN th2_43)) := (fr_97 7 (by omega)).trans e_83
              have e_104 : w_91 8 = .inl (gI G, 10, .inl (aN ps2_44)) := (fr_97 8 (by omega)).trans e_84
              have e_105 : w_91 9 = .inl (gI G, 10, .inl (aN vs2_45)) := (fr_97 9 (by omega)).trans e_85
              have e_106 : w_91 14 = .inr (6, [.int (iN (bs2_23 b)), .long (jN ((if b + 1 < bc2_22 then bs2_23 (b + 1) else bs2_23 b) * 256 + 1)), .long (jN q2_67.1), .long (jN q2_67.2.1), .int (iN q2_67.2.2)]) := (fr_97 14 (by omega)).trans e_86
              have e_107 : w_91 15 = .inr (1, [.ref (gad G 16), .ref (gad G 17), .int (iN ((csz2_68 : Nat) : Int))]) := (fr_97 15 (by omega)).trans e_87
              have e_108 : w_91 16 = .inl (gJ G, 10, .inr (.inl (aJ cb2_69))) := (fr_97 16 (by omega)).trans e_88
              have e_109 : w_91 17 = .inl (gJ G, 10, .inr (.inl (aJ ce2_70))) := (fr_97 17 (by omega)).trans e_89
              have e_110 : w_91 18 = .inr (5, [.int (iN k), .int (iN ((psz2_93 : Nat) : Int)), .long (jN ple2_94), .long (jN pfb2_95), .long (jN pfe2_96)]) := e_98
              have hC_111 : FAM G w_91 cst cpl csp cnp cstop := hC_90.keep (fun k h1 h2 => fr_97 k (by omega))
              refine lv_iinc (v := iN ((b + 1 : Nat) : Int)) (lv' := [(7, .int (iN ((b + 1 : Nat) : Int))), (0, .ref (gad G 0)), (1, .int (iN lo)), (2, .int (iN hi)), (3, .int (iN mm)), (4, .int (iN ed)), (5, .int (iN k)), (6, .int (iN wh))]) hx hb dX8_within_75 hl (k := 7) rfl (iN_incN _) (by decide) rfl (fun ls hl => ?_)
              refine lv_goto (tgt := 49) hx hb dX8_within_78 (by decide) ?_
              exact ih49 (b + 1) (came) (th2_43) (ps2_44) (vs2_45) ((bs2_23 b)) (((if b + 1 < bc2_22 then bs2_23 (b + 1) else bs2_23 b) * 256 + 1)) (q2_67) (psz2_93) (ple2_94) (pfb2_95) (pfe2_96) (csz2_68) (cb2_69) (ce2_70) w_91 _ _ _ (by omega) (wn_step hb1 (by rw [hnx]) q_76 q_77 q_99) (by omega) (e_100) (e_101) (e_102) (e_103) (e_104) (e_105) (e_106) (e_110) (e_107) (e_108) (e_109) (fun k h0 h1 h2 h3 h4 h5 h6 h7 h8 h9 h10 => ((((((fr_97 k (by omega)).trans (fr_71 k (by omega) (by omega) (by omega) (by omega)))).trans (fr_46 k (by omega) (by omega) (by omega) (by omega) (by omega)))).trans (hfr49 k (by omega) (by omega) (by omega) (by omega) (by omega) (by omega) (by omega) (by omega) (by omega) (by omega) (by omega)))) hP hS (lv_sub hl [1, 2, 3, 4, 5, 6, 7, 0] rfl)
        exact K49 ((93 - 0) + 1) (0) (sz0) (th) (ps) (vs) (f0) (un0) (q0) (0) (ple) (pfb) (pfe) (csz) (cb) (ce) w_20 _ _ _ (by omega) (isP_0 p7 k) (by omega) (e_37) (e_38) (e_28) (e_29) (e_30) (e_31) (e_32) (e_36) (e_33) (e_34) (e_35) (fun k h0 h1 h2 h3 h4 h5 h6 h7 h8 h9 h10 => ((fr_24 k (by omega) (by omega)).trans (fr_6 k (by omega)))) hP hS (lv_sub hl [1, 2, 3, 4, 5, 6, 7, 0] rfl)
      · refine n_ldc (z := (-100002)) hx hb hown (hts (.constant RX8 66 (-100002)) (by decide +kernel)) (by decide) dX8_within_28 ?_
        exact r_i hx hb hr dX8_within_30 hlocks hP hS ⟨(congrArg iN (by rw [if_neg (show ¬ ((-60000 ≤ lo ∧ lo ≤ hi ∧ hi ≤ 60000) ∧ (1 ≤ mm ∧ mm ≤ 10) ∧ 1 ≤ ed ∧ ed ≤ 600 ∧ 0 ≤ wh ∧ wh ≤ 3) by omega)])), bc, bs, sz0, th, ps, vs, f0, un0, q0, pso, psz, ple, pfb, pfe, csz, cb, ce, (fun k _ _ _ _ _ _ _ _ _ _ _ => rfl), e0, e1, e2, e3, e4, e5, e6, e7, e8, e9, e10, p7⟩
