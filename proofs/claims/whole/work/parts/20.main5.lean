theorem sc_yes {S : FS} {t : Int} {q : Nat} {th ps vs : Nat → Int} (h : isSc S t q th ps vs) {j : Nat} (hj : j < q) (hn : th j ≠ 0) : thB S t j = true := by
  rw [(h j hj).1] at hn
  by_cases hb : thB S t j = true
  · exact hb
  · rw [if_neg hb] at hn
    exact absurd rfl hn
theorem sc_no {S : FS} {t : Int} {q : Nat} {th ps vs : Nat → Int} (h : isSc S t q th ps vs) {j : Nat} (hj : j < q) (hn : ¬ th j ≠ 0) : ¬ thB S t j = true := fun hb => by
  rw [(h j hj).1, if_pos hb] at hn
  exact hn (by decide)
theorem sc_01 {S : FS} {t : Int} {q : Nat} {th ps vs : Nat → Int} (h : isSc S t q th ps vs) {j : Nat} (hj : j < q) : th j = 0 ∨ th j = 1 := by
  rw [(h j hj).1]
  split
  · exact Or.inr rfl
  · exact Or.inl rfl
theorem sc_rng {came : Nat} {cst cpl csp : Nat → Nat → Int} {cnp : Nat → Nat} {cstop : Nat → Int} (hV : OKS came cst cpl csp cnp cstop) {t : Int} (ht : 0 ≤ t ∧ t ≤ 600) {th ps vs : Nat → Int} (h : isSc (cst, cpl, csp, cnp, cstop) t came th ps vs) {j : Nat} (hj : j < came) : (-51000 ≤ ps j ∧ ps j ≤ 51000) ∧ (-50 ≤ vs j ∧ vs j ≤ 50) := by
  obtain ⟨-, h2, h3⟩ := h j hj
  rw [h2, h3]
  exact ⟨(upAt_rng (hV.2 j hj) (d := 1) (n := t) (by omega) (by omega)).2.2 rfl, spAt_rng (hV.2 j hj)⟩
theorem gmI_s {S : FS} {f u : Int} {i j : Nat} {L : List EV} (h : i + 1 ≤ j) : gmI S f u i (j + 1 - (i + 1)) L = stepM (evOf S f u i j) (gmI S f u i (j - (i + 1)) L) := by
  obtain ⟨d, rfl⟩ : ∃ d, j = i + 1 + d := ⟨j - (i + 1), by omega⟩
  rw [show i + 1 + d + 1 - (i + 1) = d + 1 by omega, show i + 1 + d - (i + 1) = d by omega]
  rfl
theorem ev_no {S : FS} {f u : Int} {i j : Nat} (h : ¬ (thB S f i = true ∧ thB S f j = true)) (L : List EV) : stepM (evOf S f u i j) L = L := by
  unfold evOf
  rw [if_neg h]
  rfl
theorem ev_yes {S : FS} {f u : Int} {came i j : Nat} {th ps vs : Nat → Int} (h : isSc S f came th ps vs) (hi : i < came) (hj : j < came) (h1 : thB S f i = true) (h2 : thB S f j = true) (L : List EV) : stepM (evOf S f u i j) L = stepM (evC S f u i j (ps j - ps i) (vs j - vs i)) L := by
  unfold evOf
  rw [if_pos ⟨h1, h2⟩, (h i hi).2.1, (h j hj).2.1, (h i hi).2.2, (h j hj).2.2]
theorem gmI_bd {S : FS} {f u : Int} {came i j : Nat} (hc : came ≤ 10) (hi : i < came) (hj : i + 1 ≤ j) (hj2 : j < came) : (gmI S f u i (j - (i + 1)) (gmO S f u came i)).length < 45 := by
  have h1 := gmI_len S f u i (gmO S f u came i) (j - (i + 1))
  have h2 := gmO_len S f u came i
  have h3 := prs_bd came (by omega) i hi
  omega

set_option maxHeartbeats 4000000 in
set_option maxRecDepth 100000 in
theorem c_X8_addMeetingAtBend (l : Launch) (G : GE) (w : WF) (came : Nat) (now : Nat) (bc : Nat) (L : List EV) (mz : Nat) (pa : Int) (ts : Nat → Int) (os : Nat → Int) (rs : Nat → Int) (i : Nat) (j : Nat) (u : Int) (ga : Int) (cst : Nat → Nat → Int) (cpl : Nat → Nat → Int) (csp : Nat → Nat → Int) (cnp : Nat → Nat) (cstop : Nat → Int) (e0 : w 0 = .inr (7, [.ref (gad G 1), .int (iN ((came : Nat) : Int)), .int (iN ((now : Nat) : Int)), .ref (gad G 2), .ref (gad G 5), .int (iN ((bc : Nat) : Int)), .ref (gad G 6), .ref (gad G 10), .ref (gad G 14), .ref (gad G 15), .ref (gad G 18)])) (e1 : w 10 = .inr (3, [.ref (gad G 11), .ref (gad G 12), .ref (gad G 13), .int (iN ((mz : Nat) : Int)), .int (iN pa)])) (e2 : w 11 = .inl (gJ G, 45, .inr (.inl (aJ ts)))) (e3 : w 12 = .inl (gI G, 45, .inl (aN os))) (e4 : w 13 = .inl (gI G, 45, .inl (aN rs))) (hC : FAM G w cst cpl csp cnp cstop) (p0 : OKS came cst cpl csp cnp cstop) (p1 : i < came) (p2 : j < came) (p3 : 0 ≤ u ∧ u ≤ 120000) (p4 : -200 ≤ ga ∧ ga ≤ 200) (p5 : isM L mz pa ts os rs) (p6 : L.length < 45) : Met l yX8_addMeetingAtBend wsX8_addMeetingAtBend ({ frames := 3, cells := 0, slots := 0, locals := 72 }) (PcG G w [.ref (gad G 0), .int (iN ((i : Nat) : Int)), .int (iN ((j : Nat) : Int)), .int (iN u), .int (iN ga)]) (QV G (fun w1 => ∃ (mz2 : Nat) (pa2 : Int) (ts2 : Nat → Int) (os2 : Nat → Int) (rs2 : Nat → Int), (∀ k : Nat, k ≠ 10 → k ≠ 11 → k ≠ 12 → k ≠ 13 → w1 k = w k) ∧ w1 10 = .inr (3, [.ref (gad G 11), .ref (gad G 12), .ref (gad G 13), .int (iN ((mz2 : Nat) : Int)), .int (iN pa2)]) ∧ w1 11 = .inl (gJ G, 45, .inr (.inl (aJ ts2))) ∧ w1 12 = .inl (gI G, 45, .inl (aN os2)) ∧ w1 13 = .inl (gI G, 45, .inl (aN rs2)) ∧ (isM (stepM (abE (cst, cpl, csp, cnp, cstop) u i j ga) L) mz2 pa2 ts2 os2 rs2))) 0 0 (AA G) := by
  refine Met.ofW (cc := cX8_addMeetingAtBend) (maxL := 8) (ret := none) (by decide) rfl ?_
  intro p e s m args below meth c s₁ B hml hv
  obtain ⟨rfl, hP, hK⟩ := hv
  have hx := B.exec
  have hb := B.bytes
  have hr := B.returns
  have hts := atoms_spec (ws := wsX8_addMeetingAtBend) B.pre
  have hown : s.vm.findClass RX8 = some m.cls := findClass_of_methodNamed B.named
  have hlocks := B.notSynchronized
  have hS : va_S (AA G) s.heap s.heap [] := va_S.rf
  have hAA : ∀ q, AA G q → AA G q := fun _ h => h
  have hl := lv_entry ([.ref (gad G 0), .int (iN ((i : Nat) : Int)), .int (iN ((j : Nat) : Int)), .int (iN u), .int (iN ga)]) (n := 8) (Nat.le_of_ble_eq_true rfl)
  rw [lg_entry_eq]
  generalize (lg_sl ([.ref (gad G 0), .int (iN ((i : Nat) : Int)), .int (iN ((j : Nat) : Int)), .int (iN u), .int (iN ga)]) ++ List.replicate (8 - (lg_sl ([.ref (gad G 0), .int (iN ((i : Nat) : Int)), .int (iN ((j : Nat) : Int)), .int (iN u), .int (iN ga)])).length) Slot.unset).toArray = ls at hl ⊢
  have hl : lv_has ls 8 [(0, .ref (gad G 0)), (1, .int (iN ((i : Nat) : Int))), (2, .int (iN ((j : Nat) : Int))), (3, .int (iN u)), (4, .int (iN ga))] := hl
  have hc10 : came ≤ 10 := p0.1
  have hVi := p0.2 i p1
  have hVj := p0.2 j p2
  obtain ⟨hv1, hv2, hv3, hv4⟩ := id hVi
  obtain ⟨gv1, gv2, gv3, gv4⟩ := id hVj
  have hv20 := hv2 0 (by omega)
  have gv20 := gv2 0 (by omega)
  have hmz : mz = L.length := p5.1
  refine lv_aload_n hx hb dX8_addMeetingAtBend_0 rfl (lv_at hl 0 rfl) ?_
  refine f_get (C := RX8) (T := TX8) (N := 11) hx hb hts (by decide +kernel) hown hK hP 0 (by omega) e0 rfl 0 (by decide) (hts (.fieldLink RX8 11 "KeptMoving" "courses" "[LKeptMoving$Course;") (by decide +kernel)) (fun _ h9 => h9) rfl dX8_addMeetingAtBend_1 ?_
  refine lv_iload_n hx hb dX8_addMeetingAtBend_4 rfl (lv_at hl 1 rfl) ?_
  refine n_aldq hx hb hK hP i (rfl) (by omega) dX8_addMeetingAtBend_5 ?_
  refine lv_astore (lv' := [(5, .ref (gad G (19 + 4 * i))), (0, .ref (gad G 0)), (1, .int (iN ((i : Nat) : Int))), (2, .int (iN ((j : Nat) : Int))), (3, .int (iN u)), (4, .int (iN ga))]) hx hb dX8_addMeetingAtBend_6 hl (by decide) rfl (fun ls hl => ?_)
  refine lv_aload_n hx hb dX8_addMeetingAtBend_8 rfl (lv_at hl 1 rfl) ?_
  refine f_get (C := RX8) (T := TX8) (N := 11) hx hb hts (by decide +kernel) hown hK hP 0 (by omega) e0 rfl 0 (by decide) (hts (.fieldLink RX8 11 "KeptMoving" "courses" "[LKeptMoving$Course;") (by decide +kernel)) (fun _ h9 => h9) rfl dX8_addMeetingAtBend_9 ?_
  refine lv_iload_n hx hb dX8_addMeetingAtBend_12 rfl (lv_at hl 3 rfl) ?_
  refine n_aldq hx hb hK hP j (rfl) (by omega) dX8_addMeetingAtBend_13 ?_
  refine lv_astore (lv' := [(6, .ref (gad G (19 + 4 * j))), (5, .ref (gad G (19 + 4 * i))), (0, .ref (gad G 0)), (1, .int (iN ((i : Nat) : Int))), (2, .int (iN ((j : Nat) : Int))), (3, .int (iN u)), (4, .int (iN ga))]) hx hb dX8_addMeetingAtBend_14 hl (by decide) rfl (fun ls hl => ?_)
  refine lv_aload hx hb dX8_addMeetingAtBend_16 (lv_at hl 1 rfl) ?_
  refine lv_iload_n hx hb dX8_addMeetingAtBend_18 rfl (lv_at hl 5 rfl) ?_
  refine n_iconst hx hb dX8_addMeetingAtBend_19 ?_
  obtain ⟨x_1, x_2, x_3, x_4⟩ := hC i (by omega)
  refine vp_callSi (va_Run.run (va_runVN (As := [.int (iN u), .int (iN 1)]) (rest := []) ⟨hx, hb, hml, hown, hts⟩ (c_X0_isThere l G w i (cst i) (cpl i) (csp i) (cnp i) (cstop i) u 1 x_1 x_2 x_3 x_4 (by omega) (hv20) (hv3) (p3) (by omega)) ⟨va_cnB 2 hts gX8_addMeetingAtBend_X0_isThere_n140 rfl rfl rfl (hK.nm 16 rfl) (hts (.initialized RX0) (by decide +kernel)) (by decide +kernel) ⟨Nat.le_of_ble_eq_true rfl, Nat.le_of_ble_eq_true rfl⟩, hts (.instanceMethod yX0_isThere) (by decide +kernel), hts (.selects RX0 yX0_isThere yX0_isThere) (by decide +kernel)⟩ (f_preV hP hK (19 + 4 * i) (by omega) 0 x_1 rfl) rfl rfl hl.1 rfl (lv_room (Nat.le_of_ble_eq_true rfl)) dX8_addMeetingAtBend_20 ⟨Nat.zero_le _, Nat.zero_le _⟩)) (fun r_5 hr_5 => ?_)
  rw [show r_5 = iN (if ((cst i) 0 * 1 ≤ u ∧ ((cstop i) = -1 ∨ u < (cstop i) * 1)) then 1 else 0) from hr_5]
  refine n_ifb_eq (tgt := 77) hx hb dX8_addMeetingAtBend_23 (by decide) (fun c_23 => ?_) (fun c_23 => ?_)
  · exact r_v hx hb hr dX8_addMeetingAtBend_77 hlocks hP hS (⟨mz, pa, ts, os, rs, (fun k _ _ _ _ => rfl), e1, e2, e3, e4, (by rw [show abE (cst, cpl, csp, cnp, cstop) u i j ga = none from if_neg (fun z => c_23 (of_decide_eq_true z.1))]; exact p5)⟩)
  · refine lv_aload hx hb dX8_addMeetingAtBend_26 (lv_at hl 0 rfl) ?_
    refine lv_iload_n hx hb dX8_addMeetingAtBend_28 rfl (lv_at hl 5 rfl) ?_
    refine n_iconst hx hb dX8_addMeetingAtBend_29 ?_
    obtain ⟨x_6, x_7, x_8, x_9⟩ := hC j (by omega)
    refine vp_callSi (va_Run.run (va_runVN (As := [.int (iN u), .int (iN 1)]) (rest := []) ⟨hx, hb, hml, hown, hts⟩ (c_X0_isThere l G w j (cst j) (cpl j) (csp j) (cnp j) (cstop j) u 1 x_6 x_7 x_8 x_9 (by omega) (gv20) (gv3) (p3) (by omega)) ⟨va_cnB 2 hts gX8_addMeetingAtBend_X0_isThere_n140 rfl rfl rfl (hK.nm 16 rfl) (hts (.initialized RX0) (by decide +kernel)) (by decide +kernel) ⟨Nat.le_of_ble_eq_true rfl, Nat.le_of_ble_eq_true rfl⟩, hts (.instanceMethod yX0_isThere) (by decide +kernel), hts (.selects RX0 yX0_isThere yX0_isThere) (by decide +kernel)⟩ (f_preV hP hK (19 + 4 * j) (by omega) 0 x_6 rfl) rfl rfl hl.1 rfl (lv_room (Nat.le_of_ble_eq_true rfl)) dX8_addMeetingAtBend_30 ⟨Nat.zero_le _, Nat.zero_le _⟩)) (fun r_10 hr_10 => ?_)
    rw [show r_10 = iN (if ((cst j) 0 * 1 ≤ u ∧ ((cstop j) = -1 ∨ u < (cstop j) * 1)) then 1 else 0) from hr_10]
    refine n_ifb_eq (tgt := 77) hx hb dX8_addMeetingAtBend_33 (by decide) (fun c_33 => ?_) (fun c_33 => ?_)
    · exact r_v hx hb hr dX8_addMeetingAtBend_77 hlocks hP hS (⟨mz, pa, ts, os, rs, (fun k _ _ _ _ => rfl), e1, e2, e3, e4, (by rw [show abE (cst, cpl, csp, cnp, cstop) u i j ga = none from if_neg (fun z => c_33 (of_decide_eq_true z.2))]; exact p5)⟩)
    · refine lv_aload hx hb dX8_addMeetingAtBend_36 (lv_at hl 0 rfl) ?_
      refine lv_iload_n hx hb dX8_addMeetingAtBend_38 rfl (lv_at hl 5 rfl) ?_
      refine vp_callSi (va_Run.run (va_runVN (As := [.int (iN u)]) (rest := []) ⟨hx, hb, hml, hown, hts⟩ (c_X0_speedAt l G w j (cst j) (cpl j) (csp j) (cnp j) (cstop j) u x_6 x_7 x_8 x_9 (by omega) (gv1) (gv2) (p3)) ⟨va_cnB 1 hts gX8_addMeetingAtBend_X0_speedAt_n277 rfl rfl rfl (hK.nm 34 rfl) (hts (.initialized RX0) (by decide +kernel)) (by decide +kernel) ⟨Nat.le_of_ble_eq_true rfl, Nat.le_of_ble_eq_true rfl⟩, hts (.instanceMethod yX0_speedAt) (by decide +kernel), hts (.selects RX0 yX0_speedAt yX0_speedAt) (by decide +kernel)⟩ (f_preV hP hK (19 + 4 * j) (by omega) 0 x_6 rfl) rfl rfl hl.1 rfl (lv_room (Nat.le_of_ble_eq_true rfl)) dX8_addMeetingAtBend_39 ⟨Nat.zero_le _, Nat.zero_le _⟩)) (fun r_11 hr_11 => ?_)
      rw [show r_11 = iN (spAt (cst j) (csp j) (cnp j) u) from hr_11]
      refine lv_aload hx hb dX8_addMeetingAtBend_42 (lv_at hl 1 rfl) ?_
      refine lv_iload_n hx hb dX8_addMeetingAtBend_44 rfl (lv_at hl 5 rfl) ?_
      refine vp_callSi (va_Run.run (va_runVN (As := [.int (iN u)]) (rest := [.int (iN (spAt (cst j) (csp j) (cnp j) u))]) ⟨hx, hb, hml, hown, hts⟩ (c_X0_speedAt l G w i (cst i) (cpl i) (csp i) (cnp i) (cstop i) u x_1 x_2 x_3 x_4 (by omega) (hv1) (hv2) (p3)) ⟨va_cnB 1 hts gX8_addMeetingAtBend_X0_speedAt_n277 rfl rfl rfl (hK.nm 34 rfl) (hts (.initialized RX0) (by decide +kernel)) (by decide +kernel) ⟨Nat.le_of_ble_eq_true rfl, Nat.le_of_ble_eq_true rfl⟩, hts (.instanceMethod yX0_speedAt) (by decide +kernel), hts (.selects RX0 yX0_speedAt yX0_speedAt) (by decide +kernel)⟩ (f_preV hP hK (19 + 4 * i) (by omega) 0 x_1 rfl) rfl rfl hl.1 rfl (lv_room (Nat.le_of_ble_eq_true rfl)) dX8_addMeetingAtBend_45 ⟨Nat.zero_le _, Nat.zero_le _⟩)) (fun r_12 hr_12 => ?_)
      rw [show r_12 = iN (spAt (cst i) (csp i) (cnp i) u) from hr_12]
      refine n_isub hx hb dX8_addMeetingAtBend_48 ?_
      refine lv_istore (lv' := [(7, .int (iN ((spAt (cst j) (csp j) (cnp j) u) - (spAt (cst i) (csp i) (cnp i) u)))), (6, .ref (gad G (19 + 4 * j))), (5, .ref (gad G (19 + 4 * i))), (0, .ref (gad G 0)), (1, .int (iN ((i : Nat) : Int))), (2, .int (iN ((j : Nat) : Int))), (3, .int (iN u)), (4, .int (iN ga))]) hx hb dX8_addMeetingAtBend_49 hl (by decide) rfl (fun ls hl => ?_)
      refine lv_aload_n hx hb dX8_addMeetingAtBend_51 rfl (lv_at hl 3 rfl) ?_
      refine f_get (C := RX8) (T := TX8) (N := 11) hx hb hts (by decide +kernel) hown hK hP 0 (by omega) e0 rfl 7 (by decide) (hts (.fieldLink RX8 37 "KeptMoving" "meetings" "LKeptMoving$Meetings;") (by decide +kernel)) (fun _ h9 => h9) rfl dX8_addMeetingAtBend_52 ?_
      refine lv_iload_n hx hb dX8_addMeetingAtBend_55 rfl (lv_at hl 6 rfl) ?_
      refine vp_callSl (va_Run.run (va_runSN (As := [.int (iN u)]) (rest := [.ref (gad G 10)]) ⟨hx, hb, hml, hown, hts⟩ (c_X2_whole l u (by omega)) ⟨va_cnB 1 hts gX8_addMeetingAtBend_X2_whole_n263 rfl rfl rfl (hK.nm 30 rfl) (hts (.initialized RX2) (by decide +kernel)) (by decide +kernel) ⟨Nat.le_of_ble_eq_true rfl, Nat.le_of_ble_eq_true rfl⟩, hts (.static yX2_whole) (by decide +kernel), trivial⟩ ⟨fun _ _ _ _ q => q, fun _ _ _ => rfl⟩ rfl rfl hl.1 rfl (lv_room (Nat.le_of_ble_eq_true rfl)) dX8_addMeetingAtBend_56 ⟨Nat.zero_le _, Nat.zero_le _⟩)) (fun r_13 hr_13 => ?_)
      rw [show r_13 = jN (u * 256 + 1) from hr_13]
      refine lv_iload_n hx hb dX8_addMeetingAtBend_59 rfl (lv_at hl 4 rfl) ?_
      refine lv_iload_n hx hb dX8_addMeetingAtBend_60 rfl (lv_at hl 5 rfl) ?_
      refine lv_iload hx hb dX8_addMeetingAtBend_61 (lv_at hl 7 rfl) ?_
      refine lv_iload hx hb dX8_addMeetingAtBend_63 (lv_at hl 0 rfl) ?_
      have hs1 := spAt_rng (n := u) hVi
      have hs2 := spAt_rng (n := u) hVj
      have hm := mb3 (a := ga) (b := spAt (cst j) (csp j) (cnp j) u - spAt (cst i) (csp i) (cnp i) u) (A := 200) (B := 100) (by omega) (by omega)
      refine n_imul hx hb dX8_addMeetingAtBend_65 ?_
      refine n_if_le (tgt := 73) hx hb dX8_addMeetingAtBend_66 (by decide) (by omega) (by omega) (fun c_66 => ?_) (fun c_66 => ?_)
      · refine n_iconst hx hb dX8_addMeetingAtBend_73 ?_
        refine f_callv (va_Run.run (va_runVN (As := [.long (jN (u * 256 + 1)), .int (iN ((i : Nat) : Int)), .int (iN ((j : Nat) : Int)), .int (iN 0)]) (rest := []) ⟨hx, hb, hml, hown, hts⟩ (c_X4_insert l G w mz pa ts os rs (u * 256 + 1) ((i : Nat) : Int) ((j : Nat) : Int) 0 e1 e2 e3 e4 (by omega) (isM_bd p5) (by omega) (by omega)) ⟨va_cnB 4 hts gX8_addMeetingAtBend_X4_insert_n271 rfl rfl rfl (hK.nm 32 rfl) (hts (.initialized RX4) (by decide +kernel)) (by decide +kernel) ⟨Nat.le_of_ble_eq_true rfl, Nat.le_of_ble_eq_true rfl⟩, hts (.instanceMethod yX4_insert) (by decide +kernel), hts (.selects RX4 yX4_insert yX4_insert) (by decide +kernel)⟩ (f_preV hP hK 10 (by omega) 3 e1 rfl) rfl rfl hl.1 rfl (lv_room (Nat.le_of_ble_eq_true rfl)) dX8_addMeetingAtBend_74 ⟨Nat.zero_le _, Nat.zero_le _⟩)) hS hAA (fun w_14 H locs q_15 hP hS => ?_)
        obtain ⟨fr_16, e_17, e_18, e_19, e_20⟩ := q_15
        have e_21 : w_14 0 = .inr (7, [.ref (gad G 1), .int (iN ((came : Nat) : Int)), .int (iN ((now : Nat) : Int)), .ref (gad G 2), .ref (gad G 5), .int (iN ((bc : Nat) : Int)), .ref (gad G 6), .ref (gad G 10), .ref (gad G 14), .ref (gad G 15), .ref (gad G 18)]) := (fr_16 0 (by omega) (by omega) (by omega) (by omega)).trans e0
        have e_22 : w_14 10 = .inr (3, [.ref (gad G 11), .ref (gad G 12), .ref (gad G 13), .int (iN ((mz + 1 : Nat) : Int)), .int (iN (pa + 0))]) := e_17
        have e_23 : w_14 11 = .inl (gJ G, 45, .inr (.inl (aJ (insF ts (spotP (fun k => decide ((u * 256 + 1) / 256 * (ts k % 256) < ts k / 256 * ((u * 256 + 1) % 256))) mz) mz (u * 256 + 1))))) := e_18
        have e_24 : w_14 12 = .inl (gI G, 45, .inl (aN (insF os (spotP (fun k => decide ((u * 256 + 1) / 256 * (ts k % 256) < ts k / 256 * ((u * 256 + 1) % 256))) mz) mz ((i : Nat) : Int)))) := e_19
        have e_25 : w_14 13 = .inl (gI G, 45, .inl (aN (insF rs (spotP (fun k => decide ((u * 256 + 1) / 256 * (ts k % 256) < ts k / 256 * ((u * 256 + 1) % 256))) mz) mz ((j : Nat) : Int)))) := e_20
        have hC_26 : FAM G w_14 cst cpl csp cnp cstop := hC.keep (fun k h1 h2 => fr_16 k (by omega) (by omega) (by omega) (by omega))
        exact r_v hx hb hr dX8_addMeetingAtBend_77 hlocks hP hS (⟨mz + 1, pa + 0, insF ts (spotP (fun k => decide ((u * 256 + 1) / 256 * (ts k % 256) < ts k / 256 * ((u * 256 + 1) % 256))) mz) mz (u * 256 + 1), insF os (spotP (fun k => decide ((u * 256 + 1) / 256 * (ts k % 256) < ts k / 256 * ((u * 256 + 1) % 256))) mz) mz ((i : Nat) : Int), insF rs (spotP (fun k => decide ((u * 256 + 1) / 256 * (ts k % 256) < ts k / 256 * ((u * 256 + 1) % 256))) mz) mz ((j : Nat) : Int), (fun k h0 h1 h2 h3 => fr_16 k (by omega) (by omega) (by omega) (by omega)), e_22, e_23, e_24, e_25, (by rw [show abE (cst, cpl, csp, cnp, cstop) u i j ga = some (u * 256 + 1, i, j, decide (0 < ga * (spS (cst, cpl, csp, cnp, cstop) u j - spS (cst, cpl, csp, cnp, cstop) u i))) from if_pos ⟨decide_eq_true c_23, decide_eq_true c_33⟩]; exact isM_ins p5 _ (by dsimp only; omega) rfl rfl rfl ((if_neg (fun z => absurd (of_decide_eq_true z) (Int.not_lt.mpr c_66))).symm))⟩)
      · refine n_iconst hx hb dX8_addMeetingAtBend_69 ?_
        refine lv_goto (tgt := 74) hx hb dX8_addMeetingAtBend_70 (by decide) ?_
        refine f_callv (va_Run.run (va_runVN (As := [.long (jN (u * 256 + 1)), .int (iN ((i : Nat) : Int)), .int (iN ((j : Nat) : Int)), .int (iN 1)]) (rest := []) ⟨hx, hb, hml, hown, hts⟩ (c_X4_insert l G w mz pa ts os rs (u * 256 + 1) ((i : Nat) : Int) ((j : Nat) : Int) 1 e1 e2 e3 e4 (by omega) (isM_bd p5) (by omega) (by omega)) ⟨va_cnB 4 hts gX8_addMeetingAtBend_X4_insert_n271 rfl rfl rfl (hK.nm 32 rfl) (hts (.initialized RX4) (by decide +kernel)) (by decide +kernel) ⟨Nat.le_of_ble_eq_true rfl, Nat.le_of_ble_eq_true rfl⟩, hts (.instanceMethod yX4_insert) (by decide +kernel), hts (.selects RX4 yX4_insert yX4_insert) (by decide +kernel)⟩ (f_preV hP hK 10 (by omega) 3 e1 rfl) rfl rfl hl.1 rfl (lv_room (Nat.le_of_ble_eq_true rfl)) dX8_addMeetingAtBend_74 ⟨Nat.zero_le _, Nat.zero_le _⟩)) hS hAA (fun w_27 H locs q_28 hP hS => ?_)
        obtain ⟨fr_29, e_30, e_31, e_32, e_33⟩ := q_28
        have e_34 : w_27 0 = .inr (7, [.ref (gad G 1), .int (iN ((came : Nat) : Int)), .int (iN ((now : Nat) : Int)), .ref (gad G 2), .ref (gad G 5), .int (iN ((bc : Nat) : Int)), .ref (gad G 6), .ref (gad G 10), .ref (gad G 14), .ref (gad G 15), .ref (gad G 18)]) := (fr_29 0 (by omega) (by omega) (by omega) (by omega)).trans e0
        have e_35 : w_27 10 = .inr (3, [.ref (gad G 11), .ref (gad G 12), .ref (gad G 13), .int (iN ((mz + 1 : Nat) : Int)), .int (iN (pa + 1))]) := e_30
        have e_36 : w_27 11 = .inl (gJ G, 45, .inr (.inl (aJ (insF ts (spotP (fun k => decide ((u * 256 + 1) / 256 * (ts k % 256) < ts k / 256 * ((u * 256 + 1) % 256))) mz) mz (u * 256 + 1))))) := e_31
        have e_37 : w_27 12 = .inl (gI G, 45, .inl (aN (insF os (spotP (fun k => decide ((u * 256 + 1) / 256 * (ts k % 256) < ts k / 256 * ((u * 256 + 1) % 256))) mz) mz ((i : Nat) : Int)))) := e_32
        have e_38 : w_27 13 = .inl (gI G, 45, .inl (aN (insF rs (spotP (fun k => decide ((u * 256 + 1) / 256 * (ts k % 256) < ts k / 256 * ((u * 256 + 1) % 256))) mz) mz ((j : Nat) : Int)))) := e_33
        have hC_39 : FAM G w_27 cst cpl csp cnp cstop := hC.keep (fun k h1 h2 => fr_29 k (by omega) (by omega) (by omega) (by omega))
        exact r_v hx hb hr dX8_addMeetingAtBend_77 hlocks hP hS (⟨mz + 1, pa + 1, insF ts (spotP (fun k => decide ((u * 256 + 1) / 256 * (ts k % 256) < ts k / 256 * ((u * 256 + 1) % 256))) mz) mz (u * 256 + 1), insF os (spotP (fun k => decide ((u * 256 + 1) / 256 * (ts k % 256) < ts k / 256 * ((u * 256 + 1) % 256))) mz) mz ((i : Nat) : Int), insF rs (spotP (fun k => decide ((u * 256 + 1) / 256 * (ts k % 256) < ts k / 256 * ((u * 256 + 1) % 256))) mz) mz ((j : Nat) : Int), (fun k h0 h1 h2 h3 => fr_29 k (by omega) (by omega) (by omega) (by omega)), e_35, e_36, e_37, e_38, (by rw [show abE (cst, cpl, csp, cnp, cstop) u i j ga = some (u * 256 + 1, i, j, decide (0 < ga * (spS (cst, cpl, csp, cnp, cstop) u j - spS (cst, cpl, csp, cnp, cstop) u i))) from if_pos ⟨decide_eq_true c_23, decide_eq_true c_33⟩]; exact isM_ins p5 _ (by dsimp only; omega) rfl rfl rfl ((if_pos (decide_eq_true (Int.not_le.mp c_66))).symm))⟩)

set_option maxHeartbeats 4000000 in
set_option maxRecDepth 100000 in
theorem c_X8_addMeeting (l : Launch) (G : GE) (w : WF) (came : Nat) (now : Nat) (bc : Nat) (sz0 : Nat) (th : Nat → Int) (ps : Nat → Int) (vs : Nat → Int) (L : List EV) (mz : Nat) (pa : Int) (ts : Nat → Int) (os : Nat → Int) (rs : Nat → Int) (i : Nat) (j : Nat) (f : Int) (u : Int) (cst : Nat → Nat → Int) (cpl : Nat → Nat → Int) (csp : Nat → Nat → Int) (cnp : Nat → Nat) (cstop : Nat → Int) (e0 : w 0 = .inr (7, [.ref (gad G 1), .int (iN ((came : Nat) : Int)), .int (iN ((now : Nat) : Int)), .ref (gad G 2), .ref (gad G 5), .int (iN ((bc : Nat) : Int)), .ref (gad G 6), .ref (gad G 10), .ref (gad G 14), .ref (gad G 15), .ref (gad G 18)])) (e1 : w 6 = .inr (4, [.ref (gad G 7), .ref (gad G 8), .ref (gad G 9), .int (iN ((sz0 : Nat) : Int))])) (e2 : w 7 = .inl (gZ G, 10, .inl (aN th))) (e3 : w 8 = .inl (gI G, 10, .inl (aN ps))) (e4 : w 9 = .inl (gI G, 10, .inl (aN vs))) (e5 : w 10 = .inr (3, [.ref (gad G 11), .ref (gad G 12), .ref (gad G 13), .int (iN ((mz : Nat) : Int)), .int (iN pa)])) (e6 : w 11 = .inl (gJ G, 45, .inr (.inl (aJ ts)))) (e7 : w 12 = .inl (gI G, 45, .inl (aN os))) (e8 : w 13 = .inl (gI G, 45, .inl (aN rs))) (hC : FAM G w cst cpl csp cnp cstop) (p0 : OKS came cst cpl csp cnp cstop) (p1 : i < came) (p2 : j < came) (p3 : 0 ≤ f ∧ f ≤ 600) (p4 : 0 ≤ u ∧ u ≤ 100000) (p5 : -200000 ≤ ps j - ps i ∧ ps j - ps i ≤ 200000) (p6 : -200 ≤ vs j - vs i ∧ vs j - vs i ≤ 200) (p7 : isM L mz pa ts os rs) (p8 : L.length < 45) : Met l yX8_addMeeting wsX8_addMeeting ({ frames := 4, cells := 0, slots := 0, locals := 99 }) (PcG G w [.ref (gad G 0), .int (iN ((i : Nat) : Int)), .int (iN ((j : Nat) : Int)), .int (iN f), .int (iN u)]) (QV G (fun w1 => ∃ (mz2 : Nat) (pa2 : Int) (ts2 : Nat → Int) (os2 : Nat → Int) (rs2 : Nat → Int), (∀ k : Nat, k ≠ 10 → k ≠ 11 → k ≠ 12 → k ≠ 13 → w1 k = w k) ∧ w1 10 = .inr (3, [.ref (gad G 11), .ref (gad G 12), .ref (gad G 13), .int (iN ((mz2 : Nat) : Int)), .int (iN pa2)]) ∧ w1 11 = .inl (gJ G, 45, .inr (.inl (aJ ts2))) ∧ w1 12 = .inl (gI G, 45, .inl (aN os2)) ∧ w1 13 = .inl (gI G, 45, .inl (aN rs2)) ∧ (isM (stepM (evC (cst, cpl, csp, cnp, cstop) f u i j (ps j - ps i) (vs j - vs i)) L) mz2 pa2 ts2 os2 rs2))) 0 0 (AA G) := by
  refine Met.ofW (cc := cX8_addMeeting) (maxL := 11) (ret := none) (by decide) rfl ?_
  intro p e s m args below meth c s₁ B hml hv
  obtain ⟨rfl, hP, hK⟩ := hv
  have hx := B.exec
  have hb := B.bytes
  have hr := B.returns
  have hts := atoms_spec (ws := wsX8_addMeeting) B.pre
  have hown : s.vm.findClass RX8 = some m.cls := findClass_of_methodNamed B.named
  have hlocks := B.notSynchronized
  have hS : va_S (AA G) s.heap s.heap [] := va_S.rf
  have hAA : ∀ q, AA G q → AA G q := fun _ h => h
  have hl := lv_entry ([.ref (gad G 0), .int (iN ((i : Nat) : Int)), .int (iN ((j : Nat) : Int)), .int (iN f), .int (iN u)]) (n := 11) (Nat.le_of_ble_eq_true rfl)
  rw [lg_entry_eq]
  generalize (lg_sl ([.ref (gad G 0), .int (iN ((i : Nat) : Int)), .int (iN ((j : Nat) : Int)), .int (iN f), .int (iN u)]) ++ List.replicate (11 - (lg_sl ([.ref (gad G 0), .int (iN ((i : Nat) : Int)), .int (iN ((j : Nat) : Int)), .int (iN f), .int (iN u)])).length) Slot.unset).toArray = ls at hl ⊢
  have hl : lv_has ls 11 [(0, .ref (gad G 0)), (1, .int (iN ((i : Nat) : Int))), (2, .int (iN ((j : Nat) : Int))), (3, .int (iN f)), (4, .int (iN u))] := hl
  have hc10 : came ≤ 10 := p0.1
  have hmz : mz = L.length := p7.1
  refine lv_aload_n hx hb dX8_addMeeting_0 rfl (lv_at hl 0 rfl) ?_
  refine f_get (C := RX8) (T := TX8) (N := 11) hx hb hts (by decide +kernel) hown hK hP 0 (by omega) e0 rfl 6 (by decide) (hts (.fieldLink RX8 30 "KeptMoving" "scene" "LKeptMoving$Scene;") (by decide +kernel)) (fun _ h9 => h9) rfl dX8_addMeeting_1 ?_
  refine lv_iload_n hx hb dX8_addMeeting_4 rfl (lv_at hl 1 rfl) ?_
  refine lv_iload_n hx hb dX8_addMeeting_5 rfl (lv_at hl 2 rfl) ?_
  refine vp_callSi (va_Run.run (va_runVN (As := [.int (iN ((i : Nat) : Int)), .int (iN ((j : Nat) : Int))]) (rest := []) ⟨hx, hb, hml, hown, hts⟩ (c_X5_gap l G w sz0 th ps vs i j e1 e2 e3 e4 (by omega) (by omega)) ⟨va_cnB 2 hts gX8_addMeeting_X5_gap_n250 rfl rfl rfl (hK.nm 27 rfl) (hts (.initialized RX5) (by decide +kernel)) (by decide +kernel) ⟨Nat.le_of_ble_eq_true rfl, Nat.le_of_ble_eq_true rfl⟩, hts (.instanceMethod yX5_gap) (by decide +kernel), hts (.selects RX5 yX5_gap yX5_gap) (by decide +kernel)⟩ (f_preV hP hK 6 (by omega) 4 e1 rfl) rfl rfl hl.1 rfl (lv_room (Nat.le_of_ble_eq_true rfl)) dX8_addMeeting_6 ⟨Nat.zero_le _, Nat.zero_le _⟩)) (fun r_1 hr_1 => ?_)
  rw [show r_1 = iN (ps j - ps i) from hr_1]
  refine lv_istore (lv' := [(5, .int (iN (ps j - ps i))), (0, .ref (gad G 0)), (1, .int (iN ((i : Nat) : Int))), (2, .int (iN ((j : Nat) : Int))), (3, .int (iN f)), (4, .int (iN u))]) hx hb dX8_addMeeting_9 hl (by decide) rfl (fun ls hl => ?_)
  refine lv_aload_n hx hb dX8_addMeeting_11 rfl (lv_at hl 1 rfl) ?_
  refine f_get (C := RX8) (T := TX8) (N := 11) hx hb hts (by decide +kernel) hown hK hP 0 (by omega) e0 rfl 6 (by decide) (hts (.fieldLink RX8 30 "KeptMoving" "scene" "LKeptMoving$Scene;") (by decide +kernel)) (fun _ h9 => h9) rfl dX8_addMeeting_12 ?_
  refine lv_iload_n hx hb dX8_addMeeting_15 rfl (lv_at hl 2 rfl) ?_
  refine lv_iload_n hx hb dX8_addMeeting_16 rfl (lv_at hl 3 rfl) ?_
  refine vp_callSi (va_Run.run (va_runVN (As := [.int (iN ((i : Nat) : Int)), .int (iN ((j : Nat) : Int))]) (rest := []) ⟨hx, hb, hml, hown, hts⟩ (c_X5_growth l G w sz0 th ps vs i j e1 e2 e3 e4 (by omega) (by omega)) ⟨va_cnB 2 hts gX8_addMeeting_X5_growth_n253 rfl rfl rfl (hK.nm 28 rfl) (hts (.initialized RX5) (by decide +kernel)) (by decide +kernel) ⟨Nat.le_of_ble_eq_true rfl, Nat.le_of_ble_eq_true rfl⟩, hts (.instanceMethod yX5_growth) (by decide +kernel), hts (.selects RX5 yX5_growth yX5_growth) (by decide +kernel)⟩ (f_preV hP hK 6 (by omega) 4 e1 rfl) rfl rfl hl.1 rfl (lv_room (Nat.le_of_ble_eq_true rfl)) dX8_addMeeting_17 ⟨Nat.zero_le _, Nat.zero_le _⟩)) (fun r_2 hr_2 => ?_)
  rw [show r_2 = iN (vs j - vs i) from hr_2]
  refine lv_istore (lv' := [(6, .int (iN (vs j - vs i))), (5, .int (iN (ps j - ps i))), (0, .ref (gad G 0)), (1, .int (iN ((i : Nat) : Int))), (2, .int (iN ((j : Nat) : Int))), (3, .int (iN f)), (4, .int (iN u))]) hx hb dX8_addMeeting_20 hl (by decide) rfl (fun ls hl => ?_)
  have K55 : ∀ (ls : Array Slot), (ps j - ps i < 0 ∧ 0 < vs j - vs i ∨ 0 < ps j - ps i ∧ vs j - vs i < 0) → lv_has ls 11 [(0, .ref (gad G 0)), (1, .int (iN ((i : Nat) : Int))), (2, .int (iN ((j : Nat) : Int))), (3, .int (iN f)), (4, .int (iN u)), (5, .int (iN (ps j - ps i))), (6, .int (iN (vs j - vs i)))] → W p l e (headSpec wsX8_addMeeting ({ frames := 4, cells := 0, slots := 0, locals := 99 })).room s m (([.ref (gad G 0), .int (iN ((i : Nat) : Int)), .int (iN ((j : Nat) : Int)), .int (iN f), .int (iN u)] : List Value).toArray) below meth c s.heap [] 0 0 (MQ below (QV G (fun w1 => ∃ (mz2 : Nat) (pa2 : Int) (ts2 : Nat → Int) (os2 : Nat → Int) (rs2 : Nat → Int), (∀ k : Nat, k ≠ 10 → k ≠ 11 → k ≠ 12 → k ≠ 13 → w1 k = w k) ∧ w1 10 = .inr (3, [.ref (gad G 11), .ref (gad G 12), .ref (gad G 13), .int (iN ((mz2 : Nat) : Int)), .int (iN pa2)]) ∧ w1 11 = .inl (gJ G, 45, .inr (.inl (aJ ts2))) ∧ w1 12 = .inl (gI G, 45, .inl (aN os2)) ∧ w1 13 = .inl (gI G, 45, .inl (aN rs2)) ∧ (isM (stepM (evC (cst, cpl, csp, cnp, cstop) f u i j (ps j - ps i) (vs j - vs i)) L) mz2 pa2 ts2 os2 rs2))) (([.ref (gad G 0), .int (iN ((i : Nat) : Int)), .int (iN ((j : Nat) : Int)), .int (iN f), .int (iN u)] : List Value).toArray) s 0 0 (AA G)) (F0 m 55 ls []) := by
    intro ls i55_0 hl
    refine lv_iload_n hx hb dX8_addMeeting_55 rfl (lv_at hl 3 rfl) ?_
    refine lv_iload hx hb dX8_addMeeting_56 (lv_at hl 5 rfl) ?_
    refine n_mabs hx hb (by rw [hml]; exact hl.1.symm) hown (hts (.methodLink RX8 256 Lib.Math.abs.name) (by decide +kernel)) (hts (.static Lib.Math.abs.name) (by decide +kernel)) (hts (.initialized "java/lang/Math") (by decide +kernel)) (hts (.code Lib.Math.abs.name Lib.Math.abs.code 1 (some .int)) (by decide +kernel)) (Nat.le_of_ble_eq_true rfl) (Nat.le_of_ble_eq_true rfl) (Nat.zero_le _) (Nat.zero_le _) (by omega) (by omega) dX8_addMeeting_58 ?_
    refine lv_iload hx hb dX8_addMeeting_61 (lv_at hl 6 rfl) ?_
    refine n_mabs hx hb (by rw [hml]; exact hl.1.symm) hown (hts (.methodLink RX8 256 Lib.Math.abs.name) (by decide +kernel)) (hts (.static Lib.Math.abs.name) (by decide +kernel)) (hts (.initialized "java/lang/Math") (by decide +kernel)) (hts (.code Lib.Math.abs.name Lib.Math.abs.code 1 (some .int)) (by decide +kernel)) (Nat.le_of_ble_eq_true rfl) (Nat.le_of_ble_eq_true rfl) (Nat.zero_le _) (Nat.zero_le _) (by omega) (by omega) dX8_addMeeting_63 ?_
    have hm := mb3 (a := f) (b := (((vs j - vs i).natAbs : Nat) : Int)) (A := 600) (B := 200) (by omega) (by omega)
    have hfr : -30000000000 ≤ frac (f * (((vs j - vs i).natAbs : Nat) : Int) + (((ps j - ps i).natAbs : Nat) : Int)) (((vs j - vs i).natAbs : Nat) : Int) ∧ frac (f * (((vs j - vs i).natAbs : Nat) : Int) + (((ps j - ps i).natAbs : Nat) : Int)) (((vs j - vs i).natAbs : Nat) : Int) ≤ 30000000000 := frac_rng (by omega) (by omega)
    refine vp_callSl (va_Run.run (va_runSN (As := [.int (iN f), .int (iN ((Int.natAbs (ps j - ps i) : Nat) : Int)), .int (iN ((Int.natAbs (vs j - vs i) : Nat) : Int))]) (rest := []) ⟨hx, hb, hml, hown, hts⟩ (c_X2_past l f ((Int.natAbs (ps j - ps i) : Nat) : Int) ((Int.natAbs (vs j - vs i) : Nat) : Int) (by omega) (by omega)) ⟨va_cnB 3 hts gX8_addMeeting_X2_past_n259 rfl rfl rfl (hK.nm 29 rfl) (hts (.initialized RX2) (by decide +kernel)) (by decide +kernel) ⟨Nat.le_of_ble_eq_true rfl, Nat.le_of_ble_eq_true rfl⟩, hts (.static yX2_past) (by decide +kernel), trivial⟩ ⟨fun _ _ _ _ q => q, fun _ _ _ => rfl⟩ rfl rfl hl.1 rfl (lv_room (Nat.le_of_ble_eq_true rfl)) dX8_addMeeting_66 ⟨Nat.zero_le _, Nat.zero_le _⟩)) (fun r_3 hr_3 => ?_)
    rw [show r_3 = jN (frac (f * ((Int.natAbs (vs j - vs i) : Nat) : Int) + ((Int.natAbs (ps j - ps i) : Nat) : Int)) ((Int.natAbs (vs j - vs i) : Nat) : Int)) from hr_3]
    refine lv_lstore (lv' := [(8, .long (jN (frac (f * ((Int.natAbs (vs j - vs i) : Nat) : Int) + ((Int.natAbs (ps j - ps i) : Nat) : Int)) ((Int.natAbs (vs j - vs i) : Nat) : Int)))), (0, .ref (gad G 0)), (1, .int (iN ((i : Nat) : Int))), (2, .int (iN ((j : Nat) : Int))), (3, .int (iN f)), (4, .int (iN u)), (5, .int (iN (ps j - ps i))), (6, .int (iN (vs j - vs i)))]) hx hb dX8_addMeeting_69 hl (by decide) rfl (fun ls hl => ?_)
    refine lv_lload hx hb dX8_addMeeting_71 (lv_at hl 0 rfl) ?_
    refine lv_iload hx hb dX8_addMeeting_73 (lv_at hl 5 rfl) ?_
    refine vp_callSl (va_Run.run (va_runSN (As := [.int (iN u)]) (rest := [.long (jN (frac (f * ((Int.natAbs (vs j - vs i) : Nat) : Int) + ((Int.natAbs (ps j - ps i) : Nat) : Int)) ((Int.natAbs (vs j - vs i) : Nat) : Int)))]) ⟨hx, hb, hml, hown, hts⟩ (c_X2_whole l u (by omega)) ⟨va_cnB 1 hts gX8_addMeeting_X2_whole_n263 rfl rfl rfl (hK.nm 30 rfl) (hts (.initialized RX2) (by decide +kernel)) (by decide +kernel) ⟨Nat.le_of_ble_eq_true rfl, Nat.le_of_ble_eq_true rfl⟩, hts (.static yX2_whole) (by decide +kernel), trivial⟩ ⟨fun _ _ _ _ q => q, fun _ _ _ => rfl⟩ rfl rfl hl.1 rfl (lv_room (Nat.le_of_ble_eq_true rfl)) dX8_addMeeting_75 ⟨Nat.zero_le _, Nat.zero_le _⟩)) (fun r_4 hr_4 => ?_)
    rw [show r_4 = jN (u * 256 + 1) from hr_4]
    refine vp_callSi (va_Run.run (va_runSN (As := [.long (jN (frac (f * ((Int.natAbs (vs j - vs i) : Nat) : Int) + ((Int.natAbs (ps j - ps i) : Nat) : Int)) ((Int.natAbs (vs j - vs i) : Nat) : Int))), .long (jN (u * 256 + 1))]) (rest := []) ⟨hx, hb, hml, hown, hts⟩ (c_X2_compare l (frac (f * ((Int.natAbs (vs j - vs i) : Nat) : Int) + ((Int.natAbs (ps j - ps i) : Nat) : Int)) ((Int.natAbs (vs j - vs i) : Nat) : Int)) (u * 256 + 1) (hfr) (by omega)) ⟨va_cnB 2 hts gX8_addMeeting_X2_compare_n267 rfl rfl rfl (hK.nm 31 rfl) (hts (.initialized RX2) (by decide +kernel)) (by decide +kernel) ⟨Nat.le_of_ble_eq_true rfl, Nat.le_of_ble_eq_true rfl⟩, hts (.static yX2_compare) (by decide +kernel), trivial⟩ ⟨fun _ _ _ _ q => q, fun _ _ _ => rfl⟩ rfl rfl hl.1 rfl (lv_room (Nat.le_of_ble_eq_true rfl)) dX8_addMeeting_78 ⟨Nat.zero_le _, Nat.zero_le _⟩)) (fun r_5 hr_5 => ?_)
    rw [show r_5 = iN (cmpI ((frac (f * ((Int.natAbs (vs j - vs i) : Nat) : Int) + ((Int.natAbs (ps j - ps i) : Nat) : Int)) ((Int.natAbs (vs j - vs i) : Nat) : Int)) / 256 * ((u * 256 + 1) % 256)) ((u * 256 + 1) / 256 * ((frac (f * ((Int.natAbs (vs j - vs i) : Nat) : Int) + ((Int.natAbs (ps j - ps i) : Nat) : Int)) ((Int.natAbs (vs j - vs i) : Nat) : Int)) % 256))) from hr_5]
    refine lv_istore (lv' := [(10, .int (iN (cmpI ((frac (f * ((Int.natAbs (vs j - vs i) : Nat) : Int) + ((Int.natAbs (ps j - ps i) : Nat) : Int)) ((Int.natAbs (vs j - vs i) : Nat) : Int)) / 256 * ((u * 256 + 1) % 256)) ((u * 256 + 1) / 256 * ((frac (f * ((Int.natAbs (vs j - vs i) : Nat) : Int) + ((Int.natAbs (ps j - ps i) : Nat) : Int)) ((Int.natAbs (vs j - vs i) : Nat) : Int)) % 256))))), (8, .long (jN (frac (f * ((Int.natAbs (vs j - vs i) : Nat) : Int) + ((Int.natAbs (ps j - ps i) : Nat) : Int)) ((Int.natAbs (vs j - vs i) : Nat) : Int)))), (0, .ref (gad G 0)), (1, .int (iN ((i : Nat) : Int))), (2, .int (iN ((j : Nat) : Int))), (3, .int (iN f)), (4, .int (iN u)), (5, .int (iN (ps j - ps i))), (6, .int (iN (vs j - vs i)))]) hx hb dX8_addMeeting_81 hl (by decide) rfl (fun ls hl => ?_)
    refine lv_iload hx hb dX8_addMeeting_83 (lv_at hl 0 rfl) ?_
    refine n_ifc_ge (tgt := 103) hx hb dX8_addMeeting_85 (by decide) (fun c_85 => ?_) (fun c_85 => ?_)
    · refine lv_iload hx hb dX8_addMeeting_103 (lv_at hl 0 rfl) ?_
      refine n_ifc_ne (tgt := 118) hx hb dX8_addMeeting_105 (by decide) (fun c_105 => ?_) (fun c_105 => ?_)
      · exact r_v hx hb hr dX8_addMeeting_118 hlocks hP hS (⟨mz, pa, ts, os, rs, (fun k _ _ _ _ => rfl), e5, e6, e7, e8, (by unfold evC; rw [if_pos i55_0, if_neg (Int.not_lt.mpr c_85), if_neg c_105]; exact p7)⟩)
      · refine lv_aload_n hx hb dX8_addMeeting_108 rfl (lv_at hl 2 rfl) ?_
        refine lv_iload_n hx hb dX8_addMeeting_109 rfl (lv_at hl 3 rfl) ?_
        refine lv_iload_n hx hb dX8_addMeeting_110 rfl (lv_at hl 4 rfl) ?_
        refine lv_iload hx hb dX8_addMeeting_111 (lv_at hl 6 rfl) ?_
        refine lv_iload hx hb dX8_addMeeting_113 (lv_at hl 8 rfl) ?_
        refine f_callv (W.runV (As := [.int (iN ((i : Nat) : Int)), .int (iN ((j : Nat) : Int)), .int (iN u), .int (iN (vs j - vs i))]) (rest := []) ⟨hx, hb, hml, hown, hts⟩ (c_X8_addMeetingAtBend l G w came now bc L mz pa ts os rs i j u (vs j - vs i) cst cpl csp cnp cstop e0 e5 e6 e7 e8 hC (p0) (p1) (p2) (by omega) (by omega) (p7) (p8)) (cwV 4 hts gX8_addMeeting_X8_addMeetingAtBend rfl rfl rfl (by decide +kernel) ⟨Nat.le_of_ble_eq_true rfl, Nat.le_of_ble_eq_true rfl⟩) (f_preV hP hK 0 (by omega) 7 e0 rfl) rfl rfl hl.1 rfl (lv_room (Nat.le_of_ble_eq_true rfl)) dX8_addMeeting_115 ⟨Nat.zero_le _, Nat.zero_le _⟩) hS hAA (fun w_6 H locs q_7 hP hS => ?_)
        obtain ⟨mz2_8, pa2_9, ts2_10, os2_11, rs2_12, fr_13, e_14, e_15, e_16, e_17, q_18⟩ := q_7
        have e_19 : w_6 0 = .inr (7, [.ref (gad G 1), .int (iN ((came : Nat) : Int)), .int (iN ((now : Nat) : Int)), .ref (gad G 2), .ref (gad G 5), .int (iN ((bc : Nat) : Int)), .ref (gad G 6), .ref (gad G 10), .ref (gad G 14), .ref (gad G 15), .ref (gad G 18)]) := (fr_13 0 (by omega) (by omega) (by omega) (by omega)).trans e0
        have e_20 : w_6 6 = .inr (4, [.ref (gad G 7), .ref (gad G 8), .ref (gad G 9), .int (iN ((sz0 : Nat) : Int))]) := (fr_13 6 (by omega) (by omega) (by omega) (by omega)).trans e1
        have e_21 : w_6 7 = .inl (gZ G, 10, .inl (aN th)) := (fr_13 7 (by omega) (by omega) (by omega) (by omega)).trans e2
        have e_22 : w_6 8 = .inl (gI G, 10, .inl (aN ps)) := (fr_13 8 (by omega) (by omega) (by omega) (by omega)).trans e3
        have e_23 : w_6 9 = .inl (gI G, 10, .inl (aN vs)) := (fr_13 9 (by omega) (by omega) (by omega) (by omega)).trans e4
        have e_24 : w_6 10 = .inr (3, [.ref (gad G 11), .ref (gad G 12), .ref (gad G 13), .int (iN ((mz2_8 : Nat) : Int)), .int (iN pa2_9)]) := e_14
        have e_25 : w_6 11 = .inl (gJ G, 45, .inr (.inl (aJ ts2_10))) := e_15
        have e_26 : w_6 12 = .inl (gI G, 45, .inl (aN os2_11)) := e_16
        have e_27 : w_6 13 = .inl (gI G, 45, .inl (aN rs2_12)) := e_17
        have hC_28 : FAM G w_6 cst cpl csp cnp cstop := hC.keep (fun k h1 h2 => fr_13 k (by omega) (by omega) (by omega) (by omega))
        exact r_v hx hb hr dX8_addMeeting_118 hlocks hP hS (⟨mz2_8, pa2_9, ts2_10, os2_11, rs2_12, (fun k h0 h1 h2 h3 => fr_13 k (by omega) (by omega) (by omega) (by omega)), e_24, e_25, e_26, e_27, (by unfold evC; rw [if_pos i55_0, if_neg (Int.not_lt.mpr c_85), if_pos c_105]; exact q_18)⟩)
    · refine lv_aload_n hx hb dX8_addMeeting_88 rfl (lv_at hl 2 rfl) ?_
      refine f_get (C := RX8) (T := TX8) (N := 11) hx hb hts (by decide +kernel) hown hK hP 0 (by omega) e0 rfl 7 (by decide) (hts (.fieldLink RX8 37 "KeptMoving" "meetings" "LKeptMoving$Meetings;") (by decide +kernel)) (fun _ h9 => h9) rfl dX8_addMeeting_89 ?_
      refine lv_lload hx hb dX8_addMeeting_92 (lv_at hl 1 rfl) ?_
      refine lv_iload_n hx hb dX8_addMeeting_94 rfl (lv_at hl 3 rfl) ?_
      refine lv_iload_n hx hb dX8_addMeeting_95 rfl (lv_at hl 4 rfl) ?_
      refine n_iconst hx hb dX8_addMeeting_96 ?_
      refine f_callv (va_Run.run (va_runVN (As := [.long (jN (frac (f * ((Int.natAbs (vs j - vs i) : Nat) : Int) + ((Int.natAbs (ps j - ps i) : Nat) : Int)) ((Int.natAbs (vs j - vs i) : Nat) : Int))), .int (iN ((i : Nat) : Int)), .int (iN ((j : Nat) : Int)), .int (iN 1)]) (rest := []) ⟨hx, hb, hml, hown, hts⟩ (c_X4_insert l G w mz pa ts os rs (frac (f * ((Int.natAbs (vs j - vs i) : Nat) : Int) + ((Int.natAbs (ps j - ps i) : Nat) : Int)) ((Int.natAbs (vs j - vs i) : Nat) : Int)) ((i : Nat) : Int) ((j : Nat) : Int) 1 e5 e6 e7 e8 (by omega) (isM_bd p7) (hfr) (Or.inr rfl)) ⟨va_cnB 4 hts gX8_addMeeting_X4_insert_n271 rfl rfl rfl (hK.nm 32 rfl) (hts (.initialized RX4) (by decide +kernel)) (by decide +kernel) ⟨Nat.le_of_ble_eq_true rfl, Nat.le_of_ble_eq_true rfl⟩, hts (.instanceMethod yX4_insert) (by decide +kernel), hts (.selects RX4 yX4_insert yX4_insert) (by decide +kernel)⟩ (f_preV hP hK 10 (by omega) 3 e5 rfl) rfl rfl hl.1 rfl (lv_room (Nat.le_of_ble_eq_true rfl)) dX8_addMeeting_97 ⟨Nat.zero_le _, Nat.zero_le _⟩)) hS hAA (fun w_29 H locs q_30 hP hS => ?_)
      obtain ⟨fr_31, e_32, e_33, e_34, e_35⟩ := q_30
      have e_36 : w_29 0 = .inr (7, [.ref (gad G 1), .int (iN ((came : Nat) : Int)), .int (iN ((now : Nat) : Int)), .ref (gad G 2), .ref (gad G 5), .int (iN ((bc : Nat) : Int)), .ref (gad G 6), .ref (gad G 10), .ref (gad G 14), .ref (gad G 15), .ref (gad G 18)]) := (fr_31 0 (by omega) (by omega) (by omega) (by omega)).trans e0
      have e_37 : w_29 6 = .inr (4, [.ref (gad G 7), .ref (gad G 8), .ref (gad G 9), .int (iN ((sz0 : Nat) : Int))]) := (fr_31 6 (by omega) (by omega) (by omega) (by omega)).trans e1
      have e_38 : w_29 7 = .inl (gZ G, 10, .inl (aN th)) := (fr_31 7 (by omega) (by omega) (by omega) (by omega)).trans e2
      have e_39 : w_29 8 = .inl (gI G, 10, .inl (aN ps)) := (fr_31 8 (by omega) (by omega) (by omega) (by omega)).trans e3
      have e_40 : w_29 9 = .inl (gI G, 10, .inl (aN vs)) := (fr_31 9 (by omega) (by omega) (by omega) (by omega)).trans e4
      have e_41 : w_29 10 = .inr (3, [.ref (gad G 11), .ref (gad G 12), .ref (gad G 13), .int (iN ((mz + 1 : Nat) : Int)), .int (iN (pa + 1))]) := e_32
      have e_42 : w_29 11 = .inl (gJ G, 45, .inr (.inl (aJ (insF ts (spotP (fun k => decide ((frac (f * ((Int.natAbs (vs j - vs i) : Nat) : Int) + ((Int.natAbs (ps j - ps i) : Nat) : Int)) ((Int.natAbs (vs j - vs i) : Nat) : Int)) / 256 * (ts k % 256) < ts k / 256 * ((frac (f * ((Int.natAbs (vs j - vs i) : Nat) : Int) + ((Int.natAbs (ps j - ps i) : Nat) : Int)) ((Int.natAbs (vs j - vs i) : Nat) : Int)) % 256))) mz) mz (frac (f * ((Int.natAbs (vs j - vs i) : Nat) : Int) + ((Int.natAbs (ps j - ps i) : Nat) : Int)) ((Int.natAbs (vs j - vs i) : Nat) : Int)))))) := e_33
      have e_43 : w_29 12 = .inl (gI G, 45, .inl (aN (insF os (spotP (fun k => decide ((frac (f * ((Int.natAbs (vs j - vs i) : Nat) : Int) + ((Int.natAbs (ps j - ps i) : Nat) : Int)) ((Int.natAbs (vs j - vs i) : Nat) : Int)) / 256 * (ts k % 256) < ts k / 256 * ((frac (f * ((Int.natAbs (vs j - vs i) : Nat) : Int) + ((Int.natAbs (ps j - ps i) : Nat) : Int)) ((Int.natAbs (vs j - vs i) : Nat) : Int)) % 256))) mz) mz ((i : Nat) : Int)))) := e_34
      have e_44 : w_29 13 = .inl (gI G, 45, .inl (aN (insF rs (spotP (fun k => decide ((frac (f * ((Int.natAbs (vs j - vs i) : Nat) : Int) + ((Int.natAbs (ps j - ps i) : Nat) : Int)) ((Int.natAbs (vs j - vs i) : Nat) : Int)) / 256 * (ts k % 256) < ts k / 256 * ((frac (f * ((Int.natAbs (vs j - vs i) : Nat) : Int) + ((Int.natAbs (ps j - ps i) : Nat) : Int)) ((Int.natAbs (vs j - vs i) : Nat) : Int)) % 256))) mz) mz ((j : Nat) : Int)))) := e_35
      have hC_45 : FAM G w_29 cst cpl csp cnp cstop := hC.keep (fun k h1 h2 => fr_31 k (by omega) (by omega) (by omega) (by omega))
      refine lv_goto (tgt := 118) hx hb dX8_addMeeting_100 (by decide) ?_
      exact r_v hx hb hr dX8_addMeeting_118 hlocks hP hS (⟨mz + 1, pa + 1, insF ts (spotP (fun k => decide ((frac (f * ((Int.natAbs (vs j - vs i) : Nat) : Int) + ((Int.natAbs (ps j - ps i) : Nat) : Int)) ((Int.natAbs (vs j - vs i) : Nat) : Int)) / 256 * (ts k % 256) < ts k / 256 * ((frac (f * ((Int.natAbs (vs j - vs i) : Nat) : Int) + ((Int.natAbs (ps j - ps i) : Nat) : Int)) ((Int.natAbs (vs j - vs i) : Nat) : Int)) % 256))) mz) mz (frac (f * ((Int.natAbs (vs j - vs i) : Nat) : Int) + ((Int.natAbs (ps j - ps i) : Nat) : Int)) ((Int.natAbs (vs j - vs i) : Nat) : Int)), insF os (spotP (fun k => decide ((frac (f * ((Int.natAbs (vs j - vs i) : Nat) : Int) + ((Int.natAbs (ps j - ps i) : Nat) : Int)) ((Int.natAbs (vs j - vs i) : Nat) : Int)) / 256 * (ts k % 256) < ts k / 256 * ((frac (f * ((Int.natAbs (vs j - vs i) : Nat) : Int) + ((Int.natAbs (ps j - ps i) : Nat) : Int)) ((Int.natAbs (vs j - vs i) : Nat) : Int)) % 256))) mz) mz ((i : Nat) : Int), insF rs (spotP (fun k => decide ((frac (f * ((Int.natAbs (vs j - vs i) : Nat) : Int) + ((Int.natAbs (ps j - ps i) : Nat) : Int)) ((Int.natAbs (vs j - vs i) : Nat) : Int)) / 256 * (ts k % 256) < ts k / 256 * ((frac (f * ((Int.natAbs (vs j - vs i) : Nat) : Int) + ((Int.natAbs (ps j - ps i) : Nat) : Int)) ((Int.natAbs (vs j - vs i) : Nat) : Int)) % 256))) mz) mz ((j : Nat) : Int), (fun k h0 h1 h2 h3 => fr_31 k (by omega) (by omega) (by omega) (by omega)), e_41, e_42, e_43, e_44, (by unfold evC; rw [if_pos i55_0, if_pos (Int.not_le.mp c_85)]; exact isM_ins p7 _ hfr rfl rfl rfl rfl)⟩)
  refine lv_iload hx hb dX8_addMeeting_22 (lv_at hl 1 rfl) ?_
  refine n_if_ge (tgt := 32) hx hb dX8_addMeeting_24 (by decide) (by omega) (by omega) (fun c_24 => ?_) (fun c_24 => ?_)
  · refine lv_iload hx hb dX8_addMeeting_32 (lv_at hl 1 rfl) ?_
    refine n_if_le (tgt := 46) hx hb dX8_addMeeting_34 (by decide) (by omega) (by omega) (fun c_34 => ?_) (fun c_34 => ?_)
    · refine n_iconst hx hb dX8_addMeeting_46 ?_
      refine lv_istore (lv' := [(7, .int (iN 0)), (6, .int (iN (vs j - vs i))), (5, .int (iN (ps j - ps i))), (0, .ref (gad G 0)), (1, .int (iN ((i : Nat) : Int))), (2, .int (iN ((j : Nat) : Int))), (3, .int (iN f)), (4, .int (iN u))]) hx hb dX8_addMeeting_47 hl (by decide) rfl (fun ls hl => ?_)
      refine lv_iload hx hb dX8_addMeeting_49 (lv_at hl 0 rfl) ?_
      refine n_if_ne (tgt := 55) hx hb dX8_addMeeting_51 (by decide) (by omega) (by omega) (fun c_51 => ?_) (fun c_51 => ?_)
      · exact absurd c_51 (by decide)
      · exact r_v hx hb hr dX8_addMeeting_54 hlocks hP hS (⟨mz, pa, ts, os, rs, (fun k _ _ _ _ => rfl), e5, e6, e7, e8, (by unfold evC; rw [if_neg (show ¬ (ps j - ps i < 0 ∧ 0 < vs j - vs i ∨ 0 < ps j - ps i ∧ vs j - vs i < 0) by omega)]; exact p7)⟩)
    · refine lv_iload hx hb dX8_addMeeting_37 (lv_at hl 0 rfl) ?_
      refine n_if_ge (tgt := 46) hx hb dX8_addMeeting_39 (by decide) (by omega) (by omega) (fun c_39 => ?_) (fun c_39 => ?_)
      · refine n_iconst hx hb dX8_addMeeting_46 ?_
        refine lv_istore (lv' := [(7, .int (iN 0)), (6, .int (iN (vs j - vs i))), (5, .int (iN (ps j - ps i))), (0, .ref (gad G 0)), (1, .int (iN ((i : Nat) : Int))), (2, .int (iN ((j : Nat) : Int))), (3, .int (iN f)), (4, .int (iN u))]) hx hb dX8_addMeeting_47 hl (by decide) rfl (fun ls hl => ?_)
        refine lv_iload hx hb dX8_addMeeting_49 (lv_at hl 0 rfl) ?_
        refine n_if_ne (tgt := 55) hx hb dX8_addMeeting_51 (by decide) (by omega) (by omega) (fun c_51 => ?_) (fun c_51 => ?_)
        · exact absurd c_51 (by decide)
        · exact r_v hx hb hr dX8_addMeeting_54 hlocks hP hS (⟨mz, pa, ts, os, rs, (fun k _ _ _ _ => rfl), e5, e6, e7, e8, (by unfold evC; rw [if_neg (show ¬ (ps j - ps i < 0 ∧ 0 < vs j - vs i ∨ 0 < ps j - ps i ∧ vs j - vs i < 0) by omega)]; exact p7)⟩)
      · refine n_iconst hx hb dX8_addMeeting_42 ?_
        refine lv_goto (tgt := 47) hx hb dX8_addMeeting_43 (by decide) ?_
        refine lv_istore (lv' := [(7, .int (iN 1)), (6, .int (iN (vs j - vs i))), (5, .int (iN (ps j - ps i))), (0, .ref (gad G 0)), (1, .int (iN ((i : Nat) : Int))), (2, .int (iN ((j : Nat) : Int))), (3, .int (iN f)), (4, .int (iN u))]) hx hb dX8_addMeeting_47 hl (by decide) rfl (fun ls hl => ?_)
        refine lv_iload hx hb dX8_addMeeting_49 (lv_at hl 0 rfl) ?_
        refine n_if_ne (tgt := 55) hx hb dX8_addMeeting_51 (by decide) (by omega) (by omega) (fun c_51 => ?_) (fun c_51 => ?_)
        · exact K55 _ (by omega) (lv_sub hl [3, 4, 5, 6, 7, 2, 1] rfl)
        · exact absurd c_51 (by decide)
  · refine lv_iload hx hb dX8_addMeeting_27 (lv_at hl 0 rfl) ?_
    refine n_if_gt (tgt := 42) hx hb dX8_addMeeting_29 (by decide) (by omega) (by omega) (fun c_29 => ?_) (fun c_29 => ?_)
    · refine n_iconst hx hb dX8_addMeeting_42 ?_
      refine lv_goto (tgt := 47) hx hb dX8_addMeeting_43 (by decide) ?_
      refine lv_istore (lv' := [(7, .int (iN 1)), (6, .int (iN (vs j - vs i))), (5, .int (iN (ps j - ps i))), (0, .ref (gad G 0)), (1, .int (iN ((i : Nat) : Int))), (2, .int (iN ((j : Nat) : Int))), (3, .int (iN f)), (4, .int (iN u))]) hx hb dX8_addMeeting_47 hl (by decide) rfl (fun ls hl => ?_)
      refine lv_iload hx hb dX8_addMeeting_49 (lv_at hl 0 rfl) ?_
      refine n_if_ne (tgt := 55) hx hb dX8_addMeeting_51 (by decide) (by omega) (by omega) (fun c_51 => ?_) (fun c_51 => ?_)
      · exact K55 _ (by omega) (lv_sub hl [3, 4, 5, 6, 7, 2, 1] rfl)
      · exact absurd c_51 (by decide)
    · refine lv_iload hx hb dX8_addMeeting_32 (lv_at hl 1 rfl) ?_
      refine n_if_le (tgt := 46) hx hb dX8_addMeeting_34 (by decide) (by omega) (by omega) (fun c_34 => ?_) (fun c_34 => ?_)
      · refine n_iconst hx hb dX8_addMeeting_46 ?_
        refine lv_istore (lv' := [(7, .int (iN 0)), (6, .int (iN (vs j - vs i))), (5, .int (iN (ps j - ps i))), (0, .ref (gad G 0)), (1, .int (iN ((i : Nat) : Int))), (2, .int (iN ((j : Nat) : Int))), (3, .int (iN f)), (4, .int (iN u))]) hx hb dX8_addMeeting_47 hl (by decide) rfl (fun ls hl => ?_)
        refine lv_iload hx hb dX8_addMeeting_49 (lv_at hl 0 rfl) ?_
        refine n_if_ne (tgt := 55) hx hb dX8_addMeeting_51 (by decide) (by omega) (by omega) (fun c_51 => ?_) (fun c_51 => ?_)
        · exact absurd c_51 (by decide)
        · exact r_v hx hb hr dX8_addMeeting_54 hlocks hP hS (⟨mz, pa, ts, os, rs, (fun k _ _ _ _ => rfl), e5, e6, e7, e8, (by unfold evC; rw [if_neg (show ¬ (ps j - ps i < 0 ∧ 0 < vs j - vs i ∨ 0 < ps j - ps i ∧ vs j - vs i < 0) by omega)]; exact p7)⟩)
      · refine lv_iload hx hb dX8_addMeeting_37 (lv_at hl 0 rfl) ?_
        refine n_if_ge (tgt := 46) hx hb dX8_addMeeting_39 (by decide) (by omega) (by omega) (fun c_39 => ?_) (fun c_39 => ?_)
        · refine n_iconst hx hb dX8_addMeeting_46 ?_
          refine lv_istore (lv' := [(7, .int (iN 0)), (6, .int (iN (vs j - vs i))), (5, .int (iN (ps j - ps i))), (0, .ref (gad G 0)), (1, .int (iN ((i : Nat) : Int))), (2, .int (iN ((j : Nat) : Int))), (3, .int (iN f)), (4, .int (iN u))]) hx hb dX8_addMeeting_47 hl (by decide) rfl (fun ls hl => ?_)
          refine lv_iload hx hb dX8_addMeeting_49 (lv_at hl 0 rfl) ?_
          refine n_if_ne (tgt := 55) hx hb dX8_addMeeting_51 (by decide) (by omega) (by omega) (fun c_51 => ?_) (fun c_51 => ?_)
          · exact absurd c_51 (by decide)
          · exact r_v hx hb hr dX8_addMeeting_54 hlocks hP hS (⟨mz, pa, ts, os, rs, (fun k _ _ _ _ => rfl), e5, e6, e7, e8, (by unfold evC; rw [if_neg (show ¬ (ps j - ps i < 0 ∧ 0 < vs j - vs i ∨ 0 < ps j - ps i ∧ vs j - vs i < 0) by omega)]; exact p7)⟩)
        · refine n_iconst hx hb dX8_addMeeting_42 ?_
          refine lv_goto (tgt := 47) hx hb dX8_addMeeting_43 (by decide) ?_
          refine lv_istore (lv' := [(7, .int (iN 1)), (6, .int (iN (vs j - vs i))), (5, .int (iN (ps j - ps i))), (0, .ref (gad G 0)), (1, .int (iN ((i : Nat) : Int))), (2, .int (iN ((j : Nat) : Int))), (3, .int (iN f)), (4, .int (iN u))]) hx hb dX8_addMeeting_47 hl (by decide) rfl (fun ls hl => ?_)
          refine lv_iload hx hb dX8_addMeeting_49 (lv_at hl 0 rfl) ?_
          refine n_if_ne (tgt := 55) hx hb dX8_addMeeting_51 (by decide) (by omega) (by omega) (fun c_51 => ?_) (fun c_51 => ?_)
          · exact K55 _ (by omega) (lv_sub hl [3, 4, 5, 6, 7, 2, 1] rfl)
          · exact absurd c_51 (by decide)

set_option maxHeartbeats 4000000 in
set_option maxRecDepth 100000 in
theorem c_X8_gatherMeetings (l : Launch) (G : GE) (w : WF) (came : Nat) (now : Nat) (bc : Nat) (sz0 : Nat) (th : Nat → Int) (ps : Nat → Int) (vs : Nat → Int) (mz : Nat) (pa : Int) (ts : Nat → Int) (os : Nat → Int) (rs : Nat → Int) (f : Int) (u : Int) (cst : Nat → Nat → Int) (cpl : Nat → Nat → Int) (csp : Nat → Nat → Int) (cnp : Nat → Nat) (cstop : Nat → Int) (e0 : w 0 = .inr (7, [.ref (gad G 1), .int (iN ((came : Nat) : Int)), .int (iN ((now : Nat) : Int)), .ref (gad G 2), .ref (gad G 5), .int (iN ((bc : Nat) : Int)), .ref (gad G 6), .ref (gad G 10), .ref (gad G 14), .ref (gad G 15), .ref (gad G 18)])) (e1 : w 6 = .inr (4, [.ref (gad G 7), .ref (gad G 8), .ref (gad G 9), .int (iN ((sz0 : Nat) : Int))])) (e2 : w 7 = .inl (gZ G, 10, .inl (aN th))) (e3 : w 8 = .inl (gI G, 10, .inl (aN ps))) (e4 : w 9 = .inl (gI G, 10, .inl (aN vs))) (e5 : w 10 = .inr (3, [.ref (gad G 11), .ref (gad G 12), .ref (gad G 13), .int (iN ((mz : Nat) : Int)), .int (iN pa)])) (e6 : w 11 = .inl (gJ G, 45, .inr (.inl (aJ ts)))) (e7 : w 12 = .inl (gI G, 45, .inl (aN os))) (e8 : w 13 = .inl (gI G, 45, .inl (aN rs))) (hC : FAM G w cst cpl csp cnp cstop) (p0 : OKS came cst cpl csp cnp cstop) (p1 : 0 ≤ f ∧ f ≤ 600) (p2 : 0 ≤ u ∧ u ≤ 100000) : Met l yX8_gatherMeetings wsX8_gatherMeetings ({ frames := 5, cells := 0, slots := 0, locals := 129 }) (PcG G w [.ref (gad G 0), .int (iN f), .int (iN u)]) (QV G (fun w1 => ∃ (th2 : Nat → Int) (ps2 : Nat → Int) (vs2 : Nat → Int) (mz2 : Nat) (pa2 : Int) (ts2 : Nat → Int) (os2 : Nat → Int) (rs2 : Nat → Int), (∀ k : Nat, k ≠ 6 → k ≠ 7 → k ≠ 8 → k ≠ 9 → k ≠ 10 → k ≠ 11 → k ≠ 12 → k ≠ 13 → w1 k = w k) ∧ w1 6 = .inr (4, [.ref (gad G 7), .ref (gad G 8), .ref (gad G 9), .int (iN ((came : Nat) : Int))]) ∧ w1 7 = .inl (gZ G, 10, .inl (aN th2)) ∧ w1 8 = .inl (gI G, 10, .inl (aN ps2)) ∧ w1 9 = .inl (gI G, 10, .inl (aN vs2)) ∧ w1 10 = .inr (3, [.ref (gad G 11), .ref (gad G 12), .ref (gad G 13), .int (iN ((mz2 : Nat) : Int)), .int (iN pa2)]) ∧ w1 11 = .inl (gJ G, 45, .inr (.inl (aJ ts2))) ∧ w1 12 = .inl (gI G, 45, .inl (aN os2)) ∧ w1 13 = .inl (gI G, 45, .inl (aN rs2)) ∧ (isM (gmL (cst, cpl, csp, cnp, cstop) f u came) mz2 pa2 ts2 os2 rs2))) 0 0 (AA G) := by
  refine Met.ofW (cc := cX8_gatherMeetings) (maxL := 5) (ret := none) (by decide) rfl ?_
  intro p e s m args below meth c s₁ B hml hv
  obtain ⟨rfl, hP, hK⟩ := hv
  have hx := B.exec
  have hb := B.bytes
  have hr := B.returns
  have hts := atoms_spec (ws := wsX8_gatherMeetings) B.pre
  have hown : s.vm.findClass RX8 = some m.cls := findClass_of_methodNamed B.named
  have hlocks := B.notSynchronized
  have hS : va_S (AA G) s.heap s.heap [] := va_S.rf
  have hAA : ∀ q, AA G q → AA G q := fun _ h => h
  have hl := lv_entry ([.ref (gad G 0), .int (iN f), .int (iN u)]) (n := 5) (Nat.le_of_ble_eq_true rfl)
  rw [lg_entry_eq]
  generalize (lg_sl ([.ref (gad G 0), .int (iN f), .int (iN u)]) ++ List.replicate (5 - (lg_sl ([.ref (gad G 0), .int (iN f), .int (iN u)])).length) Slot.unset).toArray = ls at hl ⊢
  have hl : lv_has ls 5 [(0, .ref (gad G 0)), (1, .int (iN f)), (2, .int (iN u))] := hl
  have hc10 : came ≤ 10 := p0.1
  refine lv_aload_n hx hb dX8_gatherMeetings_0 rfl (lv_at hl 0 rfl) ?_
  refine f_get (C := RX8) (T := TX8) (N := 11) hx hb hts (by decide +kernel) hown hK hP 0 (by omega) e0 rfl 7 (by decide) (hts (.fieldLink RX8 37 "KeptMoving" "meetings" "LKeptMoving$Meetings;") (by decide +kernel)) (fun _ h9 => h9) rfl dX8_gatherMeetings_1 ?_
  refine f_callv (va_Run.run (va_runVN (As := []) (rest := []) ⟨hx, hb, hml, hown, hts⟩ (c_X4_clear l G w mz pa ts os rs e5 e6 e7 e8) ⟨va_cnB 0 hts gX8_gatherMeetings_X4_clear_n239 rfl rfl rfl (hK.nm 20 rfl) (hts (.initialized RX4) (by decide +kernel)) (by decide +kernel) ⟨Nat.le_of_ble_eq_true rfl, Nat.le_of_ble_eq_true rfl⟩, hts (.instanceMethod yX4_clear) (by decide +kernel), hts (.selects RX4 yX4_clear yX4_clear) (by decide +kernel)⟩ (f_preV hP hK 10 (by omega) 3 e5 rfl) rfl rfl hl.1 rfl (lv_room (Nat.le_of_ble_eq_true rfl)) dX8_gatherMeetings_4 ⟨Nat.zero_le _, Nat.zero_le _⟩)) hS hAA (fun w_1 H locs q_2 hP hS => ?_)
  obtain ⟨fr_3, e_4⟩ := q_2
  have e_5 : w_1 0 = .inr (7, [.ref (gad G 1), .int (iN ((came : Nat) : Int)), .int (iN ((now : Nat) : Int)), .ref (gad G 2), .ref (gad G 5), .int (iN ((bc : Nat) : Int)), .ref (gad G 6), .ref (gad G 10), .ref (gad G 14), .ref (gad G 15), .ref (gad G 18)]) := (fr_3 0 (by omega)).trans e0
  have e_6 : w_1 6 = .inr (4, [.ref (gad G 7), .ref (gad G 8), .ref (gad G 9), .int (iN ((sz0 : Nat) : Int))]) := (fr_3 6 (by omega)).trans e1
  have e_7 : w_1 7 = .inl (gZ G, 10, .inl (aN th)) := (fr_3 7 (by omega)).trans e2
  have e_8 : w_1 8 = .inl (gI G, 10, .inl (aN ps)) := (fr_3 8 (by omega)).trans e3
  have e_9 : w_1 9 = .inl (gI G, 10, .inl (aN vs)) := (fr_3 9 (by omega)).trans e4
  have e_10 : w_1 11 = .inl (gJ G, 45, .inr (.inl (aJ ts))) := (fr_3 11 (by omega)).trans e6
  have e_11 : w_1 12 = .inl (gI G, 45, .inl (aN os)) := (fr_3 12 (by omega)).trans e7
  have e_12 : w_1 13 = .inl (gI G, 45, .inl (aN rs)) := (fr_3 13 (by omega)).trans e8
  have e_13 : w_1 10 = .inr (3, [.ref (gad G 11), .ref (gad G 12), .ref (gad G 13), .int (iN 0), .int (iN 0)]) := e_4
  have hC_14 : FAM G w_1 cst cpl csp cnp cstop := hC.keep (fun k h1 h2 => fr_3 k (by omega))
  refine lv_aload_n hx hb dX8_gatherMeetings_7 rfl (lv_at hl 0 rfl) ?_
  refine lv_iload_n hx hb dX8_gatherMeetings_8 rfl (lv_at hl 1 rfl) ?_
  refine f_callv (W.runV (As := [.int (iN f)]) (rest := []) ⟨hx, hb, hml, hown, hts⟩ (c_X8_look l G w_1 came now bc sz0 th ps vs f cst cpl csp cnp cstop e_5 e_6 e_7 e_8 e_9 hC_14 (p0) (by omega)) (cwV 1 hts gX8_gatherMeetings_X8_look rfl rfl rfl (by decide +kernel) ⟨Nat.le_of_ble_eq_true rfl, Nat.le_of_ble_eq_true rfl⟩) (f_preV hP hK 0 (by omega) 7 e_5 rfl) rfl rfl hl.1 rfl (lv_room (Nat.le_of_ble_eq_true rfl)) dX8_gatherMeetings_9 ⟨Nat.zero_le _, Nat.zero_le _⟩) hS hAA (fun w_15 H locs q_16 hP hS => ?_)
  obtain ⟨th2_17, ps2_18, vs2_19, fr_20, e_21, e_22, e_23, e_24, q_25⟩ := q_16
  have e_26 : w_15 0 = .inr (7, [.ref (gad G 1), .int (iN ((came : Nat) : Int)), .int (iN ((now : Nat) : Int)), .ref (gad G 2), .ref (gad G 5), .int (iN ((bc : Nat) : Int)), .ref (gad G 6), .ref (gad G 10), .ref (gad G 14), .ref (gad G 15), .ref (gad G 18)]) := (fr_20 0 (by omega) (by omega) (by omega) (by omega)).trans e_5
  have e_27 : w_15 11 = .inl (gJ G, 45, .inr (.inl (aJ ts))) := (fr_20 11 (by omega) (by omega) (by omega) (by omega)).trans e_10
  have e_28 : w_15 12 = .inl (gI G, 45, .inl (aN os)) := (fr_20 12 (by omega) (by omega) (by omega) (by omega)).trans e_11
  have e_29 : w_15 13 = .inl (gI G, 45, .inl (aN rs)) := (fr_20 13 (by omega) (by omega) (by omega) (by omega)).trans e_12
  have e_30 : w_15 10 = .inr (3, [.ref (gad G 11), .ref (gad G 12), .ref (gad G 13), .int (iN 0), .int (iN 0)]) := (fr_20 10 (by omega) (by omega) (by omega) (by omega)).trans e_13
  have e_31 : w_15 6 = .inr (4, [.ref (gad G 7), .ref (gad G 8), .ref (gad G 9), .int (iN ((came : Nat) : Int))]) := e_21
  have e_32 : w_15 7 = .inl (gZ G, 10, .inl (aN th2_17)) := e_22
  have e_33 : w_15 8 = .inl (gI G, 10, .inl (aN ps2_18)) := e_23
  have e_34 : w_15 9 = .inl (gI G, 10, .inl (aN vs2_19)) := e_24
  have hC_35 : FAM G w_15 cst cpl csp cnp cstop := hC_14.keep (fun k h1 h2 => fr_20 k (by omega) (by omega) (by omega) (by omega))
  refine n_iconst hx hb dX8_gatherMeetings_12 ?_
  refine lv_istore_n (lv' := [(3, .int (iN 0)), (0, .ref (gad G 0)), (1, .int (iN f)), (2, .int (iN u))]) hx hb dX8_gatherMeetings_13 rfl hl (by decide) rfl (fun ls hl => ?_)
  have K14 : ∀ (N : Nat) (i : Nat) (mz2 : Nat) (pa2 : Int) (ts2 : Nat → Int) (os2 : Nat → Int) (rs2 : Nat → Int) (w2 : WF) (H : Heap) (locs : List Loc) (ls : Array Slot), (i ≤ came) → (isM (gmO (cst, cpl, csp, cnp, cstop) f u came i) mz2 pa2 ts2 os2 rs2) → 11 - i < N → w2 6 = .inr (4, [.ref (gad G 7), .ref (gad G 8), .ref (gad G 9), .int (iN ((came : Nat) : Int))]) → w2 7 = .inl (gZ G, 10, .inl (aN th2_17)) → w2 8 = .inl (gI G, 10, .inl (aN ps2_18)) → w2 9 = .inl (gI G, 10, .inl (aN vs2_19)) → w2 10 = .inr (3, [.ref (gad G 11), .ref (gad G 12), .ref (gad G 13), .int (iN ((mz2 : Nat) : Int)), .int (iN pa2)]) → w2 11 = .inl (gJ G, 45, .inr (.inl (aJ ts2))) → w2 12 = .inl (gI G, 45, .inl (aN os2)) → w2 13 = .inl (gI G, 45, .inl (aN rs2)) → (∀ k : Nat, k ≠ 6 → k ≠ 7 → k ≠ 8 → k ≠ 9 → k ≠ 10 → k ≠ 11 → k ≠ 12 → k ≠ 13 → w2 k = w k) → PW G w2 H → va_S (AA G) s.heap H locs → lv_has ls 5 [(0, .ref (gad G 0)), (1, .int (iN f)), (2, .int (iN u)), (3, .int (iN ((i : Nat) : Int)))] → W p l e (headSpec wsX8_gatherMeetings ({ frames := 5, cells := 0, slots := 0, locals := 129 })).room s m (([.ref (gad G 0), .int (iN f), .int (iN u)] : List Value).toArray) below meth c H locs 0 0 (MQ below (QV G (fun w1 => ∃ (th2 : Nat → Int) (ps2 : Nat → Int) (vs2 : Nat → Int) (mz2 : Nat) (pa2 : Int) (ts2 : Nat → Int) (os2 : Nat → Int) (rs2 : Nat → Int), (∀ k : Nat, k ≠ 6 → k ≠ 7 → k ≠ 8 → k ≠ 9 → k ≠ 10 → k ≠ 11 → k ≠ 12 → k ≠ 13 → w1 k = w k) ∧ w1 6 = .inr (4, [.ref (gad G 7), .ref (gad G 8), .ref (gad G 9), .int (iN ((came : Nat) : Int))]) ∧ w1 7 = .inl (gZ G, 10, .inl (aN th2)) ∧ w1 8 = .inl (gI G, 10, .inl (aN ps2)) ∧ w1 9 = .inl (gI G, 10, .inl (aN vs2)) ∧ w1 10 = .inr (3, [.ref (gad G 11), .ref (gad G 12), .ref (gad G 13), .int (iN ((mz2 : Nat) : Int)), .int (iN pa2)]) ∧ w1 11 = .inl (gJ G, 45, .inr (.inl (aJ ts2))) ∧ w1 12 = .inl (gI G, 45, .inl (aN os2)) ∧ w1 13 = .inl (gI G, 45, .inl (aN rs2)) ∧ (isM (gmL (cst, cpl, csp, cnp, cstop) f u came) mz2 pa2 ts2 os2 rs2))) (([.ref (gad G 0), .int (iN f), .int (iN u)] : List Value).toArray) s 0 0 (AA G)) (F0 m 14 ls []) := by
    intro N
    induction N with
    | zero =>
      intros
      exfalso
      omega
    | succ N ih14 =>
      intro i mz2 pa2 ts2 os2 rs2 w2 H locs ls i14_0 i14_1 hN14 f14_0 f14_1 f14_2 f14_3 f14_4 f14_5 f14_6 f14_7 hfr14 hP hS hl
      have e_36 : w2 0 = .inr (7, [.ref (gad G 1), .int (iN ((came : Nat) : Int)), .int (iN ((now : Nat) : Int)), .ref (gad G 2), .ref (gad G 5), .int (iN ((bc : Nat) : Int)), .ref (gad G 6), .ref (gad G 10), .ref (gad G 14), .ref (gad G 15), .ref (gad G 18)]) := by rw [hfr14 0 (by omega) (by omega) (by omega) (by omega) (by omega) (by omega) (by omega) (by omega)]; exact e0
      have hC14 : FAM G w2 cst cpl csp cnp cstop := hC.keep (fun k h1 h2 => hfr14 k (by omega) (by omega) (by omega) (by omega) (by omega) (by omega) (by omega) (by omega))
      refine lv_iload_n hx hb dX8_gatherMeetings_14 rfl (lv_at hl 3 rfl) ?_
      refine lv_aload_n hx hb dX8_gatherMeetings_15 rfl (lv_at hl 0 rfl) ?_
      refine f_get (C := RX8) (T := TX8) (N := 11) hx hb hts (by decide +kernel) hown hK hP 0 (by omega) e_36 rfl 1 (by decide) (hts (.fieldLink RX8 67 "KeptMoving" "came" "I") (by decide +kernel)) (fun _ h9 => h9) rfl dX8_gatherMeetings_16 ?_
      refine n_icmp_ge (tgt := 80) hx hb dX8_gatherMeetings_19 (by decide) (by omega) (by omega) (by omega) (by omega) (fun c_19 => ?_) (fun c_19 => ?_)
      · exact r_v hx hb hr dX8_gatherMeetings_80 hlocks hP hS (⟨th2_17, ps2_18, vs2_19, mz2, pa2, ts2, os2, rs2, (fun k h0 h1 h2 h3 h4 h5 h6 h7 => hfr14 k (by omega) (by omega) (by omega) (by omega) (by omega) (by omega) (by omega) (by omega)), f14_0, f14_1, f14_2, f14_3, f14_4, f14_5, f14_6, f14_7, (by have hz := i14_1; rw [show i = came by omega] at hz; exact hz)⟩)
      · refine lv_iload_n hx hb dX8_gatherMeetings_22 rfl (lv_at hl 3 rfl) ?_
        refine n_iconst hx hb dX8_gatherMeetings_23 ?_
        refine n_iadd hx hb dX8_gatherMeetings_24 ?_
        refine n_top (A := ((i : Nat) : Int) + 1) (B := ((i + 1 : Nat) : Int)) (by omega) ?_
        refine lv_istore (lv' := [(4, .int (iN ((i + 1 : Nat) : Int))), (0, .ref (gad G 0)), (1, .int (iN f)), (2, .int (iN u)), (3, .int (iN ((i : Nat) : Int)))]) hx hb dX8_gatherMeetings_25 hl (by decide) rfl (fun ls hl => ?_)
        have K27 : ∀ (N : Nat) (j : Nat) (mz2 : Nat) (pa2 : Int) (ts2 : Nat → Int) (os2 : Nat → Int) (rs2 : Nat → Int) (w2 : WF) (H : Heap) (locs : List Loc) (ls : Array Slot), (i < came) → (i + 1 ≤ j ∧ j ≤ came) → (isM (gmI (cst, cpl, csp, cnp, cstop) f u i (j - (i + 1)) (gmO (cst, cpl, csp, cnp, cstop) f u came i)) mz2 pa2 ts2 os2 rs2) → 11 - j < N → w2 6 = .inr (4, [.ref (gad G 7), .ref (gad G 8), .ref (gad G 9), .int (iN ((came : Nat) : Int))]) → w2 7 = .inl (gZ G, 10, .inl (aN th2_17)) → w2 8 = .inl (gI G, 10, .inl (aN ps2_18)) → w2 9 = .inl (gI G, 10, .inl (aN vs2_19)) → w2 10 = .inr (3, [.ref (gad G 11), .ref (gad G 12), .ref (gad G 13), .int (iN ((mz2 : Nat) : Int)), .int (iN pa2)]) → w2 11 = .inl (gJ G, 45, .inr (.inl (aJ ts2))) → w2 12 = .inl (gI G, 45, .inl (aN os2)) → w2 13 = .inl (gI G, 45, .inl (aN rs2)) → (∀ k : Nat, k ≠ 6 → k ≠ 7 → k ≠ 8 → k ≠ 9 → k ≠ 10 → k ≠ 11 → k ≠ 12 → k ≠ 13 → w2 k = w k) → PW G w2 H → va_S (AA G) s.heap H locs → lv_has ls 5 [(0, .ref (gad G 0)), (1, .int (iN f)), (2, .int (iN u)), (3, .int (iN ((i : Nat) : Int))), (4, .int (iN ((j : Nat) : Int)))] → W p l e (headSpec wsX8_gatherMeetings ({ frames := 5, cells := 0, slots := 0, locals := 129 })).room s m (([.ref (gad G 0), .int (iN f), .int (iN u)] : List Value).toArray) below meth c H locs 0 0 (MQ below (QV G (fun w1 => ∃ (th2 : Nat → Int) (ps2 : Nat → Int) (vs2 : Nat → Int) (mz2 : Nat) (pa2 : Int) (ts2 : Nat → Int) (os2 : Nat → Int) (rs2 : Nat → Int), (∀ k : Nat, k ≠ 6 → k ≠ 7 → k ≠ 8 → k ≠ 9 → k ≠ 10 → k ≠ 11 → k ≠ 12 → k ≠ 13 → w1 k = w k) ∧ w1 6 = .inr (4, [.ref (gad G 7), .ref (gad G 8), .ref (gad G 9), .int (iN ((came : Nat) : Int))]) ∧ w1 7 = .inl (gZ G, 10, .inl (aN th2)) ∧ w1 8 = .inl (gI G, 10, .inl (aN ps2)) ∧ w1 9 = .inl (gI G, 10, .inl (aN vs2)) ∧ w1 10 = .inr (3, [.ref (gad G 11), .ref (gad G 12), .ref (gad G 13), .int (iN ((mz2 : Nat) : Int)), .int (iN pa2)]) ∧ w1 11 = .inl (gJ G, 45, .inr (.inl (aJ ts2))) ∧ w1 12 = .inl (gI G, 45, .inl (aN os2)) ∧ w1 13 = .inl (gI G, 45, .inl (aN rs2)) ∧ (isM (gmL (cst, cpl, csp, cnp, cstop) f u came) mz2 pa2 ts2 os2 rs2))) (([.ref (gad G 0), .int (iN f), .int (iN u)] : List Value).toArray) s 0 0 (AA G)) (F0 m 27 ls []) := by
          intro N
          induction N with
          | zero =>
            intros
            exfalso
            omega
          | succ N ih27 =>
            intro j mz2 pa2 ts2 os2 rs2 w2 H locs ls i27_0 i27_1 i27_2 hN27 f27_0 f27_1 f27_2 f27_3 f27_4 f27_5 f27_6 f27_7 hfr27 hP hS hl
            have e_37 : w2 0 = .inr (7, [.ref (gad G 1), .int (iN ((came : Nat) : Int)), .int (iN ((now : Nat) : Int)), .ref (gad G 2), .ref (gad G 5), .int (iN ((bc : Nat) : Int)), .ref (gad G 6), .ref (gad G 10), .ref (gad G 14), .ref (gad G 15), .ref (gad G 18)]) := by rw [hfr27 0 (by omega) (by omega) (by omega) (by omega) (by omega) (by omega) (by omega) (by omega)]; exact e0
            have hC27 : FAM G w2 cst cpl csp cnp cstop := hC.keep (fun k h1 h2 => hfr27 k (by omega) (by omega) (by omega) (by omega) (by omega) (by omega) (by omega) (by omega))
            refine lv_iload hx hb dX8_gatherMeetings_27 (lv_at hl 4 rfl) ?_
            refine lv_aload_n hx hb dX8_gatherMeetings_29 rfl (lv_at hl 0 rfl) ?_
            refine f_get (C := RX8) (T := TX8) (N := 11) hx hb hts (by decide +kernel) hown hK hP 0 (by omega) e_37 rfl 1 (by decide) (hts (.fieldLink RX8 67 "KeptMoving" "came" "I") (by decide +kernel)) (fun _ h9 => h9) rfl dX8_gatherMeetings_30 ?_
            refine n_icmp_ge (tgt := 74) hx hb dX8_gatherMeetings_33 (by decide) (by omega) (by omega) (by omega) (by omega) (fun c_33 => ?_) (fun c_33 => ?_)
            · refine lv_iinc (v := iN ((i + 1 : Nat) : Int)) (lv' := [(3, .int (iN ((i + 1 : Nat) : Int))), (0, .ref (gad G 0)), (1, .int (iN f)), (2, .int (iN u)), (4, .int (iN ((j : Nat) : Int)))]) hx hb dX8_gatherMeetings_74 hl (k := 3) rfl (iN_incN _) (by decide) rfl (fun ls hl => ?_)
              refine lv_goto (tgt := 14) hx hb dX8_gatherMeetings_77 (by decide) ?_
              exact ih14 (i + 1) (mz2) (pa2) (ts2) (os2) (rs2) w2 _ _ _ (by omega) (by have hz := i27_2; rw [show j = came by omega] at hz; exact hz) (by omega) (f27_0) (f27_1) (f27_2) (f27_3) (f27_4) (f27_5) (f27_6) (f27_7) (fun k h0 h1 h2 h3 h4 h5 h6 h7 => hfr27 k (by omega) (by omega) (by omega) (by omega) (by omega) (by omega) (by omega) (by omega)) hP hS (lv_sub hl [1, 2, 3, 0] rfl)
            · refine lv_aload_n hx hb dX8_gatherMeetings_36 rfl (lv_at hl 0 rfl) ?_
              refine f_get (C := RX8) (T := TX8) (N := 11) hx hb hts (by decide +kernel) hown hK hP 0 (by omega) e_37 rfl 6 (by decide) (hts (.fieldLink RX8 30 "KeptMoving" "scene" "LKeptMoving$Scene;") (by decide +kernel)) (fun _ h9 => h9) rfl dX8_gatherMeetings_37 ?_
              refine lv_iload_n hx hb dX8_gatherMeetings_40 rfl (lv_at hl 3 rfl) ?_
              refine vp_callSi (va_Run.run (va_runVN (As := [.int (iN ((i : Nat) : Int))]) (rest := []) ⟨hx, hb, hml, hown, hts⟩ (c_X5_has l G w2 came th2_17 ps2_18 vs2_19 i f27_0 f27_1 f27_2 f27_3 (by omega) (by omega) (sc_01 q_25 (by omega))) ⟨va_cnB 1 hts gX8_gatherMeetings_X5_has_n243 rfl rfl rfl (hK.nm 26 rfl) (hts (.initialized RX5) (by decide +kernel)) (by decide +kernel) ⟨Nat.le_of_ble_eq_true rfl, Nat.le_of_ble_eq_true rfl⟩, hts (.instanceMethod yX5_has) (by decide +kernel), hts (.selects RX5 yX5_has yX5_has) (by decide +kernel)⟩ (f_preV hP hK 6 (by omega) 4 f27_0 rfl) rfl rfl hl.1 rfl (lv_room (Nat.le_of_ble_eq_true rfl)) dX8_gatherMeetings_41 ⟨Nat.zero_le _, Nat.zero_le _⟩)) (fun r_38 hr_38 => ?_)
              rw [show r_38 = iN (if (th2_17 i ≠ 0) then 1 else 0) from hr_38]
              refine n_ifb_eq (tgt := 68) hx hb dX8_gatherMeetings_44 (by decide) (fun c_44 => ?_) (fun c_44 => ?_)
              · refine lv_iinc (v := iN ((j + 1 : Nat) : Int)) (lv' := [(4, .int (iN ((j + 1 : Nat) : Int))), (0, .ref (gad G 0)), (1, .int (iN f)), (2, .int (iN u)), (3, .int (iN ((i : Nat) : Int)))]) hx hb dX8_gatherMeetings_68 hl (k := 4) rfl (iN_incN _) (by decide) rfl (fun ls hl => ?_)
                refine lv_goto (tgt := 27) hx hb dX8_gatherMeetings_71 (by decide) ?_
                exact ih27 (j + 1) (mz2) (pa2) (ts2) (os2) (rs2) w2 _ _ _ (by omega) (by omega) (by rw [gmI_s (by omega)]; rw [ev_no (fun z => sc_no q_25 (by omega) c_44 z.1)]; exact i27_2) (by omega) (f27_0) (f27_1) (f27_2) (f27_3) (f27_4) (f27_5) (f27_6) (f27_7) (fun k h0 h1 h2 h3 h4 h5 h6 h7 => hfr27 k (by omega) (by omega) (by omega) (by omega) (by omega) (by omega) (by omega) (by omega)) hP hS (lv_sub hl [1, 2, 3, 4, 0] rfl)
              · refine lv_aload_n hx hb dX8_gatherMeetings_47 rfl (lv_at hl 0 rfl) ?_
                refine f_get (C := RX8) (T := TX8) (N := 11) hx hb hts (by decide +kernel) hown hK hP 0 (by omega) e_37 rfl 6 (by decide) (hts (.fieldLink RX8 30 "KeptMoving" "scene" "LKeptMoving$Scene;") (by decide +kernel)) (fun _ h9 => h9) rfl dX8_gatherMeetings_48 ?_
                refine lv_iload hx hb dX8_gatherMeetings_51 (lv_at hl 4 rfl) ?_
                refine vp_callSi (va_Run.run (va_runVN (As := [.int (iN ((j : Nat) : Int))]) (rest := []) ⟨hx, hb, hml, hown, hts⟩ (c_X5_has l G w2 came th2_17 ps2_18 vs2_19 j f27_0 f27_1 f27_2 f27_3 (by omega) (by omega) (sc_01 q_25 (by omega))) ⟨va_cnB 1 hts gX8_gatherMeetings_X5_has_n243 rfl rfl rfl (hK.nm 26 rfl) (hts (.initialized RX5) (by decide +kernel)) (by decide +kernel) ⟨Nat.le_of_ble_eq_true rfl, Nat.le_of_ble_eq_true rfl⟩, hts (.instanceMethod yX5_has) (by decide +kernel), hts (.selects RX5 yX5_has yX5_has) (by decide +kernel)⟩ (f_preV hP hK 6 (by omega) 4 f27_0 rfl) rfl rfl hl.1 rfl (lv_room (Nat.le_of_ble_eq_true rfl)) dX8_gatherMeetings_53 ⟨Nat.zero_le _, Nat.zero_le _⟩)) (fun r_39 hr_39 => ?_)
                rw [show r_39 = iN (if (th2_17 j ≠ 0) then 1 else 0) from hr_39]
                refine n_ifb_eq (tgt := 68) hx hb dX8_gatherMeetings_56 (by decide) (fun c_56 => ?_) (fun c_56 => ?_)
                · refine lv_iinc (v := iN ((j + 1 : Nat) : Int)) (lv' := [(4, .int (iN ((j + 1 : Nat) : Int))), (0, .ref (gad G 0)), (1, .int (iN f)), (2, .int (iN u)), (3, .int (iN ((i : Nat) : Int)))]) hx hb dX8_gatherMeetings_68 hl (k := 4) rfl (iN_incN _) (by decide) rfl (fun ls hl => ?_)
                  refine lv_goto (tgt := 27) hx hb dX8_gatherMeetings_71 (by decide) ?_
                  exact ih27 (j + 1) (mz2) (pa2) (ts2) (os2) (rs2) w2 _ _ _ (by omega) (by omega) (by rw [gmI_s (by omega)]; rw [ev_no (fun z => sc_no q_25 (by omega) c_56 z.2)]; exact i27_2) (by omega) (f27_0) (f27_1) (f27_2) (f27_3) (f27_4) (f27_5) (f27_6) (f27_7) (fun k h0 h1 h2 h3 h4 h5 h6 h7 => hfr27 k (by omega) (by omega) (by omega) (by omega) (by omega) (by omega) (by omega) (by omega)) hP hS (lv_sub hl [1, 2, 3, 4, 0] rfl)
                · have r1 := sc_rng p0 p1 q_25 (j := i) (by omega)
                  have r2 := sc_rng p0 p1 q_25 (j := j) (by omega)
                  refine lv_aload_n hx hb dX8_gatherMeetings_59 rfl (lv_at hl 0 rfl) ?_
                  refine lv_iload_n hx hb dX8_gatherMeetings_60 rfl (lv_at hl 3 rfl) ?_
                  refine lv_iload hx hb dX8_gatherMeetings_61 (lv_at hl 4 rfl) ?_
                  refine lv_iload_n hx hb dX8_gatherMeetings_63 rfl (lv_at hl 1 rfl) ?_
                  refine lv_iload_n hx hb dX8_gatherMeetings_64 rfl (lv_at hl 2 rfl) ?_
                  refine f_callv (W.runV (As := [.int (iN ((i : Nat) : Int)), .int (iN ((j : Nat) : Int)), .int (iN f), .int (iN u)]) (rest := []) ⟨hx, hb, hml, hown, hts⟩ (c_X8_addMeeting l G w2 came now bc came th2_17 ps2_18 vs2_19 (gmI (cst, cpl, csp, cnp, cstop) f u i (j - (i + 1)) (gmO (cst, cpl, csp, cnp, cstop) f u came i)) mz2 pa2 ts2 os2 rs2 i j f u cst cpl csp cnp cstop e_37 f27_0 f27_1 f27_2 f27_3 f27_4 f27_5 f27_6 f27_7 hC27 (p0) (by omega) (by omega) (by omega) (by omega) (by omega) (by omega) (i27_2) (gmI_bd hc10 (by omega) (by omega) (by omega))) (cwV 4 hts gX8_gatherMeetings_X8_addMeeting rfl rfl rfl (by decide +kernel) ⟨Nat.le_of_ble_eq_true rfl, Nat.le_of_ble_eq_true rfl⟩) (f_preV hP hK 0 (by omega) 7 e_37 rfl) rfl rfl hl.1 rfl (lv_room (Nat.le_of_ble_eq_true rfl)) dX8_gatherMeetings_65 ⟨Nat.zero_le _, Nat.zero_le _⟩) hS hAA (fun w_40 H locs q_41 hP hS => ?_)
                  obtain ⟨mz2_42, pa2_43, ts2_44, os2_45, rs2_46, fr_47, e_48, e_49, e_50, e_51, q_52⟩ := q_41
                  have e_53 : w_40 6 = .inr (4, [.ref (gad G 7), .ref (gad G 8), .ref (gad G 9), .int (iN ((came : Nat) : Int))]) := (fr_47 6 (by omega) (by omega) (by omega) (by omega)).trans f27_0
                  have e_54 : w_40 7 = .inl (gZ G, 10, .inl (aN th2_17)) := (fr_47 7 (by omega) (by omega) (by omega) (by omega)).trans f27_1
                  have e_55 : w_40 8 = .inl (gI G, 10, .inl (aN ps2_18)) := (fr_47 8 (by omega) (by omega) (by omega) (by omega)).trans f27_2
                  have e_56 : w_40 9 = .inl (gI G, 10, .inl (aN vs2_19)) := (fr_47 9 (by omega) (by omega) (by omega) (by omega)).trans f27_3
                  have e_57 : w_40 0 = .inr (7, [.ref (gad G 1), .int (iN ((came : Nat) : Int)), .int (iN ((now : Nat) : Int)), .ref (gad G 2), .ref (gad G 5), .int (iN ((bc : Nat) : Int)), .ref (gad G 6), .ref (gad G 10), .ref (gad G 14), .ref (gad G 15), .ref (gad G 18)]) := (fr_47 0 (by omega) (by omega) (by omega) (by omega)).trans e_37
                  have e_58 : w_40 10 = .inr (3, [.ref (gad G 11), .ref (gad G 12), .ref (gad G 13), .int (iN ((mz2_42 : Nat) : Int)), .int (iN pa2_43)]) := e_48
                  have e_59 : w_40 11 = .inl (gJ G, 45, .inr (.inl (aJ ts2_44))) := e_49
                  have e_60 : w_40 12 = .inl (gI G, 45, .inl (aN os2_45)) := e_50
                  have e_61 : w_40 13 = .inl (gI G, 45, .inl (aN rs2_46)) := e_51
                  have hC_62 : FAM G w_40 cst cpl csp cnp cstop := hC27.keep (fun k h1 h2 => fr_47 k (by omega) (by omega) (by omega) (by omega))
                  refine lv_iinc (v := iN ((j + 1 : Nat) : Int)) (lv' := [(4, .int (iN ((j + 1 : Nat) : Int))), (0, .ref (gad G 0)), (1, .int (iN f)), (2, .int (iN u)), (3, .int (iN ((i : Nat) : Int)))]) hx hb dX8_gatherMeetings_68 hl (k := 4) rfl (iN_incN _) (by decide) rfl (fun ls hl => ?_)
                  refine lv_goto (tgt := 27) hx hb dX8_gatherMeetings_71 (by decide) ?_
                  exact ih27 (j + 1) (mz2_42) (pa2_43) (ts2_44) (os2_45) (rs2_46) w_40 _ _ _ (by omega) (by omega) (by rw [gmI_s (by omega)]; rw [ev_yes q_25 (by omega) (by omega) (sc_yes q_25 (by omega) c_44) (sc_yes q_25 (by omega) c_56)]; exact q_52) (by omega) (e_53) (e_54) (e_55) (e_56) (e_58) (e_59) (e_60) (e_61) (fun k h0 h1 h2 h3 h4 h5 h6 h7 => ((fr_47 k (by omega) (by omega) (by omega) (by omega)).trans (hfr27 k (by omega) (by omega) (by omega) (by omega) (by omega) (by omega) (by omega) (by omega)))) hP hS (lv_sub hl [1, 2, 3, 4, 0] rfl)
        exact K27 ((11 - (i + 1)) + 1) (i + 1) (mz2) (pa2) (ts2) (os2) (rs2) w2 _ _ _ (by omega) (by omega) (by rw [Nat.sub_self]; exact i14_1) (by omega) (f14_0) (f14_1) (f14_2) (f14_3) (f14_4) (f14_5) (f14_6) (f14_7) (fun k h0 h1 h2 h3 h4 h5 h6 h7 => hfr14 k (by omega) (by omega) (by omega) (by omega) (by omega) (by omega) (by omega) (by omega)) hP hS (lv_sub hl [1, 2, 3, 4, 0] rfl)
  exact K14 ((11 - 0) + 1) (0) (0) (0) (ts) (os) (rs) w_15 _ _ _ (by omega) (isM_0 _ _ _) (by omega) (e_31) (e_32) (e_33) (e_34) (e_30) (e_27) (e_28) (e_29) (fun k h0 h1 h2 h3 h4 h5 h6 h7 => ((fr_20 k (by omega) (by omega) (by omega) (by omega)).trans (fr_3 k (by omega)))) hP hS (lv_sub hl [1, 2, 3, 0] rfl)
