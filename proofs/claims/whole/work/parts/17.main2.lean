section FX
variable {p : Program} {l : Launch} {e : Env} {R : Room} {s : State} {m : MethodId} {args : Array Value} {below : List Frame} {meth : Method} {c : Code} {H : Heap} {locs : List Loc} {cells slots : Nat} {Q : State → Prop}
variable {pc : Nat} {ls : Array Slot} {rest : List Value}
theorem n_top {A B : Int} (h : A = B) (k : W p l e R s m args below meth c H locs cells slots Q (F0 m pc ls (.int (iN B) :: rest))) : W p l e R s m args below meth c H locs cells slots Q (F0 m pc ls (.int (iN A) :: rest)) := by
  subst h
  exact k
theorem n_topL {A B : Int} (h : A = B) (k : W p l e R s m args below meth c H locs cells slots Q (F0 m pc ls (.long (jN B) :: rest))) : W p l e R s m args below meth c H locs cells slots Q (F0 m pc ls (.long (jN A) :: rest)) := by
  subst h
  exact k
end FX

set_option maxHeartbeats 4000000 in
set_option maxRecDepth 100000 in
theorem c_X8_speed (l : Launch) (G : GE) (w : WF) (came : Nat) (now : Nat) (bc : Nat) (i : Int) (v : Int) (cst : Nat → Nat → Int) (cpl : Nat → Nat → Int) (csp : Nat → Nat → Int) (cnp : Nat → Nat) (cstop : Nat → Int) (e0 : w 0 = .inr (7, [.ref (gad G 1), .int (iN ((came : Nat) : Int)), .int (iN ((now : Nat) : Int)), .ref (gad G 2), .ref (gad G 5), .int (iN ((bc : Nat) : Int)), .ref (gad G 6), .ref (gad G 10), .ref (gad G 14), .ref (gad G 15), .ref (gad G 18)])) (hC : FAM G w cst cpl csp cnp cstop) (p0 : -2147483648 ≤ i ∧ i < 2147483648) (p1 : -2147483648 ≤ v ∧ v < 2147483648) (p2 : OKS came cst cpl csp cnp cstop) (p3 : now ≤ 400) : Met l yX8_speed wsX8_speed ({ frames := 4, cells := 0, slots := 0, locals := 90 }) (PcG G w [.ref (gad G 0), .int (iN i), .int (iN v)]) (QI G (fun r w1 => r = iN (if 0 ≤ i ∧ i < (came : Int) then (if -50 ≤ v ∧ v ≤ 50 then (if cstop i.toNat ≠ -1 then -100003 else if cnp i.toNat < 8 ∨ cst i.toNat 7 = (now : Int) then csp i.toNat (cnp i.toNat - 1) else -100004) else -100002) else -100001) ∧ (∀ k : Nat, k < 19 ∨ 59 ≤ k → w1 k = w k) ∧ FAM G w1 (if 0 ≤ i ∧ i < (came : Int) ∧ -50 ≤ v ∧ v ≤ 50 ∧ cstop i.toNat = -1 ∧ (cnp i.toNat < 8 ∨ cst i.toNat 7 = (now : Int)) then va_up cst i.toNat (if (cst i.toNat) ((cnp i.toNat) - 1) ≠ ((now : Nat) : Int) ∧ (cnp i.toNat) < 8 then va_up (cst i.toNat) (cnp i.toNat) ((now : Nat) : Int) else (cst i.toNat)) else cst) (if 0 ≤ i ∧ i < (came : Int) ∧ -50 ≤ v ∧ v ≤ 50 ∧ cstop i.toNat = -1 ∧ (cnp i.toNat < 8 ∨ cst i.toNat 7 = (now : Int)) then va_up cpl i.toNat (if (cst i.toNat) ((cnp i.toNat) - 1) ≠ ((now : Nat) : Int) ∧ (cnp i.toNat) < 8 then va_up (cpl i.toNat) (cnp i.toNat) (upAt (va_up (cst i.toNat) (cnp i.toNat) ((now : Nat) : Int)) (cpl i.toNat) (csp i.toNat) (cnp i.toNat) ((now : Nat) : Int) 1) else (cpl i.toNat)) else cpl) (if 0 ≤ i ∧ i < (came : Int) ∧ -50 ≤ v ∧ v ≤ 50 ∧ cstop i.toNat = -1 ∧ (cnp i.toNat < 8 ∨ cst i.toNat 7 = (now : Int)) then va_up csp i.toNat (va_up (csp i.toNat) (if (cst i.toNat) ((cnp i.toNat) - 1) ≠ ((now : Nat) : Int) ∧ (cnp i.toNat) < 8 then (cnp i.toNat) else (cnp i.toNat) - 1) v) else csp) (if 0 ≤ i ∧ i < (came : Int) ∧ -50 ≤ v ∧ v ≤ 50 ∧ cstop i.toNat = -1 ∧ (cnp i.toNat < 8 ∨ cst i.toNat 7 = (now : Int)) then va_up cnp i.toNat (if (cst i.toNat) ((cnp i.toNat) - 1) ≠ ((now : Nat) : Int) ∧ (cnp i.toNat) < 8 then (cnp i.toNat) + 1 else (cnp i.toNat)) else cnp) (if 0 ≤ i ∧ i < (came : Int) ∧ -50 ≤ v ∧ v ≤ 50 ∧ cstop i.toNat = -1 ∧ (cnp i.toNat < 8 ∨ cst i.toNat 7 = (now : Int)) then va_up cstop i.toNat (cstop i.toNat) else cstop))) 0 0 (AA G) := by
  refine Met.ofW (cc := cX8_speed) (maxL := 5) (ret := (some .int)) (by decide) rfl ?_
  intro p e s m args below meth c s₁ B hml hv
  obtain ⟨rfl, hP, hK⟩ := hv
  have hx := B.exec
  have hb := B.bytes
  have hr := B.returns
  have hts := atoms_spec (ws := wsX8_speed) B.pre
  have hown : s.vm.findClass RX8 = some m.cls := findClass_of_methodNamed B.named
  have hlocks := B.notSynchronized
  have hS : va_S (AA G) s.heap s.heap [] := va_S.rf
  have hAA : ∀ q, AA G q → AA G q := fun _ h => h
  have hl := lv_entry ([.ref (gad G 0), .int (iN i), .int (iN v)]) (n := 5) (Nat.le_of_ble_eq_true rfl)
  rw [lg_entry_eq]
  generalize (lg_sl ([.ref (gad G 0), .int (iN i), .int (iN v)]) ++ List.replicate (5 - (lg_sl ([.ref (gad G 0), .int (iN i), .int (iN v)])).length) Slot.unset).toArray = ls at hl ⊢
  have hl : lv_has ls 5 [(0, .ref (gad G 0)), (1, .int (iN i)), (2, .int (iN v))] := hl
  have hc10 : came ≤ 10 := p2.1
  refine lv_aload_n hx hb dX8_speed_0 rfl (lv_at hl 0 rfl) ?_
  refine lv_iload_n hx hb dX8_speed_1 rfl (lv_at hl 1 rfl) ?_
  refine vp_callSi (W.runV (As := [.int (iN i)]) (rest := []) ⟨hx, hb, hml, hown, hts⟩ (c_X8_isKnown l G w came now bc i e0 (p0) (p2.1)) (cwV 1 hts gX8_speed_X8_isKnown rfl rfl rfl (by decide +kernel) ⟨Nat.le_of_ble_eq_true rfl, Nat.le_of_ble_eq_true rfl⟩) (f_preV hP hK 0 (by omega) 7 e0 rfl) rfl rfl hl.1 rfl (lv_room (Nat.le_of_ble_eq_true rfl)) dX8_speed_2 ⟨Nat.zero_le _, Nat.zero_le _⟩) (fun r_1 hr_1 => ?_)
  rw [show r_1 = iN (if (0 ≤ i ∧ i < (came : Int)) then 1 else 0) from hr_1]
  refine n_ifb_ne (tgt := 11) hx hb dX8_speed_5 (by decide) (fun c_5 => ?_) (fun c_5 => ?_)
  · refine lv_iload_n hx hb dX8_speed_11 rfl (lv_at hl 2 rfl) ?_
    refine n_bipush hx hb dX8_speed_12 (by decide) ?_
    refine n_bipush hx hb dX8_speed_14 (by decide) ?_
    refine vp_callSi (W.runS (As := [.int (iN v), .int (iN (-50)), .int (iN 50)]) (rest := []) ⟨hx, hb, hml, hown, hts⟩ (c_X8_isFromTo l v (-50) 50 (p1) (by omega) (by omega)) (va_cwS 3 hts gX8_speed_X8_isFromTo rfl rfl rfl (by decide +kernel) ⟨Nat.le_of_ble_eq_true rfl, Nat.le_of_ble_eq_true rfl⟩) ⟨fun _ _ _ _ q => q, fun _ _ _ => rfl⟩ rfl rfl hl.1 rfl (lv_room (Nat.le_of_ble_eq_true rfl)) dX8_speed_16 ⟨Nat.zero_le _, Nat.zero_le _⟩) (fun r_2 hr_2 => ?_)
    rw [show r_2 = iN (if ((-50) ≤ v ∧ v ≤ 50) then 1 else 0) from hr_2]
    refine n_ifb_ne (tgt := 25) hx hb dX8_speed_19 (by decide) (fun c_19 => ?_) (fun c_19 => ?_)
    · have hVi := p2.2 i.toNat (by omega)
      obtain ⟨hv1, hv2, hv3, hv4⟩ := hVi
      refine lv_aload_n hx hb dX8_speed_25 rfl (lv_at hl 0 rfl) ?_
      refine f_get (C := RX8) (T := TX8) (N := 11) hx hb hts (by decide +kernel) hown hK hP 0 (by omega) e0 rfl 0 (by decide) (hts (.fieldLink RX8 11 "KeptMoving" "courses" "[LKeptMoving$Course;") (by decide +kernel)) (fun _ h9 => h9) rfl dX8_speed_26 ?_
      refine lv_iload_n hx hb dX8_speed_29 rfl (lv_at hl 1 rfl) ?_
      refine n_aldq hx hb hK hP i.toNat (by omega) (by omega) dX8_speed_30 ?_
      refine lv_astore_n (lv' := [(3, .ref (gad G (19 + 4 * i.toNat))), (0, .ref (gad G 0)), (1, .int (iN i)), (2, .int (iN v))]) hx hb dX8_speed_31 rfl hl (by decide) rfl (fun ls hl => ?_)
      refine lv_aload_n hx hb dX8_speed_32 rfl (lv_at hl 0 rfl) ?_
      obtain ⟨x_3, x_4, x_5, x_6⟩ := hC i.toNat (by omega)
      refine vp_callSi (va_Run.run (va_runVN (As := []) (rest := []) ⟨hx, hb, hml, hown, hts⟩ (c_X0_isStopped l G w i.toNat (cst i.toNat) (cpl i.toNat) (csp i.toNat) (cnp i.toNat) (cstop i.toNat) x_3 x_4 x_5 x_6 (by omega) (hv3)) ⟨va_cnB 0 hts gX8_speed_X0_isStopped_n84 rfl rfl rfl (hK.nm 8 rfl) (hts (.initialized RX0) (by decide +kernel)) (by decide +kernel) ⟨Nat.le_of_ble_eq_true rfl, Nat.le_of_ble_eq_true rfl⟩, hts (.instanceMethod yX0_isStopped) (by decide +kernel), hts (.selects RX0 yX0_isStopped yX0_isStopped) (by decide +kernel)⟩ (f_preV hP hK (19 + 4 * i.toNat) (by omega) 0 x_3 rfl) rfl rfl hl.1 rfl (lv_room (Nat.le_of_ble_eq_true rfl)) dX8_speed_33 ⟨Nat.zero_le _, Nat.zero_le _⟩)) (fun r_7 hr_7 => ?_)
      rw [show r_7 = iN (if ((cstop i.toNat) ≠ -1) then 1 else 0) from hr_7]
      refine n_ifb_eq (tgt := 42) hx hb dX8_speed_36 (by decide) (fun c_36 => ?_) (fun c_36 => ?_)
      · refine lv_aload_n hx hb dX8_speed_42 rfl (lv_at hl 0 rfl) ?_
        refine lv_aload_n hx hb dX8_speed_43 rfl (lv_at hl 1 rfl) ?_
        refine f_get (C := RX8) (T := TX8) (N := 11) hx hb hts (by decide +kernel) hown hK hP 0 (by omega) e0 rfl 2 (by decide) (hts (.fieldLink RX8 72 "KeptMoving" "now" "I") (by decide +kernel)) (fun _ h9 => h9) rfl dX8_speed_44 ?_
        refine vp_callSi (va_Run.run (va_runVN (As := [.int (iN ((now : Nat) : Int))]) (rest := []) ⟨hx, hb, hml, hown, hts⟩ (c_X0_canTurn l G w i.toNat (cst i.toNat) (cpl i.toNat) (csp i.toNat) (cnp i.toNat) (cstop i.toNat) ((now : Nat) : Int) x_3 x_4 x_5 x_6 (by omega) (hv1) (hv2) (by omega)) ⟨va_cnB 1 hts gX8_speed_X0_canTurn_n89 rfl rfl rfl (hK.nm 9 rfl) (hts (.initialized RX0) (by decide +kernel)) (by decide +kernel) ⟨Nat.le_of_ble_eq_true rfl, Nat.le_of_ble_eq_true rfl⟩, hts (.instanceMethod yX0_canTurn) (by decide +kernel), hts (.selects RX0 yX0_canTurn yX0_canTurn) (by decide +kernel)⟩ (f_preV hP hK (19 + 4 * i.toNat) (by omega) 0 x_3 rfl) rfl rfl hl.1 rfl (lv_room (Nat.le_of_ble_eq_true rfl)) dX8_speed_47 ⟨Nat.zero_le _, Nat.zero_le _⟩)) (fun r_8 hr_8 => ?_)
        rw [show r_8 = iN (if ((cnp i.toNat) < 8 ∨ (cst i.toNat) 7 = ((now : Nat) : Int)) then 1 else 0) from hr_8]
        refine n_ifb_ne (tgt := 56) hx hb dX8_speed_50 (by decide) (fun c_50 => ?_) (fun c_50 => ?_)
        · refine lv_aload_n hx hb dX8_speed_56 rfl (lv_at hl 0 rfl) ?_
          refine vp_callSi (va_Run.run (va_runVN (As := []) (rest := []) ⟨hx, hb, hml, hown, hts⟩ (c_X0_latestSpeed l G w i.toNat (cst i.toNat) (cpl i.toNat) (csp i.toNat) (cnp i.toNat) (cstop i.toNat) x_3 x_4 x_5 x_6 (by omega) (hv1)) ⟨va_cnB 0 hts gX8_speed_X0_latestSpeed_n92 rfl rfl rfl (hK.nm 10 rfl) (hts (.initialized RX0) (by decide +kernel)) (by decide +kernel) ⟨Nat.le_of_ble_eq_true rfl, Nat.le_of_ble_eq_true rfl⟩, hts (.instanceMethod yX0_latestSpeed) (by decide +kernel), hts (.selects RX0 yX0_latestSpeed yX0_latestSpeed) (by decide +kernel)⟩ (f_preV hP hK (19 + 4 * i.toNat) (by omega) 0 x_3 rfl) rfl rfl hl.1 rfl (lv_room (Nat.le_of_ble_eq_true rfl)) dX8_speed_57 ⟨Nat.zero_le _, Nat.zero_le _⟩)) (fun r_9 hr_9 => ?_)
          rw [show r_9 = iN ((csp i.toNat) ((cnp i.toNat) - 1)) from hr_9]
          refine lv_istore (lv' := [(4, .int (iN ((csp i.toNat) ((cnp i.toNat) - 1)))), (3, .ref (gad G (19 + 4 * i.toNat))), (0, .ref (gad G 0)), (1, .int (iN i)), (2, .int (iN v))]) hx hb dX8_speed_60 hl (by decide) rfl (fun ls hl => ?_)
          refine lv_aload_n hx hb dX8_speed_62 rfl (lv_at hl 1 rfl) ?_
          refine lv_aload_n hx hb dX8_speed_63 rfl (lv_at hl 2 rfl) ?_
          refine f_get (C := RX8) (T := TX8) (N := 11) hx hb hts (by decide +kernel) hown hK hP 0 (by omega) e0 rfl 2 (by decide) (hts (.fieldLink RX8 72 "KeptMoving" "now" "I") (by decide +kernel)) (fun _ h9 => h9) rfl dX8_speed_64 ?_
          refine lv_iload_n hx hb dX8_speed_67 rfl (lv_at hl 4 rfl) ?_
          refine f_callv (va_Run.run (va_runVN (As := [.int (iN ((now : Nat) : Int)), .int (iN v)]) (rest := []) ⟨hx, hb, hml, hown, hts⟩ (c_X0_turn l G w i.toNat (cst i.toNat) (cpl i.toNat) (csp i.toNat) (cnp i.toNat) (cstop i.toNat) ((now : Nat) : Int) v x_3 x_4 x_5 x_6 (by omega) (hv1) (hv2) (by omega)) ⟨va_cnB 2 hts gX8_speed_X0_turn_n96 rfl rfl rfl (hK.nm 11 rfl) (hts (.initialized RX0) (by decide +kernel)) (by decide +kernel) ⟨Nat.le_of_ble_eq_true rfl, Nat.le_of_ble_eq_true rfl⟩, hts (.instanceMethod yX0_turn) (by decide +kernel), hts (.selects RX0 yX0_turn yX0_turn) (by decide +kernel)⟩ (f_preV hP hK (19 + 4 * i.toNat) (by omega) 0 x_3 rfl) rfl rfl hl.1 rfl (lv_room (Nat.le_of_ble_eq_true rfl)) dX8_speed_68 ⟨Nat.zero_le _, Nat.zero_le _⟩)) hS hAA (fun w_10 H locs q_11 hP hS => ?_)
          obtain ⟨fr_12, e_13, e_14, e_15, e_16⟩ := q_11
          have e_17 : w_10 0 = .inr (7, [.ref (gad G 1), .int (iN ((came : Nat) : Int)), .int (iN ((now : Nat) : Int)), .ref (gad G 2), .ref (gad G 5), .int (iN ((bc : Nat) : Int)), .ref (gad G 6), .ref (gad G 10), .ref (gad G 14), .ref (gad G 15), .ref (gad G 18)]) := (fr_12 0 (by omega) (by omega) (by omega) (by omega)).trans e0
          have e_18 : w_10 (19 + 4 * i.toNat) = .inr (0, [.ref (gad G (19 + 4 * i.toNat + 1)), .ref (gad G (19 + 4 * i.toNat + 2)), .ref (gad G (19 + 4 * i.toNat + 3)), .int (iN ((if (cst i.toNat) ((cnp i.toNat) - 1) ≠ ((now : Nat) : Int) ∧ (cnp i.toNat) < 8 then (cnp i.toNat) + 1 else (cnp i.toNat) : Nat) : Int)), .int (iN (cstop i.toNat))]) := e_13
          have e_19 : w_10 (19 + 4 * i.toNat + 1) = .inl (gI G, 8, .inl (aN (if (cst i.toNat) ((cnp i.toNat) - 1) ≠ ((now : Nat) : Int) ∧ (cnp i.toNat) < 8 then va_up (cst i.toNat) (cnp i.toNat) ((now : Nat) : Int) else (cst i.toNat)))) := e_14
          have e_20 : w_10 (19 + 4 * i.toNat + 2) = .inl (gI G, 8, .inl (aN (if (cst i.toNat) ((cnp i.toNat) - 1) ≠ ((now : Nat) : Int) ∧ (cnp i.toNat) < 8 then va_up (cpl i.toNat) (cnp i.toNat) (upAt (va_up (cst i.toNat) (cnp i.toNat) ((now : Nat) : Int)) (cpl i.toNat) (csp i.toNat) (cnp i.toNat) ((now : Nat) : Int) 1) else (cpl i.toNat)))) := e_15
          have e_21 : w_10 (19 + 4 * i.toNat + 3) = .inl (gI G, 8, .inl (aN (va_up (csp i.toNat) (if (cst i.toNat) ((cnp i.toNat) - 1) ≠ ((now : Nat) : Int) ∧ (cnp i.toNat) < 8 then (cnp i.toNat) else (cnp i.toNat) - 1) v))) := e_16
          have hC_22 : FAM G w_10 (va_up cst i.toNat (if (cst i.toNat) ((cnp i.toNat) - 1) ≠ ((now : Nat) : Int) ∧ (cnp i.toNat) < 8 then va_up (cst i.toNat) (cnp i.toNat) ((now : Nat) : Int) else (cst i.toNat))) (va_up cpl i.toNat (if (cst i.toNat) ((cnp i.toNat) - 1) ≠ ((now : Nat) : Int) ∧ (cnp i.toNat) < 8 then va_up (cpl i.toNat) (cnp i.toNat) (upAt (va_up (cst i.toNat) (cnp i.toNat) ((now : Nat) : Int)) (cpl i.toNat) (csp i.toNat) (cnp i.toNat) ((now : Nat) : Int) 1) else (cpl i.toNat))) (va_up csp i.toNat (va_up (csp i.toNat) (if (cst i.toNat) ((cnp i.toNat) - 1) ≠ ((now : Nat) : Int) ∧ (cnp i.toNat) < 8 then (cnp i.toNat) else (cnp i.toNat) - 1) v)) (va_up cnp i.toNat (if (cst i.toNat) ((cnp i.toNat) - 1) ≠ ((now : Nat) : Int) ∧ (cnp i.toNat) < 8 then (cnp i.toNat) + 1 else (cnp i.toNat))) (va_up cstop i.toNat (cstop i.toNat)) := hC.put (i := i.toNat) (by omega) (fun k h0 h1 h2 h3 => fr_12 k (by omega) (by omega) (by omega) (by omega)) e_18 e_19 e_20 e_21
          refine lv_iload hx hb dX8_speed_71 (lv_at hl 0 rfl) ?_
          exact r_i hx hb hr dX8_speed_73 hlocks hP hS ⟨(show iN ((csp i.toNat) ((cnp i.toNat) - 1)) = iN _ by rw [if_pos (by omega), if_pos (by omega), if_neg (by omega), if_pos (by omega)]), (fun k hf => fr_12 k (by omega) (by omega) (by omega) (by omega)), (by rw [if_pos (show 0 ≤ i ∧ i < (came : Int) ∧ -50 ≤ v ∧ v ≤ 50 ∧ cstop i.toNat = -1 ∧ (cnp i.toNat < 8 ∨ cst i.toNat 7 = (now : Int)) by omega), if_pos (show 0 ≤ i ∧ i < (came : Int) ∧ -50 ≤ v ∧ v ≤ 50 ∧ cstop i.toNat = -1 ∧ (cnp i.toNat < 8 ∨ cst i.toNat 7 = (now : Int)) by omega), if_pos (show 0 ≤ i ∧ i < (came : Int) ∧ -50 ≤ v ∧ v ≤ 50 ∧ cstop i.toNat = -1 ∧ (cnp i.toNat < 8 ∨ cst i.toNat 7 = (now : Int)) by omega), if_pos (show 0 ≤ i ∧ i < (came : Int) ∧ -50 ≤ v ∧ v ≤ 50 ∧ cstop i.toNat = -1 ∧ (cnp i.toNat < 8 ∨ cst i.toNat 7 = (now : Int)) by omega), if_pos (show 0 ≤ i ∧ i < (came : Int) ∧ -50 ≤ v ∧ v ≤ 50 ∧ cstop i.toNat = -1 ∧ (cnp i.toNat < 8 ∨ cst i.toNat 7 = (now : Int)) by omega)]; exact hC_22)⟩
        · refine n_ldc (z := (-100004)) hx hb hown (hts (.constant RX8 71 (-100004)) (by decide +kernel)) (by decide) dX8_speed_53 ?_
          exact r_i hx hb hr dX8_speed_55 hlocks hP hS ⟨(show iN (-100004) = iN _ by rw [if_pos (by omega), if_pos (by omega), if_neg (by omega), if_neg (by omega)]), (fun k _ => rfl), (by rw [if_neg (show ¬ (0 ≤ i ∧ i < (came : Int) ∧ -50 ≤ v ∧ v ≤ 50 ∧ cstop i.toNat = -1 ∧ (cnp i.toNat < 8 ∨ cst i.toNat 7 = (now : Int))) by omega), if_neg (show ¬ (0 ≤ i ∧ i < (came : Int) ∧ -50 ≤ v ∧ v ≤ 50 ∧ cstop i.toNat = -1 ∧ (cnp i.toNat < 8 ∨ cst i.toNat 7 = (now : Int))) by omega), if_neg (show ¬ (0 ≤ i ∧ i < (came : Int) ∧ -50 ≤ v ∧ v ≤ 50 ∧ cstop i.toNat = -1 ∧ (cnp i.toNat < 8 ∨ cst i.toNat 7 = (now : Int))) by omega), if_neg (show ¬ (0 ≤ i ∧ i < (came : Int) ∧ -50 ≤ v ∧ v ≤ 50 ∧ cstop i.toNat = -1 ∧ (cnp i.toNat < 8 ∨ cst i.toNat 7 = (now : Int))) by omega), if_neg (show ¬ (0 ≤ i ∧ i < (came : Int) ∧ -50 ≤ v ∧ v ≤ 50 ∧ cstop i.toNat = -1 ∧ (cnp i.toNat < 8 ∨ cst i.toNat 7 = (now : Int))) by omega)]; exact hC)⟩
      · refine n_ldc (z := (-100003)) hx hb hown (hts (.constant RX8 88 (-100003)) (by decide +kernel)) (by decide) dX8_speed_39 ?_
        exact r_i hx hb hr dX8_speed_41 hlocks hP hS ⟨(show iN (-100003) = iN _ by rw [if_pos (by omega), if_pos (by omega), if_pos (by omega)]), (fun k _ => rfl), (by rw [if_neg (show ¬ (0 ≤ i ∧ i < (came : Int) ∧ -50 ≤ v ∧ v ≤ 50 ∧ cstop i.toNat = -1 ∧ (cnp i.toNat < 8 ∨ cst i.toNat 7 = (now : Int))) by omega), if_neg (show ¬ (0 ≤ i ∧ i < (came : Int) ∧ -50 ≤ v ∧ v ≤ 50 ∧ cstop i.toNat = -1 ∧ (cnp i.toNat < 8 ∨ cst i.toNat 7 = (now : Int))) by omega), if_neg (show ¬ (0 ≤ i ∧ i < (came : Int) ∧ -50 ≤ v ∧ v ≤ 50 ∧ cstop i.toNat = -1 ∧ (cnp i.toNat < 8 ∨ cst i.toNat 7 = (now : Int))) by omega), if_neg (show ¬ (0 ≤ i ∧ i < (came : Int) ∧ -50 ≤ v ∧ v ≤ 50 ∧ cstop i.toNat = -1 ∧ (cnp i.toNat < 8 ∨ cst i.toNat 7 = (now : Int))) by omega), if_neg (show ¬ (0 ≤ i ∧ i < (came : Int) ∧ -50 ≤ v ∧ v ≤ 50 ∧ cstop i.toNat = -1 ∧ (cnp i.toNat < 8 ∨ cst i.toNat 7 = (now : Int))) by omega)]; exact hC)⟩
    · refine n_ldc (z := (-100002)) hx hb hown (hts (.constant RX8 66 (-100002)) (by decide +kernel)) (by decide) dX8_speed_22 ?_
      exact r_i hx hb hr dX8_speed_24 hlocks hP hS ⟨(show iN (-100002) = iN _ by rw [if_pos (by omega), if_neg (by omega)]), (fun k _ => rfl), (by rw [if_neg (show ¬ (0 ≤ i ∧ i < (came : Int) ∧ -50 ≤ v ∧ v ≤ 50 ∧ cstop i.toNat = -1 ∧ (cnp i.toNat < 8 ∨ cst i.toNat 7 = (now : Int))) by omega), if_neg (show ¬ (0 ≤ i ∧ i < (came : Int) ∧ -50 ≤ v ∧ v ≤ 50 ∧ cstop i.toNat = -1 ∧ (cnp i.toNat < 8 ∨ cst i.toNat 7 = (now : Int))) by omega), if_neg (show ¬ (0 ≤ i ∧ i < (came : Int) ∧ -50 ≤ v ∧ v ≤ 50 ∧ cstop i.toNat = -1 ∧ (cnp i.toNat < 8 ∨ cst i.toNat 7 = (now : Int))) by omega), if_neg (show ¬ (0 ≤ i ∧ i < (came : Int) ∧ -50 ≤ v ∧ v ≤ 50 ∧ cstop i.toNat = -1 ∧ (cnp i.toNat < 8 ∨ cst i.toNat 7 = (now : Int))) by omega), if_neg (show ¬ (0 ≤ i ∧ i < (came : Int) ∧ -50 ≤ v ∧ v ≤ 50 ∧ cstop i.toNat = -1 ∧ (cnp i.toNat < 8 ∨ cst i.toNat 7 = (now : Int))) by omega)]; exact hC)⟩
  · refine n_ldc (z := (-100001)) hx hb hown (hts (.constant RX8 83 (-100001)) (by decide +kernel)) (by decide) dX8_speed_8 ?_
    exact r_i hx hb hr dX8_speed_10 hlocks hP hS ⟨(show iN (-100001) = iN _ by rw [if_neg (by omega)]), (fun k _ => rfl), (by rw [if_neg (show ¬ (0 ≤ i ∧ i < (came : Int) ∧ -50 ≤ v ∧ v ≤ 50 ∧ cstop i.toNat = -1 ∧ (cnp i.toNat < 8 ∨ cst i.toNat 7 = (now : Int))) by omega), if_neg (show ¬ (0 ≤ i ∧ i < (came : Int) ∧ -50 ≤ v ∧ v ≤ 50 ∧ cstop i.toNat = -1 ∧ (cnp i.toNat < 8 ∨ cst i.toNat 7 = (now : Int))) by omega), if_neg (show ¬ (0 ≤ i ∧ i < (came : Int) ∧ -50 ≤ v ∧ v ≤ 50 ∧ cstop i.toNat = -1 ∧ (cnp i.toNat < 8 ∨ cst i.toNat 7 = (now : Int))) by omega), if_neg (show ¬ (0 ≤ i ∧ i < (came : Int) ∧ -50 ≤ v ∧ v ≤ 50 ∧ cstop i.toNat = -1 ∧ (cnp i.toNat < 8 ∨ cst i.toNat 7 = (now : Int))) by omega), if_neg (show ¬ (0 ≤ i ∧ i < (came : Int) ∧ -50 ≤ v ∧ v ≤ 50 ∧ cstop i.toNat = -1 ∧ (cnp i.toNat < 8 ∨ cst i.toNat 7 = (now : Int))) by omega)]; exact hC)⟩

set_option maxHeartbeats 4000000 in
set_option maxRecDepth 100000 in
theorem c_X8_gone (l : Launch) (G : GE) (w : WF) (came : Nat) (now : Nat) (bc : Nat) (i : Int) (cst : Nat → Nat → Int) (cpl : Nat → Nat → Int) (csp : Nat → Nat → Int) (cnp : Nat → Nat) (cstop : Nat → Int) (e0 : w 0 = .inr (7, [.ref (gad G 1), .int (iN ((came : Nat) : Int)), .int (iN ((now : Nat) : Int)), .ref (gad G 2), .ref (gad G 5), .int (iN ((bc : Nat) : Int)), .ref (gad G 6), .ref (gad G 10), .ref (gad G 14), .ref (gad G 15), .ref (gad G 18)])) (hC : FAM G w cst cpl csp cnp cstop) (p0 : -2147483648 ≤ i ∧ i < 2147483648) (p1 : OKS came cst cpl csp cnp cstop) (p2 : now ≤ 400) : Met l yX8_gone wsX8_gone ({ frames := 1, cells := 0, slots := 0, locals := 21 }) (PcG G w [.ref (gad G 0), .int (iN i)]) (QI G (fun r w1 => r = iN (if 0 ≤ i ∧ i < (came : Int) then (if cstop i.toNat = -1 ∧ cst i.toNat 0 ≠ (now : Int) then 1 else -100003) else -100001) ∧ (∀ k : Nat, k < 19 ∨ 59 ≤ k → w1 k = w k) ∧ FAM G w1 (if 0 ≤ i ∧ i < (came : Int) ∧ cstop i.toNat = -1 ∧ cst i.toNat 0 ≠ (now : Int) then va_up cst i.toNat (cst i.toNat) else cst) (if 0 ≤ i ∧ i < (came : Int) ∧ cstop i.toNat = -1 ∧ cst i.toNat 0 ≠ (now : Int) then va_up cpl i.toNat (cpl i.toNat) else cpl) (if 0 ≤ i ∧ i < (came : Int) ∧ cstop i.toNat = -1 ∧ cst i.toNat 0 ≠ (now : Int) then va_up csp i.toNat (csp i.toNat) else csp) (if 0 ≤ i ∧ i < (came : Int) ∧ cstop i.toNat = -1 ∧ cst i.toNat 0 ≠ (now : Int) then va_up cnp i.toNat (cnp i.toNat) else cnp) (if 0 ≤ i ∧ i < (came : Int) ∧ cstop i.toNat = -1 ∧ cst i.toNat 0 ≠ (now : Int) then va_up cstop i.toNat ((now : Nat) : Int) else cstop))) 0 0 (AA G) := by
  refine Met.ofW (cc := cX8_gone) (maxL := 3) (ret := (some .int)) (by decide) rfl ?_
  intro p e s m args below meth c s₁ B hml hv
  obtain ⟨rfl, hP, hK⟩ := hv
  have hx := B.exec
  have hb := B.bytes
  have hr := B.returns
  have hts := atoms_spec (ws := wsX8_gone) B.pre
  have hown : s.vm.findClass RX8 = some m.cls := findClass_of_methodNamed B.named
  have hlocks := B.notSynchronized
  have hS : va_S (AA G) s.heap s.heap [] := va_S.rf
  have hAA : ∀ q, AA G q → AA G q := fun _ h => h
  have hl := lv_entry ([.ref (gad G 0), .int (iN i)]) (n := 3) (Nat.le_of_ble_eq_true rfl)
  rw [lg_entry_eq]
  generalize (lg_sl ([.ref (gad G 0), .int (iN i)]) ++ List.replicate (3 - (lg_sl ([.ref (gad G 0), .int (iN i)])).length) Slot.unset).toArray = ls at hl ⊢
  have hl : lv_has ls 3 [(0, .ref (gad G 0)), (1, .int (iN i))] := hl
  have hc10 : came ≤ 10 := p1.1
  refine lv_aload_n hx hb dX8_gone_0 rfl (lv_at hl 0 rfl) ?_
  refine lv_iload_n hx hb dX8_gone_1 rfl (lv_at hl 1 rfl) ?_
  refine vp_callSi (W.runV (As := [.int (iN i)]) (rest := []) ⟨hx, hb, hml, hown, hts⟩ (c_X8_isKnown l G w came now bc i e0 (p0) (p1.1)) (cwV 1 hts gX8_gone_X8_isKnown rfl rfl rfl (by decide +kernel) ⟨Nat.le_of_ble_eq_true rfl, Nat.le_of_ble_eq_true rfl⟩) (f_preV hP hK 0 (by omega) 7 e0 rfl) rfl rfl hl.1 rfl (lv_room (Nat.le_of_ble_eq_true rfl)) dX8_gone_2 ⟨Nat.zero_le _, Nat.zero_le _⟩) (fun r_1 hr_1 => ?_)
  rw [show r_1 = iN (if (0 ≤ i ∧ i < (came : Int)) then 1 else 0) from hr_1]
  refine n_ifb_ne (tgt := 11) hx hb dX8_gone_5 (by decide) (fun c_5 => ?_) (fun c_5 => ?_)
  · have hVi := p1.2 i.toNat (by omega)
    obtain ⟨hv1, hv2, hv3, hv4⟩ := hVi
    have hv20 := hv2 0 (by omega)
    refine lv_aload_n hx hb dX8_gone_11 rfl (lv_at hl 0 rfl) ?_
    refine f_get (C := RX8) (T := TX8) (N := 11) hx hb hts (by decide +kernel) hown hK hP 0 (by omega) e0 rfl 0 (by decide) (hts (.fieldLink RX8 11 "KeptMoving" "courses" "[LKeptMoving$Course;") (by decide +kernel)) (fun _ h9 => h9) rfl dX8_gone_12 ?_
    refine lv_iload_n hx hb dX8_gone_15 rfl (lv_at hl 1 rfl) ?_
    refine n_aldq hx hb hK hP i.toNat (by omega) (by omega) dX8_gone_16 ?_
    refine lv_astore_n (lv' := [(2, .ref (gad G (19 + 4 * i.toNat))), (0, .ref (gad G 0)), (1, .int (iN i))]) hx hb dX8_gone_17 rfl hl (by decide) rfl (fun ls hl => ?_)
    refine lv_aload_n hx hb dX8_gone_18 rfl (lv_at hl 0 rfl) ?_
    obtain ⟨x_2, x_3, x_4, x_5⟩ := hC i.toNat (by omega)
    refine vp_callSi (va_Run.run (va_runVN (As := []) (rest := []) ⟨hx, hb, hml, hown, hts⟩ (c_X0_isStopped l G w i.toNat (cst i.toNat) (cpl i.toNat) (csp i.toNat) (cnp i.toNat) (cstop i.toNat) x_2 x_3 x_4 x_5 (by omega) (hv3)) ⟨va_cnB 0 hts gX8_gone_X0_isStopped_n84 rfl rfl rfl (hK.nm 8 rfl) (hts (.initialized RX0) (by decide +kernel)) (by decide +kernel) ⟨Nat.le_of_ble_eq_true rfl, Nat.le_of_ble_eq_true rfl⟩, hts (.instanceMethod yX0_isStopped) (by decide +kernel), hts (.selects RX0 yX0_isStopped yX0_isStopped) (by decide +kernel)⟩ (f_preV hP hK (19 + 4 * i.toNat) (by omega) 0 x_2 rfl) rfl rfl hl.1 rfl (lv_room (Nat.le_of_ble_eq_true rfl)) dX8_gone_19 ⟨Nat.zero_le _, Nat.zero_le _⟩)) (fun r_6 hr_6 => ?_)
    rw [show r_6 = iN (if ((cstop i.toNat) ≠ -1) then 1 else 0) from hr_6]
    refine n_ifb_ne (tgt := 36) hx hb dX8_gone_22 (by decide) (fun c_22 => ?_) (fun c_22 => ?_)
    · refine n_ldc (z := (-100003)) hx hb hown (hts (.constant RX8 88 (-100003)) (by decide +kernel)) (by decide) dX8_gone_36 ?_
      exact r_i hx hb hr dX8_gone_38 hlocks hP hS ⟨(show iN (-100003) = iN _ by rw [if_pos (by omega), if_neg (by omega)]), (fun k _ => rfl), (by rw [if_neg (show ¬ (0 ≤ i ∧ i < (came : Int) ∧ cstop i.toNat = -1 ∧ cst i.toNat 0 ≠ (now : Int)) by omega), if_neg (show ¬ (0 ≤ i ∧ i < (came : Int) ∧ cstop i.toNat = -1 ∧ cst i.toNat 0 ≠ (now : Int)) by omega), if_neg (show ¬ (0 ≤ i ∧ i < (came : Int) ∧ cstop i.toNat = -1 ∧ cst i.toNat 0 ≠ (now : Int)) by omega), if_neg (show ¬ (0 ≤ i ∧ i < (came : Int) ∧ cstop i.toNat = -1 ∧ cst i.toNat 0 ≠ (now : Int)) by omega), if_neg (show ¬ (0 ≤ i ∧ i < (came : Int) ∧ cstop i.toNat = -1 ∧ cst i.toNat 0 ≠ (now : Int)) by omega)]; exact hC)⟩
    · refine lv_aload_n hx hb dX8_gone_25 rfl (lv_at hl 0 rfl) ?_
      refine vp_callSi (va_Run.run (va_runVN (As := []) (rest := []) ⟨hx, hb, hml, hown, hts⟩ (c_X0_began l G w i.toNat (cst i.toNat) (cpl i.toNat) (csp i.toNat) (cnp i.toNat) (cstop i.toNat) x_2 x_3 x_4 x_5 (by omega)) ⟨va_cnB 0 hts gX8_gone_X0_began_n100 rfl rfl rfl (hK.nm 12 rfl) (hts (.initialized RX0) (by decide +kernel)) (by decide +kernel) ⟨Nat.le_of_ble_eq_true rfl, Nat.le_of_ble_eq_true rfl⟩, hts (.instanceMethod yX0_began) (by decide +kernel), hts (.selects RX0 yX0_began yX0_began) (by decide +kernel)⟩ (f_preV hP hK (19 + 4 * i.toNat) (by omega) 0 x_2 rfl) rfl rfl hl.1 rfl (lv_room (Nat.le_of_ble_eq_true rfl)) dX8_gone_26 ⟨Nat.zero_le _, Nat.zero_le _⟩)) (fun r_7 hr_7 => ?_)
      rw [show r_7 = iN ((cst i.toNat) 0) from hr_7]
      refine lv_aload_n hx hb dX8_gone_29 rfl (lv_at hl 1 rfl) ?_
      refine f_get (C := RX8) (T := TX8) (N := 11) hx hb hts (by decide +kernel) hown hK hP 0 (by omega) e0 rfl 2 (by decide) (hts (.fieldLink RX8 72 "KeptMoving" "now" "I") (by decide +kernel)) (fun _ h9 => h9) rfl dX8_gone_30 ?_
      refine n_icmp_ne (tgt := 39) hx hb dX8_gone_33 (by decide) (by omega) (by omega) (by omega) (by omega) (fun c_33 => ?_) (fun c_33 => ?_)
      · refine lv_aload_n hx hb dX8_gone_39 rfl (lv_at hl 0 rfl) ?_
        refine lv_aload_n hx hb dX8_gone_40 rfl (lv_at hl 1 rfl) ?_
        refine f_get (C := RX8) (T := TX8) (N := 11) hx hb hts (by decide +kernel) hown hK hP 0 (by omega) e0 rfl 2 (by decide) (hts (.fieldLink RX8 72 "KeptMoving" "now" "I") (by decide +kernel)) (fun _ h9 => h9) rfl dX8_gone_41 ?_
        refine f_callv (va_Run.run (va_runVN (As := [.int (iN ((now : Nat) : Int))]) (rest := []) ⟨hx, hb, hml, hown, hts⟩ (c_X0_stop l G w i.toNat (cst i.toNat) (cpl i.toNat) (csp i.toNat) (cnp i.toNat) (cstop i.toNat) ((now : Nat) : Int) x_2 x_3 x_4 x_5 (by omega)) ⟨va_cnB 1 hts gX8_gone_X0_stop_n103 rfl rfl rfl (hK.nm 13 rfl) (hts (.initialized RX0) (by decide +kernel)) (by decide +kernel) ⟨Nat.le_of_ble_eq_true rfl, Nat.le_of_ble_eq_true rfl⟩, hts (.instanceMethod yX0_stop) (by decide +kernel), hts (.selects RX0 yX0_stop yX0_stop) (by decide +kernel)⟩ (f_preV hP hK (19 + 4 * i.toNat) (by omega) 0 x_2 rfl) rfl rfl hl.1 rfl (lv_room (Nat.le_of_ble_eq_true rfl)) dX8_gone_44 ⟨Nat.zero_le _, Nat.zero_le _⟩)) hS hAA (fun w_8 H locs q_9 hP hS => ?_)
        obtain ⟨fr_10, e_11⟩ := q_9
        have e_12 : w_8 0 = .inr (7, [.ref (gad G 1), .int (iN ((came : Nat) : Int)), .int (iN ((now : Nat) : Int)), .ref (gad G 2), .ref (gad G 5), .int (iN ((bc : Nat) : Int)), .ref (gad G 6), .ref (gad G 10), .ref (gad G 14), .ref (gad G 15), .ref (gad G 18)]) := (fr_10 0 (by omega)).trans e0
        have e_13 : w_8 (19 + 4 * i.toNat + 1) = .inl (gI G, 8, .inl (aN (cst i.toNat))) := (fr_10 (19 + 4 * i.toNat + 1) (by omega)).trans x_3
        have e_14 : w_8 (19 + 4 * i.toNat + 2) = .inl (gI G, 8, .inl (aN (cpl i.toNat))) := (fr_10 (19 + 4 * i.toNat + 2) (by omega)).trans x_4
        have e_15 : w_8 (19 + 4 * i.toNat + 3) = .inl (gI G, 8, .inl (aN (csp i.toNat))) := (fr_10 (19 + 4 * i.toNat + 3) (by omega)).trans x_5
        have e_16 : w_8 (19 + 4 * i.toNat) = .inr (0, [.ref (gad G (19 + 4 * i.toNat + 1)), .ref (gad G (19 + 4 * i.toNat + 2)), .ref (gad G (19 + 4 * i.toNat + 3)), .int (iN (((cnp i.toNat) : Nat) : Int)), .int (iN ((now : Nat) : Int))]) := e_11
        have hC_17 : FAM G w_8 (va_up cst i.toNat (cst i.toNat)) (va_up cpl i.toNat (cpl i.toNat)) (va_up csp i.toNat (csp i.toNat)) (va_up cnp i.toNat (cnp i.toNat)) (va_up cstop i.toNat ((now : Nat) : Int)) := hC.put (i := i.toNat) (by omega) (fun k h0 h1 h2 h3 => fr_10 k (by omega)) e_16 e_13 e_14 e_15
        refine n_iconst hx hb dX8_gone_47 ?_
        exact r_i hx hb hr dX8_gone_48 hlocks hP hS ⟨(show iN 1 = iN _ by rw [if_pos (by omega), if_pos (by omega)]), (fun k hf => fr_10 k (by omega)), (by rw [if_pos (show 0 ≤ i ∧ i < (came : Int) ∧ cstop i.toNat = -1 ∧ cst i.toNat 0 ≠ (now : Int) by omega), if_pos (show 0 ≤ i ∧ i < (came : Int) ∧ cstop i.toNat = -1 ∧ cst i.toNat 0 ≠ (now : Int) by omega), if_pos (show 0 ≤ i ∧ i < (came : Int) ∧ cstop i.toNat = -1 ∧ cst i.toNat 0 ≠ (now : Int) by omega), if_pos (show 0 ≤ i ∧ i < (came : Int) ∧ cstop i.toNat = -1 ∧ cst i.toNat 0 ≠ (now : Int) by omega), if_pos (show 0 ≤ i ∧ i < (came : Int) ∧ cstop i.toNat = -1 ∧ cst i.toNat 0 ≠ (now : Int) by omega)]; exact hC_17)⟩
      · refine n_ldc (z := (-100003)) hx hb hown (hts (.constant RX8 88 (-100003)) (by decide +kernel)) (by decide) dX8_gone_36 ?_
        exact r_i hx hb hr dX8_gone_38 hlocks hP hS ⟨(show iN (-100003) = iN _ by rw [if_pos (by omega), if_neg (by omega)]), (fun k _ => rfl), (by rw [if_neg (show ¬ (0 ≤ i ∧ i < (came : Int) ∧ cstop i.toNat = -1 ∧ cst i.toNat 0 ≠ (now : Int)) by omega), if_neg (show ¬ (0 ≤ i ∧ i < (came : Int) ∧ cstop i.toNat = -1 ∧ cst i.toNat 0 ≠ (now : Int)) by omega), if_neg (show ¬ (0 ≤ i ∧ i < (came : Int) ∧ cstop i.toNat = -1 ∧ cst i.toNat 0 ≠ (now : Int)) by omega), if_neg (show ¬ (0 ≤ i ∧ i < (came : Int) ∧ cstop i.toNat = -1 ∧ cst i.toNat 0 ≠ (now : Int)) by omega), if_neg (show ¬ (0 ≤ i ∧ i < (came : Int) ∧ cstop i.toNat = -1 ∧ cst i.toNat 0 ≠ (now : Int)) by omega)]; exact hC)⟩
  · refine n_ldc (z := (-100001)) hx hb hown (hts (.constant RX8 83 (-100001)) (by decide +kernel)) (by decide) dX8_gone_8 ?_
    exact r_i hx hb hr dX8_gone_10 hlocks hP hS ⟨(show iN (-100001) = iN _ by rw [if_neg (by omega)]), (fun k _ => rfl), (by rw [if_neg (show ¬ (0 ≤ i ∧ i < (came : Int) ∧ cstop i.toNat = -1 ∧ cst i.toNat 0 ≠ (now : Int)) by omega), if_neg (show ¬ (0 ≤ i ∧ i < (came : Int) ∧ cstop i.toNat = -1 ∧ cst i.toNat 0 ≠ (now : Int)) by omega), if_neg (show ¬ (0 ≤ i ∧ i < (came : Int) ∧ cstop i.toNat = -1 ∧ cst i.toNat 0 ≠ (now : Int)) by omega), if_neg (show ¬ (0 ≤ i ∧ i < (came : Int) ∧ cstop i.toNat = -1 ∧ cst i.toNat 0 ≠ (now : Int)) by omega), if_neg (show ¬ (0 ≤ i ∧ i < (came : Int) ∧ cstop i.toNat = -1 ∧ cst i.toNat 0 ≠ (now : Int)) by omega)]; exact hC)⟩

set_option maxHeartbeats 4000000 in
set_option maxRecDepth 100000 in
theorem c_X8_go (l : Launch) (G : GE) (w : WF) (came : Nat) (now : Nat) (bc : Nat) (n : Int) (e0 : w 0 = .inr (7, [.ref (gad G 1), .int (iN ((came : Nat) : Int)), .int (iN ((now : Nat) : Int)), .ref (gad G 2), .ref (gad G 5), .int (iN ((bc : Nat) : Int)), .ref (gad G 6), .ref (gad G 10), .ref (gad G 14), .ref (gad G 15), .ref (gad G 18)])) (p0 : -2147483648 ≤ n ∧ n < 2147483648) (p1 : now ≤ 400) : Met l yX8_go wsX8_go ({ frames := 1, cells := 0, slots := 0, locals := 22 }) (PcG G w [.ref (gad G 0), .int (iN n)]) (QI G (fun r w1 => r = iN (if 0 ≤ n ∧ n ≤ 100 then (if (now : Int) + n ≤ 400 then (now : Int) + n else -100003) else -100002) ∧ (∀ k : Nat, k ≠ 0 → w1 k = w k) ∧ w1 0 = .inr (7, [.ref (gad G 1), .int (iN ((came : Nat) : Int)), .int (iN ((if 0 ≤ n ∧ n ≤ 100 ∧ (now : Int) + n ≤ 400 then now + n.toNat else now : Nat) : Int)), .ref (gad G 2), .ref (gad G 5), .int (iN ((bc : Nat) : Int)), .ref (gad G 6), .ref (gad G 10), .ref (gad G 14), .ref (gad G 15), .ref (gad G 18)]))) 0 0 (AA G) := by
  refine Met.ofW (cc := cX8_go) (maxL := 2) (ret := (some .int)) (by decide) rfl ?_
  intro p e s m args below meth c s₁ B hml hv
  obtain ⟨rfl, hP, hK⟩ := hv
  have hx := B.exec
  have hb := B.bytes
  have hr := B.returns
  have hts := atoms_spec (ws := wsX8_go) B.pre
  have hown : s.vm.findClass RX8 = some m.cls := findClass_of_methodNamed B.named
  have hlocks := B.notSynchronized
  have hS : va_S (AA G) s.heap s.heap [] := va_S.rf
  have hAA : ∀ q, AA G q → AA G q := fun _ h => h
  have hl := lv_entry ([.ref (gad G 0), .int (iN n)]) (n := 2) (Nat.le_of_ble_eq_true rfl)
  rw [lg_entry_eq]
  generalize (lg_sl ([.ref (gad G 0), .int (iN n)]) ++ List.replicate (2 - (lg_sl ([.ref (gad G 0), .int (iN n)])).length) Slot.unset).toArray = ls at hl ⊢
  have hl : lv_has ls 2 [(0, .ref (gad G 0)), (1, .int (iN n))] := hl
  refine lv_iload_n hx hb dX8_go_0 rfl (lv_at hl 1 rfl) ?_
  refine n_iconst hx hb dX8_go_1 ?_
  refine n_bipush hx hb dX8_go_2 (by decide) ?_
  refine vp_callSi (W.runS (As := [.int (iN n), .int (iN 0), .int (iN 100)]) (rest := []) ⟨hx, hb, hml, hown, hts⟩ (c_X8_isFromTo l n 0 100 (p0) (by omega) (by omega)) (va_cwS 3 hts gX8_go_X8_isFromTo rfl rfl rfl (by decide +kernel) ⟨Nat.le_of_ble_eq_true rfl, Nat.le_of_ble_eq_true rfl⟩) ⟨fun _ _ _ _ q => q, fun _ _ _ => rfl⟩ rfl rfl hl.1 rfl (lv_room (Nat.le_of_ble_eq_true rfl)) dX8_go_4 ⟨Nat.zero_le _, Nat.zero_le _⟩) (fun r_1 hr_1 => ?_)
  rw [show r_1 = iN (if (0 ≤ n ∧ n ≤ 100) then 1 else 0) from hr_1]
  refine n_ifb_ne (tgt := 13) hx hb dX8_go_7 (by decide) (fun c_7 => ?_) (fun c_7 => ?_)
  · refine lv_aload_n hx hb dX8_go_13 rfl (lv_at hl 0 rfl) ?_
    refine f_get (C := RX8) (T := TX8) (N := 11) hx hb hts (by decide +kernel) hown hK hP 0 (by omega) e0 rfl 2 (by decide) (hts (.fieldLink RX8 72 "KeptMoving" "now" "I") (by decide +kernel)) (fun _ h9 => h9) rfl dX8_go_14 ?_
    refine lv_iload_n hx hb dX8_go_17 rfl (lv_at hl 1 rfl) ?_
    refine n_iadd hx hb dX8_go_18 ?_
    refine n_sipush hx hb dX8_go_19 (by decide) ?_
    refine n_icmp_le (tgt := 28) hx hb dX8_go_22 (by decide) (by omega) (by omega) (by omega) (by omega) (fun c_22 => ?_) (fun c_22 => ?_)
    · refine lv_aload_n hx hb dX8_go_28 rfl (lv_at hl 0 rfl) ?_
      refine lv_dup hx hb dX8_go_29 rfl ?_
      refine f_get (C := RX8) (T := TX8) (N := 11) hx hb hts (by decide +kernel) hown hK hP 0 (by omega) e0 rfl 2 (by decide) (hts (.fieldLink RX8 72 "KeptMoving" "now" "I") (by decide +kernel)) (fun _ h9 => h9) rfl dX8_go_30 ?_
      refine lv_iload_n hx hb dX8_go_33 rfl (lv_at hl 1 rfl) ?_
      refine n_iadd hx hb dX8_go_34 ?_
      refine n_top (A := ((now : Nat) : Int) + n) (B := ((now + n.toNat : Nat) : Int)) (by omega) ?_
      refine f_put (v := .int (iN ((now + n.toNat : Nat) : Int))) (ty := .int) (C := RX8) (T := TX8) (N := 11) hx hb hts (by decide +kernel) tyX8 tyX8_ok nmX8 hown hK hP hS hAA 0 (by omega) e0 rfl 2 (by decide) (hts (.fieldLink RX8 72 "KeptMoving" "now" "I") (by decide +kernel)) (fun _ h9 => h9) rfl (by decide +kernel) (rfl) (rfl) (Nat.le_of_ble_eq_true rfl) (rfl) dX8_go_35 (fun H locs hP hS => ?_)
      have hP : PW G (va_up w 0 (.inr (7, [.ref (gad G 1), .int (iN ((came : Nat) : Int)), .int (iN ((now + n.toNat : Nat) : Int)), .ref (gad G 2), .ref (gad G 5), .int (iN ((bc : Nat) : Int)), .ref (gad G 6), .ref (gad G 10), .ref (gad G 14), .ref (gad G 15), .ref (gad G 18)]))) H := hP
      obtain ⟨w_2, hw_3⟩ : ∃ z : WF, z = va_up w 0 (.inr (7, [.ref (gad G 1), .int (iN ((came : Nat) : Int)), .int (iN ((now + n.toNat : Nat) : Int)), .ref (gad G 2), .ref (gad G 5), .int (iN ((bc : Nat) : Int)), .ref (gad G 6), .ref (gad G 10), .ref (gad G 14), .ref (gad G 15), .ref (gad G 18)])) := ⟨_, rfl⟩
      rw [← hw_3] at hP
      have fr_4 : ∀ k : Nat, k ≠ 0 → w_2 k = w k := fun k h => by rw [hw_3]; exact va_up_ne _ _ h
      have e_5 : w_2 0 = .inr (7, [.ref (gad G 1), .int (iN ((came : Nat) : Int)), .int (iN ((now + n.toNat : Nat) : Int)), .ref (gad G 2), .ref (gad G 5), .int (iN ((bc : Nat) : Int)), .ref (gad G 6), .ref (gad G 10), .ref (gad G 14), .ref (gad G 15), .ref (gad G 18)]) := by rw [hw_3]; exact va_up_self _ _ _
      refine lv_aload_n hx hb dX8_go_38 rfl (lv_at hl 0 rfl) ?_
      refine f_get (C := RX8) (T := TX8) (N := 11) hx hb hts (by decide +kernel) hown hK hP 0 (by omega) e_5 rfl 2 (by decide) (hts (.fieldLink RX8 72 "KeptMoving" "now" "I") (by decide +kernel)) (fun _ h9 => h9) rfl dX8_go_39 ?_
      exact r_i hx hb hr dX8_go_42 hlocks hP hS ⟨(congrArg iN (by rw [if_pos (by omega), if_pos (by omega)]; omega)), (fun k h0 => fr_4 k (by omega)), (by rw [if_pos (show 0 ≤ n ∧ n ≤ 100 ∧ (now : Int) + n ≤ 400 by omega)]; exact e_5)⟩
    · refine n_ldc (z := (-100003)) hx hb hown (hts (.constant RX8 88 (-100003)) (by decide +kernel)) (by decide) dX8_go_25 ?_
      exact r_i hx hb hr dX8_go_27 hlocks hP hS ⟨(show iN (-100003) = iN _ by rw [if_pos (by omega), if_neg (by omega)]), (fun k _ => rfl), (by rw [if_neg (show ¬ (0 ≤ n ∧ n ≤ 100 ∧ (now : Int) + n ≤ 400) by omega)]; exact e0)⟩
  · refine n_ldc (z := (-100002)) hx hb hown (hts (.constant RX8 66 (-100002)) (by decide +kernel)) (by decide) dX8_go_10 ?_
    exact r_i hx hb hr dX8_go_12 hlocks hP hS ⟨(show iN (-100002) = iN _ by rw [if_neg (by omega)]), (fun k _ => rfl), (by rw [if_neg (show ¬ (0 ≤ n ∧ n ≤ 100 ∧ (now : Int) + n ≤ 400) by omega)]; exact e0)⟩

def cutC (cst : Nat → Nat → Int) (t : Int) : Nat → Nat
  | 0 => 0
  | k + 1 => if t ≤ cst k 0 then cutC cst t k else k + 1
theorem cutC_le (cst : Nat → Nat → Int) (t : Int) : ∀ k, cutC cst t k ≤ k
  | 0 => Nat.le_refl 0
  | k + 1 => by
    have := cutC_le cst t k
    unfold cutC
    split <;> omega
theorem cutC_step {cst : Nat → Nat → Int} {t : Int} {q : Nat} (h : 0 < q) (h2 : t ≤ cst (q - 1) 0) : cutC cst t q = cutC cst t (q - 1) := by
  obtain ⟨k, rfl⟩ : ∃ k, q = k + 1 := ⟨q - 1, by omega⟩
  exact if_pos h2
theorem cutC_end {cst : Nat → Nat → Int} {t : Int} {q : Nat} (h : q = 0 ∨ cst (q - 1) 0 < t) : cutC cst t q = q := by
  rcases Nat.eq_zero_or_pos q with z | z
  · subst z
    rfl
  · obtain ⟨k, rfl⟩ : ∃ k, q = k + 1 := ⟨q - 1, by omega⟩
    refine if_neg fun z2 => ?_
    rcases h with h | h
    · omega
    · have : cst (k + 1 - 1) 0 = cst k 0 := rfl
      omega
def ufN (cst : Nat → Nat → Int) (t : Int) (cnp : Nat → Nat) (r : Nat) : Nat → Nat := fun j => if j < r then cutP (cst j) t (cnp j) else cnp j
def ufS (t : Int) (cstop : Nat → Int) (r : Nat) : Nat → Int := fun j => if j < r then (if t ≤ cstop j then (-1) else cstop j) else cstop j
theorem ufN_0 (cst : Nat → Nat → Int) (t : Int) (cnp : Nat → Nat) : ufN cst t cnp 0 = cnp := funext fun _ => if_neg (Nat.not_lt_zero _)
theorem ufS_0 (t : Int) (cstop : Nat → Int) : ufS t cstop 0 = cstop := funext fun _ => if_neg (Nat.not_lt_zero _)
theorem va_up_id {α : Type} (f : Nat → α) (k : Nat) : va_up f k (f k) = f := funext fun j => by
  unfold va_up
  split
  · rename_i h
    rw [h]
  · rfl
theorem ufN_s (cst : Nat → Nat → Int) (t : Int) (cnp : Nat → Nat) (r : Nat) : va_up (ufN cst t cnp r) r (cutP (cst r) t (ufN cst t cnp r r)) = ufN cst t cnp (r + 1) := funext fun j => by
  unfold va_up ufN
  by_cases h : j = r
  · subst h
    simp only [Nat.lt_irrefl, Nat.lt_succ_self, if_true, if_false]
  · rw [if_neg h]
    by_cases h2 : j < r
    · rw [if_pos h2, if_pos (show j < r + 1 by omega)]
    · rw [if_neg h2, if_neg (show ¬ j < r + 1 by omega)]
theorem ufS_s (t : Int) (cstop : Nat → Int) (r : Nat) : va_up (ufS t cstop r) r (if t ≤ ufS t cstop r r then (-1) else ufS t cstop r r) = ufS t cstop (r + 1) := funext fun j => by
  unfold va_up ufS
  by_cases h : j = r
  · subst h
    simp only [Nat.lt_irrefl, Nat.lt_succ_self, if_true, if_false]
  · rw [if_neg h]
    by_cases h2 : j < r
    · rw [if_pos h2, if_pos (show j < r + 1 by omega)]
    · rw [if_neg h2, if_neg (show ¬ j < r + 1 by omega)]

set_option maxHeartbeats 4000000 in
set_option maxRecDepth 100000 in
theorem c_X8_undoFromNow (l : Launch) (G : GE) (w : WF) (came : Nat) (now : Nat) (bc : Nat) (cst : Nat → Nat → Int) (cpl : Nat → Nat → Int) (csp : Nat → Nat → Int) (cnp : Nat → Nat) (cstop : Nat → Int) (e0 : w 0 = .inr (7, [.ref (gad G 1), .int (iN ((came : Nat) : Int)), .int (iN ((now : Nat) : Int)), .ref (gad G 2), .ref (gad G 5), .int (iN ((bc : Nat) : Int)), .ref (gad G 6), .ref (gad G 10), .ref (gad G 14), .ref (gad G 15), .ref (gad G 18)])) (hC : FAM G w cst cpl csp cnp cstop) (p0 : OKS came cst cpl csp cnp cstop) (p1 : now ≤ 400) : Met l yX8_undoFromNow wsX8_undoFromNow ({ frames := 1, cells := 0, slots := 0, locals := 21 }) (PcG G w [.ref (gad G 0)]) (QV G (fun w1 => (∀ k : Nat, k ≠ 0 → k < 19 ∨ 59 ≤ k → w1 k = w k) ∧ w1 0 = .inr (7, [.ref (gad G 1), .int (iN ((cutC cst (now : Int) came : Nat) : Int)), .int (iN ((now : Nat) : Int)), .ref (gad G 2), .ref (gad G 5), .int (iN ((bc : Nat) : Int)), .ref (gad G 6), .ref (gad G 10), .ref (gad G 14), .ref (gad G 15), .ref (gad G 18)]) ∧ FAM G w1 cst cpl csp (ufN cst (now : Int) cnp (cutC cst (now : Int) came)) (ufS (now : Int) cstop (cutC cst (now : Int) came)))) 0 0 (AA G) := by
  refine Met.ofW (cc := cX8_undoFromNow) (maxL := 2) (ret := none) (by decide) rfl ?_
  intro p e s m args below meth c s₁ B hml hv
  obtain ⟨rfl, hP, hK⟩ := hv
  have hx := B.exec
  have hb := B.bytes
  have hr := B.returns
  have hts := atoms_spec (ws := wsX8_undoFromNow) B.pre
  have hown : s.vm.findClass RX8 = some m.cls := findClass_of_methodNamed B.named
  have hlocks := B.notSynchronized
  have hS : va_S (AA G) s.heap s.heap [] := va_S.rf
  have hAA : ∀ q, AA G q → AA G q := fun _ h => h
  have hl := lv_entry ([.ref (gad G 0)]) (n := 2) (Nat.le_of_ble_eq_true rfl)
  rw [lg_entry_eq]
  generalize (lg_sl ([.ref (gad G 0)]) ++ List.replicate (2 - (lg_sl ([.ref (gad G 0)])).length) Slot.unset).toArray = ls at hl ⊢
  have hl : lv_has ls 2 [(0, .ref (gad G 0))] := hl
  have hc10 : came ≤ 10 := p0.1
  have K0 : ∀ (N : Nat) (q : Nat) (w2 : WF) (H : Heap) (locs : List Loc) (ls : Array Slot), (q ≤ came) → (cutC cst (now : Int) q = cutC cst (now : Int) came) → q < N → w2 0 = .inr (7, [.ref (gad G 1), .int (iN ((q : Nat) : Int)), .int (iN ((now : Nat) : Int)), .ref (gad G 2), .ref (gad G 5), .int (iN ((bc : Nat) : Int)), .ref (gad G 6), .ref (gad G 10), .ref (gad G 14), .ref (gad G 15), .ref (gad G 18)]) → (∀ k : Nat, k ≠ 0 → w2 k = w k) → PW G w2 H → va_S (AA G) s.heap H locs → lv_has ls 2 [(0, .ref (gad G 0))] → W p l e (headSpec wsX8_undoFromNow ({ frames := 1, cells := 0, slots := 0, locals := 21 })).room s m (([.ref (gad G 0)] : List Value).toArray) below meth c H locs 0 0 (MQ below (QV G (fun w1 => (∀ k : Nat, k ≠ 0 → k < 19 ∨ 59 ≤ k → w1 k = w k) ∧ w1 0 = .inr (7, [.ref (gad G 1), .int (iN ((cutC cst (now : Int) came : Nat) : Int)), .int (iN ((now : Nat) : Int)), .ref (gad G 2), .ref (gad G 5), .int (iN ((bc : Nat) : Int)), .ref (gad G 6), .ref (gad G 10), .ref (gad G 14), .ref (gad G 15), .ref (gad G 18)]) ∧ FAM G w1 cst cpl csp (ufN cst (now : Int) cnp (cutC cst (now : Int) came)) (ufS (now : Int) cstop (cutC cst (now : Int) came)))) (([.ref (gad G 0)] : List Value).toArray) s 0 0 (AA G)) (F0 m 0 ls []) := by
    intro N
    induction N with
    | zero =>
      intros
      exfalso
      omega
    | succ N ih0 =>
      intro q w2 H locs ls i0_0 i0_1 hN0 f0_0 hfr0 hP hS hl
      have hC0 : FAM G w2 cst cpl csp cnp cstop := hC.keep (fun k h1 h2 => hfr0 k (by omega))
      refine lv_aload_n hx hb dX8_undoFromNow_0 rfl (lv_at hl 0 rfl) ?_
      refine f_get (C := RX8) (T := TX8) (N := 11) hx hb hts (by decide +kernel) hown hK hP 0 (by omega) f0_0 rfl 1 (by decide) (hts (.fieldLink RX8 67 "KeptMoving" "came" "I") (by decide +kernel)) (fun _ h9 => h9) rfl dX8_undoFromNow_1 ?_
      refine n_if_le (tgt := 41) hx hb dX8_undoFromNow_4 (by decide) (by omega) (by omega) (fun c_4 => ?_) (fun c_4 => ?_)
      · have hcc : cutC cst (now : Int) came = q := by rw [← i0_1]; exact cutC_end (by omega)
        refine n_iconst hx hb dX8_undoFromNow_41 ?_
        refine lv_istore_n (lv' := [(1, .int (iN 0)), (0, .ref (gad G 0))]) hx hb dX8_undoFromNow_42 rfl hl (by decide) rfl (fun ls hl => ?_)
        have hc10 := p0.1
        have K43 : ∀ (N : Nat) (r : Nat) (w2 : WF) (H : Heap) (locs : List Loc) (ls : Array Slot), (r ≤ q) → 11 - r < N → w2 0 = .inr (7, [.ref (gad G 1), .int (iN ((q : Nat) : Int)), .int (iN ((now : Nat) : Int)), .ref (gad G 2), .ref (gad G 5), .int (iN ((bc : Nat) : Int)), .ref (gad G 6), .ref (gad G 10), .ref (gad G 14), .ref (gad G 15), .ref (gad G 18)]) → (∀ k : Nat, k ≠ 0 → k < 19 ∨ 59 ≤ k → w2 k = w k) → FAM G w2 cst cpl csp (ufN cst (now : Int) cnp r) (ufS (now : Int) cstop r) → PW G w2 H → va_S (AA G) s.heap H locs → lv_has ls 2 [(0, .ref (gad G 0)), (1, .int (iN ((r : Nat) : Int)))] → W p l e (headSpec wsX8_undoFromNow ({ frames := 1, cells := 0, slots := 0, locals := 21 })).room s m (([.ref (gad G 0)] : List Value).toArray) below meth c H locs 0 0 (MQ below (QV G (fun w1 => (∀ k : Nat, k ≠ 0 → k < 19 ∨ 59 ≤ k → w1 k = w k) ∧ w1 0 = .inr (7, [.ref (gad G 1), .int (iN ((cutC cst (now : Int) came : Nat) : Int)), .int (iN ((now : Nat) : Int)), .ref (gad G 2), .ref (gad G 5), .int (iN ((bc : Nat) : Int)), .ref (gad G 6), .ref (gad G 10), .ref (gad G 14), .ref (gad G 15), .ref (gad G 18)]) ∧ FAM G w1 cst cpl csp (ufN cst (now : Int) cnp (cutC cst (now : Int) came)) (ufS (now : Int) cstop (cutC cst (now : Int) came)))) (([.ref (gad G 0)] : List Value).toArray) s 0 0 (AA G)) (F0 m 43 ls []) := by
          intro N
          induction N with
          | zero =>
            intros
            exfalso
            omega
          | succ N ih43 =>
            intro r w2 H locs ls i43_0 hN43 f43_0 hfr43 hC43 hP hS hl
            have hc10 := p0.1
            refine lv_iload_n hx hb dX8_undoFromNow_43 rfl (lv_at hl 1 rfl) ?_
            refine lv_aload_n hx hb dX8_undoFromNow_44 rfl (lv_at hl 0 rfl) ?_
            refine f_get (C := RX8) (T := TX8) (N := 11) hx hb hts (by decide +kernel) hown hK hP 0 (by omega) f43_0 rfl 1 (by decide) (hts (.fieldLink RX8 67 "KeptMoving" "came" "I") (by decide +kernel)) (fun _ h9 => h9) rfl dX8_undoFromNow_45 ?_
            refine n_icmp_ge (tgt := 70) hx hb dX8_undoFromNow_48 (by decide) (by omega) (by omega) (by omega) (by omega) (fun c_48 => ?_) (fun c_48 => ?_)
            · exact r_v hx hb hr dX8_undoFromNow_70 hlocks hP hS (⟨(fun k h0 hf => hfr43 k (by omega) (by omega)), (by rw [hcc]; exact f43_0), (by rw [hcc, show q = r by omega]; exact hC43)⟩)
            · have hc10 := p0.1
              obtain ⟨hv1, hv2, hv3, hv4⟩ := p0.2 r (by omega)
              have hn1 : ufN cst (now : Int) cnp r r = cnp r := if_neg (Nat.lt_irrefl r)
              have hs1 : ufS (now : Int) cstop r r = cstop r := if_neg (Nat.lt_irrefl r)
              refine lv_aload_n hx hb dX8_undoFromNow_51 rfl (lv_at hl 0 rfl) ?_
              refine f_get (C := RX8) (T := TX8) (N := 11) hx hb hts (by decide +kernel) hown hK hP 0 (by omega) f43_0 rfl 0 (by decide) (hts (.fieldLink RX8 11 "KeptMoving" "courses" "[LKeptMoving$Course;") (by decide +kernel)) (fun _ h9 => h9) rfl dX8_undoFromNow_52 ?_
              refine lv_iload_n hx hb dX8_undoFromNow_55 rfl (lv_at hl 1 rfl) ?_
              refine n_aldq hx hb hK hP r rfl (by omega) dX8_undoFromNow_56 ?_
              refine lv_aload_n hx hb dX8_undoFromNow_57 rfl (lv_at hl 0 rfl) ?_
              refine f_get (C := RX8) (T := TX8) (N := 11) hx hb hts (by decide +kernel) hown hK hP 0 (by omega) f43_0 rfl 2 (by decide) (hts (.fieldLink RX8 72 "KeptMoving" "now" "I") (by decide +kernel)) (fun _ h9 => h9) rfl dX8_undoFromNow_58 ?_
              obtain ⟨x_1, x_2, x_3, x_4⟩ := hC43 r (by omega)
              refine f_callv (va_Run.run (va_runVN (As := [.int (iN ((now : Nat) : Int))]) (rest := []) ⟨hx, hb, hml, hown, hts⟩ (c_X0_undoFrom l G w2 r (cst r) (cpl r) (csp r) ((ufN cst (now : Int) cnp r) r) ((ufS (now : Int) cstop r) r) ((now : Nat) : Int) x_1 x_2 x_3 x_4 (by omega) (by rw [hn1]; exact hv1) (fun p h => by rw [hn1] at h; exact hv2 p h) (by omega) (by rw [hs1]; exact hv3)) ⟨va_cnB 1 hts gX8_undoFromNow_X0_undoFrom_n217 rfl rfl rfl (hK.nm 14 rfl) (hts (.initialized RX0) (by decide +kernel)) (by decide +kernel) ⟨Nat.le_of_ble_eq_true rfl, Nat.le_of_ble_eq_true rfl⟩, hts (.instanceMethod yX0_undoFrom) (by decide +kernel), hts (.selects RX0 yX0_undoFrom yX0_undoFrom) (by decide +kernel)⟩ (f_preV hP hK (19 + 4 * r) (by omega) 0 x_1 rfl) rfl rfl hl.1 rfl (lv_room (Nat.le_of_ble_eq_true rfl)) dX8_undoFromNow_61 ⟨Nat.zero_le _, Nat.zero_le _⟩)) hS hAA (fun w_5 H locs q_6 hP hS => ?_)
              obtain ⟨fr_7, e_8⟩ := q_6
              have e_9 : w_5 0 = .inr (7, [.ref (gad G 1), .int (iN ((q : Nat) : Int)), .int (iN ((now : Nat) : Int)), .ref (gad G 2), .ref (gad G 5), .int (iN ((bc : Nat) : Int)), .ref (gad G 6), .ref (gad G 10), .ref (gad G 14), .ref (gad G 15), .ref (gad G 18)]) := (fr_7 0 (by omega)).trans f43_0
              have e_10 : w_5 (19 + 4 * r + 1) = .inl (gI G, 8, .inl (aN (cst r))) := (fr_7 (19 + 4 * r + 1) (by omega)).trans x_2
              have e_11 : w_5 (19 + 4 * r + 2) = .inl (gI G, 8, .inl (aN (cpl r))) := (fr_7 (19 + 4 * r + 2) (by omega)).trans x_3
              have e_12 : w_5 (19 + 4 * r + 3) = .inl (gI G, 8, .inl (aN (csp r))) := (fr_7 (19 + 4 * r + 3) (by omega)).trans x_4
              have e_13 : w_5 (19 + 4 * r) = .inr (0, [.ref (gad G (19 + 4 * r + 1)), .ref (gad G (19 + 4 * r + 2)), .ref (gad G (19 + 4 * r + 3)), .int (iN ((cutP (cst r) ((now : Nat) : Int) ((ufN cst (now : Int) cnp r) r) : Nat) : Int)), .int (iN (if ((now : Nat) : Int) ≤ ((ufS (now : Int) cstop r) r) then (-1) else ((ufS (now : Int) cstop r) r)))]) := e_8
              have hC_14 : FAM G w_5 (va_up cst r (cst r)) (va_up cpl r (cpl r)) (va_up csp r (csp r)) (va_up (ufN cst (now : Int) cnp r) r (cutP (cst r) ((now : Nat) : Int) ((ufN cst (now : Int) cnp r) r))) (va_up (ufS (now : Int) cstop r) r (if ((now : Nat) : Int) ≤ ((ufS (now : Int) cstop r) r) then (-1) else ((ufS (now : Int) cstop r) r))) := hC43.put (i := r) (by omega) (fun k h0 h1 h2 h3 => fr_7 k (by omega)) e_13 e_10 e_11 e_12
              refine lv_iinc (v := iN ((r + 1 : Nat) : Int)) (lv' := [(1, .int (iN ((r + 1 : Nat) : Int))), (0, .ref (gad G 0))]) hx hb dX8_undoFromNow_64 hl (k := 1) rfl (iN_incN _) (by decide) rfl (fun ls hl => ?_)
              refine lv_goto (tgt := 43) hx hb dX8_undoFromNow_67 (by decide) ?_
              have hc10 := p0.1
              exact ih43 (r + 1) w_5 _ _ _ (by omega) (by omega) (e_9) (fun k h0 hf => ((fr_7 k (by omega)).trans (hfr43 k (by omega) (by omega)))) (by rw [← ufN_s, ← ufS_s]; have hz := hC_14; rw [va_up_id, va_up_id, va_up_id] at hz; exact hz) hP hS (lv_sub hl [1, 0] rfl)
        exact K43 ((11 - 0) + 1) (0) w2 _ _ _ (by omega) (by omega) (f0_0) (fun k h0 hf => hfr0 k (by omega)) (by rw [ufN_0, ufS_0]; exact hC0) hP hS (lv_sub hl [1, 0] rfl)
      · have hVq := (p0.2 (q - 1) (by have := p0.1; omega)).2.1 0 (by have := (p0.2 (q - 1) (by have := p0.1; omega)).1; omega)
        have hc10 := p0.1
        refine lv_aload_n hx hb dX8_undoFromNow_7 rfl (lv_at hl 0 rfl) ?_
        refine f_get (C := RX8) (T := TX8) (N := 11) hx hb hts (by decide +kernel) hown hK hP 0 (by omega) f0_0 rfl 0 (by decide) (hts (.fieldLink RX8 11 "KeptMoving" "courses" "[LKeptMoving$Course;") (by decide +kernel)) (fun _ h9 => h9) rfl dX8_undoFromNow_8 ?_
        refine lv_aload_n hx hb dX8_undoFromNow_11 rfl (lv_at hl 0 rfl) ?_
        refine f_get (C := RX8) (T := TX8) (N := 11) hx hb hts (by decide +kernel) hown hK hP 0 (by omega) f0_0 rfl 1 (by decide) (hts (.fieldLink RX8 67 "KeptMoving" "came" "I") (by decide +kernel)) (fun _ h9 => h9) rfl dX8_undoFromNow_12 ?_
        refine n_iconst hx hb dX8_undoFromNow_15 ?_
        refine n_isub hx hb dX8_undoFromNow_16 ?_
        refine n_top (A := ((q : Nat) : Int) - 1) (B := ((q - 1 : Nat) : Int)) (by omega) ?_
        refine n_aldq hx hb hK hP (q - 1) (rfl) (by omega) dX8_undoFromNow_17 ?_
        obtain ⟨x_15, x_16, x_17, x_18⟩ := hC0 (q - 1) (by omega)
        refine vp_callSi (va_Run.run (va_runVN (As := []) (rest := []) ⟨hx, hb, hml, hown, hts⟩ (c_X0_began l G w2 (q - 1) (cst (q - 1)) (cpl (q - 1)) (csp (q - 1)) (cnp (q - 1)) (cstop (q - 1)) x_15 x_16 x_17 x_18 (by omega)) ⟨va_cnB 0 hts gX8_undoFromNow_X0_began_n100 rfl rfl rfl (hK.nm 12 rfl) (hts (.initialized RX0) (by decide +kernel)) (by decide +kernel) ⟨Nat.le_of_ble_eq_true rfl, Nat.le_of_ble_eq_true rfl⟩, hts (.instanceMethod yX0_began) (by decide +kernel), hts (.selects RX0 yX0_began yX0_began) (by decide +kernel)⟩ (f_preV hP hK (19 + 4 * (q - 1)) (by omega) 0 x_15 rfl) rfl rfl hl.1 rfl (lv_room (Nat.le_of_ble_eq_true rfl)) dX8_undoFromNow_18 ⟨Nat.zero_le _, Nat.zero_le _⟩)) (fun r_19 hr_19 => ?_)
        rw [show r_19 = iN ((cst (q - 1)) 0) from hr_19]
        refine lv_aload_n hx hb dX8_undoFromNow_21 rfl (lv_at hl 0 rfl) ?_
        refine f_get (C := RX8) (T := TX8) (N := 11) hx hb hts (by decide +kernel) hown hK hP 0 (by omega) f0_0 rfl 2 (by decide) (hts (.fieldLink RX8 72 "KeptMoving" "now" "I") (by decide +kernel)) (fun _ h9 => h9) rfl dX8_undoFromNow_22 ?_
        refine n_icmp_lt (tgt := 41) hx hb dX8_undoFromNow_25 (by decide) (by omega) (by omega) (by omega) (by omega) (fun c_25 => ?_) (fun c_25 => ?_)
        · have hcc : cutC cst (now : Int) came = q := by rw [← i0_1]; exact cutC_end (by omega)
          refine n_iconst hx hb dX8_undoFromNow_41 ?_
          refine lv_istore_n (lv' := [(1, .int (iN 0)), (0, .ref (gad G 0))]) hx hb dX8_undoFromNow_42 rfl hl (by decide) rfl (fun ls hl => ?_)
          have hc10 := p0.1
          have K43 : ∀ (N : Nat) (r : Nat) (w2 : WF) (H : Heap) (locs : List Loc) (ls : Array Slot), (r ≤ q) → 11 - r < N → w2 0 = .inr (7, [.ref (gad G 1), .int (iN ((q : Nat) : Int)), .int (iN ((now : Nat) : Int)), .ref (gad G 2), .ref (gad G 5), .int (iN ((bc : Nat) : Int)), .ref (gad G 6), .ref (gad G 10), .ref (gad G 14), .ref (gad G 15), .ref (gad G 18)]) → (∀ k : Nat, k ≠ 0 → k < 19 ∨ 59 ≤ k → w2 k = w k) → FAM G w2 cst cpl csp (ufN cst (now : Int) cnp r) (ufS (now : Int) cstop r) → PW G w2 H → va_S (AA G) s.heap H locs → lv_has ls 2 [(0, .ref (gad G 0)), (1, .int (iN ((r : Nat) : Int)))] → W p l e (headSpec wsX8_undoFromNow ({ frames := 1, cells := 0, slots := 0, locals := 21 })).room s m (([.ref (gad G 0)] : List Value).toArray) below meth c H locs 0 0 (MQ below (QV G (fun w1 => (∀ k : Nat, k ≠ 0 → k < 19 ∨ 59 ≤ k → w1 k = w k) ∧ w1 0 = .inr (7, [.ref (gad G 1), .int (iN ((cutC cst (now : Int) came : Nat) : Int)), .int (iN ((now : Nat) : Int)), .ref (gad G 2), .ref (gad G 5), .int (iN ((bc : Nat) : Int)), .ref (gad G 6), .ref (gad G 10), .ref (gad G 14), .ref (gad G 15), .ref (gad G 18)]) ∧ FAM G w1 cst cpl csp (ufN cst (now : Int) cnp (cutC cst (now : Int) came)) (ufS (now : Int) cstop (cutC cst (now : Int) came)))) (([.ref (gad G 0)] : List Value).toArray) s 0 0 (AA G)) (F0 m 43 ls []) := by
            intro N
            induction N with
            | zero =>
              intros
              exfalso
              omega
            | succ N ih43 =>
              intro r w2 H locs ls i43_0 hN43 f43_0 hfr43 hC43 hP hS hl
              have hc10 := p0.1
              refine lv_iload_n hx hb dX8_undoFromNow_43 rfl (lv_at hl 1 rfl) ?_
              refine lv_aload_n hx hb dX8_undoFromNow_44 rfl (lv_at hl 0 rfl) ?_
              refine f_get (C := RX8) (T := TX8) (N := 11) hx hb hts (by decide +kernel) hown hK hP 0 (by omega) f43_0 rfl 1 (by decide) (hts (.fieldLink RX8 67 "KeptMoving" "came" "I") (by decide +kernel)) (fun _ h9 => h9) rfl dX8_undoFromNow_45 ?_
              refine n_icmp_ge (tgt := 70) hx hb dX8_undoFromNow_48 (by decide) (by omega) (by omega) (by omega) (by omega) (fun c_48 => ?_) (fun c_48 => ?_)
              · exact r_v hx hb hr dX8_undoFromNow_70 hlocks hP hS (⟨(fun k h0 hf => hfr43 k (by omega) (by omega)), (by rw [hcc]; exact f43_0), (by rw [hcc, show q = r by omega]; exact hC43)⟩)
              · have hc10 := p0.1
                obtain ⟨hv1, hv2, hv3, hv4⟩ := p0.2 r (by omega)
                have hn1 : ufN cst (now : Int) cnp r r = cnp r := if_neg (Nat.lt_irrefl r)
                have hs1 : ufS (now : Int) cstop r r = cstop r := if_neg (Nat.lt_irrefl r)
                refine lv_aload_n hx hb dX8_undoFromNow_51 rfl (lv_at hl 0 rfl) ?_
                refine f_get (C := RX8) (T := TX8) (N := 11) hx hb hts (by decide +kernel) hown hK hP 0 (by omega) f43_0 rfl 0 (by decide) (hts (.fieldLink RX8 11 "KeptMoving" "courses" "[LKeptMoving$Course;") (by decide +kernel)) (fun _ h9 => h9) rfl dX8_undoFromNow_52 ?_
                refine lv_iload_n hx hb dX8_undoFromNow_55 rfl (lv_at hl 1 rfl) ?_
                refine n_aldq hx hb hK hP r rfl (by omega) dX8_undoFromNow_56 ?_
                refine lv_aload_n hx hb dX8_undoFromNow_57 rfl (lv_at hl 0 rfl) ?_
                refine f_get (C := RX8) (T := TX8) (N := 11) hx hb hts (by decide +kernel) hown hK hP 0 (by omega) f43_0 rfl 2 (by decide) (hts (.fieldLink RX8 72 "KeptMoving" "now" "I") (by decide +kernel)) (fun _ h9 => h9) rfl dX8_undoFromNow_58 ?_
                obtain ⟨x_20, x_21, x_22, x_23⟩ := hC43 r (by omega)
                refine f_callv (va_Run.run (va_runVN (As := [.int (iN ((now : Nat) : Int))]) (rest := []) ⟨hx, hb, hml, hown, hts⟩ (c_X0_undoFrom l G w2 r (cst r) (cpl r) (csp r) ((ufN cst (now : Int) cnp r) r) ((ufS (now : Int) cstop r) r) ((now : Nat) : Int) x_20 x_21 x_22 x_23 (by omega) (by rw [hn1]; exact hv1) (fun p h => by rw [hn1] at h; exact hv2 p h) (by omega) (by rw [hs1]; exact hv3)) ⟨va_cnB 1 hts gX8_undoFromNow_X0_undoFrom_n217 rfl rfl rfl (hK.nm 14 rfl) (hts (.initialized RX0) (by decide +kernel)) (by decide +kernel) ⟨Nat.le_of_ble_eq_true rfl, Nat.le_of_ble_eq_true rfl⟩, hts (.instanceMethod yX0_undoFrom) (by decide +kernel), hts (.selects RX0 yX0_undoFrom yX0_undoFrom) (by decide +kernel)⟩ (f_preV hP hK (19 + 4 * r) (by omega) 0 x_20 rfl) rfl rfl hl.1 rfl (lv_room (Nat.le_of_ble_eq_true rfl)) dX8_undoFromNow_61 ⟨Nat.zero_le _, Nat.zero_le _⟩)) hS hAA (fun w_24 H locs q_25 hP hS => ?_)
                obtain ⟨fr_26, e_27⟩ := q_25
                have e_28 : w_24 0 = .inr (7, [.ref (gad G 1), .int (iN ((q : Nat) : Int)), .int (iN ((now : Nat) : Int)), .ref (gad G 2), .ref (gad G 5), .int (iN ((bc : Nat) : Int)), .ref (gad G 6), .ref (gad G 10), .ref (gad G 14), .ref (gad G 15), .ref (gad G 18)]) := (fr_26 0 (by omega)).trans f43_0
                have e_29 : w_24 (19 + 4 * r + 1) = .inl (gI G, 8, .inl (aN (cst r))) := (fr_26 (19 + 4 * r + 1) (by omega)).trans x_21
                have e_30 : w_24 (19 + 4 * r + 2) = .inl (gI G, 8, .inl (aN (cpl r))) := (fr_26 (19 + 4 * r + 2) (by omega)).trans x_22
                have e_31 : w_24 (19 + 4 * r + 3) = .inl (gI G, 8, .inl (aN (csp r))) := (fr_26 (19 + 4 * r + 3) (by omega)).trans x_23
                have e_32 : w_24 (19 + 4 * r) = .inr (0, [.ref (gad G (19 + 4 * r + 1)), .ref (gad G (19 + 4 * r + 2)), .ref (gad G (19 + 4 * r + 3)), .int (iN ((cutP (cst r) ((now : Nat) : Int) ((ufN cst (now : Int) cnp r) r) : Nat) : Int)), .int (iN (if ((now : Nat) : Int) ≤ ((ufS (now : Int) cstop r) r) then (-1) else ((ufS (now : Int) cstop r) r)))]) := e_27
                have hC_33 : FAM G w_24 (va_up cst r (cst r)) (va_up cpl r (cpl r)) (va_up csp r (csp r)) (va_up (ufN cst (now : Int) cnp r) r (cutP (cst r) ((now : Nat) : Int) ((ufN cst (now : Int) cnp r) r))) (va_up (ufS (now : Int) cstop r) r (if ((now : Nat) : Int) ≤ ((ufS (now : Int) cstop r) r) then (-1) else ((ufS (now : Int) cstop r) r))) := hC43.put (i := r) (by omega) (fun k h0 h1 h2 h3 => fr_26 k (by omega)) e_32 e_29 e_30 e_31
                refine lv_iinc (v := iN ((r + 1 : Nat) : Int)) (lv' := [(1, .int (iN ((r + 1 : Nat) : Int))), (0, .ref (gad G 0))]) hx hb dX8_undoFromNow_64 hl (k := 1) rfl (iN_incN _) (by decide) rfl (fun ls hl => ?_)
                refine lv_goto (tgt := 43) hx hb dX8_undoFromNow_67 (by decide) ?_
                have hc10 := p0.1
                exact ih43 (r + 1) w_24 _ _ _ (by omega) (by omega) (e_28) (fun k h0 hf => ((fr_26 k (by omega)).trans (hfr43 k (by omega) (by omega)))) (by rw [← ufN_s, ← ufS_s]; have hz := hC_33; rw [va_up_id, va_up_id, va_up_id] at hz; exact hz) hP hS (lv_sub hl [1, 0] rfl)
          exact K43 ((11 - 0) + 1) (0) w2 _ _ _ (by omega) (by omega) (f0_0) (fun k h0 hf => hfr0 k (by omega)) (by rw [ufN_0, ufS_0]; exact hC0) hP hS (lv_sub hl [1, 0] rfl)
        · refine lv_aload_n hx hb dX8_undoFromNow_28 rfl (lv_at hl 0 rfl) ?_
          refine lv_dup hx hb dX8_undoFromNow_29 rfl ?_
          refine f_get (C := RX8) (T := TX8) (N := 11) hx hb hts (by decide +kernel) hown hK hP 0 (by omega) f0_0 rfl 1 (by decide) (hts (.fieldLink RX8 67 "KeptMoving" "came" "I") (by decide +kernel)) (fun _ h9 => h9) rfl dX8_undoFromNow_30 ?_
          refine n_iconst hx hb dX8_undoFromNow_33 ?_
          refine n_isub hx hb dX8_undoFromNow_34 ?_
          refine n_top (A := ((q : Nat) : Int) - 1) (B := ((q - 1 : Nat) : Int)) (by omega) ?_
          refine f_put (v := .int (iN ((q - 1 : Nat) : Int))) (ty := .int) (C := RX8) (T := TX8) (N := 11) hx hb hts (by decide +kernel) tyX8 tyX8_ok nmX8 hown hK hP hS hAA 0 (by omega) f0_0 rfl 1 (by decide) (hts (.fieldLink RX8 67 "KeptMoving" "came" "I") (by decide +kernel)) (fun _ h9 => h9) rfl (by decide +kernel) (rfl) (rfl) (Nat.le_of_ble_eq_true rfl) (rfl) dX8_undoFromNow_35 (fun H locs hP hS => ?_)
          have hP : PW G (va_up w2 0 (.inr (7, [.ref (gad G 1), .int (iN ((q - 1 : Nat) : Int)), .int (iN ((now : Nat) : Int)), .ref (gad G 2), .ref (gad G 5), .int (iN ((bc : Nat) : Int)), .ref (gad G 6), .ref (gad G 10), .ref (gad G 14), .ref (gad G 15), .ref (gad G 18)]))) H := hP
          obtain ⟨w_34, hw_35⟩ : ∃ z : WF, z = va_up w2 0 (.inr (7, [.ref (gad G 1), .int (iN ((q - 1 : Nat) : Int)), .int (iN ((now : Nat) : Int)), .ref (gad G 2), .ref (gad G 5), .int (iN ((bc : Nat) : Int)), .ref (gad G 6), .ref (gad G 10), .ref (gad G 14), .ref (gad G 15), .ref (gad G 18)])) := ⟨_, rfl⟩
          rw [← hw_35] at hP
          have fr_36 : ∀ k : Nat, k ≠ 0 → w_34 k = w2 k := fun k h => by rw [hw_35]; exact va_up_ne _ _ h
          have hC_37 : FAM G w_34 cst cpl csp cnp cstop := hC0.keep (fun k h1 h2 => fr_36 k (by omega))
          have e_38 : w_34 0 = .inr (7, [.ref (gad G 1), .int (iN ((q - 1 : Nat) : Int)), .int (iN ((now : Nat) : Int)), .ref (gad G 2), .ref (gad G 5), .int (iN ((bc : Nat) : Int)), .ref (gad G 6), .ref (gad G 10), .ref (gad G 14), .ref (gad G 15), .ref (gad G 18)]) := by rw [hw_35]; exact va_up_self _ _ _
          refine lv_goto (tgt := 0) hx hb dX8_undoFromNow_38 (by decide) ?_
          exact ih0 (q - 1) w_34 _ _ _ (by omega) (by rw [← i0_1]; exact (cutC_step (by omega) (by omega)).symm) (by omega) (e_38) (fun k h0 => ((fr_36 k (by omega)).trans (hfr0 k (by omega)))) hP hS (lv_sub hl [0] rfl)
  exact K0 (came + 1) (came) w _ _ _ (by omega) (rfl) (by omega) (e0) (fun k _ => rfl) hP hS (lv_sub hl [0] rfl)
