def rw8 (a : Nat → Int) (i : Nat) : Nat → Int := fun p => a (8 * i + p)
def pnI (pn : Nat → Nat) : Nat → Int := fun j => ((pn j : Nat) : Int)
theorem pnI_up (pn : Nat → Nat) (j v : Nat) : va_up (pnI pn) j ((v : Nat) : Int) = pnI (va_up pn j v) := funext fun q => by
  show (if q = j then ((v : Nat) : Int) else ((pn q : Nat) : Int)) = (((if q = j then v else pn q) : Nat) : Int)
  split <;> rfl
theorem mb4 {a d : Int} (ha : 0 ≤ a ∧ a ≤ 400) (hd : 1 ≤ d ∧ d ≤ 1000000) : 0 ≤ a * d ∧ a * d ≤ 400000000 := by
  have h := mb3 (a := a) (b := d) (A := 400) (B := 1000000) (by omega) (by omega)
  have h2 : 0 ≤ a * d := Int.mul_nonneg ha.1 (by omega)
  omega
theorem ga_th {a b n d : Int} (ha : -1 ≤ a) : (a < 0 ∨ n < b) ↔ (a = -1 ∨ n < b) := by omega

set_option maxHeartbeats 4000000 in
set_option maxRecDepth 100000 in
theorem c_X9_in (l : Launch) (x : Int) (lo : Int) (hi : Int) (p0 : -9223372036854775808 ≤ x ∧ x < 9223372036854775808) (p1 : -9223372036854775808 ≤ lo ∧ lo < 9223372036854775808) (p2 : -9223372036854775808 ≤ hi ∧ hi < 9223372036854775808) : Met l yX9_in wsX9_in ({ frames := 0, cells := 0, slots := 0, locals := 0 }) (PcN [.long (jN x), .long (jN lo), .long (jN hi)]) (vp_Si (fun r => r = iN (if (lo ≤ x ∧ x ≤ hi) then 1 else 0))) 0 0 (fun _ => False) := by
  refine Met.ofW (cc := cX9_in) (maxL := 6) (ret := (some .boolean)) (by decide) rfl ?_
  intro p e s m args below meth c s₁ B hml hv
  obtain rfl := hv
  have hx := B.exec
  have hb := B.bytes
  have hr := B.returns
  have hts := atoms_spec (ws := wsX9_in) B.pre
  have hown : s.vm.findClass RX9 = some m.cls := findClass_of_methodNamed B.named
  have hlocks := B.notSynchronized
  have hl := lv_entry ([.long (jN x), .long (jN lo), .long (jN hi)]) (n := 6) (Nat.le_of_ble_eq_true rfl)
  rw [lg_entry_eq]
  generalize (lg_sl ([.long (jN x), .long (jN lo), .long (jN hi)]) ++ List.replicate (6 - (lg_sl ([.long (jN x), .long (jN lo), .long (jN hi)])).length) Slot.unset).toArray = ls at hl ⊢
  have hl : lv_has ls 6 [(0, .long (jN x)), (2, .long (jN lo)), (4, .long (jN hi))] := hl
  refine lv_lload_n hx hb dX9_in_0 rfl (lv_at hl 0 rfl) ?_
  refine lv_lload_n hx hb dX9_in_1 rfl (lv_at hl 1 rfl) ?_
  refine n_lcmp hx hb (by omega) (by omega) (by omega) (by omega) dX9_in_2 ?_
  refine n_ifc_lt (tgt := 17) hx hb dX9_in_3 (by decide) (fun c_3 => ?_) (fun c_3 => ?_)
  · refine n_iconst hx hb dX9_in_17 ?_
    exact r_z0 hx hb hr dX9_in_18 hlocks (show iN 0 = iN (if (lo ≤ x ∧ x ≤ hi) then 1 else 0) by rw [if_neg (by omega)])
  · refine lv_lload_n hx hb dX9_in_6 rfl (lv_at hl 0 rfl) ?_
    refine lv_lload hx hb dX9_in_7 (lv_at hl 2 rfl) ?_
    refine n_lcmp hx hb (by omega) (by omega) (by omega) (by omega) dX9_in_9 ?_
    refine n_ifc_gt (tgt := 17) hx hb dX9_in_10 (by decide) (fun c_10 => ?_) (fun c_10 => ?_)
    · refine n_iconst hx hb dX9_in_17 ?_
      exact r_z0 hx hb hr dX9_in_18 hlocks (show iN 0 = iN (if (lo ≤ x ∧ x ≤ hi) then 1 else 0) by rw [if_neg (by omega)])
    · refine n_iconst hx hb dX9_in_13 ?_
      refine lv_goto (tgt := 18) hx hb dX9_in_14 (by decide) ?_
      exact r_z1 hx hb hr dX9_in_18 hlocks (show iN 1 = iN (if (lo ≤ x ∧ x ≤ hi) then 1 else 0) by rw [if_pos (by omega)])

set_option maxHeartbeats 4000000 in
set_option maxRecDepth 100000 in
theorem c_X9_isPoint (l : Launch) (G : GE) (w : WF) (now : Nat) (came : Nat) (rm : Nat) (mt : Nat) (tm : Nat) (thg : Int) (onn : Int) (two : Int) (lw : Int) (hg : Int) (sq : Nat) (i : Int) (e0 : w 59 = .inr (8, [.int (iN ((now : Nat) : Int)), .int (iN ((came : Nat) : Int)), .ref (gad G 60), .ref (gad G 61), .ref (gad G 62), .ref (gad G 63), .ref (gad G 64), .ref (gad G 65), .int (iN ((rm : Nat) : Int)), .int (iN ((mt : Nat) : Int)), .ref (gad G 66), .ref (gad G 67), .ref (gad G 68), .ref (gad G 69), .ref (gad G 70), .int (iN ((tm : Nat) : Int)), .ref (gad G 71), .ref (gad G 72), .int (iN thg), .int (iN onn), .int (iN two), .long (jN lw), .long (jN hg), .int (iN ((sq : Nat) : Int)), .ref (gad G 73), .ref (gad G 74)])) (p0 : -2147483648 ≤ i ∧ i < 2147483648) (p1 : came ≤ 10) : Met l yX9_isPoint wsX9_isPoint ({ frames := 1, cells := 0, slots := 0, locals := 25 }) (PcG G w [.ref (gad G 59), .int (iN i)]) (vp_Si (fun r => r = iN (if (0 ≤ i ∧ i ≤ (came : Int) - 1) then 1 else 0))) 0 0 (fun _ => False) := by
  refine Met.ofW (cc := cX9_isPoint) (maxL := 2) (ret := (some .boolean)) (by decide) rfl ?_
  intro p e s m args below meth c s₁ B hml hv
  obtain ⟨rfl, hP, hK⟩ := hv
  have hx := B.exec
  have hb := B.bytes
  have hr := B.returns
  have hts := atoms_spec (ws := wsX9_isPoint) B.pre
  have hown : s.vm.findClass RX9 = some m.cls := findClass_of_methodNamed B.named
  have hlocks := B.notSynchronized
  have hl := lv_entry ([.ref (gad G 59), .int (iN i)]) (n := 2) (Nat.le_of_ble_eq_true rfl)
  rw [lg_entry_eq]
  generalize (lg_sl ([.ref (gad G 59), .int (iN i)]) ++ List.replicate (2 - (lg_sl ([.ref (gad G 59), .int (iN i)])).length) Slot.unset).toArray = ls at hl ⊢
  have hl : lv_has ls 2 [(0, .ref (gad G 59)), (1, .int (iN i))] := hl
  refine lv_iload_n hx hb dX9_isPoint_0 rfl (lv_at hl 1 rfl) ?_
  refine n_i2l hx hb (by omega) (by omega) dX9_isPoint_1 ?_
  refine n_lconst (z := 0) hx hb dX9_isPoint_2 (by decide) ?_
  refine lv_aload_n hx hb dX9_isPoint_3 rfl (lv_at hl 0 rfl) ?_
  refine f_get (C := RX9) (T := TX9) (N := 26) hx hb hts (by decide +kernel) hown hK hP 59 (by omega) e0 rfl 1 (by decide) (hts (.fieldLink RX9 57 "KeptMovingModel" "points" "I") (by decide +kernel)) (fun _ h9 => h9) rfl dX9_isPoint_4 ?_
  refine n_iconst hx hb dX9_isPoint_7 ?_
  refine n_isub hx hb dX9_isPoint_8 ?_
  refine n_i2l hx hb (by omega) (by omega) dX9_isPoint_9 ?_
  refine vp_callSi (W.runS (As := [.long (jN i), .long (jN 0), .long (jN (((came : Nat) : Int) - 1))]) (rest := []) ⟨hx, hb, hml, hown, hts⟩ (c_X9_in l i (0 : Int) (((came : Nat) : Int) - 1) (by omega) (by omega) (by omega)) (va_cwS 3 hts gX9_isPoint_X9_in rfl rfl rfl (by decide +kernel) ⟨Nat.le_of_ble_eq_true rfl, Nat.le_of_ble_eq_true rfl⟩) ⟨fun _ _ _ _ q => q, fun _ _ _ => rfl⟩ rfl rfl hl.1 rfl (lv_room (Nat.le_of_ble_eq_true rfl)) dX9_isPoint_10 ⟨Nat.zero_le _, Nat.zero_le _⟩) (fun r_1 hr_1 => ?_)
  rw [show r_1 = iN (if ((0 : Int) ≤ i ∧ i ≤ (((came : Nat) : Int) - 1)) then 1 else 0) from hr_1]
  exact r_sz hx hb hr dX9_isPoint_13 hlocks rfl

set_option maxHeartbeats 4000000 in
set_option maxRecDepth 100000 in
theorem c_X9_latest (l : Launch) (G : GE) (w : WF) (now : Nat) (came : Nat) (rm : Nat) (mt : Nat) (tm : Nat) (thg : Int) (onn : Int) (two : Int) (lw : Int) (hg : Int) (sq : Nat) (ga : Nat → Int) (pn : Nat → Nat) (mbe : Nat → Int) (mpl : Nat → Int) (msp : Nat → Int) (i : Nat) (e0 : w 59 = .inr (8, [.int (iN ((now : Nat) : Int)), .int (iN ((came : Nat) : Int)), .ref (gad G 60), .ref (gad G 61), .ref (gad G 62), .ref (gad G 63), .ref (gad G 64), .ref (gad G 65), .int (iN ((rm : Nat) : Int)), .int (iN ((mt : Nat) : Int)), .ref (gad G 66), .ref (gad G 67), .ref (gad G 68), .ref (gad G 69), .ref (gad G 70), .int (iN ((tm : Nat) : Int)), .ref (gad G 71), .ref (gad G 72), .int (iN thg), .int (iN onn), .int (iN two), .long (jN lw), .long (jN hg), .int (iN ((sq : Nat) : Int)), .ref (gad G 73), .ref (gad G 74)])) (e1 : w 60 = .inl (gI G, 10, .inl (aN ga))) (e2 : w 61 = .inl (gI G, 10, .inl (aN (pnI pn)))) (e3 : w 62 = .inl (gI G, 80, .inl (aN mbe))) (e4 : w 63 = .inl (gI G, 80, .inl (aN mpl))) (e5 : w 64 = .inl (gI G, 80, .inl (aN msp))) (p0 : i < 10) (p1 : 1 ≤ pn i ∧ pn i ≤ 8) : Met l yX9_latest wsX9_latest ({ frames := 0, cells := 0, slots := 0, locals := 0 }) (PcG G w [.ref (gad G 59), .int (iN ((i : Nat) : Int))]) (vp_Si (fun r => r = iN ((8 * i + pn i - 1 : Nat) : Int))) 0 0 (fun _ => False) := by
  refine Met.ofW (cc := cX9_latest) (maxL := 2) (ret := (some .int)) (by decide) rfl ?_
  intro p e s m args below meth c s₁ B hml hv
  obtain ⟨rfl, hP, hK⟩ := hv
  have hx := B.exec
  have hb := B.bytes
  have hr := B.returns
  have hts := atoms_spec (ws := wsX9_latest) B.pre
  have hown : s.vm.findClass RX9 = some m.cls := findClass_of_methodNamed B.named
  have hlocks := B.notSynchronized
  have hl := lv_entry ([.ref (gad G 59), .int (iN ((i : Nat) : Int))]) (n := 2) (Nat.le_of_ble_eq_true rfl)
  rw [lg_entry_eq]
  generalize (lg_sl ([.ref (gad G 59), .int (iN ((i : Nat) : Int))]) ++ List.replicate (2 - (lg_sl ([.ref (gad G 59), .int (iN ((i : Nat) : Int))])).length) Slot.unset).toArray = ls at hl ⊢
  have hl : lv_has ls 2 [(0, .ref (gad G 59)), (1, .int (iN ((i : Nat) : Int)))] := hl
  refine n_bipush hx hb dX9_latest_0 (by decide) ?_
  refine lv_iload_n hx hb dX9_latest_2 rfl (lv_at hl 1 rfl) ?_
  refine n_imul hx hb dX9_latest_3 ?_
  refine n_top (A := 8 * ((i : Nat) : Int)) (B := ((8 * i : Nat) : Int)) (by omega) ?_
  refine lv_aload_n hx hb dX9_latest_4 rfl (lv_at hl 0 rfl) ?_
  refine f_get (C := RX9) (T := TX9) (N := 26) hx hb hts (by decide +kernel) hown hK hP 59 (by omega) e0 rfl 3 (by decide) (hts (.fieldLink RX9 13 "KeptMovingModel" "pieces" "[I") (by decide +kernel)) (fun _ h9 => h9) rfl dX9_latest_5 ?_
  refine lv_iload_n hx hb dX9_latest_8 rfl (lv_at hl 1 rfl) ?_
  refine n_iald hx hb hK hP 61 (by omega) e2 i rfl (by omega) (by decide) dX9_latest_9 ?_
  refine n_top (B := ((pn i : Nat) : Int)) rfl ?_
  refine n_iadd hx hb dX9_latest_10 ?_
  refine n_top (A := ((8 * i : Nat) : Int) + ((pn i : Nat) : Int)) (B := (((8 * i) + (pn i) : Nat) : Int)) (by omega) ?_
  refine n_iconst hx hb dX9_latest_11 ?_
  refine n_isub hx hb dX9_latest_12 ?_
  refine n_top (A := (((8 * i) + (pn i) : Nat) : Int) - 1) (B := ((((8 * i) + (pn i)) - 1 : Nat) : Int)) (by omega) ?_
  exact r_si hx hb hr dX9_latest_13 hlocks (show iN ((((8 * i) + (pn i)) - 1 : Nat) : Int) = iN ((8 * i + pn i - 1 : Nat) : Int) from congrArg iN (by first | rfl | omega))

set_option maxHeartbeats 4000000 in
set_option maxRecDepth 100000 in
theorem c_X9_point (l : Launch) (G : GE) (w : WF) (now : Nat) (came : Nat) (rm : Nat) (mt : Nat) (tm : Nat) (thg : Int) (onn : Int) (two : Int) (lw : Int) (hg : Int) (sq : Nat) (ga : Nat → Int) (pn : Nat → Nat) (mbe : Nat → Int) (mpl : Nat → Int) (msp : Nat → Int) (x : Int) (v : Int) (e0 : w 59 = .inr (8, [.int (iN ((now : Nat) : Int)), .int (iN ((came : Nat) : Int)), .ref (gad G 60), .ref (gad G 61), .ref (gad G 62), .ref (gad G 63), .ref (gad G 64), .ref (gad G 65), .int (iN ((rm : Nat) : Int)), .int (iN ((mt : Nat) : Int)), .ref (gad G 66), .ref (gad G 67), .ref (gad G 68), .ref (gad G 69), .ref (gad G 70), .int (iN ((tm : Nat) : Int)), .ref (gad G 71), .ref (gad G 72), .int (iN thg), .int (iN onn), .int (iN two), .long (jN lw), .long (jN hg), .int (iN ((sq : Nat) : Int)), .ref (gad G 73), .ref (gad G 74)])) (e1 : w 60 = .inl (gI G, 10, .inl (aN ga))) (e2 : w 61 = .inl (gI G, 10, .inl (aN (pnI pn)))) (e3 : w 62 = .inl (gI G, 80, .inl (aN mbe))) (e4 : w 63 = .inl (gI G, 80, .inl (aN mpl))) (e5 : w 64 = .inl (gI G, 80, .inl (aN msp))) (p0 : -2147483648 ≤ x ∧ x < 2147483648) (p1 : -2147483648 ≤ v ∧ v < 2147483648) (p2 : came ≤ 10) (p3 : now ≤ 400) : Met l yX9_point wsX9_point ({ frames := 1, cells := 0, slots := 0, locals := 25 }) (PcG G w [.ref (gad G 59), .int (iN x), .int (iN v)]) (QI G (fun r w1 => r = iN (if -1000 ≤ x ∧ x ≤ 1000 ∧ -50 ≤ v ∧ v ≤ 50 then (if came < 10 then (came : Int) else -100004) else -100002) ∧ (∀ k : Nat, k ≠ 59 → k ≠ 60 → k ≠ 61 → k ≠ 62 → k ≠ 63 → k ≠ 64 → w1 k = w k) ∧ w1 59 = .inr (8, [.int (iN ((now : Nat) : Int)), .int (iN ((if -1000 ≤ x ∧ x ≤ 1000 ∧ -50 ≤ v ∧ v ≤ 50 ∧ came < 10 then came + 1 else came : Nat) : Int)), .ref (gad G 60), .ref (gad G 61), .ref (gad G 62), .ref (gad G 63), .ref (gad G 64), .ref (gad G 65), .int (iN ((rm : Nat) : Int)), .int (iN ((mt : Nat) : Int)), .ref (gad G 66), .ref (gad G 67), .ref (gad G 68), .ref (gad G 69), .ref (gad G 70), .int (iN ((tm : Nat) : Int)), .ref (gad G 71), .ref (gad G 72), .int (iN thg), .int (iN onn), .int (iN two), .long (jN lw), .long (jN hg), .int (iN ((sq : Nat) : Int)), .ref (gad G 73), .ref (gad G 74)]) ∧ w1 60 = .inl (gI G, 10, .inl (aN (if -1000 ≤ x ∧ x ≤ 1000 ∧ -50 ≤ v ∧ v ≤ 50 ∧ came < 10 then va_up ga came (-1) else ga))) ∧ w1 61 = .inl (gI G, 10, .inl (aN (pnI (if -1000 ≤ x ∧ x ≤ 1000 ∧ -50 ≤ v ∧ v ≤ 50 ∧ came < 10 then va_up pn came 1 else pn)))) ∧ w1 62 = .inl (gI G, 80, .inl (aN (if -1000 ≤ x ∧ x ≤ 1000 ∧ -50 ≤ v ∧ v ≤ 50 ∧ came < 10 then va_up mbe (8 * came) now else mbe))) ∧ w1 63 = .inl (gI G, 80, .inl (aN (if -1000 ≤ x ∧ x ≤ 1000 ∧ -50 ≤ v ∧ v ≤ 50 ∧ came < 10 then va_up mpl (8 * came) x else mpl))) ∧ w1 64 = .inl (gI G, 80, .inl (aN (if -1000 ≤ x ∧ x ≤ 1000 ∧ -50 ≤ v ∧ v ≤ 50 ∧ came < 10 then va_up msp (8 * came) v else msp))))) 0 0 (AA G) := by
  refine Met.ofW (cc := cX9_point) (maxL := 4) (ret := (some .int)) (by decide) rfl ?_
  intro p e s m args below meth c s₁ B hml hv
  obtain ⟨rfl, hP, hK⟩ := hv
  have hx := B.exec
  have hb := B.bytes
  have hr := B.returns
  have hts := atoms_spec (ws := wsX9_point) B.pre
  have hown : s.vm.findClass RX9 = some m.cls := findClass_of_methodNamed B.named
  have hlocks := B.notSynchronized
  have hS : va_S (AA G) s.heap s.heap [] := va_S.rf
  have hAA : ∀ q, AA G q → AA G q := fun _ h => h
  have hl := lv_entry ([.ref (gad G 59), .int (iN x), .int (iN v)]) (n := 4) (Nat.le_of_ble_eq_true rfl)
  rw [lg_entry_eq]
  generalize (lg_sl ([.ref (gad G 59), .int (iN x), .int (iN v)]) ++ List.replicate (4 - (lg_sl ([.ref (gad G 59), .int (iN x), .int (iN v)])).length) Slot.unset).toArray = ls at hl ⊢
  have hl : lv_has ls 4 [(0, .ref (gad G 59)), (1, .int (iN x)), (2, .int (iN v))] := hl
  refine lv_iload_n hx hb dX9_point_0 rfl (lv_at hl 1 rfl) ?_
  refine n_i2l hx hb (by omega) (by omega) dX9_point_1 ?_
  refine n_ldc2 (z := (-1000)) hx hb hown (hts (.constantLong RX9 65 (-1000)) (by decide +kernel)) (by decide) dX9_point_2 ?_
  refine n_ldc2 (z := (1000)) hx hb hown (hts (.constantLong RX9 67 (1000)) (by decide +kernel)) (by decide) dX9_point_5 ?_
  refine vp_callSi (W.runS (As := [.long (jN x), .long (jN (-1000)), .long (jN 1000)]) (rest := []) ⟨hx, hb, hml, hown, hts⟩ (c_X9_in l x (-1000) (1000 : Int) (by omega) (by omega) (by omega)) (va_cwS 3 hts gX9_point_X9_in rfl rfl rfl (by decide +kernel) ⟨Nat.le_of_ble_eq_true rfl, Nat.le_of_ble_eq_true rfl⟩) ⟨fun _ _ _ _ q => q, fun _ _ _ => rfl⟩ rfl rfl hl.1 rfl (lv_room (Nat.le_of_ble_eq_true rfl)) dX9_point_8 ⟨Nat.zero_le _, Nat.zero_le _⟩) (fun r_1 hr_1 => ?_)
  rw [show r_1 = iN (if ((-1000) ≤ x ∧ x ≤ (1000 : Int)) then 1 else 0) from hr_1]
  refine n_ifb_eq (tgt := 28) hx hb dX9_point_11 (by decide) (fun c_11 => ?_) (fun c_11 => ?_)
  · refine n_ldc (z := (-100002)) hx hb hown (hts (.constant RX9 73 (-100002)) (by decide +kernel)) (by decide) dX9_point_28 ?_
    exact r_i hx hb hr dX9_point_30 hlocks hP hS ⟨(show iN (-100002) = iN _ by rw [if_neg (by omega)]), (fun k _ _ _ _ _ _ => rfl), (by rw [if_neg (show ¬ (-1000 ≤ x ∧ x ≤ 1000 ∧ -50 ≤ v ∧ v ≤ 50 ∧ came < 10) by omega)]; exact e0), (by rw [if_neg (show ¬ (-1000 ≤ x ∧ x ≤ 1000 ∧ -50 ≤ v ∧ v ≤ 50 ∧ came < 10) by omega)]; exact e1), (by rw [if_neg (show ¬ (-1000 ≤ x ∧ x ≤ 1000 ∧ -50 ≤ v ∧ v ≤ 50 ∧ came < 10) by omega)]; exact e2), (by rw [if_neg (show ¬ (-1000 ≤ x ∧ x ≤ 1000 ∧ -50 ≤ v ∧ v ≤ 50 ∧ came < 10) by omega)]; exact e3), (by rw [if_neg (show ¬ (-1000 ≤ x ∧ x ≤ 1000 ∧ -50 ≤ v ∧ v ≤ 50 ∧ came < 10) by omega)]; exact e4), (by rw [if_neg (show ¬ (-1000 ≤ x ∧ x ≤ 1000 ∧ -50 ≤ v ∧ v ≤ 50 ∧ came < 10) by omega)]; exact e5)⟩
  · refine lv_iload_n hx hb dX9_point_14 rfl (lv_at hl 2 rfl) ?_
    refine n_i2l hx hb (by omega) (by omega) dX9_point_15 ?_
    refine n_ldc2 (z := (-50)) hx hb hown (hts (.constantLong RX9 69 (-50)) (by decide +kernel)) (by decide) dX9_point_16 ?_
    refine n_ldc2 (z := (50)) hx hb hown (hts (.constantLong RX9 71 (50)) (by decide +kernel)) (by decide) dX9_point_19 ?_
    refine vp_callSi (W.runS (As := [.long (jN v), .long (jN (-50)), .long (jN 50)]) (rest := []) ⟨hx, hb, hml, hown, hts⟩ (c_X9_in l v (-50) (50 : Int) (by omega) (by omega) (by omega)) (va_cwS 3 hts gX9_point_X9_in rfl rfl rfl (by decide +kernel) ⟨Nat.le_of_ble_eq_true rfl, Nat.le_of_ble_eq_true rfl⟩) ⟨fun _ _ _ _ q => q, fun _ _ _ => rfl⟩ rfl rfl hl.1 rfl (lv_room (Nat.le_of_ble_eq_true rfl)) dX9_point_22 ⟨Nat.zero_le _, Nat.zero_le _⟩) (fun r_2 hr_2 => ?_)
    rw [show r_2 = iN (if ((-50) ≤ v ∧ v ≤ (50 : Int)) then 1 else 0) from hr_2]
    refine n_ifb_ne (tgt := 31) hx hb dX9_point_25 (by decide) (fun c_25 => ?_) (fun c_25 => ?_)
    · refine lv_aload_n hx hb dX9_point_31 rfl (lv_at hl 0 rfl) ?_
      refine f_get (C := RX9) (T := TX9) (N := 26) hx hb hts (by decide +kernel) hown hK hP 59 (by omega) e0 rfl 1 (by decide) (hts (.fieldLink RX9 57 "KeptMovingModel" "points" "I") (by decide +kernel)) (fun _ h9 => h9) rfl dX9_point_32 ?_
      refine n_bipush hx hb dX9_point_35 (by decide) ?_
      refine n_icmp_ne (tgt := 43) hx hb dX9_point_37 (by decide) (by omega) (by omega) (by omega) (by omega) (fun c_37 => ?_) (fun c_37 => ?_)
      · refine lv_aload_n hx hb dX9_point_43 rfl (lv_at hl 0 rfl) ?_
        refine f_get (C := RX9) (T := TX9) (N := 26) hx hb hts (by decide +kernel) hown hK hP 59 (by omega) e0 rfl 1 (by decide) (hts (.fieldLink RX9 57 "KeptMovingModel" "points" "I") (by decide +kernel)) (fun _ h9 => h9) rfl dX9_point_44 ?_
        refine lv_istore_n (lv' := [(3, .int (iN ((came : Nat) : Int))), (0, .ref (gad G 59)), (1, .int (iN x)), (2, .int (iN v))]) hx hb dX9_point_47 rfl hl (by decide) rfl (fun ls hl => ?_)
        refine lv_aload_n hx hb dX9_point_48 rfl (lv_at hl 1 rfl) ?_
        refine f_get (C := RX9) (T := TX9) (N := 26) hx hb hts (by decide +kernel) hown hK hP 59 (by omega) e0 rfl 2 (by decide) (hts (.fieldLink RX9 7 "KeptMovingModel" "goneAt" "[I") (by decide +kernel)) (fun _ h9 => h9) rfl dX9_point_49 ?_
        refine lv_iload_n hx hb dX9_point_52 rfl (lv_at hl 0 rfl) ?_
        refine n_iconst hx hb dX9_point_53 ?_
        refine n_iast hx hb hK hP hS hAA 60 (by omega) e1 (fun _ => rfl) came rfl (by omega) (by decide) dX9_point_54 (fun H locs hP hS => ?_)
        obtain ⟨w_3, hw_4⟩ : ∃ z : WF, z = va_up w 60 (.inl (gI G, 10, .inl (aN (va_up ga came (-1))))) := ⟨_, rfl⟩
        rw [← hw_4] at hP
        have fr_5 : ∀ k : Nat, k ≠ 60 → w_3 k = w k := fun k h => by rw [hw_4]; exact va_up_ne _ _ h
        have e_6 : w_3 59 = .inr (8, [.int (iN ((now : Nat) : Int)), .int (iN ((came : Nat) : Int)), .ref (gad G 60), .ref (gad G 61), .ref (gad G 62), .ref (gad G 63), .ref (gad G 64), .ref (gad G 65), .int (iN ((rm : Nat) : Int)), .int (iN ((mt : Nat) : Int)), .ref (gad G 66), .ref (gad G 67), .ref (gad G 68), .ref (gad G 69), .ref (gad G 70), .int (iN ((tm : Nat) : Int)), .ref (gad G 71), .ref (gad G 72), .int (iN thg), .int (iN onn), .int (iN two), .long (jN lw), .long (jN hg), .int (iN ((sq : Nat) : Int)), .ref (gad G 73), .ref (gad G 74)]) := (fr_5 59 (by omega)).trans e0
        have e_7 : w_3 60 = .inl (gI G, 10, .inl (aN (va_up ga came (-1)))) := by rw [hw_4]; exact va_up_self _ _ _
        have e_8 : w_3 61 = .inl (gI G, 10, .inl (aN (pnI pn))) := (fr_5 61 (by omega)).trans e2
        have e_9 : w_3 62 = .inl (gI G, 80, .inl (aN mbe)) := (fr_5 62 (by omega)).trans e3
        have e_10 : w_3 63 = .inl (gI G, 80, .inl (aN mpl)) := (fr_5 63 (by omega)).trans e4
        have e_11 : w_3 64 = .inl (gI G, 80, .inl (aN msp)) := (fr_5 64 (by omega)).trans e5
        refine lv_aload_n hx hb dX9_point_55 rfl (lv_at hl 1 rfl) ?_
        refine f_get (C := RX9) (T := TX9) (N := 26) hx hb hts (by decide +kernel) hown hK hP 59 (by omega) e_6 rfl 3 (by decide) (hts (.fieldLink RX9 13 "KeptMovingModel" "pieces" "[I") (by decide +kernel)) (fun _ h9 => h9) rfl dX9_point_56 ?_
        refine lv_iload_n hx hb dX9_point_59 rfl (lv_at hl 0 rfl) ?_
        refine n_iconst hx hb dX9_point_60 ?_
        refine n_iast hx hb hK hP hS hAA 61 (by omega) e_8 (fun _ => rfl) came rfl (by omega) (by decide) dX9_point_61 (fun H locs hP hS => ?_)
        obtain ⟨w_12, hw_13⟩ : ∃ z : WF, z = va_up w_3 61 (.inl (gI G, 10, .inl (aN (va_up (pnI pn) came 1)))) := ⟨_, rfl⟩
        rw [← hw_13] at hP
        have fr_14 : ∀ k : Nat, k ≠ 61 → w_12 k = w_3 k := fun k h => by rw [hw_13]; exact va_up_ne _ _ h
        have e_15 : w_12 59 = .inr (8, [.int (iN ((now : Nat) : Int)), .int (iN ((came : Nat) : Int)), .ref (gad G 60), .ref (gad G 61), .ref (gad G 62), .ref (gad G 63), .ref (gad G 64), .ref (gad G 65), .int (iN ((rm : Nat) : Int)), .int (iN ((mt : Nat) : Int)), .ref (gad G 66), .ref (gad G 67), .ref (gad G 68), .ref (gad G 69), .ref (gad G 70), .int (iN ((tm : Nat) : Int)), .ref (gad G 71), .ref (gad G 72), .int (iN thg), .int (iN onn), .int (iN two), .long (jN lw), .long (jN hg), .int (iN ((sq : Nat) : Int)), .ref (gad G 73), .ref (gad G 74)]) := (fr_14 59 (by omega)).trans e_6
        have e_16 : w_12 60 = .inl (gI G, 10, .inl (aN (va_up ga came (-1)))) := (fr_14 60 (by omega)).trans e_7
        have e_17 : w_12 61 = .inl (gI G, 10, .inl (aN (pnI (va_up pn came 1)))) := by rw [hw_13, va_up_self]; exact congrArg (fun z => (.inl (gI G, 10, .inl (aN z)) : va_E)) (pnI_up _ _ _)
        have e_18 : w_12 62 = .inl (gI G, 80, .inl (aN mbe)) := (fr_14 62 (by omega)).trans e_9
        have e_19 : w_12 63 = .inl (gI G, 80, .inl (aN mpl)) := (fr_14 63 (by omega)).trans e_10
        have e_20 : w_12 64 = .inl (gI G, 80, .inl (aN msp)) := (fr_14 64 (by omega)).trans e_11
        refine lv_aload_n hx hb dX9_point_62 rfl (lv_at hl 1 rfl) ?_
        refine f_get (C := RX9) (T := TX9) (N := 26) hx hb hts (by decide +kernel) hown hK hP 59 (by omega) e_15 rfl 4 (by decide) (hts (.fieldLink RX9 16 "KeptMovingModel" "begins" "[I") (by decide +kernel)) (fun _ h9 => h9) rfl dX9_point_63 ?_
        refine n_bipush hx hb dX9_point_66 (by decide) ?_
        refine lv_iload_n hx hb dX9_point_68 rfl (lv_at hl 0 rfl) ?_
        refine n_imul hx hb dX9_point_69 ?_
        refine n_top (A := 8 * ((came : Nat) : Int)) (B := ((8 * came : Nat) : Int)) (by omega) ?_
        refine lv_aload_n hx hb dX9_point_70 rfl (lv_at hl 1 rfl) ?_
        refine f_get (C := RX9) (T := TX9) (N := 26) hx hb hts (by decide +kernel) hown hK hP 59 (by omega) e_15 rfl 0 (by decide) (hts (.fieldLink RX9 75 "KeptMovingModel" "now" "I") (by decide +kernel)) (fun _ h9 => h9) rfl dX9_point_71 ?_
        refine n_iast hx hb hK hP hS hAA 62 (by omega) e_18 (fun _ => rfl) (8 * came) rfl (by omega) (by decide) dX9_point_74 (fun H locs hP hS => ?_)
        obtain ⟨w_21, hw_22⟩ : ∃ z : WF, z = va_up w_12 62 (.inl (gI G, 80, .inl (aN (va_up mbe (8 * came) ((now : Nat) : Int))))) := ⟨_, rfl⟩
        rw [← hw_22] at hP
        have fr_23 : ∀ k : Nat, k ≠ 62 → w_21 k = w_12 k := fun k h => by rw [hw_22]; exact va_up_ne _ _ h
        have e_24 : w_21 59 = .inr (8, [.int (iN ((now : Nat) : Int)), .int (iN ((came : Nat) : Int)), .ref (gad G 60), .ref (gad G 61), .ref (gad G 62), .ref (gad G 63), .ref (gad G 64), .ref (gad G 65), .int (iN ((rm : Nat) : Int)), .int (iN ((mt : Nat) : Int)), .ref (gad G 66), .ref (gad G 67), .ref (gad G 68), .ref (gad G 69), .ref (gad G 70), .int (iN ((tm : Nat) : Int)), .ref (gad G 71), .ref (gad G 72), .int (iN thg), .int (iN onn), .int (iN two), .long (jN lw), .long (jN hg), .int (iN ((sq : Nat) : Int)), .ref (gad G 73), .ref (gad G 74)]) := (fr_23 59 (by omega)).trans e_15
        have e_25 : w_21 60 = .inl (gI G, 10, .inl (aN (va_up ga came (-1)))) := (fr_23 60 (by omega)).trans e_16
        have e_26 : w_21 61 = .inl (gI G, 10, .inl (aN (pnI (va_up pn came 1)))) := (fr_23 61 (by omega)).trans e_17
        have e_27 : w_21 62 = .inl (gI G, 80, .inl (aN (va_up mbe (8 * came) ((now : Nat) : Int)))) := by rw [hw_22]; exact va_up_self _ _ _
        have e_28 : w_21 63 = .inl (gI G, 80, .inl (aN mpl)) := (fr_23 63 (by omega)).trans e_19
        have e_29 : w_21 64 = .inl (gI G, 80, .inl (aN msp)) := (fr_23 64 (by omega)).trans e_20
        refine lv_aload_n hx hb dX9_point_75 rfl (lv_at hl 1 rfl) ?_
        refine f_get (C := RX9) (T := TX9) (N := 26) hx hb hts (by decide +kernel) hown hK hP 59 (by omega) e_24 rfl 5 (by decide) (hts (.fieldLink RX9 19 "KeptMovingModel" "places" "[I") (by decide +kernel)) (fun _ h9 => h9) rfl dX9_point_76 ?_
        refine n_bipush hx hb dX9_point_79 (by decide) ?_
        refine lv_iload_n hx hb dX9_point_81 rfl (lv_at hl 0 rfl) ?_
        refine n_imul hx hb dX9_point_82 ?_
        refine n_top (A := 8 * ((came : Nat) : Int)) (B := ((8 * came : Nat) : Int)) (by omega) ?_
        refine lv_iload_n hx hb dX9_point_83 rfl (lv_at hl 2 rfl) ?_
        refine n_iast hx hb hK hP hS hAA 63 (by omega) e_28 (fun _ => rfl) (8 * came) rfl (by omega) (by decide) dX9_point_84 (fun H locs hP hS => ?_)
        obtain ⟨w_30, hw_31⟩ : ∃ z : WF, z = va_up w_21 63 (.inl (gI G, 80, .inl (aN (va_up mpl (8 * came) x)))) := ⟨_, rfl⟩
        rw [← hw_31] at hP
        have fr_32 : ∀ k : Nat, k ≠ 63 → w_30 k = w_21 k := fun k h => by rw [hw_31]; exact va_up_ne _ _ h
        have e_33 : w_30 59 = .inr (8, [.int (iN ((now : Nat) : Int)), .int (iN ((came : Nat) : Int)), .ref (gad G 60), .ref (gad G 61), .ref (gad G 62), .ref (gad G 63), .ref (gad G 64), .ref (gad G 65), .int (iN ((rm : Nat) : Int)), .int (iN ((mt : Nat) : Int)), .ref (gad G 66), .ref (gad G 67), .ref (gad G 68), .ref (gad G 69), .ref (gad G 70), .int (iN ((tm : Nat) : Int)), .ref (gad G 71), .ref (gad G 72), .int (iN thg), .int (iN onn), .int (iN two), .long (jN lw), .long (jN hg), .int (iN ((sq : Nat) : Int)), .ref (gad G 73), .ref (gad G 74)]) := (fr_32 59 (by omega)).trans e_24
        have e_34 : w_30 60 = .inl (gI G, 10, .inl (aN (va_up ga came (-1)))) := (fr_32 60 (by omega)).trans e_25
        have e_35 : w_30 61 = .inl (gI G, 10, .inl (aN (pnI (va_up pn came 1)))) := (fr_32 61 (by omega)).trans e_26
        have e_36 : w_30 62 = .inl (gI G, 80, .inl (aN (va_up mbe (8 * came) ((now : Nat) : Int)))) := (fr_32 62 (by omega)).trans e_27
        have e_37 : w_30 63 = .inl (gI G, 80, .inl (aN (va_up mpl (8 * came) x))) := by rw [hw_31]; exact va_up_self _ _ _
        have e_38 : w_30 64 = .inl (gI G, 80, .inl (aN msp)) := (fr_32 64 (by omega)).trans e_29
        refine lv_aload_n hx hb dX9_point_85 rfl (lv_at hl 1 rfl) ?_
        refine f_get (C := RX9) (T := TX9) (N := 26) hx hb hts (by decide +kernel) hown hK hP 59 (by omega) e_33 rfl 6 (by decide) (hts (.fieldLink RX9 22 "KeptMovingModel" "speeds" "[I") (by decide +kernel)) (fun _ h9 => h9) rfl dX9_point_86 ?_
        refine n_bipush hx hb dX9_point_89 (by decide) ?_
        refine lv_iload_n hx hb dX9_point_91 rfl (lv_at hl 0 rfl) ?_
        refine n_imul hx hb dX9_point_92 ?_
        refine n_top (A := 8 * ((came : Nat) : Int)) (B := ((8 * came : Nat) : Int)) (by omega) ?_
        refine lv_iload_n hx hb dX9_point_93 rfl (lv_at hl 3 rfl) ?_
        refine n_iast hx hb hK hP hS hAA 64 (by omega) e_38 (fun _ => rfl) (8 * came) rfl (by omega) (by decide) dX9_point_94 (fun H locs hP hS => ?_)
        obtain ⟨w_39, hw_40⟩ : ∃ z : WF, z = va_up w_30 64 (.inl (gI G, 80, .inl (aN (va_up msp (8 * came) v)))) := ⟨_, rfl⟩
        rw [← hw_40] at hP
        have fr_41 : ∀ k : Nat, k ≠ 64 → w_39 k = w_30 k := fun k h => by rw [hw_40]; exact va_up_ne _ _ h
        have e_42 : w_39 59 = .inr (8, [.int (iN ((now : Nat) : Int)), .int (iN ((came : Nat) : Int)), .ref (gad G 60), .ref (gad G 61), .ref (gad G 62), .ref (gad G 63), .ref (gad G 64), .ref (gad G 65), .int (iN ((rm : Nat) : Int)), .int (iN ((mt : Nat) : Int)), .ref (gad G 66), .ref (gad G 67), .ref (gad G 68), .ref (gad G 69), .ref (gad G 70), .int (iN ((tm : Nat) : Int)), .ref (gad G 71), .ref (gad G 72), .int (iN thg), .int (iN onn), .int (iN two), .long (jN lw), .long (jN hg), .int (iN ((sq : Nat) : Int)), .ref (gad G 73), .ref (gad G 74)]) := (fr_41 59 (by omega)).trans e_33
        have e_43 : w_39 60 = .inl (gI G, 10, .inl (aN (va_up ga came (-1)))) := (fr_41 60 (by omega)).trans e_34
        have e_44 : w_39 61 = .inl (gI G, 10, .inl (aN (pnI (va_up pn came 1)))) := (fr_41 61 (by omega)).trans e_35
        have e_45 : w_39 62 = .inl (gI G, 80, .inl (aN (va_up mbe (8 * came) ((now : Nat) : Int)))) := (fr_41 62 (by omega)).trans e_36
        have e_46 : w_39 63 = .inl (gI G, 80, .inl (aN (va_up mpl (8 * came) x))) := (fr_41 63 (by omega)).trans e_37
        have e_47 : w_39 64 = .inl (gI G, 80, .inl (aN (va_up msp (8 * came) v))) := by rw [hw_40]; exact va_up_self _ _ _
        refine lv_aload_n hx hb dX9_point_95 rfl (lv_at hl 1 rfl) ?_
        refine lv_dup hx hb dX9_point_96 rfl ?_
        refine f_get (C := RX9) (T := TX9) (N := 26) hx hb hts (by decide +kernel) hown hK hP 59 (by omega) e_42 rfl 1 (by decide) (hts (.fieldLink RX9 57 "KeptMovingModel" "points" "I") (by decide +kernel)) (fun _ h9 => h9) rfl dX9_point_97 ?_
        refine n_iconst hx hb dX9_point_100 ?_
        refine n_iadd hx hb dX9_point_101 ?_
        refine n_top (A := ((came : Nat) : Int) + 1) (B := ((came + 1 : Nat) : Int)) (by omega) ?_
        refine f_put (v := .int (iN ((came + 1 : Nat) : Int))) (ty := .int) (C := RX9) (T := TX9) (N := 26) hx hb hts (by decide +kernel) tyX9 tyX9_ok nmX9 hown hK hP hS hAA 59 (by omega) e_42 rfl 1 (by decide) (hts (.fieldLink RX9 57 "KeptMovingModel" "points" "I") (by decide +kernel)) (fun _ h9 => h9) rfl (by decide +kernel) (rfl) (rfl) (Nat.le_of_ble_eq_true rfl) (rfl) dX9_point_102 (fun H locs hP hS => ?_)
        have hP : PW G (va_up w_39 59 (.inr (8, [.int (iN ((now : Nat) : Int)), .int (iN ((came + 1 : Nat) : Int)), .ref (gad G 60), .ref (gad G 61), .ref (gad G 62), .ref (gad G 63), .ref (gad G 64), .ref (gad G 65), .int (iN ((rm : Nat) : Int)), .int (iN ((mt : Nat) : Int)), .ref (gad G 66), .ref (gad G 67), .ref (gad G 68), .ref (gad G 69), .ref (gad G 70), .int (iN ((tm : Nat) : Int)), .ref (gad G 71), .ref (gad G 72), .int (iN thg), .int (iN onn), .int (iN two), .long (jN lw), .long (jN hg), .int (iN ((sq : Nat) : Int)), .ref (gad G 73), .ref (gad G 74)]))) H := hP
        obtain ⟨w_48, hw_49⟩ : ∃ z : WF, z = va_up w_39 59 (.inr (8, [.int (iN ((now : Nat) : Int)), .int (iN ((came + 1 : Nat) : Int)), .ref (gad G 60), .ref (gad G 61), .ref (gad G 62), .ref (gad G 63), .ref (gad G 64), .ref (gad G 65), .int (iN ((rm : Nat) : Int)), .int (iN ((mt : Nat) : Int)), .ref (gad G 66), .ref (gad G 67), .ref (gad G 68), .ref (gad G 69), .ref (gad G 70), .int (iN ((tm : Nat) : Int)), .ref (gad G 71), .ref (gad G 72), .int (iN thg), .int (iN onn), .int (iN two), .long (jN lw), .long (jN hg), .int (iN ((sq : Nat) : Int)), .ref (gad G 73), .ref (gad G 74)])) := ⟨_, rfl⟩
        rw [← hw_49] at hP
        have fr_50 : ∀ k : Nat, k ≠ 59 → w_48 k = w_39 k := fun k h => by rw [hw_49]; exact va_up_ne _ _ h
        have e_51 : w_48 59 = .inr (8, [.int (iN ((now : Nat) : Int)), .int (iN ((came + 1 : Nat) : Int)), .ref (gad G 60), .ref (gad G 61), .ref (gad G 62), .ref (gad G 63), .ref (gad G 64), .ref (gad G 65), .int (iN ((rm : Nat) : Int)), .int (iN ((mt : Nat) : Int)), .ref (gad G 66), .ref (gad G 67), .ref (gad G 68), .ref (gad G 69), .ref (gad G 70), .int (iN ((tm : Nat) : Int)), .ref (gad G 71), .ref (gad G 72), .int (iN thg), .int (iN onn), .int (iN two), .long (jN lw), .long (jN hg), .int (iN ((sq : Nat) : Int)), .ref (gad G 73), .ref (gad G 74)]) := by rw [hw_49]; exact va_up_self _ _ _
        have e_52 : w_48 60 = .inl (gI G, 10, .inl (aN (va_up ga came (-1)))) := (fr_50 60 (by omega)).trans e_43
        have e_53 : w_48 61 = .inl (gI G, 10, .inl (aN (pnI (va_up pn came 1)))) := (fr_50 61 (by omega)).trans e_44
        have e_54 : w_48 62 = .inl (gI G, 80, .inl (aN (va_up mbe (8 * came) ((now : Nat) : Int)))) := (fr_50 62 (by omega)).trans e_45
        have e_55 : w_48 63 = .inl (gI G, 80, .inl (aN (va_up mpl (8 * came) x))) := (fr_50 63 (by omega)).trans e_46
        have e_56 : w_48 64 = .inl (gI G, 80, .inl (aN (va_up msp (8 * came) v))) := (fr_50 64 (by omega)).trans e_47
        refine lv_iload_n hx hb dX9_point_105 rfl (lv_at hl 0 rfl) ?_
        exact r_i hx hb hr dX9_point_106 hlocks hP hS ⟨(show iN ((came : Int)) = iN _ by rw [if_pos (by omega), if_pos (by omega)]), (fun k h0 h1 h2 h3 h4 h5 => ((((((((((fr_50 k (by omega)).trans (fr_41 k (by omega)))).trans (fr_32 k (by omega)))).trans (fr_23 k (by omega)))).trans (fr_14 k (by omega)))).trans (fr_5 k (by omega)))), (by rw [if_pos (show -1000 ≤ x ∧ x ≤ 1000 ∧ -50 ≤ v ∧ v ≤ 50 ∧ came < 10 by omega)]; exact e_51), (by rw [if_pos (show -1000 ≤ x ∧ x ≤ 1000 ∧ -50 ≤ v ∧ v ≤ 50 ∧ came < 10 by omega)]; exact e_52), (by rw [if_pos (show -1000 ≤ x ∧ x ≤ 1000 ∧ -50 ≤ v ∧ v ≤ 50 ∧ came < 10 by omega)]; exact e_53), (by rw [if_pos (show -1000 ≤ x ∧ x ≤ 1000 ∧ -50 ≤ v ∧ v ≤ 50 ∧ came < 10 by omega)]; exact e_54), (by rw [if_pos (show -1000 ≤ x ∧ x ≤ 1000 ∧ -50 ≤ v ∧ v ≤ 50 ∧ came < 10 by omega)]; exact e_55), (by rw [if_pos (show -1000 ≤ x ∧ x ≤ 1000 ∧ -50 ≤ v ∧ v ≤ 50 ∧ came < 10 by omega)]; exact e_56)⟩
      · refine n_ldc (z := (-100004)) hx hb hown (hts (.constant RX9 74 (-100004)) (by decide +kernel)) (by decide) dX9_point_40 ?_
        exact r_i hx hb hr dX9_point_42 hlocks hP hS ⟨(show iN (-100004) = iN _ by rw [if_pos (by omega), if_neg (by omega)]), (fun k _ _ _ _ _ _ => rfl), (by rw [if_neg (show ¬ (-1000 ≤ x ∧ x ≤ 1000 ∧ -50 ≤ v ∧ v ≤ 50 ∧ came < 10) by omega)]; exact e0), (by rw [if_neg (show ¬ (-1000 ≤ x ∧ x ≤ 1000 ∧ -50 ≤ v ∧ v ≤ 50 ∧ came < 10) by omega)]; exact e1), (by rw [if_neg (show ¬ (-1000 ≤ x ∧ x ≤ 1000 ∧ -50 ≤ v ∧ v ≤ 50 ∧ came < 10) by omega)]; exact e2), (by rw [if_neg (show ¬ (-1000 ≤ x ∧ x ≤ 1000 ∧ -50 ≤ v ∧ v ≤ 50 ∧ came < 10) by omega)]; exact e3), (by rw [if_neg (show ¬ (-1000 ≤ x ∧ x ≤ 1000 ∧ -50 ≤ v ∧ v ≤ 50 ∧ came < 10) by omega)]; exact e4), (by rw [if_neg (show ¬ (-1000 ≤ x ∧ x ≤ 1000 ∧ -50 ≤ v ∧ v ≤ 50 ∧ came < 10) by omega)]; exact e5)⟩
    · refine n_ldc (z := (-100002)) hx hb hown (hts (.constant RX9 73 (-100002)) (by decide +kernel)) (by decide) dX9_point_28 ?_
      exact r_i hx hb hr dX9_point_30 hlocks hP hS ⟨(show iN (-100002) = iN _ by rw [if_neg (by omega)]), (fun k _ _ _ _ _ _ => rfl), (by rw [if_neg (show ¬ (-1000 ≤ x ∧ x ≤ 1000 ∧ -50 ≤ v ∧ v ≤ 50 ∧ came < 10) by omega)]; exact e0), (by rw [if_neg (show ¬ (-1000 ≤ x ∧ x ≤ 1000 ∧ -50 ≤ v ∧ v ≤ 50 ∧ came < 10) by omega)]; exact e1), (by rw [if_neg (show ¬ (-1000 ≤ x ∧ x ≤ 1000 ∧ -50 ≤ v ∧ v ≤ 50 ∧ came < 10) by omega)]; exact e2), (by rw [if_neg (show ¬ (-1000 ≤ x ∧ x ≤ 1000 ∧ -50 ≤ v ∧ v ≤ 50 ∧ came < 10) by omega)]; exact e3), (by rw [if_neg (show ¬ (-1000 ≤ x ∧ x ≤ 1000 ∧ -50 ≤ v ∧ v ≤ 50 ∧ came < 10) by omega)]; exact e4), (by rw [if_neg (show ¬ (-1000 ≤ x ∧ x ≤ 1000 ∧ -50 ≤ v ∧ v ≤ 50 ∧ came < 10) by omega)]; exact e5)⟩

set_option maxHeartbeats 4000000 in
set_option maxRecDepth 100000 in
theorem c_X9_speed (l : Launch) (G : GE) (w : WF) (now : Nat) (came : Nat) (rm : Nat) (mt : Nat) (tm : Nat) (thg : Int) (onn : Int) (two : Int) (lw : Int) (hg : Int) (sq : Nat) (ga : Nat → Int) (pn : Nat → Nat) (mbe : Nat → Int) (mpl : Nat → Int) (msp : Nat → Int) (i : Int) (v : Int) (e0 : w 59 = .inr (8, [.int (iN ((now : Nat) : Int)), .int (iN ((came : Nat) : Int)), .ref (gad G 60), .ref (gad G 61), .ref (gad G 62), .ref (gad G 63), .ref (gad G 64), .ref (gad G 65), .int (iN ((rm : Nat) : Int)), .int (iN ((mt : Nat) : Int)), .ref (gad G 66), .ref (gad G 67), .ref (gad G 68), .ref (gad G 69), .ref (gad G 70), .int (iN ((tm : Nat) : Int)), .ref (gad G 71), .ref (gad G 72), .int (iN thg), .int (iN onn), .int (iN two), .long (jN lw), .long (jN hg), .int (iN ((sq : Nat) : Int)), .ref (gad G 73), .ref (gad G 74)])) (e1 : w 60 = .inl (gI G, 10, .inl (aN ga))) (e2 : w 61 = .inl (gI G, 10, .inl (aN (pnI pn)))) (e3 : w 62 = .inl (gI G, 80, .inl (aN mbe))) (e4 : w 63 = .inl (gI G, 80, .inl (aN mpl))) (e5 : w 64 = .inl (gI G, 80, .inl (aN msp))) (p0 : -2147483648 ≤ i ∧ i < 2147483648) (p1 : -2147483648 ≤ v ∧ v < 2147483648) (p2 : OKS came (rw8 mbe) (rw8 mpl) (rw8 msp) pn ga) (p3 : now ≤ 400) : Met l yX9_speed wsX9_speed ({ frames := 2, cells := 0, slots := 0, locals := 46 }) (PcG G w [.ref (gad G 59), .int (iN i), .int (iN v)]) (QI G (fun r w1 => r = iN (if 0 ≤ i ∧ i ≤ (came : Int) - 1 then (if -50 ≤ v ∧ v ≤ 50 then (if 0 ≤ ga i.toNat then -100003 else if mbe (8 * i.toNat + pn i.toNat - 1) = (now : Int) ∨ pn i.toNat < 8 then msp (8 * i.toNat + pn i.toNat - 1) else -100004) else -100002) else -100001) ∧ (∀ k : Nat, k ≠ 61 → k ≠ 62 → k ≠ 63 → k ≠ 64 → w1 k = w k) ∧ w1 61 = .inl (gI G, 10, .inl (aN (pnI (if 0 ≤ i ∧ i ≤ (came : Int) - 1 ∧ -50 ≤ v ∧ v ≤ 50 ∧ ga i.toNat < 0 ∧ ¬ mbe (8 * i.toNat + pn i.toNat - 1) = (now : Int) ∧ pn i.toNat < 8 then va_up pn i.toNat (pn i.toNat + 1) else pn)))) ∧ w1 62 = .inl (gI G, 80, .inl (aN (if 0 ≤ i ∧ i ≤ (came : Int) - 1 ∧ -50 ≤ v ∧ v ≤ 50 ∧ ga i.toNat < 0 ∧ ¬ mbe (8 * i.toNat + pn i.toNat - 1) = (now : Int) ∧ pn i.toNat < 8 then va_up mbe (8 * i.toNat + pn i.toNat - 1 + 1) now else mbe))) ∧ w1 63 = .inl (gI G, 80, .inl (aN (if 0 ≤ i ∧ i ≤ (came : Int) - 1 ∧ -50 ≤ v ∧ v ≤ 50 ∧ ga i.toNat < 0 ∧ ¬ mbe (8 * i.toNat + pn i.toNat - 1) = (now : Int) ∧ pn i.toNat < 8 then va_up mpl (8 * i.toNat + pn i.toNat - 1 + 1) (mpl (8 * i.toNat + pn i.toNat - 1) + msp (8 * i.toNat + pn i.toNat - 1) * ((now : Int) - mbe (8 * i.toNat + pn i.toNat - 1))) else mpl))) ∧ w1 64 = .inl (gI G, 80, .inl (aN (if 0 ≤ i ∧ i ≤ (came : Int) - 1 ∧ -50 ≤ v ∧ v ≤ 50 ∧ ga i.toNat < 0 ∧ mbe (8 * i.toNat + pn i.toNat - 1) = (now : Int) then va_up msp (8 * i.toNat + pn i.toNat - 1) v else if 0 ≤ i ∧ i ≤ (came : Int) - 1 ∧ -50 ≤ v ∧ v ≤ 50 ∧ ga i.toNat < 0 ∧ ¬ mbe (8 * i.toNat + pn i.toNat - 1) = (now : Int) ∧ pn i.toNat < 8 then va_up msp (8 * i.toNat + pn i.toNat - 1 + 1) v else msp))))) 0 0 (AA G) := by
  refine Met.ofW (cc := cX9_speed) (maxL := 5) (ret := (some .int)) (by decide) rfl ?_
  intro p e s m args below meth c s₁ B hml hv
  obtain ⟨rfl, hP, hK⟩ := hv
  have hx := B.exec
  have hb := B.bytes
  have hr := B.returns
  have hts := atoms_spec (ws := wsX9_speed) B.pre
  have hown : s.vm.findClass RX9 = some m.cls := findClass_of_methodNamed B.named
  have hlocks := B.notSynchronized
  have hS : va_S (AA G) s.heap s.heap [] := va_S.rf
  have hAA : ∀ q, AA G q → AA G q := fun _ h => h
  have hl := lv_entry ([.ref (gad G 59), .int (iN i), .int (iN v)]) (n := 5) (Nat.le_of_ble_eq_true rfl)
  rw [lg_entry_eq]
  generalize (lg_sl ([.ref (gad G 59), .int (iN i), .int (iN v)]) ++ List.replicate (5 - (lg_sl ([.ref (gad G 59), .int (iN i), .int (iN v)])).length) Slot.unset).toArray = ls at hl ⊢
  have hl : lv_has ls 5 [(0, .ref (gad G 59)), (1, .int (iN i)), (2, .int (iN v))] := hl
  have hc10 : came ≤ 10 := p2.1
  refine lv_aload_n hx hb dX9_speed_0 rfl (lv_at hl 0 rfl) ?_
  refine lv_iload_n hx hb dX9_speed_1 rfl (lv_at hl 1 rfl) ?_
  refine vp_callSi (W.runV (As := [.int (iN i)]) (rest := []) ⟨hx, hb, hml, hown, hts⟩ (c_X9_isPoint l G w now came rm mt tm thg onn two lw hg sq i e0 (p0) (hc10)) (cwV 1 hts gX9_speed_X9_isPoint rfl rfl rfl (by decide +kernel) ⟨Nat.le_of_ble_eq_true rfl, Nat.le_of_ble_eq_true rfl⟩) (f_preV hP hK 59 (by omega) 8 e0 rfl) rfl rfl hl.1 rfl (lv_room (Nat.le_of_ble_eq_true rfl)) dX9_speed_2 ⟨Nat.zero_le _, Nat.zero_le _⟩) (fun r_1 hr_1 => ?_)
  rw [show r_1 = iN (if (0 ≤ i ∧ i ≤ ((came : Nat) : Int) - 1) then 1 else 0) from hr_1]
  refine n_ifb_ne (tgt := 11) hx hb dX9_speed_5 (by decide) (fun c_5 => ?_) (fun c_5 => ?_)
  · refine lv_iload_n hx hb dX9_speed_11 rfl (lv_at hl 2 rfl) ?_
    refine n_i2l hx hb (by omega) (by omega) dX9_speed_12 ?_
    refine n_ldc2 (z := (-50)) hx hb hown (hts (.constantLong RX9 69 (-50)) (by decide +kernel)) (by decide) dX9_speed_13 ?_
    refine n_ldc2 (z := (50)) hx hb hown (hts (.constantLong RX9 71 (50)) (by decide +kernel)) (by decide) dX9_speed_16 ?_
    refine vp_callSi (W.runS (As := [.long (jN v), .long (jN (-50)), .long (jN 50)]) (rest := []) ⟨hx, hb, hml, hown, hts⟩ (c_X9_in l v (-50) (50 : Int) (by omega) (by omega) (by omega)) (va_cwS 3 hts gX9_speed_X9_in rfl rfl rfl (by decide +kernel) ⟨Nat.le_of_ble_eq_true rfl, Nat.le_of_ble_eq_true rfl⟩) ⟨fun _ _ _ _ q => q, fun _ _ _ => rfl⟩ rfl rfl hl.1 rfl (lv_room (Nat.le_of_ble_eq_true rfl)) dX9_speed_19 ⟨Nat.zero_le _, Nat.zero_le _⟩) (fun r_2 hr_2 => ?_)
    rw [show r_2 = iN (if ((-50) ≤ v ∧ v ≤ (50 : Int)) then 1 else 0) from hr_2]
    refine n_ifb_ne (tgt := 28) hx hb dX9_speed_22 (by decide) (fun c_22 => ?_) (fun c_22 => ?_)
    · have hz_3 : i = ((i.toNat : Nat) : Int) := by omega
      have hl : lv_has ls 5 [(0, .ref (gad G 59)), (1, .int (iN ((i.toNat : Nat) : Int))), (2, .int (iN v))] := by rw [← hz_3]; exact hl
      have hc10 : came ≤ 10 := p2.1
      have hVi := p2.2 i.toNat (by omega)
      obtain ⟨hv1, hv2, hv3, hv4⟩ := id hVi
      have hbl : 0 ≤ mbe (8 * i.toNat + pn i.toNat - 1) ∧ mbe (8 * i.toNat + pn i.toNat - 1) ≤ 400 := by have h9 := hv2 (pn i.toNat - 1) (by omega); unfold rw8 at h9; rw [show 8 * i.toNat + (pn i.toNat - 1) = 8 * i.toNat + pn i.toNat - 1 by omega] at h9; exact h9
      refine lv_aload_n hx hb dX9_speed_28 rfl (lv_at hl 0 rfl) ?_
      refine f_get (C := RX9) (T := TX9) (N := 26) hx hb hts (by decide +kernel) hown hK hP 59 (by omega) e0 rfl 2 (by decide) (hts (.fieldLink RX9 7 "KeptMovingModel" "goneAt" "[I") (by decide +kernel)) (fun _ h9 => h9) rfl dX9_speed_29 ?_
      refine lv_iload_n hx hb dX9_speed_32 rfl (lv_at hl 1 rfl) ?_
      refine n_iald hx hb hK hP 60 (by omega) e1 i.toNat rfl (by omega) (by decide) dX9_speed_33 ?_
      refine n_if_lt (tgt := 40) hx hb dX9_speed_34 (by decide) (by omega) (by omega) (fun c_34 => ?_) (fun c_34 => ?_)
      · refine lv_aload_n hx hb dX9_speed_40 rfl (lv_at hl 0 rfl) ?_
        refine lv_iload_n hx hb dX9_speed_41 rfl (lv_at hl 1 rfl) ?_
        refine vp_callSi (W.runV (As := [.int (iN ((i.toNat : Nat) : Int))]) (rest := []) ⟨hx, hb, hml, hown, hts⟩ (c_X9_latest l G w now came rm mt tm thg onn two lw hg sq ga pn mbe mpl msp i.toNat e0 e1 e2 e3 e4 e5 (by omega) (by omega)) (cwV 1 hts gX9_speed_X9_latest rfl rfl rfl (by decide +kernel) ⟨Nat.le_of_ble_eq_true rfl, Nat.le_of_ble_eq_true rfl⟩) (f_preV hP hK 59 (by omega) 8 e0 rfl) rfl rfl hl.1 rfl (lv_room (Nat.le_of_ble_eq_true rfl)) dX9_speed_42 ⟨Nat.zero_le _, Nat.zero_le _⟩) (fun r_4 hr_4 => ?_)
        rw [show r_4 = iN ((8 * i.toNat + pn i.toNat - 1 : Nat) : Int) from hr_4]
        refine lv_istore_n (lv' := [(3, .int (iN ((8 * i.toNat + pn i.toNat - 1 : Nat) : Int))), (0, .ref (gad G 59)), (1, .int (iN ((i.toNat : Nat) : Int))), (2, .int (iN v))]) hx hb dX9_speed_45 rfl hl (by decide) rfl (fun ls hl => ?_)
        refine lv_aload_n hx hb dX9_speed_46 rfl (lv_at hl 1 rfl) ?_
        refine f_get (C := RX9) (T := TX9) (N := 26) hx hb hts (by decide +kernel) hown hK hP 59 (by omega) e0 rfl 6 (by decide) (hts (.fieldLink RX9 22 "KeptMovingModel" "speeds" "[I") (by decide +kernel)) (fun _ h9 => h9) rfl dX9_speed_47 ?_
        refine lv_iload_n hx hb dX9_speed_50 rfl (lv_at hl 0 rfl) ?_
        refine n_iald hx hb hK hP 64 (by omega) e5 (8 * i.toNat + pn i.toNat - 1) rfl (by omega) (by decide) dX9_speed_51 ?_
        refine lv_istore (lv' := [(4, .int (iN (msp (8 * i.toNat + pn i.toNat - 1)))), (3, .int (iN ((8 * i.toNat + pn i.toNat - 1 : Nat) : Int))), (0, .ref (gad G 59)), (1, .int (iN ((i.toNat : Nat) : Int))), (2, .int (iN v))]) hx hb dX9_speed_52 hl (by decide) rfl (fun ls hl => ?_)
        refine lv_aload_n hx hb dX9_speed_54 rfl (lv_at hl 2 rfl) ?_
        refine f_get (C := RX9) (T := TX9) (N := 26) hx hb hts (by decide +kernel) hown hK hP 59 (by omega) e0 rfl 4 (by decide) (hts (.fieldLink RX9 16 "KeptMovingModel" "begins" "[I") (by decide +kernel)) (fun _ h9 => h9) rfl dX9_speed_55 ?_
        refine lv_iload_n hx hb dX9_speed_58 rfl (lv_at hl 1 rfl) ?_
        refine n_iald hx hb hK hP 62 (by omega) e3 (8 * i.toNat + pn i.toNat - 1) rfl (by omega) (by decide) dX9_speed_59 ?_
        refine lv_aload_n hx hb dX9_speed_60 rfl (lv_at hl 2 rfl) ?_
        refine f_get (C := RX9) (T := TX9) (N := 26) hx hb hts (by decide +kernel) hown hK hP 59 (by omega) e0 rfl 0 (by decide) (hts (.fieldLink RX9 75 "KeptMovingModel" "now" "I") (by decide +kernel)) (fun _ h9 => h9) rfl dX9_speed_61 ?_
        refine n_icmp_ne (tgt := 77) hx hb dX9_speed_64 (by decide) (by omega) (by omega) (by omega) (by omega) (fun c_64 => ?_) (fun c_64 => ?_)
        · refine lv_aload_n hx hb dX9_speed_77 rfl (lv_at hl 2 rfl) ?_
          refine f_get (C := RX9) (T := TX9) (N := 26) hx hb hts (by decide +kernel) hown hK hP 59 (by omega) e0 rfl 3 (by decide) (hts (.fieldLink RX9 13 "KeptMovingModel" "pieces" "[I") (by decide +kernel)) (fun _ h9 => h9) rfl dX9_speed_78 ?_
          refine lv_iload_n hx hb dX9_speed_81 rfl (lv_at hl 3 rfl) ?_
          refine n_iald hx hb hK hP 61 (by omega) e2 i.toNat rfl (by omega) (by decide) dX9_speed_82 ?_
          refine n_top (B := ((pn i.toNat : Nat) : Int)) rfl ?_
          refine n_bipush hx hb dX9_speed_83 (by decide) ?_
          refine n_icmp_ne (tgt := 91) hx hb dX9_speed_85 (by decide) (by omega) (by omega) (by omega) (by omega) (fun c_85 => ?_) (fun c_85 => ?_)
          · refine lv_aload_n hx hb dX9_speed_91 rfl (lv_at hl 2 rfl) ?_
            refine f_get (C := RX9) (T := TX9) (N := 26) hx hb hts (by decide +kernel) hown hK hP 59 (by omega) e0 rfl 4 (by decide) (hts (.fieldLink RX9 16 "KeptMovingModel" "begins" "[I") (by decide +kernel)) (fun _ h9 => h9) rfl dX9_speed_92 ?_
            refine lv_iload_n hx hb dX9_speed_95 rfl (lv_at hl 1 rfl) ?_
            refine n_iconst hx hb dX9_speed_96 ?_
            refine n_iadd hx hb dX9_speed_97 ?_
            refine n_top (A := ((8 * i.toNat + pn i.toNat - 1 : Nat) : Int) + 1) (B := (((8 * i.toNat + pn i.toNat - 1) + 1 : Nat) : Int)) (by omega) ?_
            refine lv_aload_n hx hb dX9_speed_98 rfl (lv_at hl 2 rfl) ?_
            refine f_get (C := RX9) (T := TX9) (N := 26) hx hb hts (by decide +kernel) hown hK hP 59 (by omega) e0 rfl 0 (by decide) (hts (.fieldLink RX9 75 "KeptMovingModel" "now" "I") (by decide +kernel)) (fun _ h9 => h9) rfl dX9_speed_99 ?_
            refine n_iast hx hb hK hP hS hAA 62 (by omega) e3 (fun _ => rfl) ((8 * i.toNat + pn i.toNat - 1) + 1) rfl (by omega) (by decide) dX9_speed_102 (fun H locs hP hS => ?_)
            obtain ⟨w_5, hw_6⟩ : ∃ z : WF, z = va_up w 62 (.inl (gI G, 80, .inl (aN (va_up mbe ((8 * i.toNat + pn i.toNat - 1) + 1) ((now : Nat) : Int))))) := ⟨_, rfl⟩
            rw [← hw_6] at hP
            have fr_7 : ∀ k : Nat, k ≠ 62 → w_5 k = w k := fun k h => by rw [hw_6]; exact va_up_ne _ _ h
            have e_8 : w_5 59 = .inr (8, [.int (iN ((now : Nat) : Int)), .int (iN ((came : Nat) : Int)), .ref (gad G 60), .ref (gad G 61), .ref (gad G 62), .ref (gad G 63), .ref (gad G 64), .ref (gad G 65), .int (iN ((rm : Nat) : Int)), .int (iN ((mt : Nat) : Int)), .ref (gad G 66), .ref (gad G 67), .ref (gad G 68), .ref (gad G 69), .ref (gad G 70), .int (iN ((tm : Nat) : Int)), .ref (gad G 71), .ref (gad G 72), .int (iN thg), .int (iN onn), .int (iN two), .long (jN lw), .long (jN hg), .int (iN ((sq : Nat) : Int)), .ref (gad G 73), .ref (gad G 74)]) := (fr_7 59 (by omega)).trans e0
            have e_9 : w_5 60 = .inl (gI G, 10, .inl (aN ga)) := (fr_7 60 (by omega)).trans e1
            have e_10 : w_5 61 = .inl (gI G, 10, .inl (aN (pnI pn))) := (fr_7 61 (by omega)).trans e2
            have e_11 : w_5 62 = .inl (gI G, 80, .inl (aN (va_up mbe ((8 * i.toNat + pn i.toNat - 1) + 1) ((now : Nat) : Int)))) := by rw [hw_6]; exact va_up_self _ _ _
            have e_12 : w_5 63 = .inl (gI G, 80, .inl (aN mpl)) := (fr_7 63 (by omega)).trans e4
            have e_13 : w_5 64 = .inl (gI G, 80, .inl (aN msp)) := (fr_7 64 (by omega)).trans e5
            refine lv_aload_n hx hb dX9_speed_103 rfl (lv_at hl 2 rfl) ?_
            refine f_get (C := RX9) (T := TX9) (N := 26) hx hb hts (by decide +kernel) hown hK hP 59 (by omega) e_8 rfl 5 (by decide) (hts (.fieldLink RX9 19 "KeptMovingModel" "places" "[I") (by decide +kernel)) (fun _ h9 => h9) rfl dX9_speed_104 ?_
            refine lv_iload_n hx hb dX9_speed_107 rfl (lv_at hl 1 rfl) ?_
            refine n_iconst hx hb dX9_speed_108 ?_
            refine n_iadd hx hb dX9_speed_109 ?_
            refine n_top (A := ((8 * i.toNat + pn i.toNat - 1 : Nat) : Int) + 1) (B := (((8 * i.toNat + pn i.toNat - 1) + 1 : Nat) : Int)) (by omega) ?_
            refine lv_aload_n hx hb dX9_speed_110 rfl (lv_at hl 2 rfl) ?_
            refine f_get (C := RX9) (T := TX9) (N := 26) hx hb hts (by decide +kernel) hown hK hP 59 (by omega) e_8 rfl 5 (by decide) (hts (.fieldLink RX9 19 "KeptMovingModel" "places" "[I") (by decide +kernel)) (fun _ h9 => h9) rfl dX9_speed_111 ?_
            refine lv_iload_n hx hb dX9_speed_114 rfl (lv_at hl 1 rfl) ?_
            refine n_iald hx hb hK hP 63 (by omega) e_12 (8 * i.toNat + pn i.toNat - 1) rfl (by omega) (by decide) dX9_speed_115 ?_
            refine lv_aload_n hx hb dX9_speed_116 rfl (lv_at hl 2 rfl) ?_
            refine f_get (C := RX9) (T := TX9) (N := 26) hx hb hts (by decide +kernel) hown hK hP 59 (by omega) e_8 rfl 6 (by decide) (hts (.fieldLink RX9 22 "KeptMovingModel" "speeds" "[I") (by decide +kernel)) (fun _ h9 => h9) rfl dX9_speed_117 ?_
            refine lv_iload_n hx hb dX9_speed_120 rfl (lv_at hl 1 rfl) ?_
            refine n_iald hx hb hK hP 64 (by omega) e_13 (8 * i.toNat + pn i.toNat - 1) rfl (by omega) (by decide) dX9_speed_121 ?_
            refine lv_aload_n hx hb dX9_speed_122 rfl (lv_at hl 2 rfl) ?_
            refine f_get (C := RX9) (T := TX9) (N := 26) hx hb hts (by decide +kernel) hown hK hP 59 (by omega) e_8 rfl 0 (by decide) (hts (.fieldLink RX9 75 "KeptMovingModel" "now" "I") (by decide +kernel)) (fun _ h9 => h9) rfl dX9_speed_123 ?_
            refine lv_aload_n hx hb dX9_speed_126 rfl (lv_at hl 2 rfl) ?_
            refine f_get (C := RX9) (T := TX9) (N := 26) hx hb hts (by decide +kernel) hown hK hP 59 (by omega) e_8 rfl 4 (by decide) (hts (.fieldLink RX9 16 "KeptMovingModel" "begins" "[I") (by decide +kernel)) (fun _ h9 => h9) rfl dX9_speed_127 ?_
            refine lv_iload_n hx hb dX9_speed_130 rfl (lv_at hl 1 rfl) ?_
            refine n_iald hx hb hK hP 62 (by omega) e_11 (8 * i.toNat + pn i.toNat - 1) rfl (by omega) (by decide) dX9_speed_131 ?_
            refine n_isub hx hb dX9_speed_132 ?_
            refine n_imul hx hb dX9_speed_133 ?_
            refine n_iadd hx hb dX9_speed_134 ?_
            refine n_iast hx hb hK hP hS hAA 63 (by omega) e_12 (fun _ => rfl) ((8 * i.toNat + pn i.toNat - 1) + 1) rfl (by omega) (by decide) dX9_speed_135 (fun H locs hP hS => ?_)
            obtain ⟨w_14, hw_15⟩ : ∃ z : WF, z = va_up w_5 63 (.inl (gI G, 80, .inl (aN (va_up mpl ((8 * i.toNat + pn i.toNat - 1) + 1) ((mpl (8 * i.toNat + pn i.toNat - 1)) + ((msp (8 * i.toNat + pn i.toNat - 1)) * (((now : Nat) : Int) - ((va_up mbe ((8 * i.toNat + pn i.toNat - 1) + 1) ((now : Nat) : Int)) (8 * i.toNat + pn i.toNat - 1))))))))) := ⟨_, rfl⟩
            rw [← hw_15] at hP
            have fr_16 : ∀ k : Nat, k ≠ 63 → w_14 k = w_5 k := fun k h => by rw [hw_15]; exact va_up_ne _ _ h
            have e_17 : w_14 59 = .inr (8, [.int (iN ((now : Nat) : Int)), .int (iN ((came : Nat) : Int)), .ref (gad G 60), .ref (gad G 61), .ref (gad G 62), .ref (gad G 63), .ref (gad G 64), .ref (gad G 65), .int (iN ((rm : Nat) : Int)), .int (iN ((mt : Nat) : Int)), .ref (gad G 66), .ref (gad G 67), .ref (gad G 68), .ref (gad G 69), .ref (gad G 70), .int (iN ((tm : Nat) : Int)), .ref (gad G 71), .ref (gad G 72), .int (iN thg), .int (iN onn), .int (iN two), .long (jN lw), .long (jN hg), .int (iN ((sq : Nat) : Int)), .ref (gad G 73), .ref (gad G 74)]) := (fr_16 59 (by omega)).trans e_8
            have e_18 : w_14 60 = .inl (gI G, 10, .inl (aN ga)) := (fr_16 60 (by omega)).trans e_9
            have e_19 : w_14 61 = .inl (gI G, 10, .inl (aN (pnI pn))) := (fr_16 61 (by omega)).trans e_10
            have e_20 : w_14 62 = .inl (gI G, 80, .inl (aN (va_up mbe ((8 * i.toNat + pn i.toNat - 1) + 1) ((now : Nat) : Int)))) := (fr_16 62 (by omega)).trans e_11
            have e_21 : w_14 63 = .inl (gI G, 80, .inl (aN (va_up mpl ((8 * i.toNat + pn i.toNat - 1) + 1) ((mpl (8 * i.toNat + pn i.toNat - 1)) + ((msp (8 * i.toNat + pn i.toNat - 1)) * (((now : Nat) : Int) - ((va_up mbe ((8 * i.toNat + pn i.toNat - 1) + 1) ((now : Nat) : Int)) (8 * i.toNat + pn i.toNat - 1)))))))) := by rw [hw_15]; exact va_up_self _ _ _
            have e_22 : w_14 64 = .inl (gI G, 80, .inl (aN msp)) := (fr_16 64 (by omega)).trans e_13
            refine lv_aload_n hx hb dX9_speed_136 rfl (lv_at hl 2 rfl) ?_
            refine f_get (C := RX9) (T := TX9) (N := 26) hx hb hts (by decide +kernel) hown hK hP 59 (by omega) e_17 rfl 6 (by decide) (hts (.fieldLink RX9 22 "KeptMovingModel" "speeds" "[I") (by decide +kernel)) (fun _ h9 => h9) rfl dX9_speed_137 ?_
            refine lv_iload_n hx hb dX9_speed_140 rfl (lv_at hl 1 rfl) ?_
            refine n_iconst hx hb dX9_speed_141 ?_
            refine n_iadd hx hb dX9_speed_142 ?_
            refine n_top (A := ((8 * i.toNat + pn i.toNat - 1 : Nat) : Int) + 1) (B := (((8 * i.toNat + pn i.toNat - 1) + 1 : Nat) : Int)) (by omega) ?_
            refine lv_iload_n hx hb dX9_speed_143 rfl (lv_at hl 4 rfl) ?_
            refine n_iast hx hb hK hP hS hAA 64 (by omega) e_22 (fun _ => rfl) ((8 * i.toNat + pn i.toNat - 1) + 1) rfl (by omega) (by decide) dX9_speed_144 (fun H locs hP hS => ?_)
            obtain ⟨w_23, hw_24⟩ : ∃ z : WF, z = va_up w_14 64 (.inl (gI G, 80, .inl (aN (va_up msp ((8 * i.toNat + pn i.toNat - 1) + 1) v)))) := ⟨_, rfl⟩
            rw [← hw_24] at hP
            have fr_25 : ∀ k : Nat, k ≠ 64 → w_23 k = w_14 k := fun k h => by rw [hw_24]; exact va_up_ne _ _ h
            have e_26 : w_23 59 = .inr (8, [.int (iN ((now : Nat) : Int)), .int (iN ((came : Nat) : Int)), .ref (gad G 60), .ref (gad G 61), .ref (gad G 62), .ref (gad G 63), .ref (gad G 64), .ref (gad G 65), .int (iN ((rm : Nat) : Int)), .int (iN ((mt : Nat) : Int)), .ref (gad G 66), .ref (gad G 67), .ref (gad G 68), .ref (gad G 69), .ref (gad G 70), .int (iN ((tm : Nat) : Int)), .ref (gad G 71), .ref (gad G 72), .int (iN thg), .int (iN onn), .int (iN two), .long (jN lw), .long (jN hg), .int (iN ((sq : Nat) : Int)), .ref (gad G 73), .ref (gad G 74)]) := (fr_25 59 (by omega)).trans e_17
            have e_27 : w_23 60 = .inl (gI G, 10, .inl (aN ga)) := (fr_25 60 (by omega)).trans e_18
            have e_28 : w_23 61 = .inl (gI G, 10, .inl (aN (pnI pn))) := (fr_25 61 (by omega)).trans e_19
            have e_29 : w_23 62 = .inl (gI G, 80, .inl (aN (va_up mbe ((8 * i.toNat + pn i.toNat - 1) + 1) ((now : Nat) : Int)))) := (fr_25 62 (by omega)).trans e_20
            have e_30 : w_23 63 = .inl (gI G, 80, .inl (aN (va_up mpl ((8 * i.toNat + pn i.toNat - 1) + 1) ((mpl (8 * i.toNat + pn i.toNat - 1)) + ((msp (8 * i.toNat + pn i.toNat - 1)) * (((now : Nat) : Int) - ((va_up mbe ((8 * i.toNat + pn i.toNat - 1) + 1) ((now : Nat) : Int)) (8 * i.toNat + pn i.toNat - 1)))))))) := (fr_25 63 (by omega)).trans e_21
            have e_31 : w_23 64 = .inl (gI G, 80, .inl (aN (va_up msp ((8 * i.toNat + pn i.toNat - 1) + 1) v))) := by rw [hw_24]; exact va_up_self _ _ _
            refine lv_aload_n hx hb dX9_speed_145 rfl (lv_at hl 2 rfl) ?_
            refine f_get (C := RX9) (T := TX9) (N := 26) hx hb hts (by decide +kernel) hown hK hP 59 (by omega) e_26 rfl 3 (by decide) (hts (.fieldLink RX9 13 "KeptMovingModel" "pieces" "[I") (by decide +kernel)) (fun _ h9 => h9) rfl dX9_speed_146 ?_
            refine lv_iload_n hx hb dX9_speed_149 rfl (lv_at hl 3 rfl) ?_
            refine lv_dup2_11 hx hb dX9_speed_150 rfl rfl ?_
            refine n_iald hx hb hK hP 61 (by omega) e_28 i.toNat rfl (by omega) (by decide) dX9_speed_151 ?_
            refine n_top (B := ((pn i.toNat : Nat) : Int)) rfl ?_
            refine n_iconst hx hb dX9_speed_152 ?_
            refine n_iadd hx hb dX9_speed_153 ?_
            refine n_top (A := ((pn i.toNat : Nat) : Int) + 1) (B := (((pn i.toNat) + 1 : Nat) : Int)) (by omega) ?_
            refine n_iast hx hb hK hP hS hAA 61 (by omega) e_28 (fun _ => rfl) i.toNat rfl (by omega) (by decide) dX9_speed_154 (fun H locs hP hS => ?_)
            obtain ⟨w_32, hw_33⟩ : ∃ z : WF, z = va_up w_23 61 (.inl (gI G, 10, .inl (aN (va_up (pnI pn) i.toNat (((pn i.toNat) + 1 : Nat) : Int))))) := ⟨_, rfl⟩
            rw [← hw_33] at hP
            have fr_34 : ∀ k : Nat, k ≠ 61 → w_32 k = w_23 k := fun k h => by rw [hw_33]; exact va_up_ne _ _ h
            have e_35 : w_32 59 = .inr (8, [.int (iN ((now : Nat) : Int)), .int (iN ((came : Nat) : Int)), .ref (gad G 60), .ref (gad G 61), .ref (gad G 62), .ref (gad G 63), .ref (gad G 64), .ref (gad G 65), .int (iN ((rm : Nat) : Int)), .int (iN ((mt : Nat) : Int)), .ref (gad G 66), .ref (gad G 67), .ref (gad G 68), .ref (gad G 69), .ref (gad G 70), .int (iN ((tm : Nat) : Int)), .ref (gad G 71), .ref (gad G 72), .int (iN thg), .int (iN onn), .int (iN two), .long (jN lw), .long (jN hg), .int (iN ((sq : Nat) : Int)), .ref (gad G 73), .ref (gad G 74)]) := (fr_34 59 (by omega)).trans e_26
            have e_36 : w_32 60 = .inl (gI G, 10, .inl (aN ga)) := (fr_34 60 (by omega)).trans e_27
            have e_37 : w_32 61 = .inl (gI G, 10, .inl (aN (pnI (va_up pn i.toNat ((pn i.toNat) + 1))))) := by rw [hw_33, va_up_self]; exact congrArg (fun z => (.inl (gI G, 10, .inl (aN z)) : va_E)) (pnI_up _ _ _)
            have e_38 : w_32 62 = .inl (gI G, 80, .inl (aN (va_up mbe ((8 * i.toNat + pn i.toNat - 1) + 1) ((now : Nat) : Int)))) := (fr_34 62 (by omega)).trans e_29
            have e_39 : w_32 63 = .inl (gI G, 80, .inl (aN (va_up mpl ((8 * i.toNat + pn i.toNat - 1) + 1) ((mpl (8 * i.toNat + pn i.toNat - 1)) + ((msp (8 * i.toNat + pn i.toNat - 1)) * (((now : Nat) : Int) - ((va_up mbe ((8 * i.toNat + pn i.toNat - 1) + 1) ((now : Nat) : Int)) (8 * i.toNat + pn i.toNat - 1)))))))) := (fr_34 63 (by omega)).trans e_30
            have e_40 : w_32 64 = .inl (gI G, 80, .inl (aN (va_up msp ((8 * i.toNat + pn i.toNat - 1) + 1) v))) := (fr_34 64 (by omega)).trans e_31
            refine lv_iload hx hb dX9_speed_155 (lv_at hl 0 rfl) ?_
            exact r_i hx hb hr dX9_speed_157 hlocks hP hS ⟨(show iN (msp (8 * i.toNat + pn i.toNat - 1)) = iN _ by rw [if_pos (by omega), if_pos (by omega), if_neg (by omega), if_pos (by omega)]), (fun k h0 h1 h2 h3 => ((((((fr_34 k (by omega)).trans (fr_25 k (by omega)))).trans (fr_16 k (by omega)))).trans (fr_7 k (by omega)))), (by rw [if_pos (show 0 ≤ i ∧ i ≤ (came : Int) - 1 ∧ -50 ≤ v ∧ v ≤ 50 ∧ ga i.toNat < 0 ∧ ¬ mbe (8 * i.toNat + pn i.toNat - 1) = (now : Int) ∧ pn i.toNat < 8 by omega)]; exact e_37), (by rw [if_pos (show 0 ≤ i ∧ i ≤ (came : Int) - 1 ∧ -50 ≤ v ∧ v ≤ 50 ∧ ga i.toNat < 0 ∧ ¬ mbe (8 * i.toNat + pn i.toNat - 1) = (now : Int) ∧ pn i.toNat < 8 by omega)]; exact e_38), (by have h9 := e_39; rw [show va_up mbe (8 * i.toNat + pn i.toNat - 1 + 1) ((now : Nat) : Int) (8 * i.toNat + pn i.toNat - 1) = mbe (8 * i.toNat + pn i.toNat - 1) from va_up_ne _ _ (by omega)] at h9; rw [if_pos (show 0 ≤ i ∧ i ≤ (came : Int) - 1 ∧ -50 ≤ v ∧ v ≤ 50 ∧ ga i.toNat < 0 ∧ ¬ mbe (8 * i.toNat + pn i.toNat - 1) = (now : Int) ∧ pn i.toNat < 8 by omega)]; exact h9), (by rw [if_neg (show ¬ (0 ≤ i ∧ i ≤ (came : Int) - 1 ∧ -50 ≤ v ∧ v ≤ 50 ∧ ga i.toNat < 0 ∧ mbe (8 * i.toNat + pn i.toNat - 1) = (now : Int)) by omega), if_pos (show 0 ≤ i ∧ i ≤ (came : Int) - 1 ∧ -50 ≤ v ∧ v ≤ 50 ∧ ga i.toNat < 0 ∧ ¬ mbe (8 * i.toNat + pn i.toNat - 1) = (now : Int) ∧ pn i.toNat < 8 by omega)]; exact e_40)⟩
          · refine n_ldc (z := (-100004)) hx hb hown (hts (.constant RX9 74 (-100004)) (by decide +kernel)) (by decide) dX9_speed_88 ?_
            exact r_i hx hb hr dX9_speed_90 hlocks hP hS ⟨(show iN (-100004) = iN _ by rw [if_pos (by omega), if_pos (by omega), if_neg (by omega), if_neg (by omega)]), (fun k _ _ _ _ => rfl), (by rw [if_neg (show ¬ (0 ≤ i ∧ i ≤ (came : Int) - 1 ∧ -50 ≤ v ∧ v ≤ 50 ∧ ga i.toNat < 0 ∧ ¬ mbe (8 * i.toNat + pn i.toNat - 1) = (now : Int) ∧ pn i.toNat < 8) by omega)]; exact e2), (by rw [if_neg (show ¬ (0 ≤ i ∧ i ≤ (came : Int) - 1 ∧ -50 ≤ v ∧ v ≤ 50 ∧ ga i.toNat < 0 ∧ ¬ mbe (8 * i.toNat + pn i.toNat - 1) = (now : Int) ∧ pn i.toNat < 8) by omega)]; exact e3), (by rw [if_neg (show ¬ (0 ≤ i ∧ i ≤ (came : Int) - 1 ∧ -50 ≤ v ∧ v ≤ 50 ∧ ga i.toNat < 0 ∧ ¬ mbe (8 * i.toNat + pn i.toNat - 1) = (now : Int) ∧ pn i.toNat < 8) by omega)]; exact e4), (by rw [if_neg (show ¬ (0 ≤ i ∧ i ≤ (came : Int) - 1 ∧ -50 ≤ v ∧ v ≤ 50 ∧ ga i.toNat < 0 ∧ mbe (8 * i.toNat + pn i.toNat - 1) = (now : Int)) by omega), if_neg (show ¬ (0 ≤ i ∧ i ≤ (came : Int) - 1 ∧ -50 ≤ v ∧ v ≤ 50 ∧ ga i.toNat < 0 ∧ ¬ mbe (8 * i.toNat + pn i.toNat - 1) = (now : Int) ∧ pn i.toNat < 8) by omega)]; exact e5)⟩
        · refine lv_aload_n hx hb dX9_speed_67 rfl (lv_at hl 2 rfl) ?_
          refine f_get (C := RX9) (T := TX9) (N := 26) hx hb hts (by decide +kernel) hown hK hP 59 (by omega) e0 rfl 6 (by decide) (hts (.fieldLink RX9 22 "KeptMovingModel" "speeds" "[I") (by decide +kernel)) (fun _ h9 => h9) rfl dX9_speed_68 ?_
          refine lv_iload_n hx hb dX9_speed_71 rfl (lv_at hl 1 rfl) ?_
          refine lv_iload_n hx hb dX9_speed_72 rfl (lv_at hl 4 rfl) ?_
          refine n_iast hx hb hK hP hS hAA 64 (by omega) e5 (fun _ => rfl) (8 * i.toNat + pn i.toNat - 1) rfl (by omega) (by decide) dX9_speed_73 (fun H locs hP hS => ?_)
          obtain ⟨w_41, hw_42⟩ : ∃ z : WF, z = va_up w 64 (.inl (gI G, 80, .inl (aN (va_up msp (8 * i.toNat + pn i.toNat - 1) v)))) := ⟨_, rfl⟩
          rw [← hw_42] at hP
          have fr_43 : ∀ k : Nat, k ≠ 64 → w_41 k = w k := fun k h => by rw [hw_42]; exact va_up_ne _ _ h
          have e_44 : w_41 59 = .inr (8, [.int (iN ((now : Nat) : Int)), .int (iN ((came : Nat) : Int)), .ref (gad G 60), .ref (gad G 61), .ref (gad G 62), .ref (gad G 63), .ref (gad G 64), .ref (gad G 65), .int (iN ((rm : Nat) : Int)), .int (iN ((mt : Nat) : Int)), .ref (gad G 66), .ref (gad G 67), .ref (gad G 68), .ref (gad G 69), .ref (gad G 70), .int (iN ((tm : Nat) : Int)), .ref (gad G 71), .ref (gad G 72), .int (iN thg), .int (iN onn), .int (iN two), .long (jN lw), .long (jN hg), .int (iN ((sq : Nat) : Int)), .ref (gad G 73), .ref (gad G 74)]) := (fr_43 59 (by omega)).trans e0
          have e_45 : w_41 60 = .inl (gI G, 10, .inl (aN ga)) := (fr_43 60 (by omega)).trans e1
          have e_46 : w_41 61 = .inl (gI G, 10, .inl (aN (pnI pn))) := (fr_43 61 (by omega)).trans e2
          have e_47 : w_41 62 = .inl (gI G, 80, .inl (aN mbe)) := (fr_43 62 (by omega)).trans e3
          have e_48 : w_41 63 = .inl (gI G, 80, .inl (aN mpl)) := (fr_43 63 (by omega)).trans e4
          have e_49 : w_41 64 = .inl (gI G, 80, .inl (aN (va_up msp (8 * i.toNat + pn i.toNat - 1) v))) := by rw [hw_42]; exact va_up_self _ _ _
          refine lv_iload hx hb dX9_speed_74 (lv_at hl 0 rfl) ?_
          exact r_i hx hb hr dX9_speed_76 hlocks hP hS ⟨(show iN (msp (8 * i.toNat + pn i.toNat - 1)) = iN _ by rw [if_pos (by omega), if_pos (by omega), if_neg (by omega), if_pos (by omega)]), (fun k h0 h1 h2 h3 => fr_43 k (by omega)), (by rw [if_neg (show ¬ (0 ≤ i ∧ i ≤ (came : Int) - 1 ∧ -50 ≤ v ∧ v ≤ 50 ∧ ga i.toNat < 0 ∧ ¬ mbe (8 * i.toNat + pn i.toNat - 1) = (now : Int) ∧ pn i.toNat < 8) by omega)]; exact e_46), (by rw [if_neg (show ¬ (0 ≤ i ∧ i ≤ (came : Int) - 1 ∧ -50 ≤ v ∧ v ≤ 50 ∧ ga i.toNat < 0 ∧ ¬ mbe (8 * i.toNat + pn i.toNat - 1) = (now : Int) ∧ pn i.toNat < 8) by omega)]; exact e_47), (by rw [if_neg (show ¬ (0 ≤ i ∧ i ≤ (came : Int) - 1 ∧ -50 ≤ v ∧ v ≤ 50 ∧ ga i.toNat < 0 ∧ ¬ mbe (8 * i.toNat + pn i.toNat - 1) = (now : Int) ∧ pn i.toNat < 8) by omega)]; exact e_48), (by rw [if_pos (show 0 ≤ i ∧ i ≤ (came : Int) - 1 ∧ -50 ≤ v ∧ v ≤ 50 ∧ ga i.toNat < 0 ∧ mbe (8 * i.toNat + pn i.toNat - 1) = (now : Int) by omega)]; exact e_49)⟩
      · refine n_ldc (z := (-100003)) hx hb hown (hts (.constant RX9 83 (-100003)) (by decide +kernel)) (by decide) dX9_speed_37 ?_
        exact r_i hx hb hr dX9_speed_39 hlocks hP hS ⟨(show iN (-100003) = iN _ by rw [if_pos (by omega), if_pos (by omega), if_pos (by omega)]), (fun k _ _ _ _ => rfl), (by rw [if_neg (show ¬ (0 ≤ i ∧ i ≤ (came : Int) - 1 ∧ -50 ≤ v ∧ v ≤ 50 ∧ ga i.toNat < 0 ∧ ¬ mbe (8 * i.toNat + pn i.toNat - 1) = (now : Int) ∧ pn i.toNat < 8) by omega)]; exact e2), (by rw [if_neg (show ¬ (0 ≤ i ∧ i ≤ (came : Int) - 1 ∧ -50 ≤ v ∧ v ≤ 50 ∧ ga i.toNat < 0 ∧ ¬ mbe (8 * i.toNat + pn i.toNat - 1) = (now : Int) ∧ pn i.toNat < 8) by omega)]; exact e3), (by rw [if_neg (show ¬ (0 ≤ i ∧ i ≤ (came : Int) - 1 ∧ -50 ≤ v ∧ v ≤ 50 ∧ ga i.toNat < 0 ∧ ¬ mbe (8 * i.toNat + pn i.toNat - 1) = (now : Int) ∧ pn i.toNat < 8) by omega)]; exact e4), (by rw [if_neg (show ¬ (0 ≤ i ∧ i ≤ (came : Int) - 1 ∧ -50 ≤ v ∧ v ≤ 50 ∧ ga i.toNat < 0 ∧ mbe (8 * i.toNat + pn i.toNat - 1) = (now : Int)) by omega), if_neg (show ¬ (0 ≤ i ∧ i ≤ (came : Int) - 1 ∧ -50 ≤ v ∧ v ≤ 50 ∧ ga i.toNat < 0 ∧ ¬ mbe (8 * i.toNat + pn i.toNat - 1) = (now : Int) ∧ pn i.toNat < 8) by omega)]; exact e5)⟩
    · refine n_ldc (z := (-100002)) hx hb hown (hts (.constant RX9 73 (-100002)) (by decide +kernel)) (by decide) dX9_speed_25 ?_
      exact r_i hx hb hr dX9_speed_27 hlocks hP hS ⟨(show iN (-100002) = iN _ by rw [if_pos (by omega), if_neg (by omega)]), (fun k _ _ _ _ => rfl), (by rw [if_neg (show ¬ (0 ≤ i ∧ i ≤ (came : Int) - 1 ∧ -50 ≤ v ∧ v ≤ 50 ∧ ga i.toNat < 0 ∧ ¬ mbe (8 * i.toNat + pn i.toNat - 1) = (now : Int) ∧ pn i.toNat < 8) by omega)]; exact e2), (by rw [if_neg (show ¬ (0 ≤ i ∧ i ≤ (came : Int) - 1 ∧ -50 ≤ v ∧ v ≤ 50 ∧ ga i.toNat < 0 ∧ ¬ mbe (8 * i.toNat + pn i.toNat - 1) = (now : Int) ∧ pn i.toNat < 8) by omega)]; exact e3), (by rw [if_neg (show ¬ (0 ≤ i ∧ i ≤ (came : Int) - 1 ∧ -50 ≤ v ∧ v ≤ 50 ∧ ga i.toNat < 0 ∧ ¬ mbe (8 * i.toNat + pn i.toNat - 1) = (now : Int) ∧ pn i.toNat < 8) by omega)]; exact e4), (by rw [if_neg (show ¬ (0 ≤ i ∧ i ≤ (came : Int) - 1 ∧ -50 ≤ v ∧ v ≤ 50 ∧ ga i.toNat < 0 ∧ mbe (8 * i.toNat + pn i.toNat - 1) = (now : Int)) by omega), if_neg (show ¬ (0 ≤ i ∧ i ≤ (came : Int) - 1 ∧ -50 ≤ v ∧ v ≤ 50 ∧ ga i.toNat < 0 ∧ ¬ mbe (8 * i.toNat + pn i.toNat - 1) = (now : Int) ∧ pn i.toNat < 8) by omega)]; exact e5)⟩
  · refine n_ldc (z := (-100001)) hx hb hown (hts (.constant RX9 82 (-100001)) (by decide +kernel)) (by decide) dX9_speed_8 ?_
    exact r_i hx hb hr dX9_speed_10 hlocks hP hS ⟨(show iN (-100001) = iN _ by rw [if_neg (by omega)]), (fun k _ _ _ _ => rfl), (by rw [if_neg (show ¬ (0 ≤ i ∧ i ≤ (came : Int) - 1 ∧ -50 ≤ v ∧ v ≤ 50 ∧ ga i.toNat < 0 ∧ ¬ mbe (8 * i.toNat + pn i.toNat - 1) = (now : Int) ∧ pn i.toNat < 8) by omega)]; exact e2), (by rw [if_neg (show ¬ (0 ≤ i ∧ i ≤ (came : Int) - 1 ∧ -50 ≤ v ∧ v ≤ 50 ∧ ga i.toNat < 0 ∧ ¬ mbe (8 * i.toNat + pn i.toNat - 1) = (now : Int) ∧ pn i.toNat < 8) by omega)]; exact e3), (by rw [if_neg (show ¬ (0 ≤ i ∧ i ≤ (came : Int) - 1 ∧ -50 ≤ v ∧ v ≤ 50 ∧ ga i.toNat < 0 ∧ ¬ mbe (8 * i.toNat + pn i.toNat - 1) = (now : Int) ∧ pn i.toNat < 8) by omega)]; exact e4), (by rw [if_neg (show ¬ (0 ≤ i ∧ i ≤ (came : Int) - 1 ∧ -50 ≤ v ∧ v ≤ 50 ∧ ga i.toNat < 0 ∧ mbe (8 * i.toNat + pn i.toNat - 1) = (now : Int)) by omega), if_neg (show ¬ (0 ≤ i ∧ i ≤ (came : Int) - 1 ∧ -50 ≤ v ∧ v ≤ 50 ∧ ga i.toNat < 0 ∧ ¬ mbe (8 * i.toNat + pn i.toNat - 1) = (now : Int) ∧ pn i.toNat < 8) by omega)]; exact e5)⟩

set_option maxHeartbeats 4000000 in
set_option maxRecDepth 100000 in
theorem c_X9_gone (l : Launch) (G : GE) (w : WF) (now : Nat) (came : Nat) (rm : Nat) (mt : Nat) (tm : Nat) (thg : Int) (onn : Int) (two : Int) (lw : Int) (hg : Int) (sq : Nat) (ga : Nat → Int) (pn : Nat → Nat) (mbe : Nat → Int) (mpl : Nat → Int) (msp : Nat → Int) (i : Int) (e0 : w 59 = .inr (8, [.int (iN ((now : Nat) : Int)), .int (iN ((came : Nat) : Int)), .ref (gad G 60), .ref (gad G 61), .ref (gad G 62), .ref (gad G 63), .ref (gad G 64), .ref (gad G 65), .int (iN ((rm : Nat) : Int)), .int (iN ((mt : Nat) : Int)), .ref (gad G 66), .ref (gad G 67), .ref (gad G 68), .ref (gad G 69), .ref (gad G 70), .int (iN ((tm : Nat) : Int)), .ref (gad G 71), .ref (gad G 72), .int (iN thg), .int (iN onn), .int (iN two), .long (jN lw), .long (jN hg), .int (iN ((sq : Nat) : Int)), .ref (gad G 73), .ref (gad G 74)])) (e1 : w 60 = .inl (gI G, 10, .inl (aN ga))) (e2 : w 61 = .inl (gI G, 10, .inl (aN (pnI pn)))) (e3 : w 62 = .inl (gI G, 80, .inl (aN mbe))) (e4 : w 63 = .inl (gI G, 80, .inl (aN mpl))) (e5 : w 64 = .inl (gI G, 80, .inl (aN msp))) (p0 : -2147483648 ≤ i ∧ i < 2147483648) (p1 : OKS came (rw8 mbe) (rw8 mpl) (rw8 msp) pn ga) (p2 : now ≤ 400) : Met l yX9_gone wsX9_gone ({ frames := 2, cells := 0, slots := 0, locals := 46 }) (PcG G w [.ref (gad G 59), .int (iN i)]) (QI G (fun r w1 => r = iN (if 0 ≤ i ∧ i ≤ (came : Int) - 1 then (if ga i.toNat < 0 ∧ mbe (8 * i.toNat) ≠ (now : Int) then 1 else -100003) else -100001) ∧ (∀ k : Nat, k ≠ 60 → w1 k = w k) ∧ w1 60 = .inl (gI G, 10, .inl (aN (if 0 ≤ i ∧ i ≤ (came : Int) - 1 ∧ ga i.toNat < 0 ∧ mbe (8 * i.toNat) ≠ (now : Int) then va_up ga i.toNat now else ga))))) 0 0 (AA G) := by
  refine Met.ofW (cc := cX9_gone) (maxL := 2) (ret := (some .int)) (by decide) rfl ?_
  intro p e s m args below meth c s₁ B hml hv
  obtain ⟨rfl, hP, hK⟩ := hv
  have hx := B.exec
  have hb := B.bytes
  have hr := B.returns
  have hts := atoms_spec (ws := wsX9_gone) B.pre
  have hown : s.vm.findClass RX9 = some m.cls := findClass_of_methodNamed B.named
  have hlocks := B.notSynchronized
  have hS : va_S (AA G) s.heap s.heap [] := va_S.rf
  have hAA : ∀ q, AA G q → AA G q := fun _ h => h
  have hl := lv_entry ([.ref (gad G 59), .int (iN i)]) (n := 2) (Nat.le_of_ble_eq_true rfl)
  rw [lg_entry_eq]
  generalize (lg_sl ([.ref (gad G 59), .int (iN i)]) ++ List.replicate (2 - (lg_sl ([.ref (gad G 59), .int (iN i)])).length) Slot.unset).toArray = ls at hl ⊢
  have hl : lv_has ls 2 [(0, .ref (gad G 59)), (1, .int (iN i))] := hl
  have hc10 : came ≤ 10 := p1.1
  refine lv_aload_n hx hb dX9_gone_0 rfl (lv_at hl 0 rfl) ?_
  refine lv_iload_n hx hb dX9_gone_1 rfl (lv_at hl 1 rfl) ?_
  refine vp_callSi (W.runV (As := [.int (iN i)]) (rest := []) ⟨hx, hb, hml, hown, hts⟩ (c_X9_isPoint l G w now came rm mt tm thg onn two lw hg sq i e0 (p0) (hc10)) (cwV 1 hts gX9_gone_X9_isPoint rfl rfl rfl (by decide +kernel) ⟨Nat.le_of_ble_eq_true rfl, Nat.le_of_ble_eq_true rfl⟩) (f_preV hP hK 59 (by omega) 8 e0 rfl) rfl rfl hl.1 rfl (lv_room (Nat.le_of_ble_eq_true rfl)) dX9_gone_2 ⟨Nat.zero_le _, Nat.zero_le _⟩) (fun r_1 hr_1 => ?_)
  rw [show r_1 = iN (if (0 ≤ i ∧ i ≤ ((came : Nat) : Int) - 1) then 1 else 0) from hr_1]
  refine n_ifb_ne (tgt := 11) hx hb dX9_gone_5 (by decide) (fun c_5 => ?_) (fun c_5 => ?_)
  · have hz_2 : i = ((i.toNat : Nat) : Int) := by omega
    have hl : lv_has ls 2 [(0, .ref (gad G 59)), (1, .int (iN ((i.toNat : Nat) : Int)))] := by rw [← hz_2]; exact hl
    have hc10 : came ≤ 10 := p1.1
    have hVi := p1.2 i.toNat (by omega)
    obtain ⟨hv1, hv2, hv3, hv4⟩ := id hVi
    have hbl : 0 ≤ mbe (8 * i.toNat) ∧ mbe (8 * i.toNat) ≤ 400 := hv2 0 (by omega)
    refine lv_aload_n hx hb dX9_gone_11 rfl (lv_at hl 0 rfl) ?_
    refine f_get (C := RX9) (T := TX9) (N := 26) hx hb hts (by decide +kernel) hown hK hP 59 (by omega) e0 rfl 2 (by decide) (hts (.fieldLink RX9 7 "KeptMovingModel" "goneAt" "[I") (by decide +kernel)) (fun _ h9 => h9) rfl dX9_gone_12 ?_
    refine lv_iload_n hx hb dX9_gone_15 rfl (lv_at hl 1 rfl) ?_
    refine n_iald hx hb hK hP 60 (by omega) e1 i.toNat rfl (by omega) (by decide) dX9_gone_16 ?_
    refine n_if_ge (tgt := 36) hx hb dX9_gone_17 (by decide) (by omega) (by omega) (fun c_17 => ?_) (fun c_17 => ?_)
    · refine n_ldc (z := (-100003)) hx hb hown (hts (.constant RX9 83 (-100003)) (by decide +kernel)) (by decide) dX9_gone_36 ?_
      exact r_i hx hb hr dX9_gone_38 hlocks hP hS ⟨(show iN (-100003) = iN _ by rw [if_pos (by omega), if_neg (by omega)]), (fun k _ => rfl), (by rw [if_neg (show ¬ (0 ≤ i ∧ i ≤ (came : Int) - 1 ∧ ga i.toNat < 0 ∧ mbe (8 * i.toNat) ≠ (now : Int)) by omega)]; exact e1)⟩
    · refine lv_aload_n hx hb dX9_gone_20 rfl (lv_at hl 0 rfl) ?_
      refine f_get (C := RX9) (T := TX9) (N := 26) hx hb hts (by decide +kernel) hown hK hP 59 (by omega) e0 rfl 4 (by decide) (hts (.fieldLink RX9 16 "KeptMovingModel" "begins" "[I") (by decide +kernel)) (fun _ h9 => h9) rfl dX9_gone_21 ?_
      refine n_bipush hx hb dX9_gone_24 (by decide) ?_
      refine lv_iload_n hx hb dX9_gone_26 rfl (lv_at hl 1 rfl) ?_
      refine n_imul hx hb dX9_gone_27 ?_
      refine n_top (A := 8 * ((i.toNat : Nat) : Int)) (B := ((8 * i.toNat : Nat) : Int)) (by omega) ?_
      refine n_iald hx hb hK hP 62 (by omega) e3 (8 * i.toNat) rfl (by omega) (by decide) dX9_gone_28 ?_
      refine lv_aload_n hx hb dX9_gone_29 rfl (lv_at hl 0 rfl) ?_
      refine f_get (C := RX9) (T := TX9) (N := 26) hx hb hts (by decide +kernel) hown hK hP 59 (by omega) e0 rfl 0 (by decide) (hts (.fieldLink RX9 75 "KeptMovingModel" "now" "I") (by decide +kernel)) (fun _ h9 => h9) rfl dX9_gone_30 ?_
      refine n_icmp_ne (tgt := 39) hx hb dX9_gone_33 (by decide) (by omega) (by omega) (by omega) (by omega) (fun c_33 => ?_) (fun c_33 => ?_)
      · refine lv_aload_n hx hb dX9_gone_39 rfl (lv_at hl 0 rfl) ?_
        refine f_get (C := RX9) (T := TX9) (N := 26) hx hb hts (by decide +kernel) hown hK hP 59 (by omega) e0 rfl 2 (by decide) (hts (.fieldLink RX9 7 "KeptMovingModel" "goneAt" "[I") (by decide +kernel)) (fun _ h9 => h9) rfl dX9_gone_40 ?_
        refine lv_iload_n hx hb dX9_gone_43 rfl (lv_at hl 1 rfl) ?_
        refine lv_aload_n hx hb dX9_gone_44 rfl (lv_at hl 0 rfl) ?_
        refine f_get (C := RX9) (T := TX9) (N := 26) hx hb hts (by decide +kernel) hown hK hP 59 (by omega) e0 rfl 0 (by decide) (hts (.fieldLink RX9 75 "KeptMovingModel" "now" "I") (by decide +kernel)) (fun _ h9 => h9) rfl dX9_gone_45 ?_
        refine n_iast hx hb hK hP hS hAA 60 (by omega) e1 (fun _ => rfl) i.toNat rfl (by omega) (by decide) dX9_gone_48 (fun H locs hP hS => ?_)
        obtain ⟨w_3, hw_4⟩ : ∃ z : WF, z = va_up w 60 (.inl (gI G, 10, .inl (aN (va_up ga i.toNat ((now : Nat) : Int))))) := ⟨_, rfl⟩
        rw [← hw_4] at hP
        have fr_5 : ∀ k : Nat, k ≠ 60 → w_3 k = w k := fun k h => by rw [hw_4]; exact va_up_ne _ _ h
        have e_6 : w_3 59 = .inr (8, [.int (iN ((now : Nat) : Int)), .int (iN ((came : Nat) : Int)), .ref (gad G 60), .ref (gad G 61), .ref (gad G 62), .ref (gad G 63), .ref (gad G 64), .ref (gad G 65), .int (iN ((rm : Nat) : Int)), .int (iN ((mt : Nat) : Int)), .ref (gad G 66), .ref (gad G 67), .ref (gad G 68), .ref (gad G 69), .ref (gad G 70), .int (iN ((tm : Nat) : Int)), .ref (gad G 71), .ref (gad G 72), .int (iN thg), .int (iN onn), .int (iN two), .long (jN lw), .long (jN hg), .int (iN ((sq : Nat) : Int)), .ref (gad G 73), .ref (gad G 74)]) := (fr_5 59 (by omega)).trans e0
        have e_7 : w_3 60 = .inl (gI G, 10, .inl (aN (va_up ga i.toNat ((now : Nat) : Int)))) := by rw [hw_4]; exact va_up_self _ _ _
        have e_8 : w_3 61 = .inl (gI G, 10, .inl (aN (pnI pn))) := (fr_5 61 (by omega)).trans e2
        have e_9 : w_3 62 = .inl (gI G, 80, .inl (aN mbe)) := (fr_5 62 (by omega)).trans e3
        have e_10 : w_3 63 = .inl (gI G, 80, .inl (aN mpl)) := (fr_5 63 (by omega)).trans e4
        have e_11 : w_3 64 = .inl (gI G, 80, .inl (aN msp)) := (fr_5 64 (by omega)).trans e5
        refine n_iconst hx hb dX9_gone_49 ?_
        exact r_i hx hb hr dX9_gone_50 hlocks hP hS ⟨(show iN 1 = iN _ by rw [if_pos (by omega), if_pos (by omega)]), (fun k h0 => fr_5 k (by omega)), (by rw [if_pos (show 0 ≤ i ∧ i ≤ (came : Int) - 1 ∧ ga i.toNat < 0 ∧ mbe (8 * i.toNat) ≠ (now : Int) by omega)]; exact e_7)⟩
      · refine n_ldc (z := (-100003)) hx hb hown (hts (.constant RX9 83 (-100003)) (by decide +kernel)) (by decide) dX9_gone_36 ?_
        exact r_i hx hb hr dX9_gone_38 hlocks hP hS ⟨(show iN (-100003) = iN _ by rw [if_pos (by omega), if_neg (by omega)]), (fun k _ => rfl), (by rw [if_neg (show ¬ (0 ≤ i ∧ i ≤ (came : Int) - 1 ∧ ga i.toNat < 0 ∧ mbe (8 * i.toNat) ≠ (now : Int)) by omega)]; exact e1)⟩
  · refine n_ldc (z := (-100001)) hx hb hown (hts (.constant RX9 82 (-100001)) (by decide +kernel)) (by decide) dX9_gone_8 ?_
    exact r_i hx hb hr dX9_gone_10 hlocks hP hS ⟨(show iN (-100001) = iN _ by rw [if_neg (by omega)]), (fun k _ => rfl), (by rw [if_neg (show ¬ (0 ≤ i ∧ i ≤ (came : Int) - 1 ∧ ga i.toNat < 0 ∧ mbe (8 * i.toNat) ≠ (now : Int)) by omega)]; exact e1)⟩

set_option maxHeartbeats 4000000 in
set_option maxRecDepth 100000 in
theorem c_X9_go (l : Launch) (G : GE) (w : WF) (now : Nat) (came : Nat) (rm : Nat) (mt : Nat) (tm : Nat) (thg : Int) (onn : Int) (two : Int) (lw : Int) (hg : Int) (sq : Nat) (ga : Nat → Int) (pn : Nat → Nat) (mbe : Nat → Int) (mpl : Nat → Int) (msp : Nat → Int) (n : Int) (e0 : w 59 = .inr (8, [.int (iN ((now : Nat) : Int)), .int (iN ((came : Nat) : Int)), .ref (gad G 60), .ref (gad G 61), .ref (gad G 62), .ref (gad G 63), .ref (gad G 64), .ref (gad G 65), .int (iN ((rm : Nat) : Int)), .int (iN ((mt : Nat) : Int)), .ref (gad G 66), .ref (gad G 67), .ref (gad G 68), .ref (gad G 69), .ref (gad G 70), .int (iN ((tm : Nat) : Int)), .ref (gad G 71), .ref (gad G 72), .int (iN thg), .int (iN onn), .int (iN two), .long (jN lw), .long (jN hg), .int (iN ((sq : Nat) : Int)), .ref (gad G 73), .ref (gad G 74)])) (e1 : w 60 = .inl (gI G, 10, .inl (aN ga))) (e2 : w 61 = .inl (gI G, 10, .inl (aN (pnI pn)))) (e3 : w 62 = .inl (gI G, 80, .inl (aN mbe))) (e4 : w 63 = .inl (gI G, 80, .inl (aN mpl))) (e5 : w 64 = .inl (gI G, 80, .inl (aN msp))) (p0 : -2147483648 ≤ n ∧ n < 2147483648) (p1 : now ≤ 400) : Met l yX9_go wsX9_go ({ frames := 1, cells := 0, slots := 0, locals := 25 }) (PcG G w [.ref (gad G 59), .int (iN n)]) (QI G (fun r w1 => r = iN (if 0 ≤ n ∧ n ≤ 100 then (if (now : Int) + n ≤ 400 then (now : Int) + n else -100003) else -100002) ∧ (∀ k : Nat, k ≠ 59 → w1 k = w k) ∧ w1 59 = .inr (8, [.int (iN ((if 0 ≤ n ∧ n ≤ 100 ∧ (now : Int) + n ≤ 400 then now + n.toNat else now : Nat) : Int)), .int (iN ((came : Nat) : Int)), .ref (gad G 60), .ref (gad G 61), .ref (gad G 62), .ref (gad G 63), .ref (gad G 64), .ref (gad G 65), .int (iN ((rm : Nat) : Int)), .int (iN ((mt : Nat) : Int)), .ref (gad G 66), .ref (gad G 67), .ref (gad G 68), .ref (gad G 69), .ref (gad G 70), .int (iN ((tm : Nat) : Int)), .ref (gad G 71), .ref (gad G 72), .int (iN thg), .int (iN onn), .int (iN two), .long (jN lw), .long (jN hg), .int (iN ((sq : Nat) : Int)), .ref (gad G 73), .ref (gad G 74)]))) 0 0 (AA G) := by
  refine Met.ofW (cc := cX9_go) (maxL := 2) (ret := (some .int)) (by decide) rfl ?_
  intro p e s m args below meth c s₁ B hml hv
  obtain ⟨rfl, hP, hK⟩ := hv
  have hx := B.exec
  have hb := B.bytes
  have hr := B.returns
  have hts := atoms_spec (ws := wsX9_go) B.pre
  have hown : s.vm.findClass RX9 = some m.cls := findClass_of_methodNamed B.named
  have hlocks := B.notSynchronized
  have hS : va_S (AA G) s.heap s.heap [] := va_S.rf
  have hAA : ∀ q, AA G q → AA G q := fun _ h => h
  have hl := lv_entry ([.ref (gad G 59), .int (iN n)]) (n := 2) (Nat.le_of_ble_eq_true rfl)
  rw [lg_entry_eq]
  generalize (lg_sl ([.ref (gad G 59), .int (iN n)]) ++ List.replicate (2 - (lg_sl ([.ref (gad G 59), .int (iN n)])).length) Slot.unset).toArray = ls at hl ⊢
  have hl : lv_has ls 2 [(0, .ref (gad G 59)), (1, .int (iN n))] := hl
  refine lv_iload_n hx hb dX9_go_0 rfl (lv_at hl 1 rfl) ?_
  refine n_i2l hx hb (by omega) (by omega) dX9_go_1 ?_
  refine n_lconst (z := 0) hx hb dX9_go_2 (by decide) ?_
  refine n_ldc2 (z := (100)) hx hb hown (hts (.constantLong RX9 88 (100)) (by decide +kernel)) (by decide) dX9_go_3 ?_
  refine vp_callSi (W.runS (As := [.long (jN n), .long (jN 0), .long (jN 100)]) (rest := []) ⟨hx, hb, hml, hown, hts⟩ (c_X9_in l n (0 : Int) (100 : Int) (by omega) (by omega) (by omega)) (va_cwS 3 hts gX9_go_X9_in rfl rfl rfl (by decide +kernel) ⟨Nat.le_of_ble_eq_true rfl, Nat.le_of_ble_eq_true rfl⟩) ⟨fun _ _ _ _ q => q, fun _ _ _ => rfl⟩ rfl rfl hl.1 rfl (lv_room (Nat.le_of_ble_eq_true rfl)) dX9_go_6 ⟨Nat.zero_le _, Nat.zero_le _⟩) (fun r_1 hr_1 => ?_)
  rw [show r_1 = iN (if ((0 : Int) ≤ n ∧ n ≤ (100 : Int)) then 1 else 0) from hr_1]
  refine n_ifb_ne (tgt := 15) hx hb dX9_go_9 (by decide) (fun c_9 => ?_) (fun c_9 => ?_)
  · refine lv_aload_n hx hb dX9_go_15 rfl (lv_at hl 0 rfl) ?_
    refine f_get (C := RX9) (T := TX9) (N := 26) hx hb hts (by decide +kernel) hown hK hP 59 (by omega) e0 rfl 0 (by decide) (hts (.fieldLink RX9 75 "KeptMovingModel" "now" "I") (by decide +kernel)) (fun _ h9 => h9) rfl dX9_go_16 ?_
    refine lv_iload_n hx hb dX9_go_19 rfl (lv_at hl 1 rfl) ?_
    refine n_iadd hx hb dX9_go_20 ?_
    refine n_sipush hx hb dX9_go_21 (by decide) ?_
    refine n_icmp_le (tgt := 30) hx hb dX9_go_24 (by decide) (by omega) (by omega) (by omega) (by omega) (fun c_24 => ?_) (fun c_24 => ?_)
    · refine lv_aload_n hx hb dX9_go_30 rfl (lv_at hl 0 rfl) ?_
      refine lv_dup hx hb dX9_go_31 rfl ?_
      refine f_get (C := RX9) (T := TX9) (N := 26) hx hb hts (by decide +kernel) hown hK hP 59 (by omega) e0 rfl 0 (by decide) (hts (.fieldLink RX9 75 "KeptMovingModel" "now" "I") (by decide +kernel)) (fun _ h9 => h9) rfl dX9_go_32 ?_
      refine lv_iload_n hx hb dX9_go_35 rfl (lv_at hl 1 rfl) ?_
      refine n_iadd hx hb dX9_go_36 ?_
      refine n_top (A := ((now : Nat) : Int) + n) (B := ((now + n.toNat : Nat) : Int)) (by omega) ?_
      refine f_put (v := .int (iN ((now + n.toNat : Nat) : Int))) (ty := .int) (C := RX9) (T := TX9) (N := 26) hx hb hts (by decide +kernel) tyX9 tyX9_ok nmX9 hown hK hP hS hAA 59 (by omega) e0 rfl 0 (by decide) (hts (.fieldLink RX9 75 "KeptMovingModel" "now" "I") (by decide +kernel)) (fun _ h9 => h9) rfl (by decide +kernel) (rfl) (rfl) (Nat.le_of_ble_eq_true rfl) (rfl) dX9_go_37 (fun H locs hP hS => ?_)
      have hP : PW G (va_up w 59 (.inr (8, [.int (iN ((now + n.toNat : Nat) : Int)), .int (iN ((came : Nat) : Int)), .ref (gad G 60), .ref (gad G 61), .ref (gad G 62), .ref (gad G 63), .ref (gad G 64), .ref (gad G 65), .int (iN ((rm : Nat) : Int)), .int (iN ((mt : Nat) : Int)), .ref (gad G 66), .ref (gad G 67), .ref (gad G 68), .ref (gad G 69), .ref (gad G 70), .int (iN ((tm : Nat) : Int)), .ref (gad G 71), .ref (gad G 72), .int (iN thg), .int (iN onn), .int (iN two), .long (jN lw), .long (jN hg), .int (iN ((sq : Nat) : Int)), .ref (gad G 73), .ref (gad G 74)]))) H := hP
      obtain ⟨w_2, hw_3⟩ : ∃ z : WF, z = va_up w 59 (.inr (8, [.int (iN ((now + n.toNat : Nat) : Int)), .int (iN ((came : Nat) : Int)), .ref (gad G 60), .ref (gad G 61), .ref (gad G 62), .ref (gad G 63), .ref (gad G 64), .ref (gad G 65), .int (iN ((rm : Nat) : Int)), .int (iN ((mt : Nat) : Int)), .ref (gad G 66), .ref (gad G 67), .ref (gad G 68), .ref (gad G 69), .ref (gad G 70), .int (iN ((tm : Nat) : Int)), .ref (gad G 71), .ref (gad G 72), .int (iN thg), .int (iN onn), .int (iN two), .long (jN lw), .long (jN hg), .int (iN ((sq : Nat) : Int)), .ref (gad G 73), .ref (gad G 74)])) := ⟨_, rfl⟩
      rw [← hw_3] at hP
      have fr_4 : ∀ k : Nat, k ≠ 59 → w_2 k = w k := fun k h => by rw [hw_3]; exact va_up_ne _ _ h
      have e_5 : w_2 59 = .inr (8, [.int (iN ((now + n.toNat : Nat) : Int)), .int (iN ((came : Nat) : Int)), .ref (gad G 60), .ref (gad G 61), .ref (gad G 62), .ref (gad G 63), .ref (gad G 64), .ref (gad G 65), .int (iN ((rm : Nat) : Int)), .int (iN ((mt : Nat) : Int)), .ref (gad G 66), .ref (gad G 67), .ref (gad G 68), .ref (gad G 69), .ref (gad G 70), .int (iN ((tm : Nat) : Int)), .ref (gad G 71), .ref (gad G 72), .int (iN thg), .int (iN onn), .int (iN two), .long (jN lw), .long (jN hg), .int (iN ((sq : Nat) : Int)), .ref (gad G 73), .ref (gad G 74)]) := by rw [hw_3]; exact va_up_self _ _ _
      have e_6 : w_2 60 = .inl (gI G, 10, .inl (aN ga)) := (fr_4 60 (by omega)).trans e1
      have e_7 : w_2 61 = .inl (gI G, 10, .inl (aN (pnI pn))) := (fr_4 61 (by omega)).trans e2
      have e_8 : w_2 62 = .inl (gI G, 80, .inl (aN mbe)) := (fr_4 62 (by omega)).trans e3
      have e_9 : w_2 63 = .inl (gI G, 80, .inl (aN mpl)) := (fr_4 63 (by omega)).trans e4
      have e_10 : w_2 64 = .inl (gI G, 80, .inl (aN msp)) := (fr_4 64 (by omega)).trans e5
      refine lv_aload_n hx hb dX9_go_40 rfl (lv_at hl 0 rfl) ?_
      refine f_get (C := RX9) (T := TX9) (N := 26) hx hb hts (by decide +kernel) hown hK hP 59 (by omega) e_5 rfl 0 (by decide) (hts (.fieldLink RX9 75 "KeptMovingModel" "now" "I") (by decide +kernel)) (fun _ h9 => h9) rfl dX9_go_41 ?_
      exact r_i hx hb hr dX9_go_44 hlocks hP hS ⟨(congrArg iN (by rw [if_pos (by omega), if_pos (by omega)]; omega)), (fun k h0 => fr_4 k (by omega)), (by rw [if_pos (show 0 ≤ n ∧ n ≤ 100 ∧ (now : Int) + n ≤ 400 by omega)]; exact e_5)⟩
    · refine n_ldc (z := (-100003)) hx hb hown (hts (.constant RX9 83 (-100003)) (by decide +kernel)) (by decide) dX9_go_27 ?_
      exact r_i hx hb hr dX9_go_29 hlocks hP hS ⟨(show iN (-100003) = iN _ by rw [if_pos (by omega), if_neg (by omega)]), (fun k _ => rfl), (by rw [if_neg (show ¬ (0 ≤ n ∧ n ≤ 100 ∧ (now : Int) + n ≤ 400) by omega)]; exact e0)⟩
  · refine n_ldc (z := (-100002)) hx hb hown (hts (.constant RX9 73 (-100002)) (by decide +kernel)) (by decide) dX9_go_12 ?_
    exact r_i hx hb hr dX9_go_14 hlocks hP hS ⟨(show iN (-100002) = iN _ by rw [if_neg (by omega)]), (fun k _ => rfl), (by rw [if_neg (show ¬ (0 ≤ n ∧ n ≤ 100 ∧ (now : Int) + n ≤ 400) by omega)]; exact e0)⟩

set_option maxHeartbeats 4000000 in
set_option maxRecDepth 100000 in
theorem c_X9_isThere (l : Launch) (G : GE) (w : WF) (now : Nat) (came : Nat) (rm : Nat) (mt : Nat) (tm : Nat) (thg : Int) (onn : Int) (two : Int) (lw : Int) (hg : Int) (sq : Nat) (ga : Nat → Int) (pn : Nat → Nat) (mbe : Nat → Int) (mpl : Nat → Int) (msp : Nat → Int) (i : Nat) (n : Int) (d : Int) (e0 : w 59 = .inr (8, [.int (iN ((now : Nat) : Int)), .int (iN ((came : Nat) : Int)), .ref (gad G 60), .ref (gad G 61), .ref (gad G 62), .ref (gad G 63), .ref (gad G 64), .ref (gad G 65), .int (iN ((rm : Nat) : Int)), .int (iN ((mt : Nat) : Int)), .ref (gad G 66), .ref (gad G 67), .ref (gad G 68), .ref (gad G 69), .ref (gad G 70), .int (iN ((tm : Nat) : Int)), .ref (gad G 71), .ref (gad G 72), .int (iN thg), .int (iN onn), .int (iN two), .long (jN lw), .long (jN hg), .int (iN ((sq : Nat) : Int)), .ref (gad G 73), .ref (gad G 74)])) (e1 : w 60 = .inl (gI G, 10, .inl (aN ga))) (e2 : w 61 = .inl (gI G, 10, .inl (aN (pnI pn)))) (e3 : w 62 = .inl (gI G, 80, .inl (aN mbe))) (e4 : w 63 = .inl (gI G, 80, .inl (aN mpl))) (e5 : w 64 = .inl (gI G, 80, .inl (aN msp))) (p0 : i < 10) (p1 : 0 ≤ rw8 mbe i 0 ∧ rw8 mbe i 0 ≤ 400) (p2 : -1 ≤ ga i ∧ ga i ≤ 400) (p3 : 0 ≤ n ∧ n ≤ 1000000000000) (p4 : 1 ≤ d ∧ d ≤ 1000000) : Met l yX9_isThere wsX9_isThere ({ frames := 0, cells := 0, slots := 0, locals := 0 }) (PcG G w [.ref (gad G 59), .int (iN ((i : Nat) : Int)), .long (jN n), .long (jN d)]) (vp_Si (fun r => r = iN (if (rw8 mbe i 0 * d ≤ n ∧ (ga i = -1 ∨ n < ga i * d)) then 1 else 0))) 0 0 (fun _ => False) := by
  refine Met.ofW (cc := cX9_isThere) (maxL := 6) (ret := (some .boolean)) (by decide) rfl ?_
  intro p e s m args below meth c s₁ B hml hv
  obtain ⟨rfl, hP, hK⟩ := hv
  have hx := B.exec
  have hb := B.bytes
  have hr := B.returns
  have hts := atoms_spec (ws := wsX9_isThere) B.pre
  have hown : s.vm.findClass RX9 = some m.cls := findClass_of_methodNamed B.named
  have hlocks := B.notSynchronized
  have hl := lv_entry ([.ref (gad G 59), .int (iN ((i : Nat) : Int)), .long (jN n), .long (jN d)]) (n := 6) (Nat.le_of_ble_eq_true rfl)
  rw [lg_entry_eq]
  generalize (lg_sl ([.ref (gad G 59), .int (iN ((i : Nat) : Int)), .long (jN n), .long (jN d)]) ++ List.replicate (6 - (lg_sl ([.ref (gad G 59), .int (iN ((i : Nat) : Int)), .long (jN n), .long (jN d)])).length) Slot.unset).toArray = ls at hl ⊢
  have hl : lv_has ls 6 [(0, .ref (gad G 59)), (1, .int (iN ((i : Nat) : Int))), (2, .long (jN n)), (4, .long (jN d))] := hl
  have hz : rw8 mbe i 0 = mbe (8 * i) := rfl
  rw [hz] at p1
  have hm := mb4 p1 p4
  have hm2 : ga i ≠ -1 → 0 ≤ ga i * d ∧ ga i * d ≤ 400000000 := fun q => mb4 ⟨by omega, by omega⟩ p4
  refine lv_aload_n hx hb dX9_isThere_0 rfl (lv_at hl 0 rfl) ?_
  refine f_get (C := RX9) (T := TX9) (N := 26) hx hb hts (by decide +kernel) hown hK hP 59 (by omega) e0 rfl 4 (by decide) (hts (.fieldLink RX9 16 "KeptMovingModel" "begins" "[I") (by decide +kernel)) (fun _ h9 => h9) rfl dX9_isThere_1 ?_
  refine n_bipush hx hb dX9_isThere_4 (by decide) ?_
  refine lv_iload_n hx hb dX9_isThere_6 rfl (lv_at hl 1 rfl) ?_
  refine n_imul hx hb dX9_isThere_7 ?_
  refine n_top (A := 8 * ((i : Nat) : Int)) (B := ((8 * i : Nat) : Int)) (by omega) ?_
  refine n_iald hx hb hK hP 62 (by omega) e3 (8 * i) rfl (by omega) (by decide) dX9_isThere_8 ?_
  refine n_i2l hx hb (by omega) (by omega) dX9_isThere_9 ?_
  refine lv_lload hx hb dX9_isThere_10 (lv_at hl 3 rfl) ?_
  refine n_lmul hx hb dX9_isThere_12 ?_
  refine lv_lload_n hx hb dX9_isThere_13 rfl (lv_at hl 2 rfl) ?_
  refine n_lcmp hx hb (by omega) (by omega) (by omega) (by omega) dX9_isThere_14 ?_
  refine n_ifc_gt (tgt := 46) hx hb dX9_isThere_15 (by decide) (fun c_15 => ?_) (fun c_15 => ?_)
  · refine n_iconst hx hb dX9_isThere_46 ?_
    exact r_z0 hx hb hr dX9_isThere_47 hlocks (show iN 0 = iN (if (rw8 mbe i 0 * d ≤ n ∧ (ga i = -1 ∨ n < ga i * d)) then 1 else 0) by rw [hz, if_neg (by omega)])
  · refine lv_aload_n hx hb dX9_isThere_18 rfl (lv_at hl 0 rfl) ?_
    refine f_get (C := RX9) (T := TX9) (N := 26) hx hb hts (by decide +kernel) hown hK hP 59 (by omega) e0 rfl 2 (by decide) (hts (.fieldLink RX9 7 "KeptMovingModel" "goneAt" "[I") (by decide +kernel)) (fun _ h9 => h9) rfl dX9_isThere_19 ?_
    refine lv_iload_n hx hb dX9_isThere_22 rfl (lv_at hl 1 rfl) ?_
    refine n_iald hx hb hK hP 60 (by omega) e1 i rfl (by omega) (by decide) dX9_isThere_23 ?_
    refine n_if_lt (tgt := 42) hx hb dX9_isThere_24 (by decide) (by omega) (by omega) (fun c_24 => ?_) (fun c_24 => ?_)
    · refine n_iconst hx hb dX9_isThere_42 ?_
      refine lv_goto (tgt := 47) hx hb dX9_isThere_43 (by decide) ?_
      exact r_z1 hx hb hr dX9_isThere_47 hlocks (show iN 1 = iN (if (rw8 mbe i 0 * d ≤ n ∧ (ga i = -1 ∨ n < ga i * d)) then 1 else 0) by rw [hz, if_pos (by omega)])
    · refine lv_lload_n hx hb dX9_isThere_27 rfl (lv_at hl 2 rfl) ?_
      refine lv_aload_n hx hb dX9_isThere_28 rfl (lv_at hl 0 rfl) ?_
      refine f_get (C := RX9) (T := TX9) (N := 26) hx hb hts (by decide +kernel) hown hK hP 59 (by omega) e0 rfl 2 (by decide) (hts (.fieldLink RX9 7 "KeptMovingModel" "goneAt" "[I") (by decide +kernel)) (fun _ h9 => h9) rfl dX9_isThere_29 ?_
      refine lv_iload_n hx hb dX9_isThere_32 rfl (lv_at hl 1 rfl) ?_
      refine n_iald hx hb hK hP 60 (by omega) e1 i rfl (by omega) (by decide) dX9_isThere_33 ?_
      refine n_i2l hx hb (by omega) (by omega) dX9_isThere_34 ?_
      refine lv_lload hx hb dX9_isThere_35 (lv_at hl 3 rfl) ?_
      refine n_lmul hx hb dX9_isThere_37 ?_
      refine n_lcmp hx hb (by omega) (by omega) (by omega) (by omega) dX9_isThere_38 ?_
      refine n_ifc_ge (tgt := 46) hx hb dX9_isThere_39 (by decide) (fun c_39 => ?_) (fun c_39 => ?_)
      · refine n_iconst hx hb dX9_isThere_46 ?_
        exact r_z0 hx hb hr dX9_isThere_47 hlocks (show iN 0 = iN (if (rw8 mbe i 0 * d ≤ n ∧ (ga i = -1 ∨ n < ga i * d)) then 1 else 0) by rw [hz, if_neg (by omega)])
      · refine n_iconst hx hb dX9_isThere_42 ?_
        refine lv_goto (tgt := 47) hx hb dX9_isThere_43 (by decide) ?_
        exact r_z1 hx hb hr dX9_isThere_47 hlocks (show iN 1 = iN (if (rw8 mbe i 0 * d ≤ n ∧ (ga i = -1 ∨ n < ga i * d)) then 1 else 0) by rw [hz, if_pos (by omega)])

def thCnt (th : Nat → Bool) : Nat → Nat
  | 0 => 0
  | i + 1 => thCnt th i + (if th i = true then 1 else 0)
theorem thCnt_y {th : Nat → Bool} {i : Nat} (h : th i = true) : thCnt th i + 1 = thCnt th (i + 1) := by
  show _ = thCnt th i + (if th i = true then 1 else 0)
  rw [if_pos h]
theorem thCnt_n {th : Nat → Bool} {i : Nat} (h : ¬ th i = true) : thCnt th i + 0 = thCnt th (i + 1) := by
  show _ = thCnt th i + (if th i = true then 1 else 0)
  rw [if_neg h]
theorem thCnt_le (th : Nat → Bool) : ∀ i, thCnt th i ≤ i
  | 0 => Nat.le_refl 0
  | i + 1 => by
    have := thCnt_le th i
    unfold thCnt
    split <;> omega

set_option maxHeartbeats 4000000 in
set_option maxRecDepth 100000 in
theorem c_X9_thereNow (l : Launch) (G : GE) (w : WF) (now : Nat) (came : Nat) (rm : Nat) (mt : Nat) (tm : Nat) (thg : Int) (onn : Int) (two : Int) (lw : Int) (hg : Int) (sq : Nat) (ga : Nat → Int) (pn : Nat → Nat) (mbe : Nat → Int) (mpl : Nat → Int) (msp : Nat → Int) (e0 : w 59 = .inr (8, [.int (iN ((now : Nat) : Int)), .int (iN ((came : Nat) : Int)), .ref (gad G 60), .ref (gad G 61), .ref (gad G 62), .ref (gad G 63), .ref (gad G 64), .ref (gad G 65), .int (iN ((rm : Nat) : Int)), .int (iN ((mt : Nat) : Int)), .ref (gad G 66), .ref (gad G 67), .ref (gad G 68), .ref (gad G 69), .ref (gad G 70), .int (iN ((tm : Nat) : Int)), .ref (gad G 71), .ref (gad G 72), .int (iN thg), .int (iN onn), .int (iN two), .long (jN lw), .long (jN hg), .int (iN ((sq : Nat) : Int)), .ref (gad G 73), .ref (gad G 74)])) (e1 : w 60 = .inl (gI G, 10, .inl (aN ga))) (e2 : w 61 = .inl (gI G, 10, .inl (aN (pnI pn)))) (e3 : w 62 = .inl (gI G, 80, .inl (aN mbe))) (e4 : w 63 = .inl (gI G, 80, .inl (aN mpl))) (e5 : w 64 = .inl (gI G, 80, .inl (aN msp))) (p0 : OKS came (rw8 mbe) (rw8 mpl) (rw8 msp) pn ga) (p1 : now ≤ 400) : Met l yX9_thereNow wsX9_thereNow ({ frames := 1, cells := 0, slots := 0, locals := 25 }) (PcG G w [.ref (gad G 59)]) (vp_Si (fun r => r = iN ((thCnt (thF (rw8 mbe) ga (now : Int) 1) came : Nat) : Int))) 0 0 (fun _ => False) := by
  refine Met.ofW (cc := cX9_thereNow) (maxL := 3) (ret := (some .int)) (by decide) rfl ?_
  intro p e s m args below meth c s₁ B hml hv
  obtain ⟨rfl, hP, hK⟩ := hv
  have hx := B.exec
  have hb := B.bytes
  have hr := B.returns
  have hts := atoms_spec (ws := wsX9_thereNow) B.pre
  have hown : s.vm.findClass RX9 = some m.cls := findClass_of_methodNamed B.named
  have hlocks := B.notSynchronized
  have hl := lv_entry ([.ref (gad G 59)]) (n := 3) (Nat.le_of_ble_eq_true rfl)
  rw [lg_entry_eq]
  generalize (lg_sl ([.ref (gad G 59)]) ++ List.replicate (3 - (lg_sl ([.ref (gad G 59)])).length) Slot.unset).toArray = ls at hl ⊢
  have hl : lv_has ls 3 [(0, .ref (gad G 59))] := hl
  have hc10 : came ≤ 10 := p0.1
  refine n_iconst hx hb dX9_thereNow_0 ?_
  refine lv_istore_n (lv' := [(1, .int (iN 0)), (0, .ref (gad G 59))]) hx hb dX9_thereNow_1 rfl hl (by decide) rfl (fun ls hl => ?_)
  refine n_iconst hx hb dX9_thereNow_2 ?_
  refine lv_istore_n (lv' := [(2, .int (iN 0)), (1, .int (iN 0)), (0, .ref (gad G 59))]) hx hb dX9_thereNow_3 rfl hl (by decide) rfl (fun ls hl => ?_)
  have K4 : ∀ (N : Nat) (i : Nat) (ls : Array Slot), (i ≤ came) → 11 - i < N → lv_has ls 3 [(0, .ref (gad G 59)), (1, .int (iN ((thCnt (thF (rw8 mbe) ga (now : Int) 1) i : Nat) : Int))), (2, .int (iN ((i : Nat) : Int)))] → W p l e (headSpec wsX9_thereNow ({ frames := 1, cells := 0, slots := 0, locals := 25 })).room s m (([.ref (gad G 59)] : List Value).toArray) below meth c s.heap [] 0 0 (MQ below (vp_Si (fun r => r = iN ((thCnt (thF (rw8 mbe) ga (now : Int) 1) came : Nat) : Int))) (([.ref (gad G 59)] : List Value).toArray) s 0 0 (fun _ => False)) (F0 m 4 ls []) := by
    intro N
    induction N with
    | zero =>
      intros
      exfalso
      omega
    | succ N ih4 =>
      intro i ls i4_0 hN4 hl
      refine lv_iload_n hx hb dX9_thereNow_4 rfl (lv_at hl 2 rfl) ?_
      refine lv_aload_n hx hb dX9_thereNow_5 rfl (lv_at hl 0 rfl) ?_
      refine f_get (C := RX9) (T := TX9) (N := 26) hx hb hts (by decide +kernel) hown hK hP 59 (by omega) e0 rfl 1 (by decide) (hts (.fieldLink RX9 57 "KeptMovingModel" "points" "I") (by decide +kernel)) (fun _ h9 => h9) rfl dX9_thereNow_6 ?_
      refine n_icmp_ge (tgt := 40) hx hb dX9_thereNow_9 (by decide) (by omega) (by omega) (by omega) (by omega) (fun c_9 => ?_) (fun c_9 => ?_)
      · refine lv_iload_n hx hb dX9_thereNow_40 rfl (lv_at hl 1 rfl) ?_
        exact r_si hx hb hr dX9_thereNow_41 hlocks (show iN _ = iN ((thCnt (thF (rw8 mbe) ga (now : Int) 1) came : Nat) : Int) by rw [show i = came by omega])
      · obtain ⟨hv1, hv2, hv3, hv4⟩ := p0.2 i (by omega)
        have hv20 := hv2 0 (by omega)
        have hcl := thCnt_le (thF (rw8 mbe) ga (now : Int) 1) i
        refine lv_iload_n hx hb dX9_thereNow_12 rfl (lv_at hl 1 rfl) ?_
        refine lv_aload_n hx hb dX9_thereNow_13 rfl (lv_at hl 0 rfl) ?_
        refine lv_iload_n hx hb dX9_thereNow_14 rfl (lv_at hl 2 rfl) ?_
        refine lv_aload_n hx hb dX9_thereNow_15 rfl (lv_at hl 0 rfl) ?_
        refine f_get (C := RX9) (T := TX9) (N := 26) hx hb hts (by decide +kernel) hown hK hP 59 (by omega) e0 rfl 0 (by decide) (hts (.fieldLink RX9 75 "KeptMovingModel" "now" "I") (by decide +kernel)) (fun _ h9 => h9) rfl dX9_thereNow_16 ?_
        refine n_i2l hx hb (by omega) (by omega) dX9_thereNow_19 ?_
        refine n_lconst (z := 1) hx hb dX9_thereNow_20 (by decide) ?_
        refine vp_callSi (W.runV (As := [.int (iN ((i : Nat) : Int)), .long (jN ((now : Nat) : Int)), .long (jN 1)]) (rest := [.int (iN ((thCnt (thF (rw8 mbe) ga (now : Int) 1) i : Nat) : Int))]) ⟨hx, hb, hml, hown, hts⟩ (c_X9_isThere l G w now came rm mt tm thg onn two lw hg sq ga pn mbe mpl msp i ((now : Nat) : Int) (1 : Int) e0 e1 e2 e3 e4 e5 (by omega) (hv20) (hv3) (by omega) (by omega)) (cwV 3 hts gX9_thereNow_X9_isThere rfl rfl rfl (by decide +kernel) ⟨Nat.le_of_ble_eq_true rfl, Nat.le_of_ble_eq_true rfl⟩) (f_preV hP hK 59 (by omega) 8 e0 rfl) rfl rfl hl.1 rfl (lv_room (Nat.le_of_ble_eq_true rfl)) dX9_thereNow_21 ⟨Nat.zero_le _, Nat.zero_le _⟩) (fun r_1 hr_1 => ?_)
        rw [show r_1 = iN (if (rw8 mbe i 0 * (1 : Int) ≤ ((now : Nat) : Int) ∧ (ga i = -1 ∨ ((now : Nat) : Int) < ga i * (1 : Int))) then 1 else 0) from hr_1]
        refine n_ifb_eq (tgt := 31) hx hb dX9_thereNow_24 (by decide) (fun c_24 => ?_) (fun c_24 => ?_)
        · refine n_iconst hx hb dX9_thereNow_31 ?_
          refine n_iadd hx hb dX9_thereNow_32 ?_
          refine n_top (A := ((thCnt (thF (rw8 mbe) ga (now : Int) 1) i : Nat) : Int) + 0) (B := (((thCnt (thF (rw8 mbe) ga (now : Int) 1) i) + 0 : Nat) : Int)) (by omega) ?_
          refine lv_istore_n (lv' := [(1, .int (iN (((thCnt (thF (rw8 mbe) ga (now : Int) 1) i) + 0 : Nat) : Int))), (0, .ref (gad G 59)), (2, .int (iN ((i : Nat) : Int)))]) hx hb dX9_thereNow_33 rfl hl (by decide) rfl (fun ls hl => ?_)
          have hz_2 : (thCnt (thF (rw8 mbe) ga (now : Int) 1) i) + 0 = thCnt (thF (rw8 mbe) ga (now : Int) 1) (i + 1) := by exact thCnt_n (show ¬ thF (rw8 mbe) ga (now : Int) 1 i = true from fun z => c_24 (of_decide_eq_true z))
          have hl : lv_has ls 3 [(1, .int (iN ((thCnt (thF (rw8 mbe) ga (now : Int) 1) (i + 1) : Nat) : Int))), (0, .ref (gad G 59)), (2, .int (iN ((i : Nat) : Int)))] := by rw [← hz_2]; exact hl
          refine lv_iinc (v := iN ((i + 1 : Nat) : Int)) (lv' := [(2, .int (iN ((i + 1 : Nat) : Int))), (1, .int (iN ((thCnt (thF (rw8 mbe) ga (now : Int) 1) (i + 1) : Nat) : Int))), (0, .ref (gad G 59))]) hx hb dX9_thereNow_34 hl (k := 2) rfl (iN_incN _) (by decide) rfl (fun ls hl => ?_)
          refine lv_goto (tgt := 4) hx hb dX9_thereNow_37 (by decide) ?_
          exact ih4 (i + 1) _ (by omega) (by omega) (lv_sub hl [2, 1, 0] rfl)
        · refine n_iconst hx hb dX9_thereNow_27 ?_
          refine lv_goto (tgt := 32) hx hb dX9_thereNow_28 (by decide) ?_
          refine n_iadd hx hb dX9_thereNow_32 ?_
          refine n_top (A := ((thCnt (thF (rw8 mbe) ga (now : Int) 1) i : Nat) : Int) + 1) (B := (((thCnt (thF (rw8 mbe) ga (now : Int) 1) i) + 1 : Nat) : Int)) (by omega) ?_
          refine lv_istore_n (lv' := [(1, .int (iN (((thCnt (thF (rw8 mbe) ga (now : Int) 1) i) + 1 : Nat) : Int))), (0, .ref (gad G 59)), (2, .int (iN ((i : Nat) : Int)))]) hx hb dX9_thereNow_33 rfl hl (by decide) rfl (fun ls hl => ?_)
          have hz_3 : (thCnt (thF (rw8 mbe) ga (now : Int) 1) i) + 1 = thCnt (thF (rw8 mbe) ga (now : Int) 1) (i + 1) := by exact thCnt_y (show thF (rw8 mbe) ga (now : Int) 1 i = true from decide_eq_true c_24)
          have hl : lv_has ls 3 [(1, .int (iN ((thCnt (thF (rw8 mbe) ga (now : Int) 1) (i + 1) : Nat) : Int))), (0, .ref (gad G 59)), (2, .int (iN ((i : Nat) : Int)))] := by rw [← hz_3]; exact hl
          refine lv_iinc (v := iN ((i + 1 : Nat) : Int)) (lv' := [(2, .int (iN ((i + 1 : Nat) : Int))), (1, .int (iN ((thCnt (thF (rw8 mbe) ga (now : Int) 1) (i + 1) : Nat) : Int))), (0, .ref (gad G 59))]) hx hb dX9_thereNow_34 hl (k := 2) rfl (iN_incN _) (by decide) rfl (fun ls hl => ?_)
          refine lv_goto (tgt := 4) hx hb dX9_thereNow_37 (by decide) ?_
          exact ih4 (i + 1) _ (by omega) (by omega) (lv_sub hl [2, 1, 0] rfl)
  exact K4 ((11 - 0) + 1) (0) _ (by omega) (by omega) (lv_sub hl [2, 1, 0] rfl)
