def zI (z : Nat → Bool) : Nat → Int := fun k => if z k = true then 1 else 0
theorem zI_up (z : Nat → Bool) (j : Nat) (b : Bool) : va_up (zI z) j (if b = true then 1 else 0) = zI (va_up z j b) := funext fun q => by
  show (if q = j then (if b = true then (1 : Int) else 0) else (if z q = true then 1 else 0)) = (if (if q = j then b else z q) = true then (1 : Int) else 0)
  by_cases h : q = j
  · rw [if_pos h, if_pos h]
  · rw [if_neg h, if_neg h]
theorem mb5 {a b : Int} (ha : 0 ≤ a ∧ a ≤ 1000000) (hb : 1 ≤ b ∧ b ≤ 100) : 0 ≤ a * b ∧ a * b ≤ 100000000 := by
  have h := mb3 (a := a) (b := b) (A := 1000000) (B := 100) (by omega) (by omega)
  have h2 : 0 ≤ a * b := Int.mul_nonneg ha.1 (by omega)
  omega
/-- when a piece ends -/
def enP (st : Nat → Int) (np : Nat) (stop : Int) (p : Nat) : Int := if 0 ≤ stop then min (if p + 1 < np then st (p + 1) else 1000000000) stop else (if p + 1 < np then st (p + 1) else 1000000000)
theorem enP_rng {st : Nat → Int} {np : Nat} {stop : Int} {p : Nat} (h : ∀ p : Nat, p < np → 0 ≤ st p ∧ st p ≤ 400) (hs : -1 ≤ stop ∧ stop ≤ 400) : 0 ≤ enP st np stop p ∧ enP st np stop p ≤ 1000000000 := by
  have := h (p + 1)
  unfold enP
  split <;> split <;> omega

set_option maxHeartbeats 4000000 in
set_option maxRecDepth 100000 in
theorem c_X9_most (l : Launch) (a : Int) (b : Int) (p0 : -2147483648 ≤ a ∧ a < 2147483648) (p1 : -2147483648 ≤ b ∧ b < 2147483648) : Met l yX9_most wsX9_most ({ frames := 0, cells := 0, slots := 0, locals := 0 }) (PcN [.int (iN a), .int (iN b)]) (vp_Si (fun r => r = iN (max a b))) 0 0 (fun _ => False) := by
  refine Met.ofW (cc := cX9_most) (maxL := 2) (ret := (some .int)) (by decide) rfl ?_
  intro p e s m args below meth c s₁ B hml hv
  obtain rfl := hv
  have hx := B.exec
  have hb := B.bytes
  have hr := B.returns
  have hts := atoms_spec (ws := wsX9_most) B.pre
  have hown : s.vm.findClass RX9 = some m.cls := findClass_of_methodNamed B.named
  have hlocks := B.notSynchronized
  have hl := lv_entry ([.int (iN a), .int (iN b)]) (n := 2) (Nat.le_of_ble_eq_true rfl)
  rw [lg_entry_eq]
  generalize (lg_sl ([.int (iN a), .int (iN b)]) ++ List.replicate (2 - (lg_sl ([.int (iN a), .int (iN b)])).length) Slot.unset).toArray = ls at hl ⊢
  have hl : lv_has ls 2 [(0, .int (iN a)), (1, .int (iN b))] := hl
  refine lv_iload_n hx hb dX9_most_0 rfl (lv_at hl 0 rfl) ?_
  refine lv_iload_n hx hb dX9_most_1 rfl (lv_at hl 1 rfl) ?_
  refine n_icmp_le (tgt := 9) hx hb dX9_most_2 (by decide) (by omega) (by omega) (by omega) (by omega) (fun c_2 => ?_) (fun c_2 => ?_)
  · refine lv_iload_n hx hb dX9_most_9 rfl (lv_at hl 1 rfl) ?_
    exact r_si hx hb hr dX9_most_10 hlocks (show iN b = iN (max a b) from congrArg iN (by first | rfl | omega))
  · refine lv_iload_n hx hb dX9_most_5 rfl (lv_at hl 0 rfl) ?_
    refine lv_goto (tgt := 10) hx hb dX9_most_6 (by decide) ?_
    exact r_si hx hb hr dX9_most_10 hlocks (show iN a = iN (max a b) from congrArg iN (by first | rfl | omega))

set_option maxHeartbeats 4000000 in
set_option maxRecDepth 100000 in
theorem c_X9_least (l : Launch) (a : Int) (b : Int) (p0 : -2147483648 ≤ a ∧ a < 2147483648) (p1 : -2147483648 ≤ b ∧ b < 2147483648) : Met l yX9_least wsX9_least ({ frames := 0, cells := 0, slots := 0, locals := 0 }) (PcN [.int (iN a), .int (iN b)]) (vp_Si (fun r => r = iN (min a b))) 0 0 (fun _ => False) := by
  refine Met.ofW (cc := cX9_least) (maxL := 2) (ret := (some .int)) (by decide) rfl ?_
  intro p e s m args below meth c s₁ B hml hv
  obtain rfl := hv
  have hx := B.exec
  have hb := B.bytes
  have hr := B.returns
  have hts := atoms_spec (ws := wsX9_least) B.pre
  have hown : s.vm.findClass RX9 = some m.cls := findClass_of_methodNamed B.named
  have hlocks := B.notSynchronized
  have hl := lv_entry ([.int (iN a), .int (iN b)]) (n := 2) (Nat.le_of_ble_eq_true rfl)
  rw [lg_entry_eq]
  generalize (lg_sl ([.int (iN a), .int (iN b)]) ++ List.replicate (2 - (lg_sl ([.int (iN a), .int (iN b)])).length) Slot.unset).toArray = ls at hl ⊢
  have hl : lv_has ls 2 [(0, .int (iN a)), (1, .int (iN b))] := hl
  refine lv_iload_n hx hb dX9_least_0 rfl (lv_at hl 0 rfl) ?_
  refine lv_iload_n hx hb dX9_least_1 rfl (lv_at hl 1 rfl) ?_
  refine n_icmp_ge (tgt := 9) hx hb dX9_least_2 (by decide) (by omega) (by omega) (by omega) (by omega) (fun c_2 => ?_) (fun c_2 => ?_)
  · refine lv_iload_n hx hb dX9_least_9 rfl (lv_at hl 1 rfl) ?_
    exact r_si hx hb hr dX9_least_10 hlocks (show iN b = iN (min a b) from congrArg iN (by first | rfl | omega))
  · refine lv_iload_n hx hb dX9_least_5 rfl (lv_at hl 0 rfl) ?_
    refine lv_goto (tgt := 10) hx hb dX9_least_6 (by decide) ?_
    exact r_si hx hb hr dX9_least_10 hlocks (show iN a = iN (min a b) from congrArg iN (by first | rfl | omega))

set_option maxHeartbeats 4000000 in
set_option maxRecDepth 100000 in
theorem c_X9_endOf (l : Launch) (G : GE) (w : WF) (now : Nat) (came : Nat) (rm : Nat) (mt : Nat) (tm : Nat) (thg : Int) (onn : Int) (two : Int) (lw : Int) (hg : Int) (sq : Nat) (ga : Nat → Int) (pn : Nat → Nat) (mbe : Nat → Int) (mpl : Nat → Int) (msp : Nat → Int) (i : Nat) (x : Nat) (e0 : w 59 = .inr (8, [.int (iN ((now : Nat) : Int)), .int (iN ((came : Nat) : Int)), .ref (gad G 60), .ref (gad G 61), .ref (gad G 62), .ref (gad G 63), .ref (gad G 64), .ref (gad G 65), .int (iN ((rm : Nat) : Int)), .int (iN ((mt : Nat) : Int)), .ref (gad G 66), .ref (gad G 67), .ref (gad G 68), .ref (gad G 69), .ref (gad G 70), .int (iN ((tm : Nat) : Int)), .ref (gad G 71), .ref (gad G 72), .int (iN thg), .int (iN onn), .int (iN two), .long (jN lw), .long (jN hg), .int (iN ((sq : Nat) : Int)), .ref (gad G 73), .ref (gad G 74)])) (e1 : w 60 = .inl (gI G, 10, .inl (aN ga))) (e2 : w 61 = .inl (gI G, 10, .inl (aN (pnI pn)))) (e3 : w 62 = .inl (gI G, 80, .inl (aN mbe))) (e4 : w 63 = .inl (gI G, 80, .inl (aN mpl))) (e5 : w 64 = .inl (gI G, 80, .inl (aN msp))) (p0 : i < 10) (p1 : 1 ≤ pn i ∧ pn i ≤ 8) (p2 : x < pn i) (p3 : ∀ p : Nat, p < pn i → 0 ≤ rw8 mbe i p ∧ rw8 mbe i p ≤ 400) (p4 : -1 ≤ ga i ∧ ga i ≤ 400) : Met l yX9_endOf wsX9_endOf ({ frames := 1, cells := 0, slots := 0, locals := 21 }) (PcG G w [.ref (gad G 59), .int (iN ((i : Nat) : Int)), .int (iN ((8 * i + x : Nat) : Int))]) (vp_Si (fun r => r = iN (enP (rw8 mbe i) (pn i) (ga i) x))) 0 0 (fun _ => False) := by
  refine Met.ofW (cc := cX9_endOf) (maxL := 4) (ret := (some .int)) (by decide) rfl ?_
  intro p e s m args below meth c s₁ B hml hv
  obtain ⟨rfl, hP, hK⟩ := hv
  have hx := B.exec
  have hb := B.bytes
  have hr := B.returns
  have hts := atoms_spec (ws := wsX9_endOf) B.pre
  have hown : s.vm.findClass RX9 = some m.cls := findClass_of_methodNamed B.named
  have hlocks := B.notSynchronized
  have hl := lv_entry ([.ref (gad G 59), .int (iN ((i : Nat) : Int)), .int (iN ((8 * i + x : Nat) : Int))]) (n := 4) (Nat.le_of_ble_eq_true rfl)
  rw [lg_entry_eq]
  generalize (lg_sl ([.ref (gad G 59), .int (iN ((i : Nat) : Int)), .int (iN ((8 * i + x : Nat) : Int))]) ++ List.replicate (4 - (lg_sl ([.ref (gad G 59), .int (iN ((i : Nat) : Int)), .int (iN ((8 * i + x : Nat) : Int))])).length) Slot.unset).toArray = ls at hl ⊢
  have hl : lv_has ls 4 [(0, .ref (gad G 59)), (1, .int (iN ((i : Nat) : Int))), (2, .int (iN ((8 * i + x : Nat) : Int)))] := hl
  refine lv_iload_n hx hb dX9_endOf_0 rfl (lv_at hl 2 rfl) ?_
  refine lv_aload_n hx hb dX9_endOf_1 rfl (lv_at hl 0 rfl) ?_
  refine lv_iload_n hx hb dX9_endOf_2 rfl (lv_at hl 1 rfl) ?_
  refine vp_callSi (W.runV (As := [.int (iN ((i : Nat) : Int))]) (rest := [.int (iN ((8 * i + x : Nat) : Int))]) ⟨hx, hb, hml, hown, hts⟩ (c_X9_latest l G w now came rm mt tm thg onn two lw hg sq ga pn mbe mpl msp i e0 e1 e2 e3 e4 e5 (p0) (p1)) (cwV 1 hts gX9_endOf_X9_latest rfl rfl rfl (by decide +kernel) ⟨Nat.le_of_ble_eq_true rfl, Nat.le_of_ble_eq_true rfl⟩) (f_preV hP hK 59 (by omega) 8 e0 rfl) rfl rfl hl.1 rfl (lv_room (Nat.le_of_ble_eq_true rfl)) dX9_endOf_3 ⟨Nat.zero_le _, Nat.zero_le _⟩) (fun r_1 hr_1 => ?_)
  rw [show r_1 = iN ((8 * i + pn i - 1 : Nat) : Int) from hr_1]
  refine n_icmp_ge (tgt := 20) hx hb dX9_endOf_6 (by decide) (by omega) (by omega) (by omega) (by omega) (fun c_6 => ?_) (fun c_6 => ?_)
  · refine n_ldc (z := 1000000000) hx hb hown (hts (.constant RX9 142 (1000000000)) (by decide +kernel)) (by decide) dX9_endOf_20 ?_
    refine lv_istore_n (lv' := [(3, .int (iN 1000000000)), (0, .ref (gad G 59)), (1, .int (iN ((i : Nat) : Int))), (2, .int (iN ((8 * i + x : Nat) : Int)))]) hx hb dX9_endOf_22 rfl hl (by decide) rfl (fun ls hl => ?_)
    refine lv_aload_n hx hb dX9_endOf_23 rfl (lv_at hl 1 rfl) ?_
    refine f_get (C := RX9) (T := TX9) (N := 26) hx hb hts (by decide +kernel) hown hK hP 59 (by omega) e0 rfl 2 (by decide) (hts (.fieldLink RX9 7 "KeptMovingModel" "goneAt" "[I") (by decide +kernel)) (fun _ h9 => h9) rfl dX9_endOf_24 ?_
    refine lv_iload_n hx hb dX9_endOf_27 rfl (lv_at hl 2 rfl) ?_
    refine n_iald hx hb hK hP 60 (by omega) e1 i rfl (by omega) (by decide) dX9_endOf_28 ?_
    refine n_if_lt (tgt := 45) hx hb dX9_endOf_29 (by decide) (by omega) (by omega) (fun c_29 => ?_) (fun c_29 => ?_)
    · refine lv_iload_n hx hb dX9_endOf_45 rfl (lv_at hl 0 rfl) ?_
      exact r_si hx hb hr dX9_endOf_46 hlocks (show iN 1000000000 = iN (enP (rw8 mbe i) (pn i) (ga i) x) by unfold enP; rw [if_neg (show ¬ 0 ≤ ga i by omega), if_neg (show ¬ x + 1 < pn i by omega)]; skip)
    · refine lv_iload_n hx hb dX9_endOf_32 rfl (lv_at hl 0 rfl) ?_
      refine lv_aload_n hx hb dX9_endOf_33 rfl (lv_at hl 1 rfl) ?_
      refine f_get (C := RX9) (T := TX9) (N := 26) hx hb hts (by decide +kernel) hown hK hP 59 (by omega) e0 rfl 2 (by decide) (hts (.fieldLink RX9 7 "KeptMovingModel" "goneAt" "[I") (by decide +kernel)) (fun _ h9 => h9) rfl dX9_endOf_34 ?_
      refine lv_iload_n hx hb dX9_endOf_37 rfl (lv_at hl 2 rfl) ?_
      refine n_iald hx hb hK hP 60 (by omega) e1 i rfl (by omega) (by decide) dX9_endOf_38 ?_
      refine vp_callSi (W.runS (As := [.int (iN 1000000000), .int (iN (ga i))]) (rest := []) ⟨hx, hb, hml, hown, hts⟩ (c_X9_least l (1000000000 : Int) (ga i) (by omega) (by omega)) (va_cwS 2 hts gX9_endOf_X9_least rfl rfl rfl (by decide +kernel) ⟨Nat.le_of_ble_eq_true rfl, Nat.le_of_ble_eq_true rfl⟩) ⟨fun _ _ _ _ q => q, fun _ _ _ => rfl⟩ rfl rfl hl.1 rfl (lv_room (Nat.le_of_ble_eq_true rfl)) dX9_endOf_39 ⟨Nat.zero_le _, Nat.zero_le _⟩) (fun r_2 hr_2 => ?_)
      rw [show r_2 = iN (min (1000000000 : Int) (ga i)) from hr_2]
      refine lv_goto (tgt := 46) hx hb dX9_endOf_42 (by decide) ?_
      exact r_si hx hb hr dX9_endOf_46 hlocks (show iN (min (1000000000 : Int) (ga i)) = iN (enP (rw8 mbe i) (pn i) (ga i) x) by unfold enP; rw [if_pos (show 0 ≤ ga i by omega), if_neg (show ¬ x + 1 < pn i by omega)]; skip)
  · refine lv_aload_n hx hb dX9_endOf_9 rfl (lv_at hl 0 rfl) ?_
    refine f_get (C := RX9) (T := TX9) (N := 26) hx hb hts (by decide +kernel) hown hK hP 59 (by omega) e0 rfl 4 (by decide) (hts (.fieldLink RX9 16 "KeptMovingModel" "begins" "[I") (by decide +kernel)) (fun _ h9 => h9) rfl dX9_endOf_10 ?_
    have hv1 : 0 ≤ mbe (8 * i + x + 1) ∧ mbe (8 * i + x + 1) ≤ 400 := p3 (x + 1) (by omega)
    refine lv_iload_n hx hb dX9_endOf_13 rfl (lv_at hl 2 rfl) ?_
    refine n_iconst hx hb dX9_endOf_14 ?_
    refine n_iadd hx hb dX9_endOf_15 ?_
    refine n_top (A := ((8 * i + x : Nat) : Int) + 1) (B := (((8 * i + x) + 1 : Nat) : Int)) (by omega) ?_
    refine n_iald hx hb hK hP 62 (by omega) e3 ((8 * i + x) + 1) rfl (by omega) (by decide) dX9_endOf_16 ?_
    refine lv_goto (tgt := 22) hx hb dX9_endOf_17 (by decide) ?_
    refine lv_istore_n (lv' := [(3, .int (iN (mbe ((8 * i + x) + 1)))), (0, .ref (gad G 59)), (1, .int (iN ((i : Nat) : Int))), (2, .int (iN ((8 * i + x : Nat) : Int)))]) hx hb dX9_endOf_22 rfl hl (by decide) rfl (fun ls hl => ?_)
    refine lv_aload_n hx hb dX9_endOf_23 rfl (lv_at hl 1 rfl) ?_
    refine f_get (C := RX9) (T := TX9) (N := 26) hx hb hts (by decide +kernel) hown hK hP 59 (by omega) e0 rfl 2 (by decide) (hts (.fieldLink RX9 7 "KeptMovingModel" "goneAt" "[I") (by decide +kernel)) (fun _ h9 => h9) rfl dX9_endOf_24 ?_
    refine lv_iload_n hx hb dX9_endOf_27 rfl (lv_at hl 2 rfl) ?_
    refine n_iald hx hb hK hP 60 (by omega) e1 i rfl (by omega) (by decide) dX9_endOf_28 ?_
    refine n_if_lt (tgt := 45) hx hb dX9_endOf_29 (by decide) (by omega) (by omega) (fun c_29 => ?_) (fun c_29 => ?_)
    · refine lv_iload_n hx hb dX9_endOf_45 rfl (lv_at hl 0 rfl) ?_
      exact r_si hx hb hr dX9_endOf_46 hlocks (show iN (mbe ((8 * i + x) + 1)) = iN (enP (rw8 mbe i) (pn i) (ga i) x) by unfold enP; rw [if_neg (show ¬ 0 ≤ ga i by omega), if_pos (show x + 1 < pn i by omega)]; rfl)
    · refine lv_iload_n hx hb dX9_endOf_32 rfl (lv_at hl 0 rfl) ?_
      refine lv_aload_n hx hb dX9_endOf_33 rfl (lv_at hl 1 rfl) ?_
      refine f_get (C := RX9) (T := TX9) (N := 26) hx hb hts (by decide +kernel) hown hK hP 59 (by omega) e0 rfl 2 (by decide) (hts (.fieldLink RX9 7 "KeptMovingModel" "goneAt" "[I") (by decide +kernel)) (fun _ h9 => h9) rfl dX9_endOf_34 ?_
      refine lv_iload_n hx hb dX9_endOf_37 rfl (lv_at hl 2 rfl) ?_
      refine n_iald hx hb hK hP 60 (by omega) e1 i rfl (by omega) (by decide) dX9_endOf_38 ?_
      refine vp_callSi (W.runS (As := [.int (iN (mbe ((8 * i + x) + 1))), .int (iN (ga i))]) (rest := []) ⟨hx, hb, hml, hown, hts⟩ (c_X9_least l (mbe ((8 * i + x) + 1)) (ga i) (by omega) (by omega)) (va_cwS 2 hts gX9_endOf_X9_least rfl rfl rfl (by decide +kernel) ⟨Nat.le_of_ble_eq_true rfl, Nat.le_of_ble_eq_true rfl⟩) ⟨fun _ _ _ _ q => q, fun _ _ _ => rfl⟩ rfl rfl hl.1 rfl (lv_room (Nat.le_of_ble_eq_true rfl)) dX9_endOf_39 ⟨Nat.zero_le _, Nat.zero_le _⟩) (fun r_3 hr_3 => ?_)
      rw [show r_3 = iN (min (mbe ((8 * i + x) + 1)) (ga i)) from hr_3]
      refine lv_goto (tgt := 46) hx hb dX9_endOf_42 (by decide) ?_
      exact r_si hx hb hr dX9_endOf_46 hlocks (show iN (min (mbe ((8 * i + x) + 1)) (ga i)) = iN (enP (rw8 mbe i) (pn i) (ga i) x) by unfold enP; rw [if_pos (show 0 ≤ ga i by omega), if_pos (show x + 1 < pn i by omega)]; rfl)

set_option maxHeartbeats 4000000 in
set_option maxRecDepth 100000 in
theorem c_X9_slopeBehind (l : Launch) (G : GE) (w : WF) (now : Nat) (came : Nat) (rm : Nat) (mt : Nat) (tm : Nat) (thg : Int) (onn : Int) (two : Int) (lw : Int) (hg : Int) (sq : Nat) (ga : Nat → Int) (pn : Nat → Nat) (mbe : Nat → Int) (mpl : Nat → Int) (msp : Nat → Int) (i : Nat) (j : Nat) (t : Int) (e0 : w 59 = .inr (8, [.int (iN ((now : Nat) : Int)), .int (iN ((came : Nat) : Int)), .ref (gad G 60), .ref (gad G 61), .ref (gad G 62), .ref (gad G 63), .ref (gad G 64), .ref (gad G 65), .int (iN ((rm : Nat) : Int)), .int (iN ((mt : Nat) : Int)), .ref (gad G 66), .ref (gad G 67), .ref (gad G 68), .ref (gad G 69), .ref (gad G 70), .int (iN ((tm : Nat) : Int)), .ref (gad G 71), .ref (gad G 72), .int (iN thg), .int (iN onn), .int (iN two), .long (jN lw), .long (jN hg), .int (iN ((sq : Nat) : Int)), .ref (gad G 73), .ref (gad G 74)])) (e1 : w 60 = .inl (gI G, 10, .inl (aN ga))) (e2 : w 61 = .inl (gI G, 10, .inl (aN (pnI pn)))) (e3 : w 62 = .inl (gI G, 80, .inl (aN mbe))) (e4 : w 63 = .inl (gI G, 80, .inl (aN mpl))) (e5 : w 64 = .inl (gI G, 80, .inl (aN msp))) (p0 : i < 10) (p1 : j < 10) (p2 : 1 ≤ pn i ∧ pn i ≤ 8) (p3 : 1 ≤ pn j ∧ pn j ≤ 8) (p4 : ∀ p : Nat, p < pn i → 0 ≤ rw8 mbe i p ∧ rw8 mbe i p ≤ 400) (p5 : ∀ p : Nat, p < pn j → 0 ≤ rw8 mbe j p ∧ rw8 mbe j p ≤ 400) (p6 : 0 ≤ t ∧ t ≤ 1000000) (p7 : rw8 mbe i 0 ≤ t) (p8 : rw8 mbe j 0 ≤ t) : Met l yX9_slopeBehind wsX9_slopeBehind ({ frames := 1, cells := 0, slots := 0, locals := 21 }) (PcG G w [.ref (gad G 59), .int (iN ((i : Nat) : Int)), .int (iN ((j : Nat) : Int)), .long (jN t)]) (vp_Si (fun r => r = iN (spAt (rw8 mbe i) (rw8 msp i) (pn i) t - spAt (rw8 mbe j) (rw8 msp j) (pn j) t))) 0 0 (fun _ => False) := by
  refine Met.ofW (cc := cX9_slopeBehind) (maxL := 7) (ret := (some .int)) (by decide) rfl ?_
  intro p e s m args below meth c s₁ B hml hv
  obtain ⟨rfl, hP, hK⟩ := hv
  have hx := B.exec
  have hb := B.bytes
  have hr := B.returns
  have hts := atoms_spec (ws := wsX9_slopeBehind) B.pre
  have hown : s.vm.findClass RX9 = some m.cls := findClass_of_methodNamed B.named
  have hlocks := B.notSynchronized
  have hl := lv_entry ([.ref (gad G 59), .int (iN ((i : Nat) : Int)), .int (iN ((j : Nat) : Int)), .long (jN t)]) (n := 7) (Nat.le_of_ble_eq_true rfl)
  rw [lg_entry_eq]
  generalize (lg_sl ([.ref (gad G 59), .int (iN ((i : Nat) : Int)), .int (iN ((j : Nat) : Int)), .long (jN t)]) ++ List.replicate (7 - (lg_sl ([.ref (gad G 59), .int (iN ((i : Nat) : Int)), .int (iN ((j : Nat) : Int)), .long (jN t)])).length) Slot.unset).toArray = ls at hl ⊢
  have hl : lv_has ls 7 [(0, .ref (gad G 59)), (1, .int (iN ((i : Nat) : Int))), (2, .int (iN ((j : Nat) : Int))), (3, .long (jN t))] := hl
  refine lv_aload_n hx hb dX9_slopeBehind_0 rfl (lv_at hl 0 rfl) ?_
  refine lv_iload_n hx hb dX9_slopeBehind_1 rfl (lv_at hl 1 rfl) ?_
  refine vp_callSi (W.runV (As := [.int (iN ((i : Nat) : Int))]) (rest := []) ⟨hx, hb, hml, hown, hts⟩ (c_X9_latest l G w now came rm mt tm thg onn two lw hg sq ga pn mbe mpl msp i e0 e1 e2 e3 e4 e5 (p0) (p2)) (cwV 1 hts gX9_slopeBehind_X9_latest rfl rfl rfl (by decide +kernel) ⟨Nat.le_of_ble_eq_true rfl, Nat.le_of_ble_eq_true rfl⟩) (f_preV hP hK 59 (by omega) 8 e0 rfl) rfl rfl hl.1 rfl (lv_room (Nat.le_of_ble_eq_true rfl)) dX9_slopeBehind_2 ⟨Nat.zero_le _, Nat.zero_le _⟩) (fun r_1 hr_1 => ?_)
  rw [show r_1 = iN ((8 * i + pn i - 1 : Nat) : Int) from hr_1]
  refine n_top (A := ((8 * i + pn i - 1 : Nat) : Int)) (B := ((8 * i + (pn i - 1) : Nat) : Int)) (by omega) ?_
  refine lv_istore (lv' := [(5, .int (iN ((8 * i + (pn i - 1) : Nat) : Int))), (0, .ref (gad G 59)), (1, .int (iN ((i : Nat) : Int))), (2, .int (iN ((j : Nat) : Int))), (3, .long (jN t))]) hx hb dX9_slopeBehind_5 hl (by decide) rfl (fun ls hl => ?_)
  have K7 : ∀ (N : Nat) (q : Nat) (ls : Array Slot), (q < pn i) → (pcAt (rw8 mbe i) t 1 (q + 1) = pcAt (rw8 mbe i) t 1 (pn i)) → q < N → lv_has ls 7 [(0, .ref (gad G 59)), (1, .int (iN ((i : Nat) : Int))), (2, .int (iN ((j : Nat) : Int))), (3, .long (jN t)), (5, .int (iN ((8 * i + q : Nat) : Int)))] → W p l e (headSpec wsX9_slopeBehind ({ frames := 1, cells := 0, slots := 0, locals := 21 })).room s m (([.ref (gad G 59), .int (iN ((i : Nat) : Int)), .int (iN ((j : Nat) : Int)), .long (jN t)] : List Value).toArray) below meth c s.heap [] 0 0 (MQ below (vp_Si (fun r => r = iN (spAt (rw8 mbe i) (rw8 msp i) (pn i) t - spAt (rw8 mbe j) (rw8 msp j) (pn j) t))) (([.ref (gad G 59), .int (iN ((i : Nat) : Int)), .int (iN ((j : Nat) : Int)), .long (jN t)] : List Value).toArray) s 0 0 (fun _ => False)) (F0 m 7 ls []) := by
    intro N
    induction N with
    | zero =>
      intros
      exfalso
      omega
    | succ N ih7 =>
      intro q ls i7_0 i7_1 hN7 hl
      refine lv_aload_n hx hb dX9_slopeBehind_7 rfl (lv_at hl 0 rfl) ?_
      refine f_get (C := RX9) (T := TX9) (N := 26) hx hb hts (by decide +kernel) hown hK hP 59 (by omega) e0 rfl 4 (by decide) (hts (.fieldLink RX9 16 "KeptMovingModel" "begins" "[I") (by decide +kernel)) (fun _ h9 => h9) rfl dX9_slopeBehind_8 ?_
      refine lv_iload hx hb dX9_slopeBehind_11 (lv_at hl 4 rfl) ?_
      have hbi := p4 q (by omega)
      have hzi : rw8 mbe i q = mbe (8 * i + q) := rfl
      rw [hzi] at hbi
      have hni : t < mbe (8 * i + q) → q ≠ 0 := fun z1 z2 => by
          subst z2
          have hz0 : rw8 mbe i 0 = mbe (8 * i + 0) := rfl
          omega
      refine n_iald hx hb hK hP 62 (by omega) e3 (8 * i + q) rfl (by omega) (by decide) dX9_slopeBehind_13 ?_
      refine n_i2l hx hb (by omega) (by omega) dX9_slopeBehind_14 ?_
      refine lv_lload_n hx hb dX9_slopeBehind_15 rfl (lv_at hl 3 rfl) ?_
      refine n_lcmp hx hb (by omega) (by omega) (by omega) (by omega) dX9_slopeBehind_16 ?_
      refine n_ifc_le (tgt := 26) hx hb dX9_slopeBehind_17 (by decide) (fun c_17 => ?_) (fun c_17 => ?_)
      · have hpi : pcAt (rw8 mbe i) t 1 (pn i) = q := by rw [← i7_1]; exact pcAt_end (Or.inr (by rw [hzi]; omega))
        refine lv_aload_n hx hb dX9_slopeBehind_26 rfl (lv_at hl 0 rfl) ?_
        refine lv_iload_n hx hb dX9_slopeBehind_27 rfl (lv_at hl 2 rfl) ?_
        refine vp_callSi (W.runV (As := [.int (iN ((j : Nat) : Int))]) (rest := []) ⟨hx, hb, hml, hown, hts⟩ (c_X9_latest l G w now came rm mt tm thg onn two lw hg sq ga pn mbe mpl msp j e0 e1 e2 e3 e4 e5 (p1) (p3)) (cwV 1 hts gX9_slopeBehind_X9_latest rfl rfl rfl (by decide +kernel) ⟨Nat.le_of_ble_eq_true rfl, Nat.le_of_ble_eq_true rfl⟩) (f_preV hP hK 59 (by omega) 8 e0 rfl) rfl rfl hl.1 rfl (lv_room (Nat.le_of_ble_eq_true rfl)) dX9_slopeBehind_28 ⟨Nat.zero_le _, Nat.zero_le _⟩) (fun r_2 hr_2 => ?_)
        rw [show r_2 = iN ((8 * j + pn j - 1 : Nat) : Int) from hr_2]
        refine n_top (A := ((8 * j + pn j - 1 : Nat) : Int)) (B := ((8 * j + (pn j - 1) : Nat) : Int)) (by omega) ?_
        refine lv_istore (lv' := [(6, .int (iN ((8 * j + (pn j - 1) : Nat) : Int))), (0, .ref (gad G 59)), (1, .int (iN ((i : Nat) : Int))), (2, .int (iN ((j : Nat) : Int))), (3, .long (jN t)), (5, .int (iN ((8 * i + q : Nat) : Int)))]) hx hb dX9_slopeBehind_31 hl (by decide) rfl (fun ls hl => ?_)
        have K33 : ∀ (N : Nat) (r : Nat) (ls : Array Slot), (r < pn j) → (pcAt (rw8 mbe j) t 1 (r + 1) = pcAt (rw8 mbe j) t 1 (pn j)) → r < N → lv_has ls 7 [(0, .ref (gad G 59)), (1, .int (iN ((i : Nat) : Int))), (2, .int (iN ((j : Nat) : Int))), (3, .long (jN t)), (5, .int (iN ((8 * i + q : Nat) : Int))), (6, .int (iN ((8 * j + r : Nat) : Int)))] → W p l e (headSpec wsX9_slopeBehind ({ frames := 1, cells := 0, slots := 0, locals := 21 })).room s m (([.ref (gad G 59), .int (iN ((i : Nat) : Int)), .int (iN ((j : Nat) : Int)), .long (jN t)] : List Value).toArray) below meth c s.heap [] 0 0 (MQ below (vp_Si (fun r => r = iN (spAt (rw8 mbe i) (rw8 msp i) (pn i) t - spAt (rw8 mbe j) (rw8 msp j) (pn j) t))) (([.ref (gad G 59), .int (iN ((i : Nat) : Int)), .int (iN ((j : Nat) : Int)), .long (jN t)] : List Value).toArray) s 0 0 (fun _ => False)) (F0 m 33 ls []) := by
          intro N
          induction N with
          | zero =>
            intros
            exfalso
            omega
          | succ N ih33 =>
            intro r ls i33_0 i33_1 hN33 hl
            refine lv_aload_n hx hb dX9_slopeBehind_33 rfl (lv_at hl 0 rfl) ?_
            refine f_get (C := RX9) (T := TX9) (N := 26) hx hb hts (by decide +kernel) hown hK hP 59 (by omega) e0 rfl 4 (by decide) (hts (.fieldLink RX9 16 "KeptMovingModel" "begins" "[I") (by decide +kernel)) (fun _ h9 => h9) rfl dX9_slopeBehind_34 ?_
            refine lv_iload hx hb dX9_slopeBehind_37 (lv_at hl 5 rfl) ?_
            have hbj := p5 r (by omega)
            have hzj : rw8 mbe j r = mbe (8 * j + r) := rfl
            rw [hzj] at hbj
            have hnj : t < mbe (8 * j + r) → r ≠ 0 := fun z1 z2 => by
                subst z2
                have hz0 : rw8 mbe j 0 = mbe (8 * j + 0) := rfl
                omega
            refine n_iald hx hb hK hP 62 (by omega) e3 (8 * j + r) rfl (by omega) (by decide) dX9_slopeBehind_39 ?_
            refine n_i2l hx hb (by omega) (by omega) dX9_slopeBehind_40 ?_
            refine lv_lload_n hx hb dX9_slopeBehind_41 rfl (lv_at hl 3 rfl) ?_
            refine n_lcmp hx hb (by omega) (by omega) (by omega) (by omega) dX9_slopeBehind_42 ?_
            refine n_ifc_le (tgt := 52) hx hb dX9_slopeBehind_43 (by decide) (fun c_43 => ?_) (fun c_43 => ?_)
            · have hpj : pcAt (rw8 mbe j) t 1 (pn j) = r := by rw [← i33_1]; exact pcAt_end (Or.inr (by rw [hzj]; omega))
              refine lv_aload_n hx hb dX9_slopeBehind_52 rfl (lv_at hl 0 rfl) ?_
              refine f_get (C := RX9) (T := TX9) (N := 26) hx hb hts (by decide +kernel) hown hK hP 59 (by omega) e0 rfl 6 (by decide) (hts (.fieldLink RX9 22 "KeptMovingModel" "speeds" "[I") (by decide +kernel)) (fun _ h9 => h9) rfl dX9_slopeBehind_53 ?_
              refine lv_iload hx hb dX9_slopeBehind_56 (lv_at hl 4 rfl) ?_
              refine n_iald hx hb hK hP 64 (by omega) e5 (8 * i + q) rfl (by omega) (by decide) dX9_slopeBehind_58 ?_
              refine lv_aload_n hx hb dX9_slopeBehind_59 rfl (lv_at hl 0 rfl) ?_
              refine f_get (C := RX9) (T := TX9) (N := 26) hx hb hts (by decide +kernel) hown hK hP 59 (by omega) e0 rfl 6 (by decide) (hts (.fieldLink RX9 22 "KeptMovingModel" "speeds" "[I") (by decide +kernel)) (fun _ h9 => h9) rfl dX9_slopeBehind_60 ?_
              refine lv_iload hx hb dX9_slopeBehind_63 (lv_at hl 5 rfl) ?_
              refine n_iald hx hb hK hP 64 (by omega) e5 (8 * j + r) rfl (by omega) (by decide) dX9_slopeBehind_65 ?_
              refine n_isub hx hb dX9_slopeBehind_66 ?_
              exact r_si hx hb hr dX9_slopeBehind_67 hlocks (show iN (msp (8 * i + q) - msp (8 * j + r)) = iN (spAt (rw8 mbe i) (rw8 msp i) (pn i) t - spAt (rw8 mbe j) (rw8 msp j) (pn j) t) by unfold spAt; rw [hpi, hpj]; rfl)
            · refine lv_iinc (v := iN (((8 * j + r) - 1 : Nat) : Int)) (lv' := [(6, .int (iN (((8 * j + r) - 1 : Nat) : Int))), (0, .ref (gad G 59)), (1, .int (iN ((i : Nat) : Int))), (2, .int (iN ((j : Nat) : Int))), (3, .long (jN t)), (5, .int (iN ((8 * i + q : Nat) : Int)))]) hx hb dX9_slopeBehind_46 hl (k := 5) rfl (iN_decN (by omega)) (by decide) rfl (fun ls hl => ?_)
              have hz_3 : (8 * j + r) - 1 = 8 * j + (r - 1) := by omega
              have hl : lv_has ls 7 [(6, .int (iN ((8 * j + (r - 1) : Nat) : Int))), (0, .ref (gad G 59)), (1, .int (iN ((i : Nat) : Int))), (2, .int (iN ((j : Nat) : Int))), (3, .long (jN t)), (5, .int (iN ((8 * i + q : Nat) : Int)))] := by rw [← hz_3]; exact hl
              refine lv_goto (tgt := 33) hx hb dX9_slopeBehind_49 (by decide) ?_
              exact ih33 (r - 1) _ (by omega) (by rw [← i33_1]; exact (pcAt_step (by omega) (by rw [hzj]; omega)).symm) (by omega) (lv_sub hl [1, 2, 3, 4, 5, 0] rfl)
        exact K33 ((pn j - 1) + 1) (pn j - 1) _ (by omega) (by rw [show pn j - 1 + 1 = pn j by omega]) (by omega) (lv_sub hl [1, 2, 3, 4, 5, 0] rfl)
      · refine lv_iinc (v := iN (((8 * i + q) - 1 : Nat) : Int)) (lv' := [(5, .int (iN (((8 * i + q) - 1 : Nat) : Int))), (0, .ref (gad G 59)), (1, .int (iN ((i : Nat) : Int))), (2, .int (iN ((j : Nat) : Int))), (3, .long (jN t))]) hx hb dX9_slopeBehind_20 hl (k := 4) rfl (iN_decN (by omega)) (by decide) rfl (fun ls hl => ?_)
        have hz_4 : (8 * i + q) - 1 = 8 * i + (q - 1) := by omega
        have hl : lv_has ls 7 [(5, .int (iN ((8 * i + (q - 1) : Nat) : Int))), (0, .ref (gad G 59)), (1, .int (iN ((i : Nat) : Int))), (2, .int (iN ((j : Nat) : Int))), (3, .long (jN t))] := by rw [← hz_4]; exact hl
        refine lv_goto (tgt := 7) hx hb dX9_slopeBehind_23 (by decide) ?_
        exact ih7 (q - 1) _ (by omega) (by rw [← i7_1]; exact (pcAt_step (by omega) (by rw [hzi]; omega)).symm) (by omega) (lv_sub hl [1, 2, 3, 4, 0] rfl)
  exact K7 ((pn i - 1) + 1) (pn i - 1) _ (by omega) (by rw [show pn i - 1 + 1 = pn i by omega]) (by omega) (lv_sub hl [1, 2, 3, 4, 0] rfl)

set_option maxHeartbeats 4000000 in
set_option maxRecDepth 100000 in
theorem c_X9_isThereBoth (l : Launch) (G : GE) (w : WF) (now : Nat) (came : Nat) (rm : Nat) (mt : Nat) (tm : Nat) (thg : Int) (onn : Int) (two : Int) (lw : Int) (hg : Int) (sq : Nat) (ga : Nat → Int) (pn : Nat → Nat) (mbe : Nat → Int) (mpl : Nat → Int) (msp : Nat → Int) (i : Nat) (j : Nat) (n : Int) (d : Int) (e0 : w 59 = .inr (8, [.int (iN ((now : Nat) : Int)), .int (iN ((came : Nat) : Int)), .ref (gad G 60), .ref (gad G 61), .ref (gad G 62), .ref (gad G 63), .ref (gad G 64), .ref (gad G 65), .int (iN ((rm : Nat) : Int)), .int (iN ((mt : Nat) : Int)), .ref (gad G 66), .ref (gad G 67), .ref (gad G 68), .ref (gad G 69), .ref (gad G 70), .int (iN ((tm : Nat) : Int)), .ref (gad G 71), .ref (gad G 72), .int (iN thg), .int (iN onn), .int (iN two), .long (jN lw), .long (jN hg), .int (iN ((sq : Nat) : Int)), .ref (gad G 73), .ref (gad G 74)])) (e1 : w 60 = .inl (gI G, 10, .inl (aN ga))) (e2 : w 61 = .inl (gI G, 10, .inl (aN (pnI pn)))) (e3 : w 62 = .inl (gI G, 80, .inl (aN mbe))) (e4 : w 63 = .inl (gI G, 80, .inl (aN mpl))) (e5 : w 64 = .inl (gI G, 80, .inl (aN msp))) (p0 : i < 10) (p1 : j < 10) (p2 : 0 ≤ rw8 mbe i 0 ∧ rw8 mbe i 0 ≤ 400) (p3 : -1 ≤ ga i ∧ ga i ≤ 400) (p4 : 0 ≤ rw8 mbe j 0 ∧ rw8 mbe j 0 ≤ 400) (p5 : -1 ≤ ga j ∧ ga j ≤ 400) (p6 : 0 ≤ n ∧ n ≤ 1000000000000) (p7 : 1 ≤ d ∧ d ≤ 1000000) : Met l yX9_isThereBoth wsX9_isThereBoth ({ frames := 1, cells := 0, slots := 0, locals := 25 }) (PcG G w [.ref (gad G 59), .int (iN ((i : Nat) : Int)), .int (iN ((j : Nat) : Int)), .long (jN n), .long (jN d)]) (vp_Si (fun r => r = iN (if (rw8 mbe i 0 * d ≤ n ∧ (ga i = -1 ∨ n < ga i * d)) ∧ (rw8 mbe j 0 * d ≤ n ∧ (ga j = -1 ∨ n < ga j * d)) then 1 else 0))) 0 0 (fun _ => False) := by
  refine Met.ofW (cc := cX9_isThereBoth) (maxL := 7) (ret := (some .boolean)) (by decide) rfl ?_
  intro p e s m args below meth c s₁ B hml hv
  obtain ⟨rfl, hP, hK⟩ := hv
  have hx := B.exec
  have hb := B.bytes
  have hr := B.returns
  have hts := atoms_spec (ws := wsX9_isThereBoth) B.pre
  have hown : s.vm.findClass RX9 = some m.cls := findClass_of_methodNamed B.named
  have hlocks := B.notSynchronized
  have hl := lv_entry ([.ref (gad G 59), .int (iN ((i : Nat) : Int)), .int (iN ((j : Nat) : Int)), .long (jN n), .long (jN d)]) (n := 7) (Nat.le_of_ble_eq_true rfl)
  rw [lg_entry_eq]
  generalize (lg_sl ([.ref (gad G 59), .int (iN ((i : Nat) : Int)), .int (iN ((j : Nat) : Int)), .long (jN n), .long (jN d)]) ++ List.replicate (7 - (lg_sl ([.ref (gad G 59), .int (iN ((i : Nat) : Int)), .int (iN ((j : Nat) : Int)), .long (jN n), .long (jN d)])).length) Slot.unset).toArray = ls at hl ⊢
  have hl : lv_has ls 7 [(0, .ref (gad G 59)), (1, .int (iN ((i : Nat) : Int))), (2, .int (iN ((j : Nat) : Int))), (3, .long (jN n)), (5, .long (jN d))] := hl
  refine lv_aload_n hx hb dX9_isThereBoth_0 rfl (lv_at hl 0 rfl) ?_
  refine lv_iload_n hx hb dX9_isThereBoth_1 rfl (lv_at hl 1 rfl) ?_
  refine lv_lload_n hx hb dX9_isThereBoth_2 rfl (lv_at hl 3 rfl) ?_
  refine lv_lload hx hb dX9_isThereBoth_3 (lv_at hl 4 rfl) ?_
  refine vp_callSi (W.runV (As := [.int (iN ((i : Nat) : Int)), .long (jN n), .long (jN d)]) (rest := []) ⟨hx, hb, hml, hown, hts⟩ (c_X9_isThere l G w now came rm mt tm thg onn two lw hg sq ga pn mbe mpl msp i n d e0 e1 e2 e3 e4 e5 (p0) (p2) (p3) (p6) (p7)) (cwV 3 hts gX9_isThereBoth_X9_isThere rfl rfl rfl (by decide +kernel) ⟨Nat.le_of_ble_eq_true rfl, Nat.le_of_ble_eq_true rfl⟩) (f_preV hP hK 59 (by omega) 8 e0 rfl) rfl rfl hl.1 rfl (lv_room (Nat.le_of_ble_eq_true rfl)) dX9_isThereBoth_5 ⟨Nat.zero_le _, Nat.zero_le _⟩) (fun r_1 hr_1 => ?_)
  rw [show r_1 = iN (if (rw8 mbe i 0 * d ≤ n ∧ (ga i = -1 ∨ n < ga i * d)) then 1 else 0) from hr_1]
  refine n_ifb_eq (tgt := 26) hx hb dX9_isThereBoth_8 (by decide) (fun c_8 => ?_) (fun c_8 => ?_)
  · refine n_iconst hx hb dX9_isThereBoth_26 ?_
    exact r_z0 hx hb hr dX9_isThereBoth_27 hlocks (show iN 0 = iN (if (rw8 mbe i 0 * d ≤ n ∧ (ga i = -1 ∨ n < ga i * d)) ∧ (rw8 mbe j 0 * d ≤ n ∧ (ga j = -1 ∨ n < ga j * d)) then 1 else 0) by rw [if_neg (fun z => c_8 z.1)])
  · refine lv_aload_n hx hb dX9_isThereBoth_11 rfl (lv_at hl 0 rfl) ?_
    refine lv_iload_n hx hb dX9_isThereBoth_12 rfl (lv_at hl 2 rfl) ?_
    refine lv_lload_n hx hb dX9_isThereBoth_13 rfl (lv_at hl 3 rfl) ?_
    refine lv_lload hx hb dX9_isThereBoth_14 (lv_at hl 4 rfl) ?_
    refine vp_callSi (W.runV (As := [.int (iN ((j : Nat) : Int)), .long (jN n), .long (jN d)]) (rest := []) ⟨hx, hb, hml, hown, hts⟩ (c_X9_isThere l G w now came rm mt tm thg onn two lw hg sq ga pn mbe mpl msp j n d e0 e1 e2 e3 e4 e5 (p1) (p4) (p5) (p6) (p7)) (cwV 3 hts gX9_isThereBoth_X9_isThere rfl rfl rfl (by decide +kernel) ⟨Nat.le_of_ble_eq_true rfl, Nat.le_of_ble_eq_true rfl⟩) (f_preV hP hK 59 (by omega) 8 e0 rfl) rfl rfl hl.1 rfl (lv_room (Nat.le_of_ble_eq_true rfl)) dX9_isThereBoth_16 ⟨Nat.zero_le _, Nat.zero_le _⟩) (fun r_2 hr_2 => ?_)
    rw [show r_2 = iN (if (rw8 mbe j 0 * d ≤ n ∧ (ga j = -1 ∨ n < ga j * d)) then 1 else 0) from hr_2]
    refine n_ifb_eq (tgt := 26) hx hb dX9_isThereBoth_19 (by decide) (fun c_19 => ?_) (fun c_19 => ?_)
    · refine n_iconst hx hb dX9_isThereBoth_26 ?_
      exact r_z0 hx hb hr dX9_isThereBoth_27 hlocks (show iN 0 = iN (if (rw8 mbe i 0 * d ≤ n ∧ (ga i = -1 ∨ n < ga i * d)) ∧ (rw8 mbe j 0 * d ≤ n ∧ (ga j = -1 ∨ n < ga j * d)) then 1 else 0) by rw [if_neg (fun z => c_19 z.2)])
    · refine n_iconst hx hb dX9_isThereBoth_22 ?_
      refine lv_goto (tgt := 27) hx hb dX9_isThereBoth_23 (by decide) ?_
      exact r_z1 hx hb hr dX9_isThereBoth_27 hlocks (show iN 1 = iN (if (rw8 mbe i 0 * d ≤ n ∧ (ga i = -1 ∨ n < ga i * d)) ∧ (rw8 mbe j 0 * d ≤ n ∧ (ga j = -1 ∨ n < ga j * d)) then 1 else 0) by rw [if_pos ⟨c_8, c_19⟩])

set_option maxHeartbeats 4000000 in
set_option maxRecDepth 100000 in
theorem c_X9_addMeeting (l : Launch) (G : GE) (w : WF) (now : Nat) (came : Nat) (rm : Nat) (mt : Nat) (tm : Nat) (thg : Int) (onn : Int) (two : Int) (lw : Int) (hg : Int) (sq : Nat) (mN : Nat → Int) (mD : Nat → Int) (mI : Nat → Int) (mJ : Nat → Int) (iP : Nat → Bool) (n : Int) (d : Int) (i : Nat) (j : Nat) (b : Bool) (e0 : w 59 = .inr (8, [.int (iN ((now : Nat) : Int)), .int (iN ((came : Nat) : Int)), .ref (gad G 60), .ref (gad G 61), .ref (gad G 62), .ref (gad G 63), .ref (gad G 64), .ref (gad G 65), .int (iN ((rm : Nat) : Int)), .int (iN ((mt : Nat) : Int)), .ref (gad G 66), .ref (gad G 67), .ref (gad G 68), .ref (gad G 69), .ref (gad G 70), .int (iN ((tm : Nat) : Int)), .ref (gad G 71), .ref (gad G 72), .int (iN thg), .int (iN onn), .int (iN two), .long (jN lw), .long (jN hg), .int (iN ((sq : Nat) : Int)), .ref (gad G 73), .ref (gad G 74)])) (e1 : w 66 = .inl (gJ G, 800, .inr (.inl (aJ mN)))) (e2 : w 67 = .inl (gJ G, 800, .inr (.inl (aJ mD)))) (e3 : w 68 = .inl (gI G, 800, .inl (aN mI))) (e4 : w 69 = .inl (gI G, 800, .inl (aN mJ))) (e5 : w 70 = .inl (gZ G, 800, .inl (aN (zI iP)))) (p0 : mt < 800) (p1 : ∀ k : Nat, k < mt → (0 ≤ mN k ∧ mN k ≤ 1000000) ∧ (1 ≤ mD k ∧ mD k ≤ 100)) (p2 : 0 ≤ n ∧ n ≤ 1000000) (p3 : 1 ≤ d ∧ d ≤ 100) : Met l yX9_addMeeting wsX9_addMeeting ({ frames := 0, cells := 0, slots := 0, locals := 0 }) (PcG G w [.ref (gad G 59), .long (jN n), .long (jN d), .int (iN ((i : Nat) : Int)), .int (iN ((j : Nat) : Int)), .int (iN (if b = true then 1 else 0))]) (QV G (fun w1 => (∀ k : Nat, k ≠ 59 → k ≠ 66 → k ≠ 67 → k ≠ 68 → k ≠ 69 → k ≠ 70 → w1 k = w k) ∧ w1 59 = .inr (8, [.int (iN ((now : Nat) : Int)), .int (iN ((came : Nat) : Int)), .ref (gad G 60), .ref (gad G 61), .ref (gad G 62), .ref (gad G 63), .ref (gad G 64), .ref (gad G 65), .int (iN ((rm : Nat) : Int)), .int (iN ((mt + 1 : Nat) : Int)), .ref (gad G 66), .ref (gad G 67), .ref (gad G 68), .ref (gad G 69), .ref (gad G 70), .int (iN ((tm : Nat) : Int)), .ref (gad G 71), .ref (gad G 72), .int (iN thg), .int (iN onn), .int (iN two), .long (jN lw), .long (jN hg), .int (iN ((sq : Nat) : Int)), .ref (gad G 73), .ref (gad G 74)]) ∧ w1 66 = .inl (gJ G, 800, .inr (.inl (aJ (insF mN (spotP (fun k => decide (n * mD k < mN k * d)) mt) mt n)))) ∧ w1 67 = .inl (gJ G, 800, .inr (.inl (aJ (insF mD (spotP (fun k => decide (n * mD k < mN k * d)) mt) mt d)))) ∧ w1 68 = .inl (gI G, 800, .inl (aN (insF mI (spotP (fun k => decide (n * mD k < mN k * d)) mt) mt ((i : Nat) : Int)))) ∧ w1 69 = .inl (gI G, 800, .inl (aN (insF mJ (spotP (fun k => decide (n * mD k < mN k * d)) mt) mt ((j : Nat) : Int)))) ∧ w1 70 = .inl (gZ G, 800, .inl (aN (zI (insF iP (spotP (fun k => decide (n * mD k < mN k * d)) mt) mt b)))))) 0 0 (AA G) := by
  refine Met.ofW (cc := cX9_addMeeting) (maxL := 9) (ret := none) (by decide) rfl ?_
  intro p e s m args below meth c s₁ B hml hv
  obtain ⟨rfl, hP, hK⟩ := hv
  have hx := B.exec
  have hb := B.bytes
  have hr := B.returns
  have hts := atoms_spec (ws := wsX9_addMeeting) B.pre
  have hown : s.vm.findClass RX9 = some m.cls := findClass_of_methodNamed B.named
  have hlocks := B.notSynchronized
  have hS : va_S (AA G) s.heap s.heap [] := va_S.rf
  have hAA : ∀ q, AA G q → AA G q := fun _ h => h
  have hl := lv_entry ([.ref (gad G 59), .long (jN n), .long (jN d), .int (iN ((i : Nat) : Int)), .int (iN ((j : Nat) : Int)), .int (iN (if b = true then 1 else 0))]) (n := 9) (Nat.le_of_ble_eq_true rfl)
  rw [lg_entry_eq]
  generalize (lg_sl ([.ref (gad G 59), .long (jN n), .long (jN d), .int (iN ((i : Nat) : Int)), .int (iN ((j : Nat) : Int)), .int (iN (if b = true then 1 else 0))]) ++ List.replicate (9 - (lg_sl ([.ref (gad G 59), .long (jN n), .long (jN d), .int (iN ((i : Nat) : Int)), .int (iN ((j : Nat) : Int)), .int (iN (if b = true then 1 else 0))])).length) Slot.unset).toArray = ls at hl ⊢
  have hl : lv_has ls 9 [(0, .ref (gad G 59)), (1, .long (jN n)), (3, .long (jN d)), (5, .int (iN ((i : Nat) : Int))), (6, .int (iN ((j : Nat) : Int))), (7, .int (iN (if b = true then 1 else 0)))] := hl
  refine lv_aload_n hx hb dX9_addMeeting_0 rfl (lv_at hl 0 rfl) ?_
  refine f_get (C := RX9) (T := TX9) (N := 26) hx hb hts (by decide +kernel) hown hK hP 59 (by omega) e0 rfl 9 (by decide) (hts (.fieldLink RX9 97 "KeptMovingModel" "meetings" "I") (by decide +kernel)) (fun _ h9 => h9) rfl dX9_addMeeting_1 ?_
  refine lv_istore (lv' := [(8, .int (iN ((mt : Nat) : Int))), (0, .ref (gad G 59)), (1, .long (jN n)), (3, .long (jN d)), (5, .int (iN ((i : Nat) : Int))), (6, .int (iN ((j : Nat) : Int))), (7, .int (iN (if b = true then 1 else 0)))]) hx hb dX9_addMeeting_4 hl (by decide) rfl (fun ls hl => ?_)
  have K6 : ∀ (N : Nat) (q : Nat) (w2 : WF) (H : Heap) (locs : List Loc) (ls : Array Slot), (q ≤ mt) → (spotP (fun k => decide (n * mD k < mN k * d)) q = spotP (fun k => decide (n * mD k < mN k * d)) mt) → q < N → w2 66 = .inl (gJ G, 800, .inr (.inl (aJ (shF mN q mt)))) → w2 67 = .inl (gJ G, 800, .inr (.inl (aJ (shF mD q mt)))) → w2 68 = .inl (gI G, 800, .inl (aN (shF mI q mt))) → w2 69 = .inl (gI G, 800, .inl (aN (shF mJ q mt))) → w2 70 = .inl (gZ G, 800, .inl (aN (zI (shF iP q mt)))) → (∀ k : Nat, k ≠ 66 → k ≠ 67 → k ≠ 68 → k ≠ 69 → k ≠ 70 → w2 k = w k) → PW G w2 H → va_S (AA G) s.heap H locs → lv_has ls 9 [(0, .ref (gad G 59)), (1, .long (jN n)), (3, .long (jN d)), (5, .int (iN ((i : Nat) : Int))), (6, .int (iN ((j : Nat) : Int))), (7, .int (iN (if b = true then 1 else 0))), (8, .int (iN ((q : Nat) : Int)))] → W p l e (headSpec wsX9_addMeeting ({ frames := 0, cells := 0, slots := 0, locals := 0 })).room s m (([.ref (gad G 59), .long (jN n), .long (jN d), .int (iN ((i : Nat) : Int)), .int (iN ((j : Nat) : Int)), .int (iN (if b = true then 1 else 0))] : List Value).toArray) below meth c H locs 0 0 (MQ below (QV G (fun w1 => (∀ k : Nat, k ≠ 59 → k ≠ 66 → k ≠ 67 → k ≠ 68 → k ≠ 69 → k ≠ 70 → w1 k = w k) ∧ w1 59 = .inr (8, [.int (iN ((now : Nat) : Int)), .int (iN ((came : Nat) : Int)), .ref (gad G 60), .ref (gad G 61), .ref (gad G 62), .ref (gad G 63), .ref (gad G 64), .ref (gad G 65), .int (iN ((rm : Nat) : Int)), .int (iN ((mt + 1 : Nat) : Int)), .ref (gad G 66), .ref (gad G 67), .ref (gad G 68), .ref (gad G 69), .ref (gad G 70), .int (iN ((tm : Nat) : Int)), .ref (gad G 71), .ref (gad G 72), .int (iN thg), .int (iN onn), .int (iN two), .long (jN lw), .long (jN hg), .int (iN ((sq : Nat) : Int)), .ref (gad G 73), .ref (gad G 74)]) ∧ w1 66 = .inl (gJ G, 800, .inr (.inl (aJ (insF mN (spotP (fun k => decide (n * mD k < mN k * d)) mt) mt n)))) ∧ w1 67 = .inl (gJ G, 800, .inr (.inl (aJ (insF mD (spotP (fun k => decide (n * mD k < mN k * d)) mt) mt d)))) ∧ w1 68 = .inl (gI G, 800, .inl (aN (insF mI (spotP (fun k => decide (n * mD k < mN k * d)) mt) mt ((i : Nat) : Int)))) ∧ w1 69 = .inl (gI G, 800, .inl (aN (insF mJ (spotP (fun k => decide (n * mD k < mN k * d)) mt) mt ((j : Nat) : Int)))) ∧ w1 70 = .inl (gZ G, 800, .inl (aN (zI (insF iP (spotP (fun k => decide (n * mD k < mN k * d)) mt) mt b)))))) (([.ref (gad G 59), .long (jN n), .long (jN d), .int (iN ((i : Nat) : Int)), .int (iN ((j : Nat) : Int)), .int (iN (if b = true then 1 else 0))] : List Value).toArray) s 0 0 (AA G)) (F0 m 6 ls []) := by
    intro N
    induction N with
    | zero =>
      intros
      exfalso
      omega
    | succ N ih6 =>
      intro q w2 H locs ls i6_0 i6_1 hN6 f6_0 f6_1 f6_2 f6_3 f6_4 hfr6 hP hS hl
      have e_1 : w2 59 = .inr (8, [.int (iN ((now : Nat) : Int)), .int (iN ((came : Nat) : Int)), .ref (gad G 60), .ref (gad G 61), .ref (gad G 62), .ref (gad G 63), .ref (gad G 64), .ref (gad G 65), .int (iN ((rm : Nat) : Int)), .int (iN ((mt : Nat) : Int)), .ref (gad G 66), .ref (gad G 67), .ref (gad G 68), .ref (gad G 69), .ref (gad G 70), .int (iN ((tm : Nat) : Int)), .ref (gad G 71), .ref (gad G 72), .int (iN thg), .int (iN onn), .int (iN two), .long (jN lw), .long (jN hg), .int (iN ((sq : Nat) : Int)), .ref (gad G 73), .ref (gad G 74)]) := by rw [hfr6 59 (by omega) (by omega) (by omega) (by omega) (by omega)]; exact e0
      refine lv_iload hx hb dX9_addMeeting_6 (lv_at hl 6 rfl) ?_
      refine n_if_le (tgt := 123) hx hb dX9_addMeeting_8 (by decide) (by omega) (by omega) (fun c_8 => ?_) (fun c_8 => ?_)
      · have hj : spotP (fun k => decide (n * mD k < mN k * d)) mt = q := by rw [← i6_1]; exact spot_end (Or.inl (by omega))
        refine lv_aload_n hx hb dX9_addMeeting_123 rfl (lv_at hl 0 rfl) ?_
        refine f_get (C := RX9) (T := TX9) (N := 26) hx hb hts (by decide +kernel) hown hK hP 59 (by omega) e_1 rfl 10 (by decide) (hts (.fieldLink RX9 28 "KeptMovingModel" "meetN" "[J") (by decide +kernel)) (fun _ h9 => h9) rfl dX9_addMeeting_124 ?_
        refine lv_iload hx hb dX9_addMeeting_127 (lv_at hl 6 rfl) ?_
        refine lv_lload_n hx hb dX9_addMeeting_129 rfl (lv_at hl 1 rfl) ?_
        refine n_last hx hb hK hP hS hAA 66 (by omega) f6_0 (fun _ => rfl) q rfl (by omega) (by decide) dX9_addMeeting_130 (fun H locs hP hS => ?_)
        obtain ⟨w_2, hw_3⟩ : ∃ z : WF, z = va_up w2 66 (.inl (gJ G, 800, .inr (.inl (aJ (va_up (shF mN q mt) q n))))) := ⟨_, rfl⟩
        rw [← hw_3] at hP
        have fr_4 : ∀ k : Nat, k ≠ 66 → w_2 k = w2 k := fun k h => by rw [hw_3]; exact va_up_ne _ _ h
        have e_5 : w_2 66 = .inl (gJ G, 800, .inr (.inl (aJ (va_up (shF mN q mt) q n)))) := by rw [hw_3]; exact va_up_self _ _ _
        have e_6 : w_2 67 = .inl (gJ G, 800, .inr (.inl (aJ (shF mD q mt)))) := (fr_4 67 (by omega)).trans f6_1
        have e_7 : w_2 68 = .inl (gI G, 800, .inl (aN (shF mI q mt))) := (fr_4 68 (by omega)).trans f6_2
        have e_8 : w_2 69 = .inl (gI G, 800, .inl (aN (shF mJ q mt))) := (fr_4 69 (by omega)).trans f6_3
        have e_9 : w_2 70 = .inl (gZ G, 800, .inl (aN (zI (shF iP q mt)))) := (fr_4 70 (by omega)).trans f6_4
        have e_10 : w_2 59 = .inr (8, [.int (iN ((now : Nat) : Int)), .int (iN ((came : Nat) : Int)), .ref (gad G 60), .ref (gad G 61), .ref (gad G 62), .ref (gad G 63), .ref (gad G 64), .ref (gad G 65), .int (iN ((rm : Nat) : Int)), .int (iN ((mt : Nat) : Int)), .ref (gad G 66), .ref (gad G 67), .ref (gad G 68), .ref (gad G 69), .ref (gad G 70), .int (iN ((tm : Nat) : Int)), .ref (gad G 71), .ref (gad G 72), .int (iN thg), .int (iN onn), .int (iN two), .long (jN lw), .long (jN hg), .int (iN ((sq : Nat) : Int)), .ref (gad G 73), .ref (gad G 74)]) := (fr_4 59 (by omega)).trans e_1
        refine lv_aload_n hx hb dX9_addMeeting_131 rfl (lv_at hl 0 rfl) ?_
        refine f_get (C := RX9) (T := TX9) (N := 26) hx hb hts (by decide +kernel) hown hK hP 59 (by omega) e_10 rfl 11 (by decide) (hts (.fieldLink RX9 32 "KeptMovingModel" "meetD" "[J") (by decide +kernel)) (fun _ h9 => h9) rfl dX9_addMeeting_132 ?_
        refine lv_iload hx hb dX9_addMeeting_135 (lv_at hl 6 rfl) ?_
        refine lv_lload_n hx hb dX9_addMeeting_137 rfl (lv_at hl 2 rfl) ?_
        refine n_last hx hb hK hP hS hAA 67 (by omega) e_6 (fun _ => rfl) q rfl (by omega) (by decide) dX9_addMeeting_138 (fun H locs hP hS => ?_)
        obtain ⟨w_11, hw_12⟩ : ∃ z : WF, z = va_up w_2 67 (.inl (gJ G, 800, .inr (.inl (aJ (va_up (shF mD q mt) q d))))) := ⟨_, rfl⟩
        rw [← hw_12] at hP
        have fr_13 : ∀ k : Nat, k ≠ 67 → w_11 k = w_2 k := fun k h => by rw [hw_12]; exact va_up_ne _ _ h
        have e_14 : w_11 66 = .inl (gJ G, 800, .inr (.inl (aJ (va_up (shF mN q mt) q n)))) := (fr_13 66 (by omega)).trans e_5
        have e_15 : w_11 67 = .inl (gJ G, 800, .inr (.inl (aJ (va_up (shF mD q mt) q d)))) := by rw [hw_12]; exact va_up_self _ _ _
        have e_16 : w_11 68 = .inl (gI G, 800, .inl (aN (shF mI q mt))) := (fr_13 68 (by omega)).trans e_7
        have e_17 : w_11 69 = .inl (gI G, 800, .inl (aN (shF mJ q mt))) := (fr_13 69 (by omega)).trans e_8
        have e_18 : w_11 70 = .inl (gZ G, 800, .inl (aN (zI (shF iP q mt)))) := (fr_13 70 (by omega)).trans e_9
        have e_19 : w_11 59 = .inr (8, [.int (iN ((now : Nat) : Int)), .int (iN ((came : Nat) : Int)), .ref (gad G 60), .ref (gad G 61), .ref (gad G 62), .ref (gad G 63), .ref (gad G 64), .ref (gad G 65), .int (iN ((rm : Nat) : Int)), .int (iN ((mt : Nat) : Int)), .ref (gad G 66), .ref (gad G 67), .ref (gad G 68), .ref (gad G 69), .ref (gad G 70), .int (iN ((tm : Nat) : Int)), .ref (gad G 71), .ref (gad G 72), .int (iN thg), .int (iN onn), .int (iN two), .long (jN lw), .long (jN hg), .int (iN ((sq : Nat) : Int)), .ref (gad G 73), .ref (gad G 74)]) := (fr_13 59 (by omega)).trans e_10
        refine lv_aload_n hx hb dX9_addMeeting_139 rfl (lv_at hl 0 rfl) ?_
        refine f_get (C := RX9) (T := TX9) (N := 26) hx hb hts (by decide +kernel) hown hK hP 59 (by omega) e_19 rfl 12 (by decide) (hts (.fieldLink RX9 35 "KeptMovingModel" "meetI" "[I") (by decide +kernel)) (fun _ h9 => h9) rfl dX9_addMeeting_140 ?_
        refine lv_iload hx hb dX9_addMeeting_143 (lv_at hl 6 rfl) ?_
        refine lv_iload hx hb dX9_addMeeting_145 (lv_at hl 3 rfl) ?_
        refine n_iast hx hb hK hP hS hAA 68 (by omega) e_16 (fun _ => rfl) q rfl (by omega) (by decide) dX9_addMeeting_147 (fun H locs hP hS => ?_)
        obtain ⟨w_20, hw_21⟩ : ∃ z : WF, z = va_up w_11 68 (.inl (gI G, 800, .inl (aN (va_up (shF mI q mt) q ((i : Nat) : Int))))) := ⟨_, rfl⟩
        rw [← hw_21] at hP
        have fr_22 : ∀ k : Nat, k ≠ 68 → w_20 k = w_11 k := fun k h => by rw [hw_21]; exact va_up_ne _ _ h
        have e_23 : w_20 66 = .inl (gJ G, 800, .inr (.inl (aJ (va_up (shF mN q mt) q n)))) := (fr_22 66 (by omega)).trans e_14
        have e_24 : w_20 67 = .inl (gJ G, 800, .inr (.inl (aJ (va_up (shF mD q mt) q d)))) := (fr_22 67 (by omega)).trans e_15
        have e_25 : w_20 68 = .inl (gI G, 800, .inl (aN (va_up (shF mI q mt) q ((i : Nat) : Int)))) := by rw [hw_21]; exact va_up_self _ _ _
        have e_26 : w_20 69 = .inl (gI G, 800, .inl (aN (shF mJ q mt))) := (fr_22 69 (by omega)).trans e_17
        have e_27 : w_20 70 = .inl (gZ G, 800, .inl (aN (zI (shF iP q mt)))) := (fr_22 70 (by omega)).trans e_18
        have e_28 : w_20 59 = .inr (8, [.int (iN ((now : Nat) : Int)), .int (iN ((came : Nat) : Int)), .ref (gad G 60), .ref (gad G 61), .ref (gad G 62), .ref (gad G 63), .ref (gad G 64), .ref (gad G 65), .int (iN ((rm : Nat) : Int)), .int (iN ((mt : Nat) : Int)), .ref (gad G 66), .ref (gad G 67), .ref (gad G 68), .ref (gad G 69), .ref (gad G 70), .int (iN ((tm : Nat) : Int)), .ref (gad G 71), .ref (gad G 72), .int (iN thg), .int (iN onn), .int (iN two), .long (jN lw), .long (jN hg), .int (iN ((sq : Nat) : Int)), .ref (gad G 73), .ref (gad G 74)]) := (fr_22 59 (by omega)).trans e_19
        refine lv_aload_n hx hb dX9_addMeeting_148 rfl (lv_at hl 0 rfl) ?_
        refine f_get (C := RX9) (T := TX9) (N := 26) hx hb hts (by decide +kernel) hown hK hP 59 (by omega) e_28 rfl 13 (by decide) (hts (.fieldLink RX9 38 "KeptMovingModel" "meetJ" "[I") (by decide +kernel)) (fun _ h9 => h9) rfl dX9_addMeeting_149 ?_
        refine lv_iload hx hb dX9_addMeeting_152 (lv_at hl 6 rfl) ?_
        refine lv_iload hx hb dX9_addMeeting_154 (lv_at hl 4 rfl) ?_
        refine n_iast hx hb hK hP hS hAA 69 (by omega) e_26 (fun _ => rfl) q rfl (by omega) (by decide) dX9_addMeeting_156 (fun H locs hP hS => ?_)
        obtain ⟨w_29, hw_30⟩ : ∃ z : WF, z = va_up w_20 69 (.inl (gI G, 800, .inl (aN (va_up (shF mJ q mt) q ((j : Nat) : Int))))) := ⟨_, rfl⟩
        rw [← hw_30] at hP
        have fr_31 : ∀ k : Nat, k ≠ 69 → w_29 k = w_20 k := fun k h => by rw [hw_30]; exact va_up_ne _ _ h
        have e_32 : w_29 66 = .inl (gJ G, 800, .inr (.inl (aJ (va_up (shF mN q mt) q n)))) := (fr_31 66 (by omega)).trans e_23
        have e_33 : w_29 67 = .inl (gJ G, 800, .inr (.inl (aJ (va_up (shF mD q mt) q d)))) := (fr_31 67 (by omega)).trans e_24
        have e_34 : w_29 68 = .inl (gI G, 800, .inl (aN (va_up (shF mI q mt) q ((i : Nat) : Int)))) := (fr_31 68 (by omega)).trans e_25
        have e_35 : w_29 69 = .inl (gI G, 800, .inl (aN (va_up (shF mJ q mt) q ((j : Nat) : Int)))) := by rw [hw_30]; exact va_up_self _ _ _
        have e_36 : w_29 70 = .inl (gZ G, 800, .inl (aN (zI (shF iP q mt)))) := (fr_31 70 (by omega)).trans e_27
        have e_37 : w_29 59 = .inr (8, [.int (iN ((now : Nat) : Int)), .int (iN ((came : Nat) : Int)), .ref (gad G 60), .ref (gad G 61), .ref (gad G 62), .ref (gad G 63), .ref (gad G 64), .ref (gad G 65), .int (iN ((rm : Nat) : Int)), .int (iN ((mt : Nat) : Int)), .ref (gad G 66), .ref (gad G 67), .ref (gad G 68), .ref (gad G 69), .ref (gad G 70), .int (iN ((tm : Nat) : Int)), .ref (gad G 71), .ref (gad G 72), .int (iN thg), .int (iN onn), .int (iN two), .long (jN lw), .long (jN hg), .int (iN ((sq : Nat) : Int)), .ref (gad G 73), .ref (gad G 74)]) := (fr_31 59 (by omega)).trans e_28
        refine lv_aload_n hx hb dX9_addMeeting_157 rfl (lv_at hl 0 rfl) ?_
        refine f_get (C := RX9) (T := TX9) (N := 26) hx hb hts (by decide +kernel) hown hK hP 59 (by omega) e_37 rfl 14 (by decide) (hts (.fieldLink RX9 41 "KeptMovingModel" "isPass" "[Z") (by decide +kernel)) (fun _ h9 => h9) rfl dX9_addMeeting_158 ?_
        refine lv_iload hx hb dX9_addMeeting_161 (lv_at hl 6 rfl) ?_
        refine lv_iload hx hb dX9_addMeeting_163 (lv_at hl 5 rfl) ?_
        refine n_zast hx hb hK hP hS hAA 70 (by omega) e_36 (fun _ => rfl) q rfl (by omega) (by decide) dX9_addMeeting_165 (fun H locs hP hS => ?_)
        obtain ⟨w_38, hw_39⟩ : ∃ z : WF, z = va_up w_29 70 (.inl (gZ G, 800, .inl (aN (va_up (zI (shF iP q mt)) q (if b = true then 1 else 0))))) := ⟨_, rfl⟩
        rw [← hw_39] at hP
        have fr_40 : ∀ k : Nat, k ≠ 70 → w_38 k = w_29 k := fun k h => by rw [hw_39]; exact va_up_ne _ _ h
        have e_41 : w_38 66 = .inl (gJ G, 800, .inr (.inl (aJ (va_up (shF mN q mt) q n)))) := (fr_40 66 (by omega)).trans e_32
        have e_42 : w_38 67 = .inl (gJ G, 800, .inr (.inl (aJ (va_up (shF mD q mt) q d)))) := (fr_40 67 (by omega)).trans e_33
        have e_43 : w_38 68 = .inl (gI G, 800, .inl (aN (va_up (shF mI q mt) q ((i : Nat) : Int)))) := (fr_40 68 (by omega)).trans e_34
        have e_44 : w_38 69 = .inl (gI G, 800, .inl (aN (va_up (shF mJ q mt) q ((j : Nat) : Int)))) := (fr_40 69 (by omega)).trans e_35
        have e_45 : w_38 70 = .inl (gZ G, 800, .inl (aN (zI (va_up (shF iP q mt) q b)))) := by rw [hw_39, va_up_self]; exact congrArg (fun z => (.inl (gZ G, 800, .inl (aN z)) : va_E)) (zI_up _ _ _)
        have e_46 : w_38 59 = .inr (8, [.int (iN ((now : Nat) : Int)), .int (iN ((came : Nat) : Int)), .ref (gad G 60), .ref (gad G 61), .ref (gad G 62), .ref (gad G 63), .ref (gad G 64), .ref (gad G 65), .int (iN ((rm : Nat) : Int)), .int (iN ((mt : Nat) : Int)), .ref (gad G 66), .ref (gad G 67), .ref (gad G 68), .ref (gad G 69), .ref (gad G 70), .int (iN ((tm : Nat) : Int)), .ref (gad G 71), .ref (gad G 72), .int (iN thg), .int (iN onn), .int (iN two), .long (jN lw), .long (jN hg), .int (iN ((sq : Nat) : Int)), .ref (gad G 73), .ref (gad G 74)]) := (fr_40 59 (by omega)).trans e_37
        refine lv_aload_n hx hb dX9_addMeeting_166 rfl (lv_at hl 0 rfl) ?_
        refine lv_dup hx hb dX9_addMeeting_167 rfl ?_
        refine f_get (C := RX9) (T := TX9) (N := 26) hx hb hts (by decide +kernel) hown hK hP 59 (by omega) e_46 rfl 9 (by decide) (hts (.fieldLink RX9 97 "KeptMovingModel" "meetings" "I") (by decide +kernel)) (fun _ h9 => h9) rfl dX9_addMeeting_168 ?_
        refine n_iconst hx hb dX9_addMeeting_171 ?_
        refine n_iadd hx hb dX9_addMeeting_172 ?_
        refine n_top (A := ((mt : Nat) : Int) + 1) (B := ((mt + 1 : Nat) : Int)) (by omega) ?_
        refine f_put (v := .int (iN ((mt + 1 : Nat) : Int))) (ty := .int) (C := RX9) (T := TX9) (N := 26) hx hb hts (by decide +kernel) tyX9 tyX9_ok nmX9 hown hK hP hS hAA 59 (by omega) e_46 rfl 9 (by decide) (hts (.fieldLink RX9 97 "KeptMovingModel" "meetings" "I") (by decide +kernel)) (fun _ h9 => h9) rfl (by decide +kernel) (rfl) (rfl) (Nat.le_of_ble_eq_true rfl) (rfl) dX9_addMeeting_173 (fun H locs hP hS => ?_)
        have hP : PW G (va_up w_38 59 (.inr (8, [.int (iN ((now : Nat) : Int)), .int (iN ((came : Nat) : Int)), .ref (gad G 60), .ref (gad G 61), .ref (gad G 62), .ref (gad G 63), .ref (gad G 64), .ref (gad G 65), .int (iN ((rm : Nat) : Int)), .int (iN ((mt + 1 : Nat) : Int)), .ref (gad G 66), .ref (gad G 67), .ref (gad G 68), .ref (gad G 69), .ref (gad G 70), .int (iN ((tm : Nat) : Int)), .ref (gad G 71), .ref (gad G 72), .int (iN thg), .int (iN onn), .int (iN two), .long (jN lw), .long (jN hg), .int (iN ((sq : Nat) : Int)), .ref (gad G 73), .ref (gad G 74)]))) H := hP
        obtain ⟨w_47, hw_48⟩ : ∃ z : WF, z = va_up w_38 59 (.inr (8, [.int (iN ((now : Nat) : Int)), .int (iN ((came : Nat) : Int)), .ref (gad G 60), .ref (gad G 61), .ref (gad G 62), .ref (gad G 63), .ref (gad G 64), .ref (gad G 65), .int (iN ((rm : Nat) : Int)), .int (iN ((mt + 1 : Nat) : Int)), .ref (gad G 66), .ref (gad G 67), .ref (gad G 68), .ref (gad G 69), .ref (gad G 70), .int (iN ((tm : Nat) : Int)), .ref (gad G 71), .ref (gad G 72), .int (iN thg), .int (iN onn), .int (iN two), .long (jN lw), .long (jN hg), .int (iN ((sq : Nat) : Int)), .ref (gad G 73), .ref (gad G 74)])) := ⟨_, rfl⟩
        rw [← hw_48] at hP
        have fr_49 : ∀ k : Nat, k ≠ 59 → w_47 k = w_38 k := fun k h => by rw [hw_48]; exact va_up_ne _ _ h
        have e_50 : w_47 66 = .inl (gJ G, 800, .inr (.inl (aJ (va_up (shF mN q mt) q n)))) := (fr_49 66 (by omega)).trans e_41
        have e_51 : w_47 67 = .inl (gJ G, 800, .inr (.inl (aJ (va_up (shF mD q mt) q d)))) := (fr_49 67 (by omega)).trans e_42
        have e_52 : w_47 68 = .inl (gI G, 800, .inl (aN (va_up (shF mI q mt) q ((i : Nat) : Int)))) := (fr_49 68 (by omega)).trans e_43
        have e_53 : w_47 69 = .inl (gI G, 800, .inl (aN (va_up (shF mJ q mt) q ((j : Nat) : Int)))) := (fr_49 69 (by omega)).trans e_44
        have e_54 : w_47 70 = .inl (gZ G, 800, .inl (aN (zI (va_up (shF iP q mt) q b)))) := (fr_49 70 (by omega)).trans e_45
        have e_55 : w_47 59 = .inr (8, [.int (iN ((now : Nat) : Int)), .int (iN ((came : Nat) : Int)), .ref (gad G 60), .ref (gad G 61), .ref (gad G 62), .ref (gad G 63), .ref (gad G 64), .ref (gad G 65), .int (iN ((rm : Nat) : Int)), .int (iN ((mt + 1 : Nat) : Int)), .ref (gad G 66), .ref (gad G 67), .ref (gad G 68), .ref (gad G 69), .ref (gad G 70), .int (iN ((tm : Nat) : Int)), .ref (gad G 71), .ref (gad G 72), .int (iN thg), .int (iN onn), .int (iN two), .long (jN lw), .long (jN hg), .int (iN ((sq : Nat) : Int)), .ref (gad G 73), .ref (gad G 74)]) := by rw [hw_48]; exact va_up_self _ _ _
        exact r_v hx hb hr dX9_addMeeting_176 hlocks hP hS (⟨(fun k h0 h1 h2 h3 h4 h5 => ((((((((((((fr_49 k (by omega)).trans (fr_40 k (by omega)))).trans (fr_31 k (by omega)))).trans (fr_22 k (by omega)))).trans (fr_13 k (by omega)))).trans (fr_4 k (by omega)))).trans (hfr6 k (by omega) (by omega) (by omega) (by omega) (by omega)))), e_55, (by rw [hj]; exact e_50.trans (by rw [shF_end (by omega)])), (by rw [hj]; exact e_51.trans (by rw [shF_end (by omega)])), (by rw [hj]; exact e_52.trans (by rw [shF_end (by omega)])), (by rw [hj]; exact e_53.trans (by rw [shF_end (by omega)])), (by rw [hj]; exact e_54.trans (by rw [shF_end (by omega)]))⟩)
      · have hs1 : shF mD q mt (q - 1) = mD (q - 1) := shF_lo (by omega)
        have hs2 : shF mN q mt (q - 1) = mN (q - 1) := shF_lo (by omega)
        have hbw := p1 (q - 1) (by omega)
        have hm1 := mb5 p2 hbw.2
        have hm2 := mb5 hbw.1 p3
        refine lv_lload_n hx hb dX9_addMeeting_11 rfl (lv_at hl 1 rfl) ?_
        refine lv_aload_n hx hb dX9_addMeeting_12 rfl (lv_at hl 0 rfl) ?_
        refine f_get (C := RX9) (T := TX9) (N := 26) hx hb hts (by decide +kernel) hown hK hP 59 (by omega) e_1 rfl 11 (by decide) (hts (.fieldLink RX9 32 "KeptMovingModel" "meetD" "[J") (by decide +kernel)) (fun _ h9 => h9) rfl dX9_addMeeting_13 ?_
        refine lv_iload hx hb dX9_addMeeting_16 (lv_at hl 6 rfl) ?_
        refine n_iconst hx hb dX9_addMeeting_18 ?_
        refine n_isub hx hb dX9_addMeeting_19 ?_
        refine n_top (A := ((q : Nat) : Int) - 1) (B := ((q - 1 : Nat) : Int)) (by omega) ?_
        refine n_lald hx hb hK hP 67 (by omega) f6_1 (q - 1) rfl (by omega) (by decide) dX9_addMeeting_20 ?_
        refine n_topL (A := (shF mD q mt) (q - 1)) (B := mD (q - 1)) (by exact hs1) ?_
        refine n_lmul hx hb dX9_addMeeting_21 ?_
        refine lv_aload_n hx hb dX9_addMeeting_22 rfl (lv_at hl 0 rfl) ?_
        refine f_get (C := RX9) (T := TX9) (N := 26) hx hb hts (by decide +kernel) hown hK hP 59 (by omega) e_1 rfl 10 (by decide) (hts (.fieldLink RX9 28 "KeptMovingModel" "meetN" "[J") (by decide +kernel)) (fun _ h9 => h9) rfl dX9_addMeeting_23 ?_
        refine lv_iload hx hb dX9_addMeeting_26 (lv_at hl 6 rfl) ?_
        refine n_iconst hx hb dX9_addMeeting_28 ?_
        refine n_isub hx hb dX9_addMeeting_29 ?_
        refine n_top (A := ((q : Nat) : Int) - 1) (B := ((q - 1 : Nat) : Int)) (by omega) ?_
        refine n_lald hx hb hK hP 66 (by omega) f6_0 (q - 1) rfl (by omega) (by decide) dX9_addMeeting_30 ?_
        refine n_topL (A := (shF mN q mt) (q - 1)) (B := mN (q - 1)) (by exact hs2) ?_
        refine lv_lload_n hx hb dX9_addMeeting_31 rfl (lv_at hl 2 rfl) ?_
        refine n_lmul hx hb dX9_addMeeting_32 ?_
        refine n_lcmp hx hb (by omega) (by omega) (by omega) (by omega) dX9_addMeeting_33 ?_
        refine n_ifc_ge (tgt := 123) hx hb dX9_addMeeting_34 (by decide) (fun c_34 => ?_) (fun c_34 => ?_)
        · have hj : spotP (fun k => decide (n * mD k < mN k * d)) mt = q := by rw [← i6_1]; exact spot_end (Or.inr (decide_eq_false (by omega)))
          refine lv_aload_n hx hb dX9_addMeeting_123 rfl (lv_at hl 0 rfl) ?_
          refine f_get (C := RX9) (T := TX9) (N := 26) hx hb hts (by decide +kernel) hown hK hP 59 (by omega) e_1 rfl 10 (by decide) (hts (.fieldLink RX9 28 "KeptMovingModel" "meetN" "[J") (by decide +kernel)) (fun _ h9 => h9) rfl dX9_addMeeting_124 ?_
          refine lv_iload hx hb dX9_addMeeting_127 (lv_at hl 6 rfl) ?_
          refine lv_lload_n hx hb dX9_addMeeting_129 rfl (lv_at hl 1 rfl) ?_
          refine n_last hx hb hK hP hS hAA 66 (by omega) f6_0 (fun _ => rfl) q rfl (by omega) (by decide) dX9_addMeeting_130 (fun H locs hP hS => ?_)
          obtain ⟨w_56, hw_57⟩ : ∃ z : WF, z = va_up w2 66 (.inl (gJ G, 800, .inr (.inl (aJ (va_up (shF mN q mt) q n))))) := ⟨_, rfl⟩
          rw [← hw_57] at hP
          have fr_58 : ∀ k : Nat, k ≠ 66 → w_56 k = w2 k := fun k h => by rw [hw_57]; exact va_up_ne _ _ h
          have e_59 : w_56 66 = .inl (gJ G, 800, .inr (.inl (aJ (va_up (shF mN q mt) q n)))) := by rw [hw_57]; exact va_up_self _ _ _
          have e_60 : w_56 67 = .inl (gJ G, 800, .inr (.inl (aJ (shF mD q mt)))) := (fr_58 67 (by omega)).trans f6_1
          have e_61 : w_56 68 = .inl (gI G, 800, .inl (aN (shF mI q mt))) := (fr_58 68 (by omega)).trans f6_2
          have e_62 : w_56 69 = .inl (gI G, 800, .inl (aN (shF mJ q mt))) := (fr_58 69 (by omega)).trans f6_3
          have e_63 : w_56 70 = .inl (gZ G, 800, .inl (aN (zI (shF iP q mt)))) := (fr_58 70 (by omega)).trans f6_4
          have e_64 : w_56 59 = .inr (8, [.int (iN ((now : Nat) : Int)), .int (iN ((came : Nat) : Int)), .ref (gad G 60), .ref (gad G 61), .ref (gad G 62), .ref (gad G 63), .ref (gad G 64), .ref (gad G 65), .int (iN ((rm : Nat) : Int)), .int (iN ((mt : Nat) : Int)), .ref (gad G 66), .ref (gad G 67), .ref (gad G 68), .ref (gad G 69), .ref (gad G 70), .int (iN ((tm : Nat) : Int)), .ref (gad G 71), .ref (gad G 72), .int (iN thg), .int (iN onn), .int (iN two), .long (jN lw), .long (jN hg), .int (iN ((sq : Nat) : Int)), .ref (gad G 73), .ref (gad G 74)]) := (fr_58 59 (by omega)).trans e_1
          refine lv_aload_n hx hb dX9_addMeeting_131 rfl (lv_at hl 0 rfl) ?_
          refine f_get (C := RX9) (T := TX9) (N := 26) hx hb hts (by decide +kernel) hown hK hP 59 (by omega) e_64 rfl 11 (by decide) (hts (.fieldLink RX9 32 "KeptMovingModel" "meetD" "[J") (by decide +kernel)) (fun _ h9 => h9) rfl dX9_addMeeting_132 ?_
          refine lv_iload hx hb dX9_addMeeting_135 (lv_at hl 6 rfl) ?_
          refine lv_lload_n hx hb dX9_addMeeting_137 rfl (lv_at hl 2 rfl) ?_
          refine n_last hx hb hK hP hS hAA 67 (by omega) e_60 (fun _ => rfl) q rfl (by omega) (by decide) dX9_addMeeting_138 (fun H locs hP hS => ?_)
          obtain ⟨w_65, hw_66⟩ : ∃ z : WF, z = va_up w_56 67 (.inl (gJ G, 800, .inr (.inl (aJ (va_up (shF mD q mt) q d))))) := ⟨_, rfl⟩
          rw [← hw_66] at hP
          have fr_67 : ∀ k : Nat, k ≠ 67 → w_65 k = w_56 k := fun k h => by rw [hw_66]; exact va_up_ne _ _ h
          have e_68 : w_65 66 = .inl (gJ G, 800, .inr (.inl (aJ (va_up (shF mN q mt) q n)))) := (fr_67 66 (by omega)).trans e_59
          have e_69 : w_65 67 = .inl (gJ G, 800, .inr (.inl (aJ (va_up (shF mD q mt) q d)))) := by rw [hw_66]; exact va_up_self _ _ _
          have e_70 : w_65 68 = .inl (gI G, 800, .inl (aN (shF mI q mt))) := (fr_67 68 (by omega)).trans e_61
          have e_71 : w_65 69 = .inl (gI G, 800, .inl (aN (shF mJ q mt))) := (fr_67 69 (by omega)).trans e_62
          have e_72 : w_65 70 = .inl (gZ G, 800, .inl (aN (zI (shF iP q mt)))) := (fr_67 70 (by omega)).trans e_63
          have e_73 : w_65 59 = .inr (8, [.int (iN ((now : Nat) : Int)), .int (iN ((came : Nat) : Int)), .ref (gad G 60), .ref (gad G 61), .ref (gad G 62), .ref (gad G 63), .ref (gad G 64), .ref (gad G 65), .int (iN ((rm : Nat) : Int)), .int (iN ((mt : Nat) : Int)), .ref (gad G 66), .ref (gad G 67), .ref (gad G 68), .ref (gad G 69), .ref (gad G 70), .int (iN ((tm : Nat) : Int)), .ref (gad G 71), .ref (gad G 72), .int (iN thg), .int (iN onn), .int (iN two), .long (jN lw), .long (jN hg), .int (iN ((sq : Nat) : Int)), .ref (gad G 73), .ref (gad G 74)]) := (fr_67 59 (by omega)).trans e_64
          refine lv_aload_n hx hb dX9_addMeeting_139 rfl (lv_at hl 0 rfl) ?_
          refine f_get (C := RX9) (T := TX9) (N := 26) hx hb hts (by decide +kernel) hown hK hP 59 (by omega) e_73 rfl 12 (by decide) (hts (.fieldLink RX9 35 "KeptMovingModel" "meetI" "[I") (by decide +kernel)) (fun _ h9 => h9) rfl dX9_addMeeting_140 ?_
          refine lv_iload hx hb dX9_addMeeting_143 (lv_at hl 6 rfl) ?_
          refine lv_iload hx hb dX9_addMeeting_145 (lv_at hl 3 rfl) ?_
          refine n_iast hx hb hK hP hS hAA 68 (by omega) e_70 (fun _ => rfl) q rfl (by omega) (by decide) dX9_addMeeting_147 (fun H locs hP hS => ?_)
          obtain ⟨w_74, hw_75⟩ : ∃ z : WF, z = va_up w_65 68 (.inl (gI G, 800, .inl (aN (va_up (shF mI q mt) q ((i : Nat) : Int))))) := ⟨_, rfl⟩
          rw [← hw_75] at hP
          have fr_76 : ∀ k : Nat, k ≠ 68 → w_74 k = w_65 k := fun k h => by rw [hw_75]; exact va_up_ne _ _ h
          have e_77 : w_74 66 = .inl (gJ G, 800, .inr (.inl (aJ (va_up (shF mN q mt) q n)))) := (fr_76 66 (by omega)).trans e_68
          have e_78 : w_74 67 = .inl (gJ G, 800, .inr (.inl (aJ (va_up (shF mD q mt) q d)))) := (fr_76 67 (by omega)).trans e_69
          have e_79 : w_74 68 = .inl (gI G, 800, .inl (aN (va_up (shF mI q mt) q ((i : Nat) : Int)))) := by rw [hw_75]; exact va_up_self _ _ _
          have e_80 : w_74 69 = .inl (gI G, 800, .inl (aN (shF mJ q mt))) := (fr_76 69 (by omega)).trans e_71
          have e_81 : w_74 70 = .inl (gZ G, 800, .inl (aN (zI (shF iP q mt)))) := (fr_76 70 (by omega)).trans e_72
          have e_82 : w_74 59 = .inr (8, [.int (iN ((now : Nat) : Int)), .int (iN ((came : Nat) : Int)), .ref (gad G 60), .ref (gad G 61), .ref (gad G 62), .ref (gad G 63), .ref (gad G 64), .ref (gad G 65), .int (iN ((rm : Nat) : Int)), .int (iN ((mt : Nat) : Int)), .ref (gad G 66), .ref (gad G 67), .ref (gad G 68), .ref (gad G 69), .ref (gad G 70), .int (iN ((tm : Nat) : Int)), .ref (gad G 71), .ref (gad G 72), .int (iN thg), .int (iN onn), .int (iN two), .long (jN lw), .long (jN hg), .int (iN ((sq : Nat) : Int)), .ref (gad G 73), .ref (gad G 74)]) := (fr_76 59 (by omega)).trans e_73
          refine lv_aload_n hx hb dX9_addMeeting_148 rfl (lv_at hl 0 rfl) ?_
          refine f_get (C := RX9) (T := TX9) (N := 26) hx hb hts (by decide +kernel) hown hK hP 59 (by omega) e_82 rfl 13 (by decide) (hts (.fieldLink RX9 38 "KeptMovingModel" "meetJ" "[I") (by decide +kernel)) (fun _ h9 => h9) rfl dX9_addMeeting_149 ?_
          refine lv_iload hx hb dX9_addMeeting_152 (lv_at hl 6 rfl) ?_
          refine lv_iload hx hb dX9_addMeeting_154 (lv_at hl 4 rfl) ?_
          refine n_iast hx hb hK hP hS hAA 69 (by omega) e_80 (fun _ => rfl) q rfl (by omega) (by decide) dX9_addMeeting_156 (fun H locs hP hS => ?_)
          obtain ⟨w_83, hw_84⟩ : ∃ z : WF, z = va_up w_74 69 (.inl (gI G, 800, .inl (aN (va_up (shF mJ q mt) q ((j : Nat) : Int))))) := ⟨_, rfl⟩
          rw [← hw_84] at hP
          have fr_85 : ∀ k : Nat, k ≠ 69 → w_83 k = w_74 k := fun k h => by rw [hw_84]; exact va_up_ne _ _ h
          have e_86 : w_83 66 = .inl (gJ G, 800, .inr (.inl (aJ (va_up (shF mN q mt) q n)))) := (fr_85 66 (by omega)).trans e_77
          have e_87 : w_83 67 = .inl (gJ G, 800, .inr (.inl (aJ (va_up (shF mD q mt) q d)))) := (fr_85 67 (by omega)).trans e_78
          have e_88 : w_83 68 = .inl (gI G, 800, .inl (aN (va_up (shF mI q mt) q ((i : Nat) : Int)))) := (fr_85 68 (by omega)).trans e_79
          have e_89 : w_83 69 = .inl (gI G, 800, .inl (aN (va_up (shF mJ q mt) q ((j : Nat) : Int)))) := by rw [hw_84]; exact va_up_self _ _ _
          have e_90 : w_83 70 = .inl (gZ G, 800, .inl (aN (zI (shF iP q mt)))) := (fr_85 70 (by omega)).trans e_81
          have e_91 : w_83 59 = .inr (8, [.int (iN ((now : Nat) : Int)), .int (iN ((came : Nat) : Int)), .ref (gad G 60), .ref (gad G 61), .ref (gad G 62), .ref (gad G 63), .ref (gad G 64), .ref (gad G 65), .int (iN ((rm : Nat) : Int)), .int (iN ((mt : Nat) : Int)), .ref (gad G 66), .ref (gad G 67), .ref (gad G 68), .ref (gad G 69), .ref (gad G 70), .int (iN ((tm : Nat) : Int)), .ref (gad G 71), .ref (gad G 72), .int (iN thg), .int (iN onn), .int (iN two), .long (jN lw), .long (jN hg), .int (iN ((sq : Nat) : Int)), .ref (gad G 73), .ref (gad G 74)]) := (fr_85 59 (by omega)).trans e_82
          refine lv_aload_n hx hb dX9_addMeeting_157 rfl (lv_at hl 0 rfl) ?_
          refine f_get (C := RX9) (T := TX9) (N := 26) hx hb hts (by decide +kernel) hown hK hP 59 (by omega) e_91 rfl 14 (by decide) (hts (.fieldLink RX9 41 "KeptMovingModel" "isPass" "[Z") (by decide +kernel)) (fun _ h9 => h9) rfl dX9_addMeeting_158 ?_
          refine lv_iload hx hb dX9_addMeeting_161 (lv_at hl 6 rfl) ?_
          refine lv_iload hx hb dX9_addMeeting_163 (lv_at hl 5 rfl) ?_
          refine n_zast hx hb hK hP hS hAA 70 (by omega) e_90 (fun _ => rfl) q rfl (by omega) (by decide) dX9_addMeeting_165 (fun H locs hP hS => ?_)
          obtain ⟨w_92, hw_93⟩ : ∃ z : WF, z = va_up w_83 70 (.inl (gZ G, 800, .inl (aN (va_up (zI (shF iP q mt)) q (if b = true then 1 else 0))))) := ⟨_, rfl⟩
          rw [← hw_93] at hP
          have fr_94 : ∀ k : Nat, k ≠ 70 → w_92 k = w_83 k := fun k h => by rw [hw_93]; exact va_up_ne _ _ h
          have e_95 : w_92 66 = .inl (gJ G, 800, .inr (.inl (aJ (va_up (shF mN q mt) q n)))) := (fr_94 66 (by omega)).trans e_86
          have e_96 : w_92 67 = .inl (gJ G, 800, .inr (.inl (aJ (va_up (shF mD q mt) q d)))) := (fr_94 67 (by omega)).trans e_87
          have e_97 : w_92 68 = .inl (gI G, 800, .inl (aN (va_up (shF mI q mt) q ((i : Nat) : Int)))) := (fr_94 68 (by omega)).trans e_88
          have e_98 : w_92 69 = .inl (gI G, 800, .inl (aN (va_up (shF mJ q mt) q ((j : Nat) : Int)))) := (fr_94 69 (by omega)).trans e_89
          have e_99 : w_92 70 = .inl (gZ G, 800, .inl (aN (zI (va_up (shF iP q mt) q b)))) := by rw [hw_93, va_up_self]; exact congrArg (fun z => (.inl (gZ G, 800, .inl (aN z)) : va_E)) (zI_up _ _ _)
          have e_100 : w_92 59 = .inr (8, [.int (iN ((now : Nat) : Int)), .int (iN ((came : Nat) : Int)), .ref (gad G 60), .ref (gad G 61), .ref (gad G 62), .ref (gad G 63), .ref (gad G 64), .ref (gad G 65), .int (iN ((rm : Nat) : Int)), .int (iN ((mt : Nat) : Int)), .ref (gad G 66), .ref (gad G 67), .ref (gad G 68), .ref (gad G 69), .ref (gad G 70), .int (iN ((tm : Nat) : Int)), .ref (gad G 71), .ref (gad G 72), .int (iN thg), .int (iN onn), .int (iN two), .long (jN lw), .long (jN hg), .int (iN ((sq : Nat) : Int)), .ref (gad G 73), .ref (gad G 74)]) := (fr_94 59 (by omega)).trans e_91
          refine lv_aload_n hx hb dX9_addMeeting_166 rfl (lv_at hl 0 rfl) ?_
          refine lv_dup hx hb dX9_addMeeting_167 rfl ?_
          refine f_get (C := RX9) (T := TX9) (N := 26) hx hb hts (by decide +kernel) hown hK hP 59 (by omega) e_100 rfl 9 (by decide) (hts (.fieldLink RX9 97 "KeptMovingModel" "meetings" "I") (by decide +kernel)) (fun _ h9 => h9) rfl dX9_addMeeting_168 ?_
          refine n_iconst hx hb dX9_addMeeting_171 ?_
          refine n_iadd hx hb dX9_addMeeting_172 ?_
          refine n_top (A := ((mt : Nat) : Int) + 1) (B := ((mt + 1 : Nat) : Int)) (by omega) ?_
          refine f_put (v := .int (iN ((mt + 1 : Nat) : Int))) (ty := .int) (C := RX9) (T := TX9) (N := 26) hx hb hts (by decide +kernel) tyX9 tyX9_ok nmX9 hown hK hP hS hAA 59 (by omega) e_100 rfl 9 (by decide) (hts (.fieldLink RX9 97 "KeptMovingModel" "meetings" "I") (by decide +kernel)) (fun _ h9 => h9) rfl (by decide +kernel) (rfl) (rfl) (Nat.le_of_ble_eq_true rfl) (rfl) dX9_addMeeting_173 (fun H locs hP hS => ?_)
          have hP : PW G (va_up w_92 59 (.inr (8, [.int (iN ((now : Nat) : Int)), .int (iN ((came : Nat) : Int)), .ref (gad G 60), .ref (gad G 61), .ref (gad G 62), .ref (gad G 63), .ref (gad G 64), .ref (gad G 65), .int (iN ((rm : Nat) : Int)), .int (iN ((mt + 1 : Nat) : Int)), .ref (gad G 66), .ref (gad G 67), .ref (gad G 68), .ref (gad G 69), .ref (gad G 70), .int (iN ((tm : Nat) : Int)), .ref (gad G 71), .ref (gad G 72), .int (iN thg), .int (iN onn), .int (iN two), .long (jN lw), .long (jN hg), .int (iN ((sq : Nat) : Int)), .ref (gad G 73), .ref (gad G 74)]))) H := hP
          obtain ⟨w_101, hw_102⟩ : ∃ z : WF, z = va_up w_92 59 (.inr (8, [.int (iN ((now : Nat) : Int)), .int (iN ((came : Nat) : Int)), .ref (gad G 60), .ref (gad G 61), .ref (gad G 62), .ref (gad G 63), .ref (gad G 64), .ref (gad G 65), .int (iN ((rm : Nat) : Int)), .int (iN ((mt + 1 : Nat) : Int)), .ref (gad G 66), .ref (gad G 67), .ref (gad G 68), .ref (gad G 69), .ref (gad G 70), .int (iN ((tm : Nat) : Int)), .ref (gad G 71), .ref (gad G 72), .int (iN thg), .int (iN onn), .int (iN two), .long (jN lw), .long (jN hg), .int (iN ((sq : Nat) : Int)), .ref (gad G 73), .ref (gad G 74)])) := ⟨_, rfl⟩
          rw [← hw_102] at hP
          have fr_103 : ∀ k : Nat, k ≠ 59 → w_101 k = w_92 k := fun k h => by rw [hw_102]; exact va_up_ne _ _ h
          have e_104 : w_101 66 = .inl (gJ G, 800, .inr (.inl (aJ (va_up (shF mN q mt) q n)))) := (fr_103 66 (by omega)).trans e_95
          have e_105 : w_101 67 = .inl (gJ G, 800, .inr (.inl (aJ (va_up (shF mD q mt) q d)))) := (fr_103 67 (by omega)).trans e_96
          have e_106 : w_101 68 = .inl (gI G, 800, .inl (aN (va_up (shF mI q mt) q ((i : Nat) : Int)))) := (fr_103 68 (by omega)).trans e_97
          have e_107 : w_101 69 = .inl (gI G, 800, .inl (aN (va_up (shF mJ q mt) q ((j : Nat) : Int)))) := (fr_103 69 (by omega)).trans e_98
          have e_108 : w_101 70 = .inl (gZ G, 800, .inl (aN (zI (va_up (shF iP q mt) q b)))) := (fr_103 70 (by omega)).trans e_99
          have e_109 : w_101 59 = .inr (8, [.int (iN ((now : Nat) : Int)), .int (iN ((came : Nat) : Int)), .ref (gad G 60), .ref (gad G 61), .ref (gad G 62), .ref (gad G 63), .ref (gad G 64), .ref (gad G 65), .int (iN ((rm : Nat) : Int)), .int (iN ((mt + 1 : Nat) : Int)), .ref (gad G 66), .ref (gad G 67), .ref (gad G 68), .ref (gad G 69), .ref (gad G 70), .int (iN ((tm : Nat) : Int)), .ref (gad G 71), .ref (gad G 72), .int (iN thg), .int (iN onn), .int (iN two), .long (jN lw), .long (jN hg), .int (iN ((sq : Nat) : Int)), .ref (gad G 73), .ref (gad G 74)]) := by rw [hw_102]; exact va_up_self _ _ _
          exact r_v hx hb hr dX9_addMeeting_176 hlocks hP hS (⟨(fun k h0 h1 h2 h3 h4 h5 => ((((((((((((fr_103 k (by omega)).trans (fr_94 k (by omega)))).trans (fr_85 k (by omega)))).trans (fr_76 k (by omega)))).trans (fr_67 k (by omega)))).trans (fr_58 k (by omega)))).trans (hfr6 k (by omega) (by omega) (by omega) (by omega) (by omega)))), e_109, (by rw [hj]; exact e_104.trans (by rw [shF_end (by omega)])), (by rw [hj]; exact e_105.trans (by rw [shF_end (by omega)])), (by rw [hj]; exact e_106.trans (by rw [shF_end (by omega)])), (by rw [hj]; exact e_107.trans (by rw [shF_end (by omega)])), (by rw [hj]; exact e_108.trans (by rw [shF_end (by omega)]))⟩)
        · refine lv_aload_n hx hb dX9_addMeeting_37 rfl (lv_at hl 0 rfl) ?_
          refine f_get (C := RX9) (T := TX9) (N := 26) hx hb hts (by decide +kernel) hown hK hP 59 (by omega) e_1 rfl 10 (by decide) (hts (.fieldLink RX9 28 "KeptMovingModel" "meetN" "[J") (by decide +kernel)) (fun _ h9 => h9) rfl dX9_addMeeting_38 ?_
          refine lv_iload hx hb dX9_addMeeting_41 (lv_at hl 6 rfl) ?_
          refine lv_aload_n hx hb dX9_addMeeting_43 rfl (lv_at hl 0 rfl) ?_
          refine f_get (C := RX9) (T := TX9) (N := 26) hx hb hts (by decide +kernel) hown hK hP 59 (by omega) e_1 rfl 10 (by decide) (hts (.fieldLink RX9 28 "KeptMovingModel" "meetN" "[J") (by decide +kernel)) (fun _ h9 => h9) rfl dX9_addMeeting_44 ?_
          refine lv_iload hx hb dX9_addMeeting_47 (lv_at hl 6 rfl) ?_
          refine n_iconst hx hb dX9_addMeeting_49 ?_
          refine n_isub hx hb dX9_addMeeting_50 ?_
          refine n_top (A := ((q : Nat) : Int) - 1) (B := ((q - 1 : Nat) : Int)) (by omega) ?_
          refine n_lald hx hb hK hP 66 (by omega) f6_0 (q - 1) rfl (by omega) (by decide) dX9_addMeeting_51 ?_
          refine n_last hx hb hK hP hS hAA 66 (by omega) f6_0 (fun _ => rfl) q rfl (by omega) (by decide) dX9_addMeeting_52 (fun H locs hP hS => ?_)
          obtain ⟨w_110, hw_111⟩ : ∃ z : WF, z = va_up w2 66 (.inl (gJ G, 800, .inr (.inl (aJ (va_up (shF mN q mt) q ((shF mN q mt) (q - 1))))))) := ⟨_, rfl⟩
          rw [← hw_111] at hP
          have fr_112 : ∀ k : Nat, k ≠ 66 → w_110 k = w2 k := fun k h => by rw [hw_111]; exact va_up_ne _ _ h
          have e_113 : w_110 66 = .inl (gJ G, 800, .inr (.inl (aJ (va_up (shF mN q mt) q ((shF mN q mt) (q - 1)))))) := by rw [hw_111]; exact va_up_self _ _ _
          have e_114 : w_110 67 = .inl (gJ G, 800, .inr (.inl (aJ (shF mD q mt)))) := (fr_112 67 (by omega)).trans f6_1
          have e_115 : w_110 68 = .inl (gI G, 800, .inl (aN (shF mI q mt))) := (fr_112 68 (by omega)).trans f6_2
          have e_116 : w_110 69 = .inl (gI G, 800, .inl (aN (shF mJ q mt))) := (fr_112 69 (by omega)).trans f6_3
          have e_117 : w_110 70 = .inl (gZ G, 800, .inl (aN (zI (shF iP q mt)))) := (fr_112 70 (by omega)).trans f6_4
          have e_118 : w_110 59 = .inr (8, [.int (iN ((now : Nat) : Int)), .int (iN ((came : Nat) : Int)), .ref (gad G 60), .ref (gad G 61), .ref (gad G 62), .ref (gad G 63), .ref (gad G 64), .ref (gad G 65), .int (iN ((rm : Nat) : Int)), .int (iN ((mt : Nat) : Int)), .ref (gad G 66), .ref (gad G 67), .ref (gad G 68), .ref (gad G 69), .ref (gad G 70), .int (iN ((tm : Nat) : Int)), .ref (gad G 71), .ref (gad G 72), .int (iN thg), .int (iN onn), .int (iN two), .long (jN lw), .long (jN hg), .int (iN ((sq : Nat) : Int)), .ref (gad G 73), .ref (gad G 74)]) := (fr_112 59 (by omega)).trans e_1
          refine lv_aload_n hx hb dX9_addMeeting_53 rfl (lv_at hl 0 rfl) ?_
          refine f_get (C := RX9) (T := TX9) (N := 26) hx hb hts (by decide +kernel) hown hK hP 59 (by omega) e_118 rfl 11 (by decide) (hts (.fieldLink RX9 32 "KeptMovingModel" "meetD" "[J") (by decide +kernel)) (fun _ h9 => h9) rfl dX9_addMeeting_54 ?_
          refine lv_iload hx hb dX9_addMeeting_57 (lv_at hl 6 rfl) ?_
          refine lv_aload_n hx hb dX9_addMeeting_59 rfl (lv_at hl 0 rfl) ?_
          refine f_get (C := RX9) (T := TX9) (N := 26) hx hb hts (by decide +kernel) hown hK hP 59 (by omega) e_118 rfl 11 (by decide) (hts (.fieldLink RX9 32 "KeptMovingModel" "meetD" "[J") (by decide +kernel)) (fun _ h9 => h9) rfl dX9_addMeeting_60 ?_
          refine lv_iload hx hb dX9_addMeeting_63 (lv_at hl 6 rfl) ?_
          refine n_iconst hx hb dX9_addMeeting_65 ?_
          refine n_isub hx hb dX9_addMeeting_66 ?_
          refine n_top (A := ((q : Nat) : Int) - 1) (B := ((q - 1 : Nat) : Int)) (by omega) ?_
          refine n_lald hx hb hK hP 67 (by omega) e_114 (q - 1) rfl (by omega) (by decide) dX9_addMeeting_67 ?_
          refine n_last hx hb hK hP hS hAA 67 (by omega) e_114 (fun _ => rfl) q rfl (by omega) (by decide) dX9_addMeeting_68 (fun H locs hP hS => ?_)
          obtain ⟨w_119, hw_120⟩ : ∃ z : WF, z = va_up w_110 67 (.inl (gJ G, 800, .inr (.inl (aJ (va_up (shF mD q mt) q ((shF mD q mt) (q - 1))))))) := ⟨_, rfl⟩
          rw [← hw_120] at hP
          have fr_121 : ∀ k : Nat, k ≠ 67 → w_119 k = w_110 k := fun k h => by rw [hw_120]; exact va_up_ne _ _ h
          have e_122 : w_119 66 = .inl (gJ G, 800, .inr (.inl (aJ (va_up (shF mN q mt) q ((shF mN q mt) (q - 1)))))) := (fr_121 66 (by omega)).trans e_113
          have e_123 : w_119 67 = .inl (gJ G, 800, .inr (.inl (aJ (va_up (shF mD q mt) q ((shF mD q mt) (q - 1)))))) := by rw [hw_120]; exact va_up_self _ _ _
          have e_124 : w_119 68 = .inl (gI G, 800, .inl (aN (shF mI q mt))) := (fr_121 68 (by omega)).trans e_115
          have e_125 : w_119 69 = .inl (gI G, 800, .inl (aN (shF mJ q mt))) := (fr_121 69 (by omega)).trans e_116
          have e_126 : w_119 70 = .inl (gZ G, 800, .inl (aN (zI (shF iP q mt)))) := (fr_121 70 (by omega)).trans e_117
          have e_127 : w_119 59 = .inr (8, [.int (iN ((now : Nat) : Int)), .int (iN ((came : Nat) : Int)), .ref (gad G 60), .ref (gad G 61), .ref (gad G 62), .ref (gad G 63), .ref (gad G 64), .ref (gad G 65), .int (iN ((rm : Nat) : Int)), .int (iN ((mt : Nat) : Int)), .ref (gad G 66), .ref (gad G 67), .ref (gad G 68), .ref (gad G 69), .ref (gad G 70), .int (iN ((tm : Nat) : Int)), .ref (gad G 71), .ref (gad G 72), .int (iN thg), .int (iN onn), .int (iN two), .long (jN lw), .long (jN hg), .int (iN ((sq : Nat) : Int)), .ref (gad G 73), .ref (gad G 74)]) := (fr_121 59 (by omega)).trans e_118
          refine lv_aload_n hx hb dX9_addMeeting_69 rfl (lv_at hl 0 rfl) ?_
          refine f_get (C := RX9) (T := TX9) (N := 26) hx hb hts (by decide +kernel) hown hK hP 59 (by omega) e_127 rfl 12 (by decide) (hts (.fieldLink RX9 35 "KeptMovingModel" "meetI" "[I") (by decide +kernel)) (fun _ h9 => h9) rfl dX9_addMeeting_70 ?_
          refine lv_iload hx hb dX9_addMeeting_73 (lv_at hl 6 rfl) ?_
          refine lv_aload_n hx hb dX9_addMeeting_75 rfl (lv_at hl 0 rfl) ?_
          refine f_get (C := RX9) (T := TX9) (N := 26) hx hb hts (by decide +kernel) hown hK hP 59 (by omega) e_127 rfl 12 (by decide) (hts (.fieldLink RX9 35 "KeptMovingModel" "meetI" "[I") (by decide +kernel)) (fun _ h9 => h9) rfl dX9_addMeeting_76 ?_
          refine lv_iload hx hb dX9_addMeeting_79 (lv_at hl 6 rfl) ?_
          refine n_iconst hx hb dX9_addMeeting_81 ?_
          refine n_isub hx hb dX9_addMeeting_82 ?_
          refine n_top (A := ((q : Nat) : Int) - 1) (B := ((q - 1 : Nat) : Int)) (by omega) ?_
          refine n_iald hx hb hK hP 68 (by omega) e_124 (q - 1) rfl (by omega) (by decide) dX9_addMeeting_83 ?_
          refine n_iast hx hb hK hP hS hAA 68 (by omega) e_124 (fun _ => rfl) q rfl (by omega) (by decide) dX9_addMeeting_84 (fun H locs hP hS => ?_)
          obtain ⟨w_128, hw_129⟩ : ∃ z : WF, z = va_up w_119 68 (.inl (gI G, 800, .inl (aN (va_up (shF mI q mt) q ((shF mI q mt) (q - 1)))))) := ⟨_, rfl⟩
          rw [← hw_129] at hP
          have fr_130 : ∀ k : Nat, k ≠ 68 → w_128 k = w_119 k := fun k h => by rw [hw_129]; exact va_up_ne _ _ h
          have e_131 : w_128 66 = .inl (gJ G, 800, .inr (.inl (aJ (va_up (shF mN q mt) q ((shF mN q mt) (q - 1)))))) := (fr_130 66 (by omega)).trans e_122
          have e_132 : w_128 67 = .inl (gJ G, 800, .inr (.inl (aJ (va_up (shF mD q mt) q ((shF mD q mt) (q - 1)))))) := (fr_130 67 (by omega)).trans e_123
          have e_133 : w_128 68 = .inl (gI G, 800, .inl (aN (va_up (shF mI q mt) q ((shF mI q mt) (q - 1))))) := by rw [hw_129]; exact va_up_self _ _ _
          have e_134 : w_128 69 = .inl (gI G, 800, .inl (aN (shF mJ q mt))) := (fr_130 69 (by omega)).trans e_125
          have e_135 : w_128 70 = .inl (gZ G, 800, .inl (aN (zI (shF iP q mt)))) := (fr_130 70 (by omega)).trans e_126
          have e_136 : w_128 59 = .inr (8, [.int (iN ((now : Nat) : Int)), .int (iN ((came : Nat) : Int)), .ref (gad G 60), .ref (gad G 61), .ref (gad G 62), .ref (gad G 63), .ref (gad G 64), .ref (gad G 65), .int (iN ((rm : Nat) : Int)), .int (iN ((mt : Nat) : Int)), .ref (gad G 66), .ref (gad G 67), .ref (gad G 68), .ref (gad G 69), .ref (gad G 70), .int (iN ((tm : Nat) : Int)), .ref (gad G 71), .ref (gad G 72), .int (iN thg), .int (iN onn), .int (iN two), .long (jN lw), .long (jN hg), .int (iN ((sq : Nat) : Int)), .ref (gad G 73), .ref (gad G 74)]) := (fr_130 59 (by omega)).trans e_127
          refine lv_aload_n hx hb dX9_addMeeting_85 rfl (lv_at hl 0 rfl) ?_
          refine f_get (C := RX9) (T := TX9) (N := 26) hx hb hts (by decide +kernel) hown hK hP 59 (by omega) e_136 rfl 13 (by decide) (hts (.fieldLink RX9 38 "KeptMovingModel" "meetJ" "[I") (by decide +kernel)) (fun _ h9 => h9) rfl dX9_addMeeting_86 ?_
          refine lv_iload hx hb dX9_addMeeting_89 (lv_at hl 6 rfl) ?_
          refine lv_aload_n hx hb dX9_addMeeting_91 rfl (lv_at hl 0 rfl) ?_
          refine f_get (C := RX9) (T := TX9) (N := 26) hx hb hts (by decide +kernel) hown hK hP 59 (by omega) e_136 rfl 13 (by decide) (hts (.fieldLink RX9 38 "KeptMovingModel" "meetJ" "[I") (by decide +kernel)) (fun _ h9 => h9) rfl dX9_addMeeting_92 ?_
          refine lv_iload hx hb dX9_addMeeting_95 (lv_at hl 6 rfl) ?_
          refine n_iconst hx hb dX9_addMeeting_97 ?_
          refine n_isub hx hb dX9_addMeeting_98 ?_
          refine n_top (A := ((q : Nat) : Int) - 1) (B := ((q - 1 : Nat) : Int)) (by omega) ?_
          refine n_iald hx hb hK hP 69 (by omega) e_134 (q - 1) rfl (by omega) (by decide) dX9_addMeeting_99 ?_
          refine n_iast hx hb hK hP hS hAA 69 (by omega) e_134 (fun _ => rfl) q rfl (by omega) (by decide) dX9_addMeeting_100 (fun H locs hP hS => ?_)
          obtain ⟨w_137, hw_138⟩ : ∃ z : WF, z = va_up w_128 69 (.inl (gI G, 800, .inl (aN (va_up (shF mJ q mt) q ((shF mJ q mt) (q - 1)))))) := ⟨_, rfl⟩
          rw [← hw_138] at hP
          have fr_139 : ∀ k : Nat, k ≠ 69 → w_137 k = w_128 k := fun k h => by rw [hw_138]; exact va_up_ne _ _ h
          have e_140 : w_137 66 = .inl (gJ G, 800, .inr (.inl (aJ (va_up (shF mN q mt) q ((shF mN q mt) (q - 1)))))) := (fr_139 66 (by omega)).trans e_131
          have e_141 : w_137 67 = .inl (gJ G, 800, .inr (.inl (aJ (va_up (shF mD q mt) q ((shF mD q mt) (q - 1)))))) := (fr_139 67 (by omega)).trans e_132
          have e_142 : w_137 68 = .inl (gI G, 800, .inl (aN (va_up (shF mI q mt) q ((shF mI q mt) (q - 1))))) := (fr_139 68 (by omega)).trans e_133
          have e_143 : w_137 69 = .inl (gI G, 800, .inl (aN (va_up (shF mJ q mt) q ((shF mJ q mt) (q - 1))))) := by rw [hw_138]; exact va_up_self _ _ _
          have e_144 : w_137 70 = .inl (gZ G, 800, .inl (aN (zI (shF iP q mt)))) := (fr_139 70 (by omega)).trans e_135
          have e_145 : w_137 59 = .inr (8, [.int (iN ((now : Nat) : Int)), .int (iN ((came : Nat) : Int)), .ref (gad G 60), .ref (gad G 61), .ref (gad G 62), .ref (gad G 63), .ref (gad G 64), .ref (gad G 65), .int (iN ((rm : Nat) : Int)), .int (iN ((mt : Nat) : Int)), .ref (gad G 66), .ref (gad G 67), .ref (gad G 68), .ref (gad G 69), .ref (gad G 70), .int (iN ((tm : Nat) : Int)), .ref (gad G 71), .ref (gad G 72), .int (iN thg), .int (iN onn), .int (iN two), .long (jN lw), .long (jN hg), .int (iN ((sq : Nat) : Int)), .ref (gad G 73), .ref (gad G 74)]) := (fr_139 59 (by omega)).trans e_136
          refine lv_aload_n hx hb dX9_addMeeting_101 rfl (lv_at hl 0 rfl) ?_
          refine f_get (C := RX9) (T := TX9) (N := 26) hx hb hts (by decide +kernel) hown hK hP 59 (by omega) e_145 rfl 14 (by decide) (hts (.fieldLink RX9 41 "KeptMovingModel" "isPass" "[Z") (by decide +kernel)) (fun _ h9 => h9) rfl dX9_addMeeting_102 ?_
          refine lv_iload hx hb dX9_addMeeting_105 (lv_at hl 6 rfl) ?_
          refine lv_aload_n hx hb dX9_addMeeting_107 rfl (lv_at hl 0 rfl) ?_
          refine f_get (C := RX9) (T := TX9) (N := 26) hx hb hts (by decide +kernel) hown hK hP 59 (by omega) e_145 rfl 14 (by decide) (hts (.fieldLink RX9 41 "KeptMovingModel" "isPass" "[Z") (by decide +kernel)) (fun _ h9 => h9) rfl dX9_addMeeting_108 ?_
          refine lv_iload hx hb dX9_addMeeting_111 (lv_at hl 6 rfl) ?_
          refine n_iconst hx hb dX9_addMeeting_113 ?_
          refine n_isub hx hb dX9_addMeeting_114 ?_
          refine n_top (A := ((q : Nat) : Int) - 1) (B := ((q - 1 : Nat) : Int)) (by omega) ?_
          refine n_zald hx hb hK hP 70 (by omega) e_144 (q - 1) rfl (by omega) (by decide) dX9_addMeeting_115 ?_
          refine n_top (B := (if (shF iP q mt) (q - 1) = true then 1 else 0)) rfl ?_
          refine n_zast hx hb hK hP hS hAA 70 (by omega) e_144 (fun _ => rfl) q rfl (by omega) (by decide) dX9_addMeeting_116 (fun H locs hP hS => ?_)
          obtain ⟨w_146, hw_147⟩ : ∃ z : WF, z = va_up w_137 70 (.inl (gZ G, 800, .inl (aN (va_up (zI (shF iP q mt)) q (if (shF iP q mt) (q - 1) = true then 1 else 0))))) := ⟨_, rfl⟩
          rw [← hw_147] at hP
          have fr_148 : ∀ k : Nat, k ≠ 70 → w_146 k = w_137 k := fun k h => by rw [hw_147]; exact va_up_ne _ _ h
          have e_149 : w_146 66 = .inl (gJ G, 800, .inr (.inl (aJ (va_up (shF mN q mt) q ((shF mN q mt) (q - 1)))))) := (fr_148 66 (by omega)).trans e_140
          have e_150 : w_146 67 = .inl (gJ G, 800, .inr (.inl (aJ (va_up (shF mD q mt) q ((shF mD q mt) (q - 1)))))) := (fr_148 67 (by omega)).trans e_141
          have e_151 : w_146 68 = .inl (gI G, 800, .inl (aN (va_up (shF mI q mt) q ((shF mI q mt) (q - 1))))) := (fr_148 68 (by omega)).trans e_142
          have e_152 : w_146 69 = .inl (gI G, 800, .inl (aN (va_up (shF mJ q mt) q ((shF mJ q mt) (q - 1))))) := (fr_148 69 (by omega)).trans e_143
          have e_153 : w_146 70 = .inl (gZ G, 800, .inl (aN (zI (va_up (shF iP q mt) q ((shF iP q mt) (q - 1)))))) := by rw [hw_147, va_up_self]; exact congrArg (fun z => (.inl (gZ G, 800, .inl (aN z)) : va_E)) (zI_up _ _ _)
          have e_154 : w_146 59 = .inr (8, [.int (iN ((now : Nat) : Int)), .int (iN ((came : Nat) : Int)), .ref (gad G 60), .ref (gad G 61), .ref (gad G 62), .ref (gad G 63), .ref (gad G 64), .ref (gad G 65), .int (iN ((rm : Nat) : Int)), .int (iN ((mt : Nat) : Int)), .ref (gad G 66), .ref (gad G 67), .ref (gad G 68), .ref (gad G 69), .ref (gad G 70), .int (iN ((tm : Nat) : Int)), .ref (gad G 71), .ref (gad G 72), .int (iN thg), .int (iN onn), .int (iN two), .long (jN lw), .long (jN hg), .int (iN ((sq : Nat) : Int)), .ref (gad G 73), .ref (gad G 74)]) := (fr_148 59 (by omega)).trans e_145
          refine lv_iinc (v := iN ((q - 1 : Nat) : Int)) (lv' := [(8, .int (iN ((q - 1 : Nat) : Int))), (0, .ref (gad G 59)), (1, .long (jN n)), (3, .long (jN d)), (5, .int (iN ((i : Nat) : Int))), (6, .int (iN ((j : Nat) : Int))), (7, .int (iN (if b = true then 1 else 0)))]) hx hb dX9_addMeeting_117 hl (k := 6) rfl (iN_decN (by omega)) (by decide) rfl (fun ls hl => ?_)
          refine lv_goto (tgt := 6) hx hb dX9_addMeeting_120 (by decide) ?_
          exact ih6 (q - 1) w_146 _ _ _ (by omega) (by rw [← i6_1]; exact (spot_step (by omega) (decide_eq_true (by omega))).symm) (by omega) (e_149.trans (by rw [shF_step (by omega) (by omega)])) (e_150.trans (by rw [shF_step (by omega) (by omega)])) (e_151.trans (by rw [shF_step (by omega) (by omega)])) (e_152.trans (by rw [shF_step (by omega) (by omega)])) (e_153.trans (by rw [shF_step (by omega) (by omega)])) (fun k h0 h1 h2 h3 h4 => ((((((((((fr_148 k (by omega)).trans (fr_139 k (by omega)))).trans (fr_130 k (by omega)))).trans (fr_121 k (by omega)))).trans (fr_112 k (by omega)))).trans (hfr6 k (by omega) (by omega) (by omega) (by omega) (by omega)))) hP hS (lv_sub hl [1, 2, 3, 4, 5, 6, 0] rfl)
  exact K6 (mt + 1) (mt) w _ _ _ (by omega) (rfl) (by omega) (e1.trans (by rw [shF_0])) (e2.trans (by rw [shF_0])) (e3.trans (by rw [shF_0])) (e4.trans (by rw [shF_0])) (e5.trans (by rw [shF_0])) (fun k _ _ _ _ _ => rfl) hP hS (lv_sub hl [1, 2, 3, 4, 5, 6, 0] rfl)
