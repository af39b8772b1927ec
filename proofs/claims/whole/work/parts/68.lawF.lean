/-! the law: its loop, its start -/
theorem lst_init {G : GE} {w : WF} (e0 : w 0 = .inr (7, [.ref (gad G 1), .int (iN 0), .int (iN 0), .ref (gad G 2), .ref (gad G 5), .int (iN 0), .ref (gad G 6), .ref (gad G 10), .ref (gad G 14), .ref (gad G 15), .ref (gad G 18)])) (e2 : w 2 = .inr (2, [.ref (gad G 3), .ref (gad G 4), .int (iN 0)])) (e3 : w 3 = .inl (gI G, 10, .inl (aN (fun _ => 0)))) (e4 : w 4 = .inl (gI G, 10, .inl (aN (fun _ => 0)))) (e5 : w 5 = .inl (gI G, 92, .inl (aN (fun _ => 0)))) (e6 : w 6 = .inr (4, [.ref (gad G 7), .ref (gad G 8), .ref (gad G 9), .int (iN 0)])) (e7 : w 7 = .inl (gZ G, 10, .inl (aN (fun _ => 0)))) (e8 : w 8 = .inl (gI G, 10, .inl (aN (fun _ => 0)))) (e9 : w 9 = .inl (gI G, 10, .inl (aN (fun _ => 0)))) (e10 : w 10 = .inr (3, [.ref (gad G 11), .ref (gad G 12), .ref (gad G 13), .int (iN 0), .int (iN 0)])) (e11 : w 11 = .inl (gJ G, 45, .inr (.inl (aJ (fun _ => 0))))) (e12 : w 12 = .inl (gI G, 45, .inl (aN (fun _ => 0)))) (e13 : w 13 = .inl (gI G, 45, .inl (aN (fun _ => 0)))) (e14 : w 14 = .inr (6, [.int (iN 0), .long (jN 0), .long (jN 0), .long (jN 0), .int (iN 0)])) (e15 : w 15 = .inr (1, [.ref (gad G 16), .ref (gad G 17), .int (iN 0)])) (e16 : w 16 = .inl (gJ G, 10, .inr (.inl (aJ (fun _ => 0))))) (e17 : w 17 = .inl (gJ G, 10, .inr (.inl (aJ (fun _ => 0))))) (e18 : w 18 = .inr (5, [.int (iN 0), .int (iN 0), .long (jN 0), .long (jN 0), .long (jN 0)])) (e59 : w 59 = .inr (8, [.int (iN 0), .int (iN 0), .ref (gad G 60), .ref (gad G 61), .ref (gad G 62), .ref (gad G 63), .ref (gad G 64), .ref (gad G 65), .int (iN 0), .int (iN 0), .ref (gad G 66), .ref (gad G 67), .ref (gad G 68), .ref (gad G 69), .ref (gad G 70), .int (iN 0), .ref (gad G 71), .ref (gad G 72), .int (iN 0), .int (iN 0), .int (iN 0), .long (jN 0), .long (jN 0), .int (iN 0), .ref (gad G 73), .ref (gad G 74)])) (e60 : w 60 = .inl (gI G, 10, .inl (aN (fun _ => 0)))) (e61 : w 61 = .inl (gI G, 10, .inl (aN (fun _ => 0)))) (e62 : w 62 = .inl (gI G, 80, .inl (aN (fun _ => 0)))) (e63 : w 63 = .inl (gI G, 80, .inl (aN (fun _ => 0)))) (e64 : w 64 = .inl (gI G, 80, .inl (aN (fun _ => 0)))) (e65 : w 65 = .inl (gI G, 10, .inl (aN (fun _ => 0)))) (e66 : w 66 = .inl (gJ G, 800, .inr (.inl (aJ (fun _ => 0))))) (e67 : w 67 = .inl (gJ G, 800, .inr (.inl (aJ (fun _ => 0))))) (e68 : w 68 = .inl (gI G, 800, .inl (aN (fun _ => 0)))) (e69 : w 69 = .inl (gI G, 800, .inl (aN (fun _ => 0)))) (e70 : w 70 = .inl (gZ G, 800, .inl (aN (fun _ => 0)))) (e71 : w 71 = .inl (gJ G, 700, .inr (.inl (aJ (fun _ => 0))))) (e72 : w 72 = .inl (gJ G, 700, .inr (.inl (aJ (fun _ => 0))))) (e73 : w 73 = .inl (gJ G, 1400, .inr (.inl (aJ (fun _ => 0))))) (e74 : w 74 = .inl (gJ G, 1400, .inr (.inl (aJ (fun _ => 0))))) (hF : FI G w 10) : LST G w :=
  ⟨0, 0, fun _ _ => 0, fun _ _ => 0, fun _ _ => 0, fun _ => 1, fun _ => -1, fun _ => 0, fun _ => 0, fun _ => 0, fun _ => 0, fun _ => 0,
    ⟨⟨Nat.zero_le _, Nat.zero_le _, fun i hi => absurd hi (Nat.not_lt_zero i), fun i j _ hj => absurd hj (Nat.not_lt_zero j)⟩, fun i hi => absurd hi (Nat.not_lt_zero i)⟩,
    ⟨⟨0, e0⟩, fun i hi => hF i hi, ⟨0, _, _, e2, e3, e4⟩, ⟨_, e5⟩, ⟨0, _, _, _, e6, e7, e8, e9⟩, ⟨0, 0, fun _ => 0, _, _, e10, e11, e12, e13, ⟨Nat.zero_le _, fun k hk => absurd hk (Nat.not_lt_zero k)⟩⟩, ⟨0, 0, (0, 0, 0), e14⟩, ⟨0, _, _, e15, e16, e17⟩, ⟨0, 0, 0, 0, 0, e18, ⟨by omega, by omega, by omega⟩⟩⟩,
    ⟨⟨0, 0, 0, 0, 0, 0, 0, 0, 0, e59, by omega, by omega⟩, ⟨e60, e61, e62, e63, e64⟩, ⟨_, e65⟩, ⟨_, _, _, _, fun _ => false, e66, e67, e68, e69, e70⟩, ⟨_, _, e71, e72⟩, ⟨_, _, e73, e74⟩⟩⟩
theorem and15 (x : Int32) : 0 ≤ (x &&& iN 15).toInt ∧ (x &&& iN 15).toInt ≤ 15 := by
  have h1 : (x &&& iN 15).toBitVec.toNat ≤ 15 := by
    show (x.toBitVec &&& (iN 15).toBitVec).toNat ≤ 15
    rw [BitVec.toNat_and]
    exact Nat.and_le_right
  have h2 : (x &&& iN 15).toInt = ((x &&& iN 15).toBitVec.toNat : Int) := by
    show (x &&& iN 15).toBitVec.toInt = _
    exact BitVec.toInt_eq_toNat_of_lt (by omega)
  omega
set_option maxHeartbeats 4000000 in
theorem law_head {p : Program} {l : Launch} {e : Env} {s : State} {m : MethodId} {below : List Frame} {meth : Method} {c : Code} {b L : Nat} {xs : Nat → Int32} {cells slots : Nat} {G : GE} (C0 : lw_At p s m meth c b L xs) (hL : L ≤ 3584) (hG : GA G) (h0 : gad G 0 = s.heap.size) (hK : KK G s) (hcs : cells ≤ 600000 ∧ slots ≤ 7302250) {i : Nat} (hi : i ≤ L + 6) {w : WF} {H : Heap} {locs : List Loc} {ls : Array Slot} (hl : lv_has ls 4 [(0, .ref b), (1, .ref (gad G 0)), (2, .ref (gad G 59)), (3, .int (iN (i : Int)))]) (hT : LST G w) (hP : PW G w H) (hS : va_S (A9 G) s.heap H locs) (kk : i + 7 ≤ L → W p l e room_1 s m #[Value.ref b] below meth c H locs cells slots (lw_Z below #[Value.ref b] s) (F0 m 27 ls [])) : W p l e room_1 s m #[Value.ref b] below meth c H locs cells slots (lw_Z below #[Value.ref b] s) (F0 m 18 ls []) := by
  obtain ⟨hx, hb, hr, hml, hown, hts0, hX, hbl, hlocks, hgv⟩ := id C0
  have hb : c.code = cL_law := hb
  have hbA : ¬ A9 G b := by unfold A9; omega
  refine lv_iload_n hx hb dL_law_18 rfl (lv_at hl 3 rfl) ?_
  refine lv_aload_n hx hb dL_law_19 rfl (lv_at hl 0 rfl) ?_
  refine va_slen hx hb hX hbl hbA hS dL_law_20 ?_
  rw [show Int32.ofNat L = iN (L : Int) from (iN_nat L).symm]
  refine n_bipush hx hb dL_law_21 (by decide) ?_
  refine n_isub hx hb dL_law_23 ?_
  refine n_icmp_gt (tgt := 714) hx hb dL_law_24 (by decide) (by omega) (by omega) (by omega) (by omega) (fun q => ?_) (fun q => kk (by omega))
  refine lv_iconst (v := 1) hx hb dL_law_714 (by decide) ?_
  refine va_forget (fun q hq => by have := hS.2.2 q hq; unfold A9 at this; omega) ?_
  refine W.widen (k := 600000) (n := 7302250) hcs.1 hcs.2 ?_
  exact lw_ret hx hb hr hlocks dL_law_715
set_option maxHeartbeats 4000000 in
theorem law_body {p : Program} {l : Launch} {e : Env} {s : State} {m : MethodId} {below : List Frame} {meth : Method} {c : Code} {b L : Nat} {xs : Nat → Int32} {cells slots : Nat} {G : GE} (C0 : lw_At p s m meth c b L xs) (hL : L ≤ 3584) (hG : GA G) (h0 : gad G 0 = s.heap.size) (hK : KK G s) (hcs : cells ≤ 600000 ∧ slots ≤ 7302250) {i : Nat} (hi : i + 7 ≤ L) {w : WF} {H : Heap} {locs : List Loc} {ls : Array Slot} (hl : lv_has ls 4 [(0, .ref b), (1, .ref (gad G 0)), (2, .ref (gad G 59)), (3, .int (iN (i : Int)))]) (hT : LST G w) (hP : PW G w H) (hS : va_S (A9 G) s.heap H locs) (kk : ∀ (w1 : WF) (H1 : Heap) (locs1 : List Loc), LST G w1 → PW G w1 H1 → va_S (A9 G) s.heap H1 locs1 → W p l e room_1 s m #[Value.ref b] below meth c H1 locs1 cells slots (lw_Z below #[Value.ref b] s) (F0 m 708 ls [])) : W p l e room_1 s m #[Value.ref b] below meth c H locs cells slots (lw_Z below #[Value.ref b] s) (F0 m 27 ls []) := by
  obtain ⟨hx, hb, hr, hml, hown, hts0, hX, hbl, hlocks, hgv⟩ := id C0
  have hb : c.code = cL_law := hb
  have hbA : ¬ A9 G b := by unfold A9; omega
  refine lv_aload_n hx hb dL_law_27 rfl (lv_at hl 0 rfl) ?_
  refine lv_iload_n hx hb dL_law_28 rfl (lv_at hl 3 rfl) ?_
  obtain ⟨v1, v2⟩ := iN_idx (n := L) (A := (i : Int)) (j := i) rfl (by omega) (by omega)
  refine va_sld hx hb hX hbl hbA hS v1 dL_law_29 ?_
  refine n_bipush hx hb dL_law_30 (by decide) ?_
  refine lv_iand hx hb dL_law_32 ?_
  have hv := and15 (xs (iN (i : Int)).toNatClampNeg)
  generalize xs (iN (i : Int)).toNatClampNeg &&& iN 15 = v at hv ⊢
  have hc : v.toInt = 0 ∨ v.toInt = 1 ∨ v.toInt = 2 ∨ v.toInt = 3 ∨ v.toInt = 4 ∨ v.toInt = 5 ∨ v.toInt = 6 ∨ v.toInt = 7 ∨ v.toInt = 8 ∨ v.toInt = 9 ∨ v.toInt = 10 ∨ v.toInt = 11 ∨ v.toInt = 12 ∨ v.toInt = 13 ∨ v.toInt = 14 ∨ v.toInt = 15 := by omega
  rcases hc with hc | hc | hc | hc | hc | hc | hc | hc | hc | hc | hc | hc | hc | hc | hc | hc
  · exact lv_tableIn (off := 75) (tgt := 108) hx hb dL_law_33 (by rw [hc]; decide) (by rw [hc]; decide) (by rw [hc]; rfl) (by decide) (lc_point C0 hL hG h0 hK hcs hi hl hT hP hS kk)
  · exact lv_tableIn (off := 108) (tgt := 141) hx hb dL_law_33 (by rw [hc]; decide) (by rw [hc]; decide) (by rw [hc]; rfl) (by decide) (lc_speed C0 hL hG h0 hK hcs hi hl hT hP hS kk)
  · exact lv_tableIn (off := 141) (tgt := 174) hx hb dL_law_33 (by rw [hc]; decide) (by rw [hc]; decide) (by rw [hc]; rfl) (by decide) (lc_gone C0 hL hG h0 hK hcs hi hl hT hP hS kk)
  · exact lv_tableIn (off := 164) (tgt := 197) hx hb dL_law_33 (by rw [hc]; decide) (by rw [hc]; decide) (by rw [hc]; rfl) (by decide) (lc_go C0 hL hG h0 hK hcs hi hl hT hP hS kk)
  · exact lv_tableIn (off := 187) (tgt := 220) hx hb dL_law_33 (by rw [hc]; decide) (by rw [hc]; decide) (by rw [hc]; rfl) (by decide) (lc_back C0 hL hG h0 hK hcs hi hl hT hP hS kk)
  · exact lv_tableIn (off := 210) (tgt := 243) hx hb dL_law_33 (by rw [hc]; decide) (by rw [hc]; decide) (by rw [hc]; rfl) (by decide) (lc_count C0 hL hG h0 hK hcs hi hl hT hP hS kk)
  · exact lv_tableIn (off := 233) (tgt := 266) hx hb dL_law_33 (by rw [hc]; decide) (by rw [hc]; decide) (by rw [hc]; rfl) (by decide) (lc_told C0 hL hG h0 hK hcs hi hl hT hP hS kk)
  · exact lv_tableIn (off := 266) (tgt := 299) hx hb dL_law_33 (by rw [hc]; decide) (by rw [hc]; decide) (by rw [hc]; rfl) (by decide) (lc_place C0 hL hG h0 hK hcs hi hl hT hP hS kk)
  · exact lv_tableIn (off := 320) (tgt := 353) hx hb dL_law_33 (by rw [hc]; decide) (by rw [hc]; decide) (by rw [hc]; rfl) (by decide) (lc_order C0 hL hG h0 hK hcs hi hl hT hP hS kk)
  · exact lv_tableIn (off := 363) (tgt := 396) hx hb dL_law_33 (by rw [hc]; decide) (by rw [hc]; decide) (by rw [hc]; rfl) (by decide) (lc_kept C0 hL hG h0 hK hcs hi hl hT hP hS kk)
  · exact lv_tableIn (off := 386) (tgt := 419) hx hb dL_law_33 (by rw [hc]; decide) (by rw [hc]; decide) (by rw [hc]; rfl) (by decide) (lc_at C0 hL hG h0 hK hcs hi hl hT hP hS kk)
  · exact lv_tableIn (off := 439) (tgt := 472) hx hb dL_law_33 (by rw [hc]; decide) (by rw [hc]; decide) (by rw [hc]; rfl) (by decide) (lc_meeting C0 hL hG h0 hK hcs hi hl hT hP hS kk)
  · exact lv_tableIn (off := 472) (tgt := 505) hx hb dL_law_33 (by rw [hc]; decide) (by rw [hc]; decide) (by rw [hc]; rfl) (by decide) (lc_near C0 hL hG h0 hK hcs hi hl hT hP hS kk)
  · exact lv_tableIn (off := 547) (tgt := 580) hx hb dL_law_33 (by rw [hc]; decide) (by rw [hc]; decide) (by rw [hc]; rfl) (by decide) (lc_first C0 hL hG h0 hK hcs hi hl hT hP hS kk)
  · exact lv_tableIn (off := 600) (tgt := 633) hx hb dL_law_33 (by rw [hc]; decide) (by rw [hc]; decide) (by rw [hc]; rfl) (by decide) (lc_within C0 hL hG h0 hK hcs hi hl hT hP hS kk)
  · exact lv_tableOut (tgt := 708) hx hb dL_law_33 (by rw [hc]; decide) (by decide) (kk w H locs hT hP hS)
set_option maxHeartbeats 4000000 in
theorem law_loop {p : Program} {l : Launch} {e : Env} {s : State} {m : MethodId} {below : List Frame} {meth : Method} {c : Code} {b L : Nat} {xs : Nat → Int32} {cells slots : Nat} {G : GE} (C0 : lw_At p s m meth c b L xs) (hL : L ≤ 3584) (hG : GA G) (h0 : gad G 0 = s.heap.size) (hK : KK G s) (hcs : cells ≤ 600000 ∧ slots ≤ 7302250) : ∀ (n i : Nat), L < i + 7 * n → i ≤ L + 6 → ∀ {w : WF} {H : Heap} {locs : List Loc} {ls : Array Slot} (hl : lv_has ls 4 [(0, .ref b), (1, .ref (gad G 0)), (2, .ref (gad G 59)), (3, .int (iN (i : Int)))]) (hT : LST G w) (hP : PW G w H) (hS : va_S (A9 G) s.heap H locs), W p l e room_1 s m #[Value.ref b] below meth c H locs cells slots (lw_Z below #[Value.ref b] s) (F0 m 18 ls [])
  | 0, i, hn, hi, w, H, locs, ls, hl, hT, hP, hS => law_head C0 hL hG h0 hK hcs hi hl hT hP hS (fun z => absurd z (by omega))
  | n + 1, i, hn, hi, w, H, locs, ls, hl, hT, hP, hS => law_head C0 hL hG h0 hK hcs hi hl hT hP hS (fun z => law_body C0 hL hG h0 hK hcs z hl hT hP hS (fun w1 H1 locs1 hT1 hP1 hS1 => by
      obtain ⟨hx, hb, hr, hml, hown, hts0, hX, hbl, hlocks, hgv⟩ := id C0
      have hb : c.code = cL_law := hb
      refine lv_iinc (v := iN ((i + 7 : Nat) : Int)) (lv' := [(3, .int (iN ((i + 7 : Nat) : Int))), (0, .ref b), (1, .ref (gad G 0)), (2, .ref (gad G 59))]) hx hb dL_law_708 hl (k := 3) rfl (iN_inc _ _) (by decide) rfl (fun ls1 hl1 => ?_)
      refine lv_goto (tgt := 18) hx hb dL_law_711 (by decide) ?_
      exact law_loop C0 hL hG h0 hK hcs n (i + 7) (by omega) (by omega) (lv_sub hl1 [1, 2, 3, 0] rfl) hT1 hP1 hS1))
set_option maxHeartbeats 8000000 in
set_option maxRecDepth 100000 in
theorem whole_start {p : Program} {e : Env} {s : State} {m : MethodId} {below : List Frame} {meth : Method} {c : Code} (l : Launch) (hflags : l.flags = flags0) {b L : Nat} {xs : Nat → Int32} (hL : L ≤ 3584) (C0 : lw_At p s m meth c b L xs) : W p l e room_1 s m #[Value.ref b] below meth c s.heap [] 0 0 (lw_Z below #[Value.ref b] s) (entryFrame m ([Value.ref b] : List Value).toArray 4) := by
  obtain ⟨hx, hb, hr, hml, hown, hts0, hX, hbl, hlocks, hgv⟩ := id C0
  have hb : c.code = cL_law := hb
  have hown : s.vm.findClass RL = some m.cls := hown
  have hts : ∀ w ∈ wsL_law, w.before #[Value.ref b] s = true := fun w h => hts0 w (wsL_law_in w h)
  obtain ⟨G, hK, h0⟩ := g_ex hts0
  have hS : va_S (A9 G) s.heap s.heap [] := va_S.rf
  have hP : PB G (fun _ => .inr (0, [])) 0 s.heap := ⟨by rw [h0]; rfl, fun k hk => absurd hk (Nat.not_lt_zero _)⟩
  have hl := lv_entry ([.ref b]) (n := 4) (Nat.le_of_ble_eq_true rfl)
  rw [lg_entry_eq]
  generalize (lg_sl ([.ref b]) ++ List.replicate (4 - (lg_sl ([.ref b])).length) Slot.unset).toArray = ls at hl ⊢
  have hl : lv_has ls 4 [(0, .ref b)] := hl
  refine y_new (ci := 7) (fs := [.null, .int (iN 0), .int (iN 0), .null, .null, .int (iN 0), .null, .null, .null, .null, .null]) (C := RX8) (T := TX8) (N := 11) hx hb hts0 inX8 tyX8 tyX8_ok hown (hts0 (.classLink RL 7 RX8) (by decide +kernel)) (hts0 (.instantiable RX8 11) (by decide +kernel)) (hts0 (.initialized RX8) (by decide +kernel)) hK hP hS rfl (fun j hj => by rcases (show j = 0 ∨ j = 1 ∨ j = 2 ∨ j = 3 ∨ j = 4 ∨ j = 5 ∨ j = 6 ∨ j = 7 ∨ j = 8 ∨ j = 9 ∨ j = 10 by omega) with rfl | rfl | rfl | rfl | rfl | rfl | rfl | rfl | rfl | rfl | rfl <;> rfl) (Nat.le_of_ble_eq_true rfl) (Nat.le_of_ble_eq_true rfl) 0 (by decide) dL_law_0 (fun H hP hS => ?_)
  refine lv_dup hx hb dL_law_3 rfl ?_
  refine y_callv (va_runI (As := []) (rest := [.ref (gad G 0)]) ⟨hx, hb, hml, hown, hts⟩ (c_X8_init l G _ (va_up_self _ _ _)) (cwI 0 hts gL_law_X8_init rfl rfl rfl (hts0 (.initialized RX8) (by decide +kernel)) (hts0 (.methodLink RL 9 yX8_init) (by decide +kernel)) (hts0 (.instanceMethod yX8_init) (by decide +kernel)) rfl (by decide +kernel) ⟨Nat.le_of_ble_eq_true rfl, Nat.le_of_ble_eq_true rfl⟩) (y_preS hP hK) rfl rfl hl.1 rfl (lv_room (Nat.le_of_ble_eq_true rfl)) dL_law_4 ⟨Nat.le_of_ble_eq_true rfl, Nat.le_of_ble_eq_true rfl⟩) hS (fun _ h => h) (fun w1 H locs p8 hP hS => ?_)
  obtain ⟨f8, a0, a1, a2, a3, a4, a5, a6, a7, a8, a9, a10, a11, a12, a13, a14, a15, a16, a17, a18, hF⟩ := p8
  refine lv_astore_n (lv' := [(1, .ref (gad G 0)), (0, .ref b)]) hx hb dL_law_7 rfl hl (by decide) rfl (fun ls hl => ?_)
  refine y_new (ci := 8) (fs := [.int (iN 0), .int (iN 0), .null, .null, .null, .null, .null, .null, .int (iN 0), .int (iN 0), .null, .null, .null, .null, .null, .int (iN 0), .null, .null, .int (iN 0), .int (iN 0), .int (iN 0), .long (jN 0), .long (jN 0), .int (iN 0), .null, .null]) (C := RX9) (T := TX9) (N := 26) hx hb hts0 inX9 tyX9 tyX9_ok hown (hts0 (.classLink RL 10 RX9) (by decide +kernel)) (hts0 (.instantiable RX9 26) (by decide +kernel)) (hts0 (.initialized RX9) (by decide +kernel)) hK hP hS rfl (fun j hj => by rcases (show j = 0 ∨ j = 1 ∨ j = 2 ∨ j = 3 ∨ j = 4 ∨ j = 5 ∨ j = 6 ∨ j = 7 ∨ j = 8 ∨ j = 9 ∨ j = 10 ∨ j = 11 ∨ j = 12 ∨ j = 13 ∨ j = 14 ∨ j = 15 ∨ j = 16 ∨ j = 17 ∨ j = 18 ∨ j = 19 ∨ j = 20 ∨ j = 21 ∨ j = 22 ∨ j = 23 ∨ j = 24 ∨ j = 25 by omega) with rfl | rfl | rfl | rfl | rfl | rfl | rfl | rfl | rfl | rfl | rfl | rfl | rfl | rfl | rfl | rfl | rfl | rfl | rfl | rfl | rfl | rfl | rfl | rfl | rfl | rfl <;> rfl) (Nat.le_of_ble_eq_true rfl) (Nat.le_of_ble_eq_true rfl) 59 (by decide) dL_law_8 (fun H hP hS => ?_)
  refine lv_dup hx hb dL_law_11 rfl ?_
  refine y_callv (va_runI (As := []) (rest := [.ref (gad G 59)]) ⟨hx, hb, hml, hown, hts⟩ (c_X9_init l G _ (va_up_self _ _ _)) (cwI 0 hts gL_law_X9_init rfl rfl rfl (hts0 (.initialized RX9) (by decide +kernel)) (hts0 (.methodLink RL 12 yX9_init) (by decide +kernel)) (hts0 (.instanceMethod yX9_init) (by decide +kernel)) rfl (by decide +kernel) ⟨Nat.le_of_ble_eq_true rfl, Nat.le_of_ble_eq_true rfl⟩) (y_preS hP hK) rfl rfl hl.1 rfl (lv_room (Nat.le_of_ble_eq_true rfl)) dL_law_12 ⟨Nat.le_of_ble_eq_true rfl, Nat.le_of_ble_eq_true rfl⟩) hS (fun _ h => h) (fun w2 H locs p9 hP hS => ?_)
  obtain ⟨f9, b59, b60, b61, b62, b63, b64, b65, b66, b67, b68, b69, b70, b71, b72, b73, b74⟩ := p9
  have fr : ∀ k : Nat, k < 59 → w2 k = w1 k := fun k hk => (f9 k (by omega) (by omega) (by omega) (by omega) (by omega) (by omega) (by omega) (by omega) (by omega) (by omega) (by omega) (by omega) (by omega) (by omega) (by omega) (by omega)).trans (va_up_ne _ _ (by omega))
  have d0 := (fr 0 (by omega)).trans a0
  have d1 := (fr 1 (by omega)).trans a1
  have d2 := (fr 2 (by omega)).trans a2
  have d3 := (fr 3 (by omega)).trans a3
  have d4 := (fr 4 (by omega)).trans a4
  have d5 := (fr 5 (by omega)).trans a5
  have d6 := (fr 6 (by omega)).trans a6
  have d7 := (fr 7 (by omega)).trans a7
  have d8 := (fr 8 (by omega)).trans a8
  have d9 := (fr 9 (by omega)).trans a9
  have d10 := (fr 10 (by omega)).trans a10
  have d11 := (fr 11 (by omega)).trans a11
  have d12 := (fr 12 (by omega)).trans a12
  have d13 := (fr 13 (by omega)).trans a13
  have d14 := (fr 14 (by omega)).trans a14
  have d15 := (fr 15 (by omega)).trans a15
  have d16 := (fr 16 (by omega)).trans a16
  have d17 := (fr 17 (by omega)).trans a17
  have d18 := (fr 18 (by omega)).trans a18
  have hF2 : FI G w2 10 := fun j hj => by
    obtain ⟨z0, z1, z2, z3⟩ := hF j hj
    exact ⟨(fr _ (by omega)).trans z0, (fr _ (by omega)).trans z1, (fr _ (by omega)).trans z2, (fr _ (by omega)).trans z3⟩
  have hPW := pw_ok hP d0 d1 d2 d3 d4 d5 d6 d7 d8 d9 d10 d11 d12 d13 d14 d15 d16 d17 d18 b59 b60 b61 b62 b63 b64 b65 b66 b67 b68 b69 b70 b71 b72 b73 b74 hF2
  have hu : ∀ (E : va_E) {k : Nat}, k ≠ 1 → va_up w2 1 E k = w2 k := fun E k hk => va_up_ne _ _ hk
  have hT := lst_init (w := va_up w2 1 (.inl (gQ G, 10, .inr (.inr (.inr (.inr (fun i => some (gad G (19 + 4 * i))))))))) ((hu _ (by decide)).trans d0) ((hu _ (by decide)).trans d2) ((hu _ (by decide)).trans d3) ((hu _ (by decide)).trans d4) ((hu _ (by decide)).trans d5) ((hu _ (by decide)).trans d6) ((hu _ (by decide)).trans d7) ((hu _ (by decide)).trans d8) ((hu _ (by decide)).trans d9) ((hu _ (by decide)).trans d10) ((hu _ (by decide)).trans d11) ((hu _ (by decide)).trans d12) ((hu _ (by decide)).trans d13) ((hu _ (by decide)).trans d14) ((hu _ (by decide)).trans d15) ((hu _ (by decide)).trans d16) ((hu _ (by decide)).trans d17) ((hu _ (by decide)).trans d18) ((hu _ (by decide)).trans b59) ((hu _ (by decide)).trans b60) ((hu _ (by decide)).trans b61) ((hu _ (by decide)).trans b62) ((hu _ (by decide)).trans b63) ((hu _ (by decide)).trans b64) ((hu _ (by decide)).trans b65) ((hu _ (by decide)).trans b66) ((hu _ (by decide)).trans b67) ((hu _ (by decide)).trans b68) ((hu _ (by decide)).trans b69) ((hu _ (by decide)).trans b70) ((hu _ (by decide)).trans b71) ((hu _ (by decide)).trans b72) ((hu _ (by decide)).trans b73) ((hu _ (by decide)).trans b74) (fun j hj => by
    obtain ⟨z0, z1, z2, z3⟩ := hF2 j hj
    exact ⟨(hu _ (by omega)).trans z0, (hu _ (by omega)).trans z1, (hu _ (by omega)).trans z2, (hu _ (by omega)).trans z3⟩)
  refine lv_astore_n (lv' := [(2, .ref (gad G 59)), (1, .ref (gad G 0)), (0, .ref b)]) hx hb dL_law_15 rfl hl (by decide) rfl (fun ls hl => ?_)
  refine n_iconst hx hb dL_law_16 ?_
  refine lv_istore_n (lv' := [(3, .int (iN 0)), (2, .ref (gad G 59)), (1, .ref (gad G 0)), (0, .ref b)]) hx hb dL_law_17 rfl hl (by decide) rfl (fun ls hl => ?_)
  exact law_loop C0 hL hK.2.1 h0 hK.1 ⟨Nat.le_of_ble_eq_true rfl, Nat.le_of_ble_eq_true rfl⟩ (L + 1) 0 (by omega) (by omega) (lv_sub hl [3, 2, 1, 0] rfl) hT hPW hS
