def isPa (now : Int) (q : EV) : Bool := decide (q.1 / 256 ≤ now * (q.1 % 256))
def pastN (now : Int) (L : List EV) : Nat := (L.filter (isPa now)).length
def passN (now : Int) (L : List EV) : Nat := (L.filter (fun q => isPa now q && q.2.2.2)).length
def pfN (now : Int) (L : List EV) : Nat := (L.takeWhile (isPa now)).length
theorem take_sc {α : Type} {L : List α} {k : Nat} {q : α} (h : L[k]? = some q) : L.take (k + 1) = L.take k ++ [q] := by
  rw [List.take_add_one, h]
  rfl
theorem pastN_y {now : Int} {L : List EV} {k : Nat} {q : EV} (h : L[k]? = some q) (h2 : isPa now q = true) : pastN now (L.take k) + 1 = pastN now (L.take (k + 1)) := by
  unfold pastN
  rw [take_sc h, List.filter_append, List.length_append, List.filter_cons, if_pos h2]
  rfl
theorem pastN_n {now : Int} {L : List EV} {k : Nat} {q : EV} (h : L[k]? = some q) (h2 : ¬ isPa now q = true) : pastN now (L.take k) + 0 = pastN now (L.take (k + 1)) := by
  unfold pastN
  rw [take_sc h, List.filter_append, List.length_append, List.filter_cons, if_neg h2]
  rfl
theorem passN_y {now : Int} {L : List EV} {k : Nat} {q : EV} (h : L[k]? = some q) (h2 : isPa now q = true) (h3 : q.2.2.2 = true) : passN now (L.take k) + 1 = passN now (L.take (k + 1)) := by
  unfold passN
  rw [take_sc h, List.filter_append, List.length_append, List.filter_cons, if_pos (by rw [h2, h3]; rfl)]
  rfl
theorem passN_n {now : Int} {L : List EV} {k : Nat} {q : EV} (h : L[k]? = some q) (h2 : ¬ (isPa now q = true ∧ q.2.2.2 = true)) : passN now (L.take k) + 0 = passN now (L.take (k + 1)) := by
  unfold passN
  rw [take_sc h, List.filter_append, List.length_append, List.filter_cons, if_neg (by rw [Bool.and_eq_true]; exact h2)]
  rfl
theorem pf_eq {now : Int} : ∀ {L : List EV} {t : Nat}, (∀ (a : Nat) (q : EV), a < t → L[a]? = some q → isPa now q = true) → t ≤ L.length → (∀ q : EV, L[t]? = some q → ¬ isPa now q = true) → pfN now L = t
  | [], t, _, h, _ => by
    have : t = 0 := by simpa using h
    subst this
    rfl
  | x :: L, 0, _, _, h => by
    have := h x rfl
    show (List.takeWhile _ (x :: L)).length = 0
    rw [List.takeWhile_cons, if_neg this]
    rfl
  | x :: L, t + 1, h1, h2, h3 => by
    have hx := h1 0 x (Nat.succ_pos t) rfl
    have ih := pf_eq (now := now) (L := L) (t := t) (fun a q ha hq => h1 (a + 1) q (by omega) (by rw [List.getElem?_cons_succ]; exact hq)) (by simpa using h2) (fun q hq => h3 q (by rw [List.getElem?_cons_succ]; exact hq))
    show (List.takeWhile _ (x :: L)).length = t + 1
    rw [List.takeWhile_cons, if_pos hx, List.length_cons]
    exact congrArg (· + 1) ih

set_option maxHeartbeats 4000000 in
set_option maxRecDepth 100000 in
theorem c_X9_count (l : Launch) (G : GE) (w : WF) (now : Nat) (came : Nat) (rm : Nat) (mt : Nat) (tm : Nat) (thg : Int) (onn : Int) (two : Int) (lw : Int) (hg : Int) (sq : Nat) (ga : Nat → Int) (pn : Nat → Nat) (mbe : Nat → Int) (mpl : Nat → Int) (msp : Nat → Int) (mN : Nat → Int) (mD : Nat → Int) (mI : Nat → Int) (mJ : Nat → Int) (iP : Nat → Bool) (wh : Int) (e0 : w 59 = .inr (8, [.int (iN ((now : Nat) : Int)), .int (iN ((came : Nat) : Int)), .ref (gad G 60), .ref (gad G 61), .ref (gad G 62), .ref (gad G 63), .ref (gad G 64), .ref (gad G 65), .int (iN ((rm : Nat) : Int)), .int (iN ((mt : Nat) : Int)), .ref (gad G 66), .ref (gad G 67), .ref (gad G 68), .ref (gad G 69), .ref (gad G 70), .int (iN ((tm : Nat) : Int)), .ref (gad G 71), .ref (gad G 72), .int (iN thg), .int (iN onn), .int (iN two), .long (jN lw), .long (jN hg), .int (iN ((sq : Nat) : Int)), .ref (gad G 73), .ref (gad G 74)])) (e1 : w 60 = .inl (gI G, 10, .inl (aN ga))) (e2 : w 61 = .inl (gI G, 10, .inl (aN (pnI pn)))) (e3 : w 62 = .inl (gI G, 80, .inl (aN mbe))) (e4 : w 63 = .inl (gI G, 80, .inl (aN mpl))) (e5 : w 64 = .inl (gI G, 80, .inl (aN msp))) (e6 : w 66 = .inl (gJ G, 800, .inr (.inl (aJ mN)))) (e7 : w 67 = .inl (gJ G, 800, .inr (.inl (aJ mD)))) (e8 : w 68 = .inl (gI G, 800, .inl (aN mI))) (e9 : w 69 = .inl (gI G, 800, .inl (aN mJ))) (e10 : w 70 = .inl (gZ G, 800, .inl (aN (zI iP)))) (p0 : OKS came (rw8 mbe) (rw8 mpl) (rw8 msp) pn ga) (p1 : MONO (rw8 mbe, rw8 mpl, rw8 msp, pn, ga) came) (p2 : now ≤ 400) (p3 : -2147483648 ≤ wh ∧ wh < 2147483648) : Met l yX9_count wsX9_count ({ frames := 4, cells := 0, slots := 0, locals := 113 }) (PcG G w [.ref (gad G 59), .int (iN wh)]) (QI G (fun r w1 => r = iN (if wh = 0 then (now : Int) else if wh = 1 then (came : Int) else if wh = 2 then ((thCnt (thF (rw8 mbe) ga (now : Int) 1) came : Nat) : Int) else if wh = 3 then ((pastN ((now : Nat) : Int) (gwL (rw8 mbe, rw8 mpl, rw8 msp, pn, ga) came) : Nat) : Int) else if wh = 4 then ((passN ((now : Nat) : Int) (gwL (rw8 mbe, rw8 mpl, rw8 msp, pn, ga) came) : Nat) : Int) else if wh = 5 then max (((thCnt (thF (rw8 mbe) ga (now : Int) 1) came : Nat) : Int) - 1) 0 else -100002) ∧ ∃ (mt2 : Nat) (mN2 : Nat → Int) (mD2 : Nat → Int) (mI2 : Nat → Int) (mJ2 : Nat → Int) (iP2 : Nat → Bool), (∀ k : Nat, k ≠ 59 → k ≠ 66 → k ≠ 67 → k ≠ 68 → k ≠ 69 → k ≠ 70 → w1 k = w k) ∧ w1 59 = .inr (8, [.int (iN ((now : Nat) : Int)), .int (iN ((came : Nat) : Int)), .ref (gad G 60), .ref (gad G 61), .ref (gad G 62), .ref (gad G 63), .ref (gad G 64), .ref (gad G 65), .int (iN ((rm : Nat) : Int)), .int (iN ((mt2 : Nat) : Int)), .ref (gad G 66), .ref (gad G 67), .ref (gad G 68), .ref (gad G 69), .ref (gad G 70), .int (iN ((tm : Nat) : Int)), .ref (gad G 71), .ref (gad G 72), .int (iN thg), .int (iN onn), .int (iN two), .long (jN lw), .long (jN hg), .int (iN ((sq : Nat) : Int)), .ref (gad G 73), .ref (gad G 74)]) ∧ w1 66 = .inl (gJ G, 800, .inr (.inl (aJ mN2))) ∧ w1 67 = .inl (gJ G, 800, .inr (.inl (aJ mD2))) ∧ w1 68 = .inl (gI G, 800, .inl (aN mI2)) ∧ w1 69 = .inl (gI G, 800, .inl (aN mJ2)) ∧ w1 70 = .inl (gZ G, 800, .inl (aN (zI iP2))))) 0 0 (AA G) := by
  refine Met.ofW (cc := cX9_count) (maxL := 6) (ret := (some .int)) (by decide) rfl ?_
  intro p e s m args below meth c s₁ B hml hv
  obtain ⟨rfl, hP, hK⟩ := hv
  have hx := B.exec
  have hb := B.bytes
  have hr := B.returns
  have hts := atoms_spec (ws := wsX9_count) B.pre
  have hown : s.vm.findClass RX9 = some m.cls := findClass_of_methodNamed B.named
  have hlocks := B.notSynchronized
  have hS : va_S (AA G) s.heap s.heap [] := va_S.rf
  have hAA : ∀ q, AA G q → AA G q := fun _ h => h
  have hl := lv_entry ([.ref (gad G 59), .int (iN wh)]) (n := 6) (Nat.le_of_ble_eq_true rfl)
  rw [lg_entry_eq]
  generalize (lg_sl ([.ref (gad G 59), .int (iN wh)]) ++ List.replicate (6 - (lg_sl ([.ref (gad G 59), .int (iN wh)])).length) Slot.unset).toArray = ls at hl ⊢
  have hl : lv_has ls 6 [(0, .ref (gad G 59)), (1, .int (iN wh))] := hl
  have hc10 : came ≤ 10 := p0.1
  have hgl := gwL_len p1 (fun i hi => (p0.2 i hi).1.2) p0.1
  refine lv_aload_n hx hb dX9_count_0 rfl (lv_at hl 0 rfl) ?_
  refine f_callv (W.runV (As := []) (rest := []) ⟨hx, hb, hml, hown, hts⟩ (c_X9_findMeetings l G w now came rm mt tm thg onn two lw hg sq ga pn mbe mpl msp mN mD mI mJ iP e0 e1 e2 e3 e4 e5 e6 e7 e8 e9 e10 (p0) (p1)) (cwV 0 hts gX9_count_X9_findMeetings rfl rfl rfl (by decide +kernel) ⟨Nat.le_of_ble_eq_true rfl, Nat.le_of_ble_eq_true rfl⟩) (f_preV hP hK 59 (by omega) 8 e0 rfl) rfl rfl hl.1 rfl (lv_room (Nat.le_of_ble_eq_true rfl)) dX9_count_1 ⟨Nat.zero_le _, Nat.zero_le _⟩) hS hAA (fun w_1 H locs q_2 hP hS => ?_)
  obtain ⟨mt2_3, mN2_4, mD2_5, mI2_6, mJ2_7, iP2_8, fr_9, e_10, e_11, e_12, e_13, e_14, e_15, q_16⟩ := q_2
  have e_17 : w_1 60 = .inl (gI G, 10, .inl (aN ga)) := (fr_9 60 (by omega) (by omega) (by omega) (by omega) (by omega) (by omega)).trans e1
  have e_18 : w_1 61 = .inl (gI G, 10, .inl (aN (pnI pn))) := (fr_9 61 (by omega) (by omega) (by omega) (by omega) (by omega) (by omega)).trans e2
  have e_19 : w_1 62 = .inl (gI G, 80, .inl (aN mbe)) := (fr_9 62 (by omega) (by omega) (by omega) (by omega) (by omega) (by omega)).trans e3
  have e_20 : w_1 63 = .inl (gI G, 80, .inl (aN mpl)) := (fr_9 63 (by omega) (by omega) (by omega) (by omega) (by omega) (by omega)).trans e4
  have e_21 : w_1 64 = .inl (gI G, 80, .inl (aN msp)) := (fr_9 64 (by omega) (by omega) (by omega) (by omega) (by omega) (by omega)).trans e5
  have e_22 : w_1 59 = .inr (8, [.int (iN ((now : Nat) : Int)), .int (iN ((came : Nat) : Int)), .ref (gad G 60), .ref (gad G 61), .ref (gad G 62), .ref (gad G 63), .ref (gad G 64), .ref (gad G 65), .int (iN ((rm : Nat) : Int)), .int (iN ((mt2_3 : Nat) : Int)), .ref (gad G 66), .ref (gad G 67), .ref (gad G 68), .ref (gad G 69), .ref (gad G 70), .int (iN ((tm : Nat) : Int)), .ref (gad G 71), .ref (gad G 72), .int (iN thg), .int (iN onn), .int (iN two), .long (jN lw), .long (jN hg), .int (iN ((sq : Nat) : Int)), .ref (gad G 73), .ref (gad G 74)]) := e_10
  have e_23 : w_1 66 = .inl (gJ G, 800, .inr (.inl (aJ mN2_4))) := e_11
  have e_24 : w_1 67 = .inl (gJ G, 800, .inr (.inl (aJ mD2_5))) := e_12
  have e_25 : w_1 68 = .inl (gI G, 800, .inl (aN mI2_6)) := e_13
  have e_26 : w_1 69 = .inl (gI G, 800, .inl (aN mJ2_7)) := e_14
  have e_27 : w_1 70 = .inl (gZ G, 800, .inl (aN (zI iP2_8))) := e_15
  have hIW := q_16
  have hmt8 : mt2_3 ≤ 675 := by rw [hIW.1]; exact hgl
  refine n_iconst hx hb dX9_count_4 ?_
  refine lv_istore_n (lv' := [(2, .int (iN 0)), (0, .ref (gad G 59)), (1, .int (iN wh))]) hx hb dX9_count_5 rfl hl (by decide) rfl (fun ls hl => ?_)
  refine n_iconst hx hb dX9_count_6 ?_
  refine lv_istore_n (lv' := [(3, .int (iN 0)), (2, .int (iN 0)), (0, .ref (gad G 59)), (1, .int (iN wh))]) hx hb dX9_count_7 rfl hl (by decide) rfl (fun ls hl => ?_)
  refine n_iconst hx hb dX9_count_8 ?_
  refine lv_istore (lv' := [(4, .int (iN 0)), (3, .int (iN 0)), (2, .int (iN 0)), (0, .ref (gad G 59)), (1, .int (iN wh))]) hx hb dX9_count_9 hl (by decide) rfl (fun ls hl => ?_)
  have K11 : ∀ (N : Nat) (k : Nat) (ls : Array Slot), (k ≤ mt2_3) → 801 - k < N → lv_has ls 6 [(0, .ref (gad G 59)), (1, .int (iN wh)), (2, .int (iN ((pastN ((now : Nat) : Int) ((gwL (rw8 mbe, rw8 mpl, rw8 msp, pn, ga) came).take k) : Nat) : Int))), (3, .int (iN ((passN ((now : Nat) : Int) ((gwL (rw8 mbe, rw8 mpl, rw8 msp, pn, ga) came).take k) : Nat) : Int))), (4, .int (iN ((k : Nat) : Int)))] → W p l e (headSpec wsX9_count ({ frames := 4, cells := 0, slots := 0, locals := 113 })).room s m (([.ref (gad G 59), .int (iN wh)] : List Value).toArray) below meth c H locs 0 0 (MQ below (QI G (fun r w1 => r = iN (if wh = 0 then (now : Int) else if wh = 1 then (came : Int) else if wh = 2 then ((thCnt (thF (rw8 mbe) ga (now : Int) 1) came : Nat) : Int) else if wh = 3 then ((pastN ((now : Nat) : Int) (gwL (rw8 mbe, rw8 mpl, rw8 msp, pn, ga) came) : Nat) : Int) else if wh = 4 then ((passN ((now : Nat) : Int) (gwL (rw8 mbe, rw8 mpl, rw8 msp, pn, ga) came) : Nat) : Int) else if wh = 5 then max (((thCnt (thF (rw8 mbe) ga (now : Int) 1) came : Nat) : Int) - 1) 0 else -100002) ∧ ∃ (mt2 : Nat) (mN2 : Nat → Int) (mD2 : Nat → Int) (mI2 : Nat → Int) (mJ2 : Nat → Int) (iP2 : Nat → Bool), (∀ k : Nat, k ≠ 59 → k ≠ 66 → k ≠ 67 → k ≠ 68 → k ≠ 69 → k ≠ 70 → w1 k = w k) ∧ w1 59 = .inr (8, [.int (iN ((now : Nat) : Int)), .int (iN ((came : Nat) : Int)), .ref (gad G 60), .ref (gad G 61), .ref (gad G 62), .ref (gad G 63), .ref (gad G 64), .ref (gad G 65), .int (iN ((rm : Nat) : Int)), .int (iN ((mt2 : Nat) : Int)), .ref (gad G 66), .ref (gad G 67), .ref (gad G 68), .ref (gad G 69), .ref (gad G 70), .int (iN ((tm : Nat) : Int)), .ref (gad G 71), .ref (gad G 72), .int (iN thg), .int (iN onn), .int (iN two), .long (jN lw), .long (jN hg), .int (iN ((sq : Nat) : Int)), .ref (gad G 73), .ref (gad G 74)]) ∧ w1 66 = .inl (gJ G, 800, .inr (.inl (aJ mN2))) ∧ w1 67 = .inl (gJ G, 800, .inr (.inl (aJ mD2))) ∧ w1 68 = .inl (gI G, 800, .inl (aN mI2)) ∧ w1 69 = .inl (gI G, 800, .inl (aN mJ2)) ∧ w1 70 = .inl (gZ G, 800, .inl (aN (zI iP2))))) (([.ref (gad G 59), .int (iN wh)] : List Value).toArray) s 0 0 (AA G)) (F0 m 11 ls []) := by
    intro N
    induction N with
    | zero =>
      intros
      exfalso
      omega
    | succ N ih11 =>
      intro k ls i11_0 hN11 hl
      refine lv_iload hx hb dX9_count_11 (lv_at hl 4 rfl) ?_
      refine lv_aload_n hx hb dX9_count_13 rfl (lv_at hl 0 rfl) ?_
      refine f_get (C := RX9) (T := TX9) (N := 26) hx hb hts (by decide +kernel) hown hK hP 59 (by omega) e_22 rfl 9 (by decide) (hts (.fieldLink RX9 97 "KeptMovingModel" "meetings" "I") (by decide +kernel)) (fun _ h9 => h9) rfl dX9_count_14 ?_
      refine n_icmp_ge (tgt := 93) hx hb dX9_count_17 (by decide) (by omega) (by omega) (by omega) (by omega) (fun c_17 => ?_) (fun c_17 => ?_)
      · have htk : (gwL (rw8 mbe, rw8 mpl, rw8 msp, pn, ga) came).take k = (gwL (rw8 mbe, rw8 mpl, rw8 msp, pn, ga) came) := List.take_of_length_le (by rw [← hIW.1]; omega)
        have hz_28 : pastN ((now : Nat) : Int) ((gwL (rw8 mbe, rw8 mpl, rw8 msp, pn, ga) came).take k) = pastN ((now : Nat) : Int) (gwL (rw8 mbe, rw8 mpl, rw8 msp, pn, ga) came) := by rw [htk]
        have hl : lv_has ls 6 [(0, .ref (gad G 59)), (1, .int (iN wh)), (2, .int (iN ((pastN ((now : Nat) : Int) (gwL (rw8 mbe, rw8 mpl, rw8 msp, pn, ga) came) : Nat) : Int))), (3, .int (iN ((passN ((now : Nat) : Int) ((gwL (rw8 mbe, rw8 mpl, rw8 msp, pn, ga) came).take k) : Nat) : Int))), (4, .int (iN ((k : Nat) : Int)))] := by rw [← hz_28]; exact hl
        have hz_29 : passN ((now : Nat) : Int) ((gwL (rw8 mbe, rw8 mpl, rw8 msp, pn, ga) came).take k) = passN ((now : Nat) : Int) (gwL (rw8 mbe, rw8 mpl, rw8 msp, pn, ga) came) := by rw [htk]
        have hl : lv_has ls 6 [(0, .ref (gad G 59)), (1, .int (iN wh)), (2, .int (iN ((pastN ((now : Nat) : Int) (gwL (rw8 mbe, rw8 mpl, rw8 msp, pn, ga) came) : Nat) : Int))), (3, .int (iN ((passN ((now : Nat) : Int) (gwL (rw8 mbe, rw8 mpl, rw8 msp, pn, ga) came) : Nat) : Int))), (4, .int (iN ((k : Nat) : Int)))] := by rw [← hz_29]; exact hl
        have htc := thCnt_le (thF (rw8 mbe) ga (now : Int) 1) came
        refine lv_aload_n hx hb dX9_count_93 rfl (lv_at hl 0 rfl) ?_
        refine vp_callSi (W.runV (As := []) (rest := []) ⟨hx, hb, hml, hown, hts⟩ (c_X9_thereNow l G w_1 now came rm mt2_3 tm thg onn two lw hg sq ga pn mbe mpl msp e_22 e_17 e_18 e_19 e_20 e_21 (p0) (p2)) (cwV 0 hts gX9_count_X9_thereNow rfl rfl rfl (by decide +kernel) ⟨Nat.le_of_ble_eq_true rfl, Nat.le_of_ble_eq_true rfl⟩) (f_preV hP hK 59 (by omega) 8 e_22 rfl) rfl rfl hl.1 rfl (lv_room (Nat.le_of_ble_eq_true rfl)) dX9_count_94 ⟨Nat.zero_le _, Nat.zero_le _⟩) (fun r_30 hr_30 => ?_)
        rw [show r_30 = iN ((thCnt (thF (rw8 mbe) ga ((now : Nat) : Int) 1) came : Nat) : Int) from hr_30]
        refine lv_istore (lv' := [(4, .int (iN ((thCnt (thF (rw8 mbe) ga ((now : Nat) : Int) 1) came : Nat) : Int))), (0, .ref (gad G 59)), (1, .int (iN wh)), (2, .int (iN ((pastN ((now : Nat) : Int) (gwL (rw8 mbe, rw8 mpl, rw8 msp, pn, ga) came) : Nat) : Int))), (3, .int (iN ((passN ((now : Nat) : Int) (gwL (rw8 mbe, rw8 mpl, rw8 msp, pn, ga) came) : Nat) : Int)))]) hx hb dX9_count_97 hl (by decide) rfl (fun ls hl => ?_)
        refine lv_iload_n hx hb dX9_count_99 rfl (lv_at hl 2 rfl) ?_
        by_cases sw100_0 : wh = 0
        · refine n_tabIn (v := 0) (off := 40) (tgt := 140) hx hb sw100_0 (by omega) (by omega) dX9_count_100 (by decide) (by decide) (by decide) (by decide) ?_
          refine lv_aload_n hx hb dX9_count_140 rfl (lv_at hl 1 rfl) ?_
          refine f_get (C := RX9) (T := TX9) (N := 26) hx hb hts (by decide +kernel) hown hK hP 59 (by omega) e_22 rfl 0 (by decide) (hts (.fieldLink RX9 75 "KeptMovingModel" "now" "I") (by decide +kernel)) (fun _ h9 => h9) rfl dX9_count_141 ?_
          exact r_i hx hb hr dX9_count_144 hlocks hP hS ⟨(congrArg iN (by rw [if_pos (show wh = 0 by omega)])), mt2_3, mN2_4, mD2_5, mI2_6, mJ2_7, iP2_8, (fun k h0 h1 h2 h3 h4 h5 => fr_9 k (by omega) (by omega) (by omega) (by omega) (by omega) (by omega)), e_22, e_23, e_24, e_25, e_26, e_27⟩
        by_cases sw100_1 : wh = 1
        · refine n_tabIn (v := 1) (off := 45) (tgt := 145) hx hb sw100_1 (by omega) (by omega) dX9_count_100 (by decide) (by decide) (by decide) (by decide) ?_
          refine lv_aload_n hx hb dX9_count_145 rfl (lv_at hl 1 rfl) ?_
          refine f_get (C := RX9) (T := TX9) (N := 26) hx hb hts (by decide +kernel) hown hK hP 59 (by omega) e_22 rfl 1 (by decide) (hts (.fieldLink RX9 57 "KeptMovingModel" "points" "I") (by decide +kernel)) (fun _ h9 => h9) rfl dX9_count_146 ?_
          exact r_i hx hb hr dX9_count_149 hlocks hP hS ⟨(congrArg iN (by rw [if_neg (show ¬ wh = 0 by omega), if_pos (show wh = 1 by omega)])), mt2_3, mN2_4, mD2_5, mI2_6, mJ2_7, iP2_8, (fun k h0 h1 h2 h3 h4 h5 => fr_9 k (by omega) (by omega) (by omega) (by omega) (by omega) (by omega)), e_22, e_23, e_24, e_25, e_26, e_27⟩
        by_cases sw100_2 : wh = 2
        · refine n_tabIn (v := 2) (off := 50) (tgt := 150) hx hb sw100_2 (by omega) (by omega) dX9_count_100 (by decide) (by decide) (by decide) (by decide) ?_
          refine lv_iload hx hb dX9_count_150 (lv_at hl 0 rfl) ?_
          exact r_i hx hb hr dX9_count_152 hlocks hP hS ⟨(congrArg iN (by rw [if_neg (show ¬ wh = 0 by omega), if_neg (show ¬ wh = 1 by omega), if_pos (show wh = 2 by omega)])), mt2_3, mN2_4, mD2_5, mI2_6, mJ2_7, iP2_8, (fun k h0 h1 h2 h3 h4 h5 => fr_9 k (by omega) (by omega) (by omega) (by omega) (by omega) (by omega)), e_22, e_23, e_24, e_25, e_26, e_27⟩
        by_cases sw100_3 : wh = 3
        · refine n_tabIn (v := 3) (off := 53) (tgt := 153) hx hb sw100_3 (by omega) (by omega) dX9_count_100 (by decide) (by decide) (by decide) (by decide) ?_
          refine lv_iload_n hx hb dX9_count_153 rfl (lv_at hl 3 rfl) ?_
          exact r_i hx hb hr dX9_count_154 hlocks hP hS ⟨(congrArg iN (by rw [if_neg (show ¬ wh = 0 by omega), if_neg (show ¬ wh = 1 by omega), if_neg (show ¬ wh = 2 by omega), if_pos (show wh = 3 by omega)])), mt2_3, mN2_4, mD2_5, mI2_6, mJ2_7, iP2_8, (fun k h0 h1 h2 h3 h4 h5 => fr_9 k (by omega) (by omega) (by omega) (by omega) (by omega) (by omega)), e_22, e_23, e_24, e_25, e_26, e_27⟩
        by_cases sw100_4 : wh = 4
        · refine n_tabIn (v := 4) (off := 55) (tgt := 155) hx hb sw100_4 (by omega) (by omega) dX9_count_100 (by decide) (by decide) (by decide) (by decide) ?_
          refine lv_iload_n hx hb dX9_count_155 rfl (lv_at hl 4 rfl) ?_
          exact r_i hx hb hr dX9_count_156 hlocks hP hS ⟨(congrArg iN (by rw [if_neg (show ¬ wh = 0 by omega), if_neg (show ¬ wh = 1 by omega), if_neg (show ¬ wh = 2 by omega), if_neg (show ¬ wh = 3 by omega), if_pos (show wh = 4 by omega)])), mt2_3, mN2_4, mD2_5, mI2_6, mJ2_7, iP2_8, (fun k h0 h1 h2 h3 h4 h5 => fr_9 k (by omega) (by omega) (by omega) (by omega) (by omega) (by omega)), e_22, e_23, e_24, e_25, e_26, e_27⟩
        by_cases sw100_5 : wh = 5
        · refine n_tabIn (v := 5) (off := 57) (tgt := 157) hx hb sw100_5 (by omega) (by omega) dX9_count_100 (by decide) (by decide) (by decide) (by decide) ?_
          refine lv_iload hx hb dX9_count_157 (lv_at hl 0 rfl) ?_
          refine n_if_le (tgt := 169) hx hb dX9_count_159 (by decide) (by omega) (by omega) (fun c_159 => ?_) (fun c_159 => ?_)
          · refine n_iconst hx hb dX9_count_169 ?_
            exact r_i hx hb hr dX9_count_170 hlocks hP hS ⟨(congrArg iN (by rw [if_neg (show ¬ wh = 0 by omega), if_neg (show ¬ wh = 1 by omega), if_neg (show ¬ wh = 2 by omega), if_neg (show ¬ wh = 3 by omega), if_neg (show ¬ wh = 4 by omega), if_pos (show wh = 5 by omega)]; omega)), mt2_3, mN2_4, mD2_5, mI2_6, mJ2_7, iP2_8, (fun k h0 h1 h2 h3 h4 h5 => fr_9 k (by omega) (by omega) (by omega) (by omega) (by omega) (by omega)), e_22, e_23, e_24, e_25, e_26, e_27⟩
          · refine lv_iload hx hb dX9_count_162 (lv_at hl 0 rfl) ?_
            refine n_iconst hx hb dX9_count_164 ?_
            refine n_isub hx hb dX9_count_165 ?_
            refine lv_goto (tgt := 170) hx hb dX9_count_166 (by decide) ?_
            exact r_i hx hb hr dX9_count_170 hlocks hP hS ⟨(congrArg iN (by rw [if_neg (show ¬ wh = 0 by omega), if_neg (show ¬ wh = 1 by omega), if_neg (show ¬ wh = 2 by omega), if_neg (show ¬ wh = 3 by omega), if_neg (show ¬ wh = 4 by omega), if_pos (show wh = 5 by omega)]; omega)), mt2_3, mN2_4, mD2_5, mI2_6, mJ2_7, iP2_8, (fun k h0 h1 h2 h3 h4 h5 => fr_9 k (by omega) (by omega) (by omega) (by omega) (by omega) (by omega)), e_22, e_23, e_24, e_25, e_26, e_27⟩
        refine n_tabOut (tgt := 171) hx hb (by omega) (by omega) dX9_count_100 (by omega) (by decide) ?_
        refine n_ldc (z := (-100002)) hx hb hown (hts (.constant RX9 73 (-100002)) (by decide +kernel)) (by decide) dX9_count_171 ?_
        exact r_i hx hb hr dX9_count_173 hlocks hP hS ⟨(congrArg iN (by rw [if_neg (show ¬ wh = 0 by omega), if_neg (show ¬ wh = 1 by omega), if_neg (show ¬ wh = 2 by omega), if_neg (show ¬ wh = 3 by omega), if_neg (show ¬ wh = 4 by omega), if_neg (show ¬ wh = 5 by omega)])), mt2_3, mN2_4, mD2_5, mI2_6, mJ2_7, iP2_8, (fun k h0 h1 h2 h3 h4 h5 => fr_9 k (by omega) (by omega) (by omega) (by omega) (by omega) (by omega)), e_22, e_23, e_24, e_25, e_26, e_27⟩
      · obtain ⟨q, hq⟩ : ∃ q, (gwL (rw8 mbe, rw8 mpl, rw8 msp, pn, ga) came)[k]? = some q := ⟨_, List.getElem?_eq_getElem (show k < (gwL (rw8 mbe, rw8 mpl, rw8 msp, pn, ga) came).length by rw [← hIW.1]; omega)⟩
        obtain ⟨⟨z1, z2, z3, z4, z5⟩, z6⟩ := hIW.2 _ q hq
        have hm1 := mb3 (a := ((now : Nat) : Int)) (b := mD2_5 k) (A := 400) (B := 100) (by omega) (by omega)
        refine lv_aload_n hx hb dX9_count_20 rfl (lv_at hl 0 rfl) ?_
        refine f_get (C := RX9) (T := TX9) (N := 26) hx hb hts (by decide +kernel) hown hK hP 59 (by omega) e_22 rfl 10 (by decide) (hts (.fieldLink RX9 28 "KeptMovingModel" "meetN" "[J") (by decide +kernel)) (fun _ h9 => h9) rfl dX9_count_21 ?_
        refine lv_iload hx hb dX9_count_24 (lv_at hl 4 rfl) ?_
        refine n_lald hx hb hK hP 66 (by omega) e_23 k rfl (by omega) (by decide) dX9_count_26 ?_
        refine lv_aload_n hx hb dX9_count_27 rfl (lv_at hl 0 rfl) ?_
        refine f_get (C := RX9) (T := TX9) (N := 26) hx hb hts (by decide +kernel) hown hK hP 59 (by omega) e_22 rfl 0 (by decide) (hts (.fieldLink RX9 75 "KeptMovingModel" "now" "I") (by decide +kernel)) (fun _ h9 => h9) rfl dX9_count_28 ?_
        refine n_i2l hx hb (by omega) (by omega) dX9_count_31 ?_
        refine lv_aload_n hx hb dX9_count_32 rfl (lv_at hl 0 rfl) ?_
        refine f_get (C := RX9) (T := TX9) (N := 26) hx hb hts (by decide +kernel) hown hK hP 59 (by omega) e_22 rfl 11 (by decide) (hts (.fieldLink RX9 32 "KeptMovingModel" "meetD" "[J") (by decide +kernel)) (fun _ h9 => h9) rfl dX9_count_33 ?_
        refine lv_iload hx hb dX9_count_36 (lv_at hl 4 rfl) ?_
        refine n_lald hx hb hK hP 67 (by omega) e_24 k rfl (by omega) (by decide) dX9_count_38 ?_
        refine n_lmul hx hb dX9_count_39 ?_
        refine n_lcmp hx hb (by omega) (by omega) (by omega) (by omega) dX9_count_40 ?_
        refine n_ifc_gt (tgt := 48) hx hb dX9_count_41 (by decide) (fun c_41 => ?_) (fun c_41 => ?_)
        · refine n_iconst hx hb dX9_count_48 ?_
          refine lv_istore (lv' := [(5, .int (iN 0)), (0, .ref (gad G 59)), (1, .int (iN wh)), (2, .int (iN ((pastN ((now : Nat) : Int) ((gwL (rw8 mbe, rw8 mpl, rw8 msp, pn, ga) came).take k) : Nat) : Int))), (3, .int (iN ((passN ((now : Nat) : Int) ((gwL (rw8 mbe, rw8 mpl, rw8 msp, pn, ga) came).take k) : Nat) : Int))), (4, .int (iN ((k : Nat) : Int)))]) hx hb dX9_count_49 hl (by decide) rfl (fun ls hl => ?_)
          refine lv_iload_n hx hb dX9_count_51 rfl (lv_at hl 3 rfl) ?_
          refine lv_iload hx hb dX9_count_52 (lv_at hl 0 rfl) ?_
          refine n_if_eq (tgt := 61) hx hb dX9_count_54 (by decide) (by omega) (by omega) (fun c_54 => ?_) (fun c_54 => ?_)
          · refine n_iconst hx hb dX9_count_61 ?_
            refine n_iadd hx hb dX9_count_62 ?_
            refine n_top (A := ((pastN ((now : Nat) : Int) ((gwL (rw8 mbe, rw8 mpl, rw8 msp, pn, ga) came).take k) : Nat) : Int) + 0) (B := (((pastN ((now : Nat) : Int) ((gwL (rw8 mbe, rw8 mpl, rw8 msp, pn, ga) came).take k)) + 0 : Nat) : Int)) (by omega) ?_
            refine lv_istore_n (lv' := [(2, .int (iN (((pastN ((now : Nat) : Int) ((gwL (rw8 mbe, rw8 mpl, rw8 msp, pn, ga) came).take k)) + 0 : Nat) : Int))), (5, .int (iN 0)), (0, .ref (gad G 59)), (1, .int (iN wh)), (3, .int (iN ((passN ((now : Nat) : Int) ((gwL (rw8 mbe, rw8 mpl, rw8 msp, pn, ga) came).take k) : Nat) : Int))), (4, .int (iN ((k : Nat) : Int)))]) hx hb dX9_count_63 rfl hl (by decide) rfl (fun ls hl => ?_)
            refine lv_iload_n hx hb dX9_count_64 rfl (lv_at hl 4 rfl) ?_
            refine lv_iload hx hb dX9_count_65 (lv_at hl 1 rfl) ?_
            refine n_if_eq (tgt := 84) hx hb dX9_count_67 (by decide) (by omega) (by omega) (fun c_67 => ?_) (fun c_67 => ?_)
            · refine n_iconst hx hb dX9_count_84 ?_
              refine n_iadd hx hb dX9_count_85 ?_
              refine n_top (A := ((passN ((now : Nat) : Int) ((gwL (rw8 mbe, rw8 mpl, rw8 msp, pn, ga) came).take k) : Nat) : Int) + 0) (B := (((passN ((now : Nat) : Int) ((gwL (rw8 mbe, rw8 mpl, rw8 msp, pn, ga) came).take k)) + 0 : Nat) : Int)) (by omega) ?_
              refine lv_istore_n (lv' := [(3, .int (iN (((passN ((now : Nat) : Int) ((gwL (rw8 mbe, rw8 mpl, rw8 msp, pn, ga) came).take k)) + 0 : Nat) : Int))), (2, .int (iN (((pastN ((now : Nat) : Int) ((gwL (rw8 mbe, rw8 mpl, rw8 msp, pn, ga) came).take k)) + 0 : Nat) : Int))), (5, .int (iN 0)), (0, .ref (gad G 59)), (1, .int (iN wh)), (4, .int (iN ((k : Nat) : Int)))]) hx hb dX9_count_86 rfl hl (by decide) rfl (fun ls hl => ?_)
              have hz_31 : (pastN ((now : Nat) : Int) ((gwL (rw8 mbe, rw8 mpl, rw8 msp, pn, ga) came).take k)) + 0 = pastN ((now : Nat) : Int) ((gwL (rw8 mbe, rw8 mpl, rw8 msp, pn, ga) came).take (k + 1)) := by exact pastN_n hq (fun z : isPa _ q = true => absurd (of_decide_eq_true z) (by rw [← z1, ← z2]; omega))
              have hl : lv_has ls 6 [(3, .int (iN (((passN ((now : Nat) : Int) ((gwL (rw8 mbe, rw8 mpl, rw8 msp, pn, ga) came).take k)) + 0 : Nat) : Int))), (2, .int (iN ((pastN ((now : Nat) : Int) ((gwL (rw8 mbe, rw8 mpl, rw8 msp, pn, ga) came).take (k + 1)) : Nat) : Int))), (5, .int (iN 0)), (0, .ref (gad G 59)), (1, .int (iN wh)), (4, .int (iN ((k : Nat) : Int)))] := by rw [← hz_31]; exact hl
              have hz_32 : (passN ((now : Nat) : Int) ((gwL (rw8 mbe, rw8 mpl, rw8 msp, pn, ga) came).take k)) + 0 = passN ((now : Nat) : Int) ((gwL (rw8 mbe, rw8 mpl, rw8 msp, pn, ga) came).take (k + 1)) := by exact passN_n hq (fun z => (fun z : isPa _ q = true => absurd (of_decide_eq_true z) (by rw [← z1, ← z2]; omega)) z.1)
              have hl : lv_has ls 6 [(3, .int (iN ((passN ((now : Nat) : Int) ((gwL (rw8 mbe, rw8 mpl, rw8 msp, pn, ga) came).take (k + 1)) : Nat) : Int))), (2, .int (iN ((pastN ((now : Nat) : Int) ((gwL (rw8 mbe, rw8 mpl, rw8 msp, pn, ga) came).take (k + 1)) : Nat) : Int))), (5, .int (iN 0)), (0, .ref (gad G 59)), (1, .int (iN wh)), (4, .int (iN ((k : Nat) : Int)))] := by rw [← hz_32]; exact hl
              refine lv_iinc (v := iN ((k + 1 : Nat) : Int)) (lv' := [(4, .int (iN ((k + 1 : Nat) : Int))), (3, .int (iN ((passN ((now : Nat) : Int) ((gwL (rw8 mbe, rw8 mpl, rw8 msp, pn, ga) came).take (k + 1)) : Nat) : Int))), (2, .int (iN ((pastN ((now : Nat) : Int) ((gwL (rw8 mbe, rw8 mpl, rw8 msp, pn, ga) came).take (k + 1)) : Nat) : Int))), (5, .int (iN 0)), (0, .ref (gad G 59)), (1, .int (iN wh))]) hx hb dX9_count_87 hl (k := 5) rfl (iN_incN _) (by decide) rfl (fun ls hl => ?_)
              refine lv_goto (tgt := 11) hx hb dX9_count_90 (by decide) ?_
              exact ih11 (k + 1) _ (by omega) (by omega) (lv_sub hl [4, 5, 2, 1, 0] rfl)
            · exact absurd c_67 (by decide)
          · exact absurd c_54 (by decide)
        · refine n_iconst hx hb dX9_count_44 ?_
          refine lv_goto (tgt := 49) hx hb dX9_count_45 (by decide) ?_
          refine lv_istore (lv' := [(5, .int (iN 1)), (0, .ref (gad G 59)), (1, .int (iN wh)), (2, .int (iN ((pastN ((now : Nat) : Int) ((gwL (rw8 mbe, rw8 mpl, rw8 msp, pn, ga) came).take k) : Nat) : Int))), (3, .int (iN ((passN ((now : Nat) : Int) ((gwL (rw8 mbe, rw8 mpl, rw8 msp, pn, ga) came).take k) : Nat) : Int))), (4, .int (iN ((k : Nat) : Int)))]) hx hb dX9_count_49 hl (by decide) rfl (fun ls hl => ?_)
          refine lv_iload_n hx hb dX9_count_51 rfl (lv_at hl 3 rfl) ?_
          refine lv_iload hx hb dX9_count_52 (lv_at hl 0 rfl) ?_
          refine n_if_eq (tgt := 61) hx hb dX9_count_54 (by decide) (by omega) (by omega) (fun c_54 => ?_) (fun c_54 => ?_)
          · exact absurd c_54 (by decide)
          · refine n_iconst hx hb dX9_count_57 ?_
            refine lv_goto (tgt := 62) hx hb dX9_count_58 (by decide) ?_
            refine n_iadd hx hb dX9_count_62 ?_
            refine n_top (A := ((pastN ((now : Nat) : Int) ((gwL (rw8 mbe, rw8 mpl, rw8 msp, pn, ga) came).take k) : Nat) : Int) + 1) (B := (((pastN ((now : Nat) : Int) ((gwL (rw8 mbe, rw8 mpl, rw8 msp, pn, ga) came).take k)) + 1 : Nat) : Int)) (by omega) ?_
            refine lv_istore_n (lv' := [(2, .int (iN (((pastN ((now : Nat) : Int) ((gwL (rw8 mbe, rw8 mpl, rw8 msp, pn, ga) came).take k)) + 1 : Nat) : Int))), (5, .int (iN 1)), (0, .ref (gad G 59)), (1, .int (iN wh)), (3, .int (iN ((passN ((now : Nat) : Int) ((gwL (rw8 mbe, rw8 mpl, rw8 msp, pn, ga) came).take k) : Nat) : Int))), (4, .int (iN ((k : Nat) : Int)))]) hx hb dX9_count_63 rfl hl (by decide) rfl (fun ls hl => ?_)
            refine lv_iload_n hx hb dX9_count_64 rfl (lv_at hl 4 rfl) ?_
            refine lv_iload hx hb dX9_count_65 (lv_at hl 1 rfl) ?_
            refine n_if_eq (tgt := 84) hx hb dX9_count_67 (by decide) (by omega) (by omega) (fun c_67 => ?_) (fun c_67 => ?_)
            · exact absurd c_67 (by decide)
            · refine lv_aload_n hx hb dX9_count_70 rfl (lv_at hl 2 rfl) ?_
              refine f_get (C := RX9) (T := TX9) (N := 26) hx hb hts (by decide +kernel) hown hK hP 59 (by omega) e_22 rfl 14 (by decide) (hts (.fieldLink RX9 41 "KeptMovingModel" "isPass" "[Z") (by decide +kernel)) (fun _ h9 => h9) rfl dX9_count_71 ?_
              refine lv_iload hx hb dX9_count_74 (lv_at hl 5 rfl) ?_
              refine n_zald hx hb hK hP 70 (by omega) e_27 k rfl (by omega) (by decide) dX9_count_76 ?_
              refine n_top (B := (if iP2_8 k = true then 1 else 0)) rfl ?_
              refine n_ifb_eq (tgt := 84) hx hb dX9_count_77 (by decide) (fun c_77 => ?_) (fun c_77 => ?_)
              · refine n_iconst hx hb dX9_count_84 ?_
                refine n_iadd hx hb dX9_count_85 ?_
                refine n_top (A := ((passN ((now : Nat) : Int) ((gwL (rw8 mbe, rw8 mpl, rw8 msp, pn, ga) came).take k) : Nat) : Int) + 0) (B := (((passN ((now : Nat) : Int) ((gwL (rw8 mbe, rw8 mpl, rw8 msp, pn, ga) came).take k)) + 0 : Nat) : Int)) (by omega) ?_
                refine lv_istore_n (lv' := [(3, .int (iN (((passN ((now : Nat) : Int) ((gwL (rw8 mbe, rw8 mpl, rw8 msp, pn, ga) came).take k)) + 0 : Nat) : Int))), (2, .int (iN (((pastN ((now : Nat) : Int) ((gwL (rw8 mbe, rw8 mpl, rw8 msp, pn, ga) came).take k)) + 1 : Nat) : Int))), (5, .int (iN 1)), (0, .ref (gad G 59)), (1, .int (iN wh)), (4, .int (iN ((k : Nat) : Int)))]) hx hb dX9_count_86 rfl hl (by decide) rfl (fun ls hl => ?_)
                have hz_33 : (pastN ((now : Nat) : Int) ((gwL (rw8 mbe, rw8 mpl, rw8 msp, pn, ga) came).take k)) + 1 = pastN ((now : Nat) : Int) ((gwL (rw8 mbe, rw8 mpl, rw8 msp, pn, ga) came).take (k + 1)) := by exact pastN_y hq (decide_eq_true (by rw [← z1, ← z2]; omega))
                have hl : lv_has ls 6 [(3, .int (iN (((passN ((now : Nat) : Int) ((gwL (rw8 mbe, rw8 mpl, rw8 msp, pn, ga) came).take k)) + 0 : Nat) : Int))), (2, .int (iN ((pastN ((now : Nat) : Int) ((gwL (rw8 mbe, rw8 mpl, rw8 msp, pn, ga) came).take (k + 1)) : Nat) : Int))), (5, .int (iN 1)), (0, .ref (gad G 59)), (1, .int (iN wh)), (4, .int (iN ((k : Nat) : Int)))] := by rw [← hz_33]; exact hl
                have hz_34 : (passN ((now : Nat) : Int) ((gwL (rw8 mbe, rw8 mpl, rw8 msp, pn, ga) came).take k)) + 0 = passN ((now : Nat) : Int) ((gwL (rw8 mbe, rw8 mpl, rw8 msp, pn, ga) came).take (k + 1)) := by exact passN_n hq (fun z => absurd z.2 (by rw [← z5]; exact c_77))
                have hl : lv_has ls 6 [(3, .int (iN ((passN ((now : Nat) : Int) ((gwL (rw8 mbe, rw8 mpl, rw8 msp, pn, ga) came).take (k + 1)) : Nat) : Int))), (2, .int (iN ((pastN ((now : Nat) : Int) ((gwL (rw8 mbe, rw8 mpl, rw8 msp, pn, ga) came).take (k + 1)) : Nat) : Int))), (5, .int (iN 1)), (0, .ref (gad G 59)), (1, .int (iN wh)), (4, .int (iN ((k : Nat) : Int)))] := by rw [← hz_34]; exact hl
                refine lv_iinc (v := iN ((k + 1 : Nat) : Int)) (lv' := [(4, .int (iN ((k + 1 : Nat) : Int))), (3, .int (iN ((passN ((now : Nat) : Int) ((gwL (rw8 mbe, rw8 mpl, rw8 msp, pn, ga) came).take (k + 1)) : Nat) : Int))), (2, .int (iN ((pastN ((now : Nat) : Int) ((gwL (rw8 mbe, rw8 mpl, rw8 msp, pn, ga) came).take (k + 1)) : Nat) : Int))), (5, .int (iN 1)), (0, .ref (gad G 59)), (1, .int (iN wh))]) hx hb dX9_count_87 hl (k := 5) rfl (iN_incN _) (by decide) rfl (fun ls hl => ?_)
                refine lv_goto (tgt := 11) hx hb dX9_count_90 (by decide) ?_
                exact ih11 (k + 1) _ (by omega) (by omega) (lv_sub hl [4, 5, 2, 1, 0] rfl)
              · refine n_iconst hx hb dX9_count_80 ?_
                refine lv_goto (tgt := 85) hx hb dX9_count_81 (by decide) ?_
                refine n_iadd hx hb dX9_count_85 ?_
                refine n_top (A := ((passN ((now : Nat) : Int) ((gwL (rw8 mbe, rw8 mpl, rw8 msp, pn, ga) came).take k) : Nat) : Int) + 1) (B := (((passN ((now : Nat) : Int) ((gwL (rw8 mbe, rw8 mpl, rw8 msp, pn, ga) came).take k)) + 1 : Nat) : Int)) (by omega) ?_
                refine lv_istore_n (lv' := [(3, .int (iN (((passN ((now : Nat) : Int) ((gwL (rw8 mbe, rw8 mpl, rw8 msp, pn, ga) came).take k)) + 1 : Nat) : Int))), (2, .int (iN (((pastN ((now : Nat) : Int) ((gwL (rw8 mbe, rw8 mpl, rw8 msp, pn, ga) came).take k)) + 1 : Nat) : Int))), (5, .int (iN 1)), (0, .ref (gad G 59)), (1, .int (iN wh)), (4, .int (iN ((k : Nat) : Int)))]) hx hb dX9_count_86 rfl hl (by decide) rfl (fun ls hl => ?_)
                have hz_35 : (pastN ((now : Nat) : Int) ((gwL (rw8 mbe, rw8 mpl, rw8 msp, pn, ga) came).take k)) + 1 = pastN ((now : Nat) : Int) ((gwL (rw8 mbe, rw8 mpl, rw8 msp, pn, ga) came).take (k + 1)) := by exact pastN_y hq (decide_eq_true (by rw [← z1, ← z2]; omega))
                have hl : lv_has ls 6 [(3, .int (iN (((passN ((now : Nat) : Int) ((gwL (rw8 mbe, rw8 mpl, rw8 msp, pn, ga) came).take k)) + 1 : Nat) : Int))), (2, .int (iN ((pastN ((now : Nat) : Int) ((gwL (rw8 mbe, rw8 mpl, rw8 msp, pn, ga) came).take (k + 1)) : Nat) : Int))), (5, .int (iN 1)), (0, .ref (gad G 59)), (1, .int (iN wh)), (4, .int (iN ((k : Nat) : Int)))] := by rw [← hz_35]; exact hl
                have hz_36 : (passN ((now : Nat) : Int) ((gwL (rw8 mbe, rw8 mpl, rw8 msp, pn, ga) came).take k)) + 1 = passN ((now : Nat) : Int) ((gwL (rw8 mbe, rw8 mpl, rw8 msp, pn, ga) came).take (k + 1)) := by exact passN_y hq (decide_eq_true (by rw [← z1, ← z2]; omega)) (by rw [← z5]; exact c_77)
                have hl : lv_has ls 6 [(3, .int (iN ((passN ((now : Nat) : Int) ((gwL (rw8 mbe, rw8 mpl, rw8 msp, pn, ga) came).take (k + 1)) : Nat) : Int))), (2, .int (iN ((pastN ((now : Nat) : Int) ((gwL (rw8 mbe, rw8 mpl, rw8 msp, pn, ga) came).take (k + 1)) : Nat) : Int))), (5, .int (iN 1)), (0, .ref (gad G 59)), (1, .int (iN wh)), (4, .int (iN ((k : Nat) : Int)))] := by rw [← hz_36]; exact hl
                refine lv_iinc (v := iN ((k + 1 : Nat) : Int)) (lv' := [(4, .int (iN ((k + 1 : Nat) : Int))), (3, .int (iN ((passN ((now : Nat) : Int) ((gwL (rw8 mbe, rw8 mpl, rw8 msp, pn, ga) came).take (k + 1)) : Nat) : Int))), (2, .int (iN ((pastN ((now : Nat) : Int) ((gwL (rw8 mbe, rw8 mpl, rw8 msp, pn, ga) came).take (k + 1)) : Nat) : Int))), (5, .int (iN 1)), (0, .ref (gad G 59)), (1, .int (iN wh))]) hx hb dX9_count_87 hl (k := 5) rfl (iN_incN _) (by decide) rfl (fun ls hl => ?_)
                refine lv_goto (tgt := 11) hx hb dX9_count_90 (by decide) ?_
                exact ih11 (k + 1) _ (by omega) (by omega) (lv_sub hl [4, 5, 2, 1, 0] rfl)
  have hz_37 : 0 = pastN ((now : Nat) : Int) ((gwL (rw8 mbe, rw8 mpl, rw8 msp, pn, ga) came).take 0) := by exact rfl
  have hl : lv_has ls 6 [(4, .int (iN 0)), (3, .int (iN 0)), (2, .int (iN ((pastN ((now : Nat) : Int) ((gwL (rw8 mbe, rw8 mpl, rw8 msp, pn, ga) came).take 0) : Nat) : Int))), (0, .ref (gad G 59)), (1, .int (iN wh))] := by rw [← hz_37]; exact hl
  have hz_38 : 0 = passN ((now : Nat) : Int) ((gwL (rw8 mbe, rw8 mpl, rw8 msp, pn, ga) came).take 0) := by exact rfl
  have hl : lv_has ls 6 [(4, .int (iN 0)), (3, .int (iN ((passN ((now : Nat) : Int) ((gwL (rw8 mbe, rw8 mpl, rw8 msp, pn, ga) came).take 0) : Nat) : Int))), (2, .int (iN ((pastN ((now : Nat) : Int) ((gwL (rw8 mbe, rw8 mpl, rw8 msp, pn, ga) came).take 0) : Nat) : Int))), (0, .ref (gad G 59)), (1, .int (iN wh))] := by rw [← hz_38]; exact hl
  exact K11 ((801 - 0) + 1) (0) _ (by omega) (by omega) (lv_sub hl [3, 4, 2, 1, 0] rfl)

set_option maxHeartbeats 4000000 in
set_option maxRecDepth 100000 in
theorem c_X9_meeting (l : Launch) (G : GE) (w : WF) (now : Nat) (came : Nat) (rm : Nat) (mt : Nat) (tm : Nat) (thg : Int) (onn : Int) (two : Int) (lw : Int) (hg : Int) (sq : Nat) (ga : Nat → Int) (pn : Nat → Nat) (mbe : Nat → Int) (mpl : Nat → Int) (msp : Nat → Int) (mN : Nat → Int) (mD : Nat → Int) (mI : Nat → Int) (mJ : Nat → Int) (iP : Nat → Bool) (k : Int) (wh : Int) (e0 : w 59 = .inr (8, [.int (iN ((now : Nat) : Int)), .int (iN ((came : Nat) : Int)), .ref (gad G 60), .ref (gad G 61), .ref (gad G 62), .ref (gad G 63), .ref (gad G 64), .ref (gad G 65), .int (iN ((rm : Nat) : Int)), .int (iN ((mt : Nat) : Int)), .ref (gad G 66), .ref (gad G 67), .ref (gad G 68), .ref (gad G 69), .ref (gad G 70), .int (iN ((tm : Nat) : Int)), .ref (gad G 71), .ref (gad G 72), .int (iN thg), .int (iN onn), .int (iN two), .long (jN lw), .long (jN hg), .int (iN ((sq : Nat) : Int)), .ref (gad G 73), .ref (gad G 74)])) (e1 : w 60 = .inl (gI G, 10, .inl (aN ga))) (e2 : w 61 = .inl (gI G, 10, .inl (aN (pnI pn)))) (e3 : w 62 = .inl (gI G, 80, .inl (aN mbe))) (e4 : w 63 = .inl (gI G, 80, .inl (aN mpl))) (e5 : w 64 = .inl (gI G, 80, .inl (aN msp))) (e6 : w 66 = .inl (gJ G, 800, .inr (.inl (aJ mN)))) (e7 : w 67 = .inl (gJ G, 800, .inr (.inl (aJ mD)))) (e8 : w 68 = .inl (gI G, 800, .inl (aN mI))) (e9 : w 69 = .inl (gI G, 800, .inl (aN mJ))) (e10 : w 70 = .inl (gZ G, 800, .inl (aN (zI iP)))) (p0 : OKS came (rw8 mbe) (rw8 mpl) (rw8 msp) pn ga) (p1 : MONO (rw8 mbe, rw8 mpl, rw8 msp, pn, ga) came) (p2 : now ≤ 400) (p3 : -2147483648 ≤ k ∧ k < 2147483648) (p4 : -2147483648 ≤ wh ∧ wh < 2147483648) : Met l yX9_meeting wsX9_meeting ({ frames := 4, cells := 0, slots := 0, locals := 113 }) (PcG G w [.ref (gad G 59), .int (iN k), .int (iN wh)]) (QI G (fun r w1 => r = iN (if 0 ≤ wh ∧ wh ≤ 3 then (if k = -1 then fld ((gwL (rw8 mbe, rw8 mpl, rw8 msp, pn, ga) came)[pfN ((now : Nat) : Int) (gwL (rw8 mbe, rw8 mpl, rw8 msp, pn, ga) came)]?) wh else if 0 ≤ k ∧ k < ((pfN ((now : Nat) : Int) (gwL (rw8 mbe, rw8 mpl, rw8 msp, pn, ga) came) : Nat) : Int) then fld ((gwL (rw8 mbe, rw8 mpl, rw8 msp, pn, ga) came)[k.toNat]?) wh else -1) else -100002) ∧ ∃ (mt2 : Nat) (mN2 : Nat → Int) (mD2 : Nat → Int) (mI2 : Nat → Int) (mJ2 : Nat → Int) (iP2 : Nat → Bool), (∀ k : Nat, k ≠ 59 → k ≠ 66 → k ≠ 67 → k ≠ 68 → k ≠ 69 → k ≠ 70 → w1 k = w k) ∧ w1 59 = .inr (8, [.int (iN ((now : Nat) : Int)), .int (iN ((came : Nat) : Int)), .ref (gad G 60), .ref (gad G 61), .ref (gad G 62), .ref (gad G 63), .ref (gad G 64), .ref (gad G 65), .int (iN ((rm : Nat) : Int)), .int (iN ((mt2 : Nat) : Int)), .ref (gad G 66), .ref (gad G 67), .ref (gad G 68), .ref (gad G 69), .ref (gad G 70), .int (iN ((tm : Nat) : Int)), .ref (gad G 71), .ref (gad G 72), .int (iN thg), .int (iN onn), .int (iN two), .long (jN lw), .long (jN hg), .int (iN ((sq : Nat) : Int)), .ref (gad G 73), .ref (gad G 74)]) ∧ w1 66 = .inl (gJ G, 800, .inr (.inl (aJ mN2))) ∧ w1 67 = .inl (gJ G, 800, .inr (.inl (aJ mD2))) ∧ w1 68 = .inl (gI G, 800, .inl (aN mI2)) ∧ w1 69 = .inl (gI G, 800, .inl (aN mJ2)) ∧ w1 70 = .inl (gZ G, 800, .inl (aN (zI iP2))))) 0 0 (AA G) := by
  refine Met.ofW (cc := cX9_meeting) (maxL := 5) (ret := (some .int)) (by decide) rfl ?_
  intro p e s m args below meth c s₁ B hml hv
  obtain ⟨rfl, hP, hK⟩ := hv
  have hx := B.exec
  have hb := B.bytes
  have hr := B.returns
  have hts := atoms_spec (ws := wsX9_meeting) B.pre
  have hown : s.vm.findClass RX9 = some m.cls := findClass_of_methodNamed B.named
  have hlocks := B.notSynchronized
  have hS : va_S (AA G) s.heap s.heap [] := va_S.rf
  have hAA : ∀ q, AA G q → AA G q := fun _ h => h
  have hl := lv_entry ([.ref (gad G 59), .int (iN k), .int (iN wh)]) (n := 5) (Nat.le_of_ble_eq_true rfl)
  rw [lg_entry_eq]
  generalize (lg_sl ([.ref (gad G 59), .int (iN k), .int (iN wh)]) ++ List.replicate (5 - (lg_sl ([.ref (gad G 59), .int (iN k), .int (iN wh)])).length) Slot.unset).toArray = ls at hl ⊢
  have hl : lv_has ls 5 [(0, .ref (gad G 59)), (1, .int (iN k)), (2, .int (iN wh))] := hl
  have hc10 : came ≤ 10 := p0.1
  have hgl := gwL_len p1 (fun i hi => (p0.2 i hi).1.2) p0.1
  refine lv_iload_n hx hb dX9_meeting_0 rfl (lv_at hl 2 rfl) ?_
  refine n_i2l hx hb (by omega) (by omega) dX9_meeting_1 ?_
  refine n_lconst (z := 0) hx hb dX9_meeting_2 (by decide) ?_
  refine n_ldc2 (z := (3)) hx hb hown (hts (.constantLong RX9 169 (3)) (by decide +kernel)) (by decide) dX9_meeting_3 ?_
  refine vp_callSi (W.runS (As := [.long (jN wh), .long (jN 0), .long (jN 3)]) (rest := []) ⟨hx, hb, hml, hown, hts⟩ (c_X9_in l wh (0 : Int) (3 : Int) (by omega) (by omega) (by omega)) (va_cwS 3 hts gX9_meeting_X9_in rfl rfl rfl (by decide +kernel) ⟨Nat.le_of_ble_eq_true rfl, Nat.le_of_ble_eq_true rfl⟩) ⟨fun _ _ _ _ q => q, fun _ _ _ => rfl⟩ rfl rfl hl.1 rfl (lv_room (Nat.le_of_ble_eq_true rfl)) dX9_meeting_6 ⟨Nat.zero_le _, Nat.zero_le _⟩) (fun r_1 hr_1 => ?_)
  rw [show r_1 = iN (if ((0 : Int) ≤ wh ∧ wh ≤ (3 : Int)) then 1 else 0) from hr_1]
  refine n_ifb_ne (tgt := 15) hx hb dX9_meeting_9 (by decide) (fun c_9 => ?_) (fun c_9 => ?_)
  · refine lv_aload_n hx hb dX9_meeting_15 rfl (lv_at hl 0 rfl) ?_
    refine f_callv (W.runV (As := []) (rest := []) ⟨hx, hb, hml, hown, hts⟩ (c_X9_findMeetings l G w now came rm mt tm thg onn two lw hg sq ga pn mbe mpl msp mN mD mI mJ iP e0 e1 e2 e3 e4 e5 e6 e7 e8 e9 e10 (p0) (p1)) (cwV 0 hts gX9_meeting_X9_findMeetings rfl rfl rfl (by decide +kernel) ⟨Nat.le_of_ble_eq_true rfl, Nat.le_of_ble_eq_true rfl⟩) (f_preV hP hK 59 (by omega) 8 e0 rfl) rfl rfl hl.1 rfl (lv_room (Nat.le_of_ble_eq_true rfl)) dX9_meeting_16 ⟨Nat.zero_le _, Nat.zero_le _⟩) hS hAA (fun w_2 H locs q_3 hP hS => ?_)
    obtain ⟨mt2_4, mN2_5, mD2_6, mI2_7, mJ2_8, iP2_9, fr_10, e_11, e_12, e_13, e_14, e_15, e_16, q_17⟩ := q_3
    have e_18 : w_2 60 = .inl (gI G, 10, .inl (aN ga)) := (fr_10 60 (by omega) (by omega) (by omega) (by omega) (by omega) (by omega)).trans e1
    have e_19 : w_2 61 = .inl (gI G, 10, .inl (aN (pnI pn))) := (fr_10 61 (by omega) (by omega) (by omega) (by omega) (by omega) (by omega)).trans e2
    have e_20 : w_2 62 = .inl (gI G, 80, .inl (aN mbe)) := (fr_10 62 (by omega) (by omega) (by omega) (by omega) (by omega) (by omega)).trans e3
    have e_21 : w_2 63 = .inl (gI G, 80, .inl (aN mpl)) := (fr_10 63 (by omega) (by omega) (by omega) (by omega) (by omega) (by omega)).trans e4
    have e_22 : w_2 64 = .inl (gI G, 80, .inl (aN msp)) := (fr_10 64 (by omega) (by omega) (by omega) (by omega) (by omega) (by omega)).trans e5
    have e_23 : w_2 59 = .inr (8, [.int (iN ((now : Nat) : Int)), .int (iN ((came : Nat) : Int)), .ref (gad G 60), .ref (gad G 61), .ref (gad G 62), .ref (gad G 63), .ref (gad G 64), .ref (gad G 65), .int (iN ((rm : Nat) : Int)), .int (iN ((mt2_4 : Nat) : Int)), .ref (gad G 66), .ref (gad G 67), .ref (gad G 68), .ref (gad G 69), .ref (gad G 70), .int (iN ((tm : Nat) : Int)), .ref (gad G 71), .ref (gad G 72), .int (iN thg), .int (iN onn), .int (iN two), .long (jN lw), .long (jN hg), .int (iN ((sq : Nat) : Int)), .ref (gad G 73), .ref (gad G 74)]) := e_11
    have e_24 : w_2 66 = .inl (gJ G, 800, .inr (.inl (aJ mN2_5))) := e_12
    have e_25 : w_2 67 = .inl (gJ G, 800, .inr (.inl (aJ mD2_6))) := e_13
    have e_26 : w_2 68 = .inl (gI G, 800, .inl (aN mI2_7)) := e_14
    have e_27 : w_2 69 = .inl (gI G, 800, .inl (aN mJ2_8)) := e_15
    have e_28 : w_2 70 = .inl (gZ G, 800, .inl (aN (zI iP2_9))) := e_16
    have hIW := q_17
    have hmt8 : mt2_4 ≤ 675 := by rw [hIW.1]; exact hgl
    refine n_iconst hx hb dX9_meeting_19 ?_
    refine lv_istore_n (lv' := [(3, .int (iN 0)), (0, .ref (gad G 59)), (1, .int (iN k)), (2, .int (iN wh))]) hx hb dX9_meeting_20 rfl hl (by decide) rfl (fun ls hl => ?_)
    have K21 : ∀ (N : Nat) (t : Nat) (ls : Array Slot), (t ≤ mt2_4) → (∀ (a : Nat) (q : EV), a < t → (gwL (rw8 mbe, rw8 mpl, rw8 msp, pn, ga) came)[a]? = some q → isPa ((now : Nat) : Int) q = true) → 801 - t < N → lv_has ls 5 [(0, .ref (gad G 59)), (1, .int (iN k)), (2, .int (iN wh)), (3, .int (iN ((t : Nat) : Int)))] → W p l e (headSpec wsX9_meeting ({ frames := 4, cells := 0, slots := 0, locals := 113 })).room s m (([.ref (gad G 59), .int (iN k), .int (iN wh)] : List Value).toArray) below meth c H locs 0 0 (MQ below (QI G (fun r w1 => r = iN (if 0 ≤ wh ∧ wh ≤ 3 then (if k = -1 then fld ((gwL (rw8 mbe, rw8 mpl, rw8 msp, pn, ga) came)[pfN ((now : Nat) : Int) (gwL (rw8 mbe, rw8 mpl, rw8 msp, pn, ga) came)]?) wh else if 0 ≤ k ∧ k < ((pfN ((now : Nat) : Int) (gwL (rw8 mbe, rw8 mpl, rw8 msp, pn, ga) came) : Nat) : Int) then fld ((gwL (rw8 mbe, rw8 mpl, rw8 msp, pn, ga) came)[k.toNat]?) wh else -1) else -100002) ∧ ∃ (mt2 : Nat) (mN2 : Nat → Int) (mD2 : Nat → Int) (mI2 : Nat → Int) (mJ2 : Nat → Int) (iP2 : Nat → Bool), (∀ k : Nat, k ≠ 59 → k ≠ 66 → k ≠ 67 → k ≠ 68 → k ≠ 69 → k ≠ 70 → w1 k = w k) ∧ w1 59 = .inr (8, [.int (iN ((now : Nat) : Int)), .int (iN ((came : Nat) : Int)), .ref (gad G 60), .ref (gad G 61), .ref (gad G 62), .ref (gad G 63), .ref (gad G 64), .ref (gad G 65), .int (iN ((rm : Nat) : Int)), .int (iN ((mt2 : Nat) : Int)), .ref (gad G 66), .ref (gad G 67), .ref (gad G 68), .ref (gad G 69), .ref (gad G 70), .int (iN ((tm : Nat) : Int)), .ref (gad G 71), .ref (gad G 72), .int (iN thg), .int (iN onn), .int (iN two), .long (jN lw), .long (jN hg), .int (iN ((sq : Nat) : Int)), .ref (gad G 73), .ref (gad G 74)]) ∧ w1 66 = .inl (gJ G, 800, .inr (.inl (aJ mN2))) ∧ w1 67 = .inl (gJ G, 800, .inr (.inl (aJ mD2))) ∧ w1 68 = .inl (gI G, 800, .inl (aN mI2)) ∧ w1 69 = .inl (gI G, 800, .inl (aN mJ2)) ∧ w1 70 = .inl (gZ G, 800, .inl (aN (zI iP2))))) (([.ref (gad G 59), .int (iN k), .int (iN wh)] : List Value).toArray) s 0 0 (AA G)) (F0 m 21 ls []) := by
      intro N
      induction N with
      | zero =>
        intros
        exfalso
        omega
      | succ N ih21 =>
        intro t ls i21_0 i21_1 hN21 hl
        refine lv_iload_n hx hb dX9_meeting_21 rfl (lv_at hl 3 rfl) ?_
        refine lv_aload_n hx hb dX9_meeting_22 rfl (lv_at hl 0 rfl) ?_
        refine f_get (C := RX9) (T := TX9) (N := 26) hx hb hts (by decide +kernel) hown hK hP 59 (by omega) e_23 rfl 9 (by decide) (hts (.fieldLink RX9 97 "KeptMovingModel" "meetings" "I") (by decide +kernel)) (fun _ h9 => h9) rfl dX9_meeting_23 ?_
        refine n_icmp_ge (tgt := 57) hx hb dX9_meeting_26 (by decide) (by omega) (by omega) (by omega) (by omega) (fun c_26 => ?_) (fun c_26 => ?_)
        · have hpf : pfN ((now : Nat) : Int) (gwL (rw8 mbe, rw8 mpl, rw8 msp, pn, ga) came) = t := pf_eq i21_1 (by rw [← hIW.1]; omega) (fun q hq => absurd (List.getElem?_eq_some_iff.mp hq).1 (by rw [← hIW.1]; omega))
          refine lv_iload_n hx hb dX9_meeting_57 rfl (lv_at hl 1 rfl) ?_
          refine n_iconst hx hb dX9_meeting_58 ?_
          refine n_icmp_ne (tgt := 66) hx hb dX9_meeting_59 (by decide) (by omega) (by omega) (by omega) (by omega) (fun c_59 => ?_) (fun c_59 => ?_)
          · refine lv_iload_n hx hb dX9_meeting_66 rfl (lv_at hl 1 rfl) ?_
            refine lv_istore (lv' := [(4, .int (iN k)), (0, .ref (gad G 59)), (1, .int (iN k)), (2, .int (iN wh)), (3, .int (iN ((t : Nat) : Int)))]) hx hb dX9_meeting_67 hl (by decide) rfl (fun ls hl => ?_)
            refine lv_iload_n hx hb dX9_meeting_69 rfl (lv_at hl 2 rfl) ?_
            refine n_iconst hx hb dX9_meeting_70 ?_
            refine n_icmp_ne (tgt := 85) hx hb dX9_meeting_71 (by decide) (by omega) (by omega) (by omega) (by omega) (fun c_71 => ?_) (fun c_71 => ?_)
            · refine lv_iload_n hx hb dX9_meeting_85 rfl (lv_at hl 2 rfl) ?_
              refine n_i2l hx hb (by omega) (by omega) dX9_meeting_86 ?_
              refine n_lconst (z := 0) hx hb dX9_meeting_87 (by decide) ?_
              refine lv_iload_n hx hb dX9_meeting_88 rfl (lv_at hl 4 rfl) ?_
              refine n_iconst hx hb dX9_meeting_89 ?_
              refine n_isub hx hb dX9_meeting_90 ?_
              refine n_i2l hx hb (by omega) (by omega) dX9_meeting_91 ?_
              refine vp_callSi (W.runS (As := [.long (jN k), .long (jN 0), .long (jN (((t : Nat) : Int) - 1))]) (rest := []) ⟨hx, hb, hml, hown, hts⟩ (c_X9_in l k (0 : Int) (((t : Nat) : Int) - 1) (by omega) (by omega) (by omega)) (va_cwS 3 hts gX9_meeting_X9_in rfl rfl rfl (by decide +kernel) ⟨Nat.le_of_ble_eq_true rfl, Nat.le_of_ble_eq_true rfl⟩) ⟨fun _ _ _ _ q => q, fun _ _ _ => rfl⟩ rfl rfl hl.1 rfl (lv_room (Nat.le_of_ble_eq_true rfl)) dX9_meeting_92 ⟨Nat.zero_le _, Nat.zero_le _⟩) (fun r_29 hr_29 => ?_)
              rw [show r_29 = iN (if ((0 : Int) ≤ k ∧ k ≤ (((t : Nat) : Int) - 1)) then 1 else 0) from hr_29]
              refine n_ifb_ne (tgt := 100) hx hb dX9_meeting_95 (by decide) (fun c_95 => ?_) (fun c_95 => ?_)
              · have hz_30 : k = ((k.toNat : Nat) : Int) := by omega
                have hl : lv_has ls 5 [(4, .int (iN ((k.toNat : Nat) : Int))), (0, .ref (gad G 59)), (1, .int (iN k)), (2, .int (iN wh)), (3, .int (iN ((t : Nat) : Int)))] := by rw [← hz_30]; exact hl
                obtain ⟨r, hr9⟩ : ∃ r, (gwL (rw8 mbe, rw8 mpl, rw8 msp, pn, ga) came)[k.toNat]? = some r := ⟨_, List.getElem?_eq_getElem (show k.toNat < (gwL (rw8 mbe, rw8 mpl, rw8 msp, pn, ga) came).length by rw [← hIW.1]; omega)⟩
                obtain ⟨⟨y1, y2, y3, y4, y5⟩, y6⟩ := hIW.2 _ r hr9
                refine lv_iload_n hx hb dX9_meeting_100 rfl (lv_at hl 3 rfl) ?_
                refine n_if_ne (tgt := 115) hx hb dX9_meeting_101 (by decide) (by omega) (by omega) (fun c_101 => ?_) (fun c_101 => ?_)
                · refine lv_iload_n hx hb dX9_meeting_115 rfl (lv_at hl 3 rfl) ?_
                  refine n_iconst hx hb dX9_meeting_116 ?_
                  refine n_icmp_ne (tgt := 131) hx hb dX9_meeting_117 (by decide) (by omega) (by omega) (by omega) (by omega) (fun c_117 => ?_) (fun c_117 => ?_)
                  · refine lv_iload_n hx hb dX9_meeting_131 rfl (lv_at hl 3 rfl) ?_
                    refine n_iconst hx hb dX9_meeting_132 ?_
                    refine n_icmp_ne (tgt := 146) hx hb dX9_meeting_133 (by decide) (by omega) (by omega) (by omega) (by omega) (fun c_133 => ?_) (fun c_133 => ?_)
                    · refine lv_aload_n hx hb dX9_meeting_146 rfl (lv_at hl 1 rfl) ?_
                      refine f_get (C := RX9) (T := TX9) (N := 26) hx hb hts (by decide +kernel) hown hK hP 59 (by omega) e_23 rfl 13 (by decide) (hts (.fieldLink RX9 38 "KeptMovingModel" "meetJ" "[I") (by decide +kernel)) (fun _ h9 => h9) rfl dX9_meeting_147 ?_
                      refine lv_iload hx hb dX9_meeting_150 (lv_at hl 0 rfl) ?_
                      refine n_iald hx hb hK hP 69 (by omega) e_27 k.toNat rfl (by omega) (by decide) dX9_meeting_152 ?_
                      exact r_i hx hb hr dX9_meeting_153 hlocks hP hS ⟨(congrArg iN (by rw [if_pos (show 0 ≤ wh ∧ wh ≤ 3 by omega), if_neg (show ¬ k = -1 by omega), hpf, if_pos (show 0 ≤ k ∧ k < ((t : Nat) : Int) by omega), hr9]; show _ = (if wh = 0 then r.1 / 256 else if wh = 1 then r.1 % 256 else if wh = 2 then (r.2.1 : Int) else (r.2.2.1 : Int)); rw [if_neg (show ¬ wh = 0 by omega), if_neg (show ¬ wh = 1 by omega), if_neg (show ¬ wh = 2 by omega)]; exact y4)), mt2_4, mN2_5, mD2_6, mI2_7, mJ2_8, iP2_9, (fun k h0 h1 h2 h3 h4 h5 => fr_10 k (by omega) (by omega) (by omega) (by omega) (by omega) (by omega)), e_23, e_24, e_25, e_26, e_27, e_28⟩
                    · refine lv_aload_n hx hb dX9_meeting_136 rfl (lv_at hl 1 rfl) ?_
                      refine f_get (C := RX9) (T := TX9) (N := 26) hx hb hts (by decide +kernel) hown hK hP 59 (by omega) e_23 rfl 12 (by decide) (hts (.fieldLink RX9 35 "KeptMovingModel" "meetI" "[I") (by decide +kernel)) (fun _ h9 => h9) rfl dX9_meeting_137 ?_
                      refine lv_iload hx hb dX9_meeting_140 (lv_at hl 0 rfl) ?_
                      refine n_iald hx hb hK hP 68 (by omega) e_26 k.toNat rfl (by omega) (by decide) dX9_meeting_142 ?_
                      refine lv_goto (tgt := 153) hx hb dX9_meeting_143 (by decide) ?_
                      exact r_i hx hb hr dX9_meeting_153 hlocks hP hS ⟨(congrArg iN (by rw [if_pos (show 0 ≤ wh ∧ wh ≤ 3 by omega), if_neg (show ¬ k = -1 by omega), hpf, if_pos (show 0 ≤ k ∧ k < ((t : Nat) : Int) by omega), hr9]; show _ = (if wh = 0 then r.1 / 256 else if wh = 1 then r.1 % 256 else if wh = 2 then (r.2.1 : Int) else (r.2.2.1 : Int)); rw [if_neg (show ¬ wh = 0 by omega), if_neg (show ¬ wh = 1 by omega), if_pos (show wh = 2 by omega)]; exact y3)), mt2_4, mN2_5, mD2_6, mI2_7, mJ2_8, iP2_9, (fun k h0 h1 h2 h3 h4 h5 => fr_10 k (by omega) (by omega) (by omega) (by omega) (by omega) (by omega)), e_23, e_24, e_25, e_26, e_27, e_28⟩
                  · refine lv_aload_n hx hb dX9_meeting_120 rfl (lv_at hl 1 rfl) ?_
                    refine f_get (C := RX9) (T := TX9) (N := 26) hx hb hts (by decide +kernel) hown hK hP 59 (by omega) e_23 rfl 11 (by decide) (hts (.fieldLink RX9 32 "KeptMovingModel" "meetD" "[J") (by decide +kernel)) (fun _ h9 => h9) rfl dX9_meeting_121 ?_
                    refine lv_iload hx hb dX9_meeting_124 (lv_at hl 0 rfl) ?_
                    refine n_lald hx hb hK hP 67 (by omega) e_25 k.toNat rfl (by omega) (by decide) dX9_meeting_126 ?_
                    refine n_l2i hx hb dX9_meeting_127 ?_
                    refine lv_goto (tgt := 153) hx hb dX9_meeting_128 (by decide) ?_
                    exact r_i hx hb hr dX9_meeting_153 hlocks hP hS ⟨(congrArg iN (by rw [if_pos (show 0 ≤ wh ∧ wh ≤ 3 by omega), if_neg (show ¬ k = -1 by omega), hpf, if_pos (show 0 ≤ k ∧ k < ((t : Nat) : Int) by omega), hr9]; show _ = (if wh = 0 then r.1 / 256 else if wh = 1 then r.1 % 256 else if wh = 2 then (r.2.1 : Int) else (r.2.2.1 : Int)); rw [if_neg (show ¬ wh = 0 by omega), if_pos (show wh = 1 by omega)]; exact y2)), mt2_4, mN2_5, mD2_6, mI2_7, mJ2_8, iP2_9, (fun k h0 h1 h2 h3 h4 h5 => fr_10 k (by omega) (by omega) (by omega) (by omega) (by omega) (by omega)), e_23, e_24, e_25, e_26, e_27, e_28⟩
                · refine lv_aload_n hx hb dX9_meeting_104 rfl (lv_at hl 1 rfl) ?_
                  refine f_get (C := RX9) (T := TX9) (N := 26) hx hb hts (by decide +kernel) hown hK hP 59 (by omega) e_23 rfl 10 (by decide) (hts (.fieldLink RX9 28 "KeptMovingModel" "meetN" "[J") (by decide +kernel)) (fun _ h9 => h9) rfl dX9_meeting_105 ?_
                  refine lv_iload hx hb dX9_meeting_108 (lv_at hl 0 rfl) ?_
                  refine n_lald hx hb hK hP 66 (by omega) e_24 k.toNat rfl (by omega) (by decide) dX9_meeting_110 ?_
                  refine n_l2i hx hb dX9_meeting_111 ?_
                  refine lv_goto (tgt := 153) hx hb dX9_meeting_112 (by decide) ?_
                  exact r_i hx hb hr dX9_meeting_153 hlocks hP hS ⟨(congrArg iN (by rw [if_pos (show 0 ≤ wh ∧ wh ≤ 3 by omega), if_neg (show ¬ k = -1 by omega), hpf, if_pos (show 0 ≤ k ∧ k < ((t : Nat) : Int) by omega), hr9]; show _ = (if wh = 0 then r.1 / 256 else if wh = 1 then r.1 % 256 else if wh = 2 then (r.2.1 : Int) else (r.2.2.1 : Int)); rw [if_pos (show wh = 0 by omega)]; exact y1)), mt2_4, mN2_5, mD2_6, mI2_7, mJ2_8, iP2_9, (fun k h0 h1 h2 h3 h4 h5 => fr_10 k (by omega) (by omega) (by omega) (by omega) (by omega) (by omega)), e_23, e_24, e_25, e_26, e_27, e_28⟩
              · refine n_iconst hx hb dX9_meeting_98 ?_
                exact r_i hx hb hr dX9_meeting_99 hlocks hP hS ⟨(congrArg iN (by rw [if_pos (show 0 ≤ wh ∧ wh ≤ 3 by omega), if_neg (show ¬ k = -1 by omega), hpf, if_neg (show ¬ (0 ≤ k ∧ k < ((t : Nat) : Int)) by omega)])), mt2_4, mN2_5, mD2_6, mI2_7, mJ2_8, iP2_9, (fun k h0 h1 h2 h3 h4 h5 => fr_10 k (by omega) (by omega) (by omega) (by omega) (by omega) (by omega)), e_23, e_24, e_25, e_26, e_27, e_28⟩
            · refine lv_iload_n hx hb dX9_meeting_74 rfl (lv_at hl 4 rfl) ?_
              refine lv_aload_n hx hb dX9_meeting_75 rfl (lv_at hl 1 rfl) ?_
              refine f_get (C := RX9) (T := TX9) (N := 26) hx hb hts (by decide +kernel) hown hK hP 59 (by omega) e_23 rfl 9 (by decide) (hts (.fieldLink RX9 97 "KeptMovingModel" "meetings" "I") (by decide +kernel)) (fun _ h9 => h9) rfl dX9_meeting_76 ?_
              refine n_icmp_ne (tgt := 100) hx hb dX9_meeting_79 (by decide) (by omega) (by omega) (by omega) (by omega) (fun c_79 => ?_) (fun c_79 => ?_)
              · have hz_31 : k = ((k.toNat : Nat) : Int) := by omega
                have hl : lv_has ls 5 [(4, .int (iN ((k.toNat : Nat) : Int))), (0, .ref (gad G 59)), (1, .int (iN k)), (2, .int (iN wh)), (3, .int (iN ((t : Nat) : Int)))] := by rw [← hz_31]; exact hl
                obtain ⟨r, hr9⟩ : ∃ r, (gwL (rw8 mbe, rw8 mpl, rw8 msp, pn, ga) came)[k.toNat]? = some r := ⟨_, List.getElem?_eq_getElem (show k.toNat < (gwL (rw8 mbe, rw8 mpl, rw8 msp, pn, ga) came).length by rw [← hIW.1]; omega)⟩
                obtain ⟨⟨y1, y2, y3, y4, y5⟩, y6⟩ := hIW.2 _ r hr9
                refine lv_iload_n hx hb dX9_meeting_100 rfl (lv_at hl 3 rfl) ?_
                refine n_if_ne (tgt := 115) hx hb dX9_meeting_101 (by decide) (by omega) (by omega) (fun c_101 => ?_) (fun c_101 => ?_)
                · refine lv_iload_n hx hb dX9_meeting_115 rfl (lv_at hl 3 rfl) ?_
                  refine n_iconst hx hb dX9_meeting_116 ?_
                  refine n_icmp_ne (tgt := 131) hx hb dX9_meeting_117 (by decide) (by omega) (by omega) (by omega) (by omega) (fun c_117 => ?_) (fun c_117 => ?_)
                  · refine lv_iload_n hx hb dX9_meeting_131 rfl (lv_at hl 3 rfl) ?_
                    refine n_iconst hx hb dX9_meeting_132 ?_
                    refine n_icmp_ne (tgt := 146) hx hb dX9_meeting_133 (by decide) (by omega) (by omega) (by omega) (by omega) (fun c_133 => ?_) (fun c_133 => ?_)
                    · refine lv_aload_n hx hb dX9_meeting_146 rfl (lv_at hl 1 rfl) ?_
                      refine f_get (C := RX9) (T := TX9) (N := 26) hx hb hts (by decide +kernel) hown hK hP 59 (by omega) e_23 rfl 13 (by decide) (hts (.fieldLink RX9 38 "KeptMovingModel" "meetJ" "[I") (by decide +kernel)) (fun _ h9 => h9) rfl dX9_meeting_147 ?_
                      refine lv_iload hx hb dX9_meeting_150 (lv_at hl 0 rfl) ?_
                      refine n_iald hx hb hK hP 69 (by omega) e_27 k.toNat rfl (by omega) (by decide) dX9_meeting_152 ?_
                      exact r_i hx hb hr dX9_meeting_153 hlocks hP hS ⟨(congrArg iN (by rw [if_pos (show 0 ≤ wh ∧ wh ≤ 3 by omega), if_neg (show ¬ k = -1 by omega), hpf, if_pos (show 0 ≤ k ∧ k < ((t : Nat) : Int) by omega), hr9]; show _ = (if wh = 0 then r.1 / 256 else if wh = 1 then r.1 % 256 else if wh = 2 then (r.2.1 : Int) else (r.2.2.1 : Int)); rw [if_neg (show ¬ wh = 0 by omega), if_neg (show ¬ wh = 1 by omega), if_neg (show ¬ wh = 2 by omega)]; exact y4)), mt2_4, mN2_5, mD2_6, mI2_7, mJ2_8, iP2_9, (fun k h0 h1 h2 h3 h4 h5 => fr_10 k (by omega) (by omega) (by omega) (by omega) (by omega) (by omega)), e_23, e_24, e_25, e_26, e_27, e_28⟩
                    · refine lv_aload_n hx hb dX9_meeting_136 rfl (lv_at hl 1 rfl) ?_
                      refine f_get (C := RX9) (T := TX9) (N := 26) hx hb hts (by decide +kernel) hown hK hP 59 (by omega) e_23 rfl 12 (by decide) (hts (.fieldLink RX9 35 "KeptMovingModel" "meetI" "[I") (by decide +kernel)) (fun _ h9 => h9) rfl dX9_meeting_137 ?_
                      refine lv_iload hx hb dX9_meeting_140 (lv_at hl 0 rfl) ?_
                      refine n_iald hx hb hK hP 68 (by omega) e_26 k.toNat rfl (by omega) (by decide) dX9_meeting_142 ?_
                      refine lv_goto (tgt := 153) hx hb dX9_meeting_143 (by decide) ?_
                      exact r_i hx hb hr dX9_meeting_153 hlocks hP hS ⟨(congrArg iN (by rw [if_pos (show 0 ≤ wh ∧ wh ≤ 3 by omega), if_neg (show ¬ k = -1 by omega), hpf, if_pos (show 0 ≤ k ∧ k < ((t : Nat) : Int) by omega), hr9]; show _ = (if wh = 0 then r.1 / 256 else if wh = 1 then r.1 % 256 else if wh = 2 then (r.2.1 : Int) else (r.2.2.1 : Int)); rw [if_neg (show ¬ wh = 0 by omega), if_neg (show ¬ wh = 1 by omega), if_pos (show wh = 2 by omega)]; exact y3)), mt2_4, mN2_5, mD2_6, mI2_7, mJ2_8, iP2_9, (fun k h0 h1 h2 h3 h4 h5 => fr_10 k (by omega) (by omega) (by omega) (by omega) (by omega) (by omega)), e_23, e_24, e_25, e_26, e_27, e_28⟩
                  · refine lv_aload_n hx hb dX9_meeting_120 rfl (lv_at hl 1 rfl) ?_
                    refine f_get (C := RX9) (T := TX9) (N := 26) hx hb hts (by decide +kernel) hown hK hP 59 (by omega) e_23 rfl 11 (by decide) (hts (.fieldLink RX9 32 "KeptMovingModel" "meetD" "[J") (by decide +kernel)) (fun _ h9 => h9) rfl dX9_meeting_121 ?_
                    refine lv_iload hx hb dX9_meeting_124 (lv_at hl 0 rfl) ?_
                    refine n_lald hx hb hK hP 67 (by omega) e_25 k.toNat rfl (by omega) (by decide) dX9_meeting_126 ?_
                    refine n_l2i hx hb dX9_meeting_127 ?_
                    refine lv_goto (tgt := 153) hx hb dX9_meeting_128 (by decide) ?_
                    exact r_i hx hb hr dX9_meeting_153 hlocks hP hS ⟨(congrArg iN (by rw [if_pos (show 0 ≤ wh ∧ wh ≤ 3 by omega), if_neg (show ¬ k = -1 by omega), hpf, if_pos (show 0 ≤ k ∧ k < ((t : Nat) : Int) by omega), hr9]; show _ = (if wh = 0 then r.1 / 256 else if wh = 1 then r.1 % 256 else if wh = 2 then (r.2.1 : Int) else (r.2.2.1 : Int)); rw [if_neg (show ¬ wh = 0 by omega), if_pos (show wh = 1 by omega)]; exact y2)), mt2_4, mN2_5, mD2_6, mI2_7, mJ2_8, iP2_9, (fun k h0 h1 h2 h3 h4 h5 => fr_10 k (by omega) (by omega) (by omega) (by omega) (by omega) (by omega)), e_23, e_24, e_25, e_26, e_27, e_28⟩
                · refine lv_aload_n hx hb dX9_meeting_104 rfl (lv_at hl 1 rfl) ?_
                  refine f_get (C := RX9) (T := TX9) (N := 26) hx hb hts (by decide +kernel) hown hK hP 59 (by omega) e_23 rfl 10 (by decide) (hts (.fieldLink RX9 28 "KeptMovingModel" "meetN" "[J") (by decide +kernel)) (fun _ h9 => h9) rfl dX9_meeting_105 ?_
                  refine lv_iload hx hb dX9_meeting_108 (lv_at hl 0 rfl) ?_
                  refine n_lald hx hb hK hP 66 (by omega) e_24 k.toNat rfl (by omega) (by decide) dX9_meeting_110 ?_
                  refine n_l2i hx hb dX9_meeting_111 ?_
                  refine lv_goto (tgt := 153) hx hb dX9_meeting_112 (by decide) ?_
                  exact r_i hx hb hr dX9_meeting_153 hlocks hP hS ⟨(congrArg iN (by rw [if_pos (show 0 ≤ wh ∧ wh ≤ 3 by omega), if_neg (show ¬ k = -1 by omega), hpf, if_pos (show 0 ≤ k ∧ k < ((t : Nat) : Int) by omega), hr9]; show _ = (if wh = 0 then r.1 / 256 else if wh = 1 then r.1 % 256 else if wh = 2 then (r.2.1 : Int) else (r.2.2.1 : Int)); rw [if_pos (show wh = 0 by omega)]; exact y1)), mt2_4, mN2_5, mD2_6, mI2_7, mJ2_8, iP2_9, (fun k h0 h1 h2 h3 h4 h5 => fr_10 k (by omega) (by omega) (by omega) (by omega) (by omega) (by omega)), e_23, e_24, e_25, e_26, e_27, e_28⟩
              · refine lv_goto (tgt := 98) hx hb dX9_meeting_82 (by decide) ?_
                refine n_iconst hx hb dX9_meeting_98 ?_
                exact r_i hx hb hr dX9_meeting_99 hlocks hP hS ⟨(congrArg iN (by rw [if_pos (show 0 ≤ wh ∧ wh ≤ 3 by omega), if_pos (show k = -1 by omega), hpf, List.getElem?_eq_none (by rw [← hIW.1]; omega)]; rfl)), mt2_4, mN2_5, mD2_6, mI2_7, mJ2_8, iP2_9, (fun k h0 h1 h2 h3 h4 h5 => fr_10 k (by omega) (by omega) (by omega) (by omega) (by omega) (by omega)), e_23, e_24, e_25, e_26, e_27, e_28⟩
          · refine lv_iload_n hx hb dX9_meeting_62 rfl (lv_at hl 3 rfl) ?_
            refine lv_goto (tgt := 67) hx hb dX9_meeting_63 (by decide) ?_
            refine lv_istore (lv' := [(4, .int (iN ((t : Nat) : Int))), (0, .ref (gad G 59)), (1, .int (iN k)), (2, .int (iN wh)), (3, .int (iN ((t : Nat) : Int)))]) hx hb dX9_meeting_67 hl (by decide) rfl (fun ls hl => ?_)
            refine lv_iload_n hx hb dX9_meeting_69 rfl (lv_at hl 2 rfl) ?_
            refine n_iconst hx hb dX9_meeting_70 ?_
            refine n_icmp_ne (tgt := 85) hx hb dX9_meeting_71 (by decide) (by omega) (by omega) (by omega) (by omega) (fun c_71 => ?_) (fun c_71 => ?_)
            · refine lv_iload_n hx hb dX9_meeting_85 rfl (lv_at hl 2 rfl) ?_
              refine n_i2l hx hb (by omega) (by omega) dX9_meeting_86 ?_
              refine n_lconst (z := 0) hx hb dX9_meeting_87 (by decide) ?_
              refine lv_iload_n hx hb dX9_meeting_88 rfl (lv_at hl 4 rfl) ?_
              refine n_iconst hx hb dX9_meeting_89 ?_
              refine n_isub hx hb dX9_meeting_90 ?_
              refine n_i2l hx hb (by omega) (by omega) dX9_meeting_91 ?_
              refine vp_callSi (W.runS (As := [.long (jN k), .long (jN 0), .long (jN (((t : Nat) : Int) - 1))]) (rest := []) ⟨hx, hb, hml, hown, hts⟩ (c_X9_in l k (0 : Int) (((t : Nat) : Int) - 1) (by omega) (by omega) (by omega)) (va_cwS 3 hts gX9_meeting_X9_in rfl rfl rfl (by decide +kernel) ⟨Nat.le_of_ble_eq_true rfl, Nat.le_of_ble_eq_true rfl⟩) ⟨fun _ _ _ _ q => q, fun _ _ _ => rfl⟩ rfl rfl hl.1 rfl (lv_room (Nat.le_of_ble_eq_true rfl)) dX9_meeting_92 ⟨Nat.zero_le _, Nat.zero_le _⟩) (fun r_32 hr_32 => ?_)
              rw [show r_32 = iN (if ((0 : Int) ≤ k ∧ k ≤ (((t : Nat) : Int) - 1)) then 1 else 0) from hr_32]
              refine n_ifb_ne (tgt := 100) hx hb dX9_meeting_95 (by decide) (fun c_95 => ?_) (fun c_95 => ?_)
              · obtain ⟨r, hr9⟩ : ∃ r, (gwL (rw8 mbe, rw8 mpl, rw8 msp, pn, ga) came)[t]? = some r := ⟨_, List.getElem?_eq_getElem (show t < (gwL (rw8 mbe, rw8 mpl, rw8 msp, pn, ga) came).length by rw [← hIW.1]; omega)⟩
                obtain ⟨⟨y1, y2, y3, y4, y5⟩, y6⟩ := hIW.2 _ r hr9
                refine lv_iload_n hx hb dX9_meeting_100 rfl (lv_at hl 3 rfl) ?_
                refine n_if_ne (tgt := 115) hx hb dX9_meeting_101 (by decide) (by omega) (by omega) (fun c_101 => ?_) (fun c_101 => ?_)
                · refine lv_iload_n hx hb dX9_meeting_115 rfl (lv_at hl 3 rfl) ?_
                  refine n_iconst hx hb dX9_meeting_116 ?_
                  refine n_icmp_ne (tgt := 131) hx hb dX9_meeting_117 (by decide) (by omega) (by omega) (by omega) (by omega) (fun c_117 => ?_) (fun c_117 => ?_)
                  · refine lv_iload_n hx hb dX9_meeting_131 rfl (lv_at hl 3 rfl) ?_
                    refine n_iconst hx hb dX9_meeting_132 ?_
                    refine n_icmp_ne (tgt := 146) hx hb dX9_meeting_133 (by decide) (by omega) (by omega) (by omega) (by omega) (fun c_133 => ?_) (fun c_133 => ?_)
                    · refine lv_aload_n hx hb dX9_meeting_146 rfl (lv_at hl 1 rfl) ?_
                      refine f_get (C := RX9) (T := TX9) (N := 26) hx hb hts (by decide +kernel) hown hK hP 59 (by omega) e_23 rfl 13 (by decide) (hts (.fieldLink RX9 38 "KeptMovingModel" "meetJ" "[I") (by decide +kernel)) (fun _ h9 => h9) rfl dX9_meeting_147 ?_
                      refine lv_iload hx hb dX9_meeting_150 (lv_at hl 0 rfl) ?_
                      refine n_iald hx hb hK hP 69 (by omega) e_27 t rfl (by omega) (by decide) dX9_meeting_152 ?_
                      exact r_i hx hb hr dX9_meeting_153 hlocks hP hS ⟨(congrArg iN (by rw [if_pos (show 0 ≤ wh ∧ wh ≤ 3 by omega), if_pos (show k = -1 by omega), hpf, hr9]; show _ = (if wh = 0 then r.1 / 256 else if wh = 1 then r.1 % 256 else if wh = 2 then (r.2.1 : Int) else (r.2.2.1 : Int)); rw [if_neg (show ¬ wh = 0 by omega), if_neg (show ¬ wh = 1 by omega), if_neg (show ¬ wh = 2 by omega)]; exact y4)), mt2_4, mN2_5, mD2_6, mI2_7, mJ2_8, iP2_9, (fun k h0 h1 h2 h3 h4 h5 => fr_10 k (by omega) (by omega) (by omega) (by omega) (by omega) (by omega)), e_23, e_24, e_25, e_26, e_27, e_28⟩
                    · refine lv_aload_n hx hb dX9_meeting_136 rfl (lv_at hl 1 rfl) ?_
                      refine f_get (C := RX9) (T := TX9) (N := 26) hx hb hts (by decide +kernel) hown hK hP 59 (by omega) e_23 rfl 12 (by decide) (hts (.fieldLink RX9 35 "KeptMovingModel" "meetI" "[I") (by decide +kernel)) (fun _ h9 => h9) rfl dX9_meeting_137 ?_
                      refine lv_iload hx hb dX9_meeting_140 (lv_at hl 0 rfl) ?_
                      refine n_iald hx hb hK hP 68 (by omega) e_26 t rfl (by omega) (by decide) dX9_meeting_142 ?_
                      refine lv_goto (tgt := 153) hx hb dX9_meeting_143 (by decide) ?_
                      exact r_i hx hb hr dX9_meeting_153 hlocks hP hS ⟨(congrArg iN (by rw [if_pos (show 0 ≤ wh ∧ wh ≤ 3 by omega), if_pos (show k = -1 by omega), hpf, hr9]; show _ = (if wh = 0 then r.1 / 256 else if wh = 1 then r.1 % 256 else if wh = 2 then (r.2.1 : Int) else (r.2.2.1 : Int)); rw [if_neg (show ¬ wh = 0 by omega), if_neg (show ¬ wh = 1 by omega), if_pos (show wh = 2 by omega)]; exact y3)), mt2_4, mN2_5, mD2_6, mI2_7, mJ2_8, iP2_9, (fun k h0 h1 h2 h3 h4 h5 => fr_10 k (by omega) (by omega) (by omega) (by omega) (by omega) (by omega)), e_23, e_24, e_25, e_26, e_27, e_28⟩
                  · refine lv_aload_n hx hb dX9_meeting_120 rfl (lv_at hl 1 rfl) ?_
                    refine f_get (C := RX9) (T := TX9) (N := 26) hx hb hts (by decide +kernel) hown hK hP 59 (by omega) e_23 rfl 11 (by decide) (hts (.fieldLink RX9 32 "KeptMovingModel" "meetD" "[J") (by decide +kernel)) (fun _ h9 => h9) rfl dX9_meeting_121 ?_
                    refine lv_iload hx hb dX9_meeting_124 (lv_at hl 0 rfl) ?_
                    refine n_lald hx hb hK hP 67 (by omega) e_25 t rfl (by omega) (by decide) dX9_meeting_126 ?_
                    refine n_l2i hx hb dX9_meeting_127 ?_
                    refine lv_goto (tgt := 153) hx hb dX9_meeting_128 (by decide) ?_
                    exact r_i hx hb hr dX9_meeting_153 hlocks hP hS ⟨(congrArg iN (by rw [if_pos (show 0 ≤ wh ∧ wh ≤ 3 by omega), if_pos (show k = -1 by omega), hpf, hr9]; show _ = (if wh = 0 then r.1 / 256 else if wh = 1 then r.1 % 256 else if wh = 2 then (r.2.1 : Int) else (r.2.2.1 : Int)); rw [if_neg (show ¬ wh = 0 by omega), if_pos (show wh = 1 by omega)]; exact y2)), mt2_4, mN2_5, mD2_6, mI2_7, mJ2_8, iP2_9, (fun k h0 h1 h2 h3 h4 h5 => fr_10 k (by omega) (by omega) (by omega) (by omega) (by omega) (by omega)), e_23, e_24, e_25, e_26, e_27, e_28⟩
                · refine lv_aload_n hx hb dX9_meeting_104 rfl (lv_at hl 1 rfl) ?_
                  refine f_get (C := RX9) (T := TX9) (N := 26) hx hb hts (by decide +kernel) hown hK hP 59 (by omega) e_23 rfl 10 (by decide) (hts (.fieldLink RX9 28 "KeptMovingModel" "meetN" "[J") (by decide +kernel)) (fun _ h9 => h9) rfl dX9_meeting_105 ?_
                  refine lv_iload hx hb dX9_meeting_108 (lv_at hl 0 rfl) ?_
                  refine n_lald hx hb hK hP 66 (by omega) e_24 t rfl (by omega) (by decide) dX9_meeting_110 ?_
                  refine n_l2i hx hb dX9_meeting_111 ?_
                  refine lv_goto (tgt := 153) hx hb dX9_meeting_112 (by decide) ?_
                  exact r_i hx hb hr dX9_meeting_153 hlocks hP hS ⟨(congrArg iN (by rw [if_pos (show 0 ≤ wh ∧ wh ≤ 3 by omega), if_pos (show k = -1 by omega), hpf, hr9]; show _ = (if wh = 0 then r.1 / 256 else if wh = 1 then r.1 % 256 else if wh = 2 then (r.2.1 : Int) else (r.2.2.1 : Int)); rw [if_pos (show wh = 0 by omega)]; exact y1)), mt2_4, mN2_5, mD2_6, mI2_7, mJ2_8, iP2_9, (fun k h0 h1 h2 h3 h4 h5 => fr_10 k (by omega) (by omega) (by omega) (by omega) (by omega) (by omega)), e_23, e_24, e_25, e_26, e_27, e_28⟩
              · refine n_iconst hx hb dX9_meeting_98 ?_
                exact r_i hx hb hr dX9_meeting_99 hlocks hP hS ⟨(congrArg iN (by rw [if_pos (show 0 ≤ wh ∧ wh ≤ 3 by omega), if_neg (show ¬ k = -1 by omega), hpf, if_neg (show ¬ (0 ≤ k ∧ k < ((t : Nat) : Int)) by omega)])), mt2_4, mN2_5, mD2_6, mI2_7, mJ2_8, iP2_9, (fun k h0 h1 h2 h3 h4 h5 => fr_10 k (by omega) (by omega) (by omega) (by omega) (by omega) (by omega)), e_23, e_24, e_25, e_26, e_27, e_28⟩
            · refine lv_iload_n hx hb dX9_meeting_74 rfl (lv_at hl 4 rfl) ?_
              refine lv_aload_n hx hb dX9_meeting_75 rfl (lv_at hl 1 rfl) ?_
              refine f_get (C := RX9) (T := TX9) (N := 26) hx hb hts (by decide +kernel) hown hK hP 59 (by omega) e_23 rfl 9 (by decide) (hts (.fieldLink RX9 97 "KeptMovingModel" "meetings" "I") (by decide +kernel)) (fun _ h9 => h9) rfl dX9_meeting_76 ?_
              refine n_icmp_ne (tgt := 100) hx hb dX9_meeting_79 (by decide) (by omega) (by omega) (by omega) (by omega) (fun c_79 => ?_) (fun c_79 => ?_)
              · obtain ⟨r, hr9⟩ : ∃ r, (gwL (rw8 mbe, rw8 mpl, rw8 msp, pn, ga) came)[t]? = some r := ⟨_, List.getElem?_eq_getElem (show t < (gwL (rw8 mbe, rw8 mpl, rw8 msp, pn, ga) came).length by rw [← hIW.1]; omega)⟩
                obtain ⟨⟨y1, y2, y3, y4, y5⟩, y6⟩ := hIW.2 _ r hr9
                refine lv_iload_n hx hb dX9_meeting_100 rfl (lv_at hl 3 rfl) ?_
                refine n_if_ne (tgt := 115) hx hb dX9_meeting_101 (by decide) (by omega) (by omega) (fun c_101 => ?_) (fun c_101 => ?_)
                · refine lv_iload_n hx hb dX9_meeting_115 rfl (lv_at hl 3 rfl) ?_
                  refine n_iconst hx hb dX9_meeting_116 ?_
                  refine n_icmp_ne (tgt := 131) hx hb dX9_meeting_117 (by decide) (by omega) (by omega) (by omega) (by omega) (fun c_117 => ?_) (fun c_117 => ?_)
                  · refine lv_iload_n hx hb dX9_meeting_131 rfl (lv_at hl 3 rfl) ?_
                    refine n_iconst hx hb dX9_meeting_132 ?_
                    refine n_icmp_ne (tgt := 146) hx hb dX9_meeting_133 (by decide) (by omega) (by omega) (by omega) (by omega) (fun c_133 => ?_) (fun c_133 => ?_)
                    · refine lv_aload_n hx hb dX9_meeting_146 rfl (lv_at hl 1 rfl) ?_
                      refine f_get (C := RX9) (T := TX9) (N := 26) hx hb hts (by decide +kernel) hown hK hP 59 (by omega) e_23 rfl 13 (by decide) (hts (.fieldLink RX9 38 "KeptMovingModel" "meetJ" "[I") (by decide +kernel)) (fun _ h9 => h9) rfl dX9_meeting_147 ?_
                      refine lv_iload hx hb dX9_meeting_150 (lv_at hl 0 rfl) ?_
                      refine n_iald hx hb hK hP 69 (by omega) e_27 t rfl (by omega) (by decide) dX9_meeting_152 ?_
                      exact r_i hx hb hr dX9_meeting_153 hlocks hP hS ⟨(congrArg iN (by rw [if_pos (show 0 ≤ wh ∧ wh ≤ 3 by omega), if_pos (show k = -1 by omega), hpf, hr9]; show _ = (if wh = 0 then r.1 / 256 else if wh = 1 then r.1 % 256 else if wh = 2 then (r.2.1 : Int) else (r.2.2.1 : Int)); rw [if_neg (show ¬ wh = 0 by omega), if_neg (show ¬ wh = 1 by omega), if_neg (show ¬ wh = 2 by omega)]; exact y4)), mt2_4, mN2_5, mD2_6, mI2_7, mJ2_8, iP2_9, (fun k h0 h1 h2 h3 h4 h5 => fr_10 k (by omega) (by omega) (by omega) (by omega) (by omega) (by omega)), e_23, e_24, e_25, e_26, e_27, e_28⟩
                    · refine lv_aload_n hx hb dX9_meeting_136 rfl (lv_at hl 1 rfl) ?_
                      refine f_get (C := RX9) (T := TX9) (N := 26) hx hb hts (by decide +kernel) hown hK hP 59 (by omega) e_23 rfl 12 (by decide) (hts (.fieldLink RX9 35 "KeptMovingModel" "meetI" "[I") (by decide +kernel)) (fun _ h9 => h9) rfl dX9_meeting_137 ?_
                      refine lv_iload hx hb dX9_meeting_140 (lv_at hl 0 rfl) ?_
                      refine n_iald hx hb hK hP 68 (by omega) e_26 t rfl (by omega) (by decide) dX9_meeting_142 ?_
                      refine lv_goto (tgt := 153) hx hb dX9_meeting_143 (by decide) ?_
                      exact r_i hx hb hr dX9_meeting_153 hlocks hP hS ⟨(congrArg iN (by rw [if_pos (show 0 ≤ wh ∧ wh ≤ 3 by omega), if_pos (show k = -1 by omega), hpf, hr9]; show _ = (if wh = 0 then r.1 / 256 else if wh = 1 then r.1 % 256 else if wh = 2 then (r.2.1 : Int) else (r.2.2.1 : Int)); rw [if_neg (show ¬ wh = 0 by omega), if_neg (show ¬ wh = 1 by omega), if_pos (show wh = 2 by omega)]; exact y3)), mt2_4, mN2_5, mD2_6, mI2_7, mJ2_8, iP2_9, (fun k h0 h1 h2 h3 h4 h5 => fr_10 k (by omega) (by omega) (by omega) (by omega) (by omega) (by omega)), e_23, e_24, e_25, e_26, e_27, e_28⟩
                  · refine lv_aload_n hx hb dX9_meeting_120 rfl (lv_at hl 1 rfl) ?_
                    refine f_get (C := RX9) (T := TX9) (N := 26) hx hb hts (by decide +kernel) hown hK hP 59 (by omega) e_23 rfl 11 (by decide) (hts (.fieldLink RX9 32 "KeptMovingModel" "meetD" "[J") (by decide +kernel)) (fun _ h9 => h9) rfl dX9_meeting_121 ?_
                    refine lv_iload hx hb dX9_meeting_124 (lv_at hl 0 rfl) ?_
                    refine n_lald hx hb hK hP 67 (by omega) e_25 t rfl (by omega) (by decide) dX9_meeting_126 ?_
                    refine n_l2i hx hb dX9_meeting_127 ?_
                    refine lv_goto (tgt := 153) hx hb dX9_meeting_128 (by decide) ?_
                    exact r_i hx hb hr dX9_meeting_153 hlocks hP hS ⟨(congrArg iN (by rw [if_pos (show 0 ≤ wh ∧ wh ≤ 3 by omega), if_pos (show k = -1 by omega), hpf, hr9]; show _ = (if wh = 0 then r.1 / 256 else if wh = 1 then r.1 % 256 else if wh = 2 then (r.2.1 : Int) else (r.2.2.1 : Int)); rw [if_neg (show ¬ wh = 0 by omega), if_pos (show wh = 1 by omega)]; exact y2)), mt2_4, mN2_5, mD2_6, mI2_7, mJ2_8, iP2_9, (fun k h0 h1 h2 h3 h4 h5 => fr_10 k (by omega) (by omega) (by omega) (by omega) (by omega) (by omega)), e_23, e_24, e_25, e_26, e_27, e_28⟩
                · refine lv_aload_n hx hb dX9_meeting_104 rfl (lv_at hl 1 rfl) ?_
                  refine f_get (C := RX9) (T := TX9) (N := 26) hx hb hts (by decide +kernel) hown hK hP 59 (by omega) e_23 rfl 10 (by decide) (hts (.fieldLink RX9 28 "KeptMovingModel" "meetN" "[J") (by decide +kernel)) (fun _ h9 => h9) rfl dX9_meeting_105 ?_
                  refine lv_iload hx hb dX9_meeting_108 (lv_at hl 0 rfl) ?_
                  refine n_lald hx hb hK hP 66 (by omega) e_24 t rfl (by omega) (by decide) dX9_meeting_110 ?_
                  refine n_l2i hx hb dX9_meeting_111 ?_
                  refine lv_goto (tgt := 153) hx hb dX9_meeting_112 (by decide) ?_
                  exact r_i hx hb hr dX9_meeting_153 hlocks hP hS ⟨(congrArg iN (by rw [if_pos (show 0 ≤ wh ∧ wh ≤ 3 by omega), if_pos (show k = -1 by omega), hpf, hr9]; show _ = (if wh = 0 then r.1 / 256 else if wh = 1 then r.1 % 256 else if wh = 2 then (r.2.1 : Int) else (r.2.2.1 : Int)); rw [if_pos (show wh = 0 by omega)]; exact y1)), mt2_4, mN2_5, mD2_6, mI2_7, mJ2_8, iP2_9, (fun k h0 h1 h2 h3 h4 h5 => fr_10 k (by omega) (by omega) (by omega) (by omega) (by omega) (by omega)), e_23, e_24, e_25, e_26, e_27, e_28⟩
              · refine lv_goto (tgt := 98) hx hb dX9_meeting_82 (by decide) ?_
                refine n_iconst hx hb dX9_meeting_98 ?_
                exact r_i hx hb hr dX9_meeting_99 hlocks hP hS ⟨(congrArg iN (by rw [if_pos (show 0 ≤ wh ∧ wh ≤ 3 by omega), if_pos (show k = -1 by omega), hpf, List.getElem?_eq_none (by rw [← hIW.1]; omega)]; rfl)), mt2_4, mN2_5, mD2_6, mI2_7, mJ2_8, iP2_9, (fun k h0 h1 h2 h3 h4 h5 => fr_10 k (by omega) (by omega) (by omega) (by omega) (by omega) (by omega)), e_23, e_24, e_25, e_26, e_27, e_28⟩
        · obtain ⟨q, hq⟩ : ∃ q, (gwL (rw8 mbe, rw8 mpl, rw8 msp, pn, ga) came)[t]? = some q := ⟨_, List.getElem?_eq_getElem (show t < (gwL (rw8 mbe, rw8 mpl, rw8 msp, pn, ga) came).length by rw [← hIW.1]; omega)⟩
          obtain ⟨⟨z1, z2, z3, z4, z5⟩, z6⟩ := hIW.2 _ q hq
          have hm1 := mb3 (a := ((now : Nat) : Int)) (b := mD2_6 t) (A := 400) (B := 100) (by omega) (by omega)
          refine lv_aload_n hx hb dX9_meeting_29 rfl (lv_at hl 0 rfl) ?_
          refine f_get (C := RX9) (T := TX9) (N := 26) hx hb hts (by decide +kernel) hown hK hP 59 (by omega) e_23 rfl 10 (by decide) (hts (.fieldLink RX9 28 "KeptMovingModel" "meetN" "[J") (by decide +kernel)) (fun _ h9 => h9) rfl dX9_meeting_30 ?_
          refine lv_iload_n hx hb dX9_meeting_33 rfl (lv_at hl 3 rfl) ?_
          refine n_lald hx hb hK hP 66 (by omega) e_24 t rfl (by omega) (by decide) dX9_meeting_34 ?_
          refine lv_aload_n hx hb dX9_meeting_35 rfl (lv_at hl 0 rfl) ?_
          refine f_get (C := RX9) (T := TX9) (N := 26) hx hb hts (by decide +kernel) hown hK hP 59 (by omega) e_23 rfl 0 (by decide) (hts (.fieldLink RX9 75 "KeptMovingModel" "now" "I") (by decide +kernel)) (fun _ h9 => h9) rfl dX9_meeting_36 ?_
          refine n_i2l hx hb (by omega) (by omega) dX9_meeting_39 ?_
          refine lv_aload_n hx hb dX9_meeting_40 rfl (lv_at hl 0 rfl) ?_
          refine f_get (C := RX9) (T := TX9) (N := 26) hx hb hts (by decide +kernel) hown hK hP 59 (by omega) e_23 rfl 11 (by decide) (hts (.fieldLink RX9 32 "KeptMovingModel" "meetD" "[J") (by decide +kernel)) (fun _ h9 => h9) rfl dX9_meeting_41 ?_
          refine lv_iload_n hx hb dX9_meeting_44 rfl (lv_at hl 3 rfl) ?_
          refine n_lald hx hb hK hP 67 (by omega) e_25 t rfl (by omega) (by decide) dX9_meeting_45 ?_
          refine n_lmul hx hb dX9_meeting_46 ?_
          refine n_lcmp hx hb (by omega) (by omega) (by omega) (by omega) dX9_meeting_47 ?_
          refine n_ifc_gt (tgt := 57) hx hb dX9_meeting_48 (by decide) (fun c_48 => ?_) (fun c_48 => ?_)
          · have hpf : pfN ((now : Nat) : Int) (gwL (rw8 mbe, rw8 mpl, rw8 msp, pn, ga) came) = t := pf_eq i21_1 (by rw [← hIW.1]; omega) (fun q9 hq9 z => by rw [hq] at hq9; cases hq9; exact absurd (of_decide_eq_true z) (by rw [← z1, ← z2]; omega))
            refine lv_iload_n hx hb dX9_meeting_57 rfl (lv_at hl 1 rfl) ?_
            refine n_iconst hx hb dX9_meeting_58 ?_
            refine n_icmp_ne (tgt := 66) hx hb dX9_meeting_59 (by decide) (by omega) (by omega) (by omega) (by omega) (fun c_59 => ?_) (fun c_59 => ?_)
            · refine lv_iload_n hx hb dX9_meeting_66 rfl (lv_at hl 1 rfl) ?_
              refine lv_istore (lv' := [(4, .int (iN k)), (0, .ref (gad G 59)), (1, .int (iN k)), (2, .int (iN wh)), (3, .int (iN ((t : Nat) : Int)))]) hx hb dX9_meeting_67 hl (by decide) rfl (fun ls hl => ?_)
              refine lv_iload_n hx hb dX9_meeting_69 rfl (lv_at hl 2 rfl) ?_
              refine n_iconst hx hb dX9_meeting_70 ?_
              refine n_icmp_ne (tgt := 85) hx hb dX9_meeting_71 (by decide) (by omega) (by omega) (by omega) (by omega) (fun c_71 => ?_) (fun c_71 => ?_)
              · refine lv_iload_n hx hb dX9_meeting_85 rfl (lv_at hl 2 rfl) ?_
                refine n_i2l hx hb (by omega) (by omega) dX9_meeting_86 ?_
                refine n_lconst (z := 0) hx hb dX9_meeting_87 (by decide) ?_
                refine lv_iload_n hx hb dX9_meeting_88 rfl (lv_at hl 4 rfl) ?_
                refine n_iconst hx hb dX9_meeting_89 ?_
                refine n_isub hx hb dX9_meeting_90 ?_
                refine n_i2l hx hb (by omega) (by omega) dX9_meeting_91 ?_
                refine vp_callSi (W.runS (As := [.long (jN k), .long (jN 0), .long (jN (((t : Nat) : Int) - 1))]) (rest := []) ⟨hx, hb, hml, hown, hts⟩ (c_X9_in l k (0 : Int) (((t : Nat) : Int) - 1) (by omega) (by omega) (by omega)) (va_cwS 3 hts gX9_meeting_X9_in rfl rfl rfl (by decide +kernel) ⟨Nat.le_of_ble_eq_true rfl, Nat.le_of_ble_eq_true rfl⟩) ⟨fun _ _ _ _ q => q, fun _ _ _ => rfl⟩ rfl rfl hl.1 rfl (lv_room (Nat.le_of_ble_eq_true rfl)) dX9_meeting_92 ⟨Nat.zero_le _, Nat.zero_le _⟩) (fun r_33 hr_33 => ?_)
                rw [show r_33 = iN (if ((0 : Int) ≤ k ∧ k ≤ (((t : Nat) : Int) - 1)) then 1 else 0) from hr_33]
                refine n_ifb_ne (tgt := 100) hx hb dX9_meeting_95 (by decide) (fun c_95 => ?_) (fun c_95 => ?_)
                · have hz_34 : k = ((k.toNat : Nat) : Int) := by omega
                  have hl : lv_has ls 5 [(4, .int (iN ((k.toNat : Nat) : Int))), (0, .ref (gad G 59)), (1, .int (iN k)), (2, .int (iN wh)), (3, .int (iN ((t : Nat) : Int)))] := by rw [← hz_34]; exact hl
                  obtain ⟨r, hr9⟩ : ∃ r, (gwL (rw8 mbe, rw8 mpl, rw8 msp, pn, ga) came)[k.toNat]? = some r := ⟨_, List.getElem?_eq_getElem (show k.toNat < (gwL (rw8 mbe, rw8 mpl, rw8 msp, pn, ga) came).length by rw [← hIW.1]; omega)⟩
                  obtain ⟨⟨y1, y2, y3, y4, y5⟩, y6⟩ := hIW.2 _ r hr9
                  refine lv_iload_n hx hb dX9_meeting_100 rfl (lv_at hl 3 rfl) ?_
                  refine n_if_ne (tgt := 115) hx hb dX9_meeting_101 (by decide) (by omega) (by omega) (fun c_101 => ?_) (fun c_101 => ?_)
                  · refine lv_iload_n hx hb dX9_meeting_115 rfl (lv_at hl 3 rfl) ?_
                    refine n_iconst hx hb dX9_meeting_116 ?_
                    refine n_icmp_ne (tgt := 131) hx hb dX9_meeting_117 (by decide) (by omega) (by omega) (by omega) (by omega) (fun c_117 => ?_) (fun c_117 => ?_)
                    · refine lv_iload_n hx hb dX9_meeting_131 rfl (lv_at hl 3 rfl) ?_
                      refine n_iconst hx hb dX9_meeting_132 ?_
                      refine n_icmp_ne (tgt := 146) hx hb dX9_meeting_133 (by decide) (by omega) (by omega) (by omega) (by omega) (fun c_133 => ?_) (fun c_133 => ?_)
                      · refine lv_aload_n hx hb dX9_meeting_146 rfl (lv_at hl 1 rfl) ?_
                        refine f_get (C := RX9) (T := TX9) (N := 26) hx hb hts (by decide +kernel) hown hK hP 59 (by omega) e_23 rfl 13 (by decide) (hts (.fieldLink RX9 38 "KeptMovingModel" "meetJ" "[I") (by decide +kernel)) (fun _ h9 => h9) rfl dX9_meeting_147 ?_
                        refine lv_iload hx hb dX9_meeting_150 (lv_at hl 0 rfl) ?_
                        refine n_iald hx hb hK hP 69 (by omega) e_27 k.toNat rfl (by omega) (by decide) dX9_meeting_152 ?_
                        exact r_i hx hb hr dX9_meeting_153 hlocks hP hS ⟨(congrArg iN (by rw [if_pos (show 0 ≤ wh ∧ wh ≤ 3 by omega), if_neg (show ¬ k = -1 by omega), hpf, if_pos (show 0 ≤ k ∧ k < ((t : Nat) : Int) by omega), hr9]; show _ = (if wh = 0 then r.1 / 256 else if wh = 1 then r.1 % 256 else if wh = 2 then (r.2.1 : Int) else (r.2.2.1 : Int)); rw [if_neg (show ¬ wh = 0 by omega), if_neg (show ¬ wh = 1 by omega), if_neg (show ¬ wh = 2 by omega)]; exact y4)), mt2_4, mN2_5, mD2_6, mI2_7, mJ2_8, iP2_9, (fun k h0 h1 h2 h3 h4 h5 => fr_10 k (by omega) (by omega) (by omega) (by omega) (by omega) (by omega)), e_23, e_24, e_25, e_26, e_27, e_28⟩
                      · refine lv_aload_n hx hb dX9_meeting_136 rfl (lv_at hl 1 rfl) ?_
                        refine f_get (C := RX9) (T := TX9) (N := 26) hx hb hts (by decide +kernel) hown hK hP 59 (by omega) e_23 rfl 12 (by decide) (hts (.fieldLink RX9 35 "KeptMovingModel" "meetI" "[I") (by decide +kernel)) (fun _ h9 => h9) rfl dX9_meeting_137 ?_
                        refine lv_iload hx hb dX9_meeting_140 (lv_at hl 0 rfl) ?_
                        refine n_iald hx hb hK hP 68 (by omega) e_26 k.toNat rfl (by omega) (by decide) dX9_meeting_142 ?_
                        refine lv_goto (tgt := 153) hx hb dX9_meeting_143 (by decide) ?_
                        exact r_i hx hb hr dX9_meeting_153 hlocks hP hS ⟨(congrArg iN (by rw [if_pos (show 0 ≤ wh ∧ wh ≤ 3 by omega), if_neg (show ¬ k = -1 by omega), hpf, if_pos (show 0 ≤ k ∧ k < ((t : Nat) : Int) by omega), hr9]; show _ = (if wh = 0 then r.1 / 256 else if wh = 1 then r.1 % 256 else if wh = 2 then (r.2.1 : Int) else (r.2.2.1 : Int)); rw [if_neg (show ¬ wh = 0 by omega), if_neg (show ¬ wh = 1 by omega), if_pos (show wh = 2 by omega)]; exact y3)), mt2_4, mN2_5, mD2_6, mI2_7, mJ2_8, iP2_9, (fun k h0 h1 h2 h3 h4 h5 => fr_10 k (by omega) (by omega) (by omega) (by omega) (by omega) (by omega)), e_23, e_24, e_25, e_26, e_27, e_28⟩
                    · refine lv_aload_n hx hb dX9_meeting_120 rfl (lv_at hl 1 rfl) ?_
                      refine f_get (C := RX9) (T := TX9) (N := 26) hx hb hts (by decide +kernel) hown hK hP 59 (by omega) e_23 rfl 11 (by decide) (hts (.fieldLink RX9 32 "KeptMovingModel" "meetD" "[J") (by decide +kernel)) (fun _ h9 => h9) rfl dX9_meeting_121 ?_
                      refine lv_iload hx hb dX9_meeting_124 (lv_at hl 0 rfl) ?_
                      refine n_lald hx hb hK hP 67 (by omega) e_25 k.toNat rfl (by omega) (by decide) dX9_meeting_126 ?_
                      refine n_l2i hx hb dX9_meeting_127 ?_
                      refine lv_goto (tgt := 153) hx hb dX9_meeting_128 (by decide) ?_
                      exact r_i hx hb hr dX9_meeting_153 hlocks hP hS ⟨(congrArg iN (by rw [if_pos (show 0 ≤ wh ∧ wh ≤ 3 by omega), if_neg (show ¬ k = -1 by omega), hpf, if_pos (show 0 ≤ k ∧ k < ((t : Nat) : Int) by omega), hr9]; show _ = (if wh = 0 then r.1 / 256 else if wh = 1 then r.1 % 256 else if wh = 2 then (r.2.1 : Int) else (r.2.2.1 : Int)); rw [if_neg (show ¬ wh = 0 by omega), if_pos (show wh = 1 by omega)]; exact y2)), mt2_4, mN2_5, mD2_6, mI2_7, mJ2_8, iP2_9, (fun k h0 h1 h2 h3 h4 h5 => fr_10 k (by omega) (by omega) (by omega) (by omega) (by omega) (by omega)), e_23, e_24, e_25, e_26, e_27, e_28⟩
                  · refine lv_aload_n hx hb dX9_meeting_104 rfl (lv_at hl 1 rfl) ?_
                    refine f_get (C := RX9) (T := TX9) (N := 26) hx hb hts (by decide +kernel) hown hK hP 59 (by omega) e_23 rfl 10 (by decide) (hts (.fieldLink RX9 28 "KeptMovingModel" "meetN" "[J") (by decide +kernel)) (fun _ h9 => h9) rfl dX9_meeting_105 ?_
                    refine lv_iload hx hb dX9_meeting_108 (lv_at hl 0 rfl) ?_
                    refine n_lald hx hb hK hP 66 (by omega) e_24 k.toNat rfl (by omega) (by decide) dX9_meeting_110 ?_
                    refine n_l2i hx hb dX9_meeting_111 ?_
                    refine lv_goto (tgt := 153) hx hb dX9_meeting_112 (by decide) ?_
                    exact r_i hx hb hr dX9_meeting_153 hlocks hP hS ⟨(congrArg iN (by rw [if_pos (show 0 ≤ wh ∧ wh ≤ 3 by omega), if_neg (show ¬ k = -1 by omega), hpf, if_pos (show 0 ≤ k ∧ k < ((t : Nat) : Int) by omega), hr9]; show _ = (if wh = 0 then r.1 / 256 else if wh = 1 then r.1 % 256 else if wh = 2 then (r.2.1 : Int) else (r.2.2.1 : Int)); rw [if_pos (show wh = 0 by omega)]; exact y1)), mt2_4, mN2_5, mD2_6, mI2_7, mJ2_8, iP2_9, (fun k h0 h1 h2 h3 h4 h5 => fr_10 k (by omega) (by omega) (by omega) (by omega) (by omega) (by omega)), e_23, e_24, e_25, e_26, e_27, e_28⟩
                · refine n_iconst hx hb dX9_meeting_98 ?_
                  exact r_i hx hb hr dX9_meeting_99 hlocks hP hS ⟨(congrArg iN (by rw [if_pos (show 0 ≤ wh ∧ wh ≤ 3 by omega), if_neg (show ¬ k = -1 by omega), hpf, if_neg (show ¬ (0 ≤ k ∧ k < ((t : Nat) : Int)) by omega)])), mt2_4, mN2_5, mD2_6, mI2_7, mJ2_8, iP2_9, (fun k h0 h1 h2 h3 h4 h5 => fr_10 k (by omega) (by omega) (by omega) (by omega) (by omega) (by omega)), e_23, e_24, e_25, e_26, e_27, e_28⟩
              · refine lv_iload_n hx hb dX9_meeting_74 rfl (lv_at hl 4 rfl) ?_
                refine lv_aload_n hx hb dX9_meeting_75 rfl (lv_at hl 1 rfl) ?_
                refine f_get (C := RX9) (T := TX9) (N := 26) hx hb hts (by decide +kernel) hown hK hP 59 (by omega) e_23 rfl 9 (by decide) (hts (.fieldLink RX9 97 "KeptMovingModel" "meetings" "I") (by decide +kernel)) (fun _ h9 => h9) rfl dX9_meeting_76 ?_
                refine n_icmp_ne (tgt := 100) hx hb dX9_meeting_79 (by decide) (by omega) (by omega) (by omega) (by omega) (fun c_79 => ?_) (fun c_79 => ?_)
                · have hz_35 : k = ((k.toNat : Nat) : Int) := by omega
                  have hl : lv_has ls 5 [(4, .int (iN ((k.toNat : Nat) : Int))), (0, .ref (gad G 59)), (1, .int (iN k)), (2, .int (iN wh)), (3, .int (iN ((t : Nat) : Int)))] := by rw [← hz_35]; exact hl
                  obtain ⟨r, hr9⟩ : ∃ r, (gwL (rw8 mbe, rw8 mpl, rw8 msp, pn, ga) came)[k.toNat]? = some r := ⟨_, List.getElem?_eq_getElem (show k.toNat < (gwL (rw8 mbe, rw8 mpl, rw8 msp, pn, ga) came).length by rw [← hIW.1]; omega)⟩
                  obtain ⟨⟨y1, y2, y3, y4, y5⟩, y6⟩ := hIW.2 _ r hr9
                  refine lv_iload_n hx hb dX9_meeting_100 rfl (lv_at hl 3 rfl) ?_
                  refine n_if_ne (tgt := 115) hx hb dX9_meeting_101 (by decide) (by omega) (by omega) (fun c_101 => ?_) (fun c_101 => ?_)
                  · refine lv_iload_n hx hb dX9_meeting_115 rfl (lv_at hl 3 rfl) ?_
                    refine n_iconst hx hb dX9_meeting_116 ?_
                    refine n_icmp_ne (tgt := 131) hx hb dX9_meeting_117 (by decide) (by omega) (by omega) (by omega) (by omega) (fun c_117 => ?_) (fun c_117 => ?_)
                    · refine lv_iload_n hx hb dX9_meeting_131 rfl (lv_at hl 3 rfl) ?_
                      refine n_iconst hx hb dX9_meeting_132 ?_
                      refine n_icmp_ne (tgt := 146) hx hb dX9_meeting_133 (by decide) (by omega) (by omega) (by omega) (by omega) (fun c_133 => ?_) (fun c_133 => ?_)
                      · refine lv_aload_n hx hb dX9_meeting_146 rfl (lv_at hl 1 rfl) ?_
                        refine f_get (C := RX9) (T := TX9) (N := 26) hx hb hts (by decide +kernel) hown hK hP 59 (by omega) e_23 rfl 13 (by decide) (hts (.fieldLink RX9 38 "KeptMovingModel" "meetJ" "[I") (by decide +kernel)) (fun _ h9 => h9) rfl dX9_meeting_147 ?_
                        refine lv_iload hx hb dX9_meeting_150 (lv_at hl 0 rfl) ?_
                        refine n_iald hx hb hK hP 69 (by omega) e_27 k.toNat rfl (by omega) (by decide) dX9_meeting_152 ?_
                        exact r_i hx hb hr dX9_meeting_153 hlocks hP hS ⟨(congrArg iN (by rw [if_pos (show 0 ≤ wh ∧ wh ≤ 3 by omega), if_neg (show ¬ k = -1 by omega), hpf, if_pos (show 0 ≤ k ∧ k < ((t : Nat) : Int) by omega), hr9]; show _ = (if wh = 0 then r.1 / 256 else if wh = 1 then r.1 % 256 else if wh = 2 then (r.2.1 : Int) else (r.2.2.1 : Int)); rw [if_neg (show ¬ wh = 0 by omega), if_neg (show ¬ wh = 1 by omega), if_neg (show ¬ wh = 2 by omega)]; exact y4)), mt2_4, mN2_5, mD2_6, mI2_7, mJ2_8, iP2_9, (fun k h0 h1 h2 h3 h4 h5 => fr_10 k (by omega) (by omega) (by omega) (by omega) (by omega) (by omega)), e_23, e_24, e_25, e_26, e_27, e_28⟩
                      · refine lv_aload_n hx hb dX9_meeting_136 rfl (lv_at hl 1 rfl) ?_
                        refine f_get (C := RX9) (T := TX9) (N := 26) hx hb hts (by decide +kernel) hown hK hP 59 (by omega) e_23 rfl 12 (by decide) (hts (.fieldLink RX9 35 "KeptMovingModel" "meetI" "[I") (by decide +kernel)) (fun _ h9 => h9) rfl dX9_meeting_137 ?_
                        refine lv_iload hx hb dX9_meeting_140 (lv_at hl 0 rfl) ?_
                        refine n_iald hx hb hK hP 68 (by omega) e_26 k.toNat rfl (by omega) (by decide) dX9_meeting_142 ?_
                        refine lv_goto (tgt := 153) hx hb dX9_meeting_143 (by decide) ?_
                        exact r_i hx hb hr dX9_meeting_153 hlocks hP hS ⟨(congrArg iN (by rw [if_pos (show 0 ≤ wh ∧ wh ≤ 3 by omega), if_neg (show ¬ k = -1 by omega), hpf, if_pos (show 0 ≤ k ∧ k < ((t : Nat) : Int) by omega), hr9]; show _ = (if wh = 0 then r.1 / 256 else if wh = 1 then r.1 % 256 else if wh = 2 then (r.2.1 : Int) else (r.2.2.1 : Int)); rw [if_neg (show ¬ wh = 0 by omega), if_neg (show ¬ wh = 1 by omega), if_pos (show wh = 2 by omega)]; exact y3)), mt2_4, mN2_5, mD2_6, mI2_7, mJ2_8, iP2_9, (fun k h0 h1 h2 h3 h4 h5 => fr_10 k (by omega) (by omega) (by omega) (by omega) (by omega) (by omega)), e_23, e_24, e_25, e_26, e_27, e_28⟩
                    · refine lv_aload_n hx hb dX9_meeting_120 rfl (lv_at hl 1 rfl) ?_
                      refine f_get (C := RX9) (T := TX9) (N := 26) hx hb hts (by decide +kernel) hown hK hP 59 (by omega) e_23 rfl 11 (by decide) (hts (.fieldLink RX9 32 "KeptMovingModel" "meetD" "[J") (by decide +kernel)) (fun _ h9 => h9) rfl dX9_meeting_121 ?_
                      refine lv_iload hx hb dX9_meeting_124 (lv_at hl 0 rfl) ?_
                      refine n_lald hx hb hK hP 67 (by omega) e_25 k.toNat rfl (by omega) (by decide) dX9_meeting_126 ?_
                      refine n_l2i hx hb dX9_meeting_127 ?_
                      refine lv_goto (tgt := 153) hx hb dX9_meeting_128 (by decide) ?_
                      exact r_i hx hb hr dX9_meeting_153 hlocks hP hS ⟨(congrArg iN (by rw [if_pos (show 0 ≤ wh ∧ wh ≤ 3 by omega), if_neg (show ¬ k = -1 by omega), hpf, if_pos (show 0 ≤ k ∧ k < ((t : Nat) : Int) by omega), hr9]; show _ = (if wh = 0 then r.1 / 256 else if wh = 1 then r.1 % 256 else if wh = 2 then (r.2.1 : Int) else (r.2.2.1 : Int)); rw [if_neg (show ¬ wh = 0 by omega), if_pos (show wh = 1 by omega)]; exact y2)), mt2_4, mN2_5, mD2_6, mI2_7, mJ2_8, iP2_9, (fun k h0 h1 h2 h3 h4 h5 => fr_10 k (by omega) (by omega) (by omega) (by omega) (by omega) (by omega)), e_23, e_24, e_25, e_26, e_27, e_28⟩
                  · refine lv_aload_n hx hb dX9_meeting_104 rfl (lv_at hl 1 rfl) ?_
                    refine f_get (C := RX9) (T := TX9) (N := 26) hx hb hts (by decide +kernel) hown hK hP 59 (by omega) e_23 rfl 10 (by decide) (hts (.fieldLink RX9 28 "KeptMovingModel" "meetN" "[J") (by decide +kernel)) (fun _ h9 => h9) rfl dX9_meeting_105 ?_
                    refine lv_iload hx hb dX9_meeting_108 (lv_at hl 0 rfl) ?_
                    refine n_lald hx hb hK hP 66 (by omega) e_24 k.toNat rfl (by omega) (by decide) dX9_meeting_110 ?_
                    refine n_l2i hx hb dX9_meeting_111 ?_
                    refine lv_goto (tgt := 153) hx hb dX9_meeting_112 (by decide) ?_
                    exact r_i hx hb hr dX9_meeting_153 hlocks hP hS ⟨(congrArg iN (by rw [if_pos (show 0 ≤ wh ∧ wh ≤ 3 by omega), if_neg (show ¬ k = -1 by omega), hpf, if_pos (show 0 ≤ k ∧ k < ((t : Nat) : Int) by omega), hr9]; show _ = (if wh = 0 then r.1 / 256 else if wh = 1 then r.1 % 256 else if wh = 2 then (r.2.1 : Int) else (r.2.2.1 : Int)); rw [if_pos (show wh = 0 by omega)]; exact y1)), mt2_4, mN2_5, mD2_6, mI2_7, mJ2_8, iP2_9, (fun k h0 h1 h2 h3 h4 h5 => fr_10 k (by omega) (by omega) (by omega) (by omega) (by omega) (by omega)), e_23, e_24, e_25, e_26, e_27, e_28⟩
                · refine lv_goto (tgt := 98) hx hb dX9_meeting_82 (by decide) ?_
                  refine n_iconst hx hb dX9_meeting_98 ?_
                  exact r_i hx hb hr dX9_meeting_99 hlocks hP hS ⟨(congrArg iN (by rw [if_pos (show 0 ≤ wh ∧ wh ≤ 3 by omega), if_pos (show k = -1 by omega), hpf, List.getElem?_eq_none (by rw [← hIW.1]; omega)]; rfl)), mt2_4, mN2_5, mD2_6, mI2_7, mJ2_8, iP2_9, (fun k h0 h1 h2 h3 h4 h5 => fr_10 k (by omega) (by omega) (by omega) (by omega) (by omega) (by omega)), e_23, e_24, e_25, e_26, e_27, e_28⟩
            · refine lv_iload_n hx hb dX9_meeting_62 rfl (lv_at hl 3 rfl) ?_
              refine lv_goto (tgt := 67) hx hb dX9_meeting_63 (by decide) ?_
              refine lv_istore (lv' := [(4, .int (iN ((t : Nat) : Int))), (0, .ref (gad G 59)), (1, .int (iN k)), (2, .int (iN wh)), (3, .int (iN ((t : Nat) : Int)))]) hx hb dX9_meeting_67 hl (by decide) rfl (fun ls hl => ?_)
              refine lv_iload_n hx hb dX9_meeting_69 rfl (lv_at hl 2 rfl) ?_
              refine n_iconst hx hb dX9_meeting_70 ?_
              refine n_icmp_ne (tgt := 85) hx hb dX9_meeting_71 (by decide) (by omega) (by omega) (by omega) (by omega) (fun c_71 => ?_) (fun c_71 => ?_)
              · refine lv_iload_n hx hb dX9_meeting_85 rfl (lv_at hl 2 rfl) ?_
                refine n_i2l hx hb (by omega) (by omega) dX9_meeting_86 ?_
                refine n_lconst (z := 0) hx hb dX9_meeting_87 (by decide) ?_
                refine lv_iload_n hx hb dX9_meeting_88 rfl (lv_at hl 4 rfl) ?_
                refine n_iconst hx hb dX9_meeting_89 ?_
                refine n_isub hx hb dX9_meeting_90 ?_
                refine n_i2l hx hb (by omega) (by omega) dX9_meeting_91 ?_
                refine vp_callSi (W.runS (As := [.long (jN k), .long (jN 0), .long (jN (((t : Nat) : Int) - 1))]) (rest := []) ⟨hx, hb, hml, hown, hts⟩ (c_X9_in l k (0 : Int) (((t : Nat) : Int) - 1) (by omega) (by omega) (by omega)) (va_cwS 3 hts gX9_meeting_X9_in rfl rfl rfl (by decide +kernel) ⟨Nat.le_of_ble_eq_true rfl, Nat.le_of_ble_eq_true rfl⟩) ⟨fun _ _ _ _ q => q, fun _ _ _ => rfl⟩ rfl rfl hl.1 rfl (lv_room (Nat.le_of_ble_eq_true rfl)) dX9_meeting_92 ⟨Nat.zero_le _, Nat.zero_le _⟩) (fun r_36 hr_36 => ?_)
                rw [show r_36 = iN (if ((0 : Int) ≤ k ∧ k ≤ (((t : Nat) : Int) - 1)) then 1 else 0) from hr_36]
                refine n_ifb_ne (tgt := 100) hx hb dX9_meeting_95 (by decide) (fun c_95 => ?_) (fun c_95 => ?_)
                · obtain ⟨r, hr9⟩ : ∃ r, (gwL (rw8 mbe, rw8 mpl, rw8 msp, pn, ga) came)[t]? = some r := ⟨_, List.getElem?_eq_getElem (show t < (gwL (rw8 mbe, rw8 mpl, rw8 msp, pn, ga) came).length by rw [← hIW.1]; omega)⟩
                  obtain ⟨⟨y1, y2, y3, y4, y5⟩, y6⟩ := hIW.2 _ r hr9
                  refine lv_iload_n hx hb dX9_meeting_100 rfl (lv_at hl 3 rfl) ?_
                  refine n_if_ne (tgt := 115) hx hb dX9_meeting_101 (by decide) (by omega) (by omega) (fun c_101 => ?_) (fun c_101 => ?_)
                  · refine lv_iload_n hx hb dX9_meeting_115 rfl (lv_at hl 3 rfl) ?_
                    refine n_iconst hx hb dX9_meeting_116 ?_
                    refine n_icmp_ne (tgt := 131) hx hb dX9_meeting_117 (by decide) (by omega) (by omega) (by omega) (by omega) (fun c_117 => ?_) (fun c_117 => ?_)
                    · refine lv_iload_n hx hb dX9_meeting_131 rfl (lv_at hl 3 rfl) ?_
                      refine n_iconst hx hb dX9_meeting_132 ?_
                      refine n_icmp_ne (tgt := 146) hx hb dX9_meeting_133 (by decide) (by omega) (by omega) (by omega) (by omega) (fun c_133 => ?_) (fun c_133 => ?_)
                      · refine lv_aload_n hx hb dX9_meeting_146 rfl (lv_at hl 1 rfl) ?_
                        refine f_get (C := RX9) (T := TX9) (N := 26) hx hb hts (by decide +kernel) hown hK hP 59 (by omega) e_23 rfl 13 (by decide) (hts (.fieldLink RX9 38 "KeptMovingModel" "meetJ" "[I") (by decide +kernel)) (fun _ h9 => h9) rfl dX9_meeting_147 ?_
                        refine lv_iload hx hb dX9_meeting_150 (lv_at hl 0 rfl) ?_
                        refine n_iald hx hb hK hP 69 (by omega) e_27 t rfl (by omega) (by decide) dX9_meeting_152 ?_
                        exact r_i hx hb hr dX9_meeting_153 hlocks hP hS ⟨(congrArg iN (by rw [if_pos (show 0 ≤ wh ∧ wh ≤ 3 by omega), if_pos (show k = -1 by omega), hpf, hr9]; show _ = (if wh = 0 then r.1 / 256 else if wh = 1 then r.1 % 256 else if wh = 2 then (r.2.1 : Int) else (r.2.2.1 : Int)); rw [if_neg (show ¬ wh = 0 by omega), if_neg (show ¬ wh = 1 by omega), if_neg (show ¬ wh = 2 by omega)]; exact y4)), mt2_4, mN2_5, mD2_6, mI2_7, mJ2_8, iP2_9, (fun k h0 h1 h2 h3 h4 h5 => fr_10 k (by omega) (by omega) (by omega) (by omega) (by omega) (by omega)), e_23, e_24, e_25, e_26, e_27, e_28⟩
                      · refine lv_aload_n hx hb dX9_meeting_136 rfl (lv_at hl 1 rfl) ?_
                        refine f_get (C := RX9) (T := TX9) (N := 26) hx hb hts (by decide +kernel) hown hK hP 59 (by omega) e_23 rfl 12 (by decide) (hts (.fieldLink RX9 35 "KeptMovingModel" "meetI" "[I") (by decide +kernel)) (fun _ h9 => h9) rfl dX9_meeting_137 ?_
                        refine lv_iload hx hb dX9_meeting_140 (lv_at hl 0 rfl) ?_
                        refine n_iald hx hb hK hP 68 (by omega) e_26 t rfl (by omega) (by decide) dX9_meeting_142 ?_
                        refine lv_goto (tgt := 153) hx hb dX9_meeting_143 (by decide) ?_
                        exact r_i hx hb hr dX9_meeting_153 hlocks hP hS ⟨(congrArg iN (by rw [if_pos (show 0 ≤ wh ∧ wh ≤ 3 by omega), if_pos (show k = -1 by omega), hpf, hr9]; show _ = (if wh = 0 then r.1 / 256 else if wh = 1 then r.1 % 256 else if wh = 2 then (r.2.1 : Int) else (r.2.2.1 : Int)); rw [if_neg (show ¬ wh = 0 by omega), if_neg (show ¬ wh = 1 by omega), if_pos (show wh = 2 by omega)]; exact y3)), mt2_4, mN2_5, mD2_6, mI2_7, mJ2_8, iP2_9, (fun k h0 h1 h2 h3 h4 h5 => fr_10 k (by omega) (by omega) (by omega) (by omega) (by omega) (by omega)), e_23, e_24, e_25, e_26, e_27, e_28⟩
                    · refine lv_aload_n hx hb dX9_meeting_120 rfl (lv_at hl 1 rfl) ?_
                      refine f_get (C := RX9) (T := TX9) (N := 26) hx hb hts (by decide +kernel) hown hK hP 59 (by omega) e_23 rfl 11 (by decide) (hts (.fieldLink RX9 32 "KeptMovingModel" "meetD" "[J") (by decide +kernel)) (fun _ h9 => h9) rfl dX9_meeting_121 ?_
                      refine lv_iload hx hb dX9_meeting_124 (lv_at hl 0 rfl) ?_
                      refine n_lald hx hb hK hP 67 (by omega) e_25 t rfl (by omega) (by decide) dX9_meeting_126 ?_
                      refine n_l2i hx hb dX9_meeting_127 ?_
                      refine lv_goto (tgt := 153) hx hb dX9_meeting_128 (by decide) ?_
                      exact r_i hx hb hr dX9_meeting_153 hlocks hP hS ⟨(congrArg iN (by rw [if_pos (show 0 ≤ wh ∧ wh ≤ 3 by omega), if_pos (show k = -1 by omega), hpf, hr9]; show _ = (if wh = 0 then r.1 / 256 else if wh = 1 then r.1 % 256 else if wh = 2 then (r.2.1 : Int) else (r.2.2.1 : Int)); rw [if_neg (show ¬ wh = 0 by omega), if_pos (show wh = 1 by omega)]; exact y2)), mt2_4, mN2_5, mD2_6, mI2_7, mJ2_8, iP2_9, (fun k h0 h1 h2 h3 h4 h5 => fr_10 k (by omega) (by omega) (by omega) (by omega) (by omega) (by omega)), e_23, e_24, e_25, e_26, e_27, e_28⟩
                  · refine lv_aload_n hx hb dX9_meeting_104 rfl (lv_at hl 1 rfl) ?_
                    refine f_get (C := RX9) (T := TX9) (N := 26) hx hb hts (by decide +kernel) hown hK hP 59 (by omega) e_23 rfl 10 (by decide) (hts (.fieldLink RX9 28 "KeptMovingModel" "meetN" "[J") (by decide +kernel)) (fun _ h9 => h9) rfl dX9_meeting_105 ?_
                    refine lv_iload hx hb dX9_meeting_108 (lv_at hl 0 rfl) ?_
                    refine n_lald hx hb hK hP 66 (by omega) e_24 t rfl (by omega) (by decide) dX9_meeting_110 ?_
                    refine n_l2i hx hb dX9_meeting_111 ?_
                    refine lv_goto (tgt := 153) hx hb dX9_meeting_112 (by decide) ?_
                    exact r_i hx hb hr dX9_meeting_153 hlocks hP hS ⟨(congrArg iN (by rw [if_pos (show 0 ≤ wh ∧ wh ≤ 3 by omega), if_pos (show k = -1 by omega), hpf, hr9]; show _ = (if wh = 0 then r.1 / 256 else if wh = 1 then r.1 % 256 else if wh = 2 then (r.2.1 : Int) else (r.2.2.1 : Int)); rw [if_pos (show wh = 0 by omega)]; exact y1)), mt2_4, mN2_5, mD2_6, mI2_7, mJ2_8, iP2_9, (fun k h0 h1 h2 h3 h4 h5 => fr_10 k (by omega) (by omega) (by omega) (by omega) (by omega) (by omega)), e_23, e_24, e_25, e_26, e_27, e_28⟩
                · refine n_iconst hx hb dX9_meeting_98 ?_
                  exact r_i hx hb hr dX9_meeting_99 hlocks hP hS ⟨(congrArg iN (by rw [if_pos (show 0 ≤ wh ∧ wh ≤ 3 by omega), if_neg (show ¬ k = -1 by omega), hpf, if_neg (show ¬ (0 ≤ k ∧ k < ((t : Nat) : Int)) by omega)])), mt2_4, mN2_5, mD2_6, mI2_7, mJ2_8, iP2_9, (fun k h0 h1 h2 h3 h4 h5 => fr_10 k (by omega) (by omega) (by omega) (by omega) (by omega) (by omega)), e_23, e_24, e_25, e_26, e_27, e_28⟩
              · refine lv_iload_n hx hb dX9_meeting_74 rfl (lv_at hl 4 rfl) ?_
                refine lv_aload_n hx hb dX9_meeting_75 rfl (lv_at hl 1 rfl) ?_
                refine f_get (C := RX9) (T := TX9) (N := 26) hx hb hts (by decide +kernel) hown hK hP 59 (by omega) e_23 rfl 9 (by decide) (hts (.fieldLink RX9 97 "KeptMovingModel" "meetings" "I") (by decide +kernel)) (fun _ h9 => h9) rfl dX9_meeting_76 ?_
                refine n_icmp_ne (tgt := 100) hx hb dX9_meeting_79 (by decide) (by omega) (by omega) (by omega) (by omega) (fun c_79 => ?_) (fun c_79 => ?_)
                · obtain ⟨r, hr9⟩ : ∃ r, (gwL (rw8 mbe, rw8 mpl, rw8 msp, pn, ga) came)[t]? = some r := ⟨_, List.getElem?_eq_getElem (show t < (gwL (rw8 mbe, rw8 mpl, rw8 msp, pn, ga) came).length by rw [← hIW.1]; omega)⟩
                  obtain ⟨⟨y1, y2, y3, y4, y5⟩, y6⟩ := hIW.2 _ r hr9
                  refine lv_iload_n hx hb dX9_meeting_100 rfl (lv_at hl 3 rfl) ?_
                  refine n_if_ne (tgt := 115) hx hb dX9_meeting_101 (by decide) (by omega) (by omega) (fun c_101 => ?_) (fun c_101 => ?_)
                  · refine lv_iload_n hx hb dX9_meeting_115 rfl (lv_at hl 3 rfl) ?_
                    refine n_iconst hx hb dX9_meeting_116 ?_
                    refine n_icmp_ne (tgt := 131) hx hb dX9_meeting_117 (by decide) (by omega) (by omega) (by omega) (by omega) (fun c_117 => ?_) (fun c_117 => ?_)
                    · refine lv_iload_n hx hb dX9_meeting_131 rfl (lv_at hl 3 rfl) ?_
                      refine n_iconst hx hb dX9_meeting_132 ?_
                      refine n_icmp_ne (tgt := 146) hx hb dX9_meeting_133 (by decide) (by omega) (by omega) (by omega) (by omega) (fun c_133 => ?_) (fun c_133 => ?_)
                      · refine lv_aload_n hx hb dX9_meeting_146 rfl (lv_at hl 1 rfl) ?_
                        refine f_get (C := RX9) (T := TX9) (N := 26) hx hb hts (by decide +kernel) hown hK hP 59 (by omega) e_23 rfl 13 (by decide) (hts (.fieldLink RX9 38 "KeptMovingModel" "meetJ" "[I") (by decide +kernel)) (fun _ h9 => h9) rfl dX9_meeting_147 ?_
                        refine lv_iload hx hb dX9_meeting_150 (lv_at hl 0 rfl) ?_
                        refine n_iald hx hb hK hP 69 (by omega) e_27 t rfl (by omega) (by decide) dX9_meeting_152 ?_
                        exact r_i hx hb hr dX9_meeting_153 hlocks hP hS ⟨(congrArg iN (by rw [if_pos (show 0 ≤ wh ∧ wh ≤ 3 by omega), if_pos (show k = -1 by omega), hpf, hr9]; show _ = (if wh = 0 then r.1 / 256 else if wh = 1 then r.1 % 256 else if wh = 2 then (r.2.1 : Int) else (r.2.2.1 : Int)); rw [if_neg (show ¬ wh = 0 by omega), if_neg (show ¬ wh = 1 by omega), if_neg (show ¬ wh = 2 by omega)]; exact y4)), mt2_4, mN2_5, mD2_6, mI2_7, mJ2_8, iP2_9, (fun k h0 h1 h2 h3 h4 h5 => fr_10 k (by omega) (by omega) (by omega) (by omega) (by omega) (by omega)), e_23, e_24, e_25, e_26, e_27, e_28⟩
                      · refine lv_aload_n hx hb dX9_meeting_136 rfl (lv_at hl 1 rfl) ?_
                        refine f_get (C := RX9) (T := TX9) (N := 26) hx hb hts (by decide +kernel) hown hK hP 59 (by omega) e_23 rfl 12 (by decide) (hts (.fieldLink RX9 35 "KeptMovingModel" "meetI" "[I") (by decide +kernel)) (fun _ h9 => h9) rfl dX9_meeting_137 ?_
                        refine lv_iload hx hb dX9_meeting_140 (lv_at hl 0 rfl) ?_
                        refine n_iald hx hb hK hP 68 (by omega) e_26 t rfl (by omega) (by decide) dX9_meeting_142 ?_
                        refine lv_goto (tgt := 153) hx hb dX9_meeting_143 (by decide) ?_
                        exact r_i hx hb hr dX9_meeting_153 hlocks hP hS ⟨(congrArg iN (by rw [if_pos (show 0 ≤ wh ∧ wh ≤ 3 by omega), if_pos (show k = -1 by omega), hpf, hr9]; show _ = (if wh = 0 then r.1 / 256 else if wh = 1 then r.1 % 256 else if wh = 2 then (r.2.1 : Int) else (r.2.2.1 : Int)); rw [if_neg (show ¬ wh = 0 by omega), if_neg (show ¬ wh = 1 by omega), if_pos (show wh = 2 by omega)]; exact y3)), mt2_4, mN2_5, mD2_6, mI2_7, mJ2_8, iP2_9, (fun k h0 h1 h2 h3 h4 h5 => fr_10 k (by omega) (by omega) (by omega) (by omega) (by omega) (by omega)), e_23, e_24, e_25, e_26, e_27, e_28⟩
                    · refine lv_aload_n hx hb dX9_meeting_120 rfl (lv_at hl 1 rfl) ?_
                      refine f_get (C := RX9) (T := TX9) (N := 26) hx hb hts (by decide +kernel) hown hK hP 59 (by omega) e_23 rfl 11 (by decide) (hts (.fieldLink RX9 32 "KeptMovingModel" "meetD" "[J") (by decide +kernel)) (fun _ h9 => h9) rfl dX9_meeting_121 ?_
                      refine lv_iload hx hb dX9_meeting_124 (lv_at hl 0 rfl) ?_
                      refine n_lald hx hb hK hP 67 (by omega) e_25 t rfl (by omega) (by decide) dX9_meeting_126 ?_
                      refine n_l2i hx hb dX9_meeting_127 ?_
                      refine lv_goto (tgt := 153) hx hb dX9_meeting_128 (by decide) ?_
                      exact r_i hx hb hr dX9_meeting_153 hlocks hP hS ⟨(congrArg iN (by rw [if_pos (show 0 ≤ wh ∧ wh ≤ 3 by omega), if_pos (show k = -1 by omega), hpf, hr9]; show _ = (if wh = 0 then r.1 / 256 else if wh = 1 then r.1 % 256 else if wh = 2 then (r.2.1 : Int) else (r.2.2.1 : Int)); rw [if_neg (show ¬ wh = 0 by omega), if_pos (show wh = 1 by omega)]; exact y2)), mt2_4, mN2_5, mD2_6, mI2_7, mJ2_8, iP2_9, (fun k h0 h1 h2 h3 h4 h5 => fr_10 k (by omega) (by omega) (by omega) (by omega) (by omega) (by omega)), e_23, e_24, e_25, e_26, e_27, e_28⟩
                  · refine lv_aload_n hx hb dX9_meeting_104 rfl (lv_at hl 1 rfl) ?_
                    refine f_get (C := RX9) (T := TX9) (N := 26) hx hb hts (by decide +kernel) hown hK hP 59 (by omega) e_23 rfl 10 (by decide) (hts (.fieldLink RX9 28 "KeptMovingModel" "meetN" "[J") (by decide +kernel)) (fun _ h9 => h9) rfl dX9_meeting_105 ?_
                    refine lv_iload hx hb dX9_meeting_108 (lv_at hl 0 rfl) ?_
                    refine n_lald hx hb hK hP 66 (by omega) e_24 t rfl (by omega) (by decide) dX9_meeting_110 ?_
                    refine n_l2i hx hb dX9_meeting_111 ?_
                    refine lv_goto (tgt := 153) hx hb dX9_meeting_112 (by decide) ?_
                    exact r_i hx hb hr dX9_meeting_153 hlocks hP hS ⟨(congrArg iN (by rw [if_pos (show 0 ≤ wh ∧ wh ≤ 3 by omega), if_pos (show k = -1 by omega), hpf, hr9]; show _ = (if wh = 0 then r.1 / 256 else if wh = 1 then r.1 % 256 else if wh = 2 then (r.2.1 : Int) else (r.2.2.1 : Int)); rw [if_pos (show wh = 0 by omega)]; exact y1)), mt2_4, mN2_5, mD2_6, mI2_7, mJ2_8, iP2_9, (fun k h0 h1 h2 h3 h4 h5 => fr_10 k (by omega) (by omega) (by omega) (by omega) (by omega) (by omega)), e_23, e_24, e_25, e_26, e_27, e_28⟩
                · refine lv_goto (tgt := 98) hx hb dX9_meeting_82 (by decide) ?_
                  refine n_iconst hx hb dX9_meeting_98 ?_
                  exact r_i hx hb hr dX9_meeting_99 hlocks hP hS ⟨(congrArg iN (by rw [if_pos (show 0 ≤ wh ∧ wh ≤ 3 by omega), if_pos (show k = -1 by omega), hpf, List.getElem?_eq_none (by rw [← hIW.1]; omega)]; rfl)), mt2_4, mN2_5, mD2_6, mI2_7, mJ2_8, iP2_9, (fun k h0 h1 h2 h3 h4 h5 => fr_10 k (by omega) (by omega) (by omega) (by omega) (by omega) (by omega)), e_23, e_24, e_25, e_26, e_27, e_28⟩
          · refine lv_iinc (v := iN ((t + 1 : Nat) : Int)) (lv' := [(3, .int (iN ((t + 1 : Nat) : Int))), (0, .ref (gad G 59)), (1, .int (iN k)), (2, .int (iN wh))]) hx hb dX9_meeting_51 hl (k := 3) rfl (iN_incN _) (by decide) rfl (fun ls hl => ?_)
            refine lv_goto (tgt := 21) hx hb dX9_meeting_54 (by decide) ?_
            exact ih21 (t + 1) _ (by omega) (fun a q9 ha hq9 => by rcases Nat.lt_or_ge a t with z | z; exact i21_1 a q9 z hq9; rw [show a = t by omega, hq] at hq9; cases hq9; exact decide_eq_true (by rw [← z1, ← z2]; omega)) (by omega) (lv_sub hl [1, 2, 3, 0] rfl)
    exact K21 ((801 - 0) + 1) (0) _ (by omega) (fun a q ha _ => absurd ha (Nat.not_lt_zero a)) (by omega) (lv_sub hl [1, 2, 3, 0] rfl)
  · refine n_ldc (z := (-100002)) hx hb hown (hts (.constant RX9 73 (-100002)) (by decide +kernel)) (by decide) dX9_meeting_12 ?_
    exact r_i hx hb hr dX9_meeting_14 hlocks hP hS ⟨(show iN (-100002) = iN _ by rw [if_neg (show ¬ (0 ≤ wh ∧ wh ≤ 3) by omega)]), mt, mN, mD, mI, mJ, iP, (fun k _ _ _ _ _ _ => rfl), e0, e6, e7, e8, e9, e10⟩
