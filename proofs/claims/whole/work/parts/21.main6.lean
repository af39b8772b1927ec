def MBD (mz : Nat) (ts : Nat → Int) : Prop := mz ≤ 45 ∧ ∀ k : Nat, k < mz → -30000000000 ≤ ts k ∧ ts k ≤ 30000000000
theorem isM_mbd {L : List EV} {sz : Nat} {pa : Int} {ts os rs : Nat → Int} (h : isM L sz pa ts os rs) (hl : L.length ≤ 45) : MBD sz ts := ⟨by rw [h.1]; exact hl, isM_bd h⟩

/-- how many bends -/
def bcG (S : FS) (came : Nat) (last : Int) : Nat → Nat → Nat
  | 0, k => k
  | n + 1, k => if bndF S came last (k - 1) < last then bcG S came last n (k + 1) else k
def bcF (S : FS) (came : Nat) (last : Int) : Nat := bcG S came last 91 1
theorem bcG_eq {S : FS} {came : Nat} {last : Int} {bc : Nat} (h1 : ∀ k : Nat, k + 1 < bc → bndF S came last k < last) (h2 : bc = 92 ∨ last ≤ bndF S came last (bc - 1)) : ∀ n k : Nat, 1 ≤ k → k ≤ bc → k + n = 92 → bc ≤ 92 → bcG S came last n k = bc
  | 0, k, _, hk, hn, hb => by
    show k = bc
    omega
  | n + 1, k, hk1, hk, hn, hb => by
    unfold bcG
    rcases Nat.lt_or_ge k bc with z | z
    · rw [if_pos (h1 (k - 1) (by omega))]
      exact bcG_eq h1 h2 n (k + 1) (by omega) (by omega) (by omega) hb
    · obtain rfl : k = bc := by omega
      rw [if_neg]
      rcases h2 with h2 | h2
      · omega
      · omega
theorem isB_bc {S : FS} {came : Nat} {last : Int} {bc : Nat} {bs : Nat → Int} (h : isB S came last bc bs) : bc = bcF S came last := (bcG_eq h.2.2.1 h.2.2.2 91 1 (Nat.le_refl 1) h.1.1 rfl h.1.2).symm
/-- meetings of the past, counted; told -/
def cntS (S : FS) (came : Nat) (now : Int) (op : Int) : Nat → Int
  | 0 => 0
  | b + 1 => cntS S came now op b + (if op = 0 then ((gmL S (bndF S came now b) (bndF S came now (b + 1)) came).length : Int) else npass (gmL S (bndF S came now b) (bndF S came now (b + 1)) came))
def mtB (S : FS) (came : Nat) (now : Int) : Nat → List EV
  | 0 => []
  | b + 1 => mtB S came now b ++ gmL S (bndF S came now b) (bndF S came now (b + 1)) came
def mtL (S : FS) (came : Nat) (now : Int) : List EV := mtB S came now (bcF S came now - 1)
def lkp (L : List EV) (k : Int) : Option EV := if 0 ≤ k then L[k.toNat]? else none
def fld (o : Option EV) (wh : Int) : Int := match o with
  | none => -1
  | some q => if wh = 0 then q.1 / 256 else if wh = 1 then q.1 % 256 else if wh = 2 then (q.2.1 : Int) else (q.2.2.1 : Int)
theorem cntS_s {S : FS} {came : Nat} {now op : Int} {b : Nat} (h : 1 ≤ b) : cntS S came now op b = cntS S came now op (b - 1) + (if op = 0 then ((gmL S (bndF S came now (b - 1)) (bndF S came now b) came).length : Int) else npass (gmL S (bndF S came now (b - 1)) (bndF S came now b) came)) := by
  obtain ⟨d, rfl⟩ : ∃ d, b = d + 1 := ⟨b - 1, by omega⟩
  rfl
theorem mtB_s {S : FS} {came : Nat} {now : Int} {b : Nat} (h : 1 ≤ b) : mtB S came now b = mtB S came now (b - 1) ++ gmL S (bndF S came now (b - 1)) (bndF S came now b) came := by
  obtain ⟨d, rfl⟩ : ∃ d, b = d + 1 := ⟨b - 1, by omega⟩
  rfl
theorem mtB_pre {S : FS} {came : Nat} {now : Int} {b : Nat} : ∀ {c : Nat}, b ≤ c → ∃ R, mtB S came now c = mtB S came now b ++ R
  | 0, h => ⟨[], by rw [show b = 0 by omega]; rfl⟩
  | c + 1, h => by
    rcases Nat.lt_or_ge b (c + 1) with z | z
    · obtain ⟨R, hR⟩ := mtB_pre (b := b) (c := c) (by omega)
      exact ⟨R ++ gmL S (bndF S came now c) (bndF S came now (c + 1)) came, by show mtB S came now c ++ _ = _; rw [hR, List.append_assoc]⟩
    · exact ⟨[], by rw [show b = c + 1 by omega, List.append_nil]⟩
theorem npass_rng (L : List EV) : 0 ≤ npass L ∧ npass L ≤ (L.length : Int) := by
  have := List.length_filter_le (fun q : EV => q.2.2.2) L
  unfold npass
  omega
theorem tell_fld {L : List EV} {sz : Nat} {pa : Int} {ts os rs : Nat → Int} (h : isM L sz pa ts os rs) (k wh : Int) : (if 0 ≤ k ∧ k < (sz : Int) then (if wh = 0 then ts k.toNat / 256 else if wh = 1 then ts k.toNat % 256 else if wh = 2 then os k.toNat else rs k.toNat) else -1) = fld (lkp L k) wh := by
  obtain ⟨rfl, -, h3⟩ := h
  unfold lkp
  by_cases h1 : 0 ≤ k ∧ k < (L.length : Int)
  · rw [if_pos h1, if_pos h1.1, List.getElem?_eq_getElem (show k.toNat < L.length by omega)]
    obtain ⟨⟨a, b, c⟩, -⟩ := h3 k.toNat _ (List.getElem?_eq_getElem (by omega))
    rw [a, b, c]
    rfl
  · rw [if_neg h1]
    by_cases h2 : 0 ≤ k
    · rw [if_pos h2, List.getElem?_eq_none (by omega)]
      rfl
    · rw [if_neg h2]
      rfl
theorem gm_len45 (S : FS) (f u : Int) {came : Nat} (hc : came ≤ 10) : (gmL S f u came).length ≤ 45 := by
  have h1 := gmO_len S f u came came
  rcases Nat.eq_zero_or_pos came with z | z
  · subst z
    exact Nat.zero_le _
  · have h2 := prs_bd came (by omega) (came - 1) (by omega)
    obtain ⟨d, rfl⟩ : ∃ d, came = d + 1 := ⟨came - 1, by omega⟩
    have h3 : prs (d + 1) (d + 1) = prs (d + 1) d + (d + 1 - (d + 1)) := rfl
    rw [show d + 1 - 1 = d by omega] at h2
    unfold gmL
    omega
theorem cntS_rng (S : FS) {came : Nat} (now op : Int) (hc : came ≤ 10) : ∀ b : Nat, 0 ≤ cntS S came now op b ∧ cntS S came now op b ≤ 45 * (b : Int)
  | 0 => ⟨Int.le_refl _, Int.le_refl _⟩
  | b + 1 => by
    have ih := cntS_rng S now op hc b
    have h1 := gm_len45 S (bndF S came now b) (bndF S came now (b + 1)) hc
    have h2 := npass_rng (gmL S (bndF S came now b) (bndF S came now (b + 1)) came)
    unfold cntS
    split <;> omega
/-- one stretch's worth of the search -/
theorem ga_hit {S : FS} {came : Nat} {now k left : Int} {b bc : Nat} (hb : 1 ≤ b) (hbc : b < bc) (hl : left = k - ((mtB S came now (b - 1)).length : Int)) (h0 : 0 ≤ left) (h1 : left < ((gmL S (bndF S came now (b - 1)) (bndF S came now b) came).length : Int)) : lkp (gmL S (bndF S came now (b - 1)) (bndF S came now b) came) left = lkp (mtB S came now (bc - 1)) k := by
  obtain ⟨R, hR⟩ := mtB_pre (S := S) (came := came) (now := now) (b := b) (c := bc - 1) (by omega)
  rw [hR, mtB_s hb]
  unfold lkp
  rw [if_pos h0, if_pos (by omega), List.append_assoc, List.getElem?_append_right (by omega), List.getElem?_append_left (by omega)]
  congr 1
  omega
theorem ga_miss {S : FS} {came : Nat} {now k left : Int} {b : Nat} {L : List EV} (hl : left = k - ((mtB S came now b).length : Int)) (h0 : 0 ≤ left ∨ k < 0) : lkp L (-1) = lkp (mtB S came now b) k := by
  unfold lkp
  rw [if_neg (by omega)]
  by_cases h : 0 ≤ k
  · rw [if_pos h, List.getElem?_eq_none (by omega)]
  · rw [if_neg h]

set_option maxHeartbeats 4000000 in
set_option maxRecDepth 100000 in
theorem c_X8_countPast (l : Launch) (G : GE) (w : WF) (came : Nat) (now : Nat) (bc : Nat) (bs : Nat → Int) (sz0 : Nat) (th : Nat → Int) (ps : Nat → Int) (vs : Nat → Int) (mz : Nat) (pa : Int) (ts : Nat → Int) (os : Nat → Int) (rs : Nat → Int) (op : Int) (cst : Nat → Nat → Int) (cpl : Nat → Nat → Int) (csp : Nat → Nat → Int) (cnp : Nat → Nat) (cstop : Nat → Int) (e0 : w 0 = .inr (7, [.ref (gad G 1), .int (iN ((came : Nat) : Int)), .int (iN ((now : Nat) : Int)), .ref (gad G 2), .ref (gad G 5), .int (iN ((bc : Nat) : Int)), .ref (gad G 6), .ref (gad G 10), .ref (gad G 14), .ref (gad G 15), .ref (gad G 18)])) (e1 : w 5 = .inl (gI G, 92, .inl (aN bs))) (e2 : w 6 = .inr (4, [.ref (gad G 7), .ref (gad G 8), .ref (gad G 9), .int (iN ((sz0 : Nat) : Int))])) (e3 : w 7 = .inl (gZ G, 10, .inl (aN th))) (e4 : w 8 = .inl (gI G, 10, .inl (aN ps))) (e5 : w 9 = .inl (gI G, 10, .inl (aN vs))) (e6 : w 10 = .inr (3, [.ref (gad G 11), .ref (gad G 12), .ref (gad G 13), .int (iN ((mz : Nat) : Int)), .int (iN pa)])) (e7 : w 11 = .inl (gJ G, 45, .inr (.inl (aJ ts)))) (e8 : w 12 = .inl (gI G, 45, .inl (aN os))) (e9 : w 13 = .inl (gI G, 45, .inl (aN rs))) (hC : FAM G w cst cpl csp cnp cstop) (p0 : OKS came cst cpl csp cnp cstop) (p1 : now ≤ 400) (p2 : op = 0 ∨ op = 1) (p3 : MBD mz ts) : Met l yX8_countPast wsX8_countPast ({ frames := 6, cells := 0, slots := 0, locals := 153 }) (PcG G w [.ref (gad G 0), .int (iN op)]) (QI G (fun r w1 => r = iN (cntS (cst, cpl, csp, cnp, cstop) came (now : Int) op (bcF (cst, cpl, csp, cnp, cstop) came (now : Int) - 1)) ∧ ∃ (bc2 : Nat) (bs2 : Nat → Int) (sz2 : Nat) (th2 : Nat → Int) (ps2 : Nat → Int) (vs2 : Nat → Int) (mz2 : Nat) (pa2 : Int) (ts2 : Nat → Int) (os2 : Nat → Int) (rs2 : Nat → Int), (∀ k : Nat, k ≠ 0 → k ≠ 5 → k ≠ 6 → k ≠ 7 → k ≠ 8 → k ≠ 9 → k ≠ 10 → k ≠ 11 → k ≠ 12 → k ≠ 13 → w1 k = w k) ∧ w1 0 = .inr (7, [.ref (gad G 1), .int (iN ((came : Nat) : Int)), .int (iN ((now : Nat) : Int)), .ref (gad G 2), .ref (gad G 5), .int (iN ((bc2 : Nat) : Int)), .ref (gad G 6), .ref (gad G 10), .ref (gad G 14), .ref (gad G 15), .ref (gad G 18)]) ∧ w1 5 = .inl (gI G, 92, .inl (aN bs2)) ∧ w1 6 = .inr (4, [.ref (gad G 7), .ref (gad G 8), .ref (gad G 9), .int (iN ((sz2 : Nat) : Int))]) ∧ w1 7 = .inl (gZ G, 10, .inl (aN th2)) ∧ w1 8 = .inl (gI G, 10, .inl (aN ps2)) ∧ w1 9 = .inl (gI G, 10, .inl (aN vs2)) ∧ w1 10 = .inr (3, [.ref (gad G 11), .ref (gad G 12), .ref (gad G 13), .int (iN ((mz2 : Nat) : Int)), .int (iN pa2)]) ∧ w1 11 = .inl (gJ G, 45, .inr (.inl (aJ ts2))) ∧ w1 12 = .inl (gI G, 45, .inl (aN os2)) ∧ w1 13 = .inl (gI G, 45, .inl (aN rs2)) ∧ (MBD mz2 ts2))) 0 0 (AA G) := by
  refine Met.ofW (cc := cX8_countPast) (maxL := 4) (ret := (some .int)) (by decide) rfl ?_
  intro p e s m args below meth c s₁ B hml hv
  obtain ⟨rfl, hP, hK⟩ := hv
  have hx := B.exec
  have hb := B.bytes
  have hr := B.returns
  have hts := atoms_spec (ws := wsX8_countPast) B.pre
  have hown : s.vm.findClass RX8 = some m.cls := findClass_of_methodNamed B.named
  have hlocks := B.notSynchronized
  have hS : va_S (AA G) s.heap s.heap [] := va_S.rf
  have hAA : ∀ q, AA G q → AA G q := fun _ h => h
  have hl := lv_entry ([.ref (gad G 0), .int (iN op)]) (n := 4) (Nat.le_of_ble_eq_true rfl)
  rw [lg_entry_eq]
  generalize (lg_sl ([.ref (gad G 0), .int (iN op)]) ++ List.replicate (4 - (lg_sl ([.ref (gad G 0), .int (iN op)])).length) Slot.unset).toArray = ls at hl ⊢
  have hl : lv_has ls 4 [(0, .ref (gad G 0)), (1, .int (iN op))] := hl
  have hc10 : came ≤ 10 := p0.1
  refine n_iconst hx hb dX8_countPast_0 ?_
  refine lv_istore_n (lv' := [(2, .int (iN 0)), (0, .ref (gad G 0)), (1, .int (iN op))]) hx hb dX8_countPast_1 rfl hl (by decide) rfl (fun ls hl => ?_)
  refine lv_aload_n hx hb dX8_countPast_2 rfl (lv_at hl 1 rfl) ?_
  refine lv_aload_n hx hb dX8_countPast_3 rfl (lv_at hl 1 rfl) ?_
  refine f_get (C := RX8) (T := TX8) (N := 11) hx hb hts (by decide +kernel) hown hK hP 0 (by omega) e0 rfl 2 (by decide) (hts (.fieldLink RX8 72 "KeptMoving" "now" "I") (by decide +kernel)) (fun _ h9 => h9) rfl dX8_countPast_4 ?_
  refine f_callv (W.runV (As := [.int (iN ((now : Nat) : Int))]) (rest := []) ⟨hx, hb, hml, hown, hts⟩ (c_X8_gatherBends l G w came now bc bs ((now : Nat) : Int) cst cpl csp cnp cstop e0 e1 hC (p0) (by omega)) (cwV 1 hts gX8_countPast_X8_gatherBends rfl rfl rfl (by decide +kernel) ⟨Nat.le_of_ble_eq_true rfl, Nat.le_of_ble_eq_true rfl⟩) (f_preV hP hK 0 (by omega) 7 e0 rfl) rfl rfl hl.1 rfl (lv_room (Nat.le_of_ble_eq_true rfl)) dX8_countPast_7 ⟨Nat.zero_le _, Nat.zero_le _⟩) hS hAA (fun w_1 H locs q_2 hP hS => ?_)
  obtain ⟨bc2_3, bs2_4, fr_5, e_6, e_7, q_8⟩ := q_2
  have e_9 : w_1 6 = .inr (4, [.ref (gad G 7), .ref (gad G 8), .ref (gad G 9), .int (iN ((sz0 : Nat) : Int))]) := (fr_5 6 (by omega) (by omega)).trans e2
  have e_10 : w_1 7 = .inl (gZ G, 10, .inl (aN th)) := (fr_5 7 (by omega) (by omega)).trans e3
  have e_11 : w_1 8 = .inl (gI G, 10, .inl (aN ps)) := (fr_5 8 (by omega) (by omega)).trans e4
  have e_12 : w_1 9 = .inl (gI G, 10, .inl (aN vs)) := (fr_5 9 (by omega) (by omega)).trans e5
  have e_13 : w_1 10 = .inr (3, [.ref (gad G 11), .ref (gad G 12), .ref (gad G 13), .int (iN ((mz : Nat) : Int)), .int (iN pa)]) := (fr_5 10 (by omega) (by omega)).trans e6
  have e_14 : w_1 11 = .inl (gJ G, 45, .inr (.inl (aJ ts))) := (fr_5 11 (by omega) (by omega)).trans e7
  have e_15 : w_1 12 = .inl (gI G, 45, .inl (aN os)) := (fr_5 12 (by omega) (by omega)).trans e8
  have e_16 : w_1 13 = .inl (gI G, 45, .inl (aN rs)) := (fr_5 13 (by omega) (by omega)).trans e9
  have e_17 : w_1 0 = .inr (7, [.ref (gad G 1), .int (iN ((came : Nat) : Int)), .int (iN ((now : Nat) : Int)), .ref (gad G 2), .ref (gad G 5), .int (iN ((bc2_3 : Nat) : Int)), .ref (gad G 6), .ref (gad G 10), .ref (gad G 14), .ref (gad G 15), .ref (gad G 18)]) := e_6
  have e_18 : w_1 5 = .inl (gI G, 92, .inl (aN bs2_4)) := e_7
  have hC_19 : FAM G w_1 cst cpl csp cnp cstop := hC.keep (fun k h1 h2 => fr_5 k (by omega) (by omega))
  have hbq := q_8
  have hbr := bndF_rng p0 (last := ((now : Nat) : Int)) (by omega)
  have hbce := isB_bc hbq
  have hbq0 := hbq.1
  refine n_iconst hx hb dX8_countPast_10 ?_
  refine lv_istore_n (lv' := [(3, .int (iN 1)), (2, .int (iN 0)), (0, .ref (gad G 0)), (1, .int (iN op))]) hx hb dX8_countPast_11 rfl hl (by decide) rfl (fun ls hl => ?_)
  have K12 : ∀ (N : Nat) (b : Nat) (sz2 : Nat) (th2 : Nat → Int) (ps2 : Nat → Int) (vs2 : Nat → Int) (mz2 : Nat) (pa2 : Int) (ts2 : Nat → Int) (os2 : Nat → Int) (rs2 : Nat → Int) (w2 : WF) (H : Heap) (locs : List Loc) (ls : Array Slot), (1 ≤ b ∧ b ≤ bcF (cst, cpl, csp, cnp, cstop) came ((now : Nat) : Int)) → (MBD mz2 ts2) → 93 - b < N → w2 0 = .inr (7, [.ref (gad G 1), .int (iN ((came : Nat) : Int)), .int (iN ((now : Nat) : Int)), .ref (gad G 2), .ref (gad G 5), .int (iN ((bc2_3 : Nat) : Int)), .ref (gad G 6), .ref (gad G 10), .ref (gad G 14), .ref (gad G 15), .ref (gad G 18)]) → w2 5 = .inl (gI G, 92, .inl (aN bs2_4)) → w2 6 = .inr (4, [.ref (gad G 7), .ref (gad G 8), .ref (gad G 9), .int (iN ((sz2 : Nat) : Int))]) → w2 7 = .inl (gZ G, 10, .inl (aN th2)) → w2 8 = .inl (gI G, 10, .inl (aN ps2)) → w2 9 = .inl (gI G, 10, .inl (aN vs2)) → w2 10 = .inr (3, [.ref (gad G 11), .ref (gad G 12), .ref (gad G 13), .int (iN ((mz2 : Nat) : Int)), .int (iN pa2)]) → w2 11 = .inl (gJ G, 45, .inr (.inl (aJ ts2))) → w2 12 = .inl (gI G, 45, .inl (aN os2)) → w2 13 = .inl (gI G, 45, .inl (aN rs2)) → (∀ k : Nat, k ≠ 0 → k ≠ 5 → k ≠ 6 → k ≠ 7 → k ≠ 8 → k ≠ 9 → k ≠ 10 → k ≠ 11 → k ≠ 12 → k ≠ 13 → w2 k = w k) → PW G w2 H → va_S (AA G) s.heap H locs → lv_has ls 4 [(0, .ref (gad G 0)), (1, .int (iN op)), (2, .int (iN (cntS (cst, cpl, csp, cnp, cstop) came ((now : Nat) : Int) op (b - 1)))), (3, .int (iN ((b : Nat) : Int)))] → W p l e (headSpec wsX8_countPast ({ frames := 6, cells := 0, slots := 0, locals := 153 })).room s m (([.ref (gad G 0), .int (iN op)] : List Value).toArray) below meth c H locs 0 0 (MQ below (QI G (fun r w1 => r = iN (cntS (cst, cpl, csp, cnp, cstop) came (now : Int) op (bcF (cst, cpl, csp, cnp, cstop) came (now : Int) - 1)) ∧ ∃ (bc2 : Nat) (bs2 : Nat → Int) (sz2 : Nat) (th2 : Nat → Int) (ps2 : Nat → Int) (vs2 : Nat → Int) (mz2 : Nat) (pa2 : Int) (ts2 : Nat → Int) (os2 : Nat → Int) (rs2 : Nat → Int), (∀ k : Nat, k ≠ 0 → k ≠ 5 → k ≠ 6 → k ≠ 7 → k ≠ 8 → k ≠ 9 → k ≠ 10 → k ≠ 11 → k ≠ 12 → k ≠ 13 → w1 k = w k) ∧ w1 0 = .inr (7, [.ref (gad G 1), .int (iN ((came : Nat) : Int)), .int (iN ((now : Nat) : Int)), .ref (gad G 2), .ref (gad G 5), .int (iN ((bc2 : Nat) : Int)), .ref (gad G 6), .ref (gad G 10), .ref (gad G 14), .ref (gad G 15), .ref (gad G 18)]) ∧ w1 5 = .inl (gI G, 92, .inl (aN bs2)) ∧ w1 6 = .inr (4, [.ref (gad G 7), .ref (gad G 8), .ref (gad G 9), .int (iN ((sz2 : Nat) : Int))]) ∧ w1 7 = .inl (gZ G, 10, .inl (aN th2)) ∧ w1 8 = .inl (gI G, 10, .inl (aN ps2)) ∧ w1 9 = .inl (gI G, 10, .inl (aN vs2)) ∧ w1 10 = .inr (3, [.ref (gad G 11), .ref (gad G 12), .ref (gad G 13), .int (iN ((mz2 : Nat) : Int)), .int (iN pa2)]) ∧ w1 11 = .inl (gJ G, 45, .inr (.inl (aJ ts2))) ∧ w1 12 = .inl (gI G, 45, .inl (aN os2)) ∧ w1 13 = .inl (gI G, 45, .inl (aN rs2)) ∧ (MBD mz2 ts2))) (([.ref (gad G 0), .int (iN op)] : List Value).toArray) s 0 0 (AA G)) (F0 m 12 ls []) := by
    intro N
    induction N with
    | zero =>
      intros
      exfalso
      omega
    | succ N ih12 =>
      intro b sz2 th2 ps2 vs2 mz2 pa2 ts2 os2 rs2 w2 H locs ls i12_0 i12_1 hN12 f12_0 f12_1 f12_2 f12_3 f12_4 f12_5 f12_6 f12_7 f12_8 f12_9 hfr12 hP hS hl
      have hC12 : FAM G w2 cst cpl csp cnp cstop := hC.keep (fun k h1 h2 => hfr12 k (by omega) (by omega) (by omega) (by omega) (by omega) (by omega) (by omega) (by omega) (by omega) (by omega))
      refine lv_iload_n hx hb dX8_countPast_12 rfl (lv_at hl 3 rfl) ?_
      refine lv_aload_n hx hb dX8_countPast_13 rfl (lv_at hl 0 rfl) ?_
      refine f_get (C := RX8) (T := TX8) (N := 11) hx hb hts (by decide +kernel) hown hK hP 0 (by omega) f12_0 rfl 5 (by decide) (hts (.fieldLink RX8 189 "KeptMoving" "bendCount" "I") (by decide +kernel)) (fun _ h9 => h9) rfl dX8_countPast_14 ?_
      refine n_icmp_ge (tgt := 68) hx hb dX8_countPast_17 (by decide) (by omega) (by omega) (by omega) (by omega) (fun c_17 => ?_) (fun c_17 => ?_)
      · refine lv_iload_n hx hb dX8_countPast_68 rfl (lv_at hl 2 rfl) ?_
        exact r_i hx hb hr dX8_countPast_69 hlocks hP hS ⟨congrArg iN (by rw [show bcF (cst, cpl, csp, cnp, cstop) came ((now : Nat) : Int) - 1 = b - 1 by have := hbq.1; omega]), bc2_3, bs2_4, sz2, th2, ps2, vs2, mz2, pa2, ts2, os2, rs2, (fun k h0 h1 h2 h3 h4 h5 h6 h7 h8 h9 => hfr12 k (by omega) (by omega) (by omega) (by omega) (by omega) (by omega) (by omega) (by omega) (by omega) (by omega)), f12_0, f12_1, f12_2, f12_3, f12_4, f12_5, f12_6, f12_7, f12_8, f12_9, i12_1⟩
      · have hb1 := hbq.2.1 (b - 1) (by have := hbq.1; omega)
        have hb2 := hbq.2.1 b (by omega)
        have hbr1 := hbr (b - 1)
        have hbr2 := hbr b
        have hbq1 := hbq.1
        refine lv_aload_n hx hb dX8_countPast_20 rfl (lv_at hl 0 rfl) ?_
        refine lv_aload_n hx hb dX8_countPast_21 rfl (lv_at hl 0 rfl) ?_
        refine f_get (C := RX8) (T := TX8) (N := 11) hx hb hts (by decide +kernel) hown hK hP 0 (by omega) f12_0 rfl 4 (by decide) (hts (.fieldLink RX8 23 "KeptMoving" "bends" "[I") (by decide +kernel)) (fun _ h9 => h9) rfl dX8_countPast_22 ?_
        refine lv_iload_n hx hb dX8_countPast_25 rfl (lv_at hl 3 rfl) ?_
        refine n_iconst hx hb dX8_countPast_26 ?_
        refine n_isub hx hb dX8_countPast_27 ?_
        refine n_top (A := ((b : Nat) : Int) - 1) (B := ((b - 1 : Nat) : Int)) (by omega) ?_
        refine n_iald hx hb hK hP 5 (by omega) f12_1 (b - 1) rfl (by omega) (by decide) dX8_countPast_28 ?_
        refine lv_aload_n hx hb dX8_countPast_29 rfl (lv_at hl 0 rfl) ?_
        refine f_get (C := RX8) (T := TX8) (N := 11) hx hb hts (by decide +kernel) hown hK hP 0 (by omega) f12_0 rfl 4 (by decide) (hts (.fieldLink RX8 23 "KeptMoving" "bends" "[I") (by decide +kernel)) (fun _ h9 => h9) rfl dX8_countPast_30 ?_
        refine lv_iload_n hx hb dX8_countPast_33 rfl (lv_at hl 3 rfl) ?_
        refine n_iald hx hb hK hP 5 (by omega) f12_1 b rfl (by omega) (by decide) dX8_countPast_34 ?_
        refine f_callv (W.runV (As := [.int (iN (bs2_4 (b - 1))), .int (iN (bs2_4 b))]) (rest := []) ⟨hx, hb, hml, hown, hts⟩ (c_X8_gatherMeetings l G w2 came now bc2_3 sz2 th2 ps2 vs2 mz2 pa2 ts2 os2 rs2 (bs2_4 (b - 1)) (bs2_4 b) cst cpl csp cnp cstop f12_0 f12_2 f12_3 f12_4 f12_5 f12_6 f12_7 f12_8 f12_9 hC12 (p0) (by omega) (by omega)) (cwV 2 hts gX8_countPast_X8_gatherMeetings rfl rfl rfl (by decide +kernel) ⟨Nat.le_of_ble_eq_true rfl, Nat.le_of_ble_eq_true rfl⟩) (f_preV hP hK 0 (by omega) 7 f12_0 rfl) rfl rfl hl.1 rfl (lv_room (Nat.le_of_ble_eq_true rfl)) dX8_countPast_35 ⟨Nat.zero_le _, Nat.zero_le _⟩) hS hAA (fun w_20 H locs q_21 hP hS => ?_)
        obtain ⟨th2_22, ps2_23, vs2_24, mz2_25, pa2_26, ts2_27, os2_28, rs2_29, fr_30, e_31, e_32, e_33, e_34, e_35, e_36, e_37, e_38, q_39⟩ := q_21
        have e_40 : w_20 0 = .inr (7, [.ref (gad G 1), .int (iN ((came : Nat) : Int)), .int (iN ((now : Nat) : Int)), .ref (gad G 2), .ref (gad G 5), .int (iN ((bc2_3 : Nat) : Int)), .ref (gad G 6), .ref (gad G 10), .ref (gad G 14), .ref (gad G 15), .ref (gad G 18)]) := (fr_30 0 (by omega) (by omega) (by omega) (by omega) (by omega) (by omega) (by omega) (by omega)).trans f12_0
        have e_41 : w_20 5 = .inl (gI G, 92, .inl (aN bs2_4)) := (fr_30 5 (by omega) (by omega) (by omega) (by omega) (by omega) (by omega) (by omega) (by omega)).trans f12_1
        have e_42 : w_20 6 = .inr (4, [.ref (gad G 7), .ref (gad G 8), .ref (gad G 9), .int (iN ((came : Nat) : Int))]) := e_31
        have e_43 : w_20 7 = .inl (gZ G, 10, .inl (aN th2_22)) := e_32
        have e_44 : w_20 8 = .inl (gI G, 10, .inl (aN ps2_23)) := e_33
        have e_45 : w_20 9 = .inl (gI G, 10, .inl (aN vs2_24)) := e_34
        have e_46 : w_20 10 = .inr (3, [.ref (gad G 11), .ref (gad G 12), .ref (gad G 13), .int (iN ((mz2_25 : Nat) : Int)), .int (iN pa2_26)]) := e_35
        have e_47 : w_20 11 = .inl (gJ G, 45, .inr (.inl (aJ ts2_27))) := e_36
        have e_48 : w_20 12 = .inl (gI G, 45, .inl (aN os2_28)) := e_37
        have e_49 : w_20 13 = .inl (gI G, 45, .inl (aN rs2_29)) := e_38
        have hC_50 : FAM G w_20 cst cpl csp cnp cstop := hC12.keep (fun k h1 h2 => fr_30 k (by omega) (by omega) (by omega) (by omega) (by omega) (by omega) (by omega) (by omega))
        have hcs := cntS_s (S := (cst, cpl, csp, cnp, cstop)) (came := came) (now := ((now : Nat) : Int)) (op := op) (b := b) (by omega)
        rw [hb1, hb2] at q_39
        refine lv_iload_n hx hb dX8_countPast_38 rfl (lv_at hl 2 rfl) ?_
        refine lv_iload_n hx hb dX8_countPast_39 rfl (lv_at hl 1 rfl) ?_
        refine n_if_eq (tgt := 53) hx hb dX8_countPast_40 (by decide) (by omega) (by omega) (fun c_40 => ?_) (fun c_40 => ?_)
        · refine lv_aload_n hx hb dX8_countPast_53 rfl (lv_at hl 0 rfl) ?_
          refine f_get (C := RX8) (T := TX8) (N := 11) hx hb hts (by decide +kernel) hown hK hP 0 (by omega) e_40 rfl 7 (by decide) (hts (.fieldLink RX8 37 "KeptMoving" "meetings" "LKeptMoving$Meetings;") (by decide +kernel)) (fun _ h9 => h9) rfl dX8_countPast_54 ?_
          refine f_getN (C := RX4) (T := TX4) (N := 5) hx hb hts (by decide +kernel) hown hK hP 10 (by omega) e_46 rfl 3 (by decide) (hK.nf 5 rfl) (fun _ h9 => h9) rfl dX8_countPast_57 ?_
          refine n_iadd hx hb dX8_countPast_60 ?_
          refine lv_istore_n (lv' := [(2, .int (iN ((cntS (cst, cpl, csp, cnp, cstop) came ((now : Nat) : Int) op (b - 1)) + ((mz2_25 : Nat) : Int)))), (0, .ref (gad G 0)), (1, .int (iN op)), (3, .int (iN ((b : Nat) : Int)))]) hx hb dX8_countPast_61 rfl hl (by decide) rfl (fun ls hl => ?_)
          have hz_51 : (cntS (cst, cpl, csp, cnp, cstop) came ((now : Nat) : Int) op (b - 1)) + ((mz2_25 : Nat) : Int) = cntS (cst, cpl, csp, cnp, cstop) came ((now : Nat) : Int) op b := by rw [hcs, if_pos (by omega), q_39.1]
          have hl : lv_has ls 4 [(2, .int (iN (cntS (cst, cpl, csp, cnp, cstop) came ((now : Nat) : Int) op b))), (0, .ref (gad G 0)), (1, .int (iN op)), (3, .int (iN ((b : Nat) : Int)))] := by rw [← hz_51]; exact hl
          refine lv_iinc (v := iN ((b + 1 : Nat) : Int)) (lv' := [(3, .int (iN ((b + 1 : Nat) : Int))), (2, .int (iN (cntS (cst, cpl, csp, cnp, cstop) came ((now : Nat) : Int) op b))), (0, .ref (gad G 0)), (1, .int (iN op))]) hx hb dX8_countPast_62 hl (k := 3) rfl (iN_incN _) (by decide) rfl (fun ls hl => ?_)
          refine lv_goto (tgt := 12) hx hb dX8_countPast_65 (by decide) ?_
          exact ih12 (b + 1) (came) (th2_22) (ps2_23) (vs2_24) (mz2_25) (pa2_26) (ts2_27) (os2_28) (rs2_29) w_20 _ _ _ (by omega) (isM_mbd q_39 (gm_len45 _ _ _ hc10)) (by omega) (e_40) (e_41) (e_42) (e_43) (e_44) (e_45) (e_46) (e_47) (e_48) (e_49) (fun k h0 h1 h2 h3 h4 h5 h6 h7 h8 h9 => ((fr_30 k (by omega) (by omega) (by omega) (by omega) (by omega) (by omega) (by omega) (by omega)).trans (hfr12 k (by omega) (by omega) (by omega) (by omega) (by omega) (by omega) (by omega) (by omega) (by omega) (by omega)))) hP hS (lv_sub hl [2, 3, 1, 0] (by rw [Nat.add_sub_cancel]; rfl))
        · refine lv_aload_n hx hb dX8_countPast_43 rfl (lv_at hl 0 rfl) ?_
          refine f_get (C := RX8) (T := TX8) (N := 11) hx hb hts (by decide +kernel) hown hK hP 0 (by omega) e_40 rfl 7 (by decide) (hts (.fieldLink RX8 37 "KeptMoving" "meetings" "LKeptMoving$Meetings;") (by decide +kernel)) (fun _ h9 => h9) rfl dX8_countPast_44 ?_
          refine f_getN (C := RX4) (T := TX4) (N := 5) hx hb hts (by decide +kernel) hown hK hP 10 (by omega) e_46 rfl 4 (by decide) (hK.nf 6 rfl) (fun _ h9 => h9) rfl dX8_countPast_47 ?_
          refine lv_goto (tgt := 60) hx hb dX8_countPast_50 (by decide) ?_
          refine n_iadd hx hb dX8_countPast_60 ?_
          refine lv_istore_n (lv' := [(2, .int (iN ((cntS (cst, cpl, csp, cnp, cstop) came ((now : Nat) : Int) op (b - 1)) + pa2_26))), (0, .ref (gad G 0)), (1, .int (iN op)), (3, .int (iN ((b : Nat) : Int)))]) hx hb dX8_countPast_61 rfl hl (by decide) rfl (fun ls hl => ?_)
          have hz_52 : (cntS (cst, cpl, csp, cnp, cstop) came ((now : Nat) : Int) op (b - 1)) + pa2_26 = cntS (cst, cpl, csp, cnp, cstop) came ((now : Nat) : Int) op b := by rw [hcs, if_neg (by omega), q_39.2.1]
          have hl : lv_has ls 4 [(2, .int (iN (cntS (cst, cpl, csp, cnp, cstop) came ((now : Nat) : Int) op b))), (0, .ref (gad G 0)), (1, .int (iN op)), (3, .int (iN ((b : Nat) : Int)))] := by rw [← hz_52]; exact hl
          refine lv_iinc (v := iN ((b + 1 : Nat) : Int)) (lv' := [(3, .int (iN ((b + 1 : Nat) : Int))), (2, .int (iN (cntS (cst, cpl, csp, cnp, cstop) came ((now : Nat) : Int) op b))), (0, .ref (gad G 0)), (1, .int (iN op))]) hx hb dX8_countPast_62 hl (k := 3) rfl (iN_incN _) (by decide) rfl (fun ls hl => ?_)
          refine lv_goto (tgt := 12) hx hb dX8_countPast_65 (by decide) ?_
          exact ih12 (b + 1) (came) (th2_22) (ps2_23) (vs2_24) (mz2_25) (pa2_26) (ts2_27) (os2_28) (rs2_29) w_20 _ _ _ (by omega) (isM_mbd q_39 (gm_len45 _ _ _ hc10)) (by omega) (e_40) (e_41) (e_42) (e_43) (e_44) (e_45) (e_46) (e_47) (e_48) (e_49) (fun k h0 h1 h2 h3 h4 h5 h6 h7 h8 h9 => ((fr_30 k (by omega) (by omega) (by omega) (by omega) (by omega) (by omega) (by omega) (by omega)).trans (hfr12 k (by omega) (by omega) (by omega) (by omega) (by omega) (by omega) (by omega) (by omega) (by omega) (by omega)))) hP hS (lv_sub hl [2, 3, 1, 0] (by rw [Nat.add_sub_cancel]; rfl))
  exact K12 ((93 - 1) + 1) (1) (sz0) (th) (ps) (vs) (mz) (pa) (ts) (os) (rs) w_1 _ _ _ (by omega) (p3) (by omega) (e_17) (e_18) (e_9) (e_10) (e_11) (e_12) (e_13) (e_14) (e_15) (e_16) (fun k h0 h1 h2 h3 h4 h5 h6 h7 h8 h9 => fr_5 k (by omega) (by omega)) hP hS (lv_sub hl [2, 3, 1, 0] rfl)

/-- the place of a meeting of the past among those of its stretch -/
def gaG (S : FS) (came : Nat) (now : Int) : Nat → Nat → Int → Int
  | 0, _, _ => -1
  | n + 1, b, left => if left < 0 then -1 else if left < ((gmL S (bndF S came now (b - 1)) (bndF S came now b) came).length : Int) then left else gaG S came now n (b + 1) (left - ((gmL S (bndF S came now (b - 1)) (bndF S came now b) came).length : Int))
def gaR (S : FS) (came : Nat) (now : Int) (k : Int) : Int := gaG S came now (bcF S came now - 1) 1 k
theorem gaG_s {S : FS} {came : Nat} {now left : Int} {n b : Nat} (hn : 1 ≤ n) (h0 : ¬ left < 0) (h : ¬ left < ((gmL S (bndF S came now (b - 1)) (bndF S came now b) came).length : Int)) : gaG S came now n b left = gaG S came now (n - 1) (b + 1) (left - ((gmL S (bndF S came now (b - 1)) (bndF S came now b) came).length : Int)) := by
  obtain ⟨d, rfl⟩ : ∃ d, n = d + 1 := ⟨n - 1, by omega⟩
  show (if _ then _ else _) = _
  rw [if_neg h0, if_neg h]
  rfl
theorem gaG_hit {S : FS} {came : Nat} {now left : Int} {n b : Nat} (hn : 1 ≤ n) (h0 : ¬ left < 0) (h : left < ((gmL S (bndF S came now (b - 1)) (bndF S came now b) came).length : Int)) : gaG S came now n b left = left := by
  obtain ⟨d, rfl⟩ : ∃ d, n = d + 1 := ⟨n - 1, by omega⟩
  show (if _ then _ else _) = _
  rw [if_neg h0, if_pos h]
theorem gaG_neg {S : FS} {came : Nat} {now left : Int} {n b : Nat} (h0 : left < 0) : gaG S came now n b left = -1 := by
  cases n with
  | zero => rfl
  | succ n => exact if_pos h0

set_option maxHeartbeats 4000000 in
set_option maxRecDepth 100000 in
theorem c_X8_gatherAround (l : Launch) (G : GE) (w : WF) (came : Nat) (now : Nat) (bc : Nat) (bs : Nat → Int) (sz0 : Nat) (th : Nat → Int) (ps : Nat → Int) (vs : Nat → Int) (mz : Nat) (pa : Int) (ts : Nat → Int) (os : Nat → Int) (rs : Nat → Int) (k : Int) (cst : Nat → Nat → Int) (cpl : Nat → Nat → Int) (csp : Nat → Nat → Int) (cnp : Nat → Nat) (cstop : Nat → Int) (e0 : w 0 = .inr (7, [.ref (gad G 1), .int (iN ((came : Nat) : Int)), .int (iN ((now : Nat) : Int)), .ref (gad G 2), .ref (gad G 5), .int (iN ((bc : Nat) : Int)), .ref (gad G 6), .ref (gad G 10), .ref (gad G 14), .ref (gad G 15), .ref (gad G 18)])) (e1 : w 5 = .inl (gI G, 92, .inl (aN bs))) (e2 : w 6 = .inr (4, [.ref (gad G 7), .ref (gad G 8), .ref (gad G 9), .int (iN ((sz0 : Nat) : Int))])) (e3 : w 7 = .inl (gZ G, 10, .inl (aN th))) (e4 : w 8 = .inl (gI G, 10, .inl (aN ps))) (e5 : w 9 = .inl (gI G, 10, .inl (aN vs))) (e6 : w 10 = .inr (3, [.ref (gad G 11), .ref (gad G 12), .ref (gad G 13), .int (iN ((mz : Nat) : Int)), .int (iN pa)])) (e7 : w 11 = .inl (gJ G, 45, .inr (.inl (aJ ts)))) (e8 : w 12 = .inl (gI G, 45, .inl (aN os))) (e9 : w 13 = .inl (gI G, 45, .inl (aN rs))) (hC : FAM G w cst cpl csp cnp cstop) (p0 : OKS came cst cpl csp cnp cstop) (p1 : now ≤ 400) (p2 : -2147483648 ≤ k ∧ k < 2147483648) (p3 : MBD mz ts) : Met l yX8_gatherAround wsX8_gatherAround ({ frames := 6, cells := 0, slots := 0, locals := 153 }) (PcG G w [.ref (gad G 0), .int (iN k)]) (QI G (fun r w1 => r = iN (gaR (cst, cpl, csp, cnp, cstop) came (now : Int) k) ∧ ∃ (bc2 : Nat) (bs2 : Nat → Int) (sz2 : Nat) (th2 : Nat → Int) (ps2 : Nat → Int) (vs2 : Nat → Int) (mz2 : Nat) (pa2 : Int) (ts2 : Nat → Int) (os2 : Nat → Int) (rs2 : Nat → Int), (∀ k : Nat, k ≠ 0 → k ≠ 5 → k ≠ 6 → k ≠ 7 → k ≠ 8 → k ≠ 9 → k ≠ 10 → k ≠ 11 → k ≠ 12 → k ≠ 13 → w1 k = w k) ∧ w1 0 = .inr (7, [.ref (gad G 1), .int (iN ((came : Nat) : Int)), .int (iN ((now : Nat) : Int)), .ref (gad G 2), .ref (gad G 5), .int (iN ((bc2 : Nat) : Int)), .ref (gad G 6), .ref (gad G 10), .ref (gad G 14), .ref (gad G 15), .ref (gad G 18)]) ∧ w1 5 = .inl (gI G, 92, .inl (aN bs2)) ∧ w1 6 = .inr (4, [.ref (gad G 7), .ref (gad G 8), .ref (gad G 9), .int (iN ((sz2 : Nat) : Int))]) ∧ w1 7 = .inl (gZ G, 10, .inl (aN th2)) ∧ w1 8 = .inl (gI G, 10, .inl (aN ps2)) ∧ w1 9 = .inl (gI G, 10, .inl (aN vs2)) ∧ w1 10 = .inr (3, [.ref (gad G 11), .ref (gad G 12), .ref (gad G 13), .int (iN ((mz2 : Nat) : Int)), .int (iN pa2)]) ∧ w1 11 = .inl (gJ G, 45, .inr (.inl (aJ ts2))) ∧ w1 12 = .inl (gI G, 45, .inl (aN os2)) ∧ w1 13 = .inl (gI G, 45, .inl (aN rs2)) ∧ (MBD mz2 ts2) ∧ ((gaR (cst, cpl, csp, cnp, cstop) came (now : Int) k = -1 ∧ lkp (mtL (cst, cpl, csp, cnp, cstop) came (now : Int)) k = none) ∨ ∃ L2, isM L2 mz2 pa2 ts2 os2 rs2 ∧ lkp L2 (gaR (cst, cpl, csp, cnp, cstop) came (now : Int) k) = lkp (mtL (cst, cpl, csp, cnp, cstop) came (now : Int)) k))) 0 0 (AA G) := by
  refine Met.ofW (cc := cX8_gatherAround) (maxL := 4) (ret := (some .int)) (by decide) rfl ?_
  intro p e s m args below meth c s₁ B hml hv
  obtain ⟨rfl, hP, hK⟩ := hv
  have hx := B.exec
  have hb := B.bytes
  have hr := B.returns
  have hts := atoms_spec (ws := wsX8_gatherAround) B.pre
  have hown : s.vm.findClass RX8 = some m.cls := findClass_of_methodNamed B.named
  have hlocks := B.notSynchronized
  have hS : va_S (AA G) s.heap s.heap [] := va_S.rf
  have hAA : ∀ q, AA G q → AA G q := fun _ h => h
  have hl := lv_entry ([.ref (gad G 0), .int (iN k)]) (n := 4) (Nat.le_of_ble_eq_true rfl)
  rw [lg_entry_eq]
  generalize (lg_sl ([.ref (gad G 0), .int (iN k)]) ++ List.replicate (4 - (lg_sl ([.ref (gad G 0), .int (iN k)])).length) Slot.unset).toArray = ls at hl ⊢
  have hl : lv_has ls 4 [(0, .ref (gad G 0)), (1, .int (iN k))] := hl
  have hc10 : came ≤ 10 := p0.1
  refine lv_iload_n hx hb dX8_gatherAround_0 rfl (lv_at hl 1 rfl) ?_
  refine lv_istore_n (lv' := [(2, .int (iN k)), (0, .ref (gad G 0)), (1, .int (iN k))]) hx hb dX8_gatherAround_1 rfl hl (by decide) rfl (fun ls hl => ?_)
  refine lv_aload_n hx hb dX8_gatherAround_2 rfl (lv_at hl 1 rfl) ?_
  refine lv_aload_n hx hb dX8_gatherAround_3 rfl (lv_at hl 1 rfl) ?_
  refine f_get (C := RX8) (T := TX8) (N := 11) hx hb hts (by decide +kernel) hown hK hP 0 (by omega) e0 rfl 2 (by decide) (hts (.fieldLink RX8 72 "KeptMoving" "now" "I") (by decide +kernel)) (fun _ h9 => h9) rfl dX8_gatherAround_4 ?_
  refine f_callv (W.runV (As := [.int (iN ((now : Nat) : Int))]) (rest := []) ⟨hx, hb, hml, hown, hts⟩ (c_X8_gatherBends l G w came now bc bs ((now : Nat) : Int) cst cpl csp cnp cstop e0 e1 hC (p0) (by omega)) (cwV 1 hts gX8_gatherAround_X8_gatherBends rfl rfl rfl (by decide +kernel) ⟨Nat.le_of_ble_eq_true rfl, Nat.le_of_ble_eq_true rfl⟩) (f_preV hP hK 0 (by omega) 7 e0 rfl) rfl rfl hl.1 rfl (lv_room (Nat.le_of_ble_eq_true rfl)) dX8_gatherAround_7 ⟨Nat.zero_le _, Nat.zero_le _⟩) hS hAA (fun w_1 H locs q_2 hP hS => ?_)
  obtain ⟨bc2_3, bs2_4, fr_5, e_6, e_7, q_8⟩ := q_2
  have e_9 : w_1 6 = .inr (4, [.ref (gad G 7), .ref (gad G 8), .ref (gad G 9), .int (iN ((sz0 : Nat) : Int))]) := (fr_5 6 (by omega) (by omega)).trans e2
  have e_10 : w_1 7 = .inl (gZ G, 10, .inl (aN th)) := (fr_5 7 (by omega) (by omega)).trans e3
  have e_11 : w_1 8 = .inl (gI G, 10, .inl (aN ps)) := (fr_5 8 (by omega) (by omega)).trans e4
  have e_12 : w_1 9 = .inl (gI G, 10, .inl (aN vs)) := (fr_5 9 (by omega) (by omega)).trans e5
  have e_13 : w_1 10 = .inr (3, [.ref (gad G 11), .ref (gad G 12), .ref (gad G 13), .int (iN ((mz : Nat) : Int)), .int (iN pa)]) := (fr_5 10 (by omega) (by omega)).trans e6
  have e_14 : w_1 11 = .inl (gJ G, 45, .inr (.inl (aJ ts))) := (fr_5 11 (by omega) (by omega)).trans e7
  have e_15 : w_1 12 = .inl (gI G, 45, .inl (aN os)) := (fr_5 12 (by omega) (by omega)).trans e8
  have e_16 : w_1 13 = .inl (gI G, 45, .inl (aN rs)) := (fr_5 13 (by omega) (by omega)).trans e9
  have e_17 : w_1 0 = .inr (7, [.ref (gad G 1), .int (iN ((came : Nat) : Int)), .int (iN ((now : Nat) : Int)), .ref (gad G 2), .ref (gad G 5), .int (iN ((bc2_3 : Nat) : Int)), .ref (gad G 6), .ref (gad G 10), .ref (gad G 14), .ref (gad G 15), .ref (gad G 18)]) := e_6
  have e_18 : w_1 5 = .inl (gI G, 92, .inl (aN bs2_4)) := e_7
  have hC_19 : FAM G w_1 cst cpl csp cnp cstop := hC.keep (fun k h1 h2 => fr_5 k (by omega) (by omega))
  have hbq := q_8
  have hbr := bndF_rng p0 (last := ((now : Nat) : Int)) (by omega)
  have hbce := isB_bc hbq
  have hbq0 := hbq.1
  refine n_iconst hx hb dX8_gatherAround_10 ?_
  refine lv_istore_n (lv' := [(3, .int (iN 1)), (2, .int (iN k)), (0, .ref (gad G 0)), (1, .int (iN k))]) hx hb dX8_gatherAround_11 rfl hl (by decide) rfl (fun ls hl => ?_)
  have K12 : ∀ (N : Nat) (b : Nat) (left : Int) (sz2 : Nat) (th2 : Nat → Int) (ps2 : Nat → Int) (vs2 : Nat → Int) (mz2 : Nat) (pa2 : Int) (ts2 : Nat → Int) (os2 : Nat → Int) (rs2 : Nat → Int) (w2 : WF) (H : Heap) (locs : List Loc) (ls : Array Slot), (1 ≤ b ∧ b ≤ bcF (cst, cpl, csp, cnp, cstop) came ((now : Nat) : Int)) → (left = k - ((mtB (cst, cpl, csp, cnp, cstop) came ((now : Nat) : Int) (b - 1)).length : Int)) → (0 ≤ left ∨ (b = 1 ∧ k < 0)) → (MBD mz2 ts2) → (-2147483648 ≤ left ∧ left < 2147483648) → (gaG (cst, cpl, csp, cnp, cstop) came ((now : Nat) : Int) (bcF (cst, cpl, csp, cnp, cstop) came ((now : Nat) : Int) - b) b left = gaR (cst, cpl, csp, cnp, cstop) came ((now : Nat) : Int) k) → 93 - b < N → w2 0 = .inr (7, [.ref (gad G 1), .int (iN ((came : Nat) : Int)), .int (iN ((now : Nat) : Int)), .ref (gad G 2), .ref (gad G 5), .int (iN ((bc2_3 : Nat) : Int)), .ref (gad G 6), .ref (gad G 10), .ref (gad G 14), .ref (gad G 15), .ref (gad G 18)]) → w2 5 = .inl (gI G, 92, .inl (aN bs2_4)) → w2 6 = .inr (4, [.ref (gad G 7), .ref (gad G 8), .ref (gad G 9), .int (iN ((sz2 : Nat) : Int))]) → w2 7 = .inl (gZ G, 10, .inl (aN th2)) → w2 8 = .inl (gI G, 10, .inl (aN ps2)) → w2 9 = .inl (gI G, 10, .inl (aN vs2)) → w2 10 = .inr (3, [.ref (gad G 11), .ref (gad G 12), .ref (gad G 13), .int (iN ((mz2 : Nat) : Int)), .int (iN pa2)]) → w2 11 = .inl (gJ G, 45, .inr (.inl (aJ ts2))) → w2 12 = .inl (gI G, 45, .inl (aN os2)) → w2 13 = .inl (gI G, 45, .inl (aN rs2)) → (∀ k : Nat, k ≠ 0 → k ≠ 5 → k ≠ 6 → k ≠ 7 → k ≠ 8 → k ≠ 9 → k ≠ 10 → k ≠ 11 → k ≠ 12 → k ≠ 13 → w2 k = w k) → PW G w2 H → va_S (AA G) s.heap H locs → lv_has ls 4 [(0, .ref (gad G 0)), (1, .int (iN k)), (2, .int (iN left)), (3, .int (iN ((b : Nat) : Int)))] → W p l e (headSpec wsX8_gatherAround ({ frames := 6, cells := 0, slots := 0, locals := 153 })).room s m (([.ref (gad G 0), .int (iN k)] : List Value).toArray) below meth c H locs 0 0 (MQ below (QI G (fun r w1 => r = iN (gaR (cst, cpl, csp, cnp, cstop) came (now : Int) k) ∧ ∃ (bc2 : Nat) (bs2 : Nat → Int) (sz2 : Nat) (th2 : Nat → Int) (ps2 : Nat → Int) (vs2 : Nat → Int) (mz2 : Nat) (pa2 : Int) (ts2 : Nat → Int) (os2 : Nat → Int) (rs2 : Nat → Int), (∀ k : Nat, k ≠ 0 → k ≠ 5 → k ≠ 6 → k ≠ 7 → k ≠ 8 → k ≠ 9 → k ≠ 10 → k ≠ 11 → k ≠ 12 → k ≠ 13 → w1 k = w k) ∧ w1 0 = .inr (7, [.ref (gad G 1), .int (iN ((came : Nat) : Int)), .int (iN ((now : Nat) : Int)), .ref (gad G 2), .ref (gad G 5), .int (iN ((bc2 : Nat) : Int)), .ref (gad G 6), .ref (gad G 10), .ref (gad G 14), .ref (gad G 15), .ref (gad G 18)]) ∧ w1 5 = .inl (gI G, 92, .inl (aN bs2)) ∧ w1 6 = .inr (4, [.ref (gad G 7), .ref (gad G 8), .ref (gad G 9), .int (iN ((sz2 : Nat) : Int))]) ∧ w1 7 = .inl (gZ G, 10, .inl (aN th2)) ∧ w1 8 = .inl (gI G, 10, .inl (aN ps2)) ∧ w1 9 = .inl (gI G, 10, .inl (aN vs2)) ∧ w1 10 = .inr (3, [.ref (gad G 11), .ref (gad G 12), .ref (gad G 13), .int (iN ((mz2 : Nat) : Int)), .int (iN pa2)]) ∧ w1 11 = .inl (gJ G, 45, .inr (.inl (aJ ts2))) ∧ w1 12 = .inl (gI G, 45, .inl (aN os2)) ∧ w1 13 = .inl (gI G, 45, .inl (aN rs2)) ∧ (MBD mz2 ts2) ∧ ((gaR (cst, cpl, csp, cnp, cstop) came (now : Int) k = -1 ∧ lkp (mtL (cst, cpl, csp, cnp, cstop) came (now : Int)) k = none) ∨ ∃ L2, isM L2 mz2 pa2 ts2 os2 rs2 ∧ lkp L2 (gaR (cst, cpl, csp, cnp, cstop) came (now : Int) k) = lkp (mtL (cst, cpl, csp, cnp, cstop) came (now : Int)) k))) (([.ref (gad G 0), .int (iN k)] : List Value).toArray) s 0 0 (AA G)) (F0 m 12 ls []) := by
    intro N
    induction N with
    | zero =>
      intros
      exfalso
      omega
    | succ N ih12 =>
      intro b left sz2 th2 ps2 vs2 mz2 pa2 ts2 os2 rs2 w2 H locs ls i12_0 i12_1 i12_2 i12_3 i12_4 i12_5 hN12 f12_0 f12_1 f12_2 f12_3 f12_4 f12_5 f12_6 f12_7 f12_8 f12_9 hfr12 hP hS hl
      have hC12 : FAM G w2 cst cpl csp cnp cstop := hC.keep (fun k h1 h2 => hfr12 k (by omega) (by omega) (by omega) (by omega) (by omega) (by omega) (by omega) (by omega) (by omega) (by omega))
      refine lv_iload_n hx hb dX8_gatherAround_12 rfl (lv_at hl 3 rfl) ?_
      refine lv_aload_n hx hb dX8_gatherAround_13 rfl (lv_at hl 0 rfl) ?_
      refine f_get (C := RX8) (T := TX8) (N := 11) hx hb hts (by decide +kernel) hown hK hP 0 (by omega) f12_0 rfl 5 (by decide) (hts (.fieldLink RX8 189 "KeptMoving" "bendCount" "I") (by decide +kernel)) (fun _ h9 => h9) rfl dX8_gatherAround_14 ?_
      refine n_icmp_ge (tgt := 71) hx hb dX8_gatherAround_17 (by decide) (by omega) (by omega) (by omega) (by omega) (fun c_17 => ?_) (fun c_17 => ?_)
      · refine n_iconst hx hb dX8_gatherAround_71 ?_
        exact r_i hx hb hr dX8_gatherAround_72 hlocks hP hS ⟨congrArg iN (by have hg : gaR (cst, cpl, csp, cnp, cstop) came ((now : Nat) : Int) k = -1 := (by rw [← i12_5, show bcF (cst, cpl, csp, cnp, cstop) came ((now : Nat) : Int) - b = 0 by omega]; rfl); exact hg.symm), bc2_3, bs2_4, sz2, th2, ps2, vs2, mz2, pa2, ts2, os2, rs2, (fun k h0 h1 h2 h3 h4 h5 h6 h7 h8 h9 => hfr12 k (by omega) (by omega) (by omega) (by omega) (by omega) (by omega) (by omega) (by omega) (by omega) (by omega)), f12_0, f12_1, f12_2, f12_3, f12_4, f12_5, f12_6, f12_7, f12_8, f12_9, i12_3, (by have hg : gaR (cst, cpl, csp, cnp, cstop) came ((now : Nat) : Int) k = -1 := (by rw [← i12_5, show bcF (cst, cpl, csp, cnp, cstop) came ((now : Nat) : Int) - b = 0 by omega]; rfl); exact Or.inl ⟨hg, (ga_miss (L := []) (left := left) (b := bcF (cst, cpl, csp, cnp, cstop) came ((now : Nat) : Int) - 1) (by rw [i12_1, show bcF (cst, cpl, csp, cnp, cstop) came ((now : Nat) : Int) - 1 = b - 1 by omega]) (by omega)).symm⟩)⟩
      · refine lv_iload_n hx hb dX8_gatherAround_20 rfl (lv_at hl 2 rfl) ?_
        refine n_if_lt (tgt := 71) hx hb dX8_gatherAround_21 (by decide) (by omega) (by omega) (fun c_21 => ?_) (fun c_21 => ?_)
        · refine n_iconst hx hb dX8_gatherAround_71 ?_
          exact r_i hx hb hr dX8_gatherAround_72 hlocks hP hS ⟨congrArg iN (by have hg : gaR (cst, cpl, csp, cnp, cstop) came ((now : Nat) : Int) k = -1 := (by rw [← i12_5]; exact gaG_neg (by omega)); exact hg.symm), bc2_3, bs2_4, sz2, th2, ps2, vs2, mz2, pa2, ts2, os2, rs2, (fun k h0 h1 h2 h3 h4 h5 h6 h7 h8 h9 => hfr12 k (by omega) (by omega) (by omega) (by omega) (by omega) (by omega) (by omega) (by omega) (by omega) (by omega)), f12_0, f12_1, f12_2, f12_3, f12_4, f12_5, f12_6, f12_7, f12_8, f12_9, i12_3, (by have hg : gaR (cst, cpl, csp, cnp, cstop) came ((now : Nat) : Int) k = -1 := (by rw [← i12_5]; exact gaG_neg (by omega)); exact Or.inl ⟨hg, if_neg (by omega)⟩)⟩
        · have hb1 := hbq.2.1 (b - 1) (by have := hbq.1; omega)
          have hb2 := hbq.2.1 b (by omega)
          have hbr1 := hbr (b - 1)
          have hbr2 := hbr b
          have hbq1 := hbq.1
          refine lv_aload_n hx hb dX8_gatherAround_24 rfl (lv_at hl 0 rfl) ?_
          refine lv_aload_n hx hb dX8_gatherAround_25 rfl (lv_at hl 0 rfl) ?_
          refine f_get (C := RX8) (T := TX8) (N := 11) hx hb hts (by decide +kernel) hown hK hP 0 (by omega) f12_0 rfl 4 (by decide) (hts (.fieldLink RX8 23 "KeptMoving" "bends" "[I") (by decide +kernel)) (fun _ h9 => h9) rfl dX8_gatherAround_26 ?_
          refine lv_iload_n hx hb dX8_gatherAround_29 rfl (lv_at hl 3 rfl) ?_
          refine n_iconst hx hb dX8_gatherAround_30 ?_
          refine n_isub hx hb dX8_gatherAround_31 ?_
          refine n_top (A := ((b : Nat) : Int) - 1) (B := ((b - 1 : Nat) : Int)) (by omega) ?_
          refine n_iald hx hb hK hP 5 (by omega) f12_1 (b - 1) rfl (by omega) (by decide) dX8_gatherAround_32 ?_
          refine lv_aload_n hx hb dX8_gatherAround_33 rfl (lv_at hl 0 rfl) ?_
          refine f_get (C := RX8) (T := TX8) (N := 11) hx hb hts (by decide +kernel) hown hK hP 0 (by omega) f12_0 rfl 4 (by decide) (hts (.fieldLink RX8 23 "KeptMoving" "bends" "[I") (by decide +kernel)) (fun _ h9 => h9) rfl dX8_gatherAround_34 ?_
          refine lv_iload_n hx hb dX8_gatherAround_37 rfl (lv_at hl 3 rfl) ?_
          refine n_iald hx hb hK hP 5 (by omega) f12_1 b rfl (by omega) (by decide) dX8_gatherAround_38 ?_
          refine f_callv (W.runV (As := [.int (iN (bs2_4 (b - 1))), .int (iN (bs2_4 b))]) (rest := []) ⟨hx, hb, hml, hown, hts⟩ (c_X8_gatherMeetings l G w2 came now bc2_3 sz2 th2 ps2 vs2 mz2 pa2 ts2 os2 rs2 (bs2_4 (b - 1)) (bs2_4 b) cst cpl csp cnp cstop f12_0 f12_2 f12_3 f12_4 f12_5 f12_6 f12_7 f12_8 f12_9 hC12 (p0) (by omega) (by omega)) (cwV 2 hts gX8_gatherAround_X8_gatherMeetings rfl rfl rfl (by decide +kernel) ⟨Nat.le_of_ble_eq_true rfl, Nat.le_of_ble_eq_true rfl⟩) (f_preV hP hK 0 (by omega) 7 f12_0 rfl) rfl rfl hl.1 rfl (lv_room (Nat.le_of_ble_eq_true rfl)) dX8_gatherAround_39 ⟨Nat.zero_le _, Nat.zero_le _⟩) hS hAA (fun w_20 H locs q_21 hP hS => ?_)
          obtain ⟨th2_22, ps2_23, vs2_24, mz2_25, pa2_26, ts2_27, os2_28, rs2_29, fr_30, e_31, e_32, e_33, e_34, e_35, e_36, e_37, e_38, q_39⟩ := q_21
          have e_40 : w_20 0 = .inr (7, [.ref (gad G 1), .int (iN ((came : Nat) : Int)), .int (iN ((now : Nat) : Int)), .ref (gad G 2), .ref (gad G 5), .int (iN ((bc2_3 : Nat) : Int)), .ref (gad G 6), .ref (gad G 10), .ref (gad G 14), .ref (gad G 15), .ref (gad G 18)]) := (fr_30 0 (by omega) (by omega) (by omega) (by omega) (by omega) (by omega) (by omega) (by omega)).trans f12_0
          have e_41 : w_20 5 = .inl (gI G, 92, .inl (aN bs2_4)) := (fr_30 5 (by omega) (by omega) (by omega) (by omega) (by omega) (by omega) (by omega) (by omega)).trans f12_1
          have e_42 : w_20 6 = .inr (4, [.ref (gad G 7), .ref (gad G 8), .ref (gad G 9), .int (iN ((came : Nat) : Int))]) := e_31
          have e_43 : w_20 7 = .inl (gZ G, 10, .inl (aN th2_22)) := e_32
          have e_44 : w_20 8 = .inl (gI G, 10, .inl (aN ps2_23)) := e_33
          have e_45 : w_20 9 = .inl (gI G, 10, .inl (aN vs2_24)) := e_34
          have e_46 : w_20 10 = .inr (3, [.ref (gad G 11), .ref (gad G 12), .ref (gad G 13), .int (iN ((mz2_25 : Nat) : Int)), .int (iN pa2_26)]) := e_35
          have e_47 : w_20 11 = .inl (gJ G, 45, .inr (.inl (aJ ts2_27))) := e_36
          have e_48 : w_20 12 = .inl (gI G, 45, .inl (aN os2_28)) := e_37
          have e_49 : w_20 13 = .inl (gI G, 45, .inl (aN rs2_29)) := e_38
          have hC_50 : FAM G w_20 cst cpl csp cnp cstop := hC12.keep (fun k h1 h2 => fr_30 k (by omega) (by omega) (by omega) (by omega) (by omega) (by omega) (by omega) (by omega))
          rw [hb1, hb2] at q_39
          have hsz : mz2_25 = (gmL (cst, cpl, csp, cnp, cstop) (bndF (cst, cpl, csp, cnp, cstop) came ((now : Nat) : Int) (b - 1)) (bndF (cst, cpl, csp, cnp, cstop) came ((now : Nat) : Int) b) came).length := q_39.1
          have hg45 := gm_len45 (cst, cpl, csp, cnp, cstop) (bndF (cst, cpl, csp, cnp, cstop) came ((now : Nat) : Int) (b - 1)) (bndF (cst, cpl, csp, cnp, cstop) came ((now : Nat) : Int) b) hc10
          refine lv_iload_n hx hb dX8_gatherAround_42 rfl (lv_at hl 2 rfl) ?_
          refine lv_aload_n hx hb dX8_gatherAround_43 rfl (lv_at hl 0 rfl) ?_
          refine f_get (C := RX8) (T := TX8) (N := 11) hx hb hts (by decide +kernel) hown hK hP 0 (by omega) e_40 rfl 7 (by decide) (hts (.fieldLink RX8 37 "KeptMoving" "meetings" "LKeptMoving$Meetings;") (by decide +kernel)) (fun _ h9 => h9) rfl dX8_gatherAround_44 ?_
          refine f_getN (C := RX4) (T := TX4) (N := 5) hx hb hts (by decide +kernel) hown hK hP 10 (by omega) e_46 rfl 3 (by decide) (hK.nf 5 rfl) (fun _ h9 => h9) rfl dX8_gatherAround_47 ?_
          refine n_icmp_ge (tgt := 55) hx hb dX8_gatherAround_50 (by decide) (by omega) (by omega) (by omega) (by omega) (fun c_50 => ?_) (fun c_50 => ?_)
          · refine lv_iload_n hx hb dX8_gatherAround_55 rfl (lv_at hl 2 rfl) ?_
            refine lv_aload_n hx hb dX8_gatherAround_56 rfl (lv_at hl 0 rfl) ?_
            refine f_get (C := RX8) (T := TX8) (N := 11) hx hb hts (by decide +kernel) hown hK hP 0 (by omega) e_40 rfl 7 (by decide) (hts (.fieldLink RX8 37 "KeptMoving" "meetings" "LKeptMoving$Meetings;") (by decide +kernel)) (fun _ h9 => h9) rfl dX8_gatherAround_57 ?_
            refine f_getN (C := RX4) (T := TX4) (N := 5) hx hb hts (by decide +kernel) hown hK hP 10 (by omega) e_46 rfl 3 (by decide) (hK.nf 5 rfl) (fun _ h9 => h9) rfl dX8_gatherAround_60 ?_
            refine n_isub hx hb dX8_gatherAround_63 ?_
            refine lv_istore_n (lv' := [(2, .int (iN (left - ((mz2_25 : Nat) : Int)))), (0, .ref (gad G 0)), (1, .int (iN k)), (3, .int (iN ((b : Nat) : Int)))]) hx hb dX8_gatherAround_64 rfl hl (by decide) rfl (fun ls hl => ?_)
            refine lv_iinc (v := iN ((b + 1 : Nat) : Int)) (lv' := [(3, .int (iN ((b + 1 : Nat) : Int))), (2, .int (iN (left - ((mz2_25 : Nat) : Int)))), (0, .ref (gad G 0)), (1, .int (iN k))]) hx hb dX8_gatherAround_65 hl (k := 3) rfl (iN_incN _) (by decide) rfl (fun ls hl => ?_)
            refine lv_goto (tgt := 12) hx hb dX8_gatherAround_68 (by decide) ?_
            exact ih12 (b + 1) (left - ((mz2_25 : Nat) : Int)) (came) (th2_22) (ps2_23) (vs2_24) (mz2_25) (pa2_26) (ts2_27) (os2_28) (rs2_29) w_20 _ _ _ (by omega) (by rw [Nat.add_sub_cancel, mtB_s (by omega), List.length_append]; omega) (by omega) (isM_mbd q_39 hg45) (by omega) (by have hz := gaG_s (S := (cst, cpl, csp, cnp, cstop)) (came := came) (now := ((now : Nat) : Int)) (left := left) (n := bcF (cst, cpl, csp, cnp, cstop) came ((now : Nat) : Int) - b) (b := b) (by omega) (by omega) (by omega); rw [← i12_5, hz, hsz, show bcF (cst, cpl, csp, cnp, cstop) came ((now : Nat) : Int) - b - 1 = bcF (cst, cpl, csp, cnp, cstop) came ((now : Nat) : Int) - (b + 1) by omega]) (by omega) (e_40) (e_41) (e_42) (e_43) (e_44) (e_45) (e_46) (e_47) (e_48) (e_49) (fun k h0 h1 h2 h3 h4 h5 h6 h7 h8 h9 => ((fr_30 k (by omega) (by omega) (by omega) (by omega) (by omega) (by omega) (by omega) (by omega)).trans (hfr12 k (by omega) (by omega) (by omega) (by omega) (by omega) (by omega) (by omega) (by omega) (by omega) (by omega)))) hP hS (lv_sub hl [2, 3, 1, 0] rfl)
          · refine lv_iload_n hx hb dX8_gatherAround_53 rfl (lv_at hl 2 rfl) ?_
            exact r_i hx hb hr dX8_gatherAround_54 hlocks hP hS ⟨congrArg iN (by have hg : gaR (cst, cpl, csp, cnp, cstop) came ((now : Nat) : Int) k = left := (by rw [← i12_5]; exact gaG_hit (by omega) (by omega) (by omega)); exact hg.symm), bc2_3, bs2_4, came, th2_22, ps2_23, vs2_24, mz2_25, pa2_26, ts2_27, os2_28, rs2_29, (fun k h0 h1 h2 h3 h4 h5 h6 h7 h8 h9 => ((fr_30 k (by omega) (by omega) (by omega) (by omega) (by omega) (by omega) (by omega) (by omega)).trans (hfr12 k (by omega) (by omega) (by omega) (by omega) (by omega) (by omega) (by omega) (by omega) (by omega) (by omega)))), e_40, e_41, e_42, e_43, e_44, e_45, e_46, e_47, e_48, e_49, isM_mbd q_39 hg45, (Or.inr ⟨_, q_39, (by have hg : gaR (cst, cpl, csp, cnp, cstop) came ((now : Nat) : Int) k = left := (by rw [← i12_5]; exact gaG_hit (by omega) (by omega) (by omega)); rw [hg]; exact ga_hit (by omega) (by omega) i12_1 (by omega) (by omega))⟩)⟩
  exact K12 ((93 - 1) + 1) (1) (k) (sz0) (th) (ps) (vs) (mz) (pa) (ts) (os) (rs) w_1 _ _ _ (by have := hbq.1; omega) (by show k = k - (0 : Int); omega) (by omega) (p3) (p2) (rfl) (by omega) (e_17) (e_18) (e_9) (e_10) (e_11) (e_12) (e_13) (e_14) (e_15) (e_16) (fun k h0 h1 h2 h3 h4 h5 h6 h7 h8 h9 => fr_5 k (by omega) (by omega)) hP hS (lv_sub hl [2, 3, 1, 0] rfl)

theorem ga_fld {S : FS} {came : Nat} {now r k : Int} {mz : Nat} {pa : Int} {ts os rs : Nat → Int} (h : (r = -1 ∧ lkp (mtL S came now) k = none) ∨ ∃ L2, isM L2 mz pa ts os rs ∧ lkp L2 r = lkp (mtL S came now) k) (wh : Int) : (if 0 ≤ r ∧ r < (mz : Int) then (if wh = 0 then ts r.toNat / 256 else if wh = 1 then ts r.toNat % 256 else if wh = 2 then os r.toNat else rs r.toNat) else -1) = fld (lkp (mtL S came now) k) wh := by
  rcases h with ⟨h1, h2⟩ | ⟨L2, h1, h2⟩
  · rw [h2, if_neg (by omega)]
    rfl
  · rw [← h2]
    exact tell_fld h1 r wh
theorem gaG_rng (S : FS) (came : Nat) (now : Int) : ∀ (n b : Nat) (left : Int), -1 ≤ gaG S came now n b left ∧ (0 ≤ left → gaG S came now n b left ≤ left)
  | 0, _, left => ⟨Int.le_refl _, fun h => by show (-1 : Int) ≤ left; omega⟩
  | n + 1, b, left => by
    have ih := gaG_rng S came now n (b + 1) (left - ((gmL S (bndF S came now (b - 1)) (bndF S came now b) came).length : Int))
    unfold gaG
    split
    · omega
    · split
      · omega
      · omega
theorem gaR_rng (S : FS) (came : Nat) (now k : Int) (hk : -2147483648 ≤ k ∧ k < 2147483648) : -2147483648 ≤ gaR S came now k ∧ gaR S came now k < 2147483648 := by
  have h := gaG_rng S came now (bcF S came now - 1) 1 k
  have h2 : k < 0 → gaR S came now k = -1 := fun z => gaG_neg z
  unfold gaR at *
  by_cases z : k < 0
  · have := h2 z
    omega
  · omega

set_option maxHeartbeats 4000000 in
set_option maxRecDepth 100000 in
theorem c_X8_meeting (l : Launch) (G : GE) (w : WF) (came : Nat) (now : Nat) (bc : Nat) (bs : Nat → Int) (sz0 : Nat) (th : Nat → Int) (ps : Nat → Int) (vs : Nat → Int) (mz : Nat) (pa : Int) (ts : Nat → Int) (os : Nat → Int) (rs : Nat → Int) (k : Int) (wh : Int) (cst : Nat → Nat → Int) (cpl : Nat → Nat → Int) (csp : Nat → Nat → Int) (cnp : Nat → Nat) (cstop : Nat → Int) (e0 : w 0 = .inr (7, [.ref (gad G 1), .int (iN ((came : Nat) : Int)), .int (iN ((now : Nat) : Int)), .ref (gad G 2), .ref (gad G 5), .int (iN ((bc : Nat) : Int)), .ref (gad G 6), .ref (gad G 10), .ref (gad G 14), .ref (gad G 15), .ref (gad G 18)])) (e1 : w 5 = .inl (gI G, 92, .inl (aN bs))) (e2 : w 6 = .inr (4, [.ref (gad G 7), .ref (gad G 8), .ref (gad G 9), .int (iN ((sz0 : Nat) : Int))])) (e3 : w 7 = .inl (gZ G, 10, .inl (aN th))) (e4 : w 8 = .inl (gI G, 10, .inl (aN ps))) (e5 : w 9 = .inl (gI G, 10, .inl (aN vs))) (e6 : w 10 = .inr (3, [.ref (gad G 11), .ref (gad G 12), .ref (gad G 13), .int (iN ((mz : Nat) : Int)), .int (iN pa)])) (e7 : w 11 = .inl (gJ G, 45, .inr (.inl (aJ ts)))) (e8 : w 12 = .inl (gI G, 45, .inl (aN os))) (e9 : w 13 = .inl (gI G, 45, .inl (aN rs))) (hC : FAM G w cst cpl csp cnp cstop) (p0 : OKS came cst cpl csp cnp cstop) (p1 : now ≤ 400) (p2 : -2147483648 ≤ k ∧ k < 2147483648) (p3 : -2147483648 ≤ wh ∧ wh < 2147483648) (p4 : MBD mz ts) : Met l yX8_meeting wsX8_meeting ({ frames := 7, cells := 0, slots := 0, locals := 176 }) (PcG G w [.ref (gad G 0), .int (iN k), .int (iN wh)]) (QI G (fun r w1 => r = iN (if 0 ≤ wh ∧ wh ≤ 3 then (if k = -1 then fld (lkp (gmL (cst, cpl, csp, cnp, cstop) (now : Int) 100000 came) 0) wh else fld (lkp (mtL (cst, cpl, csp, cnp, cstop) came (now : Int)) k) wh) else -100002) ∧ ∃ (bc2 : Nat) (bs2 : Nat → Int) (sz2 : Nat) (th2 : Nat → Int) (ps2 : Nat → Int) (vs2 : Nat → Int) (mz2 : Nat) (pa2 : Int) (ts2 : Nat → Int) (os2 : Nat → Int) (rs2 : Nat → Int), (∀ k : Nat, k ≠ 0 → k ≠ 5 → k ≠ 6 → k ≠ 7 → k ≠ 8 → k ≠ 9 → k ≠ 10 → k ≠ 11 → k ≠ 12 → k ≠ 13 → w1 k = w k) ∧ w1 0 = .inr (7, [.ref (gad G 1), .int (iN ((came : Nat) : Int)), .int (iN ((now : Nat) : Int)), .ref (gad G 2), .ref (gad G 5), .int (iN ((bc2 : Nat) : Int)), .ref (gad G 6), .ref (gad G 10), .ref (gad G 14), .ref (gad G 15), .ref (gad G 18)]) ∧ w1 5 = .inl (gI G, 92, .inl (aN bs2)) ∧ w1 6 = .inr (4, [.ref (gad G 7), .ref (gad G 8), .ref (gad G 9), .int (iN ((sz2 : Nat) : Int))]) ∧ w1 7 = .inl (gZ G, 10, .inl (aN th2)) ∧ w1 8 = .inl (gI G, 10, .inl (aN ps2)) ∧ w1 9 = .inl (gI G, 10, .inl (aN vs2)) ∧ w1 10 = .inr (3, [.ref (gad G 11), .ref (gad G 12), .ref (gad G 13), .int (iN ((mz2 : Nat) : Int)), .int (iN pa2)]) ∧ w1 11 = .inl (gJ G, 45, .inr (.inl (aJ ts2))) ∧ w1 12 = .inl (gI G, 45, .inl (aN os2)) ∧ w1 13 = .inl (gI G, 45, .inl (aN rs2)) ∧ (MBD mz2 ts2))) 0 0 (AA G) := by
  refine Met.ofW (cc := cX8_meeting) (maxL := 3) (ret := (some .int)) (by decide) rfl ?_
  intro p e s m args below meth c s₁ B hml hv
  obtain ⟨rfl, hP, hK⟩ := hv
  have hx := B.exec
  have hb := B.bytes
  have hr := B.returns
  have hts := atoms_spec (ws := wsX8_meeting) B.pre
  have hown : s.vm.findClass RX8 = some m.cls := findClass_of_methodNamed B.named
  have hlocks := B.notSynchronized
  have hS : va_S (AA G) s.heap s.heap [] := va_S.rf
  have hAA : ∀ q, AA G q → AA G q := fun _ h => h
  have hl := lv_entry ([.ref (gad G 0), .int (iN k), .int (iN wh)]) (n := 3) (Nat.le_of_ble_eq_true rfl)
  rw [lg_entry_eq]
  generalize (lg_sl ([.ref (gad G 0), .int (iN k), .int (iN wh)]) ++ List.replicate (3 - (lg_sl ([.ref (gad G 0), .int (iN k), .int (iN wh)])).length) Slot.unset).toArray = ls at hl ⊢
  have hl : lv_has ls 3 [(0, .ref (gad G 0)), (1, .int (iN k)), (2, .int (iN wh))] := hl
  have hc10 : came ≤ 10 := p0.1
  refine lv_iload_n hx hb dX8_meeting_0 rfl (lv_at hl 2 rfl) ?_
  refine n_iconst hx hb dX8_meeting_1 ?_
  refine n_iconst hx hb dX8_meeting_2 ?_
  refine vp_callSi (W.runS (As := [.int (iN wh), .int (iN 0), .int (iN 3)]) (rest := []) ⟨hx, hb, hml, hown, hts⟩ (c_X8_isFromTo l wh (0 : Int) (3 : Int) (p3) (by omega) (by omega)) (va_cwS 3 hts gX8_meeting_X8_isFromTo rfl rfl rfl (by decide +kernel) ⟨Nat.le_of_ble_eq_true rfl, Nat.le_of_ble_eq_true rfl⟩) ⟨fun _ _ _ _ q => q, fun _ _ _ => rfl⟩ rfl rfl hl.1 rfl (lv_room (Nat.le_of_ble_eq_true rfl)) dX8_meeting_3 ⟨Nat.zero_le _, Nat.zero_le _⟩) (fun r_1 hr_1 => ?_)
  rw [show r_1 = iN (if ((0 : Int) ≤ wh ∧ wh ≤ (3 : Int)) then 1 else 0) from hr_1]
  refine n_ifb_ne (tgt := 12) hx hb dX8_meeting_6 (by decide) (fun c_6 => ?_) (fun c_6 => ?_)
  · refine lv_iload_n hx hb dX8_meeting_12 rfl (lv_at hl 1 rfl) ?_
    refine n_iconst hx hb dX8_meeting_13 ?_
    refine n_icmp_ne (tgt := 37) hx hb dX8_meeting_14 (by decide) (by omega) (by omega) (by omega) (by omega) (fun c_14 => ?_) (fun c_14 => ?_)
    · refine lv_aload_n hx hb dX8_meeting_37 rfl (lv_at hl 0 rfl) ?_
      refine f_get (C := RX8) (T := TX8) (N := 11) hx hb hts (by decide +kernel) hown hK hP 0 (by omega) e0 rfl 7 (by decide) (hts (.fieldLink RX8 37 "KeptMoving" "meetings" "LKeptMoving$Meetings;") (by decide +kernel)) (fun _ h9 => h9) rfl dX8_meeting_38 ?_
      refine lv_aload_n hx hb dX8_meeting_41 rfl (lv_at hl 0 rfl) ?_
      refine lv_iload_n hx hb dX8_meeting_42 rfl (lv_at hl 1 rfl) ?_
      refine f_calli (W.runV (As := [.int (iN k)]) (rest := [.ref (gad G 10)]) ⟨hx, hb, hml, hown, hts⟩ (c_X8_gatherAround l G w came now bc bs sz0 th ps vs mz pa ts os rs k cst cpl csp cnp cstop e0 e1 e2 e3 e4 e5 e6 e7 e8 e9 hC (p0) (by omega) (p2) (p4)) (cwV 1 hts gX8_meeting_X8_gatherAround rfl rfl rfl (by decide +kernel) ⟨Nat.le_of_ble_eq_true rfl, Nat.le_of_ble_eq_true rfl⟩) (f_preV hP hK 0 (by omega) 7 e0 rfl) rfl rfl hl.1 rfl (lv_room (Nat.le_of_ble_eq_true rfl)) dX8_meeting_43 ⟨Nat.zero_le _, Nat.zero_le _⟩) hS hAA (fun r_28 w_2 H locs q_3 hP hS => ?_)
      obtain ⟨hr_29, q_3⟩ := q_3
      obtain ⟨bc2_4, bs2_5, sz2_6, th2_7, ps2_8, vs2_9, mz2_10, pa2_11, ts2_12, os2_13, rs2_14, fr_15, e_16, e_17, e_18, e_19, e_20, e_21, e_22, e_23, e_24, e_25, q_26, q_27⟩ := q_3
      have e_30 : w_2 0 = .inr (7, [.ref (gad G 1), .int (iN ((came : Nat) : Int)), .int (iN ((now : Nat) : Int)), .ref (gad G 2), .ref (gad G 5), .int (iN ((bc2_4 : Nat) : Int)), .ref (gad G 6), .ref (gad G 10), .ref (gad G 14), .ref (gad G 15), .ref (gad G 18)]) := e_16
      have e_31 : w_2 5 = .inl (gI G, 92, .inl (aN bs2_5)) := e_17
      have e_32 : w_2 6 = .inr (4, [.ref (gad G 7), .ref (gad G 8), .ref (gad G 9), .int (iN ((sz2_6 : Nat) : Int))]) := e_18
      have e_33 : w_2 7 = .inl (gZ G, 10, .inl (aN th2_7)) := e_19
      have e_34 : w_2 8 = .inl (gI G, 10, .inl (aN ps2_8)) := e_20
      have e_35 : w_2 9 = .inl (gI G, 10, .inl (aN vs2_9)) := e_21
      have e_36 : w_2 10 = .inr (3, [.ref (gad G 11), .ref (gad G 12), .ref (gad G 13), .int (iN ((mz2_10 : Nat) : Int)), .int (iN pa2_11)]) := e_22
      have e_37 : w_2 11 = .inl (gJ G, 45, .inr (.inl (aJ ts2_12))) := e_23
      have e_38 : w_2 12 = .inl (gI G, 45, .inl (aN os2_13)) := e_24
      have e_39 : w_2 13 = .inl (gI G, 45, .inl (aN rs2_14)) := e_25
      have hC_40 : FAM G w_2 cst cpl csp cnp cstop := hC.keep (fun k h1 h2 => fr_15 k (by omega) (by omega) (by omega) (by omega) (by omega) (by omega) (by omega) (by omega) (by omega) (by omega))
      rw [show r_28 = iN (gaR (cst, cpl, csp, cnp, cstop) came ((now : Nat) : Int) k) from hr_29]
      refine lv_iload_n hx hb dX8_meeting_46 rfl (lv_at hl 2 rfl) ?_
      refine vp_callSi (va_Run.run (va_runVN (As := [.int (iN (gaR (cst, cpl, csp, cnp, cstop) came ((now : Nat) : Int) k)), .int (iN wh)]) (rest := []) ⟨hx, hb, hml, hown, hts⟩ (c_X4_tell l G w_2 mz2_10 pa2_11 ts2_12 os2_13 rs2_14 (gaR (cst, cpl, csp, cnp, cstop) came ((now : Nat) : Int) k) wh e_36 e_37 e_38 e_39 (q_26.1) (gaR_rng _ _ _ _ p2) (by omega) (q_26.2)) ⟨va_cnB 2 hts gX8_meeting_X4_tell_n175 rfl rfl rfl (hK.nm 41 rfl) (hts (.initialized RX4) (by decide +kernel)) (by decide +kernel) ⟨Nat.le_of_ble_eq_true rfl, Nat.le_of_ble_eq_true rfl⟩, hts (.instanceMethod yX4_tell) (by decide +kernel), hts (.selects RX4 yX4_tell yX4_tell) (by decide +kernel)⟩ (f_preV hP hK 10 (by omega) 3 e_36 rfl) rfl rfl hl.1 rfl (lv_room (Nat.le_of_ble_eq_true rfl)) dX8_meeting_47 ⟨Nat.zero_le _, Nat.zero_le _⟩)) (fun r_41 hr_41 => ?_)
      rw [show r_41 = iN (if 0 ≤ (gaR (cst, cpl, csp, cnp, cstop) came ((now : Nat) : Int) k) ∧ (gaR (cst, cpl, csp, cnp, cstop) came ((now : Nat) : Int) k) < ((mz2_10 : Nat) : Int) then (if wh = 0 then ts2_12 (gaR (cst, cpl, csp, cnp, cstop) came ((now : Nat) : Int) k).toNat / 256 else if wh = 1 then ts2_12 (gaR (cst, cpl, csp, cnp, cstop) came ((now : Nat) : Int) k).toNat % 256 else if wh = 2 then os2_13 (gaR (cst, cpl, csp, cnp, cstop) came ((now : Nat) : Int) k).toNat else rs2_14 (gaR (cst, cpl, csp, cnp, cstop) came ((now : Nat) : Int) k).toNat) else -1) from hr_41]
      exact r_i hx hb hr dX8_meeting_50 hlocks hP hS ⟨(congrArg iN (by rw [if_pos (show 0 ≤ wh ∧ wh ≤ 3 by omega), if_neg (show ¬ k = -1 by omega)]; exact ga_fld q_27 wh)), bc2_4, bs2_5, sz2_6, th2_7, ps2_8, vs2_9, mz2_10, pa2_11, ts2_12, os2_13, rs2_14, (fun k h0 h1 h2 h3 h4 h5 h6 h7 h8 h9 => fr_15 k (by omega) (by omega) (by omega) (by omega) (by omega) (by omega) (by omega) (by omega) (by omega) (by omega)), e_30, e_31, e_32, e_33, e_34, e_35, e_36, e_37, e_38, e_39, q_26⟩
    · refine lv_aload_n hx hb dX8_meeting_17 rfl (lv_at hl 0 rfl) ?_
      refine lv_aload_n hx hb dX8_meeting_18 rfl (lv_at hl 0 rfl) ?_
      refine f_get (C := RX8) (T := TX8) (N := 11) hx hb hts (by decide +kernel) hown hK hP 0 (by omega) e0 rfl 2 (by decide) (hts (.fieldLink RX8 72 "KeptMoving" "now" "I") (by decide +kernel)) (fun _ h9 => h9) rfl dX8_meeting_19 ?_
      refine n_ldc (z := 100000) hx hb hown (hts (.constant RX8 171 (100000)) (by decide +kernel)) (by decide) dX8_meeting_22 ?_
      refine f_callv (W.runV (As := [.int (iN ((now : Nat) : Int)), .int (iN 100000)]) (rest := []) ⟨hx, hb, hml, hown, hts⟩ (c_X8_gatherMeetings l G w came now bc sz0 th ps vs mz pa ts os rs ((now : Nat) : Int) (100000 : Int) cst cpl csp cnp cstop e0 e2 e3 e4 e5 e6 e7 e8 e9 hC (p0) (by omega) (by omega)) (cwV 2 hts gX8_meeting_X8_gatherMeetings rfl rfl rfl (by decide +kernel) ⟨Nat.le_of_ble_eq_true rfl, Nat.le_of_ble_eq_true rfl⟩) (f_preV hP hK 0 (by omega) 7 e0 rfl) rfl rfl hl.1 rfl (lv_room (Nat.le_of_ble_eq_true rfl)) dX8_meeting_24 ⟨Nat.zero_le _, Nat.zero_le _⟩) hS hAA (fun w_42 H locs q_43 hP hS => ?_)
      obtain ⟨th2_44, ps2_45, vs2_46, mz2_47, pa2_48, ts2_49, os2_50, rs2_51, fr_52, e_53, e_54, e_55, e_56, e_57, e_58, e_59, e_60, q_61⟩ := q_43
      have e_62 : w_42 0 = .inr (7, [.ref (gad G 1), .int (iN ((came : Nat) : Int)), .int (iN ((now : Nat) : Int)), .ref (gad G 2), .ref (gad G 5), .int (iN ((bc : Nat) : Int)), .ref (gad G 6), .ref (gad G 10), .ref (gad G 14), .ref (gad G 15), .ref (gad G 18)]) := (fr_52 0 (by omega) (by omega) (by omega) (by omega) (by omega) (by omega) (by omega) (by omega)).trans e0
      have e_63 : w_42 5 = .inl (gI G, 92, .inl (aN bs)) := (fr_52 5 (by omega) (by omega) (by omega) (by omega) (by omega) (by omega) (by omega) (by omega)).trans e1
      have e_64 : w_42 6 = .inr (4, [.ref (gad G 7), .ref (gad G 8), .ref (gad G 9), .int (iN ((came : Nat) : Int))]) := e_53
      have e_65 : w_42 7 = .inl (gZ G, 10, .inl (aN th2_44)) := e_54
      have e_66 : w_42 8 = .inl (gI G, 10, .inl (aN ps2_45)) := e_55
      have e_67 : w_42 9 = .inl (gI G, 10, .inl (aN vs2_46)) := e_56
      have e_68 : w_42 10 = .inr (3, [.ref (gad G 11), .ref (gad G 12), .ref (gad G 13), .int (iN ((mz2_47 : Nat) : Int)), .int (iN pa2_48)]) := e_57
      have e_69 : w_42 11 = .inl (gJ G, 45, .inr (.inl (aJ ts2_49))) := e_58
      have e_70 : w_42 12 = .inl (gI G, 45, .inl (aN os2_50)) := e_59
      have e_71 : w_42 13 = .inl (gI G, 45, .inl (aN rs2_51)) := e_60
      have hC_72 : FAM G w_42 cst cpl csp cnp cstop := hC.keep (fun k h1 h2 => fr_52 k (by omega) (by omega) (by omega) (by omega) (by omega) (by omega) (by omega) (by omega))
      refine lv_aload_n hx hb dX8_meeting_27 rfl (lv_at hl 0 rfl) ?_
      refine f_get (C := RX8) (T := TX8) (N := 11) hx hb hts (by decide +kernel) hown hK hP 0 (by omega) e_62 rfl 7 (by decide) (hts (.fieldLink RX8 37 "KeptMoving" "meetings" "LKeptMoving$Meetings;") (by decide +kernel)) (fun _ h9 => h9) rfl dX8_meeting_28 ?_
      refine n_iconst hx hb dX8_meeting_31 ?_
      refine lv_iload_n hx hb dX8_meeting_32 rfl (lv_at hl 2 rfl) ?_
      refine vp_callSi (va_Run.run (va_runVN (As := [.int (iN 0), .int (iN wh)]) (rest := []) ⟨hx, hb, hml, hown, hts⟩ (c_X4_tell l G w_42 mz2_47 pa2_48 ts2_49 os2_50 rs2_51 (0 : Int) wh e_68 e_69 e_70 e_71 (by rw [q_61.1]; exact gm_len45 _ _ _ hc10) (by omega) (by omega) (isM_bd q_61)) ⟨va_cnB 2 hts gX8_meeting_X4_tell_n175 rfl rfl rfl (hK.nm 41 rfl) (hts (.initialized RX4) (by decide +kernel)) (by decide +kernel) ⟨Nat.le_of_ble_eq_true rfl, Nat.le_of_ble_eq_true rfl⟩, hts (.instanceMethod yX4_tell) (by decide +kernel), hts (.selects RX4 yX4_tell yX4_tell) (by decide +kernel)⟩ (f_preV hP hK 10 (by omega) 3 e_68 rfl) rfl rfl hl.1 rfl (lv_room (Nat.le_of_ble_eq_true rfl)) dX8_meeting_33 ⟨Nat.zero_le _, Nat.zero_le _⟩)) (fun r_73 hr_73 => ?_)
      rw [show r_73 = iN (if 0 ≤ (0 : Int) ∧ (0 : Int) < ((mz2_47 : Nat) : Int) then (if wh = 0 then ts2_49 (0 : Int).toNat / 256 else if wh = 1 then ts2_49 (0 : Int).toNat % 256 else if wh = 2 then os2_50 (0 : Int).toNat else rs2_51 (0 : Int).toNat) else -1) from hr_73]
      exact r_i hx hb hr dX8_meeting_36 hlocks hP hS ⟨(congrArg iN (by rw [if_pos (show 0 ≤ wh ∧ wh ≤ 3 by omega), if_pos (show k = -1 by omega)]; exact tell_fld q_61 0 wh)), bc, bs, came, th2_44, ps2_45, vs2_46, mz2_47, pa2_48, ts2_49, os2_50, rs2_51, (fun k h0 h1 h2 h3 h4 h5 h6 h7 h8 h9 => fr_52 k (by omega) (by omega) (by omega) (by omega) (by omega) (by omega) (by omega) (by omega)), e_62, e_63, e_64, e_65, e_66, e_67, e_68, e_69, e_70, e_71, isM_mbd q_61 (gm_len45 _ _ _ hc10)⟩
  · refine n_ldc (z := (-100002)) hx hb hown (hts (.constant RX8 66 (-100002)) (by decide +kernel)) (by decide) dX8_meeting_9 ?_
    exact r_i hx hb hr dX8_meeting_11 hlocks hP hS ⟨(show iN (-100002) = iN _ by rw [if_neg (show ¬ (0 ≤ wh ∧ wh ≤ 3) by omega)]), bc, bs, sz0, th, ps, vs, mz, pa, ts, os, rs, (fun k _ _ _ _ _ _ _ _ _ _ => rfl), e0, e1, e2, e3, e4, e5, e6, e7, e8, e9, p4⟩

set_option maxHeartbeats 4000000 in
set_option maxRecDepth 100000 in
theorem c_X8_count (l : Launch) (G : GE) (w : WF) (came : Nat) (now : Nat) (bc : Nat) (lsz : Nat) (lnum : Nat → Int) (lupp : Nat → Int) (bs : Nat → Int) (sz0 : Nat) (th : Nat → Int) (ps : Nat → Int) (vs : Nat → Int) (mz : Nat) (pa : Int) (ts : Nat → Int) (os : Nat → Int) (rs : Nat → Int) (wh : Int) (cst : Nat → Nat → Int) (cpl : Nat → Nat → Int) (csp : Nat → Nat → Int) (cnp : Nat → Nat) (cstop : Nat → Int) (e0 : w 0 = .inr (7, [.ref (gad G 1), .int (iN ((came : Nat) : Int)), .int (iN ((now : Nat) : Int)), .ref (gad G 2), .ref (gad G 5), .int (iN ((bc : Nat) : Int)), .ref (gad G 6), .ref (gad G 10), .ref (gad G 14), .ref (gad G 15), .ref (gad G 18)])) (e1 : w 2 = .inr (2, [.ref (gad G 3), .ref (gad G 4), .int (iN ((lsz : Nat) : Int))])) (e2 : w 3 = .inl (gI G, 10, .inl (aN lnum))) (e3 : w 4 = .inl (gI G, 10, .inl (aN lupp))) (e4 : w 5 = .inl (gI G, 92, .inl (aN bs))) (e5 : w 6 = .inr (4, [.ref (gad G 7), .ref (gad G 8), .ref (gad G 9), .int (iN ((sz0 : Nat) : Int))])) (e6 : w 7 = .inl (gZ G, 10, .inl (aN th))) (e7 : w 8 = .inl (gI G, 10, .inl (aN ps))) (e8 : w 9 = .inl (gI G, 10, .inl (aN vs))) (e9 : w 10 = .inr (3, [.ref (gad G 11), .ref (gad G 12), .ref (gad G 13), .int (iN ((mz : Nat) : Int)), .int (iN pa)])) (e10 : w 11 = .inl (gJ G, 45, .inr (.inl (aJ ts)))) (e11 : w 12 = .inl (gI G, 45, .inl (aN os))) (e12 : w 13 = .inl (gI G, 45, .inl (aN rs))) (hC : FAM G w cst cpl csp cnp cstop) (p0 : OKS came cst cpl csp cnp cstop) (p1 : now ≤ 400) (p2 : -2147483648 ≤ wh ∧ wh < 2147483648) (p3 : MBD mz ts) : Met l yX8_count wsX8_count ({ frames := 7, cells := 0, slots := 0, locals := 176 }) (PcG G w [.ref (gad G 0), .int (iN wh)]) (QI G (fun r w1 => r = iN (if wh = 0 then (now : Int) else if wh = 1 then (came : Int) else if wh = 2 then ((ordR (upF cst cpl csp cnp (now : Int) 1) (thF cst cstop (now : Int) 1) came).1 : Int) else if wh = 3 then cntS (cst, cpl, csp, cnp, cstop) came (now : Int) 0 (bcF (cst, cpl, csp, cnp, cstop) came (now : Int) - 1) else if wh = 4 then cntS (cst, cpl, csp, cnp, cstop) came (now : Int) 1 (bcF (cst, cpl, csp, cnp, cstop) came (now : Int) - 1) else if wh = 5 then max (((ordR (upF cst cpl csp cnp (now : Int) 1) (thF cst cstop (now : Int) 1) came).1 : Int) - 1) 0 else -100002) ∧ ∃ (sz3 : Nat) (nums3 : Nat → Int) (upps3 : Nat → Int) (bc2 : Nat) (bs2 : Nat → Int) (sz2 : Nat) (th2 : Nat → Int) (ps2 : Nat → Int) (vs2 : Nat → Int) (mz2 : Nat) (pa2 : Int) (ts2 : Nat → Int) (os2 : Nat → Int) (rs2 : Nat → Int), (∀ k : Nat, k ≠ 0 → k ≠ 2 → k ≠ 3 → k ≠ 4 → k ≠ 5 → k ≠ 6 → k ≠ 7 → k ≠ 8 → k ≠ 9 → k ≠ 10 → k ≠ 11 → k ≠ 12 → k ≠ 13 → w1 k = w k) ∧ w1 0 = .inr (7, [.ref (gad G 1), .int (iN ((came : Nat) : Int)), .int (iN ((now : Nat) : Int)), .ref (gad G 2), .ref (gad G 5), .int (iN ((bc2 : Nat) : Int)), .ref (gad G 6), .ref (gad G 10), .ref (gad G 14), .ref (gad G 15), .ref (gad G 18)]) ∧ w1 2 = .inr (2, [.ref (gad G 3), .ref (gad G 4), .int (iN ((sz3 : Nat) : Int))]) ∧ w1 3 = .inl (gI G, 10, .inl (aN nums3)) ∧ w1 4 = .inl (gI G, 10, .inl (aN upps3)) ∧ w1 5 = .inl (gI G, 92, .inl (aN bs2)) ∧ w1 6 = .inr (4, [.ref (gad G 7), .ref (gad G 8), .ref (gad G 9), .int (iN ((sz2 : Nat) : Int))]) ∧ w1 7 = .inl (gZ G, 10, .inl (aN th2)) ∧ w1 8 = .inl (gI G, 10, .inl (aN ps2)) ∧ w1 9 = .inl (gI G, 10, .inl (aN vs2)) ∧ w1 10 = .inr (3, [.ref (gad G 11), .ref (gad G 12), .ref (gad G 13), .int (iN ((mz2 : Nat) : Int)), .int (iN pa2)]) ∧ w1 11 = .inl (gJ G, 45, .inr (.inl (aJ ts2))) ∧ w1 12 = .inl (gI G, 45, .inl (aN os2)) ∧ w1 13 = .inl (gI G, 45, .inl (aN rs2)) ∧ (MBD mz2 ts2))) 0 0 (AA G) := by
  refine Met.ofW (cc := cX8_count) (maxL := 2) (ret := (some .int)) (by decide) rfl ?_
  intro p e s m args below meth c s₁ B hml hv
  obtain ⟨rfl, hP, hK⟩ := hv
  have hx := B.exec
  have hb := B.bytes
  have hr := B.returns
  have hts := atoms_spec (ws := wsX8_count) B.pre
  have hown : s.vm.findClass RX8 = some m.cls := findClass_of_methodNamed B.named
  have hlocks := B.notSynchronized
  have hS : va_S (AA G) s.heap s.heap [] := va_S.rf
  have hAA : ∀ q, AA G q → AA G q := fun _ h => h
  have hl := lv_entry ([.ref (gad G 0), .int (iN wh)]) (n := 2) (Nat.le_of_ble_eq_true rfl)
  rw [lg_entry_eq]
  generalize (lg_sl ([.ref (gad G 0), .int (iN wh)]) ++ List.replicate (2 - (lg_sl ([.ref (gad G 0), .int (iN wh)])).length) Slot.unset).toArray = ls at hl ⊢
  have hl : lv_has ls 2 [(0, .ref (gad G 0)), (1, .int (iN wh))] := hl
  have hc10 : came ≤ 10 := p0.1
  refine lv_iload_n hx hb dX8_count_0 rfl (lv_at hl 1 rfl) ?_
  by_cases sw1_0 : wh = 0
  · refine n_tabIn (v := 0) (off := 39) (tgt := 40) hx hb sw1_0 (by omega) (by omega) dX8_count_1 (by decide) (by decide) (by decide) (by decide) ?_
    refine lv_aload_n hx hb dX8_count_40 rfl (lv_at hl 0 rfl) ?_
    refine f_get (C := RX8) (T := TX8) (N := 11) hx hb hts (by decide +kernel) hown hK hP 0 (by omega) e0 rfl 2 (by decide) (hts (.fieldLink RX8 72 "KeptMoving" "now" "I") (by decide +kernel)) (fun _ h9 => h9) rfl dX8_count_41 ?_
    exact r_i hx hb hr dX8_count_44 hlocks hP hS ⟨(congrArg iN (by rw [if_pos (show wh = 0 by omega)])), lsz, lnum, lupp, bc, bs, sz0, th, ps, vs, mz, pa, ts, os, rs, (fun k _ _ _ _ _ _ _ _ _ _ _ _ _ => rfl), e0, e1, e2, e3, e4, e5, e6, e7, e8, e9, e10, e11, e12, p3⟩
  by_cases sw1_1 : wh = 1
  · refine n_tabIn (v := 1) (off := 44) (tgt := 45) hx hb sw1_1 (by omega) (by omega) dX8_count_1 (by decide) (by decide) (by decide) (by decide) ?_
    refine lv_aload_n hx hb dX8_count_45 rfl (lv_at hl 0 rfl) ?_
    refine f_get (C := RX8) (T := TX8) (N := 11) hx hb hts (by decide +kernel) hown hK hP 0 (by omega) e0 rfl 1 (by decide) (hts (.fieldLink RX8 67 "KeptMoving" "came" "I") (by decide +kernel)) (fun _ h9 => h9) rfl dX8_count_46 ?_
    exact r_i hx hb hr dX8_count_49 hlocks hP hS ⟨(congrArg iN (by rw [if_neg (show ¬ wh = 0 by omega), if_pos (show wh = 1 by omega)])), lsz, lnum, lupp, bc, bs, sz0, th, ps, vs, mz, pa, ts, os, rs, (fun k _ _ _ _ _ _ _ _ _ _ _ _ _ => rfl), e0, e1, e2, e3, e4, e5, e6, e7, e8, e9, e10, e11, e12, p3⟩
  by_cases sw1_2 : wh = 2
  · refine n_tabIn (v := 2) (off := 49) (tgt := 50) hx hb sw1_2 (by omega) (by omega) dX8_count_1 (by decide) (by decide) (by decide) (by decide) ?_
    refine lv_aload_n hx hb dX8_count_50 rfl (lv_at hl 0 rfl) ?_
    refine lv_aload_n hx hb dX8_count_51 rfl (lv_at hl 0 rfl) ?_
    refine f_get (C := RX8) (T := TX8) (N := 11) hx hb hts (by decide +kernel) hown hK hP 0 (by omega) e0 rfl 2 (by decide) (hts (.fieldLink RX8 72 "KeptMoving" "now" "I") (by decide +kernel)) (fun _ h9 => h9) rfl dX8_count_52 ?_
    refine n_iconst hx hb dX8_count_55 ?_
    refine f_callv (W.runV (As := [.int (iN ((now : Nat) : Int)), .int (iN 1)]) (rest := []) ⟨hx, hb, hml, hown, hts⟩ (c_X8_lineUp l G w came now bc lsz lnum lupp ((now : Nat) : Int) (1 : Int) cst cpl csp cnp cstop e0 e1 e2 e3 hC (by omega) (by omega) (p0)) (cwV 2 hts gX8_count_X8_lineUp rfl rfl rfl (by decide +kernel) ⟨Nat.le_of_ble_eq_true rfl, Nat.le_of_ble_eq_true rfl⟩) (f_preV hP hK 0 (by omega) 7 e0 rfl) rfl rfl hl.1 rfl (lv_room (Nat.le_of_ble_eq_true rfl)) dX8_count_56 ⟨Nat.zero_le _, Nat.zero_le _⟩) hS hAA (fun w_1 H locs q_2 hP hS => ?_)
    obtain ⟨sz2_3, nums2_4, upps2_5, fr_6, e_7, e_8, e_9, q_10⟩ := q_2
    have e_11 : w_1 0 = .inr (7, [.ref (gad G 1), .int (iN ((came : Nat) : Int)), .int (iN ((now : Nat) : Int)), .ref (gad G 2), .ref (gad G 5), .int (iN ((bc : Nat) : Int)), .ref (gad G 6), .ref (gad G 10), .ref (gad G 14), .ref (gad G 15), .ref (gad G 18)]) := (fr_6 0 (by omega) (by omega) (by omega)).trans e0
    have e_12 : w_1 5 = .inl (gI G, 92, .inl (aN bs)) := (fr_6 5 (by omega) (by omega) (by omega)).trans e4
    have e_13 : w_1 6 = .inr (4, [.ref (gad G 7), .ref (gad G 8), .ref (gad G 9), .int (iN ((sz0 : Nat) : Int))]) := (fr_6 6 (by omega) (by omega) (by omega)).trans e5
    have e_14 : w_1 7 = .inl (gZ G, 10, .inl (aN th)) := (fr_6 7 (by omega) (by omega) (by omega)).trans e6
    have e_15 : w_1 8 = .inl (gI G, 10, .inl (aN ps)) := (fr_6 8 (by omega) (by omega) (by omega)).trans e7
    have e_16 : w_1 9 = .inl (gI G, 10, .inl (aN vs)) := (fr_6 9 (by omega) (by omega) (by omega)).trans e8
    have e_17 : w_1 10 = .inr (3, [.ref (gad G 11), .ref (gad G 12), .ref (gad G 13), .int (iN ((mz : Nat) : Int)), .int (iN pa)]) := (fr_6 10 (by omega) (by omega) (by omega)).trans e9
    have e_18 : w_1 11 = .inl (gJ G, 45, .inr (.inl (aJ ts))) := (fr_6 11 (by omega) (by omega) (by omega)).trans e10
    have e_19 : w_1 12 = .inl (gI G, 45, .inl (aN os)) := (fr_6 12 (by omega) (by omega) (by omega)).trans e11
    have e_20 : w_1 13 = .inl (gI G, 45, .inl (aN rs)) := (fr_6 13 (by omega) (by omega) (by omega)).trans e12
    have e_21 : w_1 2 = .inr (2, [.ref (gad G 3), .ref (gad G 4), .int (iN ((sz2_3 : Nat) : Int))]) := e_7
    have e_22 : w_1 3 = .inl (gI G, 10, .inl (aN nums2_4)) := e_8
    have e_23 : w_1 4 = .inl (gI G, 10, .inl (aN upps2_5)) := e_9
    have hC_24 : FAM G w_1 cst cpl csp cnp cstop := hC.keep (fun k h1 h2 => fr_6 k (by omega) (by omega) (by omega))
    refine lv_aload_n hx hb dX8_count_59 rfl (lv_at hl 0 rfl) ?_
    refine f_get (C := RX8) (T := TX8) (N := 11) hx hb hts (by decide +kernel) hown hK hP 0 (by omega) e_11 rfl 3 (by decide) (hts (.fieldLink RX8 19 "KeptMoving" "line" "LKeptMoving$Line;") (by decide +kernel)) (fun _ h9 => h9) rfl dX8_count_60 ?_
    refine f_getN (C := RX3) (T := TX3) (N := 3) hx hb hts (by decide +kernel) hown hK hP 2 (by omega) e_21 rfl 2 (by decide) (hK.nf 2 rfl) (fun _ h9 => h9) rfl dX8_count_63 ?_
    exact r_i hx hb hr dX8_count_66 hlocks hP hS ⟨(congrArg iN (by rw [if_neg (show ¬ wh = 0 by omega), if_neg (show ¬ wh = 1 by omega), if_pos (show wh = 2 by omega)]; exact congrArg (fun z : Nat => (z : Int)) q_10.1)), sz2_3, nums2_4, upps2_5, bc, bs, sz0, th, ps, vs, mz, pa, ts, os, rs, (fun k h0 h1 h2 h3 h4 h5 h6 h7 h8 h9 h10 h11 h12 => fr_6 k (by omega) (by omega) (by omega)), e_11, e_21, e_22, e_23, e_12, e_13, e_14, e_15, e_16, e_17, e_18, e_19, e_20, p3⟩
  by_cases sw1_3 : wh = 3
  · refine n_tabIn (v := 3) (off := 66) (tgt := 67) hx hb sw1_3 (by omega) (by omega) dX8_count_1 (by decide) (by decide) (by decide) (by decide) ?_
    refine lv_aload_n hx hb dX8_count_67 rfl (lv_at hl 0 rfl) ?_
    refine n_iconst hx hb dX8_count_68 ?_
    refine f_calli (W.runV (As := [.int (iN 0)]) (rest := []) ⟨hx, hb, hml, hown, hts⟩ (c_X8_countPast l G w came now bc bs sz0 th ps vs mz pa ts os rs (0 : Int) cst cpl csp cnp cstop e0 e4 e5 e6 e7 e8 e9 e10 e11 e12 hC (p0) (by omega) (by omega) (p3)) (cwV 1 hts gX8_count_X8_countPast rfl rfl rfl (by decide +kernel) ⟨Nat.le_of_ble_eq_true rfl, Nat.le_of_ble_eq_true rfl⟩) (f_preV hP hK 0 (by omega) 7 e0 rfl) rfl rfl hl.1 rfl (lv_room (Nat.le_of_ble_eq_true rfl)) dX8_count_69 ⟨Nat.zero_le _, Nat.zero_le _⟩) hS hAA (fun r_50 w_25 H locs q_26 hP hS => ?_)
    obtain ⟨hr_51, q_26⟩ := q_26
    obtain ⟨bc2_27, bs2_28, sz2_29, th2_30, ps2_31, vs2_32, mz2_33, pa2_34, ts2_35, os2_36, rs2_37, fr_38, e_39, e_40, e_41, e_42, e_43, e_44, e_45, e_46, e_47, e_48, q_49⟩ := q_26
    have e_52 : w_25 2 = .inr (2, [.ref (gad G 3), .ref (gad G 4), .int (iN ((lsz : Nat) : Int))]) := (fr_38 2 (by omega) (by omega) (by omega) (by omega) (by omega) (by omega) (by omega) (by omega) (by omega) (by omega)).trans e1
    have e_53 : w_25 3 = .inl (gI G, 10, .inl (aN lnum)) := (fr_38 3 (by omega) (by omega) (by omega) (by omega) (by omega) (by omega) (by omega) (by omega) (by omega) (by omega)).trans e2
    have e_54 : w_25 4 = .inl (gI G, 10, .inl (aN lupp)) := (fr_38 4 (by omega) (by omega) (by omega) (by omega) (by omega) (by omega) (by omega) (by omega) (by omega) (by omega)).trans e3
    have e_55 : w_25 0 = .inr (7, [.ref (gad G 1), .int (iN ((came : Nat) : Int)), .int (iN ((now : Nat) : Int)), .ref (gad G 2), .ref (gad G 5), .int (iN ((bc2_27 : Nat) : Int)), .ref (gad G 6), .ref (gad G 10), .ref (gad G 14), .ref (gad G 15), .ref (gad G 18)]) := e_39
    have e_56 : w_25 5 = .inl (gI G, 92, .inl (aN bs2_28)) := e_40
    have e_57 : w_25 6 = .inr (4, [.ref (gad G 7), .ref (gad G 8), .ref (gad G 9), .int (iN ((sz2_29 : Nat) : Int))]) := e_41
    have e_58 : w_25 7 = .inl (gZ G, 10, .inl (aN th2_30)) := e_42
    have e_59 : w_25 8 = .inl (gI G, 10, .inl (aN ps2_31)) := e_43
    have e_60 : w_25 9 = .inl (gI G, 10, .inl (aN vs2_32)) := e_44
    have e_61 : w_25 10 = .inr (3, [.ref (gad G 11), .ref (gad G 12), .ref (gad G 13), .int (iN ((mz2_33 : Nat) : Int)), .int (iN pa2_34)]) := e_45
    have e_62 : w_25 11 = .inl (gJ G, 45, .inr (.inl (aJ ts2_35))) := e_46
    have e_63 : w_25 12 = .inl (gI G, 45, .inl (aN os2_36)) := e_47
    have e_64 : w_25 13 = .inl (gI G, 45, .inl (aN rs2_37)) := e_48
    have hC_65 : FAM G w_25 cst cpl csp cnp cstop := hC.keep (fun k h1 h2 => fr_38 k (by omega) (by omega) (by omega) (by omega) (by omega) (by omega) (by omega) (by omega) (by omega) (by omega))
    rw [show r_50 = iN (cntS (cst, cpl, csp, cnp, cstop) came ((now : Nat) : Int) (0 : Int) (bcF (cst, cpl, csp, cnp, cstop) came ((now : Nat) : Int) - 1)) from hr_51]
    exact r_i hx hb hr dX8_count_72 hlocks hP hS ⟨(congrArg iN (by rw [if_neg (show ¬ wh = 0 by omega), if_neg (show ¬ wh = 1 by omega), if_neg (show ¬ wh = 2 by omega), if_pos (show wh = 3 by omega)])), lsz, lnum, lupp, bc2_27, bs2_28, sz2_29, th2_30, ps2_31, vs2_32, mz2_33, pa2_34, ts2_35, os2_36, rs2_37, (fun k h0 h1 h2 h3 h4 h5 h6 h7 h8 h9 h10 h11 h12 => fr_38 k (by omega) (by omega) (by omega) (by omega) (by omega) (by omega) (by omega) (by omega) (by omega) (by omega)), e_55, e_52, e_53, e_54, e_56, e_57, e_58, e_59, e_60, e_61, e_62, e_63, e_64, q_49⟩
  by_cases sw1_4 : wh = 4
  · refine n_tabIn (v := 4) (off := 72) (tgt := 73) hx hb sw1_4 (by omega) (by omega) dX8_count_1 (by decide) (by decide) (by decide) (by decide) ?_
    refine lv_aload_n hx hb dX8_count_73 rfl (lv_at hl 0 rfl) ?_
    refine n_iconst hx hb dX8_count_74 ?_
    refine f_calli (W.runV (As := [.int (iN 1)]) (rest := []) ⟨hx, hb, hml, hown, hts⟩ (c_X8_countPast l G w came now bc bs sz0 th ps vs mz pa ts os rs (1 : Int) cst cpl csp cnp cstop e0 e4 e5 e6 e7 e8 e9 e10 e11 e12 hC (p0) (by omega) (by omega) (p3)) (cwV 1 hts gX8_count_X8_countPast rfl rfl rfl (by decide +kernel) ⟨Nat.le_of_ble_eq_true rfl, Nat.le_of_ble_eq_true rfl⟩) (f_preV hP hK 0 (by omega) 7 e0 rfl) rfl rfl hl.1 rfl (lv_room (Nat.le_of_ble_eq_true rfl)) dX8_count_75 ⟨Nat.zero_le _, Nat.zero_le _⟩) hS hAA (fun r_91 w_66 H locs q_67 hP hS => ?_)
    obtain ⟨hr_92, q_67⟩ := q_67
    obtain ⟨bc2_68, bs2_69, sz2_70, th2_71, ps2_72, vs2_73, mz2_74, pa2_75, ts2_76, os2_77, rs2_78, fr_79, e_80, e_81, e_82, e_83, e_84, e_85, e_86, e_87, e_88, e_89, q_90⟩ := q_67
    have e_93 : w_66 2 = .inr (2, [.ref (gad G 3), .ref (gad G 4), .int (iN ((lsz : Nat) : Int))]) := (fr_79 2 (by omega) (by omega) (by omega) (by omega) (by omega) (by omega) (by omega) (by omega) (by omega) (by omega)).trans e1
    have e_94 : w_66 3 = .inl (gI G, 10, .inl (aN lnum)) := (fr_79 3 (by omega) (by omega) (by omega) (by omega) (by omega) (by omega) (by omega) (by omega) (by omega) (by omega)).trans e2
    have e_95 : w_66 4 = .inl (gI G, 10, .inl (aN lupp)) := (fr_79 4 (by omega) (by omega) (by omega) (by omega) (by omega) (by omega) (by omega) (by omega) (by omega) (by omega)).trans e3
    have e_96 : w_66 0 = .inr (7, [.ref (gad G 1), .int (iN ((came : Nat) : Int)), .int (iN ((now : Nat) : Int)), .ref (gad G 2), .ref (gad G 5), .int (iN ((bc2_68 : Nat) : Int)), .ref (gad G 6), .ref (gad G 10), .ref (gad G 14), .ref (gad G 15), .ref (gad G 18)]) := e_80
    have e_97 : w_66 5 = .inl (gI G, 92, .inl (aN bs2_69)) := e_81
    have e_98 : w_66 6 = .inr (4, [.ref (gad G 7), .ref (gad G 8), .ref (gad G 9), .int (iN ((sz2_70 : Nat) : Int))]) := e_82
    have e_99 : w_66 7 = .inl (gZ G, 10, .inl (aN th2_71)) := e_83
    have e_100 : w_66 8 = .inl (gI G, 10, .inl (aN ps2_72)) := e_84
    have e_101 : w_66 9 = .inl (gI G, 10, .inl (aN vs2_73)) := e_85
    have e_102 : w_66 10 = .inr (3, [.ref (gad G 11), .ref (gad G 12), .ref (gad G 13), .int (iN ((mz2_74 : Nat) : Int)), .int (iN pa2_75)]) := e_86
    have e_103 : w_66 11 = .inl (gJ G, 45, .inr (.inl (aJ ts2_76))) := e_87
    have e_104 : w_66 12 = .inl (gI G, 45, .inl (aN os2_77)) := e_88
    have e_105 : w_66 13 = .inl (gI G, 45, .inl (aN rs2_78)) := e_89
    have hC_106 : FAM G w_66 cst cpl csp cnp cstop := hC.keep (fun k h1 h2 => fr_79 k (by omega) (by omega) (by omega) (by omega) (by omega) (by omega) (by omega) (by omega) (by omega) (by omega))
    rw [show r_91 = iN (cntS (cst, cpl, csp, cnp, cstop) came ((now : Nat) : Int) (1 : Int) (bcF (cst, cpl, csp, cnp, cstop) came ((now : Nat) : Int) - 1)) from hr_92]
    exact r_i hx hb hr dX8_count_78 hlocks hP hS ⟨(congrArg iN (by rw [if_neg (show ¬ wh = 0 by omega), if_neg (show ¬ wh = 1 by omega), if_neg (show ¬ wh = 2 by omega), if_neg (show ¬ wh = 3 by omega), if_pos (show wh = 4 by omega)])), lsz, lnum, lupp, bc2_68, bs2_69, sz2_70, th2_71, ps2_72, vs2_73, mz2_74, pa2_75, ts2_76, os2_77, rs2_78, (fun k h0 h1 h2 h3 h4 h5 h6 h7 h8 h9 h10 h11 h12 => fr_79 k (by omega) (by omega) (by omega) (by omega) (by omega) (by omega) (by omega) (by omega) (by omega) (by omega)), e_96, e_93, e_94, e_95, e_97, e_98, e_99, e_100, e_101, e_102, e_103, e_104, e_105, q_90⟩
  by_cases sw1_5 : wh = 5
  · refine n_tabIn (v := 5) (off := 78) (tgt := 79) hx hb sw1_5 (by omega) (by omega) dX8_count_1 (by decide) (by decide) (by decide) (by decide) ?_
    refine lv_aload_n hx hb dX8_count_79 rfl (lv_at hl 0 rfl) ?_
    refine lv_aload_n hx hb dX8_count_80 rfl (lv_at hl 0 rfl) ?_
    refine f_get (C := RX8) (T := TX8) (N := 11) hx hb hts (by decide +kernel) hown hK hP 0 (by omega) e0 rfl 2 (by decide) (hts (.fieldLink RX8 72 "KeptMoving" "now" "I") (by decide +kernel)) (fun _ h9 => h9) rfl dX8_count_81 ?_
    refine n_iconst hx hb dX8_count_84 ?_
    refine f_callv (W.runV (As := [.int (iN ((now : Nat) : Int)), .int (iN 1)]) (rest := []) ⟨hx, hb, hml, hown, hts⟩ (c_X8_lineUp l G w came now bc lsz lnum lupp ((now : Nat) : Int) (1 : Int) cst cpl csp cnp cstop e0 e1 e2 e3 hC (by omega) (by omega) (p0)) (cwV 2 hts gX8_count_X8_lineUp rfl rfl rfl (by decide +kernel) ⟨Nat.le_of_ble_eq_true rfl, Nat.le_of_ble_eq_true rfl⟩) (f_preV hP hK 0 (by omega) 7 e0 rfl) rfl rfl hl.1 rfl (lv_room (Nat.le_of_ble_eq_true rfl)) dX8_count_85 ⟨Nat.zero_le _, Nat.zero_le _⟩) hS hAA (fun w_107 H locs q_108 hP hS => ?_)
    obtain ⟨sz2_109, nums2_110, upps2_111, fr_112, e_113, e_114, e_115, q_116⟩ := q_108
    have e_117 : w_107 0 = .inr (7, [.ref (gad G 1), .int (iN ((came : Nat) : Int)), .int (iN ((now : Nat) : Int)), .ref (gad G 2), .ref (gad G 5), .int (iN ((bc : Nat) : Int)), .ref (gad G 6), .ref (gad G 10), .ref (gad G 14), .ref (gad G 15), .ref (gad G 18)]) := (fr_112 0 (by omega) (by omega) (by omega)).trans e0
    have e_118 : w_107 5 = .inl (gI G, 92, .inl (aN bs)) := (fr_112 5 (by omega) (by omega) (by omega)).trans e4
    have e_119 : w_107 6 = .inr (4, [.ref (gad G 7), .ref (gad G 8), .ref (gad G 9), .int (iN ((sz0 : Nat) : Int))]) := (fr_112 6 (by omega) (by omega) (by omega)).trans e5
    have e_120 : w_107 7 = .inl (gZ G, 10, .inl (aN th)) := (fr_112 7 (by omega) (by omega) (by omega)).trans e6
    have e_121 : w_107 8 = .inl (gI G, 10, .inl (aN ps)) := (fr_112 8 (by omega) (by omega) (by omega)).trans e7
    have e_122 : w_107 9 = .inl (gI G, 10, .inl (aN vs)) := (fr_112 9 (by omega) (by omega) (by omega)).trans e8
    have e_123 : w_107 10 = .inr (3, [.ref (gad G 11), .ref (gad G 12), .ref (gad G 13), .int (iN ((mz : Nat) : Int)), .int (iN pa)]) := (fr_112 10 (by omega) (by omega) (by omega)).trans e9
    have e_124 : w_107 11 = .inl (gJ G, 45, .inr (.inl (aJ ts))) := (fr_112 11 (by omega) (by omega) (by omega)).trans e10
    have e_125 : w_107 12 = .inl (gI G, 45, .inl (aN os)) := (fr_112 12 (by omega) (by omega) (by omega)).trans e11
    have e_126 : w_107 13 = .inl (gI G, 45, .inl (aN rs)) := (fr_112 13 (by omega) (by omega) (by omega)).trans e12
    have e_127 : w_107 2 = .inr (2, [.ref (gad G 3), .ref (gad G 4), .int (iN ((sz2_109 : Nat) : Int))]) := e_113
    have e_128 : w_107 3 = .inl (gI G, 10, .inl (aN nums2_110)) := e_114
    have e_129 : w_107 4 = .inl (gI G, 10, .inl (aN upps2_111)) := e_115
    have hC_130 : FAM G w_107 cst cpl csp cnp cstop := hC.keep (fun k h1 h2 => fr_112 k (by omega) (by omega) (by omega))
    refine lv_aload_n hx hb dX8_count_88 rfl (lv_at hl 0 rfl) ?_
    refine f_get (C := RX8) (T := TX8) (N := 11) hx hb hts (by decide +kernel) hown hK hP 0 (by omega) e_117 rfl 3 (by decide) (hts (.fieldLink RX8 19 "KeptMoving" "line" "LKeptMoving$Line;") (by decide +kernel)) (fun _ h9 => h9) rfl dX8_count_89 ?_
    refine f_getN (C := RX3) (T := TX3) (N := 3) hx hb hts (by decide +kernel) hown hK hP 2 (by omega) e_127 rfl 2 (by decide) (hK.nf 2 rfl) (fun _ h9 => h9) rfl dX8_count_92 ?_
    have hoz := ordR_le (upF cst cpl csp cnp (now : Int) 1) (thF cst cstop (now : Int) 1) came
    have hoq := q_116.1
    refine n_iconst hx hb dX8_count_95 ?_
    refine n_isub hx hb dX8_count_96 ?_
    refine n_iconst hx hb dX8_count_97 ?_
    refine n_mmax hx hb (by rw [hml]; exact hl.1.symm) hown (hts (.methodLink RX8 120 Lib.Math.max.name) (by decide +kernel)) (hts (.static Lib.Math.max.name) (by decide +kernel)) (hts (.initialized "java/lang/Math") (by decide +kernel)) (hts (.code Lib.Math.max.name Lib.Math.max.code 2 (some .int)) (by decide +kernel)) (Nat.le_of_ble_eq_true rfl) (Nat.le_of_ble_eq_true rfl) (Nat.zero_le _) (Nat.zero_le _) (by omega) (by omega) (by omega) (by omega) dX8_count_98 ?_
    exact r_i hx hb hr dX8_count_101 hlocks hP hS ⟨(congrArg iN (by rw [if_neg (show ¬ wh = 0 by omega), if_neg (show ¬ wh = 1 by omega), if_neg (show ¬ wh = 2 by omega), if_neg (show ¬ wh = 3 by omega), if_neg (show ¬ wh = 4 by omega), if_pos (show wh = 5 by omega)]; rw [q_116.1])), sz2_109, nums2_110, upps2_111, bc, bs, sz0, th, ps, vs, mz, pa, ts, os, rs, (fun k h0 h1 h2 h3 h4 h5 h6 h7 h8 h9 h10 h11 h12 => fr_112 k (by omega) (by omega) (by omega)), e_117, e_127, e_128, e_129, e_118, e_119, e_120, e_121, e_122, e_123, e_124, e_125, e_126, p3⟩
  refine n_tabOut (tgt := 102) hx hb (by omega) (by omega) dX8_count_1 (by omega) (by decide) ?_
  refine n_ldc (z := (-100002)) hx hb hown (hts (.constant RX8 66 (-100002)) (by decide +kernel)) (by decide) dX8_count_102 ?_
  exact r_i hx hb hr dX8_count_104 hlocks hP hS ⟨(congrArg iN (by rw [if_neg (show ¬ wh = 0 by omega), if_neg (show ¬ wh = 1 by omega), if_neg (show ¬ wh = 2 by omega), if_neg (show ¬ wh = 3 by omega), if_neg (show ¬ wh = 4 by omega), if_neg (show ¬ wh = 5 by omega)])), lsz, lnum, lupp, bc, bs, sz0, th, ps, vs, mz, pa, ts, os, rs, (fun k _ _ _ _ _ _ _ _ _ _ _ _ _ => rfl), e0, e1, e2, e3, e4, e5, e6, e7, e8, e9, e10, e11, e12, p3⟩
