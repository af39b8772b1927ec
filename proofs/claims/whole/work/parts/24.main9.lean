def cwQ (S : FS) (t un lo hi : Int) (i : Nat) : ST := ka t (-(poS S t i)) (-(spS S t i)) (-lo) (ka t (poS S t i) (spS S t i) hi (t * 256 + 1, un, 0))
def gtT (x : Int) (L : List Int) (k : Nat) : Bool := match L[k]? with
  | some z => decide (x / 256 * (z % 256) < z / 256 * (x % 256))
  | none => false
def insT (x : Int) (L : List Int) : List Int := insAt L (spotP (gtT x L) L.length) x
def cwB (S : FS) (t un lo hi : Int) : Nat → List Int
  | 0 => []
  | i + 1 => if thB S t i = true ∧ soB t un (cwQ S t un lo hi i) = true then insT (cwQ S t un lo hi i).1 (cwB S t un lo hi i) else cwB S t un lo hi i
def cwE (S : FS) (t un lo hi : Int) : Nat → List Int
  | 0 => []
  | i + 1 => if thB S t i = true ∧ soB t un (cwQ S t un lo hi i) = true then insT (cwQ S t un lo hi i).2.1 (cwE S t un lo hi i) else cwE S t un lo hi i
def isR (L : List Int) (sz : Nat) (a : Nat → Int) : Prop := sz = L.length ∧ ∀ (k : Nat) (z : Int), L[k]? = some z → a k = z ∧ (-30000000000 ≤ z ∧ z ≤ 30000000000)
theorem isR_0 (a : Nat → Int) : isR [] 0 a := ⟨rfl, fun k z h => by simp at h⟩
theorem isR_bd {L : List Int} {sz : Nat} {a : Nat → Int} (h : isR L sz a) : ∀ k : Nat, k < sz → -30000000000 ≤ a k ∧ a k ≤ 30000000000 := fun k hk => by
  obtain ⟨rfl, h3⟩ := h
  obtain ⟨h4, h5⟩ := h3 k L[k] (List.getElem?_eq_getElem hk)
  rw [h4]
  exact h5
theorem insT_len (x : Int) (L : List Int) : (insT x L).length = L.length + 1 := insAt_len (spot_le _ _)
theorem isR_ins {L : List Int} {sz : Nat} {a : Nat → Int} (h : isR L sz a) {x : Int} (hx : -30000000000 ≤ x ∧ x ≤ 30000000000) : isR (insT x L) (sz + 1) (insF a (spotP (fun k => decide (x / 256 * (a k % 256) < a k / 256 * (x % 256))) sz) sz x) := by
  obtain ⟨rfl, h3⟩ := h
  have hsp : spotP (fun k => decide (x / 256 * (a k % 256) < a k / 256 * (x % 256))) L.length = spotP (gtT x L) L.length := spot_cong fun k hk => by
    unfold gtT
    rw [List.getElem?_eq_getElem hk, (h3 k _ (List.getElem?_eq_getElem hk)).1]
  rw [hsp]
  have hle := spot_le (gtT x L) L.length
  refine ⟨(insAt_len hle).symm, fun k z hz => ?_⟩
  unfold insT at hz
  rw [insAt_get hle] at hz
  generalize spotP (gtT x L) L.length = d at hz hle
  unfold insF
  by_cases h4 : k < d
  · rw [if_pos h4] at hz
    rw [if_pos h4]
    exact h3 k z hz
  · rw [if_neg h4] at hz
    rw [if_neg h4]
    by_cases h5 : k = d
    · rw [if_pos h5] at hz
      cases hz
      rw [if_pos h5]
      exact ⟨rfl, hx⟩
    · rw [if_neg h5] at hz
      have h6 : k - 1 < L.length := (List.getElem?_eq_some_iff.mp hz).1
      rw [if_neg h5, if_pos (by omega)]
      exact h3 (k - 1) z hz
theorem cw_len (S : FS) (t un lo hi : Int) : ∀ i, (cwB S t un lo hi i).length ≤ i ∧ (cwB S t un lo hi i).length = (cwE S t un lo hi i).length
  | 0 => ⟨Nat.le_refl 0, rfl⟩
  | i + 1 => by
    have ih := cw_len S t un lo hi i
    unfold cwB cwE
    split
    · rw [insT_len, insT_len]
      omega
    · omega
theorem isR_step {S : FS} {t un lo hi : Int} {r sz : Nat} {cb ce : Nat → Int} {q : ST} (hb : isR (cwB S t un lo hi r) sz cb) (he : isR (cwE S t un lo hi r) sz ce) (hr : r < 10) (hth : thB S t r = true) (hq : q = cwQ S t un lo hi r) (hok : okQ q) :
    isR (cwB S t un lo hi (r + 1)) (if sz < 10 ∧ (q.2.2 = 0 ∧ ¬ (q.1 = un ∧ t ≠ un / 256) ∧ q.1 / 256 * (q.2.1 % 256) ≤ q.2.1 / 256 * (q.1 % 256)) then sz + 1 else sz) (if sz < 10 ∧ (q.2.2 = 0 ∧ ¬ (q.1 = un ∧ t ≠ un / 256) ∧ q.1 / 256 * (q.2.1 % 256) ≤ q.2.1 / 256 * (q.1 % 256)) then insF cb (spotP (fun k => decide (q.1 / 256 * (cb k % 256) < cb k / 256 * (q.1 % 256))) sz) sz q.1 else cb) ∧
    isR (cwE S t un lo hi (r + 1)) (if sz < 10 ∧ (q.2.2 = 0 ∧ ¬ (q.1 = un ∧ t ≠ un / 256) ∧ q.1 / 256 * (q.2.1 % 256) ≤ q.2.1 / 256 * (q.1 % 256)) then sz + 1 else sz) (if sz < 10 ∧ (q.2.2 = 0 ∧ ¬ (q.1 = un ∧ t ≠ un / 256) ∧ q.1 / 256 * (q.2.1 % 256) ≤ q.2.1 / 256 * (q.1 % 256)) then insF ce (spotP (fun k => decide (q.2.1 / 256 * (ce k % 256) < ce k / 256 * (q.2.1 % 256))) sz) sz q.2.1 else ce) := by
  have hl := cw_len S t un lo hi r
  have hsz : sz < 10 := by rw [hb.1]; omega
  subst hq
  by_cases hc : (cwQ S t un lo hi r).2.2 = 0 ∧ ¬ ((cwQ S t un lo hi r).1 = un ∧ t ≠ un / 256) ∧ (cwQ S t un lo hi r).1 / 256 * ((cwQ S t un lo hi r).2.1 % 256) ≤ (cwQ S t un lo hi r).2.1 / 256 * ((cwQ S t un lo hi r).1 % 256)
  · have e1 : cwB S t un lo hi (r + 1) = insT (cwQ S t un lo hi r).1 (cwB S t un lo hi r) := if_pos ⟨hth, decide_eq_true hc⟩
    have e2 : cwE S t un lo hi (r + 1) = insT (cwQ S t un lo hi r).2.1 (cwE S t un lo hi r) := if_pos ⟨hth, decide_eq_true hc⟩
    rw [if_pos ⟨hsz, hc⟩, if_pos ⟨hsz, hc⟩, if_pos ⟨hsz, hc⟩, e1, e2]
    exact ⟨isR_ins hb hok.1, isR_ins he hok.2.1⟩
  · have e1 : cwB S t un lo hi (r + 1) = cwB S t un lo hi r := if_neg (fun z => hc (of_decide_eq_true z.2))
    have e2 : cwE S t un lo hi (r + 1) = cwE S t un lo hi r := if_neg (fun z => hc (of_decide_eq_true z.2))
    rw [if_neg (fun z => hc z.2), if_neg (fun z => hc z.2), if_neg (fun z => hc z.2), e1, e2]
    exact ⟨hb, he⟩
theorem isR_out {S : FS} {t un lo hi : Int} {r : Nat} (hth : ¬ thB S t r = true) : cwB S t un lo hi (r + 1) = cwB S t un lo hi r ∧ cwE S t un lo hi (r + 1) = cwE S t un lo hi r := ⟨if_neg (fun z => hth z.1), if_neg (fun z => hth z.1)⟩
/-- the sweep over the begins and ends of a crowd -/
def swI (cb : Nat → Int) (sz : Nat) (ed d : Int) : Nat → Nat → Int → Nat × Int
  | 0, g, bg => (g, bg)
  | n + 1, g, bg => if g < sz ∧ cb g / 256 * (ed % 256) ≤ ed / 256 * (cb g % 256) then swI cb sz ed d n (g + 1) (if ((g + 1 : Nat) : Int) = d then cb g else bg) else (g, bg)
def swO (sz : Nat) (cb ce : Nat → Int) (mm : Int) (L : List (Int × Int)) : Nat → Nat × Int × List (Int × Int)
  | 0 => (0, 0, L)
  | x + 1 => ((swI cb sz (ce x) (mm + (x : Int)) (sz - (swO sz cb ce mm L x).1) (swO sz cb ce mm L x).1 (swO sz cb ce mm L x).2.1).1, (swI cb sz (ce x) (mm + (x : Int)) (sz - (swO sz cb ce mm L x).1) (swO sz cb ce mm L x).1 (swO sz cb ce mm L x).2.1).2,
    if (((swI cb sz (ce x) (mm + (x : Int)) (sz - (swO sz cb ce mm L x).1) (swO sz cb ce mm L x).1 (swO sz cb ce mm L x).2.1).1 : Nat) : Int) - (x : Int) = mm then addP ((swI cb sz (ce x) (mm + (x : Int)) (sz - (swO sz cb ce mm L x).1) (swO sz cb ce mm L x).1 (swO sz cb ce mm L x).2.1).2, ce x) (swO sz cb ce mm L x).2.2 else (swO sz cb ce mm L x).2.2)
theorem swI_go {cb : Nat → Int} {sz : Nat} {ed d : Int} {g : Nat} {bg : Int} (hg : g < sz) (h : cb g / 256 * (ed % 256) ≤ ed / 256 * (cb g % 256)) : swI cb sz ed d (sz - g) g bg = swI cb sz ed d (sz - (g + 1)) (g + 1) (if ((g + 1 : Nat) : Int) = d then cb g else bg) := by
  obtain ⟨n, hn⟩ : ∃ n, sz - g = n + 1 := ⟨sz - g - 1, by omega⟩
  rw [hn, show sz - (g + 1) = n by omega]
  exact if_pos ⟨hg, h⟩
theorem swI_end {cb : Nat → Int} {sz : Nat} {ed d : Int} {g : Nat} {bg : Int} (h : sz ≤ g ∨ ¬ cb g / 256 * (ed % 256) ≤ ed / 256 * (cb g % 256)) : swI cb sz ed d (sz - g) g bg = (g, bg) := by
  cases hn : sz - g with
  | zero => rfl
  | succ n => exact if_neg (fun z => by
      rcases h with h | h
      · omega
      · exact h z.2)
theorem swO_s {sz : Nat} {cb ce : Nat → Int} {mm : Int} {L L2 : List (Int × Int)} {x g g2 : Nat} {bg bg2 : Int} (h : swO sz cb ce mm L x = (g, bg, L2)) (h2 : swI cb sz (ce x) (mm + (x : Int)) (sz - g) g bg = (g2, bg2)) : swO sz cb ce mm L (x + 1) = (g2, bg2, if ((g2 : Nat) : Int) - (x : Int) = mm then addP (bg2, ce x) L2 else L2) := by
  unfold swO
  rw [h]
  dsimp only
  rw [h2]
theorem swO_len {sz : Nat} {cb ce : Nat → Int} {mm : Int} {L : List (Int × Int)} : ∀ x, (swO sz cb ce mm L x).2.2.length ≤ L.length + x
  | 0 => Nat.le_refl _
  | x + 1 => by
    have ih := swO_len (sz := sz) (cb := cb) (ce := ce) (mm := mm) (L := L) x
    unfold swO
    dsimp only
    split
    · have := addP_len ((swI cb sz (ce x) (mm + (x : Int)) (sz - (swO sz cb ce mm L x).1) (swO sz cb ce mm L x).1 (swO sz cb ce mm L x).2.1).2, ce x) (swO sz cb ce mm L x).2.2
      omega
    · omega
theorem swI_cong {cb cb' : Nat → Int} {sz : Nat} {ed d : Int} (h : ∀ k, k < sz → cb k = cb' k) : ∀ n g bg, swI cb sz ed d n g bg = swI cb' sz ed d n g bg
  | 0, _, _ => rfl
  | n + 1, g, bg => by
    unfold swI
    by_cases hg : g < sz
    · rw [h g hg, swI_cong h n]
    · rw [if_neg (fun z => hg z.1), if_neg (fun z => hg z.1)]
theorem swO_cong {sz : Nat} {cb cb' ce ce' : Nat → Int} {mm : Int} {L : List (Int × Int)} (h : ∀ k, k < sz → cb k = cb' k) (h2 : ∀ k, k < sz → ce k = ce' k) : ∀ x, x ≤ sz → swO sz cb ce mm L x = swO sz cb' ce' mm L x
  | 0, _ => rfl
  | x + 1, hx => by
    have ih := swO_cong (mm := mm) (L := L) h h2 x (by omega)
    unfold swO
    rw [ih, h2 x (by omega), swI_cong h]

set_option maxHeartbeats 4000000 in
set_option maxRecDepth 100000 in
theorem c_X8_gatherCrowd (l : Launch) (G : GE) (w : WF) (S : FS) (came : Nat) (now : Nat) (bc : Nat) (th : Nat → Int) (ps : Nat → Int) (vs : Nat → Int) (f : Int) (un : Int) (q : ST) (csz : Nat) (cb : Nat → Int) (ce : Nat → Int) (lo : Int) (hi : Int) (e0 : w 0 = .inr (7, [.ref (gad G 1), .int (iN ((came : Nat) : Int)), .int (iN ((now : Nat) : Int)), .ref (gad G 2), .ref (gad G 5), .int (iN ((bc : Nat) : Int)), .ref (gad G 6), .ref (gad G 10), .ref (gad G 14), .ref (gad G 15), .ref (gad G 18)])) (e1 : w 6 = .inr (4, [.ref (gad G 7), .ref (gad G 8), .ref (gad G 9), .int (iN ((came : Nat) : Int))])) (e2 : w 7 = .inl (gZ G, 10, .inl (aN th))) (e3 : w 8 = .inl (gI G, 10, .inl (aN ps))) (e4 : w 9 = .inl (gI G, 10, .inl (aN vs))) (e5 : w 14 = .inr (6, [.int (iN f), .long (jN un), .long (jN q.1), .long (jN q.2.1), .int (iN q.2.2)])) (e6 : w 15 = .inr (1, [.ref (gad G 16), .ref (gad G 17), .int (iN ((csz : Nat) : Int))])) (e7 : w 16 = .inl (gJ G, 10, .inr (.inl (aJ cb)))) (e8 : w 17 = .inl (gJ G, 10, .inr (.inl (aJ ce)))) (p0 : came ≤ 10) (p1 : 0 ≤ f ∧ f ≤ 600) (p2 : isSc S f came th ps vs) (p3 : ∃ z : Int, un = z * 256 + 1 ∧ 0 ≤ z ∧ z ≤ 600) (p4 : ∀ k : Nat, k < came → (-51000 ≤ ps k ∧ ps k ≤ 51000) ∧ (-50 ≤ vs k ∧ vs k ≤ 50)) (p5 : -60000 ≤ lo ∧ lo ≤ 60000) (p6 : -60000 ≤ hi ∧ hi ≤ 60000) (p7 : okQ q) : Met l yX8_gatherCrowd wsX8_gatherCrowd ({ frames := 4, cells := 0, slots := 0, locals := 94 }) (PcG G w [.ref (gad G 0), .int (iN lo), .int (iN hi)]) (QV G (fun w1 => ∃ (q2 : ST) (csz2 : Nat) (cb2 : Nat → Int) (ce2 : Nat → Int), (∀ k : Nat, k ≠ 14 → k ≠ 15 → k ≠ 16 → k ≠ 17 → w1 k = w k) ∧ w1 14 = .inr (6, [.int (iN f), .long (jN un), .long (jN q2.1), .long (jN q2.2.1), .int (iN q2.2.2)]) ∧ w1 15 = .inr (1, [.ref (gad G 16), .ref (gad G 17), .int (iN ((csz2 : Nat) : Int))]) ∧ w1 16 = .inl (gJ G, 10, .inr (.inl (aJ cb2))) ∧ w1 17 = .inl (gJ G, 10, .inr (.inl (aJ ce2))) ∧ (isR (cwB S f un lo hi came) csz2 cb2) ∧ (isR (cwE S f un lo hi came) csz2 ce2) ∧ (okQ q2))) 0 0 (AA G) := by
  refine Met.ofW (cc := cX8_gatherCrowd) (maxL := 4) (ret := none) (by decide) rfl ?_
  intro p e s m args below meth c s₁ B hml hv
  obtain ⟨rfl, hP, hK⟩ := hv
  have hx := B.exec
  have hb := B.bytes
  have hr := B.returns
  have hts := atoms_spec (ws := wsX8_gatherCrowd) B.pre
  have hown : s.vm.findClass RX8 = some m.cls := findClass_of_methodNamed B.named
  have hlocks := B.notSynchronized
  have hS : va_S (AA G) s.heap s.heap [] := va_S.rf
  have hAA : ∀ q, AA G q → AA G q := fun _ h => h
  have hl := lv_entry ([.ref (gad G 0), .int (iN lo), .int (iN hi)]) (n := 4) (Nat.le_of_ble_eq_true rfl)
  rw [lg_entry_eq]
  generalize (lg_sl ([.ref (gad G 0), .int (iN lo), .int (iN hi)]) ++ List.replicate (4 - (lg_sl ([.ref (gad G 0), .int (iN lo), .int (iN hi)])).length) Slot.unset).toArray = ls at hl ⊢
  have hl : lv_has ls 4 [(0, .ref (gad G 0)), (1, .int (iN lo)), (2, .int (iN hi))] := hl
  refine lv_aload_n hx hb dX8_gatherCrowd_0 rfl (lv_at hl 0 rfl) ?_
  refine f_get (C := RX8) (T := TX8) (N := 11) hx hb hts (by decide +kernel) hown hK hP 0 (by omega) e0 rfl 9 (by decide) (hts (.fieldLink RX8 51 "KeptMoving" "crowd" "LKeptMoving$Crowd;") (by decide +kernel)) (fun _ h9 => h9) rfl dX8_gatherCrowd_1 ?_
  refine f_callv (va_Run.run (va_runVN (As := []) (rest := []) ⟨hx, hb, hml, hown, hts⟩ (c_X1_clear l G w csz cb ce e6 e7 e8) ⟨va_cnB 0 hts gX8_gatherCrowd_X1_clear_n289 rfl rfl rfl (hK.nm 58 rfl) (hts (.initialized RX1) (by decide +kernel)) (by decide +kernel) ⟨Nat.le_of_ble_eq_true rfl, Nat.le_of_ble_eq_true rfl⟩, hts (.instanceMethod yX1_clear) (by decide +kernel), hts (.selects RX1 yX1_clear yX1_clear) (by decide +kernel)⟩ (f_preV hP hK 15 (by omega) 1 e6 rfl) rfl rfl hl.1 rfl (lv_room (Nat.le_of_ble_eq_true rfl)) dX8_gatherCrowd_4 ⟨Nat.zero_le _, Nat.zero_le _⟩)) hS hAA (fun w_1 H locs q_2 hP hS => ?_)
  obtain ⟨fr_3, e_4⟩ := q_2
  have e_5 : w_1 0 = .inr (7, [.ref (gad G 1), .int (iN ((came : Nat) : Int)), .int (iN ((now : Nat) : Int)), .ref (gad G 2), .ref (gad G 5), .int (iN ((bc : Nat) : Int)), .ref (gad G 6), .ref (gad G 10), .ref (gad G 14), .ref (gad G 15), .ref (gad G 18)]) := (fr_3 0 (by omega)).trans e0
  have e_6 : w_1 6 = .inr (4, [.ref (gad G 7), .ref (gad G 8), .ref (gad G 9), .int (iN ((came : Nat) : Int))]) := (fr_3 6 (by omega)).trans e1
  have e_7 : w_1 7 = .inl (gZ G, 10, .inl (aN th)) := (fr_3 7 (by omega)).trans e2
  have e_8 : w_1 8 = .inl (gI G, 10, .inl (aN ps)) := (fr_3 8 (by omega)).trans e3
  have e_9 : w_1 9 = .inl (gI G, 10, .inl (aN vs)) := (fr_3 9 (by omega)).trans e4
  have e_10 : w_1 14 = .inr (6, [.int (iN f), .long (jN un), .long (jN q.1), .long (jN q.2.1), .int (iN q.2.2)]) := (fr_3 14 (by omega)).trans e5
  have e_11 : w_1 16 = .inl (gJ G, 10, .inr (.inl (aJ cb))) := (fr_3 16 (by omega)).trans e7
  have e_12 : w_1 17 = .inl (gJ G, 10, .inr (.inl (aJ ce))) := (fr_3 17 (by omega)).trans e8
  have e_13 : w_1 15 = .inr (1, [.ref (gad G 16), .ref (gad G 17), .int (iN 0)]) := e_4
  refine n_iconst hx hb dX8_gatherCrowd_7 ?_
  refine lv_istore_n (lv' := [(3, .int (iN 0)), (0, .ref (gad G 0)), (1, .int (iN lo)), (2, .int (iN hi))]) hx hb dX8_gatherCrowd_8 rfl hl (by decide) rfl (fun ls hl => ?_)
  have K9 : ∀ (N : Nat) (r : Nat) (q2 : ST) (csz2 : Nat) (cb2 : Nat → Int) (ce2 : Nat → Int) (w2 : WF) (H : Heap) (locs : List Loc) (ls : Array Slot), (r ≤ came) → (isR (cwB S f un lo hi r) csz2 cb2) → (isR (cwE S f un lo hi r) csz2 ce2) → (okQ q2) → 11 - r < N → w2 14 = .inr (6, [.int (iN f), .long (jN un), .long (jN q2.1), .long (jN q2.2.1), .int (iN q2.2.2)]) → w2 15 = .inr (1, [.ref (gad G 16), .ref (gad G 17), .int (iN ((csz2 : Nat) : Int))]) → w2 16 = .inl (gJ G, 10, .inr (.inl (aJ cb2))) → w2 17 = .inl (gJ G, 10, .inr (.inl (aJ ce2))) → (∀ k : Nat, k ≠ 14 → k ≠ 15 → k ≠ 16 → k ≠ 17 → w2 k = w k) → PW G w2 H → va_S (AA G) s.heap H locs → lv_has ls 4 [(0, .ref (gad G 0)), (1, .int (iN lo)), (2, .int (iN hi)), (3, .int (iN ((r : Nat) : Int)))] → W p l e (headSpec wsX8_gatherCrowd ({ frames := 4, cells := 0, slots := 0, locals := 94 })).room s m (([.ref (gad G 0), .int (iN lo), .int (iN hi)] : List Value).toArray) below meth c H locs 0 0 (MQ below (QV G (fun w1 => ∃ (q2 : ST) (csz2 : Nat) (cb2 : Nat → Int) (ce2 : Nat → Int), (∀ k : Nat, k ≠ 14 → k ≠ 15 → k ≠ 16 → k ≠ 17 → w1 k = w k) ∧ w1 14 = .inr (6, [.int (iN f), .long (jN un), .long (jN q2.1), .long (jN q2.2.1), .int (iN q2.2.2)]) ∧ w1 15 = .inr (1, [.ref (gad G 16), .ref (gad G 17), .int (iN ((csz2 : Nat) : Int))]) ∧ w1 16 = .inl (gJ G, 10, .inr (.inl (aJ cb2))) ∧ w1 17 = .inl (gJ G, 10, .inr (.inl (aJ ce2))) ∧ (isR (cwB S f un lo hi came) csz2 cb2) ∧ (isR (cwE S f un lo hi came) csz2 ce2) ∧ (okQ q2))) (([.ref (gad G 0), .int (iN lo), .int (iN hi)] : List Value).toArray) s 0 0 (AA G)) (F0 m 9 ls []) := by
    intro N
    induction N with
    | zero =>
      intros
      exfalso
      omega
    | succ N ih9 =>
      intro r q2 csz2 cb2 ce2 w2 H locs ls i9_0 i9_1 i9_2 i9_3 hN9 f9_0 f9_1 f9_2 f9_3 hfr9 hP hS hl
      have e_14 : w2 0 = .inr (7, [.ref (gad G 1), .int (iN ((came : Nat) : Int)), .int (iN ((now : Nat) : Int)), .ref (gad G 2), .ref (gad G 5), .int (iN ((bc : Nat) : Int)), .ref (gad G 6), .ref (gad G 10), .ref (gad G 14), .ref (gad G 15), .ref (gad G 18)]) := by rw [hfr9 0 (by omega) (by omega) (by omega) (by omega)]; exact e0
      have e_15 : w2 6 = .inr (4, [.ref (gad G 7), .ref (gad G 8), .ref (gad G 9), .int (iN ((came : Nat) : Int))]) := by rw [hfr9 6 (by omega) (by omega) (by omega) (by omega)]; exact e1
      have e_16 : w2 7 = .inl (gZ G, 10, .inl (aN th)) := by rw [hfr9 7 (by omega) (by omega) (by omega) (by omega)]; exact e2
      have e_17 : w2 8 = .inl (gI G, 10, .inl (aN ps)) := by rw [hfr9 8 (by omega) (by omega) (by omega) (by omega)]; exact e3
      have e_18 : w2 9 = .inl (gI G, 10, .inl (aN vs)) := by rw [hfr9 9 (by omega) (by omega) (by omega) (by omega)]; exact e4
      refine lv_iload_n hx hb dX8_gatherCrowd_9 rfl (lv_at hl 3 rfl) ?_
      refine lv_aload_n hx hb dX8_gatherCrowd_10 rfl (lv_at hl 0 rfl) ?_
      refine f_get (C := RX8) (T := TX8) (N := 11) hx hb hts (by decide +kernel) hown hK hP 0 (by omega) e_14 rfl 1 (by decide) (hts (.fieldLink RX8 67 "KeptMoving" "came" "I") (by decide +kernel)) (fun _ h9 => h9) rfl dX8_gatherCrowd_11 ?_
      refine n_icmp_ge (tgt := 107) hx hb dX8_gatherCrowd_14 (by decide) (by omega) (by omega) (by omega) (by omega) (fun c_14 => ?_) (fun c_14 => ?_)
      · exact r_v hx hb hr dX8_gatherCrowd_107 hlocks hP hS (⟨q2, csz2, cb2, ce2, (fun k h0 h1 h2 h3 => hfr9 k (by omega) (by omega) (by omega) (by omega)), f9_0, f9_1, f9_2, f9_3, (by rw [show came = r by omega]; exact i9_1), (by rw [show came = r by omega]; exact i9_2), i9_3⟩)
      · refine lv_aload_n hx hb dX8_gatherCrowd_17 rfl (lv_at hl 0 rfl) ?_
        refine f_get (C := RX8) (T := TX8) (N := 11) hx hb hts (by decide +kernel) hown hK hP 0 (by omega) e_14 rfl 6 (by decide) (hts (.fieldLink RX8 30 "KeptMoving" "scene" "LKeptMoving$Scene;") (by decide +kernel)) (fun _ h9 => h9) rfl dX8_gatherCrowd_18 ?_
        refine lv_iload_n hx hb dX8_gatherCrowd_21 rfl (lv_at hl 3 rfl) ?_
        refine vp_callSi (va_Run.run (va_runVN (As := [.int (iN ((r : Nat) : Int))]) (rest := []) ⟨hx, hb, hml, hown, hts⟩ (c_X5_has l G w2 came th ps vs r e_15 e_16 e_17 e_18 (by omega) (by omega) (sc_01 p2 (by omega))) ⟨va_cnB 1 hts gX8_gatherCrowd_X5_has_n243 rfl rfl rfl (hK.nm 26 rfl) (hts (.initialized RX5) (by decide +kernel)) (by decide +kernel) ⟨Nat.le_of_ble_eq_true rfl, Nat.le_of_ble_eq_true rfl⟩, hts (.instanceMethod yX5_has) (by decide +kernel), hts (.selects RX5 yX5_has yX5_has) (by decide +kernel)⟩ (f_preV hP hK 6 (by omega) 4 e_15 rfl) rfl rfl hl.1 rfl (lv_room (Nat.le_of_ble_eq_true rfl)) dX8_gatherCrowd_22 ⟨Nat.zero_le _, Nat.zero_le _⟩)) (fun r_19 hr_19 => ?_)
        rw [show r_19 = iN (if (th r ≠ 0) then 1 else 0) from hr_19]
        refine n_ifb_eq (tgt := 101) hx hb dX8_gatherCrowd_25 (by decide) (fun c_25 => ?_) (fun c_25 => ?_)
        · refine lv_iinc (v := iN ((r + 1 : Nat) : Int)) (lv' := [(3, .int (iN ((r + 1 : Nat) : Int))), (0, .ref (gad G 0)), (1, .int (iN lo)), (2, .int (iN hi))]) hx hb dX8_gatherCrowd_101 hl (k := 3) rfl (iN_incN _) (by decide) rfl (fun ls hl => ?_)
          refine lv_goto (tgt := 9) hx hb dX8_gatherCrowd_104 (by decide) ?_
          exact ih9 (r + 1) (q2) (csz2) (cb2) (ce2) w2 _ _ _ (by omega) (by rw [(isR_out (sc_no p2 (by omega) c_25)).1]; exact i9_1) (by rw [(isR_out (sc_no p2 (by omega) c_25)).2]; exact i9_2) (i9_3) (by omega) (f9_0) (f9_1) (f9_2) (f9_3) (fun k h0 h1 h2 h3 => hfr9 k (by omega) (by omega) (by omega) (by omega)) hP hS (lv_sub hl [1, 2, 3, 0] rfl)
        · refine lv_aload_n hx hb dX8_gatherCrowd_28 rfl (lv_at hl 0 rfl) ?_
          refine f_get (C := RX8) (T := TX8) (N := 11) hx hb hts (by decide +kernel) hown hK hP 0 (by omega) e_14 rfl 8 (by decide) (hts (.fieldLink RX8 44 "KeptMoving" "stretch" "LKeptMoving$Stretch;") (by decide +kernel)) (fun _ h9 => h9) rfl dX8_gatherCrowd_29 ?_
          refine f_callv (va_Run.run (va_runVN (As := []) (rest := []) ⟨hx, hb, hml, hown, hts⟩ (c_X7_keepAll l G w2 f un q2.1 q2.2.1 q2.2.2 f9_0 (by omega)) ⟨va_cnB 0 hts gX8_gatherCrowd_X7_keepAll_n290 rfl rfl rfl (hK.nm 59 rfl) (hts (.initialized RX7) (by decide +kernel)) (by decide +kernel) ⟨Nat.le_of_ble_eq_true rfl, Nat.le_of_ble_eq_true rfl⟩, hts (.instanceMethod yX7_keepAll) (by decide +kernel), hts (.selects RX7 yX7_keepAll yX7_keepAll) (by decide +kernel)⟩ (f_preV hP hK 14 (by omega) 6 f9_0 rfl) rfl rfl hl.1 rfl (lv_room (Nat.le_of_ble_eq_true rfl)) dX8_gatherCrowd_32 ⟨Nat.zero_le _, Nat.zero_le _⟩)) hS hAA (fun w_20 H locs q_21 hP hS => ?_)
          obtain ⟨fr_22, e_23⟩ := q_21
          have e_24 : w_20 15 = .inr (1, [.ref (gad G 16), .ref (gad G 17), .int (iN ((csz2 : Nat) : Int))]) := (fr_22 15 (by omega)).trans f9_1
          have e_25 : w_20 16 = .inl (gJ G, 10, .inr (.inl (aJ cb2))) := (fr_22 16 (by omega)).trans f9_2
          have e_26 : w_20 17 = .inl (gJ G, 10, .inr (.inl (aJ ce2))) := (fr_22 17 (by omega)).trans f9_3
          have e_27 : w_20 0 = .inr (7, [.ref (gad G 1), .int (iN ((came : Nat) : Int)), .int (iN ((now : Nat) : Int)), .ref (gad G 2), .ref (gad G 5), .int (iN ((bc : Nat) : Int)), .ref (gad G 6), .ref (gad G 10), .ref (gad G 14), .ref (gad G 15), .ref (gad G 18)]) := (fr_22 0 (by omega)).trans e_14
          have e_28 : w_20 6 = .inr (4, [.ref (gad G 7), .ref (gad G 8), .ref (gad G 9), .int (iN ((came : Nat) : Int))]) := (fr_22 6 (by omega)).trans e_15
          have e_29 : w_20 7 = .inl (gZ G, 10, .inl (aN th)) := (fr_22 7 (by omega)).trans e_16
          have e_30 : w_20 8 = .inl (gI G, 10, .inl (aN ps)) := (fr_22 8 (by omega)).trans e_17
          have e_31 : w_20 9 = .inl (gI G, 10, .inl (aN vs)) := (fr_22 9 (by omega)).trans e_18
          have e_32 : w_20 14 = .inr (6, [.int (iN f), .long (jN un), .long (jN (f * 256 + 1)), .long (jN un), .int (iN 0)]) := e_23
          have r1 := p4 r (by omega)
          have hq0 : okQ (f * 256 + 1, un, 0) := q0_ok p1 p3
          have hq1 := ka_ok (f := f) (va := ps r) (gr := vs r) (bd := hi) hq0 p1 (by omega) (by omega) (by omega)
          have hq2 := ka_ok (f := f) (va := -(ps r)) (gr := -(vs r)) (bd := -lo) hq1 p1 (by omega) (by omega) (by omega)
          have hcl := cw_len S f un lo hi r
          have hcz := i9_1.1
          refine lv_aload_n hx hb dX8_gatherCrowd_35 rfl (lv_at hl 0 rfl) ?_
          refine f_get (C := RX8) (T := TX8) (N := 11) hx hb hts (by decide +kernel) hown hK hP 0 (by omega) e_27 rfl 8 (by decide) (hts (.fieldLink RX8 44 "KeptMoving" "stretch" "LKeptMoving$Stretch;") (by decide +kernel)) (fun _ h9 => h9) rfl dX8_gatherCrowd_36 ?_
          refine lv_aload_n hx hb dX8_gatherCrowd_39 rfl (lv_at hl 0 rfl) ?_
          refine f_get (C := RX8) (T := TX8) (N := 11) hx hb hts (by decide +kernel) hown hK hP 0 (by omega) e_27 rfl 6 (by decide) (hts (.fieldLink RX8 30 "KeptMoving" "scene" "LKeptMoving$Scene;") (by decide +kernel)) (fun _ h9 => h9) rfl dX8_gatherCrowd_40 ?_
          refine f_getN (C := RX5) (T := TX5) (N := 4) hx hb hts (by decide +kernel) hown hK hP 6 (by omega) e_28 rfl 1 (by decide) (hK.nf 3 rfl) (fun _ h9 => h9) rfl dX8_gatherCrowd_43 ?_
          refine lv_iload_n hx hb dX8_gatherCrowd_46 rfl (lv_at hl 3 rfl) ?_
          refine n_iald hx hb hK hP 8 (by omega) e_30 r rfl (by omega) (by decide) dX8_gatherCrowd_47 ?_
          refine lv_aload_n hx hb dX8_gatherCrowd_48 rfl (lv_at hl 0 rfl) ?_
          refine f_get (C := RX8) (T := TX8) (N := 11) hx hb hts (by decide +kernel) hown hK hP 0 (by omega) e_27 rfl 6 (by decide) (hts (.fieldLink RX8 30 "KeptMoving" "scene" "LKeptMoving$Scene;") (by decide +kernel)) (fun _ h9 => h9) rfl dX8_gatherCrowd_49 ?_
          refine f_getN (C := RX5) (T := TX5) (N := 4) hx hb hts (by decide +kernel) hown hK hP 6 (by omega) e_28 rfl 2 (by decide) (hK.nf 4 rfl) (fun _ h9 => h9) rfl dX8_gatherCrowd_52 ?_
          refine lv_iload_n hx hb dX8_gatherCrowd_55 rfl (lv_at hl 3 rfl) ?_
          refine n_iald hx hb hK hP 9 (by omega) e_31 r rfl (by omega) (by decide) dX8_gatherCrowd_56 ?_
          refine lv_iload_n hx hb dX8_gatherCrowd_57 rfl (lv_at hl 2 rfl) ?_
          refine f_callv (va_Run.run (va_runVN (As := [.int (iN (ps r)), .int (iN (vs r)), .int (iN hi)]) (rest := []) ⟨hx, hb, hml, hown, hts⟩ (c_X7_keepAtMost l G w_20 f un (f * 256 + 1) un (0 : Int) (ps r) (vs r) hi e_32 (by omega) (ka_p1 p1 (by omega) (by omega) (by omega)) (ka_p2 p1 (by omega) (by omega) (by omega)) (hq0.1) (hq0.2.1) (by omega) (by omega)) ⟨va_cnB 3 hts gX8_gatherCrowd_X7_keepAtMost_n286 rfl rfl rfl (hK.nm 48 rfl) (hts (.initialized RX7) (by decide +kernel)) (by decide +kernel) ⟨Nat.le_of_ble_eq_true rfl, Nat.le_of_ble_eq_true rfl⟩, hts (.instanceMethod yX7_keepAtMost) (by decide +kernel), hts (.selects RX7 yX7_keepAtMost yX7_keepAtMost) (by decide +kernel)⟩ (f_preV hP hK 14 (by omega) 6 e_32 rfl) rfl rfl hl.1 rfl (lv_room (Nat.le_of_ble_eq_true rfl)) dX8_gatherCrowd_58 ⟨Nat.zero_le _, Nat.zero_le _⟩)) hS hAA (fun w_33 H locs q_34 hP hS => ?_)
          obtain ⟨fr_35, e_36⟩ := q_34
          have e_37 : w_33 15 = .inr (1, [.ref (gad G 16), .ref (gad G 17), .int (iN ((csz2 : Nat) : Int))]) := (fr_35 15 (by omega)).trans e_24
          have e_38 : w_33 16 = .inl (gJ G, 10, .inr (.inl (aJ cb2))) := (fr_35 16 (by omega)).trans e_25
          have e_39 : w_33 17 = .inl (gJ G, 10, .inr (.inl (aJ ce2))) := (fr_35 17 (by omega)).trans e_26
          have e_40 : w_33 0 = .inr (7, [.ref (gad G 1), .int (iN ((came : Nat) : Int)), .int (iN ((now : Nat) : Int)), .ref (gad G 2), .ref (gad G 5), .int (iN ((bc : Nat) : Int)), .ref (gad G 6), .ref (gad G 10), .ref (gad G 14), .ref (gad G 15), .ref (gad G 18)]) := (fr_35 0 (by omega)).trans e_27
          have e_41 : w_33 6 = .inr (4, [.ref (gad G 7), .ref (gad G 8), .ref (gad G 9), .int (iN ((came : Nat) : Int))]) := (fr_35 6 (by omega)).trans e_28
          have e_42 : w_33 7 = .inl (gZ G, 10, .inl (aN th)) := (fr_35 7 (by omega)).trans e_29
          have e_43 : w_33 8 = .inl (gI G, 10, .inl (aN ps)) := (fr_35 8 (by omega)).trans e_30
          have e_44 : w_33 9 = .inl (gI G, 10, .inl (aN vs)) := (fr_35 9 (by omega)).trans e_31
          have e_45 : w_33 14 = .inr (6, [.int (iN f), .long (jN un), .long (jN ((ka f (ps r) (vs r) hi ((f * 256 + 1), un, (0 : Int))).1)), .long (jN ((ka f (ps r) (vs r) hi ((f * 256 + 1), un, (0 : Int))).2.1)), .int (iN ((ka f (ps r) (vs r) hi ((f * 256 + 1), un, (0 : Int))).2.2))]) := e_36
          refine lv_aload_n hx hb dX8_gatherCrowd_61 rfl (lv_at hl 0 rfl) ?_
          refine f_get (C := RX8) (T := TX8) (N := 11) hx hb hts (by decide +kernel) hown hK hP 0 (by omega) e_40 rfl 8 (by decide) (hts (.fieldLink RX8 44 "KeptMoving" "stretch" "LKeptMoving$Stretch;") (by decide +kernel)) (fun _ h9 => h9) rfl dX8_gatherCrowd_62 ?_
          refine lv_aload_n hx hb dX8_gatherCrowd_65 rfl (lv_at hl 0 rfl) ?_
          refine f_get (C := RX8) (T := TX8) (N := 11) hx hb hts (by decide +kernel) hown hK hP 0 (by omega) e_40 rfl 6 (by decide) (hts (.fieldLink RX8 30 "KeptMoving" "scene" "LKeptMoving$Scene;") (by decide +kernel)) (fun _ h9 => h9) rfl dX8_gatherCrowd_66 ?_
          refine f_getN (C := RX5) (T := TX5) (N := 4) hx hb hts (by decide +kernel) hown hK hP 6 (by omega) e_41 rfl 1 (by decide) (hK.nf 3 rfl) (fun _ h9 => h9) rfl dX8_gatherCrowd_69 ?_
          refine lv_iload_n hx hb dX8_gatherCrowd_72 rfl (lv_at hl 3 rfl) ?_
          refine n_iald hx hb hK hP 8 (by omega) e_43 r rfl (by omega) (by decide) dX8_gatherCrowd_73 ?_
          refine n_ineg hx hb dX8_gatherCrowd_74 ?_
          refine lv_aload_n hx hb dX8_gatherCrowd_75 rfl (lv_at hl 0 rfl) ?_
          refine f_get (C := RX8) (T := TX8) (N := 11) hx hb hts (by decide +kernel) hown hK hP 0 (by omega) e_40 rfl 6 (by decide) (hts (.fieldLink RX8 30 "KeptMoving" "scene" "LKeptMoving$Scene;") (by decide +kernel)) (fun _ h9 => h9) rfl dX8_gatherCrowd_76 ?_
          refine f_getN (C := RX5) (T := TX5) (N := 4) hx hb hts (by decide +kernel) hown hK hP 6 (by omega) e_41 rfl 2 (by decide) (hK.nf 4 rfl) (fun _ h9 => h9) rfl dX8_gatherCrowd_79 ?_
          refine lv_iload_n hx hb dX8_gatherCrowd_82 rfl (lv_at hl 3 rfl) ?_
          refine n_iald hx hb hK hP 9 (by omega) e_44 r rfl (by omega) (by decide) dX8_gatherCrowd_83 ?_
          refine n_ineg hx hb dX8_gatherCrowd_84 ?_
          refine lv_iload_n hx hb dX8_gatherCrowd_85 rfl (lv_at hl 1 rfl) ?_
          refine n_ineg hx hb dX8_gatherCrowd_86 ?_
          refine f_callv (va_Run.run (va_runVN (As := [.int (iN (-(ps r))), .int (iN (-(vs r))), .int (iN (-lo))]) (rest := []) ⟨hx, hb, hml, hown, hts⟩ (c_X7_keepAtMost l G w_33 f un ((ka f (ps r) (vs r) hi ((f * 256 + 1), un, (0 : Int))).1) ((ka f (ps r) (vs r) hi ((f * 256 + 1), un, (0 : Int))).2.1) ((ka f (ps r) (vs r) hi ((f * 256 + 1), un, (0 : Int))).2.2) (-(ps r)) (-(vs r)) (-lo) e_45 (by omega) (ka_p1 p1 (by omega) (by omega) (by omega)) (ka_p2 p1 (by omega) (by omega) (by omega)) (hq1.1) (hq1.2.1) (by omega) (by omega)) ⟨va_cnB 3 hts gX8_gatherCrowd_X7_keepAtMost_n286 rfl rfl rfl (hK.nm 48 rfl) (hts (.initialized RX7) (by decide +kernel)) (by decide +kernel) ⟨Nat.le_of_ble_eq_true rfl, Nat.le_of_ble_eq_true rfl⟩, hts (.instanceMethod yX7_keepAtMost) (by decide +kernel), hts (.selects RX7 yX7_keepAtMost yX7_keepAtMost) (by decide +kernel)⟩ (f_preV hP hK 14 (by omega) 6 e_45 rfl) rfl rfl hl.1 rfl (lv_room (Nat.le_of_ble_eq_true rfl)) dX8_gatherCrowd_87 ⟨Nat.zero_le _, Nat.zero_le _⟩)) hS hAA (fun w_46 H locs q_47 hP hS => ?_)
          obtain ⟨fr_48, e_49⟩ := q_47
          have e_50 : w_46 15 = .inr (1, [.ref (gad G 16), .ref (gad G 17), .int (iN ((csz2 : Nat) : Int))]) := (fr_48 15 (by omega)).trans e_37
          have e_51 : w_46 16 = .inl (gJ G, 10, .inr (.inl (aJ cb2))) := (fr_48 16 (by omega)).trans e_38
          have e_52 : w_46 17 = .inl (gJ G, 10, .inr (.inl (aJ ce2))) := (fr_48 17 (by omega)).trans e_39
          have e_53 : w_46 0 = .inr (7, [.ref (gad G 1), .int (iN ((came : Nat) : Int)), .int (iN ((now : Nat) : Int)), .ref (gad G 2), .ref (gad G 5), .int (iN ((bc : Nat) : Int)), .ref (gad G 6), .ref (gad G 10), .ref (gad G 14), .ref (gad G 15), .ref (gad G 18)]) := (fr_48 0 (by omega)).trans e_40
          have e_54 : w_46 6 = .inr (4, [.ref (gad G 7), .ref (gad G 8), .ref (gad G 9), .int (iN ((came : Nat) : Int))]) := (fr_48 6 (by omega)).trans e_41
          have e_55 : w_46 7 = .inl (gZ G, 10, .inl (aN th)) := (fr_48 7 (by omega)).trans e_42
          have e_56 : w_46 8 = .inl (gI G, 10, .inl (aN ps)) := (fr_48 8 (by omega)).trans e_43
          have e_57 : w_46 9 = .inl (gI G, 10, .inl (aN vs)) := (fr_48 9 (by omega)).trans e_44
          have e_58 : w_46 14 = .inr (6, [.int (iN f), .long (jN un), .long (jN ((ka f (-(ps r)) (-(vs r)) (-lo) (((ka f (ps r) (vs r) hi ((f * 256 + 1), un, (0 : Int))).1), ((ka f (ps r) (vs r) hi ((f * 256 + 1), un, (0 : Int))).2.1), ((ka f (ps r) (vs r) hi ((f * 256 + 1), un, (0 : Int))).2.2))).1)), .long (jN ((ka f (-(ps r)) (-(vs r)) (-lo) (((ka f (ps r) (vs r) hi ((f * 256 + 1), un, (0 : Int))).1), ((ka f (ps r) (vs r) hi ((f * 256 + 1), un, (0 : Int))).2.1), ((ka f (ps r) (vs r) hi ((f * 256 + 1), un, (0 : Int))).2.2))).2.1)), .int (iN ((ka f (-(ps r)) (-(vs r)) (-lo) (((ka f (ps r) (vs r) hi ((f * 256 + 1), un, (0 : Int))).1), ((ka f (ps r) (vs r) hi ((f * 256 + 1), un, (0 : Int))).2.1), ((ka f (ps r) (vs r) hi ((f * 256 + 1), un, (0 : Int))).2.2))).2.2))]) := e_49
          refine lv_aload_n hx hb dX8_gatherCrowd_90 rfl (lv_at hl 0 rfl) ?_
          refine f_get (C := RX8) (T := TX8) (N := 11) hx hb hts (by decide +kernel) hown hK hP 0 (by omega) e_53 rfl 9 (by decide) (hts (.fieldLink RX8 51 "KeptMoving" "crowd" "LKeptMoving$Crowd;") (by decide +kernel)) (fun _ h9 => h9) rfl dX8_gatherCrowd_91 ?_
          refine lv_aload_n hx hb dX8_gatherCrowd_94 rfl (lv_at hl 0 rfl) ?_
          refine f_get (C := RX8) (T := TX8) (N := 11) hx hb hts (by decide +kernel) hown hK hP 0 (by omega) e_53 rfl 8 (by decide) (hts (.fieldLink RX8 44 "KeptMoving" "stretch" "LKeptMoving$Stretch;") (by decide +kernel)) (fun _ h9 => h9) rfl dX8_gatherCrowd_95 ?_
          refine f_callv (va_Run.run (va_runVN (As := [.ref (gad G 14)]) (rest := []) ⟨hx, hb, hml, hown, hts⟩ (c_X1_addIfSo l G w_46 csz2 cb2 ce2 f un ((ka f (-(ps r)) (-(vs r)) (-lo) (((ka f (ps r) (vs r) hi ((f * 256 + 1), un, (0 : Int))).1), ((ka f (ps r) (vs r) hi ((f * 256 + 1), un, (0 : Int))).2.1), ((ka f (ps r) (vs r) hi ((f * 256 + 1), un, (0 : Int))).2.2))).1) ((ka f (-(ps r)) (-(vs r)) (-lo) (((ka f (ps r) (vs r) hi ((f * 256 + 1), un, (0 : Int))).1), ((ka f (ps r) (vs r) hi ((f * 256 + 1), un, (0 : Int))).2.1), ((ka f (ps r) (vs r) hi ((f * 256 + 1), un, (0 : Int))).2.2))).2.1) ((ka f (-(ps r)) (-(vs r)) (-lo) (((ka f (ps r) (vs r) hi ((f * 256 + 1), un, (0 : Int))).1), ((ka f (ps r) (vs r) hi ((f * 256 + 1), un, (0 : Int))).2.1), ((ka f (ps r) (vs r) hi ((f * 256 + 1), un, (0 : Int))).2.2))).2.2) e_50 e_51 e_52 e_58 (hq2.2.2) (by omega) (by obtain ⟨z, hz, h8, h9⟩ := p3; omega) (hq2.1) (hq2.2.1) (isR_bd i9_1) (isR_bd i9_2) (by omega)) ⟨va_cnB 1 hts gX8_gatherCrowd_X1_addIfSo_n299 rfl rfl rfl (hK.nm 60 rfl) (hts (.initialized RX1) (by decide +kernel)) (by decide +kernel) ⟨Nat.le_of_ble_eq_true rfl, Nat.le_of_ble_eq_true rfl⟩, hts (.instanceMethod yX1_addIfSo) (by decide +kernel), hts (.selects RX1 yX1_addIfSo yX1_addIfSo) (by decide +kernel)⟩ (f_preV hP hK 15 (by omega) 1 e_50 rfl) rfl rfl hl.1 rfl (lv_room (Nat.le_of_ble_eq_true rfl)) dX8_gatherCrowd_98 ⟨Nat.zero_le _, Nat.zero_le _⟩)) hS hAA (fun w_59 H locs q_60 hP hS => ?_)
          obtain ⟨fr_61, e_62, e_63, e_64⟩ := q_60
          have e_65 : w_59 0 = .inr (7, [.ref (gad G 1), .int (iN ((came : Nat) : Int)), .int (iN ((now : Nat) : Int)), .ref (gad G 2), .ref (gad G 5), .int (iN ((bc : Nat) : Int)), .ref (gad G 6), .ref (gad G 10), .ref (gad G 14), .ref (gad G 15), .ref (gad G 18)]) := (fr_61 0 (by omega) (by omega) (by omega)).trans e_53
          have e_66 : w_59 6 = .inr (4, [.ref (gad G 7), .ref (gad G 8), .ref (gad G 9), .int (iN ((came : Nat) : Int))]) := (fr_61 6 (by omega) (by omega) (by omega)).trans e_54
          have e_67 : w_59 7 = .inl (gZ G, 10, .inl (aN th)) := (fr_61 7 (by omega) (by omega) (by omega)).trans e_55
          have e_68 : w_59 8 = .inl (gI G, 10, .inl (aN ps)) := (fr_61 8 (by omega) (by omega) (by omega)).trans e_56
          have e_69 : w_59 9 = .inl (gI G, 10, .inl (aN vs)) := (fr_61 9 (by omega) (by omega) (by omega)).trans e_57
          have e_70 : w_59 14 = .inr (6, [.int (iN f), .long (jN un), .long (jN ((ka f (-(ps r)) (-(vs r)) (-lo) (((ka f (ps r) (vs r) hi ((f * 256 + 1), un, (0 : Int))).1), ((ka f (ps r) (vs r) hi ((f * 256 + 1), un, (0 : Int))).2.1), ((ka f (ps r) (vs r) hi ((f * 256 + 1), un, (0 : Int))).2.2))).1)), .long (jN ((ka f (-(ps r)) (-(vs r)) (-lo) (((ka f (ps r) (vs r) hi ((f * 256 + 1), un, (0 : Int))).1), ((ka f (ps r) (vs r) hi ((f * 256 + 1), un, (0 : Int))).2.1), ((ka f (ps r) (vs r) hi ((f * 256 + 1), un, (0 : Int))).2.2))).2.1)), .int (iN ((ka f (-(ps r)) (-(vs r)) (-lo) (((ka f (ps r) (vs r) hi ((f * 256 + 1), un, (0 : Int))).1), ((ka f (ps r) (vs r) hi ((f * 256 + 1), un, (0 : Int))).2.1), ((ka f (ps r) (vs r) hi ((f * 256 + 1), un, (0 : Int))).2.2))).2.2))]) := (fr_61 14 (by omega) (by omega) (by omega)).trans e_58
          have e_71 : w_59 15 = .inr (1, [.ref (gad G 16), .ref (gad G 17), .int (iN ((if csz2 < 10 ∧ (((ka f (-(ps r)) (-(vs r)) (-lo) (((ka f (ps r) (vs r) hi ((f * 256 + 1), un, (0 : Int))).1), ((ka f (ps r) (vs r) hi ((f * 256 + 1), un, (0 : Int))).2.1), ((ka f (ps r) (vs r) hi ((f * 256 + 1), un, (0 : Int))).2.2))).2.2) = 0 ∧ ¬ (((ka f (-(ps r)) (-(vs r)) (-lo) (((ka f (ps r) (vs r) hi ((f * 256 + 1), un, (0 : Int))).1), ((ka f (ps r) (vs r) hi ((f * 256 + 1), un, (0 : Int))).2.1), ((ka f (ps r) (vs r) hi ((f * 256 + 1), un, (0 : Int))).2.2))).1) = un ∧ f ≠ un / 256) ∧ ((ka f (-(ps r)) (-(vs r)) (-lo) (((ka f (ps r) (vs r) hi ((f * 256 + 1), un, (0 : Int))).1), ((ka f (ps r) (vs r) hi ((f * 256 + 1), un, (0 : Int))).2.1), ((ka f (ps r) (vs r) hi ((f * 256 + 1), un, (0 : Int))).2.2))).1) / 256 * (((ka f (-(ps r)) (-(vs r)) (-lo) (((ka f (ps r) (vs r) hi ((f * 256 + 1), un, (0 : Int))).1), ((ka f (ps r) (vs r) hi ((f * 256 + 1), un, (0 : Int))).2.1), ((ka f (ps r) (vs r) hi ((f * 256 + 1), un, (0 : Int))).2.2))).2.1) % 256) ≤ ((ka f (-(ps r)) (-(vs r)) (-lo) (((ka f (ps r) (vs r) hi ((f * 256 + 1), un, (0 : Int))).1), ((ka f (ps r) (vs r) hi ((f * 256 + 1), un, (0 : Int))).2.1), ((ka f (ps r) (vs r) hi ((f * 256 + 1), un, (0 : Int))).2.2))).2.1) / 256 * (((ka f (-(ps r)) (-(vs r)) (-lo) (((ka f (ps r) (vs r) hi ((f * 256 + 1), un, (0 : Int))).1), ((ka f (ps r) (vs r) hi ((f * 256 + 1), un, (0 : Int))).2.1), ((ka f (ps r) (vs r) hi ((f * 256 + 1), un, (0 : Int))).2.2))).1) % 256)) then csz2 + 1 else csz2 : Nat) : Int))]) := e_62
          have e_72 : w_59 16 = .inl (gJ G, 10, .inr (.inl (aJ (if csz2 < 10 ∧ (((ka f (-(ps r)) (-(vs r)) (-lo) (((ka f (ps r) (vs r) hi ((f * 256 + 1), un, (0 : Int))).1), ((ka f (ps r) (vs r) hi ((f * 256 + 1), un, (0 : Int))).2.1), ((ka f (ps r) (vs r) hi ((f * 256 + 1), un, (0 : Int))).2.2))).2.2) = 0 ∧ ¬ (((ka f (-(ps r)) (-(vs r)) (-lo) (((ka f (ps r) (vs r) hi ((f * 256 + 1), un, (0 : Int))).1), ((ka f (ps r) (vs r) hi ((f * 256 + 1), un, (0 : Int))).2.1), ((ka f (ps r) (vs r) hi ((f * 256 + 1), un, (0 : Int))).2.2))).1) = un ∧ f ≠ un / 256) ∧ ((ka f (-(ps r)) (-(vs r)) (-lo) (((ka f (ps r) (vs r) hi ((f * 256 + 1), un, (0 : Int))).1), ((ka f (ps r) (vs r) hi ((f * 256 + 1), un, (0 : Int))).2.1), ((ka f (ps r) (vs r) hi ((f * 256 + 1), un, (0 : Int))).2.2))).1) / 256 * (((ka f (-(ps r)) (-(vs r)) (-lo) (((ka f (ps r) (vs r) hi ((f * 256 + 1), un, (0 : Int))).1), ((ka f (ps r) (vs r) hi ((f * 256 + 1), un, (0 : Int))).2.1), ((ka f (ps r) (vs r) hi ((f * 256 + 1), un, (0 : Int))).2.2))).2.1) % 256) ≤ ((ka f (-(ps r)) (-(vs r)) (-lo) (((ka f (ps r) (vs r) hi ((f * 256 + 1), un, (0 : Int))).1), ((ka f (ps r) (vs r) hi ((f * 256 + 1), un, (0 : Int))).2.1), ((ka f (ps r) (vs r) hi ((f * 256 + 1), un, (0 : Int))).2.2))).2.1) / 256 * (((ka f (-(ps r)) (-(vs r)) (-lo) (((ka f (ps r) (vs r) hi ((f * 256 + 1), un, (0 : Int))).1), ((ka f (ps r) (vs r) hi ((f * 256 + 1), un, (0 : Int))).2.1), ((ka f (ps r) (vs r) hi ((f * 256 + 1), un, (0 : Int))).2.2))).1) % 256)) then insF cb2 (spotP (fun k => decide (((ka f (-(ps r)) (-(vs r)) (-lo) (((ka f (ps r) (vs r) hi ((f * 256 + 1), un, (0 : Int))).1), ((ka f (ps r) (vs r) hi ((f * 256 + 1), un, (0 : Int))).2.1), ((ka f (ps r) (vs r) hi ((f * 256 + 1), un, (0 : Int))).2.2))).1) / 256 * (cb2 k % 256) < cb2 k / 256 * (((ka f (-(ps r)) (-(vs r)) (-lo) (((ka f (ps r) (vs r) hi ((f * 256 + 1), un, (0 : Int))).1), ((ka f (ps r) (vs r) hi ((f * 256 + 1), un, (0 : Int))).2.1), ((ka f (ps r) (vs r) hi ((f * 256 + 1), un, (0 : Int))).2.2))).1) % 256))) csz2) csz2 ((ka f (-(ps r)) (-(vs r)) (-lo) (((ka f (ps r) (vs r) hi ((f * 256 + 1), un, (0 : Int))).1), ((ka f (ps r) (vs r) hi ((f * 256 + 1), un, (0 : Int))).2.1), ((ka f (ps r) (vs r) hi ((f * 256 + 1), un, (0 : Int))).2.2))).1) else cb2)))) := e_63
          have e_73 : w_59 17 = .inl (gJ G, 10, .inr (.inl (aJ (if csz2 < 10 ∧ (((ka f (-(ps r)) (-(vs r)) (-lo) (((ka f (ps r) (vs r) hi ((f * 256 + 1), un, (0 : Int))).1), ((ka f (ps r) (vs r) hi ((f * 256 + 1), un, (0 : Int))).2.1), ((ka f (ps r) (vs r) hi ((f * 256 + 1), un, (0 : Int))).2.2))).2.2) = 0 ∧ ¬ (((ka f (-(ps r)) (-(vs r)) (-lo) (((ka f (ps r) (vs r) hi ((f * 256 + 1), un, (0 : Int))).1), ((ka f (ps r) (vs r) hi ((f * 256 + 1), un, (0 : Int))).2.1), ((ka f (ps r) (vs r) hi ((f * 256 + 1), un, (0 : Int))).2.2))).1) = un ∧ f ≠ un / 256) ∧ ((ka f (-(ps r)) (-(vs r)) (-lo) (((ka f (ps r) (vs r) hi ((f * 256 + 1), un, (0 : Int))).1), ((ka f (ps r) (vs r) hi ((f * 256 + 1), un, (0 : Int))).2.1), ((ka f (ps r) (vs r) hi ((f * 256 + 1), un, (0 : Int))).2.2))).1) / 256 * (((ka f (-(ps r)) (-(vs r)) (-lo) (((ka f (ps r) (vs r) hi ((f * 256 + 1), un, (0 : Int))).1), ((ka f (ps r) (vs r) hi ((f * 256 + 1), un, (0 : Int))).2.1), ((ka f (ps r) (vs r) hi ((f * 256 + 1), un, (0 : Int))).2.2))).2.1) % 256) ≤ ((ka f (-(ps r)) (-(vs r)) (-lo) (((ka f (ps r) (vs r) hi ((f * 256 + 1), un, (0 : Int))).1), ((ka f (ps r) (vs r) hi ((f * 256 + 1), un, (0 : Int))).2.1), ((ka f (ps r) (vs r) hi ((f * 256 + 1), un, (0 : Int))).2.2))).2.1) / 256 * (((ka f (-(ps r)) (-(vs r)) (-lo) (((ka f (ps r) (vs r) hi ((f * 256 + 1), un, (0 : Int))).1), ((ka f (ps r) (vs r) hi ((f * 256 + 1), un, (0 : Int))).2.1), ((ka f (ps r) (vs r) hi ((f * 256 + 1), un, (0 : Int))).2.2))).1) % 256)) then insF ce2 (spotP (fun k => decide (((ka f (-(ps r)) (-(vs r)) (-lo) (((ka f (ps r) (vs r) hi ((f * 256 + 1), un, (0 : Int))).1), ((ka f (ps r) (vs r) hi ((f * 256 + 1), un, (0 : Int))).2.1), ((ka f (ps r) (vs r) hi ((f * 256 + 1), un, (0 : Int))).2.2))).2.1) / 256 * (ce2 k % 256) < ce2 k / 256 * (((ka f (-(ps r)) (-(vs r)) (-lo) (((ka f (ps r) (vs r) hi ((f * 256 + 1), un, (0 : Int))).1), ((ka f (ps r) (vs r) hi ((f * 256 + 1), un, (0 : Int))).2.1), ((ka f (ps r) (vs r) hi ((f * 256 + 1), un, (0 : Int))).2.2))).2.1) % 256))) csz2) csz2 ((ka f (-(ps r)) (-(vs r)) (-lo) (((ka f (ps r) (vs r) hi ((f * 256 + 1), un, (0 : Int))).1), ((ka f (ps r) (vs r) hi ((f * 256 + 1), un, (0 : Int))).2.1), ((ka f (ps r) (vs r) hi ((f * 256 + 1), un, (0 : Int))).2.2))).2.1) else ce2)))) := e_64
          refine lv_iinc (v := iN ((r + 1 : Nat) : Int)) (lv' := [(3, .int (iN ((r + 1 : Nat) : Int))), (0, .ref (gad G 0)), (1, .int (iN lo)), (2, .int (iN hi))]) hx hb dX8_gatherCrowd_101 hl (k := 3) rfl (iN_incN _) (by decide) rfl (fun ls hl => ?_)
          refine lv_goto (tgt := 9) hx hb dX8_gatherCrowd_104 (by decide) ?_
          exact ih9 (r + 1) (ka f (-(ps r)) (-(vs r)) (-lo) (ka f (ps r) (vs r) hi (f * 256 + 1, un, 0))) (if csz2 < 10 ∧ (((ka f (-(ps r)) (-(vs r)) (-lo) (((ka f (ps r) (vs r) hi ((f * 256 + 1), un, (0 : Int))).1), ((ka f (ps r) (vs r) hi ((f * 256 + 1), un, (0 : Int))).2.1), ((ka f (ps r) (vs r) hi ((f * 256 + 1), un, (0 : Int))).2.2))).2.2) = 0 ∧ ¬ (((ka f (-(ps r)) (-(vs r)) (-lo) (((ka f (ps r) (vs r) hi ((f * 256 + 1), un, (0 : Int))).1), ((ka f (ps r) (vs r) hi ((f * 256 + 1), un, (0 : Int))).2.1), ((ka f (ps r) (vs r) hi ((f * 256 + 1), un, (0 : Int))).2.2))).1) = un ∧ f ≠ un / 256) ∧ ((ka f (-(ps r)) (-(vs r)) (-lo) (((ka f (ps r) (vs r) hi ((f * 256 + 1), un, (0 : Int))).1), ((ka f (ps r) (vs r) hi ((f * 256 + 1), un, (0 : Int))).2.1), ((ka f (ps r) (vs r) hi ((f * 256 + 1), un, (0 : Int))).2.2))).1) / 256 * (((ka f (-(ps r)) (-(vs r)) (-lo) (((ka f (ps r) (vs r) hi ((f * 256 + 1), un, (0 : Int))).1), ((ka f (ps r) (vs r) hi ((f * 256 + 1), un, (0 : Int))).2.1), ((ka f (ps r) (vs r) hi ((f * 256 + 1), un, (0 : Int))).2.2))).2.1) % 256) ≤ ((ka f (-(ps r)) (-(vs r)) (-lo) (((ka f (ps r) (vs r) hi ((f * 256 + 1), un, (0 : Int))).1), ((ka f (ps r) (vs r) hi ((f * 256 + 1), un, (0 : Int))).2.1), ((ka f (ps r) (vs r) hi ((f * 256 + 1), un, (0 : Int))).2.2))).2.1) / 256 * (((ka f (-(ps r)) (-(vs r)) (-lo) (((ka f (ps r) (vs r) hi ((f * 256 + 1), un, (0 : Int))).1), ((ka f (ps r) (vs r) hi ((f * 256 + 1), un, (0 : Int))).2.1), ((ka f (ps r) (vs r) hi ((f * 256 + 1), un, (0 : Int))).2.2))).1) % 256)) then csz2 + 1 else csz2) (if csz2 < 10 ∧ (((ka f (-(ps r)) (-(vs r)) (-lo) (((ka f (ps r) (vs r) hi ((f * 256 + 1), un, (0 : Int))).1), ((ka f (ps r) (vs r) hi ((f * 256 + 1), un, (0 : Int))).2.1), ((ka f (ps r) (vs r) hi ((f * 256 + 1), un, (0 : Int))).2.2))).2.2) = 0 ∧ ¬ (((ka f (-(ps r)) (-(vs r)) (-lo) (((ka f (ps r) (vs r) hi ((f * 256 + 1), un, (0 : Int))).1), ((ka f (ps r) (vs r) hi ((f * 256 + 1), un, (0 : Int))).2.1), ((ka f (ps r) (vs r) hi ((f * 256 + 1), un, (0 : Int))).2.2))).1) = un ∧ f ≠ un / 256) ∧ ((ka f (-(ps r)) (-(vs r)) (-lo) (((ka f (ps r) (vs r) hi ((f * 256 + 1), un, (0 : Int))).1), ((ka f (ps r) (vs r) hi ((f * 256 + 1), un, (0 : Int))).2.1), ((ka f (ps r) (vs r) hi ((f * 256 + 1), un, (0 : Int))).2.2))).1) / 256 * (((ka f (-(ps r)) (-(vs r)) (-lo) (((ka f (ps r) (vs r) hi ((f * 256 + 1), un, (0 : Int))).1), ((ka f (ps r) (vs r) hi ((f * 256 + 1), un, (0 : Int))).2.1), ((ka f (ps r) (vs r) hi ((f * 256 + 1), un, (0 : Int))).2.2))).2.1) % 256) ≤ ((ka f (-(ps r)) (-(vs r)) (-lo) (((ka f (ps r) (vs r) hi ((f * 256 + 1), un, (0 : Int))).1), ((ka f (ps r) (vs r) hi ((f * 256 + 1), un, (0 : Int))).2.1), ((ka f (ps r) (vs r) hi ((f * 256 + 1), un, (0 : Int))).2.2))).2.1) / 256 * (((ka f (-(ps r)) (-(vs r)) (-lo) (((ka f (ps r) (vs r) hi ((f * 256 + 1), un, (0 : Int))).1), ((ka f (ps r) (vs r) hi ((f * 256 + 1), un, (0 : Int))).2.1), ((ka f (ps r) (vs r) hi ((f * 256 + 1), un, (0 : Int))).2.2))).1) % 256)) then insF cb2 (spotP (fun k => decide (((ka f (-(ps r)) (-(vs r)) (-lo) (((ka f (ps r) (vs r) hi ((f * 256 + 1), un, (0 : Int))).1), ((ka f (ps r) (vs r) hi ((f * 256 + 1), un, (0 : Int))).2.1), ((ka f (ps r) (vs r) hi ((f * 256 + 1), un, (0 : Int))).2.2))).1) / 256 * (cb2 k % 256) < cb2 k / 256 * (((ka f (-(ps r)) (-(vs r)) (-lo) (((ka f (ps r) (vs r) hi ((f * 256 + 1), un, (0 : Int))).1), ((ka f (ps r) (vs r) hi ((f * 256 + 1), un, (0 : Int))).2.1), ((ka f (ps r) (vs r) hi ((f * 256 + 1), un, (0 : Int))).2.2))).1) % 256))) csz2) csz2 ((ka f (-(ps r)) (-(vs r)) (-lo) (((ka f (ps r) (vs r) hi ((f * 256 + 1), un, (0 : Int))).1), ((ka f (ps r) (vs r) hi ((f * 256 + 1), un, (0 : Int))).2.1), ((ka f (ps r) (vs r) hi ((f * 256 + 1), un, (0 : Int))).2.2))).1) else cb2) (if csz2 < 10 ∧ (((ka f (-(ps r)) (-(vs r)) (-lo) (((ka f (ps r) (vs r) hi ((f * 256 + 1), un, (0 : Int))).1), ((ka f (ps r) (vs r) hi ((f * 256 + 1), un, (0 : Int))).2.1), ((ka f (ps r) (vs r) hi ((f * 256 + 1), un, (0 : Int))).2.2))).2.2) = 0 ∧ ¬ (((ka f (-(ps r)) (-(vs r)) (-lo) (((ka f (ps r) (vs r) hi ((f * 256 + 1), un, (0 : Int))).1), ((ka f (ps r) (vs r) hi ((f * 256 + 1), un, (0 : Int))).2.1), ((ka f (ps r) (vs r) hi ((f * 256 + 1), un, (0 : Int))).2.2))).1) = un ∧ f ≠ un / 256) ∧ ((ka f (-(ps r)) (-(vs r)) (-lo) (((ka f (ps r) (vs r) hi ((f * 256 + 1), un, (0 : Int))).1), ((ka f (ps r) (vs r) hi ((f * 256 + 1), un, (0 : Int))).2.1), ((ka f (ps r) (vs r) hi ((f * 256 + 1), un, (0 : Int))).2.2))).1) / 256 * (((ka f (-(ps r)) (-(vs r)) (-lo) (((ka f (ps r) (vs r) hi ((f * 256 + 1), un, (0 : Int))).1), ((ka f (ps r) (vs r) hi ((f * 256 + 1), un, (0 : Int))).2.1), ((ka f (ps r) (vs r) hi ((f * 256 + 1), un, (0 : Int))).2.2))).2.1) % 256) ≤ ((ka f (-(ps r)) (-(vs r)) (-lo) (((ka f (ps r) (vs r) hi ((f * 256 + 1), un, (0 : Int))).1), ((ka f (ps r) (vs r) hi ((f * 256 + 1), un, (0 : Int))).2.1), ((ka f (ps r) (vs r) hi ((f * 256 + 1), un, (0 : Int))).2.2))).2.1) / 256 * (((ka f (-(ps r)) (-(vs r)) (-lo) (((ka f (ps r) (vs r) hi ((f * 256 + 1), un, (0 : Int))).1), ((ka f (ps r) (vs r) hi ((f * 256 + 1), un, (0 : Int))).2.1), ((ka f (ps r) (vs r) hi ((f * 256 + 1), un, (0 : Int))).2.2))).1) % 256)) then insF ce2 (spotP (fun k => decide (((ka f (-(ps r)) (-(vs r)) (-lo) (((ka f (ps r) (vs r) hi ((f * 256 + 1), un, (0 : Int))).1), ((ka f (ps r) (vs r) hi ((f * 256 + 1), un, (0 : Int))).2.1), ((ka f (ps r) (vs r) hi ((f * 256 + 1), un, (0 : Int))).2.2))).2.1) / 256 * (ce2 k % 256) < ce2 k / 256 * (((ka f (-(ps r)) (-(vs r)) (-lo) (((ka f (ps r) (vs r) hi ((f * 256 + 1), un, (0 : Int))).1), ((ka f (ps r) (vs r) hi ((f * 256 + 1), un, (0 : Int))).2.1), ((ka f (ps r) (vs r) hi ((f * 256 + 1), un, (0 : Int))).2.2))).2.1) % 256))) csz2) csz2 ((ka f (-(ps r)) (-(vs r)) (-lo) (((ka f (ps r) (vs r) hi ((f * 256 + 1), un, (0 : Int))).1), ((ka f (ps r) (vs r) hi ((f * 256 + 1), un, (0 : Int))).2.1), ((ka f (ps r) (vs r) hi ((f * 256 + 1), un, (0 : Int))).2.2))).2.1) else ce2) w_59 _ _ _ (by omega) ((isR_step (q := ka f (-(ps r)) (-(vs r)) (-lo) (ka f (ps r) (vs r) hi (f * 256 + 1, un, 0))) i9_1 i9_2 (by omega) (sc_yes p2 (by omega) c_25) (by unfold cwQ; rw [← (p2 r (by omega)).2.1, ← (p2 r (by omega)).2.2]) hq2).1) ((isR_step (q := ka f (-(ps r)) (-(vs r)) (-lo) (ka f (ps r) (vs r) hi (f * 256 + 1, un, 0))) i9_1 i9_2 (by omega) (sc_yes p2 (by omega) c_25) (by unfold cwQ; rw [← (p2 r (by omega)).2.1, ← (p2 r (by omega)).2.2]) hq2).2) (hq2) (by omega) (e_70) (e_71) (e_72) (e_73) (fun k h0 h1 h2 h3 => ((((((((fr_61 k (by omega) (by omega) (by omega)).trans (fr_48 k (by omega)))).trans (fr_35 k (by omega)))).trans (fr_22 k (by omega)))).trans (hfr9 k (by omega) (by omega) (by omega) (by omega)))) hP hS (lv_sub hl [1, 2, 3, 0] rfl)
  exact K9 ((11 - 0) + 1) (0) (q) (0) (cb) (ce) w_1 _ _ _ (by omega) (isR_0 _) (isR_0 _) (p7) (by omega) (e_10) (e_13) (e_11) (e_12) (fun k h0 h1 h2 h3 => fr_3 k (by omega)) hP hS (lv_sub hl [1, 2, 3, 0] rfl)

set_option maxHeartbeats 4000000 in
set_option maxRecDepth 100000 in
theorem c_X8_addCrowded (l : Launch) (G : GE) (w : WF) (came : Nat) (now : Nat) (bc : Nat) (csz : Nat) (cb : Nat → Int) (ce : Nat → Int) (L : List (Int × Int)) (pso : Int) (psz : Nat) (ple : Int) (pfb : Int) (pfe : Int) (mm : Int) (e0 : w 0 = .inr (7, [.ref (gad G 1), .int (iN ((came : Nat) : Int)), .int (iN ((now : Nat) : Int)), .ref (gad G 2), .ref (gad G 5), .int (iN ((bc : Nat) : Int)), .ref (gad G 6), .ref (gad G 10), .ref (gad G 14), .ref (gad G 15), .ref (gad G 18)])) (e1 : w 15 = .inr (1, [.ref (gad G 16), .ref (gad G 17), .int (iN ((csz : Nat) : Int))])) (e2 : w 16 = .inl (gJ G, 10, .inr (.inl (aJ cb)))) (e3 : w 17 = .inl (gJ G, 10, .inr (.inl (aJ ce)))) (e4 : w 18 = .inr (5, [.int (iN pso), .int (iN ((psz : Nat) : Int)), .long (jN ple), .long (jN pfb), .long (jN pfe)])) (p0 : 1 ≤ mm ∧ mm ≤ 10) (p1 : csz ≤ 10) (p2 : ∀ k : Nat, k < csz → -30000000000 ≤ cb k ∧ cb k ≤ 30000000000) (p3 : ∀ k : Nat, k < csz → -30000000000 ≤ ce k ∧ ce k ≤ 30000000000) (p4 : isP L pso psz ple pfb pfe) (p5 : L.length ≤ 9000) (p6 : -2147483648 ≤ pso ∧ pso < 2147483648) : Met l yX8_addCrowded wsX8_addCrowded ({ frames := 3, cells := 0, slots := 0, locals := 71 }) (PcG G w [.ref (gad G 0), .int (iN mm)]) (QV G (fun w1 => ∃ (psz2 : Nat) (ple2 : Int) (pfb2 : Int) (pfe2 : Int), (∀ k : Nat, k ≠ 18 → w1 k = w k) ∧ w1 18 = .inr (5, [.int (iN pso), .int (iN ((psz2 : Nat) : Int)), .long (jN ple2), .long (jN pfb2), .long (jN pfe2)]) ∧ (isP (swO csz cb ce mm L csz).2.2 pso psz2 ple2 pfb2 pfe2))) 0 0 (AA G) := by
  refine Met.ofW (cc := cX8_addCrowded) (maxL := 8) (ret := none) (by decide) rfl ?_
  intro p e s m args below meth c s₁ B hml hv
  obtain ⟨rfl, hP, hK⟩ := hv
  have hx := B.exec
  have hb := B.bytes
  have hr := B.returns
  have hts := atoms_spec (ws := wsX8_addCrowded) B.pre
  have hown : s.vm.findClass RX8 = some m.cls := findClass_of_methodNamed B.named
  have hlocks := B.notSynchronized
  have hS : va_S (AA G) s.heap s.heap [] := va_S.rf
  have hAA : ∀ q, AA G q → AA G q := fun _ h => h
  have hl := lv_entry ([.ref (gad G 0), .int (iN mm)]) (n := 8) (Nat.le_of_ble_eq_true rfl)
  rw [lg_entry_eq]
  generalize (lg_sl ([.ref (gad G 0), .int (iN mm)]) ++ List.replicate (8 - (lg_sl ([.ref (gad G 0), .int (iN mm)])).length) Slot.unset).toArray = ls at hl ⊢
  have hl : lv_has ls 8 [(0, .ref (gad G 0)), (1, .int (iN mm))] := hl
  refine n_iconst hx hb dX8_addCrowded_0 ?_
  refine lv_istore_n (lv' := [(2, .int (iN 0)), (0, .ref (gad G 0)), (1, .int (iN mm))]) hx hb dX8_addCrowded_1 rfl hl (by decide) rfl (fun ls hl => ?_)
  refine n_lconst (z := 0) hx hb dX8_addCrowded_2 (by decide) ?_
  refine lv_lstore_n (lv' := [(3, .long (jN 0)), (2, .int (iN 0)), (0, .ref (gad G 0)), (1, .int (iN mm))]) hx hb dX8_addCrowded_3 rfl hl (by decide) rfl (fun ls hl => ?_)
  refine n_iconst hx hb dX8_addCrowded_4 ?_
  refine lv_istore (lv' := [(5, .int (iN 0)), (3, .long (jN 0)), (2, .int (iN 0)), (0, .ref (gad G 0)), (1, .int (iN mm))]) hx hb dX8_addCrowded_5 hl (by decide) rfl (fun ls hl => ?_)
  have K7 : ∀ (N : Nat) (x : Nat) (g : Nat) (bg : Int) (L2 : List (Int × Int)) (psz2 : Nat) (ple2 : Int) (pfb2 : Int) (pfe2 : Int) (w2 : WF) (H : Heap) (locs : List Loc) (ls : Array Slot), (x ≤ csz ∧ g ≤ csz) → (swO csz cb ce mm L x = (g, bg, L2)) → (isP L2 pso psz2 ple2 pfb2 pfe2) → (-30000000000 ≤ bg ∧ bg ≤ 30000000000) → 11 - x < N → w2 18 = .inr (5, [.int (iN pso), .int (iN ((psz2 : Nat) : Int)), .long (jN ple2), .long (jN pfb2), .long (jN pfe2)]) → (∀ k : Nat, k ≠ 18 → w2 k = w k) → PW G w2 H → va_S (AA G) s.heap H locs → lv_has ls 8 [(0, .ref (gad G 0)), (1, .int (iN mm)), (2, .int (iN ((g : Nat) : Int))), (3, .long (jN bg)), (5, .int (iN ((x : Nat) : Int)))] → W p l e (headSpec wsX8_addCrowded ({ frames := 3, cells := 0, slots := 0, locals := 71 })).room s m (([.ref (gad G 0), .int (iN mm)] : List Value).toArray) below meth c H locs 0 0 (MQ below (QV G (fun w1 => ∃ (psz2 : Nat) (ple2 : Int) (pfb2 : Int) (pfe2 : Int), (∀ k : Nat, k ≠ 18 → w1 k = w k) ∧ w1 18 = .inr (5, [.int (iN pso), .int (iN ((psz2 : Nat) : Int)), .long (jN ple2), .long (jN pfb2), .long (jN pfe2)]) ∧ (isP (swO csz cb ce mm L csz).2.2 pso psz2 ple2 pfb2 pfe2))) (([.ref (gad G 0), .int (iN mm)] : List Value).toArray) s 0 0 (AA G)) (F0 m 7 ls []) := by
    intro N
    induction N with
    | zero =>
      intros
      exfalso
      omega
    | succ N ih7 =>
      intro x g bg L2 psz2 ple2 pfb2 pfe2 w2 H locs ls i7_0 i7_1 i7_2 i7_3 hN7 f7_0 hfr7 hP hS hl
      have e_1 : w2 0 = .inr (7, [.ref (gad G 1), .int (iN ((came : Nat) : Int)), .int (iN ((now : Nat) : Int)), .ref (gad G 2), .ref (gad G 5), .int (iN ((bc : Nat) : Int)), .ref (gad G 6), .ref (gad G 10), .ref (gad G 14), .ref (gad G 15), .ref (gad G 18)]) := by rw [hfr7 0 (by omega)]; exact e0
      have e_2 : w2 15 = .inr (1, [.ref (gad G 16), .ref (gad G 17), .int (iN ((csz : Nat) : Int))]) := by rw [hfr7 15 (by omega)]; exact e1
      have e_3 : w2 16 = .inl (gJ G, 10, .inr (.inl (aJ cb))) := by rw [hfr7 16 (by omega)]; exact e2
      have e_4 : w2 17 = .inl (gJ G, 10, .inr (.inl (aJ ce))) := by rw [hfr7 17 (by omega)]; exact e3
      refine lv_iload hx hb dX8_addCrowded_7 (lv_at hl 4 rfl) ?_
      refine lv_aload_n hx hb dX8_addCrowded_9 rfl (lv_at hl 0 rfl) ?_
      refine f_get (C := RX8) (T := TX8) (N := 11) hx hb hts (by decide +kernel) hown hK hP 0 (by omega) e_1 rfl 9 (by decide) (hts (.fieldLink RX8 51 "KeptMoving" "crowd" "LKeptMoving$Crowd;") (by decide +kernel)) (fun _ h9 => h9) rfl dX8_addCrowded_10 ?_
      refine f_getN (C := RX1) (T := TX1) (N := 3) hx hb hts (by decide +kernel) hown hK hP 15 (by omega) e_2 rfl 2 (by decide) (hK.nf 13 rfl) (fun _ h9 => h9) rfl dX8_addCrowded_13 ?_
      refine n_icmp_ge (tgt := 109) hx hb dX8_addCrowded_16 (by decide) (by omega) (by omega) (by omega) (by omega) (fun c_16 => ?_) (fun c_16 => ?_)
      · exact r_v hx hb hr dX8_addCrowded_109 hlocks hP hS (⟨psz2, ple2, pfb2, pfe2, (fun k h0 => hfr7 k (by omega)), f7_0, (by rw [show csz = x by omega, show swO x cb ce mm L x = (g, bg, L2) by rw [← i7_1, show csz = x by omega]]; exact i7_2)⟩)
      · refine lv_aload_n hx hb dX8_addCrowded_19 rfl (lv_at hl 0 rfl) ?_
        refine f_get (C := RX8) (T := TX8) (N := 11) hx hb hts (by decide +kernel) hown hK hP 0 (by omega) e_1 rfl 9 (by decide) (hts (.fieldLink RX8 51 "KeptMoving" "crowd" "LKeptMoving$Crowd;") (by decide +kernel)) (fun _ h9 => h9) rfl dX8_addCrowded_20 ?_
        refine f_getN (C := RX1) (T := TX1) (N := 3) hx hb hts (by decide +kernel) hown hK hP 15 (by omega) e_2 rfl 1 (by decide) (hK.nf 12 rfl) (fun _ h9 => h9) rfl dX8_addCrowded_23 ?_
        refine lv_iload hx hb dX8_addCrowded_26 (lv_at hl 4 rfl) ?_
        refine n_lald hx hb hK hP 17 (by omega) e_4 x rfl (by omega) (by decide) dX8_addCrowded_28 ?_
        refine lv_lstore (lv' := [(6, .long (jN (ce x))), (0, .ref (gad G 0)), (1, .int (iN mm)), (2, .int (iN ((g : Nat) : Int))), (3, .long (jN bg)), (5, .int (iN ((x : Nat) : Int)))]) hx hb dX8_addCrowded_29 hl (by decide) rfl (fun ls hl => ?_)
        have K31 : ∀ (N : Nat) (g2 : Nat) (bg2 : Int) (ls : Array Slot), (g2 ≤ csz) → (swI cb csz (ce x) (mm + (x : Int)) (csz - g2) g2 bg2 = swI cb csz (ce x) (mm + (x : Int)) (csz - g) g bg) → (-30000000000 ≤ bg2 ∧ bg2 ≤ 30000000000) → 11 - g2 < N → lv_has ls 8 [(0, .ref (gad G 0)), (1, .int (iN mm)), (2, .int (iN ((g2 : Nat) : Int))), (3, .long (jN bg2)), (5, .int (iN ((x : Nat) : Int))), (6, .long (jN (ce x)))] → W p l e (headSpec wsX8_addCrowded ({ frames := 3, cells := 0, slots := 0, locals := 71 })).room s m (([.ref (gad G 0), .int (iN mm)] : List Value).toArray) below meth c H locs 0 0 (MQ below (QV G (fun w1 => ∃ (psz2 : Nat) (ple2 : Int) (pfb2 : Int) (pfe2 : Int), (∀ k : Nat, k ≠ 18 → w1 k = w k) ∧ w1 18 = .inr (5, [.int (iN pso), .int (iN ((psz2 : Nat) : Int)), .long (jN ple2), .long (jN pfb2), .long (jN pfe2)]) ∧ (isP (swO csz cb ce mm L csz).2.2 pso psz2 ple2 pfb2 pfe2))) (([.ref (gad G 0), .int (iN mm)] : List Value).toArray) s 0 0 (AA G)) (F0 m 31 ls []) := by
          intro N
          induction N with
          | zero =>
            intros
            exfalso
            omega
          | succ N ih31 =>
            intro g2 bg2 ls i31_0 i31_1 i31_2 hN31 hl
            refine lv_iload_n hx hb dX8_addCrowded_31 rfl (lv_at hl 2 rfl) ?_
            refine lv_aload_n hx hb dX8_addCrowded_32 rfl (lv_at hl 0 rfl) ?_
            refine f_get (C := RX8) (T := TX8) (N := 11) hx hb hts (by decide +kernel) hown hK hP 0 (by omega) e_1 rfl 9 (by decide) (hts (.fieldLink RX8 51 "KeptMoving" "crowd" "LKeptMoving$Crowd;") (by decide +kernel)) (fun _ h9 => h9) rfl dX8_addCrowded_33 ?_
            refine f_getN (C := RX1) (T := TX1) (N := 3) hx hb hts (by decide +kernel) hown hK hP 15 (by omega) e_2 rfl 2 (by decide) (hK.nf 13 rfl) (fun _ h9 => h9) rfl dX8_addCrowded_36 ?_
            refine n_icmp_ge (tgt := 85) hx hb dX8_addCrowded_39 (by decide) (by omega) (by omega) (by omega) (by omega) (fun c_39 => ?_) (fun c_39 => ?_)
            · refine lv_iload_n hx hb dX8_addCrowded_85 rfl (lv_at hl 2 rfl) ?_
              refine lv_iload hx hb dX8_addCrowded_86 (lv_at hl 4 rfl) ?_
              refine n_isub hx hb dX8_addCrowded_88 ?_
              refine lv_iload_n hx hb dX8_addCrowded_89 rfl (lv_at hl 1 rfl) ?_
              refine n_icmp_ne (tgt := 103) hx hb dX8_addCrowded_90 (by decide) (by omega) (by omega) (by omega) (by omega) (fun c_90 => ?_) (fun c_90 => ?_)
              · refine lv_iinc (v := iN ((x + 1 : Nat) : Int)) (lv' := [(5, .int (iN ((x + 1 : Nat) : Int))), (0, .ref (gad G 0)), (1, .int (iN mm)), (2, .int (iN ((g2 : Nat) : Int))), (3, .long (jN bg2)), (6, .long (jN (ce x)))]) hx hb dX8_addCrowded_103 hl (k := 4) rfl (iN_incN _) (by decide) rfl (fun ls hl => ?_)
                refine lv_goto (tgt := 7) hx hb dX8_addCrowded_106 (by decide) ?_
                exact ih7 (x + 1) (g2) (bg2) (L2) (psz2) (ple2) (pfb2) (pfe2) w2 _ _ _ (by omega) (by have hs := swO_s i7_1 (i31_1.symm.trans (swI_end (Or.inl (by omega)))); rw [if_neg (by omega)] at hs; exact hs) (i7_2) (i31_2) (by omega) (f7_0) (fun k h0 => hfr7 k (by omega)) hP hS (lv_sub hl [1, 2, 3, 4, 0] rfl)
              · refine lv_aload_n hx hb dX8_addCrowded_93 rfl (lv_at hl 0 rfl) ?_
                refine f_get (C := RX8) (T := TX8) (N := 11) hx hb hts (by decide +kernel) hown hK hP 0 (by omega) e_1 rfl 10 (by decide) (hts (.fieldLink RX8 58 "KeptMoving" "spans" "LKeptMoving$Spans;") (by decide +kernel)) (fun _ h9 => h9) rfl dX8_addCrowded_94 ?_
                refine lv_lload_n hx hb dX8_addCrowded_97 rfl (lv_at hl 3 rfl) ?_
                refine lv_lload hx hb dX8_addCrowded_98 (lv_at hl 5 rfl) ?_
                refine f_callv (va_Run.run (va_runVN (As := [.long (jN bg2), .long (jN (ce x))]) (rest := []) ⟨hx, hb, hml, hown, hts⟩ (c_X6_add l G w2 pso psz2 ple2 pfb2 pfe2 bg2 (ce x) f7_0 (by have := swO_len (sz := csz) (cb := cb) (ce := ce) (mm := mm) (L := L) x; rw [i7_1] at this; rw [i7_2.1]; dsimp only at this; omega) (p6) (i7_2.2.2.2.1) (i31_2)) ⟨va_cnB 2 hts gX8_addCrowded_X6_add_n308 rfl rfl rfl (hK.nm 63 rfl) (hts (.initialized RX6) (by decide +kernel)) (by decide +kernel) ⟨Nat.le_of_ble_eq_true rfl, Nat.le_of_ble_eq_true rfl⟩, hts (.instanceMethod yX6_add) (by decide +kernel), hts (.selects RX6 yX6_add yX6_add) (by decide +kernel)⟩ (f_preV hP hK 18 (by omega) 5 f7_0 rfl) rfl rfl hl.1 rfl (lv_room (Nat.le_of_ble_eq_true rfl)) dX8_addCrowded_100 ⟨Nat.zero_le _, Nat.zero_le _⟩)) hS hAA (fun w_5 H locs q_6 hP hS => ?_)
                obtain ⟨fr_7, e_8⟩ := q_6
                have e_9 : w_5 0 = .inr (7, [.ref (gad G 1), .int (iN ((came : Nat) : Int)), .int (iN ((now : Nat) : Int)), .ref (gad G 2), .ref (gad G 5), .int (iN ((bc : Nat) : Int)), .ref (gad G 6), .ref (gad G 10), .ref (gad G 14), .ref (gad G 15), .ref (gad G 18)]) := (fr_7 0 (by omega)).trans e_1
                have e_10 : w_5 15 = .inr (1, [.ref (gad G 16), .ref (gad G 17), .int (iN ((csz : Nat) : Int))]) := (fr_7 15 (by omega)).trans e_2
                have e_11 : w_5 16 = .inl (gJ G, 10, .inr (.inl (aJ cb))) := (fr_7 16 (by omega)).trans e_3
                have e_12 : w_5 17 = .inl (gJ G, 10, .inr (.inl (aJ ce))) := (fr_7 17 (by omega)).trans e_4
                have e_13 : w_5 18 = .inr (5, [.int (iN pso), .int (iN ((if 0 < psz2 ∧ bg2 / 256 * (ple2 % 256) ≤ ple2 / 256 * (bg2 % 256) then psz2 else psz2 + 1 : Nat) : Int)), .long (jN (ce x)), .long (jN (if ¬ (0 < psz2 ∧ bg2 / 256 * (ple2 % 256) ≤ ple2 / 256 * (bg2 % 256)) ∧ ((psz2 : Nat) : Int) = pso then bg2 else pfb2)), .long (jN (if (if 0 < psz2 ∧ bg2 / 256 * (ple2 % 256) ≤ ple2 / 256 * (bg2 % 256) then ((psz2 : Nat) : Int) - 1 else psz2) = pso then (ce x) else pfe2))]) := e_8
                refine lv_iinc (v := iN ((x + 1 : Nat) : Int)) (lv' := [(5, .int (iN ((x + 1 : Nat) : Int))), (0, .ref (gad G 0)), (1, .int (iN mm)), (2, .int (iN ((g2 : Nat) : Int))), (3, .long (jN bg2)), (6, .long (jN (ce x)))]) hx hb dX8_addCrowded_103 hl (k := 4) rfl (iN_incN _) (by decide) rfl (fun ls hl => ?_)
                refine lv_goto (tgt := 7) hx hb dX8_addCrowded_106 (by decide) ?_
                exact ih7 (x + 1) (g2) (bg2) ((addP (bg2, ce x) L2)) (if 0 < psz2 ∧ bg2 / 256 * (ple2 % 256) ≤ ple2 / 256 * (bg2 % 256) then psz2 else psz2 + 1) ((ce x)) (if ¬ (0 < psz2 ∧ bg2 / 256 * (ple2 % 256) ≤ ple2 / 256 * (bg2 % 256)) ∧ ((psz2 : Nat) : Int) = pso then bg2 else pfb2) (if (if 0 < psz2 ∧ bg2 / 256 * (ple2 % 256) ≤ ple2 / 256 * (bg2 % 256) then ((psz2 : Nat) : Int) - 1 else psz2) = pso then (ce x) else pfe2) w_5 _ _ _ (by omega) (by have hs := swO_s i7_1 (i31_1.symm.trans (swI_end (Or.inl (by omega)))); rw [if_pos (by omega)] at hs; exact hs) (isP_add i7_2 (bg2, ce x) ⟨i31_2, p3 x (by omega)⟩) (i31_2) (by omega) (e_13) (fun k h0 => ((fr_7 k (by omega)).trans (hfr7 k (by omega)))) hP hS (lv_sub hl [1, 2, 3, 4, 0] rfl)
            · refine lv_aload_n hx hb dX8_addCrowded_42 rfl (lv_at hl 0 rfl) ?_
              refine f_get (C := RX8) (T := TX8) (N := 11) hx hb hts (by decide +kernel) hown hK hP 0 (by omega) e_1 rfl 9 (by decide) (hts (.fieldLink RX8 51 "KeptMoving" "crowd" "LKeptMoving$Crowd;") (by decide +kernel)) (fun _ h9 => h9) rfl dX8_addCrowded_43 ?_
              refine f_getN (C := RX1) (T := TX1) (N := 3) hx hb hts (by decide +kernel) hown hK hP 15 (by omega) e_2 rfl 0 (by decide) (hK.nf 11 rfl) (fun _ h9 => h9) rfl dX8_addCrowded_46 ?_
              refine lv_iload_n hx hb dX8_addCrowded_49 rfl (lv_at hl 2 rfl) ?_
              refine n_lald hx hb hK hP 16 (by omega) e_3 g2 rfl (by omega) (by decide) dX8_addCrowded_50 ?_
              refine lv_lload hx hb dX8_addCrowded_51 (lv_at hl 5 rfl) ?_
              refine vp_callSi (va_Run.run (va_runSN (As := [.long (jN (cb g2)), .long (jN (ce x))]) (rest := []) ⟨hx, hb, hml, hown, hts⟩ (c_X2_compare l (cb g2) (ce x) (p2 g2 (by omega)) (p3 x (by omega))) ⟨va_cnB 2 hts gX8_addCrowded_X2_compare_n267 rfl rfl rfl (hK.nm 31 rfl) (hts (.initialized RX2) (by decide +kernel)) (by decide +kernel) ⟨Nat.le_of_ble_eq_true rfl, Nat.le_of_ble_eq_true rfl⟩, hts (.static yX2_compare) (by decide +kernel), trivial⟩ ⟨fun _ _ _ _ q => q, fun _ _ _ => rfl⟩ rfl rfl hl.1 rfl (lv_room (Nat.le_of_ble_eq_true rfl)) dX8_addCrowded_53 ⟨Nat.zero_le _, Nat.zero_le _⟩)) (fun r_14 hr_14 => ?_)
              rw [show r_14 = iN (cmpI ((cb g2) / 256 * ((ce x) % 256)) ((ce x) / 256 * ((cb g2) % 256))) from hr_14]
              refine n_ifc_gt (tgt := 85) hx hb dX8_addCrowded_56 (by decide) (fun c_56 => ?_) (fun c_56 => ?_)
              · refine lv_iload_n hx hb dX8_addCrowded_85 rfl (lv_at hl 2 rfl) ?_
                refine lv_iload hx hb dX8_addCrowded_86 (lv_at hl 4 rfl) ?_
                refine n_isub hx hb dX8_addCrowded_88 ?_
                refine lv_iload_n hx hb dX8_addCrowded_89 rfl (lv_at hl 1 rfl) ?_
                refine n_icmp_ne (tgt := 103) hx hb dX8_addCrowded_90 (by decide) (by omega) (by omega) (by omega) (by omega) (fun c_90 => ?_) (fun c_90 => ?_)
                · refine lv_iinc (v := iN ((x + 1 : Nat) : Int)) (lv' := [(5, .int (iN ((x + 1 : Nat) : Int))), (0, .ref (gad G 0)), (1, .int (iN mm)), (2, .int (iN ((g2 : Nat) : Int))), (3, .long (jN bg2)), (6, .long (jN (ce x)))]) hx hb dX8_addCrowded_103 hl (k := 4) rfl (iN_incN _) (by decide) rfl (fun ls hl => ?_)
                  refine lv_goto (tgt := 7) hx hb dX8_addCrowded_106 (by decide) ?_
                  exact ih7 (x + 1) (g2) (bg2) (L2) (psz2) (ple2) (pfb2) (pfe2) w2 _ _ _ (by omega) (by have hs := swO_s i7_1 (i31_1.symm.trans (swI_end (Or.inr (by omega)))); rw [if_neg (by omega)] at hs; exact hs) (i7_2) (i31_2) (by omega) (f7_0) (fun k h0 => hfr7 k (by omega)) hP hS (lv_sub hl [1, 2, 3, 4, 0] rfl)
                · refine lv_aload_n hx hb dX8_addCrowded_93 rfl (lv_at hl 0 rfl) ?_
                  refine f_get (C := RX8) (T := TX8) (N := 11) hx hb hts (by decide +kernel) hown hK hP 0 (by omega) e_1 rfl 10 (by decide) (hts (.fieldLink RX8 58 "KeptMoving" "spans" "LKeptMoving$Spans;") (by decide +kernel)) (fun _ h9 => h9) rfl dX8_addCrowded_94 ?_
                  refine lv_lload_n hx hb dX8_addCrowded_97 rfl (lv_at hl 3 rfl) ?_
                  refine lv_lload hx hb dX8_addCrowded_98 (lv_at hl 5 rfl) ?_
                  refine f_callv (va_Run.run (va_runVN (As := [.long (jN bg2), .long (jN (ce x))]) (rest := []) ⟨hx, hb, hml, hown, hts⟩ (c_X6_add l G w2 pso psz2 ple2 pfb2 pfe2 bg2 (ce x) f7_0 (by have := swO_len (sz := csz) (cb := cb) (ce := ce) (mm := mm) (L := L) x; rw [i7_1] at this; rw [i7_2.1]; dsimp only at this; omega) (p6) (i7_2.2.2.2.1) (i31_2)) ⟨va_cnB 2 hts gX8_addCrowded_X6_add_n308 rfl rfl rfl (hK.nm 63 rfl) (hts (.initialized RX6) (by decide +kernel)) (by decide +kernel) ⟨Nat.le_of_ble_eq_true rfl, Nat.le_of_ble_eq_true rfl⟩, hts (.instanceMethod yX6_add) (by decide +kernel), hts (.selects RX6 yX6_add yX6_add) (by decide +kernel)⟩ (f_preV hP hK 18 (by omega) 5 f7_0 rfl) rfl rfl hl.1 rfl (lv_room (Nat.le_of_ble_eq_true rfl)) dX8_addCrowded_100 ⟨Nat.zero_le _, Nat.zero_le _⟩)) hS hAA (fun w_15 H locs q_16 hP hS => ?_)
                  obtain ⟨fr_17, e_18⟩ := q_16
                  have e_19 : w_15 0 = .inr (7, [.ref (gad G 1), .int (iN ((came : Nat) : Int)), .int (iN ((now : Nat) : Int)), .ref (gad G 2), .ref (gad G 5), .int (iN ((bc : Nat) : Int)), .ref (gad G 6), .ref (gad G 10), .ref (gad G 14), .ref (gad G 15), .ref (gad G 18)]) := (fr_17 0 (by omega)).trans e_1
                  have e_20 : w_15 15 = .inr (1, [.ref (gad G 16), .ref (gad G 17), .int (iN ((csz : Nat) : Int))]) := (fr_17 15 (by omega)).trans e_2
                  have e_21 : w_15 16 = .inl (gJ G, 10, .inr (.inl (aJ cb))) := (fr_17 16 (by omega)).trans e_3
                  have e_22 : w_15 17 = .inl (gJ G, 10, .inr (.inl (aJ ce))) := (fr_17 17 (by omega)).trans e_4
                  have e_23 : w_15 18 = .inr (5, [.int (iN pso), .int (iN ((if 0 < psz2 ∧ bg2 / 256 * (ple2 % 256) ≤ ple2 / 256 * (bg2 % 256) then psz2 else psz2 + 1 : Nat) : Int)), .long (jN (ce x)), .long (jN (if ¬ (0 < psz2 ∧ bg2 / 256 * (ple2 % 256) ≤ ple2 / 256 * (bg2 % 256)) ∧ ((psz2 : Nat) : Int) = pso then bg2 else pfb2)), .long (jN (if (if 0 < psz2 ∧ bg2 / 256 * (ple2 % 256) ≤ ple2 / 256 * (bg2 % 256) then ((psz2 : Nat) : Int) - 1 else psz2) = pso then (ce x) else pfe2))]) := e_18
                  refine lv_iinc (v := iN ((x + 1 : Nat) : Int)) (lv' := [(5, .int (iN ((x + 1 : Nat) : Int))), (0, .ref (gad G 0)), (1, .int (iN mm)), (2, .int (iN ((g2 : Nat) : Int))), (3, .long (jN bg2)), (6, .long (jN (ce x)))]) hx hb dX8_addCrowded_103 hl (k := 4) rfl (iN_incN _) (by decide) rfl (fun ls hl => ?_)
                  refine lv_goto (tgt := 7) hx hb dX8_addCrowded_106 (by decide) ?_
                  exact ih7 (x + 1) (g2) (bg2) ((addP (bg2, ce x) L2)) (if 0 < psz2 ∧ bg2 / 256 * (ple2 % 256) ≤ ple2 / 256 * (bg2 % 256) then psz2 else psz2 + 1) ((ce x)) (if ¬ (0 < psz2 ∧ bg2 / 256 * (ple2 % 256) ≤ ple2 / 256 * (bg2 % 256)) ∧ ((psz2 : Nat) : Int) = pso then bg2 else pfb2) (if (if 0 < psz2 ∧ bg2 / 256 * (ple2 % 256) ≤ ple2 / 256 * (bg2 % 256) then ((psz2 : Nat) : Int) - 1 else psz2) = pso then (ce x) else pfe2) w_15 _ _ _ (by omega) (by have hs := swO_s i7_1 (i31_1.symm.trans (swI_end (Or.inr (by omega)))); rw [if_pos (by omega)] at hs; exact hs) (isP_add i7_2 (bg2, ce x) ⟨i31_2, p3 x (by omega)⟩) (i31_2) (by omega) (e_23) (fun k h0 => ((fr_17 k (by omega)).trans (hfr7 k (by omega)))) hP hS (lv_sub hl [1, 2, 3, 4, 0] rfl)
              · refine lv_iinc (v := iN ((g2 + 1 : Nat) : Int)) (lv' := [(2, .int (iN ((g2 + 1 : Nat) : Int))), (0, .ref (gad G 0)), (1, .int (iN mm)), (3, .long (jN bg2)), (5, .int (iN ((x : Nat) : Int))), (6, .long (jN (ce x)))]) hx hb dX8_addCrowded_59 hl (k := 2) rfl (iN_incN _) (by decide) rfl (fun ls hl => ?_)
                refine lv_iload_n hx hb dX8_addCrowded_62 rfl (lv_at hl 0 rfl) ?_
                refine lv_iload hx hb dX8_addCrowded_63 (lv_at hl 4 rfl) ?_
                refine n_isub hx hb dX8_addCrowded_65 ?_
                refine lv_iload_n hx hb dX8_addCrowded_66 rfl (lv_at hl 2 rfl) ?_
                refine n_icmp_ne (tgt := 31) hx hb dX8_addCrowded_67 (by decide) (by omega) (by omega) (by omega) (by omega) (fun c_67 => ?_) (fun c_67 => ?_)
                · exact ih31 (g2 + 1) (bg2) _ (by omega) (by rw [← i31_1, swI_go (sz := csz) (g := g2) (by omega) (Int.not_lt.mp c_56), show (if ((g2 + 1 : Nat) : Int) = mm + (x : Int) then cb g2 else bg2) = bg2 from if_neg (by omega)]) (i31_2) (by omega) (lv_sub hl [1, 2, 0, 3, 4, 5] rfl)
                · refine lv_aload_n hx hb dX8_addCrowded_70 rfl (lv_at hl 1 rfl) ?_
                  refine f_get (C := RX8) (T := TX8) (N := 11) hx hb hts (by decide +kernel) hown hK hP 0 (by omega) e_1 rfl 9 (by decide) (hts (.fieldLink RX8 51 "KeptMoving" "crowd" "LKeptMoving$Crowd;") (by decide +kernel)) (fun _ h9 => h9) rfl dX8_addCrowded_71 ?_
                  refine f_getN (C := RX1) (T := TX1) (N := 3) hx hb hts (by decide +kernel) hown hK hP 15 (by omega) e_2 rfl 0 (by decide) (hK.nf 11 rfl) (fun _ h9 => h9) rfl dX8_addCrowded_74 ?_
                  refine lv_iload_n hx hb dX8_addCrowded_77 rfl (lv_at hl 0 rfl) ?_
                  refine n_iconst hx hb dX8_addCrowded_78 ?_
                  refine n_isub hx hb dX8_addCrowded_79 ?_
                  refine n_top (A := ((g2 + 1 : Nat) : Int) - 1) (B := (((g2 + 1) - 1 : Nat) : Int)) (by omega) ?_
                  refine n_lald hx hb hK hP 16 (by omega) e_3 ((g2 + 1) - 1) rfl (by omega) (by decide) dX8_addCrowded_80 ?_
                  refine lv_lstore_n (lv' := [(3, .long (jN (cb ((g2 + 1) - 1)))), (2, .int (iN ((g2 + 1 : Nat) : Int))), (0, .ref (gad G 0)), (1, .int (iN mm)), (5, .int (iN ((x : Nat) : Int))), (6, .long (jN (ce x)))]) hx hb dX8_addCrowded_81 rfl hl (by decide) rfl (fun ls hl => ?_)
                  have hz_24 : cb ((g2 + 1) - 1) = cb g2 := by rfl
                  have hl : lv_has ls 8 [(3, .long (jN (cb g2))), (2, .int (iN ((g2 + 1 : Nat) : Int))), (0, .ref (gad G 0)), (1, .int (iN mm)), (5, .int (iN ((x : Nat) : Int))), (6, .long (jN (ce x)))] := by rw [← hz_24]; exact hl
                  refine lv_goto (tgt := 31) hx hb dX8_addCrowded_82 (by decide) ?_
                  exact ih31 (g2 + 1) (cb g2) _ (by omega) (by rw [← i31_1, swI_go (sz := csz) (g := g2) (by omega) (Int.not_lt.mp c_56), show (if ((g2 + 1 : Nat) : Int) = mm + (x : Int) then cb g2 else bg2) = cb g2 from if_pos (by omega)]) (by exact p2 g2 (by omega)) (by omega) (lv_sub hl [2, 3, 1, 0, 4, 5] rfl)
        exact K31 ((11 - g) + 1) (g) (bg) _ (by omega) (rfl) (i7_3) (by omega) (lv_sub hl [1, 2, 3, 4, 5, 0] rfl)
  exact K7 ((11 - 0) + 1) (0) (0) (0) (L) (psz) (ple) (pfb) (pfe) w _ _ _ (by omega) (rfl) (p4) (by omega) (by omega) (e4) (fun k _ => rfl) hP hS (lv_sub hl [3, 4, 2, 1, 0] rfl)
