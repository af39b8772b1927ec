/-- the model's times -/
abbrev TM : Type := Int × Int
def gtX (x : TM) (L : List TM) (k : Nat) : Bool := match L[k]? with
  | some q => decide (x.1 * q.2 < q.1 * x.2)
  | none => false
def eqX (x : TM) (L : List TM) (k : Nat) : Bool := match L[k]? with
  | some q => decide (x.1 * q.2 = q.1 * x.2)
  | none => false
def insX (en : Int) (x : TM) (L : List TM) : List TM := if x.1 < 0 ∨ en * x.2 < x.1 then L else if 0 < spotP (gtX x L) L.length ∧ eqX x L (spotP (gtX x L) L.length - 1) = true then L else insAt L (spotP (gtX x L) L.length) x
def okT (q : TM) : Prop := (0 ≤ q.1 ∧ q.1 ≤ 600 * q.2) ∧ (1 ≤ q.2 ∧ q.2 ≤ 100)
def isT (L : List TM) (tm : Nat) (tN tD : Nat → Int) : Prop := tm = L.length ∧ ∀ (k : Nat) (q : TM), L[k]? = some q → (tN k = q.1 ∧ tD k = q.2) ∧ okT q
theorem isT_0 (tN tD : Nat → Int) : isT [] 0 tN tD := ⟨rfl, fun k q h => by simp at h⟩
theorem isT_bd {L : List TM} {tm : Nat} {tN tD : Nat → Int} (h : isT L tm tN tD) : ∀ k : Nat, k < tm → (0 ≤ tN k ∧ tN k ≤ 60000) ∧ (1 ≤ tD k ∧ tD k ≤ 100) ∧ tN k ≤ 600 * tD k := fun k hk => by
  obtain ⟨rfl, h3⟩ := h
  obtain ⟨h4, h5, h6⟩ := h3 k L[k] (List.getElem?_eq_getElem hk)
  rw [h4.1, h4.2]
  omega
theorem insX_len (en : Int) (x : TM) (L : List TM) : (insX en x L).length ≤ L.length + 1 := by
  unfold insX
  split
  · omega
  · split
    · omega
    · exact Nat.le_of_eq (insAt_len (spot_le _ _))
theorem isT_spot {L : List TM} {tm : Nat} {tN tD : Nat → Int} (h : isT L tm tN tD) (n d : Int) : spotP (fun k => decide (n * tD k < tN k * d)) tm = spotP (gtX (n, d) L) L.length := by
  obtain ⟨rfl, h3⟩ := h
  refine spot_cong fun k hk => ?_
  unfold gtX
  obtain ⟨h4, -⟩ := h3 k _ (List.getElem?_eq_getElem hk)
  rw [List.getElem?_eq_getElem hk, h4.1, h4.2]
theorem isT_eq {L : List TM} {tm : Nat} {tN tD : Nat → Int} (h : isT L tm tN tD) {n d : Int} {k : Nat} (hk : k < tm) : eqX (n, d) L k = true ↔ n * tD k = tN k * d := by
  obtain ⟨rfl, h3⟩ := h
  unfold eqX
  obtain ⟨h4, -⟩ := h3 k _ (List.getElem?_eq_getElem hk)
  rw [List.getElem?_eq_getElem hk, h4.1, h4.2]
  exact decide_eq_true_iff
theorem insX_dup {L : List TM} {tm : Nat} {tN tD : Nat → Int} (h : isT L tm tN tD) {n d en : Int} {q : Nat} (hq : spotP (fun k => decide (n * tD k < tN k * d)) tm = q) (h0 : 0 < q) (h1 : q ≤ tm) (he : n * tD (q - 1) = tN (q - 1) * d) (hr : ¬ (n < 0 ∨ en * d < n)) : insX en (n, d) L = L := by
  rw [isT_spot h] at hq
  unfold insX
  rw [hq, if_neg hr, if_pos ⟨h0, (isT_eq h (by omega)).mpr he⟩]
theorem insX_new {L : List TM} {tm : Nat} {tN tD : Nat → Int} (h : isT L tm tN tD) {n d en : Int} {q : Nat} (hq : spotP (fun k => decide (n * tD k < tN k * d)) tm = q) (h1 : q ≤ tm) (he : ¬ (0 < q ∧ n * tD (q - 1) = tN (q - 1) * d)) (hr : ¬ (n < 0 ∨ en * d < n)) (hd : 1 ≤ d ∧ d ≤ 100) (hen : en ≤ 600) : isT (insX en (n, d) L) (tm + 1) (insF tN q tm n) (insF tD q tm d) := by
  have hq2 := hq
  rw [isT_spot h] at hq2
  have hnew : insX en (n, d) L = insAt L q (n, d) := by
    unfold insX
    rw [hq2, if_neg hr, if_neg]
    intro z
    exact he ⟨z.1, (isT_eq h (by omega)).mp z.2⟩
  rw [hnew]
  obtain ⟨rfl, h3⟩ := h
  have hb : en * d ≤ 600 * d := Int.mul_le_mul_of_nonneg_right hen (by omega)
  refine ⟨(insAt_len h1).symm, fun k z hz => ?_⟩
  rw [insAt_get h1] at hz
  unfold insF
  by_cases h4 : k < q
  · rw [if_pos h4] at hz
    rw [if_pos h4, if_pos h4]
    exact h3 k z hz
  · rw [if_neg h4] at hz
    rw [if_neg h4, if_neg h4]
    by_cases h5 : k = q
    · rw [if_pos h5] at hz
      cases hz
      rw [if_pos h5, if_pos h5]
      refine ⟨⟨rfl, rfl⟩, ⟨?_, ?_⟩, hd⟩ <;> dsimp only <;> omega
    · rw [if_neg h5] at hz
      have h6 : k - 1 < L.length := (List.getElem?_eq_some_iff.mp hz).1
      rw [if_neg h5, if_neg h5, if_pos (by omega), if_pos (by omega)]
      exact h3 (k - 1) z hz
theorem mb6 {a b : Int} (ha : -1000000000 ≤ a ∧ a ≤ 1000000000) (hb : 1 ≤ b ∧ b ≤ 100) : -100000000000 ≤ a * b ∧ a * b ≤ 100000000000 := mb3 (A := 1000000000) (B := 100) ha (by omega)

set_option maxHeartbeats 4000000 in
set_option maxRecDepth 100000 in
theorem c_X9_addTime (l : Launch) (G : GE) (w : WF) (U : List TM) (now : Nat) (came : Nat) (rm : Nat) (mt : Nat) (tm : Nat) (thg : Int) (onn : Int) (two : Int) (lw : Int) (hg : Int) (sq : Nat) (tN : Nat → Int) (tD : Nat → Int) (n : Int) (d : Int) (en : Int) (e0 : w 59 = .inr (8, [.int (iN ((now : Nat) : Int)), .int (iN ((came : Nat) : Int)), .ref (gad G 60), .ref (gad G 61), .ref (gad G 62), .ref (gad G 63), .ref (gad G 64), .ref (gad G 65), .int (iN ((rm : Nat) : Int)), .int (iN ((mt : Nat) : Int)), .ref (gad G 66), .ref (gad G 67), .ref (gad G 68), .ref (gad G 69), .ref (gad G 70), .int (iN ((tm : Nat) : Int)), .ref (gad G 71), .ref (gad G 72), .int (iN thg), .int (iN onn), .int (iN two), .long (jN lw), .long (jN hg), .int (iN ((sq : Nat) : Int)), .ref (gad G 73), .ref (gad G 74)])) (e1 : w 71 = .inl (gJ G, 700, .inr (.inl (aJ tN)))) (e2 : w 72 = .inl (gJ G, 700, .inr (.inl (aJ tD)))) (p0 : isT U tm tN tD) (p1 : U.length < 700) (p2 : 1 ≤ d ∧ d ≤ 100) (p3 : -1000000000 ≤ n ∧ n ≤ 1000000000) (p4 : 1 ≤ en ∧ en ≤ 600) : Met l yX9_addTime wsX9_addTime ({ frames := 0, cells := 0, slots := 0, locals := 0 }) (PcG G w [.ref (gad G 59), .long (jN n), .long (jN d), .int (iN en)]) (QV G (fun w1 => ∃ (tm2 : Nat) (tN2 : Nat → Int) (tD2 : Nat → Int), (∀ k : Nat, k ≠ 59 → k ≠ 71 → k ≠ 72 → w1 k = w k) ∧ w1 59 = .inr (8, [.int (iN ((now : Nat) : Int)), .int (iN ((came : Nat) : Int)), .ref (gad G 60), .ref (gad G 61), .ref (gad G 62), .ref (gad G 63), .ref (gad G 64), .ref (gad G 65), .int (iN ((rm : Nat) : Int)), .int (iN ((mt : Nat) : Int)), .ref (gad G 66), .ref (gad G 67), .ref (gad G 68), .ref (gad G 69), .ref (gad G 70), .int (iN ((tm2 : Nat) : Int)), .ref (gad G 71), .ref (gad G 72), .int (iN thg), .int (iN onn), .int (iN two), .long (jN lw), .long (jN hg), .int (iN ((sq : Nat) : Int)), .ref (gad G 73), .ref (gad G 74)]) ∧ w1 71 = .inl (gJ G, 700, .inr (.inl (aJ tN2))) ∧ w1 72 = .inl (gJ G, 700, .inr (.inl (aJ tD2))) ∧ (isT (insX en (n, d) U) tm2 tN2 tD2))) 0 0 (AA G) := by
  refine Met.ofW (cc := cX9_addTime) (maxL := 8) (ret := none) (by decide) rfl ?_
  intro p e s m args below meth c s₁ B hml hv
  obtain ⟨rfl, hP, hK⟩ := hv
  have hx := B.exec
  have hb := B.bytes
  have hr := B.returns
  have hts := atoms_spec (ws := wsX9_addTime) B.pre
  have hown : s.vm.findClass RX9 = some m.cls := findClass_of_methodNamed B.named
  have hlocks := B.notSynchronized
  have hS : va_S (AA G) s.heap s.heap [] := va_S.rf
  have hAA : ∀ q, AA G q → AA G q := fun _ h => h
  have hl := lv_entry ([.ref (gad G 59), .long (jN n), .long (jN d), .int (iN en)]) (n := 8) (Nat.le_of_ble_eq_true rfl)
  rw [lg_entry_eq]
  generalize (lg_sl ([.ref (gad G 59), .long (jN n), .long (jN d), .int (iN en)]) ++ List.replicate (8 - (lg_sl ([.ref (gad G 59), .long (jN n), .long (jN d), .int (iN en)])).length) Slot.unset).toArray = ls at hl ⊢
  have hl : lv_has ls 8 [(0, .ref (gad G 59)), (1, .long (jN n)), (3, .long (jN d)), (5, .int (iN en))] := hl
  have hmt : tm < 700 := by rw [p0.1]; exact p1
  have hmd := mb6 (a := en) (b := d) (by omega) (by omega)
  refine lv_lload_n hx hb dX9_addTime_0 rfl (lv_at hl 1 rfl) ?_
  refine n_lconst (z := 0) hx hb dX9_addTime_1 (by decide) ?_
  refine n_lcmp hx hb (by omega) (by omega) (by omega) (by omega) dX9_addTime_2 ?_
  refine n_ifc_lt (tgt := 16) hx hb dX9_addTime_3 (by decide) (fun c_3 => ?_) (fun c_3 => ?_)
  · exact r_v hx hb hr dX9_addTime_16 hlocks hP hS (⟨tm, tN, tD, (fun k _ _ _ => rfl), e0, e1, e2, (by rw [show insX en (n, d) U = U from if_pos (show n < 0 ∨ en * d < n by omega)]; exact p0)⟩)
  · refine lv_lload_n hx hb dX9_addTime_6 rfl (lv_at hl 1 rfl) ?_
    refine lv_iload hx hb dX9_addTime_7 (lv_at hl 3 rfl) ?_
    refine n_i2l hx hb (by omega) (by omega) dX9_addTime_9 ?_
    refine lv_lload_n hx hb dX9_addTime_10 rfl (lv_at hl 2 rfl) ?_
    refine n_lmul hx hb dX9_addTime_11 ?_
    refine n_lcmp hx hb (by omega) (by omega) (by omega) (by omega) dX9_addTime_12 ?_
    refine n_ifc_le (tgt := 17) hx hb dX9_addTime_13 (by decide) (fun c_13 => ?_) (fun c_13 => ?_)
    · have K92 : ∀ (q : Nat) (ls : Array Slot), (q ≤ tm) → (spotP (fun k => decide (n * tD k < tN k * d)) tm = q) → (¬ (0 < q ∧ n * tD (q - 1) = tN (q - 1) * d)) → lv_has ls 8 [(0, .ref (gad G 59)), (1, .long (jN n)), (3, .long (jN d)), (5, .int (iN en)), (6, .int (iN ((q : Nat) : Int)))] → W p l e (headSpec wsX9_addTime ({ frames := 0, cells := 0, slots := 0, locals := 0 })).room s m (([.ref (gad G 59), .long (jN n), .long (jN d), .int (iN en)] : List Value).toArray) below meth c s.heap [] 0 0 (MQ below (QV G (fun w1 => ∃ (tm2 : Nat) (tN2 : Nat → Int) (tD2 : Nat → Int), (∀ k : Nat, k ≠ 59 → k ≠ 71 → k ≠ 72 → w1 k = w k) ∧ w1 59 = .inr (8, [.int (iN ((now : Nat) : Int)), .int (iN ((came : Nat) : Int)), .ref (gad G 60), .ref (gad G 61), .ref (gad G 62), .ref (gad G 63), .ref (gad G 64), .ref (gad G 65), .int (iN ((rm : Nat) : Int)), .int (iN ((mt : Nat) : Int)), .ref (gad G 66), .ref (gad G 67), .ref (gad G 68), .ref (gad G 69), .ref (gad G 70), .int (iN ((tm2 : Nat) : Int)), .ref (gad G 71), .ref (gad G 72), .int (iN thg), .int (iN onn), .int (iN two), .long (jN lw), .long (jN hg), .int (iN ((sq : Nat) : Int)), .ref (gad G 73), .ref (gad G 74)]) ∧ w1 71 = .inl (gJ G, 700, .inr (.inl (aJ tN2))) ∧ w1 72 = .inl (gJ G, 700, .inr (.inl (aJ tD2))) ∧ (isT (insX en (n, d) U) tm2 tN2 tD2))) (([.ref (gad G 59), .long (jN n), .long (jN d), .int (iN en)] : List Value).toArray) s 0 0 (AA G)) (F0 m 92 ls []) := by
        intro q ls i92_0 i92_1 i92_2 hl
        refine lv_aload_n hx hb dX9_addTime_92 rfl (lv_at hl 0 rfl) ?_
        refine f_get (C := RX9) (T := TX9) (N := 26) hx hb hts (by decide +kernel) hown hK hP 59 (by omega) e0 rfl 15 (by decide) (hts (.fieldLink RX9 171 "KeptMovingModel" "times" "I") (by decide +kernel)) (fun _ h9 => h9) rfl dX9_addTime_93 ?_
        refine lv_istore (lv' := [(7, .int (iN ((tm : Nat) : Int))), (0, .ref (gad G 59)), (1, .long (jN n)), (3, .long (jN d)), (5, .int (iN en)), (6, .int (iN ((q : Nat) : Int)))]) hx hb dX9_addTime_96 hl (by decide) rfl (fun ls hl => ?_)
        have K98 : ∀ (N : Nat) (r : Nat) (w2 : WF) (H : Heap) (locs : List Loc) (ls : Array Slot), (q ≤ r ∧ r ≤ tm) → r < N → w2 71 = .inl (gJ G, 700, .inr (.inl (aJ (shF tN r tm)))) → w2 72 = .inl (gJ G, 700, .inr (.inl (aJ (shF tD r tm)))) → (∀ k : Nat, k ≠ 71 → k ≠ 72 → w2 k = w k) → PW G w2 H → va_S (AA G) s.heap H locs → lv_has ls 8 [(0, .ref (gad G 59)), (1, .long (jN n)), (3, .long (jN d)), (5, .int (iN en)), (6, .int (iN ((q : Nat) : Int))), (7, .int (iN ((r : Nat) : Int)))] → W p l e (headSpec wsX9_addTime ({ frames := 0, cells := 0, slots := 0, locals := 0 })).room s m (([.ref (gad G 59), .long (jN n), .long (jN d), .int (iN en)] : List Value).toArray) below meth c H locs 0 0 (MQ below (QV G (fun w1 => ∃ (tm2 : Nat) (tN2 : Nat → Int) (tD2 : Nat → Int), (∀ k : Nat, k ≠ 59 → k ≠ 71 → k ≠ 72 → w1 k = w k) ∧ w1 59 = .inr (8, [.int (iN ((now : Nat) : Int)), .int (iN ((came : Nat) : Int)), .ref (gad G 60), .ref (gad G 61), .ref (gad G 62), .ref (gad G 63), .ref (gad G 64), .ref (gad G 65), .int (iN ((rm : Nat) : Int)), .int (iN ((mt : Nat) : Int)), .ref (gad G 66), .ref (gad G 67), .ref (gad G 68), .ref (gad G 69), .ref (gad G 70), .int (iN ((tm2 : Nat) : Int)), .ref (gad G 71), .ref (gad G 72), .int (iN thg), .int (iN onn), .int (iN two), .long (jN lw), .long (jN hg), .int (iN ((sq : Nat) : Int)), .ref (gad G 73), .ref (gad G 74)]) ∧ w1 71 = .inl (gJ G, 700, .inr (.inl (aJ tN2))) ∧ w1 72 = .inl (gJ G, 700, .inr (.inl (aJ tD2))) ∧ (isT (insX en (n, d) U) tm2 tN2 tD2))) (([.ref (gad G 59), .long (jN n), .long (jN d), .int (iN en)] : List Value).toArray) s 0 0 (AA G)) (F0 m 98 ls []) := by
          intro N
          induction N with
          | zero =>
            intros
            exfalso
            omega
          | succ N ih98 =>
            intro r w2 H locs ls i98_0 hN98 f98_0 f98_1 hfr98 hP hS hl
            have e_1 : w2 59 = .inr (8, [.int (iN ((now : Nat) : Int)), .int (iN ((came : Nat) : Int)), .ref (gad G 60), .ref (gad G 61), .ref (gad G 62), .ref (gad G 63), .ref (gad G 64), .ref (gad G 65), .int (iN ((rm : Nat) : Int)), .int (iN ((mt : Nat) : Int)), .ref (gad G 66), .ref (gad G 67), .ref (gad G 68), .ref (gad G 69), .ref (gad G 70), .int (iN ((tm : Nat) : Int)), .ref (gad G 71), .ref (gad G 72), .int (iN thg), .int (iN onn), .int (iN two), .long (jN lw), .long (jN hg), .int (iN ((sq : Nat) : Int)), .ref (gad G 73), .ref (gad G 74)]) := by rw [hfr98 59 (by omega) (by omega)]; exact e0
            refine lv_iload hx hb dX9_addTime_98 (lv_at hl 5 rfl) ?_
            refine lv_iload hx hb dX9_addTime_100 (lv_at hl 4 rfl) ?_
            refine n_icmp_le (tgt := 143) hx hb dX9_addTime_102 (by decide) (by omega) (by omega) (by omega) (by omega) (fun c_102 => ?_) (fun c_102 => ?_)
            · refine lv_aload_n hx hb dX9_addTime_143 rfl (lv_at hl 0 rfl) ?_
              refine f_get (C := RX9) (T := TX9) (N := 26) hx hb hts (by decide +kernel) hown hK hP 59 (by omega) e_1 rfl 16 (by decide) (hts (.fieldLink RX9 45 "KeptMovingModel" "timeN" "[J") (by decide +kernel)) (fun _ h9 => h9) rfl dX9_addTime_144 ?_
              refine lv_iload hx hb dX9_addTime_147 (lv_at hl 4 rfl) ?_
              refine lv_lload_n hx hb dX9_addTime_149 rfl (lv_at hl 1 rfl) ?_
              refine n_last hx hb hK hP hS hAA 71 (by omega) f98_0 (fun _ => rfl) q rfl (by omega) (by decide) dX9_addTime_150 (fun H locs hP hS => ?_)
              obtain ⟨w_2, hw_3⟩ : ∃ z : WF, z = va_up w2 71 (.inl (gJ G, 700, .inr (.inl (aJ (va_up (shF tN r tm) q n))))) := ⟨_, rfl⟩
              rw [← hw_3] at hP
              have fr_4 : ∀ k : Nat, k ≠ 71 → w_2 k = w2 k := fun k h => by rw [hw_3]; exact va_up_ne _ _ h
              have e_5 : w_2 71 = .inl (gJ G, 700, .inr (.inl (aJ (va_up (shF tN r tm) q n)))) := by rw [hw_3]; exact va_up_self _ _ _
              have e_6 : w_2 72 = .inl (gJ G, 700, .inr (.inl (aJ (shF tD r tm)))) := (fr_4 72 (by omega)).trans f98_1
              have e_7 : w_2 59 = .inr (8, [.int (iN ((now : Nat) : Int)), .int (iN ((came : Nat) : Int)), .ref (gad G 60), .ref (gad G 61), .ref (gad G 62), .ref (gad G 63), .ref (gad G 64), .ref (gad G 65), .int (iN ((rm : Nat) : Int)), .int (iN ((mt : Nat) : Int)), .ref (gad G 66), .ref (gad G 67), .ref (gad G 68), .ref (gad G 69), .ref (gad G 70), .int (iN ((tm : Nat) : Int)), .ref (gad G 71), .ref (gad G 72), .int (iN thg), .int (iN onn), .int (iN two), .long (jN lw), .long (jN hg), .int (iN ((sq : Nat) : Int)), .ref (gad G 73), .ref (gad G 74)]) := (fr_4 59 (by omega)).trans e_1
              refine lv_aload_n hx hb dX9_addTime_151 rfl (lv_at hl 0 rfl) ?_
              refine f_get (C := RX9) (T := TX9) (N := 26) hx hb hts (by decide +kernel) hown hK hP 59 (by omega) e_7 rfl 17 (by decide) (hts (.fieldLink RX9 48 "KeptMovingModel" "timeD" "[J") (by decide +kernel)) (fun _ h9 => h9) rfl dX9_addTime_152 ?_
              refine lv_iload hx hb dX9_addTime_155 (lv_at hl 4 rfl) ?_
              refine lv_lload_n hx hb dX9_addTime_157 rfl (lv_at hl 2 rfl) ?_
              refine n_last hx hb hK hP hS hAA 72 (by omega) e_6 (fun _ => rfl) q rfl (by omega) (by decide) dX9_addTime_158 (fun H locs hP hS => ?_)
              obtain ⟨w_8, hw_9⟩ : ∃ z : WF, z = va_up w_2 72 (.inl (gJ G, 700, .inr (.inl (aJ (va_up (shF tD r tm) q d))))) := ⟨_, rfl⟩
              rw [← hw_9] at hP
              have fr_10 : ∀ k : Nat, k ≠ 72 → w_8 k = w_2 k := fun k h => by rw [hw_9]; exact va_up_ne _ _ h
              have e_11 : w_8 71 = .inl (gJ G, 700, .inr (.inl (aJ (va_up (shF tN r tm) q n)))) := (fr_10 71 (by omega)).trans e_5
              have e_12 : w_8 72 = .inl (gJ G, 700, .inr (.inl (aJ (va_up (shF tD r tm) q d)))) := by rw [hw_9]; exact va_up_self _ _ _
              have e_13 : w_8 59 = .inr (8, [.int (iN ((now : Nat) : Int)), .int (iN ((came : Nat) : Int)), .ref (gad G 60), .ref (gad G 61), .ref (gad G 62), .ref (gad G 63), .ref (gad G 64), .ref (gad G 65), .int (iN ((rm : Nat) : Int)), .int (iN ((mt : Nat) : Int)), .ref (gad G 66), .ref (gad G 67), .ref (gad G 68), .ref (gad G 69), .ref (gad G 70), .int (iN ((tm : Nat) : Int)), .ref (gad G 71), .ref (gad G 72), .int (iN thg), .int (iN onn), .int (iN two), .long (jN lw), .long (jN hg), .int (iN ((sq : Nat) : Int)), .ref (gad G 73), .ref (gad G 74)]) := (fr_10 59 (by omega)).trans e_7
              refine lv_aload_n hx hb dX9_addTime_159 rfl (lv_at hl 0 rfl) ?_
              refine lv_dup hx hb dX9_addTime_160 rfl ?_
              refine f_get (C := RX9) (T := TX9) (N := 26) hx hb hts (by decide +kernel) hown hK hP 59 (by omega) e_13 rfl 15 (by decide) (hts (.fieldLink RX9 171 "KeptMovingModel" "times" "I") (by decide +kernel)) (fun _ h9 => h9) rfl dX9_addTime_161 ?_
              refine n_iconst hx hb dX9_addTime_164 ?_
              refine n_iadd hx hb dX9_addTime_165 ?_
              refine n_top (A := ((tm : Nat) : Int) + 1) (B := ((tm + 1 : Nat) : Int)) (by omega) ?_
              refine f_put (v := .int (iN ((tm + 1 : Nat) : Int))) (ty := .int) (C := RX9) (T := TX9) (N := 26) hx hb hts (by decide +kernel) tyX9 tyX9_ok nmX9 hown hK hP hS hAA 59 (by omega) e_13 rfl 15 (by decide) (hts (.fieldLink RX9 171 "KeptMovingModel" "times" "I") (by decide +kernel)) (fun _ h9 => h9) rfl (by decide +kernel) (rfl) (rfl) (Nat.le_of_ble_eq_true rfl) (rfl) dX9_addTime_166 (fun H locs hP hS => ?_)
              have hP : PW G (va_up w_8 59 (.inr (8, [.int (iN ((now : Nat) : Int)), .int (iN ((came : Nat) : Int)), .ref (gad G 60), .ref (gad G 61), .ref (gad G 62), .ref (gad G 63), .ref (gad G 64), .ref (gad G 65), .int (iN ((rm : Nat) : Int)), .int (iN ((mt : Nat) : Int)), .ref (gad G 66), .ref (gad G 67), .ref (gad G 68), .ref (gad G 69), .ref (gad G 70), .int (iN ((tm + 1 : Nat) : Int)), .ref (gad G 71), .ref (gad G 72), .int (iN thg), .int (iN onn), .int (iN two), .long (jN lw), .long (jN hg), .int (iN ((sq : Nat) : Int)), .ref (gad G 73), .ref (gad G 74)]))) H := hP
              obtain ⟨w_14, hw_15⟩ : ∃ z : WF, z = va_up w_8 59 (.inr (8, [.int (iN ((now : Nat) : Int)), .int (iN ((came : Nat) : Int)), .ref (gad G 60), .ref (gad G 61), .ref (gad G 62), .ref (gad G 63), .ref (gad G 64), .ref (gad G 65), .int (iN ((rm : Nat) : Int)), .int (iN ((mt : Nat) : Int)), .ref (gad G 66), .ref (gad G 67), .ref (gad G 68), .ref (gad G 69), .ref (gad G 70), .int (iN ((tm + 1 : Nat) : Int)), .ref (gad G 71), .ref (gad G 72), .int (iN thg), .int (iN onn), .int (iN two), .long (jN lw), .long (jN hg), .int (iN ((sq : Nat) : Int)), .ref (gad G 73), .ref (gad G 74)])) := ⟨_, rfl⟩
              rw [← hw_15] at hP
              have fr_16 : ∀ k : Nat, k ≠ 59 → w_14 k = w_8 k := fun k h => by rw [hw_15]; exact va_up_ne _ _ h
              have e_17 : w_14 71 = .inl (gJ G, 700, .inr (.inl (aJ (va_up (shF tN r tm) q n)))) := (fr_16 71 (by omega)).trans e_11
              have e_18 : w_14 72 = .inl (gJ G, 700, .inr (.inl (aJ (va_up (shF tD r tm) q d)))) := (fr_16 72 (by omega)).trans e_12
              have e_19 : w_14 59 = .inr (8, [.int (iN ((now : Nat) : Int)), .int (iN ((came : Nat) : Int)), .ref (gad G 60), .ref (gad G 61), .ref (gad G 62), .ref (gad G 63), .ref (gad G 64), .ref (gad G 65), .int (iN ((rm : Nat) : Int)), .int (iN ((mt : Nat) : Int)), .ref (gad G 66), .ref (gad G 67), .ref (gad G 68), .ref (gad G 69), .ref (gad G 70), .int (iN ((tm + 1 : Nat) : Int)), .ref (gad G 71), .ref (gad G 72), .int (iN thg), .int (iN onn), .int (iN two), .long (jN lw), .long (jN hg), .int (iN ((sq : Nat) : Int)), .ref (gad G 73), .ref (gad G 74)]) := by rw [hw_15]; exact va_up_self _ _ _
              exact r_v hx hb hr dX9_addTime_169 hlocks hP hS (⟨tm + 1, insF tN q tm n, insF tD q tm d, (fun k h0 h1 h2 => ((((((fr_16 k (by omega)).trans (fr_10 k (by omega)))).trans (fr_4 k (by omega)))).trans (hfr98 k (by omega) (by omega)))), e_19, (by have hz := e_17; rw [show r = q by omega, shF_end (by omega)] at hz; exact hz), (by have hz := e_18; rw [show r = q by omega, shF_end (by omega)] at hz; exact hz), (insX_new p0 i92_1 i92_0 i92_2 (by omega) p2 (by omega))⟩)
            · refine lv_aload_n hx hb dX9_addTime_105 rfl (lv_at hl 0 rfl) ?_
              refine f_get (C := RX9) (T := TX9) (N := 26) hx hb hts (by decide +kernel) hown hK hP 59 (by omega) e_1 rfl 16 (by decide) (hts (.fieldLink RX9 45 "KeptMovingModel" "timeN" "[J") (by decide +kernel)) (fun _ h9 => h9) rfl dX9_addTime_106 ?_
              refine lv_iload hx hb dX9_addTime_109 (lv_at hl 5 rfl) ?_
              refine lv_aload_n hx hb dX9_addTime_111 rfl (lv_at hl 0 rfl) ?_
              refine f_get (C := RX9) (T := TX9) (N := 26) hx hb hts (by decide +kernel) hown hK hP 59 (by omega) e_1 rfl 16 (by decide) (hts (.fieldLink RX9 45 "KeptMovingModel" "timeN" "[J") (by decide +kernel)) (fun _ h9 => h9) rfl dX9_addTime_112 ?_
              refine lv_iload hx hb dX9_addTime_115 (lv_at hl 5 rfl) ?_
              refine n_iconst hx hb dX9_addTime_117 ?_
              refine n_isub hx hb dX9_addTime_118 ?_
              refine n_top (A := ((r : Nat) : Int) - 1) (B := ((r - 1 : Nat) : Int)) (by omega) ?_
              refine n_lald hx hb hK hP 71 (by omega) f98_0 (r - 1) rfl (by omega) (by decide) dX9_addTime_119 ?_
              refine n_last hx hb hK hP hS hAA 71 (by omega) f98_0 (fun _ => rfl) r rfl (by omega) (by decide) dX9_addTime_120 (fun H locs hP hS => ?_)
              obtain ⟨w_20, hw_21⟩ : ∃ z : WF, z = va_up w2 71 (.inl (gJ G, 700, .inr (.inl (aJ (va_up (shF tN r tm) r ((shF tN r tm) (r - 1))))))) := ⟨_, rfl⟩
              rw [← hw_21] at hP
              have fr_22 : ∀ k : Nat, k ≠ 71 → w_20 k = w2 k := fun k h => by rw [hw_21]; exact va_up_ne _ _ h
              have e_23 : w_20 71 = .inl (gJ G, 700, .inr (.inl (aJ (va_up (shF tN r tm) r ((shF tN r tm) (r - 1)))))) := by rw [hw_21]; exact va_up_self _ _ _
              have e_24 : w_20 72 = .inl (gJ G, 700, .inr (.inl (aJ (shF tD r tm)))) := (fr_22 72 (by omega)).trans f98_1
              have e_25 : w_20 59 = .inr (8, [.int (iN ((now : Nat) : Int)), .int (iN ((came : Nat) : Int)), .ref (gad G 60), .ref (gad G 61), .ref (gad G 62), .ref (gad G 63), .ref (gad G 64), .ref (gad G 65), .int (iN ((rm : Nat) : Int)), .int (iN ((mt : Nat) : Int)), .ref (gad G 66), .ref (gad G 67), .ref (gad G 68), .ref (gad G 69), .ref (gad G 70), .int (iN ((tm : Nat) : Int)), .ref (gad G 71), .ref (gad G 72), .int (iN thg), .int (iN onn), .int (iN two), .long (jN lw), .long (jN hg), .int (iN ((sq : Nat) : Int)), .ref (gad G 73), .ref (gad G 74)]) := (fr_22 59 (by omega)).trans e_1
              refine lv_aload_n hx hb dX9_addTime_121 rfl (lv_at hl 0 rfl) ?_
              refine f_get (C := RX9) (T := TX9) (N := 26) hx hb hts (by decide +kernel) hown hK hP 59 (by omega) e_25 rfl 17 (by decide) (hts (.fieldLink RX9 48 "KeptMovingModel" "timeD" "[J") (by decide +kernel)) (fun _ h9 => h9) rfl dX9_addTime_122 ?_
              refine lv_iload hx hb dX9_addTime_125 (lv_at hl 5 rfl) ?_
              refine lv_aload_n hx hb dX9_addTime_127 rfl (lv_at hl 0 rfl) ?_
              refine f_get (C := RX9) (T := TX9) (N := 26) hx hb hts (by decide +kernel) hown hK hP 59 (by omega) e_25 rfl 17 (by decide) (hts (.fieldLink RX9 48 "KeptMovingModel" "timeD" "[J") (by decide +kernel)) (fun _ h9 => h9) rfl dX9_addTime_128 ?_
              refine lv_iload hx hb dX9_addTime_131 (lv_at hl 5 rfl) ?_
              refine n_iconst hx hb dX9_addTime_133 ?_
              refine n_isub hx hb dX9_addTime_134 ?_
              refine n_top (A := ((r : Nat) : Int) - 1) (B := ((r - 1 : Nat) : Int)) (by omega) ?_
              refine n_lald hx hb hK hP 72 (by omega) e_24 (r - 1) rfl (by omega) (by decide) dX9_addTime_135 ?_
              refine n_last hx hb hK hP hS hAA 72 (by omega) e_24 (fun _ => rfl) r rfl (by omega) (by decide) dX9_addTime_136 (fun H locs hP hS => ?_)
              obtain ⟨w_26, hw_27⟩ : ∃ z : WF, z = va_up w_20 72 (.inl (gJ G, 700, .inr (.inl (aJ (va_up (shF tD r tm) r ((shF tD r tm) (r - 1))))))) := ⟨_, rfl⟩
              rw [← hw_27] at hP
              have fr_28 : ∀ k : Nat, k ≠ 72 → w_26 k = w_20 k := fun k h => by rw [hw_27]; exact va_up_ne _ _ h
              have e_29 : w_26 71 = .inl (gJ G, 700, .inr (.inl (aJ (va_up (shF tN r tm) r ((shF tN r tm) (r - 1)))))) := (fr_28 71 (by omega)).trans e_23
              have e_30 : w_26 72 = .inl (gJ G, 700, .inr (.inl (aJ (va_up (shF tD r tm) r ((shF tD r tm) (r - 1)))))) := by rw [hw_27]; exact va_up_self _ _ _
              have e_31 : w_26 59 = .inr (8, [.int (iN ((now : Nat) : Int)), .int (iN ((came : Nat) : Int)), .ref (gad G 60), .ref (gad G 61), .ref (gad G 62), .ref (gad G 63), .ref (gad G 64), .ref (gad G 65), .int (iN ((rm : Nat) : Int)), .int (iN ((mt : Nat) : Int)), .ref (gad G 66), .ref (gad G 67), .ref (gad G 68), .ref (gad G 69), .ref (gad G 70), .int (iN ((tm : Nat) : Int)), .ref (gad G 71), .ref (gad G 72), .int (iN thg), .int (iN onn), .int (iN two), .long (jN lw), .long (jN hg), .int (iN ((sq : Nat) : Int)), .ref (gad G 73), .ref (gad G 74)]) := (fr_28 59 (by omega)).trans e_25
              refine lv_iinc (v := iN ((r - 1 : Nat) : Int)) (lv' := [(7, .int (iN ((r - 1 : Nat) : Int))), (0, .ref (gad G 59)), (1, .long (jN n)), (3, .long (jN d)), (5, .int (iN en)), (6, .int (iN ((q : Nat) : Int)))]) hx hb dX9_addTime_137 hl (k := 5) rfl (iN_decN (by omega)) (by decide) rfl (fun ls hl => ?_)
              refine lv_goto (tgt := 98) hx hb dX9_addTime_140 (by decide) ?_
              exact ih98 (r - 1) w_26 _ _ _ (by omega) (by omega) (e_29.trans (by rw [shF_step (by omega) (by omega)])) (e_30.trans (by rw [shF_step (by omega) (by omega)])) (fun k h0 h1 => ((((fr_28 k (by omega)).trans (fr_22 k (by omega)))).trans (hfr98 k (by omega) (by omega)))) hP hS (lv_sub hl [1, 2, 3, 4, 5, 0] rfl)
        exact K98 (tm + 1) (tm) w _ _ _ (by omega) (by omega) (e1.trans (by rw [shF_0])) (e2.trans (by rw [shF_0])) (fun k _ _ => rfl) hP hS (lv_sub hl [1, 2, 3, 4, 5, 0] rfl)
      have K60 : ∀ (q : Nat) (ls : Array Slot), (q ≤ tm) → (spotP (fun k => decide (n * tD k < tN k * d)) tm = q) → lv_has ls 8 [(0, .ref (gad G 59)), (1, .long (jN n)), (3, .long (jN d)), (5, .int (iN en)), (6, .int (iN ((q : Nat) : Int)))] → W p l e (headSpec wsX9_addTime ({ frames := 0, cells := 0, slots := 0, locals := 0 })).room s m (([.ref (gad G 59), .long (jN n), .long (jN d), .int (iN en)] : List Value).toArray) below meth c s.heap [] 0 0 (MQ below (QV G (fun w1 => ∃ (tm2 : Nat) (tN2 : Nat → Int) (tD2 : Nat → Int), (∀ k : Nat, k ≠ 59 → k ≠ 71 → k ≠ 72 → w1 k = w k) ∧ w1 59 = .inr (8, [.int (iN ((now : Nat) : Int)), .int (iN ((came : Nat) : Int)), .ref (gad G 60), .ref (gad G 61), .ref (gad G 62), .ref (gad G 63), .ref (gad G 64), .ref (gad G 65), .int (iN ((rm : Nat) : Int)), .int (iN ((mt : Nat) : Int)), .ref (gad G 66), .ref (gad G 67), .ref (gad G 68), .ref (gad G 69), .ref (gad G 70), .int (iN ((tm2 : Nat) : Int)), .ref (gad G 71), .ref (gad G 72), .int (iN thg), .int (iN onn), .int (iN two), .long (jN lw), .long (jN hg), .int (iN ((sq : Nat) : Int)), .ref (gad G 73), .ref (gad G 74)]) ∧ w1 71 = .inl (gJ G, 700, .inr (.inl (aJ tN2))) ∧ w1 72 = .inl (gJ G, 700, .inr (.inl (aJ tD2))) ∧ (isT (insX en (n, d) U) tm2 tN2 tD2))) (([.ref (gad G 59), .long (jN n), .long (jN d), .int (iN en)] : List Value).toArray) s 0 0 (AA G)) (F0 m 60 ls []) := by
        intro q ls i60_0 i60_1 hl
        refine lv_iload hx hb dX9_addTime_60 (lv_at hl 4 rfl) ?_
        refine n_if_le (tgt := 92) hx hb dX9_addTime_62 (by decide) (by omega) (by omega) (fun c_62 => ?_) (fun c_62 => ?_)
        · exact K92 (q) _ (i60_0) (i60_1) (fun z => by have := z.1; omega) (lv_sub hl [0, 1, 2, 3, 4] rfl)
        · have hbq := isT_bd p0 (q - 1) (by omega)
          have hm1 := mb6 (a := n) (b := tD (q - 1)) (by omega) (by omega)
          have hm2 := mb6 (a := tN (q - 1)) (b := d) (by omega) (by omega)
          refine lv_lload_n hx hb dX9_addTime_65 rfl (lv_at hl 1 rfl) ?_
          refine lv_aload_n hx hb dX9_addTime_66 rfl (lv_at hl 0 rfl) ?_
          refine f_get (C := RX9) (T := TX9) (N := 26) hx hb hts (by decide +kernel) hown hK hP 59 (by omega) e0 rfl 17 (by decide) (hts (.fieldLink RX9 48 "KeptMovingModel" "timeD" "[J") (by decide +kernel)) (fun _ h9 => h9) rfl dX9_addTime_67 ?_
          refine lv_iload hx hb dX9_addTime_70 (lv_at hl 4 rfl) ?_
          refine n_iconst hx hb dX9_addTime_72 ?_
          refine n_isub hx hb dX9_addTime_73 ?_
          refine n_top (A := ((q : Nat) : Int) - 1) (B := ((q - 1 : Nat) : Int)) (by omega) ?_
          refine n_lald hx hb hK hP 72 (by omega) e2 (q - 1) rfl (by omega) (by decide) dX9_addTime_74 ?_
          refine n_lmul hx hb dX9_addTime_75 ?_
          refine lv_aload_n hx hb dX9_addTime_76 rfl (lv_at hl 0 rfl) ?_
          refine f_get (C := RX9) (T := TX9) (N := 26) hx hb hts (by decide +kernel) hown hK hP 59 (by omega) e0 rfl 16 (by decide) (hts (.fieldLink RX9 45 "KeptMovingModel" "timeN" "[J") (by decide +kernel)) (fun _ h9 => h9) rfl dX9_addTime_77 ?_
          refine lv_iload hx hb dX9_addTime_80 (lv_at hl 4 rfl) ?_
          refine n_iconst hx hb dX9_addTime_82 ?_
          refine n_isub hx hb dX9_addTime_83 ?_
          refine n_top (A := ((q : Nat) : Int) - 1) (B := ((q - 1 : Nat) : Int)) (by omega) ?_
          refine n_lald hx hb hK hP 71 (by omega) e1 (q - 1) rfl (by omega) (by decide) dX9_addTime_84 ?_
          refine lv_lload_n hx hb dX9_addTime_85 rfl (lv_at hl 2 rfl) ?_
          refine n_lmul hx hb dX9_addTime_86 ?_
          refine n_lcmp hx hb (by omega) (by omega) (by omega) (by omega) dX9_addTime_87 ?_
          refine n_ifc_ne (tgt := 92) hx hb dX9_addTime_88 (by decide) (fun c_88 => ?_) (fun c_88 => ?_)
          · exact K92 (q) _ (i60_0) (i60_1) (fun z => c_88 z.2) (lv_sub hl [0, 1, 2, 3, 4] rfl)
          · exact r_v hx hb hr dX9_addTime_91 hlocks hP hS (⟨tm, tN, tD, (fun k _ _ _ => rfl), e0, e1, e2, (by rw [insX_dup p0 i60_1 (by omega) i60_0 c_88 (by omega)]; exact p0)⟩)
      have K23 : ∀ (N : Nat) (q : Nat) (ls : Array Slot), (q ≤ tm) → (spotP (fun k => decide (n * tD k < tN k * d)) q = spotP (fun k => decide (n * tD k < tN k * d)) tm) → q < N → lv_has ls 8 [(0, .ref (gad G 59)), (1, .long (jN n)), (3, .long (jN d)), (5, .int (iN en)), (6, .int (iN ((q : Nat) : Int)))] → W p l e (headSpec wsX9_addTime ({ frames := 0, cells := 0, slots := 0, locals := 0 })).room s m (([.ref (gad G 59), .long (jN n), .long (jN d), .int (iN en)] : List Value).toArray) below meth c s.heap [] 0 0 (MQ below (QV G (fun w1 => ∃ (tm2 : Nat) (tN2 : Nat → Int) (tD2 : Nat → Int), (∀ k : Nat, k ≠ 59 → k ≠ 71 → k ≠ 72 → w1 k = w k) ∧ w1 59 = .inr (8, [.int (iN ((now : Nat) : Int)), .int (iN ((came : Nat) : Int)), .ref (gad G 60), .ref (gad G 61), .ref (gad G 62), .ref (gad G 63), .ref (gad G 64), .ref (gad G 65), .int (iN ((rm : Nat) : Int)), .int (iN ((mt : Nat) : Int)), .ref (gad G 66), .ref (gad G 67), .ref (gad G 68), .ref (gad G 69), .ref (gad G 70), .int (iN ((tm2 : Nat) : Int)), .ref (gad G 71), .ref (gad G 72), .int (iN thg), .int (iN onn), .int (iN two), .long (jN lw), .long (jN hg), .int (iN ((sq : Nat) : Int)), .ref (gad G 73), .ref (gad G 74)]) ∧ w1 71 = .inl (gJ G, 700, .inr (.inl (aJ tN2))) ∧ w1 72 = .inl (gJ G, 700, .inr (.inl (aJ tD2))) ∧ (isT (insX en (n, d) U) tm2 tN2 tD2))) (([.ref (gad G 59), .long (jN n), .long (jN d), .int (iN en)] : List Value).toArray) s 0 0 (AA G)) (F0 m 23 ls []) := by
        intro N
        induction N with
        | zero =>
          intros
          exfalso
          omega
        | succ N ih23 =>
          intro q ls i23_0 i23_1 hN23 hl
          refine lv_iload hx hb dX9_addTime_23 (lv_at hl 4 rfl) ?_
          refine n_if_le (tgt := 60) hx hb dX9_addTime_25 (by decide) (by omega) (by omega) (fun c_25 => ?_) (fun c_25 => ?_)
          · exact K60 (q) _ (by omega) (by rw [← i23_1]; exact spot_end (Or.inl (by omega))) (lv_sub hl [0, 1, 2, 3, 4] rfl)
          · have hbq := isT_bd p0 (q - 1) (by omega)
            have hm1 := mb6 (a := n) (b := tD (q - 1)) (by omega) (by omega)
            have hm2 := mb6 (a := tN (q - 1)) (b := d) (by omega) (by omega)
            refine lv_lload_n hx hb dX9_addTime_28 rfl (lv_at hl 1 rfl) ?_
            refine lv_aload_n hx hb dX9_addTime_29 rfl (lv_at hl 0 rfl) ?_
            refine f_get (C := RX9) (T := TX9) (N := 26) hx hb hts (by decide +kernel) hown hK hP 59 (by omega) e0 rfl 17 (by decide) (hts (.fieldLink RX9 48 "KeptMovingModel" "timeD" "[J") (by decide +kernel)) (fun _ h9 => h9) rfl dX9_addTime_30 ?_
            refine lv_iload hx hb dX9_addTime_33 (lv_at hl 4 rfl) ?_
            refine n_iconst hx hb dX9_addTime_35 ?_
            refine n_isub hx hb dX9_addTime_36 ?_
            refine n_top (A := ((q : Nat) : Int) - 1) (B := ((q - 1 : Nat) : Int)) (by omega) ?_
            refine n_lald hx hb hK hP 72 (by omega) e2 (q - 1) rfl (by omega) (by decide) dX9_addTime_37 ?_
            refine n_lmul hx hb dX9_addTime_38 ?_
            refine lv_aload_n hx hb dX9_addTime_39 rfl (lv_at hl 0 rfl) ?_
            refine f_get (C := RX9) (T := TX9) (N := 26) hx hb hts (by decide +kernel) hown hK hP 59 (by omega) e0 rfl 16 (by decide) (hts (.fieldLink RX9 45 "KeptMovingModel" "timeN" "[J") (by decide +kernel)) (fun _ h9 => h9) rfl dX9_addTime_40 ?_
            refine lv_iload hx hb dX9_addTime_43 (lv_at hl 4 rfl) ?_
            refine n_iconst hx hb dX9_addTime_45 ?_
            refine n_isub hx hb dX9_addTime_46 ?_
            refine n_top (A := ((q : Nat) : Int) - 1) (B := ((q - 1 : Nat) : Int)) (by omega) ?_
            refine n_lald hx hb hK hP 71 (by omega) e1 (q - 1) rfl (by omega) (by decide) dX9_addTime_47 ?_
            refine lv_lload_n hx hb dX9_addTime_48 rfl (lv_at hl 2 rfl) ?_
            refine n_lmul hx hb dX9_addTime_49 ?_
            refine n_lcmp hx hb (by omega) (by omega) (by omega) (by omega) dX9_addTime_50 ?_
            refine n_ifc_ge (tgt := 60) hx hb dX9_addTime_51 (by decide) (fun c_51 => ?_) (fun c_51 => ?_)
            · exact K60 (q) _ (by omega) (by rw [← i23_1]; exact spot_end (Or.inr (decide_eq_false (by omega)))) (lv_sub hl [0, 1, 2, 3, 4] rfl)
            · refine lv_iinc (v := iN ((q - 1 : Nat) : Int)) (lv' := [(6, .int (iN ((q - 1 : Nat) : Int))), (0, .ref (gad G 59)), (1, .long (jN n)), (3, .long (jN d)), (5, .int (iN en))]) hx hb dX9_addTime_54 hl (k := 4) rfl (iN_decN (by omega)) (by decide) rfl (fun ls hl => ?_)
              refine lv_goto (tgt := 23) hx hb dX9_addTime_57 (by decide) ?_
              exact ih23 (q - 1) _ (by omega) (by rw [← i23_1]; exact (spot_step (by omega) (decide_eq_true (by omega))).symm) (by omega) (lv_sub hl [1, 2, 3, 4, 0] rfl)
      refine lv_aload_n hx hb dX9_addTime_17 rfl (lv_at hl 0 rfl) ?_
      refine f_get (C := RX9) (T := TX9) (N := 26) hx hb hts (by decide +kernel) hown hK hP 59 (by omega) e0 rfl 15 (by decide) (hts (.fieldLink RX9 171 "KeptMovingModel" "times" "I") (by decide +kernel)) (fun _ h9 => h9) rfl dX9_addTime_18 ?_
      refine lv_istore (lv' := [(6, .int (iN ((tm : Nat) : Int))), (0, .ref (gad G 59)), (1, .long (jN n)), (3, .long (jN d)), (5, .int (iN en))]) hx hb dX9_addTime_21 hl (by decide) rfl (fun ls hl => ?_)
      exact K23 (tm + 1) (tm) _ (by omega) (rfl) (by omega) (lv_sub hl [1, 2, 3, 4, 0] rfl)
    · exact r_v hx hb hr dX9_addTime_16 hlocks hP hS (⟨tm, tN, tD, (fun k _ _ _ => rfl), e0, e1, e2, (by rw [show insX en (n, d) U = U from if_pos (show n < 0 ∨ en * d < n by omega)]; exact p0)⟩)

def btP (S : FS) (en : Int) (i : Nat) : Nat → List TM → List TM
  | 0, L => L
  | p + 1, L => insX en (S.1 i p, 1) (btP S en i p L)
def btI (S : FS) (en : Int) : Nat → List TM
  | 0 => insX en (en, 1) (insX en (0, 1) [])
  | i + 1 => if 0 ≤ S.2.2.2.2 i then insX en (S.2.2.2.2 i, 1) (btP S en i (S.2.2.2.1 i) (btI S en i)) else btP S en i (S.2.2.2.1 i) (btI S en i)
theorem btP_len (S : FS) (en : Int) (i : Nat) (L : List TM) : ∀ p, (btP S en i p L).length ≤ L.length + p
  | 0 => Nat.le_refl _
  | p + 1 => by
    have h1 := btP_len S en i L p
    have h2 := insX_len en (S.1 i p, 1) (btP S en i p L)
    unfold btP
    omega
theorem btI_len {S : FS} {en : Int} {came : Nat} (hn : ∀ i, i < came → S.2.2.2.1 i ≤ 8) : ∀ i, i ≤ came → (btI S en i).length ≤ 2 + 9 * i
  | 0, _ => by
    have h1 := insX_len en (0, 1) []
    have h2 := insX_len en (en, 1) (insX en (0, 1) [])
    show (insX en (en, 1) (insX en (0, 1) [])).length ≤ 2
    simp only [List.length_nil] at h1
    omega
  | i + 1, hi => by
    have h0 := btI_len (en := en) hn i (by omega)
    have h1 := btP_len S en i (btI S en i) (S.2.2.2.1 i)
    have h2 := insX_len en (S.2.2.2.2 i, 1) (btP S en i (S.2.2.2.1 i) (btI S en i))
    have h3 := hn i hi
    unfold btI
    split <;> omega

set_option maxHeartbeats 4000000 in
set_option maxRecDepth 100000 in
theorem c_X9_beginTimes (l : Launch) (G : GE) (w : WF) (now : Nat) (came : Nat) (rm : Nat) (mt : Nat) (tm : Nat) (thg : Int) (onn : Int) (two : Int) (lw : Int) (hg : Int) (sq : Nat) (ga : Nat → Int) (pn : Nat → Nat) (mbe : Nat → Int) (mpl : Nat → Int) (msp : Nat → Int) (tN : Nat → Int) (tD : Nat → Int) (en : Int) (e0 : w 59 = .inr (8, [.int (iN ((now : Nat) : Int)), .int (iN ((came : Nat) : Int)), .ref (gad G 60), .ref (gad G 61), .ref (gad G 62), .ref (gad G 63), .ref (gad G 64), .ref (gad G 65), .int (iN ((rm : Nat) : Int)), .int (iN ((mt : Nat) : Int)), .ref (gad G 66), .ref (gad G 67), .ref (gad G 68), .ref (gad G 69), .ref (gad G 70), .int (iN ((tm : Nat) : Int)), .ref (gad G 71), .ref (gad G 72), .int (iN thg), .int (iN onn), .int (iN two), .long (jN lw), .long (jN hg), .int (iN ((sq : Nat) : Int)), .ref (gad G 73), .ref (gad G 74)])) (e1 : w 60 = .inl (gI G, 10, .inl (aN ga))) (e2 : w 61 = .inl (gI G, 10, .inl (aN (pnI pn)))) (e3 : w 62 = .inl (gI G, 80, .inl (aN mbe))) (e4 : w 63 = .inl (gI G, 80, .inl (aN mpl))) (e5 : w 64 = .inl (gI G, 80, .inl (aN msp))) (e6 : w 71 = .inl (gJ G, 700, .inr (.inl (aJ tN)))) (e7 : w 72 = .inl (gJ G, 700, .inr (.inl (aJ tD)))) (p0 : OKS came (rw8 mbe) (rw8 mpl) (rw8 msp) pn ga) (p1 : 1 ≤ en ∧ en ≤ 600) : Met l yX9_beginTimes wsX9_beginTimes ({ frames := 1, cells := 0, slots := 0, locals := 27 }) (PcG G w [.ref (gad G 59), .int (iN en)]) (QV G (fun w1 => ∃ (tm2 : Nat) (tN2 : Nat → Int) (tD2 : Nat → Int), (∀ k : Nat, k ≠ 59 → k ≠ 71 → k ≠ 72 → w1 k = w k) ∧ w1 59 = .inr (8, [.int (iN ((now : Nat) : Int)), .int (iN ((came : Nat) : Int)), .ref (gad G 60), .ref (gad G 61), .ref (gad G 62), .ref (gad G 63), .ref (gad G 64), .ref (gad G 65), .int (iN ((rm : Nat) : Int)), .int (iN ((mt : Nat) : Int)), .ref (gad G 66), .ref (gad G 67), .ref (gad G 68), .ref (gad G 69), .ref (gad G 70), .int (iN ((tm2 : Nat) : Int)), .ref (gad G 71), .ref (gad G 72), .int (iN thg), .int (iN onn), .int (iN two), .long (jN lw), .long (jN hg), .int (iN ((sq : Nat) : Int)), .ref (gad G 73), .ref (gad G 74)]) ∧ w1 71 = .inl (gJ G, 700, .inr (.inl (aJ tN2))) ∧ w1 72 = .inl (gJ G, 700, .inr (.inl (aJ tD2))) ∧ (isT (btI (rw8 mbe, rw8 mpl, rw8 msp, pn, ga) en came) tm2 tN2 tD2))) 0 0 (AA G) := by
  refine Met.ofW (cc := cX9_beginTimes) (maxL := 4) (ret := none) (by decide) rfl ?_
  intro p e s m args below meth c s₁ B hml hv
  obtain ⟨rfl, hP, hK⟩ := hv
  have hx := B.exec
  have hb := B.bytes
  have hr := B.returns
  have hts := atoms_spec (ws := wsX9_beginTimes) B.pre
  have hown : s.vm.findClass RX9 = some m.cls := findClass_of_methodNamed B.named
  have hlocks := B.notSynchronized
  have hS : va_S (AA G) s.heap s.heap [] := va_S.rf
  have hAA : ∀ q, AA G q → AA G q := fun _ h => h
  have hl := lv_entry ([.ref (gad G 59), .int (iN en)]) (n := 4) (Nat.le_of_ble_eq_true rfl)
  rw [lg_entry_eq]
  generalize (lg_sl ([.ref (gad G 59), .int (iN en)]) ++ List.replicate (4 - (lg_sl ([.ref (gad G 59), .int (iN en)])).length) Slot.unset).toArray = ls at hl ⊢
  have hl : lv_has ls 4 [(0, .ref (gad G 59)), (1, .int (iN en))] := hl
  have hc10 : came ≤ 10 := p0.1
  have hn8 : ∀ i, i < came → pn i ≤ 8 := fun i hi => (p0.2 i hi).1.2
  refine lv_aload_n hx hb dX9_beginTimes_0 rfl (lv_at hl 0 rfl) ?_
  refine n_iconst hx hb dX9_beginTimes_1 ?_
  refine f_put (v := .int (iN 0)) (ty := .int) (C := RX9) (T := TX9) (N := 26) hx hb hts (by decide +kernel) tyX9 tyX9_ok nmX9 hown hK hP hS hAA 59 (by omega) e0 rfl 15 (by decide) (hts (.fieldLink RX9 171 "KeptMovingModel" "times" "I") (by decide +kernel)) (fun _ h9 => h9) rfl (by decide +kernel) (rfl) (rfl) (Nat.le_of_ble_eq_true rfl) (rfl) dX9_beginTimes_2 (fun H locs hP hS => ?_)
  have hP : PW G (va_up w 59 (.inr (8, [.int (iN ((now : Nat) : Int)), .int (iN ((came : Nat) : Int)), .ref (gad G 60), .ref (gad G 61), .ref (gad G 62), .ref (gad G 63), .ref (gad G 64), .ref (gad G 65), .int (iN ((rm : Nat) : Int)), .int (iN ((mt : Nat) : Int)), .ref (gad G 66), .ref (gad G 67), .ref (gad G 68), .ref (gad G 69), .ref (gad G 70), .int (iN 0), .ref (gad G 71), .ref (gad G 72), .int (iN thg), .int (iN onn), .int (iN two), .long (jN lw), .long (jN hg), .int (iN ((sq : Nat) : Int)), .ref (gad G 73), .ref (gad G 74)]))) H := hP
  obtain ⟨w_1, hw_2⟩ : ∃ z : WF, z = va_up w 59 (.inr (8, [.int (iN ((now : Nat) : Int)), .int (iN ((came : Nat) : Int)), .ref (gad G 60), .ref (gad G 61), .ref (gad G 62), .ref (gad G 63), .ref (gad G 64), .ref (gad G 65), .int (iN ((rm : Nat) : Int)), .int (iN ((mt : Nat) : Int)), .ref (gad G 66), .ref (gad G 67), .ref (gad G 68), .ref (gad G 69), .ref (gad G 70), .int (iN 0), .ref (gad G 71), .ref (gad G 72), .int (iN thg), .int (iN onn), .int (iN two), .long (jN lw), .long (jN hg), .int (iN ((sq : Nat) : Int)), .ref (gad G 73), .ref (gad G 74)])) := ⟨_, rfl⟩
  rw [← hw_2] at hP
  have fr_3 : ∀ k : Nat, k ≠ 59 → w_1 k = w k := fun k h => by rw [hw_2]; exact va_up_ne _ _ h
  have e_4 : w_1 59 = .inr (8, [.int (iN ((now : Nat) : Int)), .int (iN ((came : Nat) : Int)), .ref (gad G 60), .ref (gad G 61), .ref (gad G 62), .ref (gad G 63), .ref (gad G 64), .ref (gad G 65), .int (iN ((rm : Nat) : Int)), .int (iN ((mt : Nat) : Int)), .ref (gad G 66), .ref (gad G 67), .ref (gad G 68), .ref (gad G 69), .ref (gad G 70), .int (iN 0), .ref (gad G 71), .ref (gad G 72), .int (iN thg), .int (iN onn), .int (iN two), .long (jN lw), .long (jN hg), .int (iN ((sq : Nat) : Int)), .ref (gad G 73), .ref (gad G 74)]) := by rw [hw_2]; exact va_up_self _ _ _
  have e_5 : w_1 60 = .inl (gI G, 10, .inl (aN ga)) := (fr_3 60 (by omega)).trans e1
  have e_6 : w_1 61 = .inl (gI G, 10, .inl (aN (pnI pn))) := (fr_3 61 (by omega)).trans e2
  have e_7 : w_1 62 = .inl (gI G, 80, .inl (aN mbe)) := (fr_3 62 (by omega)).trans e3
  have e_8 : w_1 63 = .inl (gI G, 80, .inl (aN mpl)) := (fr_3 63 (by omega)).trans e4
  have e_9 : w_1 64 = .inl (gI G, 80, .inl (aN msp)) := (fr_3 64 (by omega)).trans e5
  have e_10 : w_1 71 = .inl (gJ G, 700, .inr (.inl (aJ tN))) := (fr_3 71 (by omega)).trans e6
  have e_11 : w_1 72 = .inl (gJ G, 700, .inr (.inl (aJ tD))) := (fr_3 72 (by omega)).trans e7
  refine lv_aload_n hx hb dX9_beginTimes_5 rfl (lv_at hl 0 rfl) ?_
  refine n_lconst (z := 0) hx hb dX9_beginTimes_6 (by decide) ?_
  refine n_lconst (z := 1) hx hb dX9_beginTimes_7 (by decide) ?_
  refine lv_iload_n hx hb dX9_beginTimes_8 rfl (lv_at hl 1 rfl) ?_
  refine f_callv (W.runV (As := [.long (jN 0), .long (jN 1), .int (iN en)]) (rest := []) ⟨hx, hb, hml, hown, hts⟩ (c_X9_addTime l G w_1 ([]) now came rm mt 0 thg onn two lw hg sq tN tD (0 : Int) (1 : Int) en e_4 e_10 e_11 (isT_0 tN tD) (by show (0 : Nat) < 700; omega) (by omega) (by omega) (p1)) (cwV 3 hts gX9_beginTimes_X9_addTime rfl rfl rfl (by decide +kernel) ⟨Nat.le_of_ble_eq_true rfl, Nat.le_of_ble_eq_true rfl⟩) (f_preV hP hK 59 (by omega) 8 e_4 rfl) rfl rfl hl.1 rfl (lv_room (Nat.le_of_ble_eq_true rfl)) dX9_beginTimes_9 ⟨Nat.zero_le _, Nat.zero_le _⟩) hS hAA (fun w_12 H locs q_13 hP hS => ?_)
  obtain ⟨tm2_14, tN2_15, tD2_16, fr_17, e_18, e_19, e_20, q_21⟩ := q_13
  have e_22 : w_12 60 = .inl (gI G, 10, .inl (aN ga)) := (fr_17 60 (by omega) (by omega) (by omega)).trans e_5
  have e_23 : w_12 61 = .inl (gI G, 10, .inl (aN (pnI pn))) := (fr_17 61 (by omega) (by omega) (by omega)).trans e_6
  have e_24 : w_12 62 = .inl (gI G, 80, .inl (aN mbe)) := (fr_17 62 (by omega) (by omega) (by omega)).trans e_7
  have e_25 : w_12 63 = .inl (gI G, 80, .inl (aN mpl)) := (fr_17 63 (by omega) (by omega) (by omega)).trans e_8
  have e_26 : w_12 64 = .inl (gI G, 80, .inl (aN msp)) := (fr_17 64 (by omega) (by omega) (by omega)).trans e_9
  have e_27 : w_12 59 = .inr (8, [.int (iN ((now : Nat) : Int)), .int (iN ((came : Nat) : Int)), .ref (gad G 60), .ref (gad G 61), .ref (gad G 62), .ref (gad G 63), .ref (gad G 64), .ref (gad G 65), .int (iN ((rm : Nat) : Int)), .int (iN ((mt : Nat) : Int)), .ref (gad G 66), .ref (gad G 67), .ref (gad G 68), .ref (gad G 69), .ref (gad G 70), .int (iN ((tm2_14 : Nat) : Int)), .ref (gad G 71), .ref (gad G 72), .int (iN thg), .int (iN onn), .int (iN two), .long (jN lw), .long (jN hg), .int (iN ((sq : Nat) : Int)), .ref (gad G 73), .ref (gad G 74)]) := e_18
  have e_28 : w_12 71 = .inl (gJ G, 700, .inr (.inl (aJ tN2_15))) := e_19
  have e_29 : w_12 72 = .inl (gJ G, 700, .inr (.inl (aJ tD2_16))) := e_20
  refine lv_aload_n hx hb dX9_beginTimes_12 rfl (lv_at hl 0 rfl) ?_
  refine lv_iload_n hx hb dX9_beginTimes_13 rfl (lv_at hl 1 rfl) ?_
  refine n_i2l hx hb (by omega) (by omega) dX9_beginTimes_14 ?_
  refine n_lconst (z := 1) hx hb dX9_beginTimes_15 (by decide) ?_
  refine lv_iload_n hx hb dX9_beginTimes_16 rfl (lv_at hl 1 rfl) ?_
  refine f_callv (W.runV (As := [.long (jN en), .long (jN 1), .int (iN en)]) (rest := []) ⟨hx, hb, hml, hown, hts⟩ (c_X9_addTime l G w_12 (insX en (0, 1) []) now came rm mt tm2_14 thg onn two lw hg sq tN2_15 tD2_16 en (1 : Int) en e_27 e_28 e_29 (q_21) (by have hz := insX_len en (0, 1) []; simp only [List.length_nil] at hz; omega) (by omega) (by omega) (p1)) (cwV 3 hts gX9_beginTimes_X9_addTime rfl rfl rfl (by decide +kernel) ⟨Nat.le_of_ble_eq_true rfl, Nat.le_of_ble_eq_true rfl⟩) (f_preV hP hK 59 (by omega) 8 e_27 rfl) rfl rfl hl.1 rfl (lv_room (Nat.le_of_ble_eq_true rfl)) dX9_beginTimes_17 ⟨Nat.zero_le _, Nat.zero_le _⟩) hS hAA (fun w_30 H locs q_31 hP hS => ?_)
  obtain ⟨tm2_32, tN2_33, tD2_34, fr_35, e_36, e_37, e_38, q_39⟩ := q_31
  have e_40 : w_30 60 = .inl (gI G, 10, .inl (aN ga)) := (fr_35 60 (by omega) (by omega) (by omega)).trans e_22
  have e_41 : w_30 61 = .inl (gI G, 10, .inl (aN (pnI pn))) := (fr_35 61 (by omega) (by omega) (by omega)).trans e_23
  have e_42 : w_30 62 = .inl (gI G, 80, .inl (aN mbe)) := (fr_35 62 (by omega) (by omega) (by omega)).trans e_24
  have e_43 : w_30 63 = .inl (gI G, 80, .inl (aN mpl)) := (fr_35 63 (by omega) (by omega) (by omega)).trans e_25
  have e_44 : w_30 64 = .inl (gI G, 80, .inl (aN msp)) := (fr_35 64 (by omega) (by omega) (by omega)).trans e_26
  have e_45 : w_30 59 = .inr (8, [.int (iN ((now : Nat) : Int)), .int (iN ((came : Nat) : Int)), .ref (gad G 60), .ref (gad G 61), .ref (gad G 62), .ref (gad G 63), .ref (gad G 64), .ref (gad G 65), .int (iN ((rm : Nat) : Int)), .int (iN ((mt : Nat) : Int)), .ref (gad G 66), .ref (gad G 67), .ref (gad G 68), .ref (gad G 69), .ref (gad G 70), .int (iN ((tm2_32 : Nat) : Int)), .ref (gad G 71), .ref (gad G 72), .int (iN thg), .int (iN onn), .int (iN two), .long (jN lw), .long (jN hg), .int (iN ((sq : Nat) : Int)), .ref (gad G 73), .ref (gad G 74)]) := e_36
  have e_46 : w_30 71 = .inl (gJ G, 700, .inr (.inl (aJ tN2_33))) := e_37
  have e_47 : w_30 72 = .inl (gJ G, 700, .inr (.inl (aJ tD2_34))) := e_38
  have K22 : ∀ (N : Nat) (i : Nat) (tm2 : Nat) (tN2 : Nat → Int) (tD2 : Nat → Int) (w2 : WF) (H : Heap) (locs : List Loc) (ls : Array Slot), (i ≤ came) → (isT (btI (rw8 mbe, rw8 mpl, rw8 msp, pn, ga) en i) tm2 tN2 tD2) → 11 - i < N → w2 59 = .inr (8, [.int (iN ((now : Nat) : Int)), .int (iN ((came : Nat) : Int)), .ref (gad G 60), .ref (gad G 61), .ref (gad G 62), .ref (gad G 63), .ref (gad G 64), .ref (gad G 65), .int (iN ((rm : Nat) : Int)), .int (iN ((mt : Nat) : Int)), .ref (gad G 66), .ref (gad G 67), .ref (gad G 68), .ref (gad G 69), .ref (gad G 70), .int (iN ((tm2 : Nat) : Int)), .ref (gad G 71), .ref (gad G 72), .int (iN thg), .int (iN onn), .int (iN two), .long (jN lw), .long (jN hg), .int (iN ((sq : Nat) : Int)), .ref (gad G 73), .ref (gad G 74)]) → w2 71 = .inl (gJ G, 700, .inr (.inl (aJ tN2))) → w2 72 = .inl (gJ G, 700, .inr (.inl (aJ tD2))) → (∀ k : Nat, k ≠ 59 → k ≠ 71 → k ≠ 72 → w2 k = w k) → PW G w2 H → va_S (AA G) s.heap H locs → lv_has ls 4 [(0, .ref (gad G 59)), (1, .int (iN en)), (2, .int (iN ((i : Nat) : Int)))] → W p l e (headSpec wsX9_beginTimes ({ frames := 1, cells := 0, slots := 0, locals := 27 })).room s m (([.ref (gad G 59), .int (iN en)] : List Value).toArray) below meth c H locs 0 0 (MQ below (QV G (fun w1 => ∃ (tm2 : Nat) (tN2 : Nat → Int) (tD2 : Nat → Int), (∀ k : Nat, k ≠ 59 → k ≠ 71 → k ≠ 72 → w1 k = w k) ∧ w1 59 = .inr (8, [.int (iN ((now : Nat) : Int)), .int (iN ((came : Nat) : Int)), .ref (gad G 60), .ref (gad G 61), .ref (gad G 62), .ref (gad G 63), .ref (gad G 64), .ref (gad G 65), .int (iN ((rm : Nat) : Int)), .int (iN ((mt : Nat) : Int)), .ref (gad G 66), .ref (gad G 67), .ref (gad G 68), .ref (gad G 69), .ref (gad G 70), .int (iN ((tm2 : Nat) : Int)), .ref (gad G 71), .ref (gad G 72), .int (iN thg), .int (iN onn), .int (iN two), .long (jN lw), .long (jN hg), .int (iN ((sq : Nat) : Int)), .ref (gad G 73), .ref (gad G 74)]) ∧ w1 71 = .inl (gJ G, 700, .inr (.inl (aJ tN2))) ∧ w1 72 = .inl (gJ G, 700, .inr (.inl (aJ tD2))) ∧ (isT (btI (rw8 mbe, rw8 mpl, rw8 msp, pn, ga) en came) tm2 tN2 tD2))) (([.ref (gad G 59), .int (iN en)] : List Value).toArray) s 0 0 (AA G)) (F0 m 22 ls []) := by
    intro N
    induction N with
    | zero =>
      intros
      exfalso
      omega
    | succ N ih22 =>
      intro i tm2 tN2 tD2 w2 H locs ls i22_0 i22_1 hN22 f22_0 f22_1 f22_2 hfr22 hP hS hl
      have e_48 : w2 60 = .inl (gI G, 10, .inl (aN ga)) := by rw [hfr22 60 (by omega) (by omega) (by omega)]; exact e1
      have e_49 : w2 61 = .inl (gI G, 10, .inl (aN (pnI pn))) := by rw [hfr22 61 (by omega) (by omega) (by omega)]; exact e2
      have e_50 : w2 62 = .inl (gI G, 80, .inl (aN mbe)) := by rw [hfr22 62 (by omega) (by omega) (by omega)]; exact e3
      have e_51 : w2 63 = .inl (gI G, 80, .inl (aN mpl)) := by rw [hfr22 63 (by omega) (by omega) (by omega)]; exact e4
      have e_52 : w2 64 = .inl (gI G, 80, .inl (aN msp)) := by rw [hfr22 64 (by omega) (by omega) (by omega)]; exact e5
      refine lv_iload_n hx hb dX9_beginTimes_22 rfl (lv_at hl 2 rfl) ?_
      refine lv_aload_n hx hb dX9_beginTimes_23 rfl (lv_at hl 0 rfl) ?_
      refine f_get (C := RX9) (T := TX9) (N := 26) hx hb hts (by decide +kernel) hown hK hP 59 (by omega) f22_0 rfl 1 (by decide) (hts (.fieldLink RX9 57 "KeptMovingModel" "points" "I") (by decide +kernel)) (fun _ h9 => h9) rfl dX9_beginTimes_24 ?_
      refine n_icmp_ge (tgt := 91) hx hb dX9_beginTimes_27 (by decide) (by omega) (by omega) (by omega) (by omega) (fun c_27 => ?_) (fun c_27 => ?_)
      · exact r_v hx hb hr dX9_beginTimes_91 hlocks hP hS (⟨tm2, tN2, tD2, (fun k h0 h1 h2 => hfr22 k (by omega) (by omega) (by omega)), f22_0, f22_1, f22_2, (by have hz := i22_1; rw [show i = came by omega] at hz; exact hz)⟩)
      · obtain ⟨hv1, hv2, hv3, hv4⟩ := id (p0.2 i (by omega))
        have hb1 := btI_len (S := (rw8 mbe, rw8 mpl, rw8 msp, pn, ga)) (en := en) hn8 i (by omega)
        have hb2 := btP_len (rw8 mbe, rw8 mpl, rw8 msp, pn, ga) en i (btI (rw8 mbe, rw8 mpl, rw8 msp, pn, ga) en i)
        refine n_bipush hx hb dX9_beginTimes_30 (by decide) ?_
        refine lv_iload_n hx hb dX9_beginTimes_32 rfl (lv_at hl 2 rfl) ?_
        refine n_imul hx hb dX9_beginTimes_33 ?_
        refine n_top (A := 8 * ((i : Nat) : Int)) (B := ((8 * i : Nat) : Int)) (by omega) ?_
        refine lv_istore_n (lv' := [(3, .int (iN ((8 * i : Nat) : Int))), (0, .ref (gad G 59)), (1, .int (iN en)), (2, .int (iN ((i : Nat) : Int)))]) hx hb dX9_beginTimes_34 rfl hl (by decide) rfl (fun ls hl => ?_)
        have K35 : ∀ (N : Nat) (x : Nat) (tm2 : Nat) (tN2 : Nat → Int) (tD2 : Nat → Int) (w2 : WF) (H : Heap) (locs : List Loc) (ls : Array Slot), (x ≤ pn i) → (isT (btP (rw8 mbe, rw8 mpl, rw8 msp, pn, ga) en i x (btI (rw8 mbe, rw8 mpl, rw8 msp, pn, ga) en i)) tm2 tN2 tD2) → 9 - x < N → w2 59 = .inr (8, [.int (iN ((now : Nat) : Int)), .int (iN ((came : Nat) : Int)), .ref (gad G 60), .ref (gad G 61), .ref (gad G 62), .ref (gad G 63), .ref (gad G 64), .ref (gad G 65), .int (iN ((rm : Nat) : Int)), .int (iN ((mt : Nat) : Int)), .ref (gad G 66), .ref (gad G 67), .ref (gad G 68), .ref (gad G 69), .ref (gad G 70), .int (iN ((tm2 : Nat) : Int)), .ref (gad G 71), .ref (gad G 72), .int (iN thg), .int (iN onn), .int (iN two), .long (jN lw), .long (jN hg), .int (iN ((sq : Nat) : Int)), .ref (gad G 73), .ref (gad G 74)]) → w2 71 = .inl (gJ G, 700, .inr (.inl (aJ tN2))) → w2 72 = .inl (gJ G, 700, .inr (.inl (aJ tD2))) → (∀ k : Nat, k ≠ 59 → k ≠ 71 → k ≠ 72 → w2 k = w k) → PW G w2 H → va_S (AA G) s.heap H locs → lv_has ls 4 [(0, .ref (gad G 59)), (1, .int (iN en)), (2, .int (iN ((i : Nat) : Int))), (3, .int (iN ((8 * i + x : Nat) : Int)))] → W p l e (headSpec wsX9_beginTimes ({ frames := 1, cells := 0, slots := 0, locals := 27 })).room s m (([.ref (gad G 59), .int (iN en)] : List Value).toArray) below meth c H locs 0 0 (MQ below (QV G (fun w1 => ∃ (tm2 : Nat) (tN2 : Nat → Int) (tD2 : Nat → Int), (∀ k : Nat, k ≠ 59 → k ≠ 71 → k ≠ 72 → w1 k = w k) ∧ w1 59 = .inr (8, [.int (iN ((now : Nat) : Int)), .int (iN ((came : Nat) : Int)), .ref (gad G 60), .ref (gad G 61), .ref (gad G 62), .ref (gad G 63), .ref (gad G 64), .ref (gad G 65), .int (iN ((rm : Nat) : Int)), .int (iN ((mt : Nat) : Int)), .ref (gad G 66), .ref (gad G 67), .ref (gad G 68), .ref (gad G 69), .ref (gad G 70), .int (iN ((tm2 : Nat) : Int)), .ref (gad G 71), .ref (gad G 72), .int (iN thg), .int (iN onn), .int (iN two), .long (jN lw), .long (jN hg), .int (iN ((sq : Nat) : Int)), .ref (gad G 73), .ref (gad G 74)]) ∧ w1 71 = .inl (gJ G, 700, .inr (.inl (aJ tN2))) ∧ w1 72 = .inl (gJ G, 700, .inr (.inl (aJ tD2))) ∧ (isT (btI (rw8 mbe, rw8 mpl, rw8 msp, pn, ga) en came) tm2 tN2 tD2))) (([.ref (gad G 59), .int (iN en)] : List Value).toArray) s 0 0 (AA G)) (F0 m 35 ls []) := by
          intro N
          induction N with
          | zero =>
            intros
            exfalso
            omega
          | succ N ih35 =>
            intro x tm2 tN2 tD2 w2 H locs ls i35_0 i35_1 hN35 f35_0 f35_1 f35_2 hfr35 hP hS hl
            have e_53 : w2 60 = .inl (gI G, 10, .inl (aN ga)) := by rw [hfr35 60 (by omega) (by omega) (by omega)]; exact e1
            have e_54 : w2 61 = .inl (gI G, 10, .inl (aN (pnI pn))) := by rw [hfr35 61 (by omega) (by omega) (by omega)]; exact e2
            have e_55 : w2 62 = .inl (gI G, 80, .inl (aN mbe)) := by rw [hfr35 62 (by omega) (by omega) (by omega)]; exact e3
            have e_56 : w2 63 = .inl (gI G, 80, .inl (aN mpl)) := by rw [hfr35 63 (by omega) (by omega) (by omega)]; exact e4
            have e_57 : w2 64 = .inl (gI G, 80, .inl (aN msp)) := by rw [hfr35 64 (by omega) (by omega) (by omega)]; exact e5
            refine lv_iload_n hx hb dX9_beginTimes_35 rfl (lv_at hl 3 rfl) ?_
            refine lv_aload_n hx hb dX9_beginTimes_36 rfl (lv_at hl 0 rfl) ?_
            refine lv_iload_n hx hb dX9_beginTimes_37 rfl (lv_at hl 2 rfl) ?_
            refine vp_callSi (W.runV (As := [.int (iN ((i : Nat) : Int))]) (rest := [.int (iN ((8 * i + x : Nat) : Int))]) ⟨hx, hb, hml, hown, hts⟩ (c_X9_latest l G w2 now came rm mt tm2 thg onn two lw hg sq ga pn mbe mpl msp i f35_0 e_53 e_54 e_55 e_56 e_57 (by omega) (hv1)) (cwV 1 hts gX9_beginTimes_X9_latest rfl rfl rfl (by decide +kernel) ⟨Nat.le_of_ble_eq_true rfl, Nat.le_of_ble_eq_true rfl⟩) (f_preV hP hK 59 (by omega) 8 f35_0 rfl) rfl rfl hl.1 rfl (lv_room (Nat.le_of_ble_eq_true rfl)) dX9_beginTimes_38 ⟨Nat.zero_le _, Nat.zero_le _⟩) (fun r_58 hr_58 => ?_)
            rw [show r_58 = iN ((8 * i + pn i - 1 : Nat) : Int) from hr_58]
            refine n_icmp_gt (tgt := 63) hx hb dX9_beginTimes_41 (by decide) (by omega) (by omega) (by omega) (by omega) (fun c_41 => ?_) (fun c_41 => ?_)
            · have hxx : x = pn i := by omega
              have hb3 := hb2 x
              refine lv_aload_n hx hb dX9_beginTimes_63 rfl (lv_at hl 0 rfl) ?_
              refine f_get (C := RX9) (T := TX9) (N := 26) hx hb hts (by decide +kernel) hown hK hP 59 (by omega) f35_0 rfl 2 (by decide) (hts (.fieldLink RX9 7 "KeptMovingModel" "goneAt" "[I") (by decide +kernel)) (fun _ h9 => h9) rfl dX9_beginTimes_64 ?_
              refine lv_iload_n hx hb dX9_beginTimes_67 rfl (lv_at hl 2 rfl) ?_
              refine n_iald hx hb hK hP 60 (by omega) e_53 i rfl (by omega) (by decide) dX9_beginTimes_68 ?_
              refine n_if_lt (tgt := 85) hx hb dX9_beginTimes_69 (by decide) (by omega) (by omega) (fun c_69 => ?_) (fun c_69 => ?_)
              · refine lv_iinc (v := iN ((i + 1 : Nat) : Int)) (lv' := [(2, .int (iN ((i + 1 : Nat) : Int))), (0, .ref (gad G 59)), (1, .int (iN en)), (3, .int (iN ((8 * i + x : Nat) : Int)))]) hx hb dX9_beginTimes_85 hl (k := 2) rfl (iN_incN _) (by decide) rfl (fun ls hl => ?_)
                refine lv_goto (tgt := 22) hx hb dX9_beginTimes_88 (by decide) ?_
                exact ih22 (i + 1) (tm2) (tN2) (tD2) w2 _ _ _ (by omega) ((by have hz := i35_1; rw [hxx] at hz; show isT (if 0 ≤ ga i then _ else _) _ _ _; rw [if_neg (by omega)]; exact hz)) (by omega) (f35_0) (f35_1) (f35_2) (fun k h0 h1 h2 => hfr35 k (by omega) (by omega) (by omega)) hP hS (lv_sub hl [1, 2, 0] rfl)
              · refine lv_aload_n hx hb dX9_beginTimes_72 rfl (lv_at hl 0 rfl) ?_
                refine lv_aload_n hx hb dX9_beginTimes_73 rfl (lv_at hl 0 rfl) ?_
                refine f_get (C := RX9) (T := TX9) (N := 26) hx hb hts (by decide +kernel) hown hK hP 59 (by omega) f35_0 rfl 2 (by decide) (hts (.fieldLink RX9 7 "KeptMovingModel" "goneAt" "[I") (by decide +kernel)) (fun _ h9 => h9) rfl dX9_beginTimes_74 ?_
                refine lv_iload_n hx hb dX9_beginTimes_77 rfl (lv_at hl 2 rfl) ?_
                refine n_iald hx hb hK hP 60 (by omega) e_53 i rfl (by omega) (by decide) dX9_beginTimes_78 ?_
                refine n_i2l hx hb (by omega) (by omega) dX9_beginTimes_79 ?_
                refine n_lconst (z := 1) hx hb dX9_beginTimes_80 (by decide) ?_
                refine lv_iload_n hx hb dX9_beginTimes_81 rfl (lv_at hl 1 rfl) ?_
                refine f_callv (W.runV (As := [.long (jN (ga i)), .long (jN 1), .int (iN en)]) (rest := []) ⟨hx, hb, hml, hown, hts⟩ (c_X9_addTime l G w2 (btP (rw8 mbe, rw8 mpl, rw8 msp, pn, ga) en i x (btI (rw8 mbe, rw8 mpl, rw8 msp, pn, ga) en i)) now came rm mt tm2 thg onn two lw hg sq tN2 tD2 (ga i) (1 : Int) en f35_0 f35_1 f35_2 (i35_1) (by omega) (by omega) (by omega) (p1)) (cwV 3 hts gX9_beginTimes_X9_addTime rfl rfl rfl (by decide +kernel) ⟨Nat.le_of_ble_eq_true rfl, Nat.le_of_ble_eq_true rfl⟩) (f_preV hP hK 59 (by omega) 8 f35_0 rfl) rfl rfl hl.1 rfl (lv_room (Nat.le_of_ble_eq_true rfl)) dX9_beginTimes_82 ⟨Nat.zero_le _, Nat.zero_le _⟩) hS hAA (fun w_59 H locs q_60 hP hS => ?_)
                obtain ⟨tm2_61, tN2_62, tD2_63, fr_64, e_65, e_66, e_67, q_68⟩ := q_60
                have e_69 : w_59 60 = .inl (gI G, 10, .inl (aN ga)) := (fr_64 60 (by omega) (by omega) (by omega)).trans e_53
                have e_70 : w_59 61 = .inl (gI G, 10, .inl (aN (pnI pn))) := (fr_64 61 (by omega) (by omega) (by omega)).trans e_54
                have e_71 : w_59 62 = .inl (gI G, 80, .inl (aN mbe)) := (fr_64 62 (by omega) (by omega) (by omega)).trans e_55
                have e_72 : w_59 63 = .inl (gI G, 80, .inl (aN mpl)) := (fr_64 63 (by omega) (by omega) (by omega)).trans e_56
                have e_73 : w_59 64 = .inl (gI G, 80, .inl (aN msp)) := (fr_64 64 (by omega) (by omega) (by omega)).trans e_57
                have e_74 : w_59 59 = .inr (8, [.int (iN ((now : Nat) : Int)), .int (iN ((came : Nat) : Int)), .ref (gad G 60), .ref (gad G 61), .ref (gad G 62), .ref (gad G 63), .ref (gad G 64), .ref (gad G 65), .int (iN ((rm : Nat) : Int)), .int (iN ((mt : Nat) : Int)), .ref (gad G 66), .ref (gad G 67), .ref (gad G 68), .ref (gad G 69), .ref (gad G 70), .int (iN ((tm2_61 : Nat) : Int)), .ref (gad G 71), .ref (gad G 72), .int (iN thg), .int (iN onn), .int (iN two), .long (jN lw), .long (jN hg), .int (iN ((sq : Nat) : Int)), .ref (gad G 73), .ref (gad G 74)]) := e_65
                have e_75 : w_59 71 = .inl (gJ G, 700, .inr (.inl (aJ tN2_62))) := e_66
                have e_76 : w_59 72 = .inl (gJ G, 700, .inr (.inl (aJ tD2_63))) := e_67
                refine lv_iinc (v := iN ((i + 1 : Nat) : Int)) (lv' := [(2, .int (iN ((i + 1 : Nat) : Int))), (0, .ref (gad G 59)), (1, .int (iN en)), (3, .int (iN ((8 * i + x : Nat) : Int)))]) hx hb dX9_beginTimes_85 hl (k := 2) rfl (iN_incN _) (by decide) rfl (fun ls hl => ?_)
                refine lv_goto (tgt := 22) hx hb dX9_beginTimes_88 (by decide) ?_
                exact ih22 (i + 1) (tm2_61) (tN2_62) (tD2_63) w_59 _ _ _ (by omega) ((by have hz := q_68; rw [hxx] at hz; show isT (if 0 ≤ ga i then _ else _) _ _ _; rw [if_pos (by omega)]; exact hz)) (by omega) (e_74) (e_75) (e_76) (fun k h0 h1 h2 => ((fr_64 k (by omega) (by omega) (by omega)).trans (hfr35 k (by omega) (by omega) (by omega)))) hP hS (lv_sub hl [1, 2, 0] rfl)
            · refine lv_aload_n hx hb dX9_beginTimes_44 rfl (lv_at hl 0 rfl) ?_
              refine lv_aload_n hx hb dX9_beginTimes_45 rfl (lv_at hl 0 rfl) ?_
              refine f_get (C := RX9) (T := TX9) (N := 26) hx hb hts (by decide +kernel) hown hK hP 59 (by omega) f35_0 rfl 4 (by decide) (hts (.fieldLink RX9 16 "KeptMovingModel" "begins" "[I") (by decide +kernel)) (fun _ h9 => h9) rfl dX9_beginTimes_46 ?_
              refine lv_iload_n hx hb dX9_beginTimes_49 rfl (lv_at hl 3 rfl) ?_
              have hvx : 0 ≤ mbe (8 * i + x) ∧ mbe (8 * i + x) ≤ 400 := hv2 x (by omega)
              have hb3 := hb2 x
              refine n_iald hx hb hK hP 62 (by omega) e_55 (8 * i + x) rfl (by omega) (by decide) dX9_beginTimes_50 ?_
              refine n_i2l hx hb (by omega) (by omega) dX9_beginTimes_51 ?_
              refine n_lconst (z := 1) hx hb dX9_beginTimes_52 (by decide) ?_
              refine lv_iload_n hx hb dX9_beginTimes_53 rfl (lv_at hl 1 rfl) ?_
              refine f_callv (W.runV (As := [.long (jN (mbe (8 * i + x))), .long (jN 1), .int (iN en)]) (rest := []) ⟨hx, hb, hml, hown, hts⟩ (c_X9_addTime l G w2 (btP (rw8 mbe, rw8 mpl, rw8 msp, pn, ga) en i x (btI (rw8 mbe, rw8 mpl, rw8 msp, pn, ga) en i)) now came rm mt tm2 thg onn two lw hg sq tN2 tD2 (mbe (8 * i + x)) (1 : Int) en f35_0 f35_1 f35_2 (i35_1) (by omega) (by omega) (by omega) (p1)) (cwV 3 hts gX9_beginTimes_X9_addTime rfl rfl rfl (by decide +kernel) ⟨Nat.le_of_ble_eq_true rfl, Nat.le_of_ble_eq_true rfl⟩) (f_preV hP hK 59 (by omega) 8 f35_0 rfl) rfl rfl hl.1 rfl (lv_room (Nat.le_of_ble_eq_true rfl)) dX9_beginTimes_54 ⟨Nat.zero_le _, Nat.zero_le _⟩) hS hAA (fun w_77 H locs q_78 hP hS => ?_)
              obtain ⟨tm2_79, tN2_80, tD2_81, fr_82, e_83, e_84, e_85, q_86⟩ := q_78
              have e_87 : w_77 60 = .inl (gI G, 10, .inl (aN ga)) := (fr_82 60 (by omega) (by omega) (by omega)).trans e_53
              have e_88 : w_77 61 = .inl (gI G, 10, .inl (aN (pnI pn))) := (fr_82 61 (by omega) (by omega) (by omega)).trans e_54
              have e_89 : w_77 62 = .inl (gI G, 80, .inl (aN mbe)) := (fr_82 62 (by omega) (by omega) (by omega)).trans e_55
              have e_90 : w_77 63 = .inl (gI G, 80, .inl (aN mpl)) := (fr_82 63 (by omega) (by omega) (by omega)).trans e_56
              have e_91 : w_77 64 = .inl (gI G, 80, .inl (aN msp)) := (fr_82 64 (by omega) (by omega) (by omega)).trans e_57
              have e_92 : w_77 59 = .inr (8, [.int (iN ((now : Nat) : Int)), .int (iN ((came : Nat) : Int)), .ref (gad G 60), .ref (gad G 61), .ref (gad G 62), .ref (gad G 63), .ref (gad G 64), .ref (gad G 65), .int (iN ((rm : Nat) : Int)), .int (iN ((mt : Nat) : Int)), .ref (gad G 66), .ref (gad G 67), .ref (gad G 68), .ref (gad G 69), .ref (gad G 70), .int (iN ((tm2_79 : Nat) : Int)), .ref (gad G 71), .ref (gad G 72), .int (iN thg), .int (iN onn), .int (iN two), .long (jN lw), .long (jN hg), .int (iN ((sq : Nat) : Int)), .ref (gad G 73), .ref (gad G 74)]) := e_83
              have e_93 : w_77 71 = .inl (gJ G, 700, .inr (.inl (aJ tN2_80))) := e_84
              have e_94 : w_77 72 = .inl (gJ G, 700, .inr (.inl (aJ tD2_81))) := e_85
              refine lv_iinc (v := iN (((8 * i + x) + 1 : Nat) : Int)) (lv' := [(3, .int (iN (((8 * i + x) + 1 : Nat) : Int))), (0, .ref (gad G 59)), (1, .int (iN en)), (2, .int (iN ((i : Nat) : Int)))]) hx hb dX9_beginTimes_57 hl (k := 3) rfl (iN_incN _) (by decide) rfl (fun ls hl => ?_)
              refine lv_goto (tgt := 35) hx hb dX9_beginTimes_60 (by decide) ?_
              exact ih35 (x + 1) (tm2_79) (tN2_80) (tD2_81) w_77 _ _ _ (by omega) (q_86) (by omega) (e_92) (e_93) (e_94) (fun k h0 h1 h2 => ((fr_82 k (by omega) (by omega) (by omega)).trans (hfr35 k (by omega) (by omega) (by omega)))) hP hS (lv_sub hl [1, 2, 3, 0] rfl)
        exact K35 ((9 - 0) + 1) (0) (tm2) (tN2) (tD2) w2 _ _ _ (by omega) (i22_1) (by omega) (f22_0) (f22_1) (f22_2) (fun k h0 h1 h2 => hfr22 k (by omega) (by omega) (by omega)) hP hS (lv_sub hl [1, 2, 3, 0] rfl)
  refine n_iconst hx hb dX9_beginTimes_20 ?_
  refine lv_istore_n (lv' := [(2, .int (iN 0)), (0, .ref (gad G 59)), (1, .int (iN en))]) hx hb dX9_beginTimes_21 rfl hl (by decide) rfl (fun ls hl => ?_)
  exact K22 ((11 - 0) + 1) (0) (tm2_32) (tN2_33) (tD2_34) w_30 _ _ _ (by omega) (q_39) (by omega) (e_45) (e_46) (e_47) (fun k h0 h1 h2 => ((((fr_35 k (by omega) (by omega) (by omega)).trans (fr_17 k (by omega) (by omega) (by omega)))).trans (fr_3 k (by omega)))) hP hS (lv_sub hl [1, 2, 0] rfl)

def zN (va sl fr : Int) : Int := if 0 < sl then fr * sl - va else va - fr * sl
def zD (sl : Int) : Int := if 0 < sl then sl else -sl
def azL (en va sl fr to : Int) (L : List TM) : List TM := if sl ≠ 0 ∧ fr * zD sl ≤ zN va sl fr ∧ zN va sl fr ≤ to * zD sl then insX en (zN va sl fr, zD sl) L else L
theorem azL_len (en va sl fr to : Int) (L : List TM) : (azL en va sl fr to L).length ≤ L.length + 1 := by
  unfold azL
  split
  · exact insX_len _ _ _
  · omega

set_option maxHeartbeats 4000000 in
set_option maxRecDepth 100000 in
theorem c_X9_addZero (l : Launch) (G : GE) (w : WF) (U : List TM) (now : Nat) (came : Nat) (rm : Nat) (mt : Nat) (tm : Nat) (thg : Int) (onn : Int) (two : Int) (lw : Int) (hg : Int) (sq : Nat) (tN : Nat → Int) (tD : Nat → Int) (va : Int) (sl : Int) (fr : Int) (to : Int) (en : Int) (e0 : w 59 = .inr (8, [.int (iN ((now : Nat) : Int)), .int (iN ((came : Nat) : Int)), .ref (gad G 60), .ref (gad G 61), .ref (gad G 62), .ref (gad G 63), .ref (gad G 64), .ref (gad G 65), .int (iN ((rm : Nat) : Int)), .int (iN ((mt : Nat) : Int)), .ref (gad G 66), .ref (gad G 67), .ref (gad G 68), .ref (gad G 69), .ref (gad G 70), .int (iN ((tm : Nat) : Int)), .ref (gad G 71), .ref (gad G 72), .int (iN thg), .int (iN onn), .int (iN two), .long (jN lw), .long (jN hg), .int (iN ((sq : Nat) : Int)), .ref (gad G 73), .ref (gad G 74)])) (e1 : w 71 = .inl (gJ G, 700, .inr (.inl (aJ tN)))) (e2 : w 72 = .inl (gJ G, 700, .inr (.inl (aJ tD)))) (p0 : isT U tm tN tD) (p1 : U.length < 700) (p2 : -100 ≤ sl ∧ sl ≤ 100) (p3 : -1000000 ≤ va ∧ va ≤ 1000000) (p4 : 0 ≤ fr ∧ fr ≤ 400) (p5 : 0 ≤ to ∧ to ≤ 1000000000) (p6 : 1 ≤ en ∧ en ≤ 600) : Met l yX9_addZero wsX9_addZero ({ frames := 1, cells := 0, slots := 0, locals := 27 }) (PcG G w [.ref (gad G 59), .long (jN va), .long (jN sl), .long (jN fr), .long (jN to), .int (iN en)]) (QV G (fun w1 => ∃ (tm2 : Nat) (tN2 : Nat → Int) (tD2 : Nat → Int), (∀ k : Nat, k ≠ 59 → k ≠ 71 → k ≠ 72 → w1 k = w k) ∧ w1 59 = .inr (8, [.int (iN ((now : Nat) : Int)), .int (iN ((came : Nat) : Int)), .ref (gad G 60), .ref (gad G 61), .ref (gad G 62), .ref (gad G 63), .ref (gad G 64), .ref (gad G 65), .int (iN ((rm : Nat) : Int)), .int (iN ((mt : Nat) : Int)), .ref (gad G 66), .ref (gad G 67), .ref (gad G 68), .ref (gad G 69), .ref (gad G 70), .int (iN ((tm2 : Nat) : Int)), .ref (gad G 71), .ref (gad G 72), .int (iN thg), .int (iN onn), .int (iN two), .long (jN lw), .long (jN hg), .int (iN ((sq : Nat) : Int)), .ref (gad G 73), .ref (gad G 74)]) ∧ w1 71 = .inl (gJ G, 700, .inr (.inl (aJ tN2))) ∧ w1 72 = .inl (gJ G, 700, .inr (.inl (aJ tD2))) ∧ (isT (azL en va sl fr to U) tm2 tN2 tD2))) 0 0 (AA G) := by
  refine Met.ofW (cc := cX9_addZero) (maxL := 14) (ret := none) (by decide) rfl ?_
  intro p e s m args below meth c s₁ B hml hv
  obtain ⟨rfl, hP, hK⟩ := hv
  have hx := B.exec
  have hb := B.bytes
  have hr := B.returns
  have hts := atoms_spec (ws := wsX9_addZero) B.pre
  have hown : s.vm.findClass RX9 = some m.cls := findClass_of_methodNamed B.named
  have hlocks := B.notSynchronized
  have hS : va_S (AA G) s.heap s.heap [] := va_S.rf
  have hAA : ∀ q, AA G q → AA G q := fun _ h => h
  have hl := lv_entry ([.ref (gad G 59), .long (jN va), .long (jN sl), .long (jN fr), .long (jN to), .int (iN en)]) (n := 14) (Nat.le_of_ble_eq_true rfl)
  rw [lg_entry_eq]
  generalize (lg_sl ([.ref (gad G 59), .long (jN va), .long (jN sl), .long (jN fr), .long (jN to), .int (iN en)]) ++ List.replicate (14 - (lg_sl ([.ref (gad G 59), .long (jN va), .long (jN sl), .long (jN fr), .long (jN to), .int (iN en)])).length) Slot.unset).toArray = ls at hl ⊢
  have hl : lv_has ls 14 [(0, .ref (gad G 59)), (1, .long (jN va)), (3, .long (jN sl)), (5, .long (jN fr)), (7, .long (jN to)), (9, .int (iN en))] := hl
  have hm1 := mb3 (a := fr) (b := sl) (A := 400) (B := 100) (by omega) (by omega)
  have hzn : -1040000 ≤ zN va sl fr ∧ zN va sl fr ≤ 1040000 := by
      unfold zN
      split <;> omega
  have hzd : -100 ≤ zD sl ∧ zD sl ≤ 100 ∧ (sl ≠ 0 → 1 ≤ zD sl) := by
      unfold zD
      split <;> omega
  have hm2 := mb3 (a := fr) (b := zD sl) (A := 400) (B := 100) (by omega) (by omega)
  have hm3 := mb3 (a := to) (b := zD sl) (A := 1000000000) (B := 100) (by omega) (by omega)
  refine lv_lload_n hx hb dX9_addZero_0 rfl (lv_at hl 2 rfl) ?_
  refine n_lconst (z := 0) hx hb dX9_addZero_1 (by decide) ?_
  refine n_lcmp hx hb (by omega) (by omega) (by omega) (by omega) dX9_addZero_2 ?_
  refine n_ifc_ne (tgt := 7) hx hb dX9_addZero_3 (by decide) (fun c_3 => ?_) (fun c_3 => ?_)
  · refine lv_lload_n hx hb dX9_addZero_7 rfl (lv_at hl 2 rfl) ?_
    refine n_lconst (z := 0) hx hb dX9_addZero_8 (by decide) ?_
    refine n_lcmp hx hb (by omega) (by omega) (by omega) (by omega) dX9_addZero_9 ?_
    refine n_ifc_le (tgt := 22) hx hb dX9_addZero_10 (by decide) (fun c_10 => ?_) (fun c_10 => ?_)
    · refine lv_lload_n hx hb dX9_addZero_22 rfl (lv_at hl 1 rfl) ?_
      refine lv_lload hx hb dX9_addZero_23 (lv_at hl 3 rfl) ?_
      refine lv_lload_n hx hb dX9_addZero_25 rfl (lv_at hl 2 rfl) ?_
      refine n_lmul hx hb dX9_addZero_26 ?_
      refine n_lsub hx hb dX9_addZero_27 ?_
      refine n_topL (A := va - (fr * sl)) (B := zN va sl fr) (by exact (if_neg (by omega)).symm) ?_
      refine lv_lstore (lv' := [(10, .long (jN (zN va sl fr))), (0, .ref (gad G 59)), (1, .long (jN va)), (3, .long (jN sl)), (5, .long (jN fr)), (7, .long (jN to)), (9, .int (iN en))]) hx hb dX9_addZero_28 hl (by decide) rfl (fun ls hl => ?_)
      refine lv_lload_n hx hb dX9_addZero_30 rfl (lv_at hl 3 rfl) ?_
      refine n_lconst (z := 0) hx hb dX9_addZero_31 (by decide) ?_
      refine n_lcmp hx hb (by omega) (by omega) (by omega) (by omega) dX9_addZero_32 ?_
      refine n_ifc_le (tgt := 40) hx hb dX9_addZero_33 (by decide) (fun c_33 => ?_) (fun c_33 => ?_)
      · refine lv_lload_n hx hb dX9_addZero_40 rfl (lv_at hl 3 rfl) ?_
        refine n_lneg hx hb dX9_addZero_41 ?_
        refine n_topL (A := -sl) (B := zD sl) (by exact (if_neg (by omega)).symm) ?_
        refine lv_lstore (lv' := [(12, .long (jN (zD sl))), (10, .long (jN (zN va sl fr))), (0, .ref (gad G 59)), (1, .long (jN va)), (3, .long (jN sl)), (5, .long (jN fr)), (7, .long (jN to)), (9, .int (iN en))]) hx hb dX9_addZero_42 hl (by decide) rfl (fun ls hl => ?_)
        refine lv_lload hx hb dX9_addZero_44 (lv_at hl 1 rfl) ?_
        refine lv_lload hx hb dX9_addZero_46 (lv_at hl 5 rfl) ?_
        refine lv_lload hx hb dX9_addZero_48 (lv_at hl 0 rfl) ?_
        refine n_lmul hx hb dX9_addZero_50 ?_
        refine n_lcmp hx hb (by omega) (by omega) (by omega) (by omega) dX9_addZero_51 ?_
        refine n_ifc_lt (tgt := 76) hx hb dX9_addZero_52 (by decide) (fun c_52 => ?_) (fun c_52 => ?_)
        · exact r_v hx hb hr dX9_addZero_76 hlocks hP hS (⟨tm, tN, tD, (fun k _ _ _ => rfl), e0, e1, e2, (by rw [show azL en va sl fr to U = U from if_neg (by omega)]; exact p0)⟩)
        · refine lv_lload hx hb dX9_addZero_55 (lv_at hl 1 rfl) ?_
          refine lv_lload hx hb dX9_addZero_57 (lv_at hl 6 rfl) ?_
          refine lv_lload hx hb dX9_addZero_59 (lv_at hl 0 rfl) ?_
          refine n_lmul hx hb dX9_addZero_61 ?_
          refine n_lcmp hx hb (by omega) (by omega) (by omega) (by omega) dX9_addZero_62 ?_
          refine n_ifc_gt (tgt := 76) hx hb dX9_addZero_63 (by decide) (fun c_63 => ?_) (fun c_63 => ?_)
          · exact r_v hx hb hr dX9_addZero_76 hlocks hP hS (⟨tm, tN, tD, (fun k _ _ _ => rfl), e0, e1, e2, (by rw [show azL en va sl fr to U = U from if_neg (by omega)]; exact p0)⟩)
          · refine lv_aload_n hx hb dX9_addZero_66 rfl (lv_at hl 2 rfl) ?_
            refine lv_lload hx hb dX9_addZero_67 (lv_at hl 1 rfl) ?_
            refine lv_lload hx hb dX9_addZero_69 (lv_at hl 0 rfl) ?_
            refine lv_iload hx hb dX9_addZero_71 (lv_at hl 7 rfl) ?_
            refine f_callv (W.runV (As := [.long (jN (zN va sl fr)), .long (jN (zD sl)), .int (iN en)]) (rest := []) ⟨hx, hb, hml, hown, hts⟩ (c_X9_addTime l G w U now came rm mt tm thg onn two lw hg sq tN tD (zN va sl fr) (zD sl) en e0 e1 e2 (p0) (p1) (by omega) (by omega) (p6)) (cwV 3 hts gX9_addZero_X9_addTime rfl rfl rfl (by decide +kernel) ⟨Nat.le_of_ble_eq_true rfl, Nat.le_of_ble_eq_true rfl⟩) (f_preV hP hK 59 (by omega) 8 e0 rfl) rfl rfl hl.1 rfl (lv_room (Nat.le_of_ble_eq_true rfl)) dX9_addZero_73 ⟨Nat.zero_le _, Nat.zero_le _⟩) hS hAA (fun w_1 H locs q_2 hP hS => ?_)
            obtain ⟨tm2_3, tN2_4, tD2_5, fr_6, e_7, e_8, e_9, q_10⟩ := q_2
            have e_11 : w_1 59 = .inr (8, [.int (iN ((now : Nat) : Int)), .int (iN ((came : Nat) : Int)), .ref (gad G 60), .ref (gad G 61), .ref (gad G 62), .ref (gad G 63), .ref (gad G 64), .ref (gad G 65), .int (iN ((rm : Nat) : Int)), .int (iN ((mt : Nat) : Int)), .ref (gad G 66), .ref (gad G 67), .ref (gad G 68), .ref (gad G 69), .ref (gad G 70), .int (iN ((tm2_3 : Nat) : Int)), .ref (gad G 71), .ref (gad G 72), .int (iN thg), .int (iN onn), .int (iN two), .long (jN lw), .long (jN hg), .int (iN ((sq : Nat) : Int)), .ref (gad G 73), .ref (gad G 74)]) := e_7
            have e_12 : w_1 71 = .inl (gJ G, 700, .inr (.inl (aJ tN2_4))) := e_8
            have e_13 : w_1 72 = .inl (gJ G, 700, .inr (.inl (aJ tD2_5))) := e_9
            exact r_v hx hb hr dX9_addZero_76 hlocks hP hS (⟨tm2_3, tN2_4, tD2_5, (fun k h0 h1 h2 => fr_6 k (by omega) (by omega) (by omega)), e_11, e_12, e_13, (by rw [show azL en va sl fr to U = insX en (zN va sl fr, zD sl) U from if_pos (by omega)]; exact q_10)⟩)
      · refine lv_lload_n hx hb dX9_addZero_36 rfl (lv_at hl 3 rfl) ?_
        refine lv_goto (tgt := 42) hx hb dX9_addZero_37 (by decide) ?_
        refine n_topL (A := sl) (B := zD sl) (by exact (if_pos (by omega)).symm) ?_
        refine lv_lstore (lv' := [(12, .long (jN (zD sl))), (10, .long (jN (zN va sl fr))), (0, .ref (gad G 59)), (1, .long (jN va)), (3, .long (jN sl)), (5, .long (jN fr)), (7, .long (jN to)), (9, .int (iN en))]) hx hb dX9_addZero_42 hl (by decide) rfl (fun ls hl => ?_)
        refine lv_lload hx hb dX9_addZero_44 (lv_at hl 1 rfl) ?_
        refine lv_lload hx hb dX9_addZero_46 (lv_at hl 5 rfl) ?_
        refine lv_lload hx hb dX9_addZero_48 (lv_at hl 0 rfl) ?_
        refine n_lmul hx hb dX9_addZero_50 ?_
        refine n_lcmp hx hb (by omega) (by omega) (by omega) (by omega) dX9_addZero_51 ?_
        refine n_ifc_lt (tgt := 76) hx hb dX9_addZero_52 (by decide) (fun c_52 => ?_) (fun c_52 => ?_)
        · exact r_v hx hb hr dX9_addZero_76 hlocks hP hS (⟨tm, tN, tD, (fun k _ _ _ => rfl), e0, e1, e2, (by rw [show azL en va sl fr to U = U from if_neg (by omega)]; exact p0)⟩)
        · refine lv_lload hx hb dX9_addZero_55 (lv_at hl 1 rfl) ?_
          refine lv_lload hx hb dX9_addZero_57 (lv_at hl 6 rfl) ?_
          refine lv_lload hx hb dX9_addZero_59 (lv_at hl 0 rfl) ?_
          refine n_lmul hx hb dX9_addZero_61 ?_
          refine n_lcmp hx hb (by omega) (by omega) (by omega) (by omega) dX9_addZero_62 ?_
          refine n_ifc_gt (tgt := 76) hx hb dX9_addZero_63 (by decide) (fun c_63 => ?_) (fun c_63 => ?_)
          · exact r_v hx hb hr dX9_addZero_76 hlocks hP hS (⟨tm, tN, tD, (fun k _ _ _ => rfl), e0, e1, e2, (by rw [show azL en va sl fr to U = U from if_neg (by omega)]; exact p0)⟩)
          · refine lv_aload_n hx hb dX9_addZero_66 rfl (lv_at hl 2 rfl) ?_
            refine lv_lload hx hb dX9_addZero_67 (lv_at hl 1 rfl) ?_
            refine lv_lload hx hb dX9_addZero_69 (lv_at hl 0 rfl) ?_
            refine lv_iload hx hb dX9_addZero_71 (lv_at hl 7 rfl) ?_
            refine f_callv (W.runV (As := [.long (jN (zN va sl fr)), .long (jN (zD sl)), .int (iN en)]) (rest := []) ⟨hx, hb, hml, hown, hts⟩ (c_X9_addTime l G w U now came rm mt tm thg onn two lw hg sq tN tD (zN va sl fr) (zD sl) en e0 e1 e2 (p0) (p1) (by omega) (by omega) (p6)) (cwV 3 hts gX9_addZero_X9_addTime rfl rfl rfl (by decide +kernel) ⟨Nat.le_of_ble_eq_true rfl, Nat.le_of_ble_eq_true rfl⟩) (f_preV hP hK 59 (by omega) 8 e0 rfl) rfl rfl hl.1 rfl (lv_room (Nat.le_of_ble_eq_true rfl)) dX9_addZero_73 ⟨Nat.zero_le _, Nat.zero_le _⟩) hS hAA (fun w_14 H locs q_15 hP hS => ?_)
            obtain ⟨tm2_16, tN2_17, tD2_18, fr_19, e_20, e_21, e_22, q_23⟩ := q_15
            have e_24 : w_14 59 = .inr (8, [.int (iN ((now : Nat) : Int)), .int (iN ((came : Nat) : Int)), .ref (gad G 60), .ref (gad G 61), .ref (gad G 62), .ref (gad G 63), .ref (gad G 64), .ref (gad G 65), .int (iN ((rm : Nat) : Int)), .int (iN ((mt : Nat) : Int)), .ref (gad G 66), .ref (gad G 67), .ref (gad G 68), .ref (gad G 69), .ref (gad G 70), .int (iN ((tm2_16 : Nat) : Int)), .ref (gad G 71), .ref (gad G 72), .int (iN thg), .int (iN onn), .int (iN two), .long (jN lw), .long (jN hg), .int (iN ((sq : Nat) : Int)), .ref (gad G 73), .ref (gad G 74)]) := e_20
            have e_25 : w_14 71 = .inl (gJ G, 700, .inr (.inl (aJ tN2_17))) := e_21
            have e_26 : w_14 72 = .inl (gJ G, 700, .inr (.inl (aJ tD2_18))) := e_22
            exact r_v hx hb hr dX9_addZero_76 hlocks hP hS (⟨tm2_16, tN2_17, tD2_18, (fun k h0 h1 h2 => fr_19 k (by omega) (by omega) (by omega)), e_24, e_25, e_26, (by rw [show azL en va sl fr to U = insX en (zN va sl fr, zD sl) U from if_pos (by omega)]; exact q_23)⟩)
    · refine lv_lload hx hb dX9_addZero_13 (lv_at hl 3 rfl) ?_
      refine lv_lload_n hx hb dX9_addZero_15 rfl (lv_at hl 2 rfl) ?_
      refine n_lmul hx hb dX9_addZero_16 ?_
      refine lv_lload_n hx hb dX9_addZero_17 rfl (lv_at hl 1 rfl) ?_
      refine n_lsub hx hb dX9_addZero_18 ?_
      refine lv_goto (tgt := 28) hx hb dX9_addZero_19 (by decide) ?_
      refine n_topL (A := (fr * sl) - va) (B := zN va sl fr) (by exact (if_pos (by omega)).symm) ?_
      refine lv_lstore (lv' := [(10, .long (jN (zN va sl fr))), (0, .ref (gad G 59)), (1, .long (jN va)), (3, .long (jN sl)), (5, .long (jN fr)), (7, .long (jN to)), (9, .int (iN en))]) hx hb dX9_addZero_28 hl (by decide) rfl (fun ls hl => ?_)
      refine lv_lload_n hx hb dX9_addZero_30 rfl (lv_at hl 3 rfl) ?_
      refine n_lconst (z := 0) hx hb dX9_addZero_31 (by decide) ?_
      refine n_lcmp hx hb (by omega) (by omega) (by omega) (by omega) dX9_addZero_32 ?_
      refine n_ifc_le (tgt := 40) hx hb dX9_addZero_33 (by decide) (fun c_33 => ?_) (fun c_33 => ?_)
      · refine lv_lload_n hx hb dX9_addZero_40 rfl (lv_at hl 3 rfl) ?_
        refine n_lneg hx hb dX9_addZero_41 ?_
        refine n_topL (A := -sl) (B := zD sl) (by exact (if_neg (by omega)).symm) ?_
        refine lv_lstore (lv' := [(12, .long (jN (zD sl))), (10, .long (jN (zN va sl fr))), (0, .ref (gad G 59)), (1, .long (jN va)), (3, .long (jN sl)), (5, .long (jN fr)), (7, .long (jN to)), (9, .int (iN en))]) hx hb dX9_addZero_42 hl (by decide) rfl (fun ls hl => ?_)
        refine lv_lload hx hb dX9_addZero_44 (lv_at hl 1 rfl) ?_
        refine lv_lload hx hb dX9_addZero_46 (lv_at hl 5 rfl) ?_
        refine lv_lload hx hb dX9_addZero_48 (lv_at hl 0 rfl) ?_
        refine n_lmul hx hb dX9_addZero_50 ?_
        refine n_lcmp hx hb (by omega) (by omega) (by omega) (by omega) dX9_addZero_51 ?_
        refine n_ifc_lt (tgt := 76) hx hb dX9_addZero_52 (by decide) (fun c_52 => ?_) (fun c_52 => ?_)
        · exact r_v hx hb hr dX9_addZero_76 hlocks hP hS (⟨tm, tN, tD, (fun k _ _ _ => rfl), e0, e1, e2, (by rw [show azL en va sl fr to U = U from if_neg (by omega)]; exact p0)⟩)
        · refine lv_lload hx hb dX9_addZero_55 (lv_at hl 1 rfl) ?_
          refine lv_lload hx hb dX9_addZero_57 (lv_at hl 6 rfl) ?_
          refine lv_lload hx hb dX9_addZero_59 (lv_at hl 0 rfl) ?_
          refine n_lmul hx hb dX9_addZero_61 ?_
          refine n_lcmp hx hb (by omega) (by omega) (by omega) (by omega) dX9_addZero_62 ?_
          refine n_ifc_gt (tgt := 76) hx hb dX9_addZero_63 (by decide) (fun c_63 => ?_) (fun c_63 => ?_)
          · exact r_v hx hb hr dX9_addZero_76 hlocks hP hS (⟨tm, tN, tD, (fun k _ _ _ => rfl), e0, e1, e2, (by rw [show azL en va sl fr to U = U from if_neg (by omega)]; exact p0)⟩)
          · refine lv_aload_n hx hb dX9_addZero_66 rfl (lv_at hl 2 rfl) ?_
            refine lv_lload hx hb dX9_addZero_67 (lv_at hl 1 rfl) ?_
            refine lv_lload hx hb dX9_addZero_69 (lv_at hl 0 rfl) ?_
            refine lv_iload hx hb dX9_addZero_71 (lv_at hl 7 rfl) ?_
            refine f_callv (W.runV (As := [.long (jN (zN va sl fr)), .long (jN (zD sl)), .int (iN en)]) (rest := []) ⟨hx, hb, hml, hown, hts⟩ (c_X9_addTime l G w U now came rm mt tm thg onn two lw hg sq tN tD (zN va sl fr) (zD sl) en e0 e1 e2 (p0) (p1) (by omega) (by omega) (p6)) (cwV 3 hts gX9_addZero_X9_addTime rfl rfl rfl (by decide +kernel) ⟨Nat.le_of_ble_eq_true rfl, Nat.le_of_ble_eq_true rfl⟩) (f_preV hP hK 59 (by omega) 8 e0 rfl) rfl rfl hl.1 rfl (lv_room (Nat.le_of_ble_eq_true rfl)) dX9_addZero_73 ⟨Nat.zero_le _, Nat.zero_le _⟩) hS hAA (fun w_27 H locs q_28 hP hS => ?_)
            obtain ⟨tm2_29, tN2_30, tD2_31, fr_32, e_33, e_34, e_35, q_36⟩ := q_28
            have e_37 : w_27 59 = .inr (8, [.int (iN ((now : Nat) : Int)), .int (iN ((came : Nat) : Int)), .ref (gad G 60), .ref (gad G 61), .ref (gad G 62), .ref (gad G 63), .ref (gad G 64), .ref (gad G 65), .int (iN ((rm : Nat) : Int)), .int (iN ((mt : Nat) : Int)), .ref (gad G 66), .ref (gad G 67), .ref (gad G 68), .ref (gad G 69), .ref (gad G 70), .int (iN ((tm2_29 : Nat) : Int)), .ref (gad G 71), .ref (gad G 72), .int (iN thg), .int (iN onn), .int (iN two), .long (jN lw), .long (jN hg), .int (iN ((sq : Nat) : Int)), .ref (gad G 73), .ref (gad G 74)]) := e_33
            have e_38 : w_27 71 = .inl (gJ G, 700, .inr (.inl (aJ tN2_30))) := e_34
            have e_39 : w_27 72 = .inl (gJ G, 700, .inr (.inl (aJ tD2_31))) := e_35
            exact r_v hx hb hr dX9_addZero_76 hlocks hP hS (⟨tm2_29, tN2_30, tD2_31, (fun k h0 h1 h2 => fr_32 k (by omega) (by omega) (by omega)), e_37, e_38, e_39, (by rw [show azL en va sl fr to U = insX en (zN va sl fr, zD sl) U from if_pos (by omega)]; exact q_36)⟩)
      · refine lv_lload_n hx hb dX9_addZero_36 rfl (lv_at hl 3 rfl) ?_
        refine lv_goto (tgt := 42) hx hb dX9_addZero_37 (by decide) ?_
        refine n_topL (A := sl) (B := zD sl) (by exact (if_pos (by omega)).symm) ?_
        refine lv_lstore (lv' := [(12, .long (jN (zD sl))), (10, .long (jN (zN va sl fr))), (0, .ref (gad G 59)), (1, .long (jN va)), (3, .long (jN sl)), (5, .long (jN fr)), (7, .long (jN to)), (9, .int (iN en))]) hx hb dX9_addZero_42 hl (by decide) rfl (fun ls hl => ?_)
        refine lv_lload hx hb dX9_addZero_44 (lv_at hl 1 rfl) ?_
        refine lv_lload hx hb dX9_addZero_46 (lv_at hl 5 rfl) ?_
        refine lv_lload hx hb dX9_addZero_48 (lv_at hl 0 rfl) ?_
        refine n_lmul hx hb dX9_addZero_50 ?_
        refine n_lcmp hx hb (by omega) (by omega) (by omega) (by omega) dX9_addZero_51 ?_
        refine n_ifc_lt (tgt := 76) hx hb dX9_addZero_52 (by decide) (fun c_52 => ?_) (fun c_52 => ?_)
        · exact r_v hx hb hr dX9_addZero_76 hlocks hP hS (⟨tm, tN, tD, (fun k _ _ _ => rfl), e0, e1, e2, (by rw [show azL en va sl fr to U = U from if_neg (by omega)]; exact p0)⟩)
        · refine lv_lload hx hb dX9_addZero_55 (lv_at hl 1 rfl) ?_
          refine lv_lload hx hb dX9_addZero_57 (lv_at hl 6 rfl) ?_
          refine lv_lload hx hb dX9_addZero_59 (lv_at hl 0 rfl) ?_
          refine n_lmul hx hb dX9_addZero_61 ?_
          refine n_lcmp hx hb (by omega) (by omega) (by omega) (by omega) dX9_addZero_62 ?_
          refine n_ifc_gt (tgt := 76) hx hb dX9_addZero_63 (by decide) (fun c_63 => ?_) (fun c_63 => ?_)
          · exact r_v hx hb hr dX9_addZero_76 hlocks hP hS (⟨tm, tN, tD, (fun k _ _ _ => rfl), e0, e1, e2, (by rw [show azL en va sl fr to U = U from if_neg (by omega)]; exact p0)⟩)
          · refine lv_aload_n hx hb dX9_addZero_66 rfl (lv_at hl 2 rfl) ?_
            refine lv_lload hx hb dX9_addZero_67 (lv_at hl 1 rfl) ?_
            refine lv_lload hx hb dX9_addZero_69 (lv_at hl 0 rfl) ?_
            refine lv_iload hx hb dX9_addZero_71 (lv_at hl 7 rfl) ?_
            refine f_callv (W.runV (As := [.long (jN (zN va sl fr)), .long (jN (zD sl)), .int (iN en)]) (rest := []) ⟨hx, hb, hml, hown, hts⟩ (c_X9_addTime l G w U now came rm mt tm thg onn two lw hg sq tN tD (zN va sl fr) (zD sl) en e0 e1 e2 (p0) (p1) (by omega) (by omega) (p6)) (cwV 3 hts gX9_addZero_X9_addTime rfl rfl rfl (by decide +kernel) ⟨Nat.le_of_ble_eq_true rfl, Nat.le_of_ble_eq_true rfl⟩) (f_preV hP hK 59 (by omega) 8 e0 rfl) rfl rfl hl.1 rfl (lv_room (Nat.le_of_ble_eq_true rfl)) dX9_addZero_73 ⟨Nat.zero_le _, Nat.zero_le _⟩) hS hAA (fun w_40 H locs q_41 hP hS => ?_)
            obtain ⟨tm2_42, tN2_43, tD2_44, fr_45, e_46, e_47, e_48, q_49⟩ := q_41
            have e_50 : w_40 59 = .inr (8, [.int (iN ((now : Nat) : Int)), .int (iN ((came : Nat) : Int)), .ref (gad G 60), .ref (gad G 61), .ref (gad G 62), .ref (gad G 63), .ref (gad G 64), .ref (gad G 65), .int (iN ((rm : Nat) : Int)), .int (iN ((mt : Nat) : Int)), .ref (gad G 66), .ref (gad G 67), .ref (gad G 68), .ref (gad G 69), .ref (gad G 70), .int (iN ((tm2_42 : Nat) : Int)), .ref (gad G 71), .ref (gad G 72), .int (iN thg), .int (iN onn), .int (iN two), .long (jN lw), .long (jN hg), .int (iN ((sq : Nat) : Int)), .ref (gad G 73), .ref (gad G 74)]) := e_46
            have e_51 : w_40 71 = .inl (gJ G, 700, .inr (.inl (aJ tN2_43))) := e_47
            have e_52 : w_40 72 = .inl (gJ G, 700, .inr (.inl (aJ tD2_44))) := e_48
            exact r_v hx hb hr dX9_addZero_76 hlocks hP hS (⟨tm2_42, tN2_43, tD2_44, (fun k h0 h1 h2 => fr_45 k (by omega) (by omega) (by omega)), e_50, e_51, e_52, (by rw [show azL en va sl fr to U = insX en (zN va sl fr, zD sl) U from if_pos (by omega)]; exact q_49)⟩)
  · exact r_v hx hb hr dX9_addZero_6 hlocks hP hS (⟨tm, tN, tD, (fun k _ _ _ => rfl), e0, e1, e2, (by rw [show azL en va sl fr to U = U from if_neg (by omega)]; exact p0)⟩)

def apQ (S : FS) (en w0 : Int) (i j p : Nat) : Nat → List TM → List TM
  | 0, L => L
  | q + 1, L => if meF S i j p q ≤ meE S i j p q then azL en (meA S i j p q - w0) (meS S i j p q) (meF S i j p q) (meE S i j p q) (apQ S en w0 i j p q L) else apQ S en w0 i j p q L
def apP (S : FS) (en w0 : Int) (i j : Nat) : Nat → List TM → List TM
  | 0, L => L
  | p + 1, L => apQ S en w0 i j p (S.2.2.2.1 j) (apP S en w0 i j p L)
theorem apQ_len (S : FS) (en w0 : Int) (i j p : Nat) (L : List TM) : ∀ q, (apQ S en w0 i j p q L).length ≤ L.length + q
  | 0 => Nat.le_refl _
  | q + 1 => by
    have h1 := apQ_len S en w0 i j p L q
    have h2 := azL_len en (meA S i j p q - w0) (meS S i j p q) (meF S i j p q) (meE S i j p q) (apQ S en w0 i j p q L)
    unfold apQ
    split <;> omega
theorem apP_len {S : FS} {en w0 : Int} {i j : Nat} {L : List TM} (hj : S.2.2.2.1 j ≤ 8) : ∀ p, (apP S en w0 i j p L).length ≤ L.length + 8 * p
  | 0 => Nat.le_refl _
  | p + 1 => by
    have h1 := apP_len (S := S) (en := en) (w0 := w0) (i := i) (L := L) hj p
    have h2 := apQ_len S en w0 i j p (apP S en w0 i j p L) (S.2.2.2.1 j)
    unfold apP
    omega
def atL (S : FS) (en x0 : Int) (i : Nat) : Nat → List TM → List TM
  | 0, L => L
  | p + 1, L => azL en (S.2.1 i p - x0) (S.2.2.1 i p) (S.1 i p) (enP (S.1 i) (S.2.2.2.1 i) (S.2.2.2.2 i) p) (atL S en x0 i p L)
theorem atL_len (S : FS) (en x0 : Int) (i : Nat) (L : List TM) : ∀ p, (atL S en x0 i p L).length ≤ L.length + p
  | 0 => Nat.le_refl _
  | p + 1 => by
    have h1 := atL_len S en x0 i L p
    have h2 := azL_len en (S.2.1 i p - x0) (S.2.2.1 i p) (S.1 i p) (enP (S.1 i) (S.2.2.2.1 i) (S.2.2.2.2 i) p) (atL S en x0 i p L)
    unfold atL
    omega

set_option maxHeartbeats 4000000 in
set_option maxRecDepth 100000 in
theorem c_X9_addApart (l : Launch) (G : GE) (w : WF) (U : List TM) (now : Nat) (came : Nat) (rm : Nat) (mt : Nat) (tm : Nat) (thg : Int) (onn : Int) (two : Int) (lw : Int) (hg : Int) (sq : Nat) (ga : Nat → Int) (pn : Nat → Nat) (mbe : Nat → Int) (mpl : Nat → Int) (msp : Nat → Int) (tN : Nat → Int) (tD : Nat → Int) (i : Nat) (j : Nat) (w0 : Int) (en : Int) (e0 : w 59 = .inr (8, [.int (iN ((now : Nat) : Int)), .int (iN ((came : Nat) : Int)), .ref (gad G 60), .ref (gad G 61), .ref (gad G 62), .ref (gad G 63), .ref (gad G 64), .ref (gad G 65), .int (iN ((rm : Nat) : Int)), .int (iN ((mt : Nat) : Int)), .ref (gad G 66), .ref (gad G 67), .ref (gad G 68), .ref (gad G 69), .ref (gad G 70), .int (iN ((tm : Nat) : Int)), .ref (gad G 71), .ref (gad G 72), .int (iN thg), .int (iN onn), .int (iN two), .long (jN lw), .long (jN hg), .int (iN ((sq : Nat) : Int)), .ref (gad G 73), .ref (gad G 74)])) (e1 : w 60 = .inl (gI G, 10, .inl (aN ga))) (e2 : w 61 = .inl (gI G, 10, .inl (aN (pnI pn)))) (e3 : w 62 = .inl (gI G, 80, .inl (aN mbe))) (e4 : w 63 = .inl (gI G, 80, .inl (aN mpl))) (e5 : w 64 = .inl (gI G, 80, .inl (aN msp))) (e6 : w 71 = .inl (gJ G, 700, .inr (.inl (aJ tN)))) (e7 : w 72 = .inl (gJ G, 700, .inr (.inl (aJ tD)))) (p0 : OKS came (rw8 mbe) (rw8 mpl) (rw8 msp) pn ga) (p1 : i < came) (p2 : j < came) (p3 : isT U tm tN tD) (p4 : U.length ≤ 630) (p5 : -2000 ≤ w0 ∧ w0 ≤ 2000) (p6 : 1 ≤ en ∧ en ≤ 600) : Met l yX9_addApart wsX9_addApart ({ frames := 2, cells := 0, slots := 0, locals := 60 }) (PcG G w [.ref (gad G 59), .int (iN ((i : Nat) : Int)), .int (iN ((j : Nat) : Int)), .long (jN w0), .int (iN en)]) (QV G (fun w1 => ∃ (tm2 : Nat) (tN2 : Nat → Int) (tD2 : Nat → Int), (∀ k : Nat, k ≠ 59 → k ≠ 71 → k ≠ 72 → w1 k = w k) ∧ w1 59 = .inr (8, [.int (iN ((now : Nat) : Int)), .int (iN ((came : Nat) : Int)), .ref (gad G 60), .ref (gad G 61), .ref (gad G 62), .ref (gad G 63), .ref (gad G 64), .ref (gad G 65), .int (iN ((rm : Nat) : Int)), .int (iN ((mt : Nat) : Int)), .ref (gad G 66), .ref (gad G 67), .ref (gad G 68), .ref (gad G 69), .ref (gad G 70), .int (iN ((tm2 : Nat) : Int)), .ref (gad G 71), .ref (gad G 72), .int (iN thg), .int (iN onn), .int (iN two), .long (jN lw), .long (jN hg), .int (iN ((sq : Nat) : Int)), .ref (gad G 73), .ref (gad G 74)]) ∧ w1 71 = .inl (gJ G, 700, .inr (.inl (aJ tN2))) ∧ w1 72 = .inl (gJ G, 700, .inr (.inl (aJ tD2))) ∧ (isT (apP (rw8 mbe, rw8 mpl, rw8 msp, pn, ga) en w0 i j (pn i) U) tm2 tN2 tD2))) 0 0 (AA G) := by
  refine Met.ofW (cc := cX9_addApart) (maxL := 12) (ret := none) (by decide) rfl ?_
  intro p e s m args below meth c s₁ B hml hv
  obtain ⟨rfl, hP, hK⟩ := hv
  have hx := B.exec
  have hb := B.bytes
  have hr := B.returns
  have hts := atoms_spec (ws := wsX9_addApart) B.pre
  have hown : s.vm.findClass RX9 = some m.cls := findClass_of_methodNamed B.named
  have hlocks := B.notSynchronized
  have hS : va_S (AA G) s.heap s.heap [] := va_S.rf
  have hAA : ∀ q, AA G q → AA G q := fun _ h => h
  have hl := lv_entry ([.ref (gad G 59), .int (iN ((i : Nat) : Int)), .int (iN ((j : Nat) : Int)), .long (jN w0), .int (iN en)]) (n := 12) (Nat.le_of_ble_eq_true rfl)
  rw [lg_entry_eq]
  generalize (lg_sl ([.ref (gad G 59), .int (iN ((i : Nat) : Int)), .int (iN ((j : Nat) : Int)), .long (jN w0), .int (iN en)]) ++ List.replicate (12 - (lg_sl ([.ref (gad G 59), .int (iN ((i : Nat) : Int)), .int (iN ((j : Nat) : Int)), .long (jN w0), .int (iN en)])).length) Slot.unset).toArray = ls at hl ⊢
  have hl : lv_has ls 12 [(0, .ref (gad G 59)), (1, .int (iN ((i : Nat) : Int))), (2, .int (iN ((j : Nat) : Int))), (3, .long (jN w0)), (5, .int (iN en))] := hl
  have hc10 : came ≤ 10 := p0.1
  obtain ⟨hv1, hv2, hv3, hv4⟩ := id (p0.2 i p1)
  obtain ⟨gv1, gv2, gv3, gv4⟩ := id (p0.2 j p2)
  refine n_bipush hx hb dX9_addApart_0 (by decide) ?_
  refine lv_iload_n hx hb dX9_addApart_2 rfl (lv_at hl 1 rfl) ?_
  refine n_imul hx hb dX9_addApart_3 ?_
  refine n_top (A := 8 * ((i : Nat) : Int)) (B := ((8 * i : Nat) : Int)) (by omega) ?_
  refine lv_istore (lv' := [(6, .int (iN ((8 * i : Nat) : Int))), (0, .ref (gad G 59)), (1, .int (iN ((i : Nat) : Int))), (2, .int (iN ((j : Nat) : Int))), (3, .long (jN w0)), (5, .int (iN en))]) hx hb dX9_addApart_4 hl (by decide) rfl (fun ls hl => ?_)
  have K6 : ∀ (N : Nat) (x : Nat) (tm2 : Nat) (tN2 : Nat → Int) (tD2 : Nat → Int) (w2 : WF) (H : Heap) (locs : List Loc) (ls : Array Slot), (x ≤ pn i) → (isT (apP (rw8 mbe, rw8 mpl, rw8 msp, pn, ga) en w0 i j x U) tm2 tN2 tD2) → 9 - x < N → w2 59 = .inr (8, [.int (iN ((now : Nat) : Int)), .int (iN ((came : Nat) : Int)), .ref (gad G 60), .ref (gad G 61), .ref (gad G 62), .ref (gad G 63), .ref (gad G 64), .ref (gad G 65), .int (iN ((rm : Nat) : Int)), .int (iN ((mt : Nat) : Int)), .ref (gad G 66), .ref (gad G 67), .ref (gad G 68), .ref (gad G 69), .ref (gad G 70), .int (iN ((tm2 : Nat) : Int)), .ref (gad G 71), .ref (gad G 72), .int (iN thg), .int (iN onn), .int (iN two), .long (jN lw), .long (jN hg), .int (iN ((sq : Nat) : Int)), .ref (gad G 73), .ref (gad G 74)]) → w2 71 = .inl (gJ G, 700, .inr (.inl (aJ tN2))) → w2 72 = .inl (gJ G, 700, .inr (.inl (aJ tD2))) → (∀ k : Nat, k ≠ 59 → k ≠ 71 → k ≠ 72 → w2 k = w k) → PW G w2 H → va_S (AA G) s.heap H locs → lv_has ls 12 [(0, .ref (gad G 59)), (1, .int (iN ((i : Nat) : Int))), (2, .int (iN ((j : Nat) : Int))), (3, .long (jN w0)), (5, .int (iN en)), (6, .int (iN ((8 * i + x : Nat) : Int)))] → W p l e (headSpec wsX9_addApart ({ frames := 2, cells := 0, slots := 0, locals := 60 })).room s m (([.ref (gad G 59), .int (iN ((i : Nat) : Int)), .int (iN ((j : Nat) : Int)), .long (jN w0), .int (iN en)] : List Value).toArray) below meth c H locs 0 0 (MQ below (QV G (fun w1 => ∃ (tm2 : Nat) (tN2 : Nat → Int) (tD2 : Nat → Int), (∀ k : Nat, k ≠ 59 → k ≠ 71 → k ≠ 72 → w1 k = w k) ∧ w1 59 = .inr (8, [.int (iN ((now : Nat) : Int)), .int (iN ((came : Nat) : Int)), .ref (gad G 60), .ref (gad G 61), .ref (gad G 62), .ref (gad G 63), .ref (gad G 64), .ref (gad G 65), .int (iN ((rm : Nat) : Int)), .int (iN ((mt : Nat) : Int)), .ref (gad G 66), .ref (gad G 67), .ref (gad G 68), .ref (gad G 69), .ref (gad G 70), .int (iN ((tm2 : Nat) : Int)), .ref (gad G 71), .ref (gad G 72), .int (iN thg), .int (iN onn), .int (iN two), .long (jN lw), .long (jN hg), .int (iN ((sq : Nat) : Int)), .ref (gad G 73), .ref (gad G 74)]) ∧ w1 71 = .inl (gJ G, 700, .inr (.inl (aJ tN2))) ∧ w1 72 = .inl (gJ G, 700, .inr (.inl (aJ tD2))) ∧ (isT (apP (rw8 mbe, rw8 mpl, rw8 msp, pn, ga) en w0 i j (pn i) U) tm2 tN2 tD2))) (([.ref (gad G 59), .int (iN ((i : Nat) : Int)), .int (iN ((j : Nat) : Int)), .long (jN w0), .int (iN en)] : List Value).toArray) s 0 0 (AA G)) (F0 m 6 ls []) := by
    intro N
    induction N with
    | zero =>
      intros
      exfalso
      omega
    | succ N ih6 =>
      intro x tm2 tN2 tD2 w2 H locs ls i6_0 i6_1 hN6 f6_0 f6_1 f6_2 hfr6 hP hS hl
      have e_1 : w2 60 = .inl (gI G, 10, .inl (aN ga)) := by rw [hfr6 60 (by omega) (by omega) (by omega)]; exact e1
      have e_2 : w2 61 = .inl (gI G, 10, .inl (aN (pnI pn))) := by rw [hfr6 61 (by omega) (by omega) (by omega)]; exact e2
      have e_3 : w2 62 = .inl (gI G, 80, .inl (aN mbe)) := by rw [hfr6 62 (by omega) (by omega) (by omega)]; exact e3
      have e_4 : w2 63 = .inl (gI G, 80, .inl (aN mpl)) := by rw [hfr6 63 (by omega) (by omega) (by omega)]; exact e4
      have e_5 : w2 64 = .inl (gI G, 80, .inl (aN msp)) := by rw [hfr6 64 (by omega) (by omega) (by omega)]; exact e5
      refine lv_iload hx hb dX9_addApart_6 (lv_at hl 5 rfl) ?_
      refine lv_aload_n hx hb dX9_addApart_8 rfl (lv_at hl 0 rfl) ?_
      refine lv_iload_n hx hb dX9_addApart_9 rfl (lv_at hl 1 rfl) ?_
      refine vp_callSi (W.runV (As := [.int (iN ((i : Nat) : Int))]) (rest := [.int (iN ((8 * i + x : Nat) : Int))]) ⟨hx, hb, hml, hown, hts⟩ (c_X9_latest l G w2 now came rm mt tm2 thg onn two lw hg sq ga pn mbe mpl msp i f6_0 e_1 e_2 e_3 e_4 e_5 (by omega) (hv1)) (cwV 1 hts gX9_addApart_X9_latest rfl rfl rfl (by decide +kernel) ⟨Nat.le_of_ble_eq_true rfl, Nat.le_of_ble_eq_true rfl⟩) (f_preV hP hK 59 (by omega) 8 f6_0 rfl) rfl rfl hl.1 rfl (lv_room (Nat.le_of_ble_eq_true rfl)) dX9_addApart_10 ⟨Nat.zero_le _, Nat.zero_le _⟩) (fun r_6 hr_6 => ?_)
      rw [show r_6 = iN ((8 * i + pn i - 1 : Nat) : Int) from hr_6]
      refine n_icmp_gt (tgt := 182) hx hb dX9_addApart_13 (by decide) (by omega) (by omega) (by omega) (by omega) (fun c_13 => ?_) (fun c_13 => ?_)
      · exact r_v hx hb hr dX9_addApart_182 hlocks hP hS (⟨tm2, tN2, tD2, (fun k h0 h1 h2 => hfr6 k (by omega) (by omega) (by omega)), f6_0, f6_1, f6_2, (by have hz := i6_1; rw [show x = pn i by omega] at hz; exact hz)⟩)
      · refine n_bipush hx hb dX9_addApart_16 (by decide) ?_
        refine lv_iload_n hx hb dX9_addApart_18 rfl (lv_at hl 2 rfl) ?_
        refine n_imul hx hb dX9_addApart_19 ?_
        refine n_top (A := 8 * ((j : Nat) : Int)) (B := ((8 * j : Nat) : Int)) (by omega) ?_
        refine lv_istore (lv' := [(7, .int (iN ((8 * j : Nat) : Int))), (0, .ref (gad G 59)), (1, .int (iN ((i : Nat) : Int))), (2, .int (iN ((j : Nat) : Int))), (3, .long (jN w0)), (5, .int (iN en)), (6, .int (iN ((8 * i + x : Nat) : Int)))]) hx hb dX9_addApart_20 hl (by decide) rfl (fun ls hl => ?_)
        have K22 : ∀ (N : Nat) (y : Nat) (tm2 : Nat) (tN2 : Nat → Int) (tD2 : Nat → Int) (w2 : WF) (H : Heap) (locs : List Loc) (ls : Array Slot), (x < pn i) → (y ≤ pn j) → (isT (apQ (rw8 mbe, rw8 mpl, rw8 msp, pn, ga) en w0 i j x y (apP (rw8 mbe, rw8 mpl, rw8 msp, pn, ga) en w0 i j x U)) tm2 tN2 tD2) → 9 - y < N → w2 59 = .inr (8, [.int (iN ((now : Nat) : Int)), .int (iN ((came : Nat) : Int)), .ref (gad G 60), .ref (gad G 61), .ref (gad G 62), .ref (gad G 63), .ref (gad G 64), .ref (gad G 65), .int (iN ((rm : Nat) : Int)), .int (iN ((mt : Nat) : Int)), .ref (gad G 66), .ref (gad G 67), .ref (gad G 68), .ref (gad G 69), .ref (gad G 70), .int (iN ((tm2 : Nat) : Int)), .ref (gad G 71), .ref (gad G 72), .int (iN thg), .int (iN onn), .int (iN two), .long (jN lw), .long (jN hg), .int (iN ((sq : Nat) : Int)), .ref (gad G 73), .ref (gad G 74)]) → w2 71 = .inl (gJ G, 700, .inr (.inl (aJ tN2))) → w2 72 = .inl (gJ G, 700, .inr (.inl (aJ tD2))) → (∀ k : Nat, k ≠ 59 → k ≠ 71 → k ≠ 72 → w2 k = w k) → PW G w2 H → va_S (AA G) s.heap H locs → lv_has ls 12 [(0, .ref (gad G 59)), (1, .int (iN ((i : Nat) : Int))), (2, .int (iN ((j : Nat) : Int))), (3, .long (jN w0)), (5, .int (iN en)), (6, .int (iN ((8 * i + x : Nat) : Int))), (7, .int (iN ((8 * j + y : Nat) : Int)))] → W p l e (headSpec wsX9_addApart ({ frames := 2, cells := 0, slots := 0, locals := 60 })).room s m (([.ref (gad G 59), .int (iN ((i : Nat) : Int)), .int (iN ((j : Nat) : Int)), .long (jN w0), .int (iN en)] : List Value).toArray) below meth c H locs 0 0 (MQ below (QV G (fun w1 => ∃ (tm2 : Nat) (tN2 : Nat → Int) (tD2 : Nat → Int), (∀ k : Nat, k ≠ 59 → k ≠ 71 → k ≠ 72 → w1 k = w k) ∧ w1 59 = .inr (8, [.int (iN ((now : Nat) : Int)), .int (iN ((came : Nat) : Int)), .ref (gad G 60), .ref (gad G 61), .ref (gad G 62), .ref (gad G 63), .ref (gad G 64), .ref (gad G 65), .int (iN ((rm : Nat) : Int)), .int (iN ((mt : Nat) : Int)), .ref (gad G 66), .ref (gad G 67), .ref (gad G 68), .ref (gad G 69), .ref (gad G 70), .int (iN ((tm2 : Nat) : Int)), .ref (gad G 71), .ref (gad G 72), .int (iN thg), .int (iN onn), .int (iN two), .long (jN lw), .long (jN hg), .int (iN ((sq : Nat) : Int)), .ref (gad G 73), .ref (gad G 74)]) ∧ w1 71 = .inl (gJ G, 700, .inr (.inl (aJ tN2))) ∧ w1 72 = .inl (gJ G, 700, .inr (.inl (aJ tD2))) ∧ (isT (apP (rw8 mbe, rw8 mpl, rw8 msp, pn, ga) en w0 i j (pn i) U) tm2 tN2 tD2))) (([.ref (gad G 59), .int (iN ((i : Nat) : Int)), .int (iN ((j : Nat) : Int)), .long (jN w0), .int (iN en)] : List Value).toArray) s 0 0 (AA G)) (F0 m 22 ls []) := by
          intro N
          induction N with
          | zero =>
            intros
            exfalso
            omega
          | succ N ih22 =>
            intro y tm2 tN2 tD2 w2 H locs ls i22_0 i22_1 i22_2 hN22 f22_0 f22_1 f22_2 hfr22 hP hS hl
            have e_7 : w2 60 = .inl (gI G, 10, .inl (aN ga)) := by rw [hfr22 60 (by omega) (by omega) (by omega)]; exact e1
            have e_8 : w2 61 = .inl (gI G, 10, .inl (aN (pnI pn))) := by rw [hfr22 61 (by omega) (by omega) (by omega)]; exact e2
            have e_9 : w2 62 = .inl (gI G, 80, .inl (aN mbe)) := by rw [hfr22 62 (by omega) (by omega) (by omega)]; exact e3
            have e_10 : w2 63 = .inl (gI G, 80, .inl (aN mpl)) := by rw [hfr22 63 (by omega) (by omega) (by omega)]; exact e4
            have e_11 : w2 64 = .inl (gI G, 80, .inl (aN msp)) := by rw [hfr22 64 (by omega) (by omega) (by omega)]; exact e5
            refine lv_iload hx hb dX9_addApart_22 (lv_at hl 6 rfl) ?_
            refine lv_aload_n hx hb dX9_addApart_24 rfl (lv_at hl 0 rfl) ?_
            refine lv_iload_n hx hb dX9_addApart_25 rfl (lv_at hl 2 rfl) ?_
            refine vp_callSi (W.runV (As := [.int (iN ((j : Nat) : Int))]) (rest := [.int (iN ((8 * j + y : Nat) : Int))]) ⟨hx, hb, hml, hown, hts⟩ (c_X9_latest l G w2 now came rm mt tm2 thg onn two lw hg sq ga pn mbe mpl msp j f22_0 e_7 e_8 e_9 e_10 e_11 (by omega) (gv1)) (cwV 1 hts gX9_addApart_X9_latest rfl rfl rfl (by decide +kernel) ⟨Nat.le_of_ble_eq_true rfl, Nat.le_of_ble_eq_true rfl⟩) (f_preV hP hK 59 (by omega) 8 f22_0 rfl) rfl rfl hl.1 rfl (lv_room (Nat.le_of_ble_eq_true rfl)) dX9_addApart_26 ⟨Nat.zero_le _, Nat.zero_le _⟩) (fun r_12 hr_12 => ?_)
            rw [show r_12 = iN ((8 * j + pn j - 1 : Nat) : Int) from hr_12]
            refine n_icmp_gt (tgt := 176) hx hb dX9_addApart_29 (by decide) (by omega) (by omega) (by omega) (by omega) (fun c_29 => ?_) (fun c_29 => ?_)
            · refine lv_iinc (v := iN (((8 * i + x) + 1 : Nat) : Int)) (lv' := [(6, .int (iN (((8 * i + x) + 1 : Nat) : Int))), (0, .ref (gad G 59)), (1, .int (iN ((i : Nat) : Int))), (2, .int (iN ((j : Nat) : Int))), (3, .long (jN w0)), (5, .int (iN en)), (7, .int (iN ((8 * j + y : Nat) : Int)))]) hx hb dX9_addApart_176 hl (k := 5) rfl (iN_incN _) (by decide) rfl (fun ls hl => ?_)
              refine lv_goto (tgt := 6) hx hb dX9_addApart_179 (by decide) ?_
              exact ih6 (x + 1) (tm2) (tN2) (tD2) w2 _ _ _ (by omega) ((by show isT (apQ (rw8 mbe, rw8 mpl, rw8 msp, pn, ga) en w0 i j x (pn j) _) _ _ _; have hz := i22_2; rw [show y = pn j by omega] at hz; exact hz)) (by omega) (f22_0) (f22_1) (f22_2) (fun k h0 h1 h2 => hfr22 k (by omega) (by omega) (by omega)) hP hS (lv_sub hl [1, 2, 3, 4, 5, 0] rfl)
            · have hvx : 0 ≤ mbe (8 * i + x) ∧ mbe (8 * i + x) ≤ 400 := hv2 x (by omega)
              have gvy : 0 ≤ mbe (8 * j + y) ∧ mbe (8 * j + y) ≤ 400 := gv2 y (by omega)
              have hwx : (-21000 ≤ mpl (8 * i + x) ∧ mpl (8 * i + x) ≤ 21000) ∧ (-50 ≤ msp (8 * i + x) ∧ msp (8 * i + x) ≤ 50) := hv4 x (by omega)
              have gwy : (-21000 ≤ mpl (8 * j + y) ∧ mpl (8 * j + y) ≤ 21000) ∧ (-50 ≤ msp (8 * j + y) ∧ msp (8 * j + y) ≤ 50) := gv4 y (by omega)
              have hrg := me_rng p0 p1 p2 (show x < pn i by omega) (show y < pn j by omega)
              have he1 := enP_rng (p := x) hv2 hv3
              have he2 := enP_rng (p := y) gv2 gv3
              have hl1 := apP_len (S := (rw8 mbe, rw8 mpl, rw8 msp, pn, ga)) (en := en) (w0 := w0) (i := i) (L := U) gv1.2 x
              have hl2 := apQ_len (rw8 mbe, rw8 mpl, rw8 msp, pn, ga) en w0 i j x (apP (rw8 mbe, rw8 mpl, rw8 msp, pn, ga) en w0 i j x U) y
              refine lv_aload_n hx hb dX9_addApart_32 rfl (lv_at hl 0 rfl) ?_
              refine f_get (C := RX9) (T := TX9) (N := 26) hx hb hts (by decide +kernel) hown hK hP 59 (by omega) f22_0 rfl 4 (by decide) (hts (.fieldLink RX9 16 "KeptMovingModel" "begins" "[I") (by decide +kernel)) (fun _ h9 => h9) rfl dX9_addApart_33 ?_
              refine lv_iload hx hb dX9_addApart_36 (lv_at hl 5 rfl) ?_
              refine n_iald hx hb hK hP 62 (by omega) e_9 (8 * i + x) rfl (by omega) (by decide) dX9_addApart_38 ?_
              refine lv_aload_n hx hb dX9_addApart_39 rfl (lv_at hl 0 rfl) ?_
              refine f_get (C := RX9) (T := TX9) (N := 26) hx hb hts (by decide +kernel) hown hK hP 59 (by omega) f22_0 rfl 4 (by decide) (hts (.fieldLink RX9 16 "KeptMovingModel" "begins" "[I") (by decide +kernel)) (fun _ h9 => h9) rfl dX9_addApart_40 ?_
              refine lv_iload hx hb dX9_addApart_43 (lv_at hl 6 rfl) ?_
              refine n_iald hx hb hK hP 62 (by omega) e_9 (8 * j + y) rfl (by omega) (by decide) dX9_addApart_45 ?_
              refine vp_callSi (W.runS (As := [.int (iN (mbe (8 * i + x))), .int (iN (mbe (8 * j + y)))]) (rest := []) ⟨hx, hb, hml, hown, hts⟩ (c_X9_most l (mbe (8 * i + x)) (mbe (8 * j + y)) (by omega) (by omega)) (va_cwS 2 hts gX9_addApart_X9_most rfl rfl rfl (by decide +kernel) ⟨Nat.le_of_ble_eq_true rfl, Nat.le_of_ble_eq_true rfl⟩) ⟨fun _ _ _ _ q => q, fun _ _ _ => rfl⟩ rfl rfl hl.1 rfl (lv_room (Nat.le_of_ble_eq_true rfl)) dX9_addApart_46 ⟨Nat.zero_le _, Nat.zero_le _⟩) (fun r_13 hr_13 => ?_)
              rw [show r_13 = iN (max (mbe (8 * i + x)) (mbe (8 * j + y))) from hr_13]
              refine lv_istore (lv' := [(8, .int (iN (max (mbe (8 * i + x)) (mbe (8 * j + y))))), (0, .ref (gad G 59)), (1, .int (iN ((i : Nat) : Int))), (2, .int (iN ((j : Nat) : Int))), (3, .long (jN w0)), (5, .int (iN en)), (6, .int (iN ((8 * i + x : Nat) : Int))), (7, .int (iN ((8 * j + y : Nat) : Int)))]) hx hb dX9_addApart_49 hl (by decide) rfl (fun ls hl => ?_)
              have hz_14 : max (mbe (8 * i + x)) (mbe (8 * j + y)) = meF (rw8 mbe, rw8 mpl, rw8 msp, pn, ga) i j x y := by exact rfl
              have hl : lv_has ls 12 [(8, .int (iN (meF (rw8 mbe, rw8 mpl, rw8 msp, pn, ga) i j x y))), (0, .ref (gad G 59)), (1, .int (iN ((i : Nat) : Int))), (2, .int (iN ((j : Nat) : Int))), (3, .long (jN w0)), (5, .int (iN en)), (6, .int (iN ((8 * i + x : Nat) : Int))), (7, .int (iN ((8 * j + y : Nat) : Int)))] := by rw [← hz_14]; exact hl
              refine lv_aload_n hx hb dX9_addApart_51 rfl (lv_at hl 1 rfl) ?_
              refine lv_iload_n hx hb dX9_addApart_52 rfl (lv_at hl 2 rfl) ?_
              refine lv_iload hx hb dX9_addApart_53 (lv_at hl 6 rfl) ?_
              refine vp_callSi (W.runV (As := [.int (iN ((i : Nat) : Int)), .int (iN ((8 * i + x : Nat) : Int))]) (rest := []) ⟨hx, hb, hml, hown, hts⟩ (c_X9_endOf l G w2 now came rm mt tm2 thg onn two lw hg sq ga pn mbe mpl msp i x f22_0 e_7 e_8 e_9 e_10 e_11 (by omega) (hv1) (by omega) (hv2) (hv3)) (cwV 2 hts gX9_addApart_X9_endOf rfl rfl rfl (by decide +kernel) ⟨Nat.le_of_ble_eq_true rfl, Nat.le_of_ble_eq_true rfl⟩) (f_preV hP hK 59 (by omega) 8 f22_0 rfl) rfl rfl hl.1 rfl (lv_room (Nat.le_of_ble_eq_true rfl)) dX9_addApart_55 ⟨Nat.zero_le _, Nat.zero_le _⟩) (fun r_15 hr_15 => ?_)
              rw [show r_15 = iN (enP (rw8 mbe i) (pn i) (ga i) x) from hr_15]
              refine lv_aload_n hx hb dX9_addApart_58 rfl (lv_at hl 1 rfl) ?_
              refine lv_iload_n hx hb dX9_addApart_59 rfl (lv_at hl 3 rfl) ?_
              refine lv_iload hx hb dX9_addApart_60 (lv_at hl 7 rfl) ?_
              refine vp_callSi (W.runV (As := [.int (iN ((j : Nat) : Int)), .int (iN ((8 * j + y : Nat) : Int))]) (rest := [.int (iN (enP (rw8 mbe i) (pn i) (ga i) x))]) ⟨hx, hb, hml, hown, hts⟩ (c_X9_endOf l G w2 now came rm mt tm2 thg onn two lw hg sq ga pn mbe mpl msp j y f22_0 e_7 e_8 e_9 e_10 e_11 (by omega) (gv1) (by omega) (gv2) (gv3)) (cwV 2 hts gX9_addApart_X9_endOf rfl rfl rfl (by decide +kernel) ⟨Nat.le_of_ble_eq_true rfl, Nat.le_of_ble_eq_true rfl⟩) (f_preV hP hK 59 (by omega) 8 f22_0 rfl) rfl rfl hl.1 rfl (lv_room (Nat.le_of_ble_eq_true rfl)) dX9_addApart_62 ⟨Nat.zero_le _, Nat.zero_le _⟩) (fun r_16 hr_16 => ?_)
              rw [show r_16 = iN (enP (rw8 mbe j) (pn j) (ga j) y) from hr_16]
              refine vp_callSi (W.runS (As := [.int (iN (enP (rw8 mbe i) (pn i) (ga i) x)), .int (iN (enP (rw8 mbe j) (pn j) (ga j) y))]) (rest := []) ⟨hx, hb, hml, hown, hts⟩ (c_X9_least l (enP (rw8 mbe i) (pn i) (ga i) x) (enP (rw8 mbe j) (pn j) (ga j) y) (by omega) (by omega)) (va_cwS 2 hts gX9_addApart_X9_least rfl rfl rfl (by decide +kernel) ⟨Nat.le_of_ble_eq_true rfl, Nat.le_of_ble_eq_true rfl⟩) ⟨fun _ _ _ _ q => q, fun _ _ _ => rfl⟩ rfl rfl hl.1 rfl (lv_room (Nat.le_of_ble_eq_true rfl)) dX9_addApart_65 ⟨Nat.zero_le _, Nat.zero_le _⟩) (fun r_17 hr_17 => ?_)
              rw [show r_17 = iN (min (enP (rw8 mbe i) (pn i) (ga i) x) (enP (rw8 mbe j) (pn j) (ga j) y)) from hr_17]
              refine lv_istore (lv' := [(9, .int (iN (min (enP (rw8 mbe i) (pn i) (ga i) x) (enP (rw8 mbe j) (pn j) (ga j) y)))), (8, .int (iN (meF (rw8 mbe, rw8 mpl, rw8 msp, pn, ga) i j x y))), (0, .ref (gad G 59)), (1, .int (iN ((i : Nat) : Int))), (2, .int (iN ((j : Nat) : Int))), (3, .long (jN w0)), (5, .int (iN en)), (6, .int (iN ((8 * i + x : Nat) : Int))), (7, .int (iN ((8 * j + y : Nat) : Int)))]) hx hb dX9_addApart_68 hl (by decide) rfl (fun ls hl => ?_)
              have hz_18 : min (enP (rw8 mbe i) (pn i) (ga i) x) (enP (rw8 mbe j) (pn j) (ga j) y) = meE (rw8 mbe, rw8 mpl, rw8 msp, pn, ga) i j x y := by exact rfl
              have hl : lv_has ls 12 [(9, .int (iN (meE (rw8 mbe, rw8 mpl, rw8 msp, pn, ga) i j x y))), (8, .int (iN (meF (rw8 mbe, rw8 mpl, rw8 msp, pn, ga) i j x y))), (0, .ref (gad G 59)), (1, .int (iN ((i : Nat) : Int))), (2, .int (iN ((j : Nat) : Int))), (3, .long (jN w0)), (5, .int (iN en)), (6, .int (iN ((8 * i + x : Nat) : Int))), (7, .int (iN ((8 * j + y : Nat) : Int)))] := by rw [← hz_18]; exact hl
              refine lv_aload_n hx hb dX9_addApart_70 rfl (lv_at hl 2 rfl) ?_
              refine f_get (C := RX9) (T := TX9) (N := 26) hx hb hts (by decide +kernel) hown hK hP 59 (by omega) f22_0 rfl 5 (by decide) (hts (.fieldLink RX9 19 "KeptMovingModel" "places" "[I") (by decide +kernel)) (fun _ h9 => h9) rfl dX9_addApart_71 ?_
              refine lv_iload hx hb dX9_addApart_74 (lv_at hl 7 rfl) ?_
              refine n_iald hx hb hK hP 63 (by omega) e_10 (8 * i + x) rfl (by omega) (by decide) dX9_addApart_76 ?_
              refine n_i2l hx hb (by omega) (by omega) dX9_addApart_77 ?_
              refine lv_aload_n hx hb dX9_addApart_78 rfl (lv_at hl 2 rfl) ?_
              refine f_get (C := RX9) (T := TX9) (N := 26) hx hb hts (by decide +kernel) hown hK hP 59 (by omega) f22_0 rfl 6 (by decide) (hts (.fieldLink RX9 22 "KeptMovingModel" "speeds" "[I") (by decide +kernel)) (fun _ h9 => h9) rfl dX9_addApart_79 ?_
              refine lv_iload hx hb dX9_addApart_82 (lv_at hl 7 rfl) ?_
              refine n_iald hx hb hK hP 64 (by omega) e_11 (8 * i + x) rfl (by omega) (by decide) dX9_addApart_84 ?_
              refine n_i2l hx hb (by omega) (by omega) dX9_addApart_85 ?_
              refine lv_iload hx hb dX9_addApart_86 (lv_at hl 1 rfl) ?_
              refine lv_aload_n hx hb dX9_addApart_88 rfl (lv_at hl 2 rfl) ?_
              refine f_get (C := RX9) (T := TX9) (N := 26) hx hb hts (by decide +kernel) hown hK hP 59 (by omega) f22_0 rfl 4 (by decide) (hts (.fieldLink RX9 16 "KeptMovingModel" "begins" "[I") (by decide +kernel)) (fun _ h9 => h9) rfl dX9_addApart_89 ?_
              refine lv_iload hx hb dX9_addApart_92 (lv_at hl 7 rfl) ?_
              refine n_iald hx hb hK hP 62 (by omega) e_9 (8 * i + x) rfl (by omega) (by decide) dX9_addApart_94 ?_
              refine n_isub hx hb dX9_addApart_95 ?_
              refine n_i2l hx hb (by omega) (by omega) dX9_addApart_96 ?_
              refine n_lmul hx hb dX9_addApart_97 ?_
              refine n_ladd hx hb dX9_addApart_98 ?_
              refine lv_aload_n hx hb dX9_addApart_99 rfl (lv_at hl 2 rfl) ?_
              refine f_get (C := RX9) (T := TX9) (N := 26) hx hb hts (by decide +kernel) hown hK hP 59 (by omega) f22_0 rfl 5 (by decide) (hts (.fieldLink RX9 19 "KeptMovingModel" "places" "[I") (by decide +kernel)) (fun _ h9 => h9) rfl dX9_addApart_100 ?_
              refine lv_iload hx hb dX9_addApart_103 (lv_at hl 8 rfl) ?_
              refine n_iald hx hb hK hP 63 (by omega) e_10 (8 * j + y) rfl (by omega) (by decide) dX9_addApart_105 ?_
              refine n_i2l hx hb (by omega) (by omega) dX9_addApart_106 ?_
              refine n_lsub hx hb dX9_addApart_107 ?_
              refine lv_aload_n hx hb dX9_addApart_108 rfl (lv_at hl 2 rfl) ?_
              refine f_get (C := RX9) (T := TX9) (N := 26) hx hb hts (by decide +kernel) hown hK hP 59 (by omega) f22_0 rfl 6 (by decide) (hts (.fieldLink RX9 22 "KeptMovingModel" "speeds" "[I") (by decide +kernel)) (fun _ h9 => h9) rfl dX9_addApart_109 ?_
              refine lv_iload hx hb dX9_addApart_112 (lv_at hl 8 rfl) ?_
              refine n_iald hx hb hK hP 64 (by omega) e_11 (8 * j + y) rfl (by omega) (by decide) dX9_addApart_114 ?_
              refine n_i2l hx hb (by omega) (by omega) dX9_addApart_115 ?_
              refine lv_iload hx hb dX9_addApart_116 (lv_at hl 1 rfl) ?_
              refine lv_aload_n hx hb dX9_addApart_118 rfl (lv_at hl 2 rfl) ?_
              refine f_get (C := RX9) (T := TX9) (N := 26) hx hb hts (by decide +kernel) hown hK hP 59 (by omega) f22_0 rfl 4 (by decide) (hts (.fieldLink RX9 16 "KeptMovingModel" "begins" "[I") (by decide +kernel)) (fun _ h9 => h9) rfl dX9_addApart_119 ?_
              refine lv_iload hx hb dX9_addApart_122 (lv_at hl 8 rfl) ?_
              refine n_iald hx hb hK hP 62 (by omega) e_9 (8 * j + y) rfl (by omega) (by decide) dX9_addApart_124 ?_
              refine n_isub hx hb dX9_addApart_125 ?_
              refine n_i2l hx hb (by omega) (by omega) dX9_addApart_126 ?_
              refine n_lmul hx hb dX9_addApart_127 ?_
              refine n_lsub hx hb dX9_addApart_128 ?_
              refine lv_lstore (lv' := [(10, .long (jN ((((mpl (8 * i + x)) + ((msp (8 * i + x)) * ((meF (rw8 mbe, rw8 mpl, rw8 msp, pn, ga) i j x y) - (mbe (8 * i + x))))) - (mpl (8 * j + y))) - ((msp (8 * j + y)) * ((meF (rw8 mbe, rw8 mpl, rw8 msp, pn, ga) i j x y) - (mbe (8 * j + y))))))), (9, .int (iN (meE (rw8 mbe, rw8 mpl, rw8 msp, pn, ga) i j x y))), (8, .int (iN (meF (rw8 mbe, rw8 mpl, rw8 msp, pn, ga) i j x y))), (0, .ref (gad G 59)), (1, .int (iN ((i : Nat) : Int))), (2, .int (iN ((j : Nat) : Int))), (3, .long (jN w0)), (5, .int (iN en)), (6, .int (iN ((8 * i + x : Nat) : Int))), (7, .int (iN ((8 * j + y : Nat) : Int)))]) hx hb dX9_addApart_129 hl (by decide) rfl (fun ls hl => ?_)
              have hz_19 : (((mpl (8 * i + x)) + ((msp (8 * i + x)) * ((meF (rw8 mbe, rw8 mpl, rw8 msp, pn, ga) i j x y) - (mbe (8 * i + x))))) - (mpl (8 * j + y))) - ((msp (8 * j + y)) * ((meF (rw8 mbe, rw8 mpl, rw8 msp, pn, ga) i j x y) - (mbe (8 * j + y)))) = meA (rw8 mbe, rw8 mpl, rw8 msp, pn, ga) i j x y := by exact rfl
              have hl : lv_has ls 12 [(10, .long (jN (meA (rw8 mbe, rw8 mpl, rw8 msp, pn, ga) i j x y))), (9, .int (iN (meE (rw8 mbe, rw8 mpl, rw8 msp, pn, ga) i j x y))), (8, .int (iN (meF (rw8 mbe, rw8 mpl, rw8 msp, pn, ga) i j x y))), (0, .ref (gad G 59)), (1, .int (iN ((i : Nat) : Int))), (2, .int (iN ((j : Nat) : Int))), (3, .long (jN w0)), (5, .int (iN en)), (6, .int (iN ((8 * i + x : Nat) : Int))), (7, .int (iN ((8 * j + y : Nat) : Int)))] := by rw [← hz_19]; exact hl
              refine lv_iload hx hb dX9_addApart_131 (lv_at hl 2 rfl) ?_
              refine lv_iload hx hb dX9_addApart_133 (lv_at hl 1 rfl) ?_
              refine n_icmp_gt (tgt := 170) hx hb dX9_addApart_135 (by decide) (by omega) (by omega) (by omega) (by omega) (fun c_135 => ?_) (fun c_135 => ?_)
              · refine lv_iinc (v := iN (((8 * j + y) + 1 : Nat) : Int)) (lv' := [(7, .int (iN (((8 * j + y) + 1 : Nat) : Int))), (10, .long (jN (meA (rw8 mbe, rw8 mpl, rw8 msp, pn, ga) i j x y))), (9, .int (iN (meE (rw8 mbe, rw8 mpl, rw8 msp, pn, ga) i j x y))), (8, .int (iN (meF (rw8 mbe, rw8 mpl, rw8 msp, pn, ga) i j x y))), (0, .ref (gad G 59)), (1, .int (iN ((i : Nat) : Int))), (2, .int (iN ((j : Nat) : Int))), (3, .long (jN w0)), (5, .int (iN en)), (6, .int (iN ((8 * i + x : Nat) : Int)))]) hx hb dX9_addApart_170 hl (k := 9) rfl (iN_incN _) (by decide) rfl (fun ls hl => ?_)
                refine lv_goto (tgt := 22) hx hb dX9_addApart_173 (by decide) ?_
                exact ih22 (y + 1) (tm2) (tN2) (tD2) w2 _ _ _ (by omega) (by omega) ((by show isT (if meF (rw8 mbe, rw8 mpl, rw8 msp, pn, ga) i j x y ≤ meE (rw8 mbe, rw8 mpl, rw8 msp, pn, ga) i j x y then _ else _) _ _ _; rw [if_neg (by omega)]; exact i22_2)) (by omega) (f22_0) (f22_1) (f22_2) (fun k h0 h1 h2 => hfr22 k (by omega) (by omega) (by omega)) hP hS (lv_sub hl [4, 5, 6, 7, 8, 9, 0] rfl)
              · refine lv_aload_n hx hb dX9_addApart_138 rfl (lv_at hl 3 rfl) ?_
                refine lv_lload hx hb dX9_addApart_139 (lv_at hl 0 rfl) ?_
                refine lv_lload_n hx hb dX9_addApart_141 rfl (lv_at hl 6 rfl) ?_
                refine n_lsub hx hb dX9_addApart_142 ?_
                refine lv_aload_n hx hb dX9_addApart_143 rfl (lv_at hl 3 rfl) ?_
                refine f_get (C := RX9) (T := TX9) (N := 26) hx hb hts (by decide +kernel) hown hK hP 59 (by omega) f22_0 rfl 6 (by decide) (hts (.fieldLink RX9 22 "KeptMovingModel" "speeds" "[I") (by decide +kernel)) (fun _ h9 => h9) rfl dX9_addApart_144 ?_
                refine lv_iload hx hb dX9_addApart_147 (lv_at hl 8 rfl) ?_
                refine n_iald hx hb hK hP 64 (by omega) e_11 (8 * i + x) rfl (by omega) (by decide) dX9_addApart_149 ?_
                refine lv_aload_n hx hb dX9_addApart_150 rfl (lv_at hl 3 rfl) ?_
                refine f_get (C := RX9) (T := TX9) (N := 26) hx hb hts (by decide +kernel) hown hK hP 59 (by omega) f22_0 rfl 6 (by decide) (hts (.fieldLink RX9 22 "KeptMovingModel" "speeds" "[I") (by decide +kernel)) (fun _ h9 => h9) rfl dX9_addApart_151 ?_
                refine lv_iload hx hb dX9_addApart_154 (lv_at hl 9 rfl) ?_
                refine n_iald hx hb hK hP 64 (by omega) e_11 (8 * j + y) rfl (by omega) (by decide) dX9_addApart_156 ?_
                refine n_isub hx hb dX9_addApart_157 ?_
                refine n_i2l hx hb (by omega) (by omega) dX9_addApart_158 ?_
                refine n_topL (A := (msp (8 * i + x)) - (msp (8 * j + y))) (B := meS (rw8 mbe, rw8 mpl, rw8 msp, pn, ga) i j x y) (by exact rfl) ?_
                refine lv_iload hx hb dX9_addApart_159 (lv_at hl 2 rfl) ?_
                refine n_i2l hx hb (by omega) (by omega) dX9_addApart_161 ?_
                refine lv_iload hx hb dX9_addApart_162 (lv_at hl 1 rfl) ?_
                refine n_i2l hx hb (by omega) (by omega) dX9_addApart_164 ?_
                refine lv_iload hx hb dX9_addApart_165 (lv_at hl 7 rfl) ?_
                refine f_callv (W.runV (As := [.long (jN ((meA (rw8 mbe, rw8 mpl, rw8 msp, pn, ga) i j x y) - w0)), .long (jN (meS (rw8 mbe, rw8 mpl, rw8 msp, pn, ga) i j x y)), .long (jN (meF (rw8 mbe, rw8 mpl, rw8 msp, pn, ga) i j x y)), .long (jN (meE (rw8 mbe, rw8 mpl, rw8 msp, pn, ga) i j x y)), .int (iN en)]) (rest := []) ⟨hx, hb, hml, hown, hts⟩ (c_X9_addZero l G w2 (apQ (rw8 mbe, rw8 mpl, rw8 msp, pn, ga) en w0 i j x y (apP (rw8 mbe, rw8 mpl, rw8 msp, pn, ga) en w0 i j x U)) now came rm mt tm2 thg onn two lw hg sq tN2 tD2 ((meA (rw8 mbe, rw8 mpl, rw8 msp, pn, ga) i j x y) - w0) (meS (rw8 mbe, rw8 mpl, rw8 msp, pn, ga) i j x y) (meF (rw8 mbe, rw8 mpl, rw8 msp, pn, ga) i j x y) (meE (rw8 mbe, rw8 mpl, rw8 msp, pn, ga) i j x y) en f22_0 f22_1 f22_2 (i22_2) (by omega) (by omega) (by omega) (by omega) (by omega) (p6)) (cwV 5 hts gX9_addApart_X9_addZero rfl rfl rfl (by decide +kernel) ⟨Nat.le_of_ble_eq_true rfl, Nat.le_of_ble_eq_true rfl⟩) (f_preV hP hK 59 (by omega) 8 f22_0 rfl) rfl rfl hl.1 rfl (lv_room (Nat.le_of_ble_eq_true rfl)) dX9_addApart_167 ⟨Nat.zero_le _, Nat.zero_le _⟩) hS hAA (fun w_20 H locs q_21 hP hS => ?_)
                obtain ⟨tm2_22, tN2_23, tD2_24, fr_25, e_26, e_27, e_28, q_29⟩ := q_21
                have e_30 : w_20 60 = .inl (gI G, 10, .inl (aN ga)) := (fr_25 60 (by omega) (by omega) (by omega)).trans e_7
                have e_31 : w_20 61 = .inl (gI G, 10, .inl (aN (pnI pn))) := (fr_25 61 (by omega) (by omega) (by omega)).trans e_8
                have e_32 : w_20 62 = .inl (gI G, 80, .inl (aN mbe)) := (fr_25 62 (by omega) (by omega) (by omega)).trans e_9
                have e_33 : w_20 63 = .inl (gI G, 80, .inl (aN mpl)) := (fr_25 63 (by omega) (by omega) (by omega)).trans e_10
                have e_34 : w_20 64 = .inl (gI G, 80, .inl (aN msp)) := (fr_25 64 (by omega) (by omega) (by omega)).trans e_11
                have e_35 : w_20 59 = .inr (8, [.int (iN ((now : Nat) : Int)), .int (iN ((came : Nat) : Int)), .ref (gad G 60), .ref (gad G 61), .ref (gad G 62), .ref (gad G 63), .ref (gad G 64), .ref (gad G 65), .int (iN ((rm : Nat) : Int)), .int (iN ((mt : Nat) : Int)), .ref (gad G 66), .ref (gad G 67), .ref (gad G 68), .ref (gad G 69), .ref (gad G 70), .int (iN ((tm2_22 : Nat) : Int)), .ref (gad G 71), .ref (gad G 72), .int (iN thg), .int (iN onn), .int (iN two), .long (jN lw), .long (jN hg), .int (iN ((sq : Nat) : Int)), .ref (gad G 73), .ref (gad G 74)]) := e_26
                have e_36 : w_20 71 = .inl (gJ G, 700, .inr (.inl (aJ tN2_23))) := e_27
                have e_37 : w_20 72 = .inl (gJ G, 700, .inr (.inl (aJ tD2_24))) := e_28
                refine lv_iinc (v := iN (((8 * j + y) + 1 : Nat) : Int)) (lv' := [(7, .int (iN (((8 * j + y) + 1 : Nat) : Int))), (10, .long (jN (meA (rw8 mbe, rw8 mpl, rw8 msp, pn, ga) i j x y))), (9, .int (iN (meE (rw8 mbe, rw8 mpl, rw8 msp, pn, ga) i j x y))), (8, .int (iN (meF (rw8 mbe, rw8 mpl, rw8 msp, pn, ga) i j x y))), (0, .ref (gad G 59)), (1, .int (iN ((i : Nat) : Int))), (2, .int (iN ((j : Nat) : Int))), (3, .long (jN w0)), (5, .int (iN en)), (6, .int (iN ((8 * i + x : Nat) : Int)))]) hx hb dX9_addApart_170 hl (k := 9) rfl (iN_incN _) (by decide) rfl (fun ls hl => ?_)
                refine lv_goto (tgt := 22) hx hb dX9_addApart_173 (by decide) ?_
                exact ih22 (y + 1) (tm2_22) (tN2_23) (tD2_24) w_20 _ _ _ (by omega) (by omega) ((by show isT (if meF (rw8 mbe, rw8 mpl, rw8 msp, pn, ga) i j x y ≤ meE (rw8 mbe, rw8 mpl, rw8 msp, pn, ga) i j x y then _ else _) _ _ _; rw [if_pos (by omega)]; exact q_29)) (by omega) (e_35) (e_36) (e_37) (fun k h0 h1 h2 => ((fr_25 k (by omega) (by omega) (by omega)).trans (hfr22 k (by omega) (by omega) (by omega)))) hP hS (lv_sub hl [4, 5, 6, 7, 8, 9, 0] rfl)
        exact K22 ((9 - 0) + 1) (0) (tm2) (tN2) (tD2) w2 _ _ _ (by omega) (by omega) (i6_1) (by omega) (f6_0) (f6_1) (f6_2) (fun k h0 h1 h2 => hfr6 k (by omega) (by omega) (by omega)) hP hS (lv_sub hl [1, 2, 3, 4, 5, 6, 0] rfl)
  exact K6 ((9 - 0) + 1) (0) (tm) (tN) (tD) w _ _ _ (by omega) (p3) (by omega) (e0) (e6) (e7) (fun k _ _ _ => rfl) hP hS (lv_sub hl [1, 2, 3, 4, 5, 0] rfl)

set_option maxHeartbeats 4000000 in
set_option maxRecDepth 100000 in
theorem c_X9_addAt (l : Launch) (G : GE) (w : WF) (U : List TM) (now : Nat) (came : Nat) (rm : Nat) (mt : Nat) (tm : Nat) (thg : Int) (onn : Int) (two : Int) (lw : Int) (hg : Int) (sq : Nat) (ga : Nat → Int) (pn : Nat → Nat) (mbe : Nat → Int) (mpl : Nat → Int) (msp : Nat → Int) (tN : Nat → Int) (tD : Nat → Int) (i : Nat) (x0 : Int) (en : Int) (e0 : w 59 = .inr (8, [.int (iN ((now : Nat) : Int)), .int (iN ((came : Nat) : Int)), .ref (gad G 60), .ref (gad G 61), .ref (gad G 62), .ref (gad G 63), .ref (gad G 64), .ref (gad G 65), .int (iN ((rm : Nat) : Int)), .int (iN ((mt : Nat) : Int)), .ref (gad G 66), .ref (gad G 67), .ref (gad G 68), .ref (gad G 69), .ref (gad G 70), .int (iN ((tm : Nat) : Int)), .ref (gad G 71), .ref (gad G 72), .int (iN thg), .int (iN onn), .int (iN two), .long (jN lw), .long (jN hg), .int (iN ((sq : Nat) : Int)), .ref (gad G 73), .ref (gad G 74)])) (e1 : w 60 = .inl (gI G, 10, .inl (aN ga))) (e2 : w 61 = .inl (gI G, 10, .inl (aN (pnI pn)))) (e3 : w 62 = .inl (gI G, 80, .inl (aN mbe))) (e4 : w 63 = .inl (gI G, 80, .inl (aN mpl))) (e5 : w 64 = .inl (gI G, 80, .inl (aN msp))) (e6 : w 71 = .inl (gJ G, 700, .inr (.inl (aJ tN)))) (e7 : w 72 = .inl (gJ G, 700, .inr (.inl (aJ tD)))) (p0 : OKS came (rw8 mbe) (rw8 mpl) (rw8 msp) pn ga) (p1 : i < came) (p2 : isT U tm tN tD) (p3 : U.length ≤ 690) (p4 : -60000 ≤ x0 ∧ x0 ≤ 60000) (p5 : 1 ≤ en ∧ en ≤ 600) : Met l yX9_addAt wsX9_addAt ({ frames := 2, cells := 0, slots := 0, locals := 60 }) (PcG G w [.ref (gad G 59), .int (iN ((i : Nat) : Int)), .long (jN x0), .int (iN en)]) (QV G (fun w1 => ∃ (tm2 : Nat) (tN2 : Nat → Int) (tD2 : Nat → Int), (∀ k : Nat, k ≠ 59 → k ≠ 71 → k ≠ 72 → w1 k = w k) ∧ w1 59 = .inr (8, [.int (iN ((now : Nat) : Int)), .int (iN ((came : Nat) : Int)), .ref (gad G 60), .ref (gad G 61), .ref (gad G 62), .ref (gad G 63), .ref (gad G 64), .ref (gad G 65), .int (iN ((rm : Nat) : Int)), .int (iN ((mt : Nat) : Int)), .ref (gad G 66), .ref (gad G 67), .ref (gad G 68), .ref (gad G 69), .ref (gad G 70), .int (iN ((tm2 : Nat) : Int)), .ref (gad G 71), .ref (gad G 72), .int (iN thg), .int (iN onn), .int (iN two), .long (jN lw), .long (jN hg), .int (iN ((sq : Nat) : Int)), .ref (gad G 73), .ref (gad G 74)]) ∧ w1 71 = .inl (gJ G, 700, .inr (.inl (aJ tN2))) ∧ w1 72 = .inl (gJ G, 700, .inr (.inl (aJ tD2))) ∧ (isT (atL (rw8 mbe, rw8 mpl, rw8 msp, pn, ga) en x0 i (pn i) U) tm2 tN2 tD2))) 0 0 (AA G) := by
  refine Met.ofW (cc := cX9_addAt) (maxL := 6) (ret := none) (by decide) rfl ?_
  intro p e s m args below meth c s₁ B hml hv
  obtain ⟨rfl, hP, hK⟩ := hv
  have hx := B.exec
  have hb := B.bytes
  have hr := B.returns
  have hts := atoms_spec (ws := wsX9_addAt) B.pre
  have hown : s.vm.findClass RX9 = some m.cls := findClass_of_methodNamed B.named
  have hlocks := B.notSynchronized
  have hS : va_S (AA G) s.heap s.heap [] := va_S.rf
  have hAA : ∀ q, AA G q → AA G q := fun _ h => h
  have hl := lv_entry ([.ref (gad G 59), .int (iN ((i : Nat) : Int)), .long (jN x0), .int (iN en)]) (n := 6) (Nat.le_of_ble_eq_true rfl)
  rw [lg_entry_eq]
  generalize (lg_sl ([.ref (gad G 59), .int (iN ((i : Nat) : Int)), .long (jN x0), .int (iN en)]) ++ List.replicate (6 - (lg_sl ([.ref (gad G 59), .int (iN ((i : Nat) : Int)), .long (jN x0), .int (iN en)])).length) Slot.unset).toArray = ls at hl ⊢
  have hl : lv_has ls 6 [(0, .ref (gad G 59)), (1, .int (iN ((i : Nat) : Int))), (2, .long (jN x0)), (4, .int (iN en))] := hl
  have hc10 : came ≤ 10 := p0.1
  obtain ⟨hv1, hv2, hv3, hv4⟩ := id (p0.2 i p1)
  refine n_bipush hx hb dX9_addAt_0 (by decide) ?_
  refine lv_iload_n hx hb dX9_addAt_2 rfl (lv_at hl 1 rfl) ?_
  refine n_imul hx hb dX9_addAt_3 ?_
  refine n_top (A := 8 * ((i : Nat) : Int)) (B := ((8 * i : Nat) : Int)) (by omega) ?_
  refine lv_istore (lv' := [(5, .int (iN ((8 * i : Nat) : Int))), (0, .ref (gad G 59)), (1, .int (iN ((i : Nat) : Int))), (2, .long (jN x0)), (4, .int (iN en))]) hx hb dX9_addAt_4 hl (by decide) rfl (fun ls hl => ?_)
  have K6 : ∀ (N : Nat) (x : Nat) (tm2 : Nat) (tN2 : Nat → Int) (tD2 : Nat → Int) (w2 : WF) (H : Heap) (locs : List Loc) (ls : Array Slot), (x ≤ pn i) → (isT (atL (rw8 mbe, rw8 mpl, rw8 msp, pn, ga) en x0 i x U) tm2 tN2 tD2) → 9 - x < N → w2 59 = .inr (8, [.int (iN ((now : Nat) : Int)), .int (iN ((came : Nat) : Int)), .ref (gad G 60), .ref (gad G 61), .ref (gad G 62), .ref (gad G 63), .ref (gad G 64), .ref (gad G 65), .int (iN ((rm : Nat) : Int)), .int (iN ((mt : Nat) : Int)), .ref (gad G 66), .ref (gad G 67), .ref (gad G 68), .ref (gad G 69), .ref (gad G 70), .int (iN ((tm2 : Nat) : Int)), .ref (gad G 71), .ref (gad G 72), .int (iN thg), .int (iN onn), .int (iN two), .long (jN lw), .long (jN hg), .int (iN ((sq : Nat) : Int)), .ref (gad G 73), .ref (gad G 74)]) → w2 71 = .inl (gJ G, 700, .inr (.inl (aJ tN2))) → w2 72 = .inl (gJ G, 700, .inr (.inl (aJ tD2))) → (∀ k : Nat, k ≠ 59 → k ≠ 71 → k ≠ 72 → w2 k = w k) → PW G w2 H → va_S (AA G) s.heap H locs → lv_has ls 6 [(0, .ref (gad G 59)), (1, .int (iN ((i : Nat) : Int))), (2, .long (jN x0)), (4, .int (iN en)), (5, .int (iN ((8 * i + x : Nat) : Int)))] → W p l e (headSpec wsX9_addAt ({ frames := 2, cells := 0, slots := 0, locals := 60 })).room s m (([.ref (gad G 59), .int (iN ((i : Nat) : Int)), .long (jN x0), .int (iN en)] : List Value).toArray) below meth c H locs 0 0 (MQ below (QV G (fun w1 => ∃ (tm2 : Nat) (tN2 : Nat → Int) (tD2 : Nat → Int), (∀ k : Nat, k ≠ 59 → k ≠ 71 → k ≠ 72 → w1 k = w k) ∧ w1 59 = .inr (8, [.int (iN ((now : Nat) : Int)), .int (iN ((came : Nat) : Int)), .ref (gad G 60), .ref (gad G 61), .ref (gad G 62), .ref (gad G 63), .ref (gad G 64), .ref (gad G 65), .int (iN ((rm : Nat) : Int)), .int (iN ((mt : Nat) : Int)), .ref (gad G 66), .ref (gad G 67), .ref (gad G 68), .ref (gad G 69), .ref (gad G 70), .int (iN ((tm2 : Nat) : Int)), .ref (gad G 71), .ref (gad G 72), .int (iN thg), .int (iN onn), .int (iN two), .long (jN lw), .long (jN hg), .int (iN ((sq : Nat) : Int)), .ref (gad G 73), .ref (gad G 74)]) ∧ w1 71 = .inl (gJ G, 700, .inr (.inl (aJ tN2))) ∧ w1 72 = .inl (gJ G, 700, .inr (.inl (aJ tD2))) ∧ (isT (atL (rw8 mbe, rw8 mpl, rw8 msp, pn, ga) en x0 i (pn i) U) tm2 tN2 tD2))) (([.ref (gad G 59), .int (iN ((i : Nat) : Int)), .long (jN x0), .int (iN en)] : List Value).toArray) s 0 0 (AA G)) (F0 m 6 ls []) := by
    intro N
    induction N with
    | zero =>
      intros
      exfalso
      omega
    | succ N ih6 =>
      intro x tm2 tN2 tD2 w2 H locs ls i6_0 i6_1 hN6 f6_0 f6_1 f6_2 hfr6 hP hS hl
      have e_1 : w2 60 = .inl (gI G, 10, .inl (aN ga)) := by rw [hfr6 60 (by omega) (by omega) (by omega)]; exact e1
      have e_2 : w2 61 = .inl (gI G, 10, .inl (aN (pnI pn))) := by rw [hfr6 61 (by omega) (by omega) (by omega)]; exact e2
      have e_3 : w2 62 = .inl (gI G, 80, .inl (aN mbe)) := by rw [hfr6 62 (by omega) (by omega) (by omega)]; exact e3
      have e_4 : w2 63 = .inl (gI G, 80, .inl (aN mpl)) := by rw [hfr6 63 (by omega) (by omega) (by omega)]; exact e4
      have e_5 : w2 64 = .inl (gI G, 80, .inl (aN msp)) := by rw [hfr6 64 (by omega) (by omega) (by omega)]; exact e5
      refine lv_iload hx hb dX9_addAt_6 (lv_at hl 4 rfl) ?_
      refine lv_aload_n hx hb dX9_addAt_8 rfl (lv_at hl 0 rfl) ?_
      refine lv_iload_n hx hb dX9_addAt_9 rfl (lv_at hl 1 rfl) ?_
      refine vp_callSi (W.runV (As := [.int (iN ((i : Nat) : Int))]) (rest := [.int (iN ((8 * i + x : Nat) : Int))]) ⟨hx, hb, hml, hown, hts⟩ (c_X9_latest l G w2 now came rm mt tm2 thg onn two lw hg sq ga pn mbe mpl msp i f6_0 e_1 e_2 e_3 e_4 e_5 (by omega) (hv1)) (cwV 1 hts gX9_addAt_X9_latest rfl rfl rfl (by decide +kernel) ⟨Nat.le_of_ble_eq_true rfl, Nat.le_of_ble_eq_true rfl⟩) (f_preV hP hK 59 (by omega) 8 f6_0 rfl) rfl rfl hl.1 rfl (lv_room (Nat.le_of_ble_eq_true rfl)) dX9_addAt_10 ⟨Nat.zero_le _, Nat.zero_le _⟩) (fun r_6 hr_6 => ?_)
      rw [show r_6 = iN ((8 * i + pn i - 1 : Nat) : Int) from hr_6]
      refine n_icmp_gt (tgt := 62) hx hb dX9_addAt_13 (by decide) (by omega) (by omega) (by omega) (by omega) (fun c_13 => ?_) (fun c_13 => ?_)
      · exact r_v hx hb hr dX9_addAt_62 hlocks hP hS (⟨tm2, tN2, tD2, (fun k h0 h1 h2 => hfr6 k (by omega) (by omega) (by omega)), f6_0, f6_1, f6_2, (by have hz := i6_1; rw [show x = pn i by omega] at hz; exact hz)⟩)
      · have hvx : 0 ≤ mbe (8 * i + x) ∧ mbe (8 * i + x) ≤ 400 := hv2 x (by omega)
        have hwx : (-21000 ≤ mpl (8 * i + x) ∧ mpl (8 * i + x) ≤ 21000) ∧ (-50 ≤ msp (8 * i + x) ∧ msp (8 * i + x) ≤ 50) := hv4 x (by omega)
        have he1 := enP_rng (p := x) hv2 hv3
        have hl1 := atL_len (rw8 mbe, rw8 mpl, rw8 msp, pn, ga) en x0 i U x
        refine lv_aload_n hx hb dX9_addAt_16 rfl (lv_at hl 0 rfl) ?_
        refine lv_aload_n hx hb dX9_addAt_17 rfl (lv_at hl 0 rfl) ?_
        refine f_get (C := RX9) (T := TX9) (N := 26) hx hb hts (by decide +kernel) hown hK hP 59 (by omega) f6_0 rfl 5 (by decide) (hts (.fieldLink RX9 19 "KeptMovingModel" "places" "[I") (by decide +kernel)) (fun _ h9 => h9) rfl dX9_addAt_18 ?_
        refine lv_iload hx hb dX9_addAt_21 (lv_at hl 4 rfl) ?_
        refine n_iald hx hb hK hP 63 (by omega) e_4 (8 * i + x) rfl (by omega) (by decide) dX9_addAt_23 ?_
        refine n_i2l hx hb (by omega) (by omega) dX9_addAt_24 ?_
        refine lv_lload_n hx hb dX9_addAt_25 rfl (lv_at hl 2 rfl) ?_
        refine n_lsub hx hb dX9_addAt_26 ?_
        refine lv_aload_n hx hb dX9_addAt_27 rfl (lv_at hl 0 rfl) ?_
        refine f_get (C := RX9) (T := TX9) (N := 26) hx hb hts (by decide +kernel) hown hK hP 59 (by omega) f6_0 rfl 6 (by decide) (hts (.fieldLink RX9 22 "KeptMovingModel" "speeds" "[I") (by decide +kernel)) (fun _ h9 => h9) rfl dX9_addAt_28 ?_
        refine lv_iload hx hb dX9_addAt_31 (lv_at hl 4 rfl) ?_
        refine n_iald hx hb hK hP 64 (by omega) e_5 (8 * i + x) rfl (by omega) (by decide) dX9_addAt_33 ?_
        refine n_i2l hx hb (by omega) (by omega) dX9_addAt_34 ?_
        refine lv_aload_n hx hb dX9_addAt_35 rfl (lv_at hl 0 rfl) ?_
        refine f_get (C := RX9) (T := TX9) (N := 26) hx hb hts (by decide +kernel) hown hK hP 59 (by omega) f6_0 rfl 4 (by decide) (hts (.fieldLink RX9 16 "KeptMovingModel" "begins" "[I") (by decide +kernel)) (fun _ h9 => h9) rfl dX9_addAt_36 ?_
        refine lv_iload hx hb dX9_addAt_39 (lv_at hl 4 rfl) ?_
        refine n_iald hx hb hK hP 62 (by omega) e_3 (8 * i + x) rfl (by omega) (by decide) dX9_addAt_41 ?_
        refine n_i2l hx hb (by omega) (by omega) dX9_addAt_42 ?_
        refine lv_aload_n hx hb dX9_addAt_43 rfl (lv_at hl 0 rfl) ?_
        refine lv_iload_n hx hb dX9_addAt_44 rfl (lv_at hl 1 rfl) ?_
        refine lv_iload hx hb dX9_addAt_45 (lv_at hl 4 rfl) ?_
        refine vp_callSi (W.runV (As := [.int (iN ((i : Nat) : Int)), .int (iN ((8 * i + x : Nat) : Int))]) (rest := [.long (jN (mbe (8 * i + x))), .long (jN (msp (8 * i + x))), .long (jN ((mpl (8 * i + x)) - x0)), .ref (gad G 59)]) ⟨hx, hb, hml, hown, hts⟩ (c_X9_endOf l G w2 now came rm mt tm2 thg onn two lw hg sq ga pn mbe mpl msp i x f6_0 e_1 e_2 e_3 e_4 e_5 (by omega) (hv1) (by omega) (hv2) (hv3)) (cwV 2 hts gX9_addAt_X9_endOf rfl rfl rfl (by decide +kernel) ⟨Nat.le_of_ble_eq_true rfl, Nat.le_of_ble_eq_true rfl⟩) (f_preV hP hK 59 (by omega) 8 f6_0 rfl) rfl rfl hl.1 rfl (lv_room (Nat.le_of_ble_eq_true rfl)) dX9_addAt_47 ⟨Nat.zero_le _, Nat.zero_le _⟩) (fun r_7 hr_7 => ?_)
        rw [show r_7 = iN (enP (rw8 mbe i) (pn i) (ga i) x) from hr_7]
        refine n_i2l hx hb (by omega) (by omega) dX9_addAt_50 ?_
        refine lv_iload hx hb dX9_addAt_51 (lv_at hl 3 rfl) ?_
        refine f_callv (W.runV (As := [.long (jN ((mpl (8 * i + x)) - x0)), .long (jN (msp (8 * i + x))), .long (jN (mbe (8 * i + x))), .long (jN (enP (rw8 mbe i) (pn i) (ga i) x)), .int (iN en)]) (rest := []) ⟨hx, hb, hml, hown, hts⟩ (c_X9_addZero l G w2 (atL (rw8 mbe, rw8 mpl, rw8 msp, pn, ga) en x0 i x U) now came rm mt tm2 thg onn two lw hg sq tN2 tD2 ((mpl (8 * i + x)) - x0) (msp (8 * i + x)) (mbe (8 * i + x)) (enP (rw8 mbe i) (pn i) (ga i) x) en f6_0 f6_1 f6_2 (i6_1) (by omega) (by omega) (by omega) (by omega) (by omega) (p5)) (cwV 5 hts gX9_addAt_X9_addZero rfl rfl rfl (by decide +kernel) ⟨Nat.le_of_ble_eq_true rfl, Nat.le_of_ble_eq_true rfl⟩) (f_preV hP hK 59 (by omega) 8 f6_0 rfl) rfl rfl hl.1 rfl (lv_room (Nat.le_of_ble_eq_true rfl)) dX9_addAt_53 ⟨Nat.zero_le _, Nat.zero_le _⟩) hS hAA (fun w_8 H locs q_9 hP hS => ?_)
        obtain ⟨tm2_10, tN2_11, tD2_12, fr_13, e_14, e_15, e_16, q_17⟩ := q_9
        have e_18 : w_8 60 = .inl (gI G, 10, .inl (aN ga)) := (fr_13 60 (by omega) (by omega) (by omega)).trans e_1
        have e_19 : w_8 61 = .inl (gI G, 10, .inl (aN (pnI pn))) := (fr_13 61 (by omega) (by omega) (by omega)).trans e_2
        have e_20 : w_8 62 = .inl (gI G, 80, .inl (aN mbe)) := (fr_13 62 (by omega) (by omega) (by omega)).trans e_3
        have e_21 : w_8 63 = .inl (gI G, 80, .inl (aN mpl)) := (fr_13 63 (by omega) (by omega) (by omega)).trans e_4
        have e_22 : w_8 64 = .inl (gI G, 80, .inl (aN msp)) := (fr_13 64 (by omega) (by omega) (by omega)).trans e_5
        have e_23 : w_8 59 = .inr (8, [.int (iN ((now : Nat) : Int)), .int (iN ((came : Nat) : Int)), .ref (gad G 60), .ref (gad G 61), .ref (gad G 62), .ref (gad G 63), .ref (gad G 64), .ref (gad G 65), .int (iN ((rm : Nat) : Int)), .int (iN ((mt : Nat) : Int)), .ref (gad G 66), .ref (gad G 67), .ref (gad G 68), .ref (gad G 69), .ref (gad G 70), .int (iN ((tm2_10 : Nat) : Int)), .ref (gad G 71), .ref (gad G 72), .int (iN thg), .int (iN onn), .int (iN two), .long (jN lw), .long (jN hg), .int (iN ((sq : Nat) : Int)), .ref (gad G 73), .ref (gad G 74)]) := e_14
        have e_24 : w_8 71 = .inl (gJ G, 700, .inr (.inl (aJ tN2_11))) := e_15
        have e_25 : w_8 72 = .inl (gJ G, 700, .inr (.inl (aJ tD2_12))) := e_16
        refine lv_iinc (v := iN (((8 * i + x) + 1 : Nat) : Int)) (lv' := [(5, .int (iN (((8 * i + x) + 1 : Nat) : Int))), (0, .ref (gad G 59)), (1, .int (iN ((i : Nat) : Int))), (2, .long (jN x0)), (4, .int (iN en))]) hx hb dX9_addAt_56 hl (k := 4) rfl (iN_incN _) (by decide) rfl (fun ls hl => ?_)
        refine lv_goto (tgt := 6) hx hb dX9_addAt_59 (by decide) ?_
        exact ih6 (x + 1) (tm2_10) (tN2_11) (tD2_12) w_8 _ _ _ (by omega) (q_17) (by omega) (e_23) (e_24) (e_25) (fun k h0 h1 h2 => ((fr_13 k (by omega) (by omega) (by omega)).trans (hfr6 k (by omega) (by omega) (by omega)))) hP hS (lv_sub hl [1, 2, 3, 4, 0] rfl)
  exact K6 ((9 - 0) + 1) (0) (tm) (tN) (tD) w _ _ _ (by omega) (p2) (by omega) (e0) (e6) (e7) (fun k _ _ _ => rfl) hP hS (lv_sub hl [1, 2, 3, 4, 0] rfl)
