def fs1 (so : Int → Int → Bool) (tN tD : Nat → Int) (t : Nat) (V : List SPN) : List SPN := if so (tN t) (tD t) = true then addS (tN t, tD t) (tN t, tD t) V else V
def fs2 (so : Int → Int → Bool) (tm : Nat) (tN tD : Nat → Int) (t : Nat) (V : List SPN) : List SPN := if t + 1 < tm ∧ so (tN t * tD (t + 1) + tN (t + 1) * tD t) (2 * tD t * tD (t + 1)) = true then addS (tN t, tD t) (tN (t + 1), tD (t + 1)) V else V
def fsF (so : Int → Int → Bool) (tm : Nat) (tN tD : Nat → Int) : Nat → List SPN
  | 0 => []
  | t + 1 => fs2 so tm tN tD t (fs1 so tN tD t (fsF so tm tN tD t))
/-- the spans of a list of times -/
def fsG (so : Int → Int → Bool) (U : List TM) : List SPN := fsF so U.length (fun t => (U.getD t (0, 1)).1) (fun t => (U.getD t (0, 1)).2) U.length
theorem fsF_cong {so : Int → Int → Bool} {tm : Nat} {tN tD tN' tD' : Nat → Int} (h : ∀ k, k < tm → tN k = tN' k ∧ tD k = tD' k) : ∀ t, t ≤ tm → fsF so tm tN tD t = fsF so tm tN' tD' t
  | 0, _ => rfl
  | t + 1, ht => by
    have ih := fsF_cong (so := so) h t (by omega)
    have h1 := h t (by omega)
    unfold fsF
    rw [ih]
    have e1 : ∀ V, fs1 so tN tD t V = fs1 so tN' tD' t V := fun V => by unfold fs1; rw [h1.1, h1.2]
    rw [e1]
    unfold fs2
    by_cases g : t + 1 < tm
    · have h2 := h (t + 1) g
      rw [h1.1, h1.2, h2.1, h2.2]
    · rw [if_neg (fun z => g z.1), if_neg (fun z => g z.1)]
theorem fsG_eq {so : Int → Int → Bool} {U : List TM} {tm : Nat} {tN tD : Nat → Int} (h : isT U tm tN tD) : fsF so tm tN tD tm = fsG so U := by
  obtain ⟨rfl, h3⟩ := h
  unfold fsG
  refine fsF_cong (fun k hk => ?_) _ (Nat.le_refl _)
  obtain ⟨h4, -⟩ := h3 k U[k] (List.getElem?_eq_getElem hk)
  rw [List.getD_eq_getElem?_getD, List.getElem?_eq_getElem hk]
  exact h4
theorem addS_len (a b : TM) (L : List SPN) : (addS a b L).length ≤ L.length + 1 := by
  unfold addS
  split
  · rename_i q hq
    split
    · rw [List.length_append, List.length_dropLast]
      show L.length - 1 + 1 ≤ _
      omega
    · rw [List.length_append]
      exact Nat.le_refl _
  · exact Nat.le_add_left _ _
theorem addS_last (a b : TM) (L : List SPN) : ∃ L0 x, addS a b L = L0 ++ [(x, b)] := by
  unfold addS
  split
  · split
    · exact ⟨_, _, rfl⟩
    · exact ⟨_, _, rfl⟩
  · exact ⟨[], _, rfl⟩
theorem addS_again (a b : TM) (L : List SPN) : (addS a b (addS a a L)).length = (addS a a L).length := by
  obtain ⟨L0, x, h⟩ := addS_last a a L
  rw [h, addS_c, if_pos rfl, List.length_append, List.length_append]
  rfl
theorem fs2_len {so : Int → Int → Bool} {tm : Nat} {tN tD : Nat → Int} {t : Nat} {V : List SPN} : (fs2 so tm tN tD t (fs1 so tN tD t V)).length ≤ V.length + 1 := by
  unfold fs2 fs1
  split
  · split
    · rw [addS_again]
      exact addS_len _ _ _
    · exact addS_len _ _ _
  · split
    · exact addS_len _ _ _
    · omega
theorem fsF_len (so : Int → Int → Bool) (tm : Nat) (tN tD : Nat → Int) : ∀ t, (fsF so tm tN tD t).length ≤ t
  | 0 => Nat.le_refl 0
  | t + 1 => by
    have h1 := fsF_len so tm tN tD t
    have h2 := fs2_len (so := so) (tm := tm) (tN := tN) (tD := tD) (t := t) (V := fsF so tm tN tD t)
    unfold fsF
    omega
theorem fs1_len (so : Int → Int → Bool) (tN tD : Nat → Int) (t : Nat) (V : List SPN) : (fs1 so tN tD t V).length ≤ V.length + 1 := by
  unfold fs1
  split
  · exact addS_len _ _ _
  · omega
theorem mid_rng {a b c d : Int} (ha : 0 ≤ a ∧ a ≤ 60000) (hb : 1 ≤ b ∧ b ≤ 100) (hab : a ≤ 600 * b) (hc : 0 ≤ c ∧ c ≤ 60000) (hd : 1 ≤ d ∧ d ≤ 100) (hcd : c ≤ 600 * d) : (1 ≤ 2 * b * d ∧ 2 * b * d ≤ 20000) ∧ 0 ≤ a * d + c * b ∧ a * d + c * b ≤ 600 * (2 * b * d) := by
  have h1 := Int.mul_le_mul_of_nonneg_right hab (show (0 : Int) ≤ d by omega)
  have h2 := Int.mul_le_mul_of_nonneg_right hcd (show (0 : Int) ≤ b by omega)
  have h3 := mb3 (a := b) (b := d) (A := 100) (B := 100) (by omega) (by omega)
  have h4 : 0 < b * d := Int.mul_pos (by omega) (by omega)
  have h5 : 0 ≤ a * d := Int.mul_nonneg ha.1 (by omega)
  have h6 : 0 ≤ c * b := Int.mul_nonneg hc.1 (by omega)
  rw [Int.mul_assoc] at h1 h2
  rw [Int.mul_comm d b] at h2
  rw [Int.mul_assoc]
  omega
def shX (c : TM) (w : Int) : Int := if w = 0 then c.1.tdiv ((Nat.gcd c.1.natAbs c.2.natAbs : Nat) : Int) else c.2.tdiv ((Nat.gcd c.1.natAbs c.2.natAbs : Nat) : Int)
/-- what is told of spans -/
def ansW (V : List SPN) (k wh : Int) : Int := if k = -1 then (V.length : Int) else if k < 0 then -1 else match V[k.toNat]? with
  | none => -1
  | some q => shX (if wh / 2 = 0 then q.1 else q.2) (wh % 2)
theorem ansW_no {V : List SPN} {k wh : Int} (h0 : ¬ k = -1) (h : ¬ (0 ≤ k ∧ k ≤ (V.length : Int) - 1)) : ansW V k wh = -1 := by
  unfold ansW
  rw [if_neg h0]
  split
  · rfl
  · rw [List.getElem?_eq_none (by omega)]
theorem ansW_yes {V : List SPN} {sq : Nat} {sN sD : Nat → Int} (hI : isQ V sq sN sD) {k wh : Int} (h0 : 0 ≤ k ∧ k ≤ (sq : Int) - 1) (hw : 0 ≤ wh ∧ wh ≤ 3) : ansW V k wh = shX (sN (2 * k.toNat + (wh / 2).toNat), sD (2 * k.toNat + (wh / 2).toNat)) (wh % 2) := by
  obtain ⟨rfl, h3⟩ := hI
  have hk : k.toNat < V.length := by omega
  obtain ⟨h4, -⟩ := h3 k.toNat V[k.toNat] (List.getElem?_eq_getElem hk)
  unfold ansW
  rw [if_neg (by omega), if_neg (by omega), List.getElem?_eq_getElem hk]
  show shX _ _ = _
  by_cases hz : wh / 2 = 0
  · rw [if_pos hz, hz, show 2 * k.toNat + (0 : Int).toNat = 2 * k.toNat from rfl, h4.1, h4.2.1]
  · rw [if_neg hz, show (wh / 2).toNat = 1 by omega, h4.2.2.1, h4.2.2.2]

set_option maxHeartbeats 4000000 in
set_option maxRecDepth 100000 in
theorem c_X9_findSpans (l : Launch) (G : GE) (w : WF) (U : List TM) (now : Nat) (came : Nat) (rm : Nat) (mt : Nat) (tm : Nat) (thg : Int) (onn : Int) (two : Int) (lw : Int) (hg : Int) (sq : Nat) (ga : Nat → Int) (pn : Nat → Nat) (mbe : Nat → Int) (mpl : Nat → Int) (msp : Nat → Int) (tN : Nat → Int) (tD : Nat → Int) (sN : Nat → Int) (sD : Nat → Int) (k : Int) (wh : Int) (e0 : w 59 = .inr (8, [.int (iN ((now : Nat) : Int)), .int (iN ((came : Nat) : Int)), .ref (gad G 60), .ref (gad G 61), .ref (gad G 62), .ref (gad G 63), .ref (gad G 64), .ref (gad G 65), .int (iN ((rm : Nat) : Int)), .int (iN ((mt : Nat) : Int)), .ref (gad G 66), .ref (gad G 67), .ref (gad G 68), .ref (gad G 69), .ref (gad G 70), .int (iN ((tm : Nat) : Int)), .ref (gad G 71), .ref (gad G 72), .int (iN thg), .int (iN onn), .int (iN two), .long (jN lw), .long (jN hg), .int (iN ((sq : Nat) : Int)), .ref (gad G 73), .ref (gad G 74)])) (e1 : w 60 = .inl (gI G, 10, .inl (aN ga))) (e2 : w 61 = .inl (gI G, 10, .inl (aN (pnI pn)))) (e3 : w 62 = .inl (gI G, 80, .inl (aN mbe))) (e4 : w 63 = .inl (gI G, 80, .inl (aN mpl))) (e5 : w 64 = .inl (gI G, 80, .inl (aN msp))) (e6 : w 71 = .inl (gJ G, 700, .inr (.inl (aJ tN)))) (e7 : w 72 = .inl (gJ G, 700, .inr (.inl (aJ tD)))) (e8 : w 73 = .inl (gJ G, 1400, .inr (.inl (aJ sN)))) (e9 : w 74 = .inl (gJ G, 1400, .inr (.inl (aJ sD)))) (p0 : OKS came (rw8 mbe) (rw8 mpl) (rw8 msp) pn ga) (p1 : isT U tm tN tD) (p2 : U.length ≤ 700) (p3 : thg = 0 ∨ thg = 1 ∨ thg = 2) (p4 : thg = 0 → (0 ≤ onn ∧ onn < (came : Int)) ∧ (0 ≤ two ∧ two < (came : Int))) (p5 : thg = 1 → 0 ≤ onn ∧ onn < (came : Int)) (p6 : 0 ≤ onn ∧ onn ≤ 10) (p7 : -60000 ≤ lw ∧ lw ≤ 60000) (p8 : -60000 ≤ hg ∧ hg ≤ 60000) (p9 : -2147483648 ≤ k ∧ k < 2147483648) (p10 : 0 ≤ wh ∧ wh ≤ 3) : Met l yX9_findSpans wsX9_findSpans ({ frames := 3, cells := 0, slots := 0, locals := 80 }) (PcG G w [.ref (gad G 59), .int (iN k), .int (iN wh)]) (QI G (fun r w1 => r = iN (ansW (fsG (soX (rw8 mbe, rw8 mpl, rw8 msp, pn, ga) came thg onn two lw hg) (U)) k wh) ∧ ∃ (sq2 : Nat) (sN2 : Nat → Int) (sD2 : Nat → Int), (∀ k : Nat, k ≠ 59 → k ≠ 73 → k ≠ 74 → w1 k = w k) ∧ w1 59 = .inr (8, [.int (iN ((now : Nat) : Int)), .int (iN ((came : Nat) : Int)), .ref (gad G 60), .ref (gad G 61), .ref (gad G 62), .ref (gad G 63), .ref (gad G 64), .ref (gad G 65), .int (iN ((rm : Nat) : Int)), .int (iN ((mt : Nat) : Int)), .ref (gad G 66), .ref (gad G 67), .ref (gad G 68), .ref (gad G 69), .ref (gad G 70), .int (iN ((tm : Nat) : Int)), .ref (gad G 71), .ref (gad G 72), .int (iN thg), .int (iN onn), .int (iN two), .long (jN lw), .long (jN hg), .int (iN ((sq2 : Nat) : Int)), .ref (gad G 73), .ref (gad G 74)]) ∧ w1 73 = .inl (gJ G, 1400, .inr (.inl (aJ sN2))) ∧ w1 74 = .inl (gJ G, 1400, .inr (.inl (aJ sD2))))) 0 0 (AA G) := by
  refine Met.ofW (cc := cX9_findSpans) (maxL := 4) (ret := (some .int)) (by decide) rfl ?_
  intro p e s m args below meth c s₁ B hml hv
  obtain ⟨rfl, hP, hK⟩ := hv
  have hx := B.exec
  have hb := B.bytes
  have hr := B.returns
  have hts := atoms_spec (ws := wsX9_findSpans) B.pre
  have hown : s.vm.findClass RX9 = some m.cls := findClass_of_methodNamed B.named
  have hlocks := B.notSynchronized
  have hS : va_S (AA G) s.heap s.heap [] := va_S.rf
  have hAA : ∀ q, AA G q → AA G q := fun _ h => h
  have hl := lv_entry ([.ref (gad G 59), .int (iN k), .int (iN wh)]) (n := 4) (Nat.le_of_ble_eq_true rfl)
  rw [lg_entry_eq]
  generalize (lg_sl ([.ref (gad G 59), .int (iN k), .int (iN wh)]) ++ List.replicate (4 - (lg_sl ([.ref (gad G 59), .int (iN k), .int (iN wh)])).length) Slot.unset).toArray = ls at hl ⊢
  have hl : lv_has ls 4 [(0, .ref (gad G 59)), (1, .int (iN k)), (2, .int (iN wh))] := hl
  have hc10 : came ≤ 10 := p0.1
  have hut : tm = U.length := p1.1
  refine lv_aload_n hx hb dX9_findSpans_0 rfl (lv_at hl 0 rfl) ?_
  refine n_iconst hx hb dX9_findSpans_1 ?_
  refine f_put (v := .int (iN 0)) (ty := .int) (C := RX9) (T := TX9) (N := 26) hx hb hts (by decide +kernel) tyX9 tyX9_ok nmX9 hown hK hP hS hAA 59 (by omega) e0 rfl 23 (by decide) (hts (.fieldLink RX9 198 "KeptMovingModel" "spans" "I") (by decide +kernel)) (fun _ h9 => h9) rfl (by decide +kernel) (rfl) (rfl) (Nat.le_of_ble_eq_true rfl) (rfl) dX9_findSpans_2 (fun H locs hP hS => ?_)
  have hP : PW G (va_up w 59 (.inr (8, [.int (iN ((now : Nat) : Int)), .int (iN ((came : Nat) : Int)), .ref (gad G 60), .ref (gad G 61), .ref (gad G 62), .ref (gad G 63), .ref (gad G 64), .ref (gad G 65), .int (iN ((rm : Nat) : Int)), .int (iN ((mt : Nat) : Int)), .ref (gad G 66), .ref (gad G 67), .ref (gad G 68), .ref (gad G 69), .ref (gad G 70), .int (iN ((tm : Nat) : Int)), .ref (gad G 71), .ref (gad G 72), .int (iN thg), .int (iN onn), .int (iN two), .long (jN lw), .long (jN hg), .int (iN 0), .ref (gad G 73), .ref (gad G 74)]))) H := hP
  obtain ⟨w_1, hw_2⟩ : ∃ z : WF, z = va_up w 59 (.inr (8, [.int (iN ((now : Nat) : Int)), .int (iN ((came : Nat) : Int)), .ref (gad G 60), .ref (gad G 61), .ref (gad G 62), .ref (gad G 63), .ref (gad G 64), .ref (gad G 65), .int (iN ((rm : Nat) : Int)), .int (iN ((mt : Nat) : Int)), .ref (gad G 66), .ref (gad G 67), .ref (gad G 68), .ref (gad G 69), .ref (gad G 70), .int (iN ((tm : Nat) : Int)), .ref (gad G 71), .ref (gad G 72), .int (iN thg), .int (iN onn), .int (iN two), .long (jN lw), .long (jN hg), .int (iN 0), .ref (gad G 73), .ref (gad G 74)])) := ⟨_, rfl⟩
  rw [← hw_2] at hP
  have fr_3 : ∀ k : Nat, k ≠ 59 → w_1 k = w k := fun k h => by rw [hw_2]; exact va_up_ne _ _ h
  have e_4 : w_1 59 = .inr (8, [.int (iN ((now : Nat) : Int)), .int (iN ((came : Nat) : Int)), .ref (gad G 60), .ref (gad G 61), .ref (gad G 62), .ref (gad G 63), .ref (gad G 64), .ref (gad G 65), .int (iN ((rm : Nat) : Int)), .int (iN ((mt : Nat) : Int)), .ref (gad G 66), .ref (gad G 67), .ref (gad G 68), .ref (gad G 69), .ref (gad G 70), .int (iN ((tm : Nat) : Int)), .ref (gad G 71), .ref (gad G 72), .int (iN thg), .int (iN onn), .int (iN two), .long (jN lw), .long (jN hg), .int (iN 0), .ref (gad G 73), .ref (gad G 74)]) := by rw [hw_2]; exact va_up_self _ _ _
  have e_5 : w_1 60 = .inl (gI G, 10, .inl (aN ga)) := (fr_3 60 (by omega)).trans e1
  have e_6 : w_1 61 = .inl (gI G, 10, .inl (aN (pnI pn))) := (fr_3 61 (by omega)).trans e2
  have e_7 : w_1 62 = .inl (gI G, 80, .inl (aN mbe)) := (fr_3 62 (by omega)).trans e3
  have e_8 : w_1 63 = .inl (gI G, 80, .inl (aN mpl)) := (fr_3 63 (by omega)).trans e4
  have e_9 : w_1 64 = .inl (gI G, 80, .inl (aN msp)) := (fr_3 64 (by omega)).trans e5
  have e_10 : w_1 71 = .inl (gJ G, 700, .inr (.inl (aJ tN))) := (fr_3 71 (by omega)).trans e6
  have e_11 : w_1 72 = .inl (gJ G, 700, .inr (.inl (aJ tD))) := (fr_3 72 (by omega)).trans e7
  have e_12 : w_1 73 = .inl (gJ G, 1400, .inr (.inl (aJ sN))) := (fr_3 73 (by omega)).trans e8
  have e_13 : w_1 74 = .inl (gJ G, 1400, .inr (.inl (aJ sD))) := (fr_3 74 (by omega)).trans e9
  refine n_iconst hx hb dX9_findSpans_5 ?_
  refine lv_istore_n (lv' := [(3, .int (iN 0)), (0, .ref (gad G 59)), (1, .int (iN k)), (2, .int (iN wh))]) hx hb dX9_findSpans_6 rfl hl (by decide) rfl (fun ls hl => ?_)
  have K7 : ∀ (N : Nat) (t : Nat) (sq2 : Nat) (sN2 : Nat → Int) (sD2 : Nat → Int) (w2 : WF) (H : Heap) (locs : List Loc) (ls : Array Slot), (t ≤ tm) → (isQ ((fsF (soX (rw8 mbe, rw8 mpl, rw8 msp, pn, ga) came thg onn two lw hg) tm tN tD t)) sq2 sN2 sD2) → 701 - t < N → w2 59 = .inr (8, [.int (iN ((now : Nat) : Int)), .int (iN ((came : Nat) : Int)), .ref (gad G 60), .ref (gad G 61), .ref (gad G 62), .ref (gad G 63), .ref (gad G 64), .ref (gad G 65), .int (iN ((rm : Nat) : Int)), .int (iN ((mt : Nat) : Int)), .ref (gad G 66), .ref (gad G 67), .ref (gad G 68), .ref (gad G 69), .ref (gad G 70), .int (iN ((tm : Nat) : Int)), .ref (gad G 71), .ref (gad G 72), .int (iN thg), .int (iN onn), .int (iN two), .long (jN lw), .long (jN hg), .int (iN ((sq2 : Nat) : Int)), .ref (gad G 73), .ref (gad G 74)]) → w2 73 = .inl (gJ G, 1400, .inr (.inl (aJ sN2))) → w2 74 = .inl (gJ G, 1400, .inr (.inl (aJ sD2))) → (∀ k : Nat, k ≠ 59 → k ≠ 73 → k ≠ 74 → w2 k = w k) → PW G w2 H → va_S (AA G) s.heap H locs → lv_has ls 4 [(0, .ref (gad G 59)), (1, .int (iN k)), (2, .int (iN wh)), (3, .int (iN ((t : Nat) : Int)))] → W p l e (headSpec wsX9_findSpans ({ frames := 3, cells := 0, slots := 0, locals := 80 })).room s m (([.ref (gad G 59), .int (iN k), .int (iN wh)] : List Value).toArray) below meth c H locs 0 0 (MQ below (QI G (fun r w1 => r = iN (ansW (fsG (soX (rw8 mbe, rw8 mpl, rw8 msp, pn, ga) came thg onn two lw hg) (U)) k wh) ∧ ∃ (sq2 : Nat) (sN2 : Nat → Int) (sD2 : Nat → Int), (∀ k : Nat, k ≠ 59 → k ≠ 73 → k ≠ 74 → w1 k = w k) ∧ w1 59 = .inr (8, [.int (iN ((now : Nat) : Int)), .int (iN ((came : Nat) : Int)), .ref (gad G 60), .ref (gad G 61), .ref (gad G 62), .ref (gad G 63), .ref (gad G 64), .ref (gad G 65), .int (iN ((rm : Nat) : Int)), .int (iN ((mt : Nat) : Int)), .ref (gad G 66), .ref (gad G 67), .ref (gad G 68), .ref (gad G 69), .ref (gad G 70), .int (iN ((tm : Nat) : Int)), .ref (gad G 71), .ref (gad G 72), .int (iN thg), .int (iN onn), .int (iN two), .long (jN lw), .long (jN hg), .int (iN ((sq2 : Nat) : Int)), .ref (gad G 73), .ref (gad G 74)]) ∧ w1 73 = .inl (gJ G, 1400, .inr (.inl (aJ sN2))) ∧ w1 74 = .inl (gJ G, 1400, .inr (.inl (aJ sD2))))) (([.ref (gad G 59), .int (iN k), .int (iN wh)] : List Value).toArray) s 0 0 (AA G)) (F0 m 7 ls []) := by
    intro N
    induction N with
    | zero =>
      intros
      exfalso
      omega
    | succ N ih7 =>
      intro t sq2 sN2 sD2 w2 H locs ls i7_0 i7_1 hN7 f7_0 f7_1 f7_2 hfr7 hP hS hl
      have e_14 : w2 60 = .inl (gI G, 10, .inl (aN ga)) := by rw [hfr7 60 (by omega) (by omega) (by omega)]; exact e1
      have e_15 : w2 61 = .inl (gI G, 10, .inl (aN (pnI pn))) := by rw [hfr7 61 (by omega) (by omega) (by omega)]; exact e2
      have e_16 : w2 62 = .inl (gI G, 80, .inl (aN mbe)) := by rw [hfr7 62 (by omega) (by omega) (by omega)]; exact e3
      have e_17 : w2 63 = .inl (gI G, 80, .inl (aN mpl)) := by rw [hfr7 63 (by omega) (by omega) (by omega)]; exact e4
      have e_18 : w2 64 = .inl (gI G, 80, .inl (aN msp)) := by rw [hfr7 64 (by omega) (by omega) (by omega)]; exact e5
      have e_19 : w2 71 = .inl (gJ G, 700, .inr (.inl (aJ tN))) := by rw [hfr7 71 (by omega) (by omega) (by omega)]; exact e6
      have e_20 : w2 72 = .inl (gJ G, 700, .inr (.inl (aJ tD))) := by rw [hfr7 72 (by omega) (by omega) (by omega)]; exact e7
      refine lv_iload_n hx hb dX9_findSpans_7 rfl (lv_at hl 3 rfl) ?_
      refine lv_aload_n hx hb dX9_findSpans_8 rfl (lv_at hl 0 rfl) ?_
      refine f_get (C := RX9) (T := TX9) (N := 26) hx hb hts (by decide +kernel) hown hK hP 59 (by omega) f7_0 rfl 15 (by decide) (hts (.fieldLink RX9 171 "KeptMovingModel" "times" "I") (by decide +kernel)) (fun _ h9 => h9) rfl dX9_findSpans_9 ?_
      refine n_icmp_ge (tgt := 121) hx hb dX9_findSpans_12 (by decide) (by omega) (by omega) (by omega) (by omega) (fun c_12 => ?_) (fun c_12 => ?_)
      · have htm : t = tm := by omega
        rw [htm, fsG_eq p1] at i7_1
        have hsq : sq2 ≤ 700 := by
            have hz := fsF_len (soX (rw8 mbe, rw8 mpl, rw8 msp, pn, ga) came thg onn two lw hg) U.length (fun t => (U.getD t (0, 1)).1) (fun t => (U.getD t (0, 1)).2) U.length
            rw [i7_1.1]
            exact Nat.le_trans hz p2
        refine lv_iload_n hx hb dX9_findSpans_121 rfl (lv_at hl 1 rfl) ?_
        refine n_iconst hx hb dX9_findSpans_122 ?_
        refine n_icmp_ne (tgt := 131) hx hb dX9_findSpans_123 (by decide) (by omega) (by omega) (by omega) (by omega) (fun c_123 => ?_) (fun c_123 => ?_)
        · refine lv_iload_n hx hb dX9_findSpans_131 rfl (lv_at hl 1 rfl) ?_
          refine n_i2l hx hb (by omega) (by omega) dX9_findSpans_132 ?_
          refine n_lconst (z := 0) hx hb dX9_findSpans_133 (by decide) ?_
          refine lv_aload_n hx hb dX9_findSpans_134 rfl (lv_at hl 0 rfl) ?_
          refine f_get (C := RX9) (T := TX9) (N := 26) hx hb hts (by decide +kernel) hown hK hP 59 (by omega) f7_0 rfl 23 (by decide) (hts (.fieldLink RX9 198 "KeptMovingModel" "spans" "I") (by decide +kernel)) (fun _ h9 => h9) rfl dX9_findSpans_135 ?_
          refine n_iconst hx hb dX9_findSpans_138 ?_
          refine n_isub hx hb dX9_findSpans_139 ?_
          refine n_i2l hx hb (by omega) (by omega) dX9_findSpans_140 ?_
          refine vp_callSi (W.runS (As := [.long (jN k), .long (jN 0), .long (jN (((sq2 : Nat) : Int) - 1))]) (rest := []) ⟨hx, hb, hml, hown, hts⟩ (c_X9_in l k (0 : Int) (((sq2 : Nat) : Int) - 1) (by omega) (by omega) (by omega)) (va_cwS 3 hts gX9_findSpans_X9_in rfl rfl rfl (by decide +kernel) ⟨Nat.le_of_ble_eq_true rfl, Nat.le_of_ble_eq_true rfl⟩) ⟨fun _ _ _ _ q => q, fun _ _ _ => rfl⟩ rfl rfl hl.1 rfl (lv_room (Nat.le_of_ble_eq_true rfl)) dX9_findSpans_141 ⟨Nat.zero_le _, Nat.zero_le _⟩) (fun r_21 hr_21 => ?_)
          rw [show r_21 = iN (if ((0 : Int) ≤ k ∧ k ≤ (((sq2 : Nat) : Int) - 1)) then 1 else 0) from hr_21]
          refine n_ifb_ne (tgt := 149) hx hb dX9_findSpans_144 (by decide) (fun c_144 => ?_) (fun c_144 => ?_)
          · refine n_iconst hx hb dX9_findSpans_149 ?_
            refine lv_iload_n hx hb dX9_findSpans_150 rfl (lv_at hl 1 rfl) ?_
            refine n_imul hx hb dX9_findSpans_151 ?_
            refine lv_iload_n hx hb dX9_findSpans_152 rfl (lv_at hl 2 rfl) ?_
            refine n_iconst hx hb dX9_findSpans_153 ?_
            refine n_idiv hx hb (by omega) (by omega) (by omega) (by omega) (by omega) dX9_findSpans_154 ?_
            refine n_iadd hx hb dX9_findSpans_155 ?_
            refine lv_istore_n (lv' := [(3, .int (iN ((2 * k) + (Int.tdiv wh 2)))), (0, .ref (gad G 59)), (1, .int (iN k)), (2, .int (iN wh))]) hx hb dX9_findSpans_156 rfl hl (by decide) rfl (fun ls hl => ?_)
            have hz_22 : ((2 * k) + (Int.tdiv wh 2) : Int) = ((2 * k.toNat + (wh / 2).toNat : Nat) : Int) := by rw [Int.tdiv_eq_ediv_of_nonneg (show (0 : Int) ≤ wh by omega)]; omega
            have hl : lv_has ls 4 [(3, .int (iN ((2 * k.toNat + (wh / 2).toNat : Nat) : Int))), (0, .ref (gad G 59)), (1, .int (iN k)), (2, .int (iN wh))] := by rw [← hz_22]; exact hl
            refine lv_aload_n hx hb dX9_findSpans_157 rfl (lv_at hl 1 rfl) ?_
            refine f_get (C := RX9) (T := TX9) (N := 26) hx hb hts (by decide +kernel) hown hK hP 59 (by omega) f7_0 rfl 24 (by decide) (hts (.fieldLink RX9 51 "KeptMovingModel" "spanN" "[J") (by decide +kernel)) (fun _ h9 => h9) rfl dX9_findSpans_158 ?_
            refine lv_iload_n hx hb dX9_findSpans_161 rfl (lv_at hl 0 rfl) ?_
            refine n_lald hx hb hK hP 73 (by omega) f7_1 (2 * k.toNat + (wh / 2).toNat) rfl (by omega) (by decide) dX9_findSpans_162 ?_
            refine lv_aload_n hx hb dX9_findSpans_163 rfl (lv_at hl 1 rfl) ?_
            refine f_get (C := RX9) (T := TX9) (N := 26) hx hb hts (by decide +kernel) hown hK hP 59 (by omega) f7_0 rfl 25 (by decide) (hts (.fieldLink RX9 54 "KeptMovingModel" "spanD" "[J") (by decide +kernel)) (fun _ h9 => h9) rfl dX9_findSpans_164 ?_
            refine lv_iload_n hx hb dX9_findSpans_167 rfl (lv_at hl 0 rfl) ?_
            refine n_lald hx hb hK hP 74 (by omega) f7_2 (2 * k.toNat + (wh / 2).toNat) rfl (by omega) (by decide) dX9_findSpans_168 ?_
            refine lv_iload_n hx hb dX9_findSpans_169 rfl (lv_at hl 3 rfl) ?_
            refine n_iconst hx hb dX9_findSpans_170 ?_
            refine n_irem hx hb (by omega) (by omega) (by omega) (by omega) (by omega) dX9_findSpans_171 ?_
            refine n_top (A := Int.tmod wh 2) (B := wh % 2) (by rw [Int.tmod_eq_emod_of_nonneg (show (0 : Int) ≤ wh by omega)]) ?_
            have hsb := isQ_bd i7_1 (2 * k.toNat + (wh / 2).toNat) (by omega)
            refine vp_callSl (W.runS (As := [.long (jN (sN2 (2 * k.toNat + (wh / 2).toNat))), .long (jN (sD2 (2 * k.toNat + (wh / 2).toNat))), .int (iN (wh % 2))]) (rest := []) ⟨hx, hb, hml, hown, hts⟩ (c_X9_share l (sN2 (2 * k.toNat + (wh / 2).toNat)) (sD2 (2 * k.toNat + (wh / 2).toNat)) (wh % 2) (by omega) (by omega) (by omega)) (va_cwS 3 hts gX9_findSpans_X9_share rfl rfl rfl (by decide +kernel) ⟨Nat.le_of_ble_eq_true rfl, Nat.le_of_ble_eq_true rfl⟩) ⟨fun _ _ _ _ q => q, fun _ _ _ => rfl⟩ rfl rfl hl.1 rfl (lv_room (Nat.le_of_ble_eq_true rfl)) dX9_findSpans_172 ⟨Nat.zero_le _, Nat.zero_le _⟩) (fun r_23 hr_23 => ?_)
            rw [show r_23 = jN (if (wh % 2) = 0 then Int.tdiv (sN2 (2 * k.toNat + (wh / 2).toNat)) (((Nat.gcd (sN2 (2 * k.toNat + (wh / 2).toNat)).natAbs (sD2 (2 * k.toNat + (wh / 2).toNat)).natAbs : Nat) : Int)) else Int.tdiv (sD2 (2 * k.toNat + (wh / 2).toNat)) (((Nat.gcd (sN2 (2 * k.toNat + (wh / 2).toNat)).natAbs (sD2 (2 * k.toNat + (wh / 2).toNat)).natAbs : Nat) : Int))) from hr_23]
            refine n_l2i hx hb dX9_findSpans_175 ?_
            exact r_i hx hb hr dX9_findSpans_176 hlocks hP hS ⟨(congrArg iN (by rw [ansW_yes i7_1 (by omega) p10]; rfl)), sq2, sN2, sD2, (fun k h0 h1 h2 => hfr7 k (by omega) (by omega) (by omega)), f7_0, f7_1, f7_2⟩
          · refine n_iconst hx hb dX9_findSpans_147 ?_
            exact r_i hx hb hr dX9_findSpans_148 hlocks hP hS ⟨(congrArg iN (ansW_no (by omega) (by rw [← i7_1.1]; omega)).symm), sq2, sN2, sD2, (fun k h0 h1 h2 => hfr7 k (by omega) (by omega) (by omega)), f7_0, f7_1, f7_2⟩
        · refine lv_aload_n hx hb dX9_findSpans_126 rfl (lv_at hl 0 rfl) ?_
          refine f_get (C := RX9) (T := TX9) (N := 26) hx hb hts (by decide +kernel) hown hK hP 59 (by omega) f7_0 rfl 23 (by decide) (hts (.fieldLink RX9 198 "KeptMovingModel" "spans" "I") (by decide +kernel)) (fun _ h9 => h9) rfl dX9_findSpans_127 ?_
          exact r_i hx hb hr dX9_findSpans_130 hlocks hP hS ⟨(congrArg iN (by unfold ansW; rw [if_pos (show k = -1 by omega), i7_1.1])), sq2, sN2, sD2, (fun k h0 h1 h2 => hfr7 k (by omega) (by omega) (by omega)), f7_0, f7_1, f7_2⟩
      · have hbt := isT_bd p1 t (by omega)
        have hfl := fsF_len (soX (rw8 mbe, rw8 mpl, rw8 msp, pn, ga) came thg onn two lw hg) tm tN tD t
        have K40 : ∀ (sq2 : Nat) (sN2 : Nat → Int) (sD2 : Nat → Int) (w2 : WF) (H : Heap) (locs : List Loc) (ls : Array Slot), (t < tm) → (isQ (fs1 (soX (rw8 mbe, rw8 mpl, rw8 msp, pn, ga) came thg onn two lw hg) tN tD t (fsF (soX (rw8 mbe, rw8 mpl, rw8 msp, pn, ga) came thg onn two lw hg) tm tN tD t)) sq2 sN2 sD2) → w2 59 = .inr (8, [.int (iN ((now : Nat) : Int)), .int (iN ((came : Nat) : Int)), .ref (gad G 60), .ref (gad G 61), .ref (gad G 62), .ref (gad G 63), .ref (gad G 64), .ref (gad G 65), .int (iN ((rm : Nat) : Int)), .int (iN ((mt : Nat) : Int)), .ref (gad G 66), .ref (gad G 67), .ref (gad G 68), .ref (gad G 69), .ref (gad G 70), .int (iN ((tm : Nat) : Int)), .ref (gad G 71), .ref (gad G 72), .int (iN thg), .int (iN onn), .int (iN two), .long (jN lw), .long (jN hg), .int (iN ((sq2 : Nat) : Int)), .ref (gad G 73), .ref (gad G 74)]) → w2 73 = .inl (gJ G, 1400, .inr (.inl (aJ sN2))) → w2 74 = .inl (gJ G, 1400, .inr (.inl (aJ sD2))) → (∀ k : Nat, k ≠ 59 → k ≠ 73 → k ≠ 74 → w2 k = w k) → PW G w2 H → va_S (AA G) s.heap H locs → lv_has ls 4 [(0, .ref (gad G 59)), (1, .int (iN k)), (2, .int (iN wh)), (3, .int (iN ((t : Nat) : Int)))] → W p l e (headSpec wsX9_findSpans ({ frames := 3, cells := 0, slots := 0, locals := 80 })).room s m (([.ref (gad G 59), .int (iN k), .int (iN wh)] : List Value).toArray) below meth c H locs 0 0 (MQ below (QI G (fun r w1 => r = iN (ansW (fsG (soX (rw8 mbe, rw8 mpl, rw8 msp, pn, ga) came thg onn two lw hg) (U)) k wh) ∧ ∃ (sq2 : Nat) (sN2 : Nat → Int) (sD2 : Nat → Int), (∀ k : Nat, k ≠ 59 → k ≠ 73 → k ≠ 74 → w1 k = w k) ∧ w1 59 = .inr (8, [.int (iN ((now : Nat) : Int)), .int (iN ((came : Nat) : Int)), .ref (gad G 60), .ref (gad G 61), .ref (gad G 62), .ref (gad G 63), .ref (gad G 64), .ref (gad G 65), .int (iN ((rm : Nat) : Int)), .int (iN ((mt : Nat) : Int)), .ref (gad G 66), .ref (gad G 67), .ref (gad G 68), .ref (gad G 69), .ref (gad G 70), .int (iN ((tm : Nat) : Int)), .ref (gad G 71), .ref (gad G 72), .int (iN thg), .int (iN onn), .int (iN two), .long (jN lw), .long (jN hg), .int (iN ((sq2 : Nat) : Int)), .ref (gad G 73), .ref (gad G 74)]) ∧ w1 73 = .inl (gJ G, 1400, .inr (.inl (aJ sN2))) ∧ w1 74 = .inl (gJ G, 1400, .inr (.inl (aJ sD2))))) (([.ref (gad G 59), .int (iN k), .int (iN wh)] : List Value).toArray) s 0 0 (AA G)) (F0 m 40 ls []) := by
          intro sq2 sN2 sD2 w2 H locs ls i40_0 i40_1 f40_0 f40_1 f40_2 hfr40 hP hS hl
          have e_24 : w2 60 = .inl (gI G, 10, .inl (aN ga)) := by rw [hfr40 60 (by omega) (by omega) (by omega)]; exact e1
          have e_25 : w2 61 = .inl (gI G, 10, .inl (aN (pnI pn))) := by rw [hfr40 61 (by omega) (by omega) (by omega)]; exact e2
          have e_26 : w2 62 = .inl (gI G, 80, .inl (aN mbe)) := by rw [hfr40 62 (by omega) (by omega) (by omega)]; exact e3
          have e_27 : w2 63 = .inl (gI G, 80, .inl (aN mpl)) := by rw [hfr40 63 (by omega) (by omega) (by omega)]; exact e4
          have e_28 : w2 64 = .inl (gI G, 80, .inl (aN msp)) := by rw [hfr40 64 (by omega) (by omega) (by omega)]; exact e5
          have e_29 : w2 71 = .inl (gJ G, 700, .inr (.inl (aJ tN))) := by rw [hfr40 71 (by omega) (by omega) (by omega)]; exact e6
          have e_30 : w2 72 = .inl (gJ G, 700, .inr (.inl (aJ tD))) := by rw [hfr40 72 (by omega) (by omega) (by omega)]; exact e7
          have hf1 := fs1_len (soX (rw8 mbe, rw8 mpl, rw8 msp, pn, ga) came thg onn two lw hg) tN tD t (fsF (soX (rw8 mbe, rw8 mpl, rw8 msp, pn, ga) came thg onn two lw hg) tm tN tD t)
          refine lv_iload_n hx hb dX9_findSpans_40 rfl (lv_at hl 3 rfl) ?_
          refine n_iconst hx hb dX9_findSpans_41 ?_
          refine n_iadd hx hb dX9_findSpans_42 ?_
          refine n_top (A := ((t : Nat) : Int) + 1) (B := ((t + 1 : Nat) : Int)) (by omega) ?_
          refine lv_aload_n hx hb dX9_findSpans_43 rfl (lv_at hl 0 rfl) ?_
          refine f_get (C := RX9) (T := TX9) (N := 26) hx hb hts (by decide +kernel) hown hK hP 59 (by omega) f40_0 rfl 15 (by decide) (hts (.fieldLink RX9 171 "KeptMovingModel" "times" "I") (by decide +kernel)) (fun _ h9 => h9) rfl dX9_findSpans_44 ?_
          refine n_icmp_ge (tgt := 115) hx hb dX9_findSpans_47 (by decide) (by omega) (by omega) (by omega) (by omega) (fun c_47 => ?_) (fun c_47 => ?_)
          · refine lv_iinc (v := iN ((t + 1 : Nat) : Int)) (lv' := [(3, .int (iN ((t + 1 : Nat) : Int))), (0, .ref (gad G 59)), (1, .int (iN k)), (2, .int (iN wh))]) hx hb dX9_findSpans_115 hl (k := 3) rfl (iN_incN _) (by decide) rfl (fun ls hl => ?_)
            refine lv_goto (tgt := 7) hx hb dX9_findSpans_118 (by decide) ?_
            exact ih7 (t + 1) (sq2) (sN2) (sD2) w2 _ _ _ (by omega) ((by show isQ (fs2 (soX (rw8 mbe, rw8 mpl, rw8 msp, pn, ga) came thg onn two lw hg) tm tN tD t (fs1 (soX (rw8 mbe, rw8 mpl, rw8 msp, pn, ga) came thg onn two lw hg) tN tD t (fsF (soX (rw8 mbe, rw8 mpl, rw8 msp, pn, ga) came thg onn two lw hg) tm tN tD t))) _ _ _; rw [show fs2 (soX (rw8 mbe, rw8 mpl, rw8 msp, pn, ga) came thg onn two lw hg) tm tN tD t (fs1 (soX (rw8 mbe, rw8 mpl, rw8 msp, pn, ga) came thg onn two lw hg) tN tD t (fsF (soX (rw8 mbe, rw8 mpl, rw8 msp, pn, ga) came thg onn two lw hg) tm tN tD t)) = fs1 (soX (rw8 mbe, rw8 mpl, rw8 msp, pn, ga) came thg onn two lw hg) tN tD t (fsF (soX (rw8 mbe, rw8 mpl, rw8 msp, pn, ga) came thg onn two lw hg) tm tN tD t) from if_neg (fun z => by first | exact absurd z.1 (by omega) | exact c_104 z.2)]; exact i40_1)) (by omega) (f40_0) (f40_1) (f40_2) (fun k h0 h1 h2 => hfr40 k (by omega) (by omega) (by omega)) hP hS (lv_sub hl [1, 2, 3, 0] rfl)
          · have hbu := isT_bd p1 (t + 1) (by omega)
            have hmd := mid_rng hbt.1 hbt.2.1 hbt.2.2 hbu.1 hbu.2.1 hbu.2.2
            refine lv_aload_n hx hb dX9_findSpans_50 rfl (lv_at hl 0 rfl) ?_
            refine lv_aload_n hx hb dX9_findSpans_51 rfl (lv_at hl 0 rfl) ?_
            refine f_get (C := RX9) (T := TX9) (N := 26) hx hb hts (by decide +kernel) hown hK hP 59 (by omega) f40_0 rfl 16 (by decide) (hts (.fieldLink RX9 45 "KeptMovingModel" "timeN" "[J") (by decide +kernel)) (fun _ h9 => h9) rfl dX9_findSpans_52 ?_
            refine lv_iload_n hx hb dX9_findSpans_55 rfl (lv_at hl 3 rfl) ?_
            refine n_lald hx hb hK hP 71 (by omega) e_29 t rfl (by omega) (by decide) dX9_findSpans_56 ?_
            refine lv_aload_n hx hb dX9_findSpans_57 rfl (lv_at hl 0 rfl) ?_
            refine f_get (C := RX9) (T := TX9) (N := 26) hx hb hts (by decide +kernel) hown hK hP 59 (by omega) f40_0 rfl 17 (by decide) (hts (.fieldLink RX9 48 "KeptMovingModel" "timeD" "[J") (by decide +kernel)) (fun _ h9 => h9) rfl dX9_findSpans_58 ?_
            refine lv_iload_n hx hb dX9_findSpans_61 rfl (lv_at hl 3 rfl) ?_
            refine n_iconst hx hb dX9_findSpans_62 ?_
            refine n_iadd hx hb dX9_findSpans_63 ?_
            refine n_top (A := ((t : Nat) : Int) + 1) (B := ((t + 1 : Nat) : Int)) (by omega) ?_
            refine n_lald hx hb hK hP 72 (by omega) e_30 (t + 1) rfl (by omega) (by decide) dX9_findSpans_64 ?_
            refine n_lmul hx hb dX9_findSpans_65 ?_
            refine lv_aload_n hx hb dX9_findSpans_66 rfl (lv_at hl 0 rfl) ?_
            refine f_get (C := RX9) (T := TX9) (N := 26) hx hb hts (by decide +kernel) hown hK hP 59 (by omega) f40_0 rfl 16 (by decide) (hts (.fieldLink RX9 45 "KeptMovingModel" "timeN" "[J") (by decide +kernel)) (fun _ h9 => h9) rfl dX9_findSpans_67 ?_
            refine lv_iload_n hx hb dX9_findSpans_70 rfl (lv_at hl 3 rfl) ?_
            refine n_iconst hx hb dX9_findSpans_71 ?_
            refine n_iadd hx hb dX9_findSpans_72 ?_
            refine n_top (A := ((t : Nat) : Int) + 1) (B := ((t + 1 : Nat) : Int)) (by omega) ?_
            refine n_lald hx hb hK hP 71 (by omega) e_29 (t + 1) rfl (by omega) (by decide) dX9_findSpans_73 ?_
            refine lv_aload_n hx hb dX9_findSpans_74 rfl (lv_at hl 0 rfl) ?_
            refine f_get (C := RX9) (T := TX9) (N := 26) hx hb hts (by decide +kernel) hown hK hP 59 (by omega) f40_0 rfl 17 (by decide) (hts (.fieldLink RX9 48 "KeptMovingModel" "timeD" "[J") (by decide +kernel)) (fun _ h9 => h9) rfl dX9_findSpans_75 ?_
            refine lv_iload_n hx hb dX9_findSpans_78 rfl (lv_at hl 3 rfl) ?_
            refine n_lald hx hb hK hP 72 (by omega) e_30 t rfl (by omega) (by decide) dX9_findSpans_79 ?_
            refine n_lmul hx hb dX9_findSpans_80 ?_
            refine n_ladd hx hb dX9_findSpans_81 ?_
            refine n_ldc2 (z := (2)) hx hb hown (hts (.constantLong RX9 209 (2)) (by decide +kernel)) (by decide) dX9_findSpans_82 ?_
            refine lv_aload_n hx hb dX9_findSpans_85 rfl (lv_at hl 0 rfl) ?_
            refine f_get (C := RX9) (T := TX9) (N := 26) hx hb hts (by decide +kernel) hown hK hP 59 (by omega) f40_0 rfl 17 (by decide) (hts (.fieldLink RX9 48 "KeptMovingModel" "timeD" "[J") (by decide +kernel)) (fun _ h9 => h9) rfl dX9_findSpans_86 ?_
            refine lv_iload_n hx hb dX9_findSpans_89 rfl (lv_at hl 3 rfl) ?_
            refine n_lald hx hb hK hP 72 (by omega) e_30 t rfl (by omega) (by decide) dX9_findSpans_90 ?_
            refine n_lmul hx hb dX9_findSpans_91 ?_
            refine lv_aload_n hx hb dX9_findSpans_92 rfl (lv_at hl 0 rfl) ?_
            refine f_get (C := RX9) (T := TX9) (N := 26) hx hb hts (by decide +kernel) hown hK hP 59 (by omega) f40_0 rfl 17 (by decide) (hts (.fieldLink RX9 48 "KeptMovingModel" "timeD" "[J") (by decide +kernel)) (fun _ h9 => h9) rfl dX9_findSpans_93 ?_
            refine lv_iload_n hx hb dX9_findSpans_96 rfl (lv_at hl 3 rfl) ?_
            refine n_iconst hx hb dX9_findSpans_97 ?_
            refine n_iadd hx hb dX9_findSpans_98 ?_
            refine n_top (A := ((t : Nat) : Int) + 1) (B := ((t + 1 : Nat) : Int)) (by omega) ?_
            refine n_lald hx hb hK hP 72 (by omega) e_30 (t + 1) rfl (by omega) (by decide) dX9_findSpans_99 ?_
            refine n_lmul hx hb dX9_findSpans_100 ?_
            refine vp_callSi (W.runV (As := [.long (jN (((tN t) * (tD (t + 1))) + ((tN (t + 1)) * (tD t)))), .long (jN ((2 * (tD t)) * (tD (t + 1))))]) (rest := []) ⟨hx, hb, hml, hown, hts⟩ (c_X9_isSo l G w2 now came rm mt tm thg onn two lw hg sq2 ga pn mbe mpl msp (((tN t) * (tD (t + 1))) + ((tN (t + 1)) * (tD t))) ((2 * (tD t)) * (tD (t + 1))) f40_0 e_24 e_25 e_26 e_27 e_28 (p0) (p3) (p4) (p5) (p6) (p7) (p8) (by omega) (by omega)) (cwV 2 hts gX9_findSpans_X9_isSo rfl rfl rfl (by decide +kernel) ⟨Nat.le_of_ble_eq_true rfl, Nat.le_of_ble_eq_true rfl⟩) (f_preV hP hK 59 (by omega) 8 f40_0 rfl) rfl rfl hl.1 rfl (lv_room (Nat.le_of_ble_eq_true rfl)) dX9_findSpans_101 ⟨Nat.zero_le _, Nat.zero_le _⟩) (fun r_31 hr_31 => ?_)
            rw [show r_31 = iN (if soX (rw8 mbe, rw8 mpl, rw8 msp, pn, ga) came thg onn two lw hg (((tN t) * (tD (t + 1))) + ((tN (t + 1)) * (tD t))) ((2 * (tD t)) * (tD (t + 1))) = true then 1 else 0) from hr_31]
            refine n_ifb_eq (tgt := 115) hx hb dX9_findSpans_104 (by decide) (fun c_104 => ?_) (fun c_104 => ?_)
            · refine lv_iinc (v := iN ((t + 1 : Nat) : Int)) (lv' := [(3, .int (iN ((t + 1 : Nat) : Int))), (0, .ref (gad G 59)), (1, .int (iN k)), (2, .int (iN wh))]) hx hb dX9_findSpans_115 hl (k := 3) rfl (iN_incN _) (by decide) rfl (fun ls hl => ?_)
              refine lv_goto (tgt := 7) hx hb dX9_findSpans_118 (by decide) ?_
              exact ih7 (t + 1) (sq2) (sN2) (sD2) w2 _ _ _ (by omega) ((by show isQ (fs2 (soX (rw8 mbe, rw8 mpl, rw8 msp, pn, ga) came thg onn two lw hg) tm tN tD t (fs1 (soX (rw8 mbe, rw8 mpl, rw8 msp, pn, ga) came thg onn two lw hg) tN tD t (fsF (soX (rw8 mbe, rw8 mpl, rw8 msp, pn, ga) came thg onn two lw hg) tm tN tD t))) _ _ _; rw [show fs2 (soX (rw8 mbe, rw8 mpl, rw8 msp, pn, ga) came thg onn two lw hg) tm tN tD t (fs1 (soX (rw8 mbe, rw8 mpl, rw8 msp, pn, ga) came thg onn two lw hg) tN tD t (fsF (soX (rw8 mbe, rw8 mpl, rw8 msp, pn, ga) came thg onn two lw hg) tm tN tD t)) = fs1 (soX (rw8 mbe, rw8 mpl, rw8 msp, pn, ga) came thg onn two lw hg) tN tD t (fsF (soX (rw8 mbe, rw8 mpl, rw8 msp, pn, ga) came thg onn two lw hg) tm tN tD t) from if_neg (fun z => by first | exact absurd z.1 (by omega) | exact c_104 z.2)]; exact i40_1)) (by omega) (f40_0) (f40_1) (f40_2) (fun k h0 h1 h2 => hfr40 k (by omega) (by omega) (by omega)) hP hS (lv_sub hl [1, 2, 3, 0] rfl)
            · refine lv_aload_n hx hb dX9_findSpans_107 rfl (lv_at hl 0 rfl) ?_
              refine lv_iload_n hx hb dX9_findSpans_108 rfl (lv_at hl 3 rfl) ?_
              refine lv_iload_n hx hb dX9_findSpans_109 rfl (lv_at hl 3 rfl) ?_
              refine n_iconst hx hb dX9_findSpans_110 ?_
              refine n_iadd hx hb dX9_findSpans_111 ?_
              refine n_top (A := ((t : Nat) : Int) + 1) (B := ((t + 1 : Nat) : Int)) (by omega) ?_
              refine f_callv (W.runV (As := [.int (iN ((t : Nat) : Int)), .int (iN ((t + 1 : Nat) : Int))]) (rest := []) ⟨hx, hb, hml, hown, hts⟩ (c_X9_addSpan l G w2 U (fs1 (soX (rw8 mbe, rw8 mpl, rw8 msp, pn, ga) came thg onn two lw hg) tN tD t (fsF (soX (rw8 mbe, rw8 mpl, rw8 msp, pn, ga) came thg onn two lw hg) tm tN tD t)) now came rm mt tm thg onn two lw hg sq2 tN tD sN2 sD2 t (t + 1) f40_0 e_29 e_30 f40_1 f40_2 (p1) (i40_1) (by omega) (by omega) (by omega) (p2)) (cwV 2 hts gX9_findSpans_X9_addSpan rfl rfl rfl (by decide +kernel) ⟨Nat.le_of_ble_eq_true rfl, Nat.le_of_ble_eq_true rfl⟩) (f_preV hP hK 59 (by omega) 8 f40_0 rfl) rfl rfl hl.1 rfl (lv_room (Nat.le_of_ble_eq_true rfl)) dX9_findSpans_112 ⟨Nat.zero_le _, Nat.zero_le _⟩) hS hAA (fun w_32 H locs q_33 hP hS => ?_)
              obtain ⟨sq2_34, sN2_35, sD2_36, fr_37, e_38, e_39, e_40, q_41⟩ := q_33
              have e_42 : w_32 60 = .inl (gI G, 10, .inl (aN ga)) := (fr_37 60 (by omega) (by omega) (by omega)).trans e_24
              have e_43 : w_32 61 = .inl (gI G, 10, .inl (aN (pnI pn))) := (fr_37 61 (by omega) (by omega) (by omega)).trans e_25
              have e_44 : w_32 62 = .inl (gI G, 80, .inl (aN mbe)) := (fr_37 62 (by omega) (by omega) (by omega)).trans e_26
              have e_45 : w_32 63 = .inl (gI G, 80, .inl (aN mpl)) := (fr_37 63 (by omega) (by omega) (by omega)).trans e_27
              have e_46 : w_32 64 = .inl (gI G, 80, .inl (aN msp)) := (fr_37 64 (by omega) (by omega) (by omega)).trans e_28
              have e_47 : w_32 71 = .inl (gJ G, 700, .inr (.inl (aJ tN))) := (fr_37 71 (by omega) (by omega) (by omega)).trans e_29
              have e_48 : w_32 72 = .inl (gJ G, 700, .inr (.inl (aJ tD))) := (fr_37 72 (by omega) (by omega) (by omega)).trans e_30
              have e_49 : w_32 59 = .inr (8, [.int (iN ((now : Nat) : Int)), .int (iN ((came : Nat) : Int)), .ref (gad G 60), .ref (gad G 61), .ref (gad G 62), .ref (gad G 63), .ref (gad G 64), .ref (gad G 65), .int (iN ((rm : Nat) : Int)), .int (iN ((mt : Nat) : Int)), .ref (gad G 66), .ref (gad G 67), .ref (gad G 68), .ref (gad G 69), .ref (gad G 70), .int (iN ((tm : Nat) : Int)), .ref (gad G 71), .ref (gad G 72), .int (iN thg), .int (iN onn), .int (iN two), .long (jN lw), .long (jN hg), .int (iN ((sq2_34 : Nat) : Int)), .ref (gad G 73), .ref (gad G 74)]) := e_38
              have e_50 : w_32 73 = .inl (gJ G, 1400, .inr (.inl (aJ sN2_35))) := e_39
              have e_51 : w_32 74 = .inl (gJ G, 1400, .inr (.inl (aJ sD2_36))) := e_40
              refine lv_iinc (v := iN ((t + 1 : Nat) : Int)) (lv' := [(3, .int (iN ((t + 1 : Nat) : Int))), (0, .ref (gad G 59)), (1, .int (iN k)), (2, .int (iN wh))]) hx hb dX9_findSpans_115 hl (k := 3) rfl (iN_incN _) (by decide) rfl (fun ls hl => ?_)
              refine lv_goto (tgt := 7) hx hb dX9_findSpans_118 (by decide) ?_
              exact ih7 (t + 1) (sq2_34) (sN2_35) (sD2_36) w_32 _ _ _ (by omega) ((by show isQ (fs2 (soX (rw8 mbe, rw8 mpl, rw8 msp, pn, ga) came thg onn two lw hg) tm tN tD t (fs1 (soX (rw8 mbe, rw8 mpl, rw8 msp, pn, ga) came thg onn two lw hg) tN tD t (fsF (soX (rw8 mbe, rw8 mpl, rw8 msp, pn, ga) came thg onn two lw hg) tm tN tD t))) _ _ _; rw [show fs2 (soX (rw8 mbe, rw8 mpl, rw8 msp, pn, ga) came thg onn two lw hg) tm tN tD t (fs1 (soX (rw8 mbe, rw8 mpl, rw8 msp, pn, ga) came thg onn two lw hg) tN tD t (fsF (soX (rw8 mbe, rw8 mpl, rw8 msp, pn, ga) came thg onn two lw hg) tm tN tD t)) = addS (tN t, tD t) (tN (t + 1), tD (t + 1)) (fs1 (soX (rw8 mbe, rw8 mpl, rw8 msp, pn, ga) came thg onn two lw hg) tN tD t (fsF (soX (rw8 mbe, rw8 mpl, rw8 msp, pn, ga) came thg onn two lw hg) tm tN tD t)) from if_pos ⟨by omega, c_104⟩]; exact q_41)) (by omega) (e_49) (e_50) (e_51) (fun k h0 h1 h2 => ((fr_37 k (by omega) (by omega) (by omega)).trans (hfr40 k (by omega) (by omega) (by omega)))) hP hS (lv_sub hl [1, 2, 3, 0] rfl)
        refine lv_aload_n hx hb dX9_findSpans_15 rfl (lv_at hl 0 rfl) ?_
        refine lv_aload_n hx hb dX9_findSpans_16 rfl (lv_at hl 0 rfl) ?_
        refine f_get (C := RX9) (T := TX9) (N := 26) hx hb hts (by decide +kernel) hown hK hP 59 (by omega) f7_0 rfl 16 (by decide) (hts (.fieldLink RX9 45 "KeptMovingModel" "timeN" "[J") (by decide +kernel)) (fun _ h9 => h9) rfl dX9_findSpans_17 ?_
        refine lv_iload_n hx hb dX9_findSpans_20 rfl (lv_at hl 3 rfl) ?_
        refine n_lald hx hb hK hP 71 (by omega) e_19 t rfl (by omega) (by decide) dX9_findSpans_21 ?_
        refine lv_aload_n hx hb dX9_findSpans_22 rfl (lv_at hl 0 rfl) ?_
        refine f_get (C := RX9) (T := TX9) (N := 26) hx hb hts (by decide +kernel) hown hK hP 59 (by omega) f7_0 rfl 17 (by decide) (hts (.fieldLink RX9 48 "KeptMovingModel" "timeD" "[J") (by decide +kernel)) (fun _ h9 => h9) rfl dX9_findSpans_23 ?_
        refine lv_iload_n hx hb dX9_findSpans_26 rfl (lv_at hl 3 rfl) ?_
        refine n_lald hx hb hK hP 72 (by omega) e_20 t rfl (by omega) (by decide) dX9_findSpans_27 ?_
        refine vp_callSi (W.runV (As := [.long (jN (tN t)), .long (jN (tD t))]) (rest := []) ⟨hx, hb, hml, hown, hts⟩ (c_X9_isSo l G w2 now came rm mt tm thg onn two lw hg sq2 ga pn mbe mpl msp (tN t) (tD t) f7_0 e_14 e_15 e_16 e_17 e_18 (p0) (p3) (p4) (p5) (p6) (p7) (p8) (by omega) (by omega)) (cwV 2 hts gX9_findSpans_X9_isSo rfl rfl rfl (by decide +kernel) ⟨Nat.le_of_ble_eq_true rfl, Nat.le_of_ble_eq_true rfl⟩) (f_preV hP hK 59 (by omega) 8 f7_0 rfl) rfl rfl hl.1 rfl (lv_room (Nat.le_of_ble_eq_true rfl)) dX9_findSpans_28 ⟨Nat.zero_le _, Nat.zero_le _⟩) (fun r_52 hr_52 => ?_)
        rw [show r_52 = iN (if soX (rw8 mbe, rw8 mpl, rw8 msp, pn, ga) came thg onn two lw hg (tN t) (tD t) = true then 1 else 0) from hr_52]
        refine n_ifb_eq (tgt := 40) hx hb dX9_findSpans_31 (by decide) (fun c_31 => ?_) (fun c_31 => ?_)
        · have hf1 := fs1_len (soX (rw8 mbe, rw8 mpl, rw8 msp, pn, ga) came thg onn two lw hg) tN tD t (fsF (soX (rw8 mbe, rw8 mpl, rw8 msp, pn, ga) came thg onn two lw hg) tm tN tD t)
          exact K40 (sq2) (sN2) (sD2) w2 _ _ _ (by omega) ((by rw [show fs1 (soX (rw8 mbe, rw8 mpl, rw8 msp, pn, ga) came thg onn two lw hg) tN tD t (fsF (soX (rw8 mbe, rw8 mpl, rw8 msp, pn, ga) came thg onn two lw hg) tm tN tD t) = (fsF (soX (rw8 mbe, rw8 mpl, rw8 msp, pn, ga) came thg onn two lw hg) tm tN tD t) from if_neg c_31]; exact i7_1)) (f7_0) (f7_1) (f7_2) (fun k h0 h1 h2 => hfr7 k (by omega) (by omega) (by omega)) hP hS (lv_sub hl [0, 1, 2, 3] rfl)
        · refine lv_aload_n hx hb dX9_findSpans_34 rfl (lv_at hl 0 rfl) ?_
          refine lv_iload_n hx hb dX9_findSpans_35 rfl (lv_at hl 3 rfl) ?_
          refine lv_iload_n hx hb dX9_findSpans_36 rfl (lv_at hl 3 rfl) ?_
          refine f_callv (W.runV (As := [.int (iN ((t : Nat) : Int)), .int (iN ((t : Nat) : Int))]) (rest := []) ⟨hx, hb, hml, hown, hts⟩ (c_X9_addSpan l G w2 U (fsF (soX (rw8 mbe, rw8 mpl, rw8 msp, pn, ga) came thg onn two lw hg) tm tN tD t) now came rm mt tm thg onn two lw hg sq2 tN tD sN2 sD2 t t f7_0 e_19 e_20 f7_1 f7_2 (p1) (i7_1) (by omega) (by omega) (by omega) (p2)) (cwV 2 hts gX9_findSpans_X9_addSpan rfl rfl rfl (by decide +kernel) ⟨Nat.le_of_ble_eq_true rfl, Nat.le_of_ble_eq_true rfl⟩) (f_preV hP hK 59 (by omega) 8 f7_0 rfl) rfl rfl hl.1 rfl (lv_room (Nat.le_of_ble_eq_true rfl)) dX9_findSpans_37 ⟨Nat.zero_le _, Nat.zero_le _⟩) hS hAA (fun w_53 H locs q_54 hP hS => ?_)
          obtain ⟨sq2_55, sN2_56, sD2_57, fr_58, e_59, e_60, e_61, q_62⟩ := q_54
          have e_63 : w_53 60 = .inl (gI G, 10, .inl (aN ga)) := (fr_58 60 (by omega) (by omega) (by omega)).trans e_14
          have e_64 : w_53 61 = .inl (gI G, 10, .inl (aN (pnI pn))) := (fr_58 61 (by omega) (by omega) (by omega)).trans e_15
          have e_65 : w_53 62 = .inl (gI G, 80, .inl (aN mbe)) := (fr_58 62 (by omega) (by omega) (by omega)).trans e_16
          have e_66 : w_53 63 = .inl (gI G, 80, .inl (aN mpl)) := (fr_58 63 (by omega) (by omega) (by omega)).trans e_17
          have e_67 : w_53 64 = .inl (gI G, 80, .inl (aN msp)) := (fr_58 64 (by omega) (by omega) (by omega)).trans e_18
          have e_68 : w_53 71 = .inl (gJ G, 700, .inr (.inl (aJ tN))) := (fr_58 71 (by omega) (by omega) (by omega)).trans e_19
          have e_69 : w_53 72 = .inl (gJ G, 700, .inr (.inl (aJ tD))) := (fr_58 72 (by omega) (by omega) (by omega)).trans e_20
          have e_70 : w_53 59 = .inr (8, [.int (iN ((now : Nat) : Int)), .int (iN ((came : Nat) : Int)), .ref (gad G 60), .ref (gad G 61), .ref (gad G 62), .ref (gad G 63), .ref (gad G 64), .ref (gad G 65), .int (iN ((rm : Nat) : Int)), .int (iN ((mt : Nat) : Int)), .ref (gad G 66), .ref (gad G 67), .ref (gad G 68), .ref (gad G 69), .ref (gad G 70), .int (iN ((tm : Nat) : Int)), .ref (gad G 71), .ref (gad G 72), .int (iN thg), .int (iN onn), .int (iN two), .long (jN lw), .long (jN hg), .int (iN ((sq2_55 : Nat) : Int)), .ref (gad G 73), .ref (gad G 74)]) := e_59
          have e_71 : w_53 73 = .inl (gJ G, 1400, .inr (.inl (aJ sN2_56))) := e_60
          have e_72 : w_53 74 = .inl (gJ G, 1400, .inr (.inl (aJ sD2_57))) := e_61
          have hf1 := fs1_len (soX (rw8 mbe, rw8 mpl, rw8 msp, pn, ga) came thg onn two lw hg) tN tD t (fsF (soX (rw8 mbe, rw8 mpl, rw8 msp, pn, ga) came thg onn two lw hg) tm tN tD t)
          exact K40 (sq2_55) (sN2_56) (sD2_57) w_53 _ _ _ (by omega) ((by rw [show fs1 (soX (rw8 mbe, rw8 mpl, rw8 msp, pn, ga) came thg onn two lw hg) tN tD t (fsF (soX (rw8 mbe, rw8 mpl, rw8 msp, pn, ga) came thg onn two lw hg) tm tN tD t) = addS (tN t, tD t) (tN t, tD t) (fsF (soX (rw8 mbe, rw8 mpl, rw8 msp, pn, ga) came thg onn two lw hg) tm tN tD t) from if_pos c_31]; exact q_62)) (e_70) (e_71) (e_72) (fun k h0 h1 h2 => ((fr_58 k (by omega) (by omega) (by omega)).trans (hfr7 k (by omega) (by omega) (by omega)))) hP hS (lv_sub hl [0, 1, 2, 3] rfl)
  exact K7 ((701 - 0) + 1) (0) (0) (sN) (sD) w_1 _ _ _ (by omega) (isQ_0 _ _) (by omega) (e_4) (e_12) (e_13) (fun k h0 h1 h2 => fr_3 k (by omega)) hP hS (lv_sub hl [1, 2, 3, 0] rfl)

set_option maxHeartbeats 4000000 in
set_option maxRecDepth 100000 in
theorem c_X9_isAsked (l : Launch) (en : Int) (wh : Int) (p0 : -2147483648 ≤ en ∧ en < 2147483648) (p1 : -2147483648 ≤ wh ∧ wh < 2147483648) : Met l yX9_isAsked wsX9_isAsked ({ frames := 1, cells := 0, slots := 0, locals := 25 }) (PcN [.int (iN en), .int (iN wh)]) (vp_Si (fun r => r = iN (if (1 ≤ en ∧ en ≤ 600) ∧ 0 ≤ wh ∧ wh ≤ 3 then 1 else 0))) 0 0 (fun _ => False) := by
  refine Met.ofW (cc := cX9_isAsked) (maxL := 2) (ret := (some .boolean)) (by decide) rfl ?_
  intro p e s m args below meth c s₁ B hml hv
  obtain rfl := hv
  have hx := B.exec
  have hb := B.bytes
  have hr := B.returns
  have hts := atoms_spec (ws := wsX9_isAsked) B.pre
  have hown : s.vm.findClass RX9 = some m.cls := findClass_of_methodNamed B.named
  have hlocks := B.notSynchronized
  have hl := lv_entry ([.int (iN en), .int (iN wh)]) (n := 2) (Nat.le_of_ble_eq_true rfl)
  rw [lg_entry_eq]
  generalize (lg_sl ([.int (iN en), .int (iN wh)]) ++ List.replicate (2 - (lg_sl ([.int (iN en), .int (iN wh)])).length) Slot.unset).toArray = ls at hl ⊢
  have hl : lv_has ls 2 [(0, .int (iN en)), (1, .int (iN wh))] := hl
  refine lv_iload_n hx hb dX9_isAsked_0 rfl (lv_at hl 0 rfl) ?_
  refine n_i2l hx hb (by omega) (by omega) dX9_isAsked_1 ?_
  refine n_lconst (z := 1) hx hb dX9_isAsked_2 (by decide) ?_
  refine n_ldc2 (z := (600)) hx hb hown (hts (.constantLong RX9 211 (600)) (by decide +kernel)) (by decide) dX9_isAsked_3 ?_
  refine vp_callSi (W.runS (As := [.long (jN en), .long (jN 1), .long (jN 600)]) (rest := []) ⟨hx, hb, hml, hown, hts⟩ (c_X9_in l en (1 : Int) (600 : Int) (by omega) (by omega) (by omega)) (va_cwS 3 hts gX9_isAsked_X9_in rfl rfl rfl (by decide +kernel) ⟨Nat.le_of_ble_eq_true rfl, Nat.le_of_ble_eq_true rfl⟩) ⟨fun _ _ _ _ q => q, fun _ _ _ => rfl⟩ rfl rfl hl.1 rfl (lv_room (Nat.le_of_ble_eq_true rfl)) dX9_isAsked_6 ⟨Nat.zero_le _, Nat.zero_le _⟩) (fun r_1 hr_1 => ?_)
  rw [show r_1 = iN (if ((1 : Int) ≤ en ∧ en ≤ (600 : Int)) then 1 else 0) from hr_1]
  refine n_ifb_eq (tgt := 28) hx hb dX9_isAsked_9 (by decide) (fun c_9 => ?_) (fun c_9 => ?_)
  · refine n_iconst hx hb dX9_isAsked_28 ?_
    exact r_z0 hx hb hr dX9_isAsked_29 hlocks (show iN 0 = iN (if (1 ≤ en ∧ en ≤ 600) ∧ 0 ≤ wh ∧ wh ≤ 3 then 1 else 0) by rw [if_neg (by omega)])
  · refine lv_iload_n hx hb dX9_isAsked_12 rfl (lv_at hl 1 rfl) ?_
    refine n_i2l hx hb (by omega) (by omega) dX9_isAsked_13 ?_
    refine n_lconst (z := 0) hx hb dX9_isAsked_14 (by decide) ?_
    refine n_ldc2 (z := (3)) hx hb hown (hts (.constantLong RX9 169 (3)) (by decide +kernel)) (by decide) dX9_isAsked_15 ?_
    refine vp_callSi (W.runS (As := [.long (jN wh), .long (jN 0), .long (jN 3)]) (rest := []) ⟨hx, hb, hml, hown, hts⟩ (c_X9_in l wh (0 : Int) (3 : Int) (by omega) (by omega) (by omega)) (va_cwS 3 hts gX9_isAsked_X9_in rfl rfl rfl (by decide +kernel) ⟨Nat.le_of_ble_eq_true rfl, Nat.le_of_ble_eq_true rfl⟩) ⟨fun _ _ _ _ q => q, fun _ _ _ => rfl⟩ rfl rfl hl.1 rfl (lv_room (Nat.le_of_ble_eq_true rfl)) dX9_isAsked_18 ⟨Nat.zero_le _, Nat.zero_le _⟩) (fun r_2 hr_2 => ?_)
    rw [show r_2 = iN (if ((0 : Int) ≤ wh ∧ wh ≤ (3 : Int)) then 1 else 0) from hr_2]
    refine n_ifb_eq (tgt := 28) hx hb dX9_isAsked_21 (by decide) (fun c_21 => ?_) (fun c_21 => ?_)
    · refine n_iconst hx hb dX9_isAsked_28 ?_
      exact r_z0 hx hb hr dX9_isAsked_29 hlocks (show iN 0 = iN (if (1 ≤ en ∧ en ≤ 600) ∧ 0 ≤ wh ∧ wh ≤ 3 then 1 else 0) by rw [if_neg (by omega)])
    · refine n_iconst hx hb dX9_isAsked_24 ?_
      refine lv_goto (tgt := 29) hx hb dX9_isAsked_25 (by decide) ?_
      exact r_z1 hx hb hr dX9_isAsked_29 hlocks (show iN 1 = iN (if (1 ≤ en ∧ en ≤ 600) ∧ 0 ≤ wh ∧ wh ≤ 3 then 1 else 0) by rw [if_pos (by omega)])

set_option maxHeartbeats 4000000 in
set_option maxRecDepth 100000 in
theorem c_X9_near (l : Launch) (G : GE) (w : WF) (now : Nat) (came : Nat) (rm : Nat) (mt : Nat) (tm : Nat) (thg : Int) (onn : Int) (two : Int) (lw : Int) (hg : Int) (sq : Nat) (ga : Nat → Int) (pn : Nat → Nat) (mbe : Nat → Int) (mpl : Nat → Int) (msp : Nat → Int) (tN : Nat → Int) (tD : Nat → Int) (sN : Nat → Int) (sD : Nat → Int) (i : Int) (j : Int) (wd : Int) (en : Int) (k : Int) (wh : Int) (e0 : w 59 = .inr (8, [.int (iN ((now : Nat) : Int)), .int (iN ((came : Nat) : Int)), .ref (gad G 60), .ref (gad G 61), .ref (gad G 62), .ref (gad G 63), .ref (gad G 64), .ref (gad G 65), .int (iN ((rm : Nat) : Int)), .int (iN ((mt : Nat) : Int)), .ref (gad G 66), .ref (gad G 67), .ref (gad G 68), .ref (gad G 69), .ref (gad G 70), .int (iN ((tm : Nat) : Int)), .ref (gad G 71), .ref (gad G 72), .int (iN thg), .int (iN onn), .int (iN two), .long (jN lw), .long (jN hg), .int (iN ((sq : Nat) : Int)), .ref (gad G 73), .ref (gad G 74)])) (e1 : w 60 = .inl (gI G, 10, .inl (aN ga))) (e2 : w 61 = .inl (gI G, 10, .inl (aN (pnI pn)))) (e3 : w 62 = .inl (gI G, 80, .inl (aN mbe))) (e4 : w 63 = .inl (gI G, 80, .inl (aN mpl))) (e5 : w 64 = .inl (gI G, 80, .inl (aN msp))) (e6 : w 71 = .inl (gJ G, 700, .inr (.inl (aJ tN)))) (e7 : w 72 = .inl (gJ G, 700, .inr (.inl (aJ tD)))) (e8 : w 73 = .inl (gJ G, 1400, .inr (.inl (aJ sN)))) (e9 : w 74 = .inl (gJ G, 1400, .inr (.inl (aJ sD)))) (p0 : OKS came (rw8 mbe) (rw8 mpl) (rw8 msp) pn ga) (p1 : -60000 ≤ lw ∧ lw ≤ 60000) (p2 : -60000 ≤ hg ∧ hg ≤ 60000) (p3 : -2147483648 ≤ i ∧ i < 2147483648) (p4 : -2147483648 ≤ j ∧ j < 2147483648) (p5 : -2147483648 ≤ wd ∧ wd < 2147483648) (p6 : -2147483648 ≤ en ∧ en < 2147483648) (p7 : -2147483648 ≤ k ∧ k < 2147483648) (p8 : -2147483648 ≤ wh ∧ wh < 2147483648) : Met l yX9_near wsX9_near ({ frames := 4, cells := 0, slots := 0, locals := 103 }) (PcG G w [.ref (gad G 59), .int (iN i), .int (iN j), .int (iN wd), .int (iN en), .int (iN k), .int (iN wh)]) (QI G (fun r w1 => r = iN (if (0 ≤ i ∧ i ≤ (came : Int) - 1) ∧ (0 ≤ j ∧ j ≤ (came : Int) - 1) then (if (0 ≤ wd ∧ wd ≤ 2000) ∧ (1 ≤ en ∧ en ≤ 600) ∧ 0 ≤ wh ∧ wh ≤ 3 then (if i = j then -100003 else ansW (fsG (soX (rw8 mbe, rw8 mpl, rw8 msp, pn, ga) came 0 i j lw wd) (apP (rw8 mbe, rw8 mpl, rw8 msp, pn, ga) en (-wd) i.toNat j.toNat (pn i.toNat) (apP (rw8 mbe, rw8 mpl, rw8 msp, pn, ga) en wd i.toNat j.toNat (pn i.toNat) (btI (rw8 mbe, rw8 mpl, rw8 msp, pn, ga) en came)))) k wh) else -100002) else -100001) ∧ ∃ (tm2 : Nat) (tN2 : Nat → Int) (tD2 : Nat → Int) (sq2 : Nat) (sN2 : Nat → Int) (sD2 : Nat → Int) (thg2 : Int) (onn2 : Int) (two2 : Int) (lw2 : Int) (hg2 : Int), (∀ k : Nat, k ≠ 59 → k ≠ 71 → k ≠ 72 → k ≠ 73 → k ≠ 74 → w1 k = w k) ∧ w1 59 = .inr (8, [.int (iN ((now : Nat) : Int)), .int (iN ((came : Nat) : Int)), .ref (gad G 60), .ref (gad G 61), .ref (gad G 62), .ref (gad G 63), .ref (gad G 64), .ref (gad G 65), .int (iN ((rm : Nat) : Int)), .int (iN ((mt : Nat) : Int)), .ref (gad G 66), .ref (gad G 67), .ref (gad G 68), .ref (gad G 69), .ref (gad G 70), .int (iN ((tm2 : Nat) : Int)), .ref (gad G 71), .ref (gad G 72), .int (iN thg2), .int (iN onn2), .int (iN two2), .long (jN lw2), .long (jN hg2), .int (iN ((sq2 : Nat) : Int)), .ref (gad G 73), .ref (gad G 74)]) ∧ w1 71 = .inl (gJ G, 700, .inr (.inl (aJ tN2))) ∧ w1 72 = .inl (gJ G, 700, .inr (.inl (aJ tD2))) ∧ w1 73 = .inl (gJ G, 1400, .inr (.inl (aJ sN2))) ∧ w1 74 = .inl (gJ G, 1400, .inr (.inl (aJ sD2))) ∧ (-60000 ≤ lw2 ∧ lw2 ≤ 60000) ∧ (-60000 ≤ hg2 ∧ hg2 ≤ 60000))) 0 0 (AA G) := by
  refine Met.ofW (cc := cX9_near) (maxL := 7) (ret := (some .int)) (by decide) rfl ?_
  intro p e s m args below meth c s₁ B hml hv
  obtain ⟨rfl, hP, hK⟩ := hv
  have hx := B.exec
  have hb := B.bytes
  have hr := B.returns
  have hts := atoms_spec (ws := wsX9_near) B.pre
  have hown : s.vm.findClass RX9 = some m.cls := findClass_of_methodNamed B.named
  have hlocks := B.notSynchronized
  have hS : va_S (AA G) s.heap s.heap [] := va_S.rf
  have hAA : ∀ q, AA G q → AA G q := fun _ h => h
  have hl := lv_entry ([.ref (gad G 59), .int (iN i), .int (iN j), .int (iN wd), .int (iN en), .int (iN k), .int (iN wh)]) (n := 7) (Nat.le_of_ble_eq_true rfl)
  rw [lg_entry_eq]
  generalize (lg_sl ([.ref (gad G 59), .int (iN i), .int (iN j), .int (iN wd), .int (iN en), .int (iN k), .int (iN wh)]) ++ List.replicate (7 - (lg_sl ([.ref (gad G 59), .int (iN i), .int (iN j), .int (iN wd), .int (iN en), .int (iN k), .int (iN wh)])).length) Slot.unset).toArray = ls at hl ⊢
  have hl : lv_has ls 7 [(0, .ref (gad G 59)), (1, .int (iN i)), (2, .int (iN j)), (3, .int (iN wd)), (4, .int (iN en)), (5, .int (iN k)), (6, .int (iN wh))] := hl
  have hc10 : came ≤ 10 := p0.1
  have hn8 : ∀ i, i < came → pn i ≤ 8 := fun i hi => (p0.2 i hi).1.2
  refine lv_aload_n hx hb dX9_near_0 rfl (lv_at hl 0 rfl) ?_
  refine lv_iload_n hx hb dX9_near_1 rfl (lv_at hl 1 rfl) ?_
  refine vp_callSi (W.runV (As := [.int (iN i)]) (rest := []) ⟨hx, hb, hml, hown, hts⟩ (c_X9_isPoint l G w now came rm mt tm thg onn two lw hg sq i e0 (p3) (hc10)) (cwV 1 hts gX9_near_X9_isPoint rfl rfl rfl (by decide +kernel) ⟨Nat.le_of_ble_eq_true rfl, Nat.le_of_ble_eq_true rfl⟩) (f_preV hP hK 59 (by omega) 8 e0 rfl) rfl rfl hl.1 rfl (lv_room (Nat.le_of_ble_eq_true rfl)) dX9_near_2 ⟨Nat.zero_le _, Nat.zero_le _⟩) (fun r_1 hr_1 => ?_)
  rw [show r_1 = iN (if (0 ≤ i ∧ i ≤ ((came : Nat) : Int) - 1) then 1 else 0) from hr_1]
  refine n_ifb_eq (tgt := 16) hx hb dX9_near_5 (by decide) (fun c_5 => ?_) (fun c_5 => ?_)
  · refine n_ldc (z := (-100001)) hx hb hown (hts (.constant RX9 82 (-100001)) (by decide +kernel)) (by decide) dX9_near_16 ?_
    exact r_i hx hb hr dX9_near_18 hlocks hP hS ⟨(show iN (-100001) = iN _ by rw [if_neg (show ¬ ((0 ≤ i ∧ i ≤ (came : Int) - 1) ∧ 0 ≤ j ∧ j ≤ (came : Int) - 1) by omega)]), tm, tN, tD, sq, sN, sD, (thg), (onn), (two), (lw), (hg), (fun k _ _ _ _ _ => rfl), e0, e6, e7, e8, e9, (by omega), (by omega)⟩
  · refine lv_aload_n hx hb dX9_near_8 rfl (lv_at hl 0 rfl) ?_
    refine lv_iload_n hx hb dX9_near_9 rfl (lv_at hl 2 rfl) ?_
    refine vp_callSi (W.runV (As := [.int (iN j)]) (rest := []) ⟨hx, hb, hml, hown, hts⟩ (c_X9_isPoint l G w now came rm mt tm thg onn two lw hg sq j e0 (p4) (hc10)) (cwV 1 hts gX9_near_X9_isPoint rfl rfl rfl (by decide +kernel) ⟨Nat.le_of_ble_eq_true rfl, Nat.le_of_ble_eq_true rfl⟩) (f_preV hP hK 59 (by omega) 8 e0 rfl) rfl rfl hl.1 rfl (lv_room (Nat.le_of_ble_eq_true rfl)) dX9_near_10 ⟨Nat.zero_le _, Nat.zero_le _⟩) (fun r_2 hr_2 => ?_)
    rw [show r_2 = iN (if (0 ≤ j ∧ j ≤ ((came : Nat) : Int) - 1) then 1 else 0) from hr_2]
    refine n_ifb_ne (tgt := 19) hx hb dX9_near_13 (by decide) (fun c_13 => ?_) (fun c_13 => ?_)
    · refine lv_iload_n hx hb dX9_near_19 rfl (lv_at hl 3 rfl) ?_
      refine n_i2l hx hb (by omega) (by omega) dX9_near_20 ?_
      refine n_lconst (z := 0) hx hb dX9_near_21 (by decide) ?_
      refine n_ldc2 (z := (2000)) hx hb hown (hts (.constantLong RX9 140 (2000)) (by decide +kernel)) (by decide) dX9_near_22 ?_
      refine vp_callSi (W.runS (As := [.long (jN wd), .long (jN 0), .long (jN 2000)]) (rest := []) ⟨hx, hb, hml, hown, hts⟩ (c_X9_in l wd (0 : Int) (2000 : Int) (by omega) (by omega) (by omega)) (va_cwS 3 hts gX9_near_X9_in rfl rfl rfl (by decide +kernel) ⟨Nat.le_of_ble_eq_true rfl, Nat.le_of_ble_eq_true rfl⟩) ⟨fun _ _ _ _ q => q, fun _ _ _ => rfl⟩ rfl rfl hl.1 rfl (lv_room (Nat.le_of_ble_eq_true rfl)) dX9_near_25 ⟨Nat.zero_le _, Nat.zero_le _⟩) (fun r_3 hr_3 => ?_)
      rw [show r_3 = iN (if ((0 : Int) ≤ wd ∧ wd ≤ (2000 : Int)) then 1 else 0) from hr_3]
      refine n_ifb_eq (tgt := 41) hx hb dX9_near_28 (by decide) (fun c_28 => ?_) (fun c_28 => ?_)
      · refine n_ldc (z := (-100002)) hx hb hown (hts (.constant RX9 73 (-100002)) (by decide +kernel)) (by decide) dX9_near_41 ?_
        exact r_i hx hb hr dX9_near_43 hlocks hP hS ⟨(show iN (-100002) = iN _ by rw [if_pos (show (0 ≤ i ∧ i ≤ (came : Int) - 1) ∧ 0 ≤ j ∧ j ≤ (came : Int) - 1 by omega), if_neg (show ¬ ((0 ≤ wd ∧ wd ≤ 2000) ∧ (1 ≤ en ∧ en ≤ 600) ∧ 0 ≤ wh ∧ wh ≤ 3) by omega)]), tm, tN, tD, sq, sN, sD, (thg), (onn), (two), (lw), (hg), (fun k _ _ _ _ _ => rfl), e0, e6, e7, e8, e9, (by omega), (by omega)⟩
      · refine lv_iload hx hb dX9_near_31 (lv_at hl 4 rfl) ?_
        refine lv_iload hx hb dX9_near_33 (lv_at hl 6 rfl) ?_
        refine vp_callSi (W.runS (As := [.int (iN en), .int (iN wh)]) (rest := []) ⟨hx, hb, hml, hown, hts⟩ (c_X9_isAsked l en wh (p6) (p8)) (va_cwS 2 hts gX9_near_X9_isAsked rfl rfl rfl (by decide +kernel) ⟨Nat.le_of_ble_eq_true rfl, Nat.le_of_ble_eq_true rfl⟩) ⟨fun _ _ _ _ q => q, fun _ _ _ => rfl⟩ rfl rfl hl.1 rfl (lv_room (Nat.le_of_ble_eq_true rfl)) dX9_near_35 ⟨Nat.zero_le _, Nat.zero_le _⟩) (fun r_4 hr_4 => ?_)
        rw [show r_4 = iN (if (1 ≤ en ∧ en ≤ 600) ∧ 0 ≤ wh ∧ wh ≤ 3 then 1 else 0) from hr_4]
        refine n_ifb_ne (tgt := 44) hx hb dX9_near_38 (by decide) (fun c_38 => ?_) (fun c_38 => ?_)
        · refine lv_iload_n hx hb dX9_near_44 rfl (lv_at hl 1 rfl) ?_
          refine lv_iload_n hx hb dX9_near_45 rfl (lv_at hl 2 rfl) ?_
          refine n_icmp_ne (tgt := 52) hx hb dX9_near_46 (by decide) (by omega) (by omega) (by omega) (by omega) (fun c_46 => ?_) (fun c_46 => ?_)
          · refine lv_aload_n hx hb dX9_near_52 rfl (lv_at hl 0 rfl) ?_
            refine n_iconst hx hb dX9_near_53 ?_
            refine f_put (v := .int (iN 0)) (ty := .int) (C := RX9) (T := TX9) (N := 26) hx hb hts (by decide +kernel) tyX9 tyX9_ok nmX9 hown hK hP hS hAA 59 (by omega) e0 rfl 18 (by decide) (hts (.fieldLink RX9 182 "KeptMovingModel" "thing" "I") (by decide +kernel)) (fun _ h9 => h9) rfl (by decide +kernel) (rfl) (rfl) (Nat.le_of_ble_eq_true rfl) (rfl) dX9_near_54 (fun H locs hP hS => ?_)
            have hP : PW G (va_up w 59 (.inr (8, [.int (iN ((now : Nat) : Int)), .int (iN ((came : Nat) : Int)), .ref (gad G 60), .ref (gad G 61), .ref (gad G 62), .ref (gad G 63), .ref (gad G 64), .ref (gad G 65), .int (iN ((rm : Nat) : Int)), .int (iN ((mt : Nat) : Int)), .ref (gad G 66), .ref (gad G 67), .ref (gad G 68), .ref (gad G 69), .ref (gad G 70), .int (iN ((tm : Nat) : Int)), .ref (gad G 71), .ref (gad G 72), .int (iN 0), .int (iN onn), .int (iN two), .long (jN lw), .long (jN hg), .int (iN ((sq : Nat) : Int)), .ref (gad G 73), .ref (gad G 74)]))) H := hP
            obtain ⟨w_5, hw_6⟩ : ∃ z : WF, z = va_up w 59 (.inr (8, [.int (iN ((now : Nat) : Int)), .int (iN ((came : Nat) : Int)), .ref (gad G 60), .ref (gad G 61), .ref (gad G 62), .ref (gad G 63), .ref (gad G 64), .ref (gad G 65), .int (iN ((rm : Nat) : Int)), .int (iN ((mt : Nat) : Int)), .ref (gad G 66), .ref (gad G 67), .ref (gad G 68), .ref (gad G 69), .ref (gad G 70), .int (iN ((tm : Nat) : Int)), .ref (gad G 71), .ref (gad G 72), .int (iN 0), .int (iN onn), .int (iN two), .long (jN lw), .long (jN hg), .int (iN ((sq : Nat) : Int)), .ref (gad G 73), .ref (gad G 74)])) := ⟨_, rfl⟩
            rw [← hw_6] at hP
            have fr_7 : ∀ k : Nat, k ≠ 59 → w_5 k = w k := fun k h => by rw [hw_6]; exact va_up_ne _ _ h
            have e_8 : w_5 59 = .inr (8, [.int (iN ((now : Nat) : Int)), .int (iN ((came : Nat) : Int)), .ref (gad G 60), .ref (gad G 61), .ref (gad G 62), .ref (gad G 63), .ref (gad G 64), .ref (gad G 65), .int (iN ((rm : Nat) : Int)), .int (iN ((mt : Nat) : Int)), .ref (gad G 66), .ref (gad G 67), .ref (gad G 68), .ref (gad G 69), .ref (gad G 70), .int (iN ((tm : Nat) : Int)), .ref (gad G 71), .ref (gad G 72), .int (iN 0), .int (iN onn), .int (iN two), .long (jN lw), .long (jN hg), .int (iN ((sq : Nat) : Int)), .ref (gad G 73), .ref (gad G 74)]) := by rw [hw_6]; exact va_up_self _ _ _
            have e_9 : w_5 60 = .inl (gI G, 10, .inl (aN ga)) := (fr_7 60 (by omega)).trans e1
            have e_10 : w_5 61 = .inl (gI G, 10, .inl (aN (pnI pn))) := (fr_7 61 (by omega)).trans e2
            have e_11 : w_5 62 = .inl (gI G, 80, .inl (aN mbe)) := (fr_7 62 (by omega)).trans e3
            have e_12 : w_5 63 = .inl (gI G, 80, .inl (aN mpl)) := (fr_7 63 (by omega)).trans e4
            have e_13 : w_5 64 = .inl (gI G, 80, .inl (aN msp)) := (fr_7 64 (by omega)).trans e5
            have e_14 : w_5 71 = .inl (gJ G, 700, .inr (.inl (aJ tN))) := (fr_7 71 (by omega)).trans e6
            have e_15 : w_5 72 = .inl (gJ G, 700, .inr (.inl (aJ tD))) := (fr_7 72 (by omega)).trans e7
            have e_16 : w_5 73 = .inl (gJ G, 1400, .inr (.inl (aJ sN))) := (fr_7 73 (by omega)).trans e8
            have e_17 : w_5 74 = .inl (gJ G, 1400, .inr (.inl (aJ sD))) := (fr_7 74 (by omega)).trans e9
            refine lv_aload_n hx hb dX9_near_57 rfl (lv_at hl 0 rfl) ?_
            refine lv_iload_n hx hb dX9_near_58 rfl (lv_at hl 1 rfl) ?_
            refine f_put (v := .int (iN i)) (ty := .int) (C := RX9) (T := TX9) (N := 26) hx hb hts (by decide +kernel) tyX9 tyX9_ok nmX9 hown hK hP hS hAA 59 (by omega) e_8 rfl 19 (by decide) (hts (.fieldLink RX9 185 "KeptMovingModel" "one" "I") (by decide +kernel)) (fun _ h9 => h9) rfl (by decide +kernel) (rfl) (rfl) (Nat.le_of_ble_eq_true rfl) (rfl) dX9_near_59 (fun H locs hP hS => ?_)
            have hP : PW G (va_up w_5 59 (.inr (8, [.int (iN ((now : Nat) : Int)), .int (iN ((came : Nat) : Int)), .ref (gad G 60), .ref (gad G 61), .ref (gad G 62), .ref (gad G 63), .ref (gad G 64), .ref (gad G 65), .int (iN ((rm : Nat) : Int)), .int (iN ((mt : Nat) : Int)), .ref (gad G 66), .ref (gad G 67), .ref (gad G 68), .ref (gad G 69), .ref (gad G 70), .int (iN ((tm : Nat) : Int)), .ref (gad G 71), .ref (gad G 72), .int (iN 0), .int (iN i), .int (iN two), .long (jN lw), .long (jN hg), .int (iN ((sq : Nat) : Int)), .ref (gad G 73), .ref (gad G 74)]))) H := hP
            obtain ⟨w_18, hw_19⟩ : ∃ z : WF, z = va_up w_5 59 (.inr (8, [.int (iN ((now : Nat) : Int)), .int (iN ((came : Nat) : Int)), .ref (gad G 60), .ref (gad G 61), .ref (gad G 62), .ref (gad G 63), .ref (gad G 64), .ref (gad G 65), .int (iN ((rm : Nat) : Int)), .int (iN ((mt : Nat) : Int)), .ref (gad G 66), .ref (gad G 67), .ref (gad G 68), .ref (gad G 69), .ref (gad G 70), .int (iN ((tm : Nat) : Int)), .ref (gad G 71), .ref (gad G 72), .int (iN 0), .int (iN i), .int (iN two), .long (jN lw), .long (jN hg), .int (iN ((sq : Nat) : Int)), .ref (gad G 73), .ref (gad G 74)])) := ⟨_, rfl⟩
            rw [← hw_19] at hP
            have fr_20 : ∀ k : Nat, k ≠ 59 → w_18 k = w_5 k := fun k h => by rw [hw_19]; exact va_up_ne _ _ h
            have e_21 : w_18 59 = .inr (8, [.int (iN ((now : Nat) : Int)), .int (iN ((came : Nat) : Int)), .ref (gad G 60), .ref (gad G 61), .ref (gad G 62), .ref (gad G 63), .ref (gad G 64), .ref (gad G 65), .int (iN ((rm : Nat) : Int)), .int (iN ((mt : Nat) : Int)), .ref (gad G 66), .ref (gad G 67), .ref (gad G 68), .ref (gad G 69), .ref (gad G 70), .int (iN ((tm : Nat) : Int)), .ref (gad G 71), .ref (gad G 72), .int (iN 0), .int (iN i), .int (iN two), .long (jN lw), .long (jN hg), .int (iN ((sq : Nat) : Int)), .ref (gad G 73), .ref (gad G 74)]) := by rw [hw_19]; exact va_up_self _ _ _
            have e_22 : w_18 60 = .inl (gI G, 10, .inl (aN ga)) := (fr_20 60 (by omega)).trans e_9
            have e_23 : w_18 61 = .inl (gI G, 10, .inl (aN (pnI pn))) := (fr_20 61 (by omega)).trans e_10
            have e_24 : w_18 62 = .inl (gI G, 80, .inl (aN mbe)) := (fr_20 62 (by omega)).trans e_11
            have e_25 : w_18 63 = .inl (gI G, 80, .inl (aN mpl)) := (fr_20 63 (by omega)).trans e_12
            have e_26 : w_18 64 = .inl (gI G, 80, .inl (aN msp)) := (fr_20 64 (by omega)).trans e_13
            have e_27 : w_18 71 = .inl (gJ G, 700, .inr (.inl (aJ tN))) := (fr_20 71 (by omega)).trans e_14
            have e_28 : w_18 72 = .inl (gJ G, 700, .inr (.inl (aJ tD))) := (fr_20 72 (by omega)).trans e_15
            have e_29 : w_18 73 = .inl (gJ G, 1400, .inr (.inl (aJ sN))) := (fr_20 73 (by omega)).trans e_16
            have e_30 : w_18 74 = .inl (gJ G, 1400, .inr (.inl (aJ sD))) := (fr_20 74 (by omega)).trans e_17
            refine lv_aload_n hx hb dX9_near_62 rfl (lv_at hl 0 rfl) ?_
            refine lv_iload_n hx hb dX9_near_63 rfl (lv_at hl 2 rfl) ?_
            refine f_put (v := .int (iN j)) (ty := .int) (C := RX9) (T := TX9) (N := 26) hx hb hts (by decide +kernel) tyX9 tyX9_ok nmX9 hown hK hP hS hAA 59 (by omega) e_21 rfl 20 (by decide) (hts (.fieldLink RX9 188 "KeptMovingModel" "two" "I") (by decide +kernel)) (fun _ h9 => h9) rfl (by decide +kernel) (rfl) (rfl) (Nat.le_of_ble_eq_true rfl) (rfl) dX9_near_64 (fun H locs hP hS => ?_)
            have hP : PW G (va_up w_18 59 (.inr (8, [.int (iN ((now : Nat) : Int)), .int (iN ((came : Nat) : Int)), .ref (gad G 60), .ref (gad G 61), .ref (gad G 62), .ref (gad G 63), .ref (gad G 64), .ref (gad G 65), .int (iN ((rm : Nat) : Int)), .int (iN ((mt : Nat) : Int)), .ref (gad G 66), .ref (gad G 67), .ref (gad G 68), .ref (gad G 69), .ref (gad G 70), .int (iN ((tm : Nat) : Int)), .ref (gad G 71), .ref (gad G 72), .int (iN 0), .int (iN i), .int (iN j), .long (jN lw), .long (jN hg), .int (iN ((sq : Nat) : Int)), .ref (gad G 73), .ref (gad G 74)]))) H := hP
            obtain ⟨w_31, hw_32⟩ : ∃ z : WF, z = va_up w_18 59 (.inr (8, [.int (iN ((now : Nat) : Int)), .int (iN ((came : Nat) : Int)), .ref (gad G 60), .ref (gad G 61), .ref (gad G 62), .ref (gad G 63), .ref (gad G 64), .ref (gad G 65), .int (iN ((rm : Nat) : Int)), .int (iN ((mt : Nat) : Int)), .ref (gad G 66), .ref (gad G 67), .ref (gad G 68), .ref (gad G 69), .ref (gad G 70), .int (iN ((tm : Nat) : Int)), .ref (gad G 71), .ref (gad G 72), .int (iN 0), .int (iN i), .int (iN j), .long (jN lw), .long (jN hg), .int (iN ((sq : Nat) : Int)), .ref (gad G 73), .ref (gad G 74)])) := ⟨_, rfl⟩
            rw [← hw_32] at hP
            have fr_33 : ∀ k : Nat, k ≠ 59 → w_31 k = w_18 k := fun k h => by rw [hw_32]; exact va_up_ne _ _ h
            have e_34 : w_31 59 = .inr (8, [.int (iN ((now : Nat) : Int)), .int (iN ((came : Nat) : Int)), .ref (gad G 60), .ref (gad G 61), .ref (gad G 62), .ref (gad G 63), .ref (gad G 64), .ref (gad G 65), .int (iN ((rm : Nat) : Int)), .int (iN ((mt : Nat) : Int)), .ref (gad G 66), .ref (gad G 67), .ref (gad G 68), .ref (gad G 69), .ref (gad G 70), .int (iN ((tm : Nat) : Int)), .ref (gad G 71), .ref (gad G 72), .int (iN 0), .int (iN i), .int (iN j), .long (jN lw), .long (jN hg), .int (iN ((sq : Nat) : Int)), .ref (gad G 73), .ref (gad G 74)]) := by rw [hw_32]; exact va_up_self _ _ _
            have e_35 : w_31 60 = .inl (gI G, 10, .inl (aN ga)) := (fr_33 60 (by omega)).trans e_22
            have e_36 : w_31 61 = .inl (gI G, 10, .inl (aN (pnI pn))) := (fr_33 61 (by omega)).trans e_23
            have e_37 : w_31 62 = .inl (gI G, 80, .inl (aN mbe)) := (fr_33 62 (by omega)).trans e_24
            have e_38 : w_31 63 = .inl (gI G, 80, .inl (aN mpl)) := (fr_33 63 (by omega)).trans e_25
            have e_39 : w_31 64 = .inl (gI G, 80, .inl (aN msp)) := (fr_33 64 (by omega)).trans e_26
            have e_40 : w_31 71 = .inl (gJ G, 700, .inr (.inl (aJ tN))) := (fr_33 71 (by omega)).trans e_27
            have e_41 : w_31 72 = .inl (gJ G, 700, .inr (.inl (aJ tD))) := (fr_33 72 (by omega)).trans e_28
            have e_42 : w_31 73 = .inl (gJ G, 1400, .inr (.inl (aJ sN))) := (fr_33 73 (by omega)).trans e_29
            have e_43 : w_31 74 = .inl (gJ G, 1400, .inr (.inl (aJ sD))) := (fr_33 74 (by omega)).trans e_30
            refine lv_aload_n hx hb dX9_near_67 rfl (lv_at hl 0 rfl) ?_
            refine lv_iload_n hx hb dX9_near_68 rfl (lv_at hl 3 rfl) ?_
            refine n_i2l hx hb (by omega) (by omega) dX9_near_69 ?_
            refine f_put (v := .long (jN wd)) (ty := .long) (C := RX9) (T := TX9) (N := 26) hx hb hts (by decide +kernel) tyX9 tyX9_ok nmX9 hown hK hP hS hAA 59 (by omega) e_34 rfl 22 (by decide) (hts (.fieldLink RX9 191 "KeptMovingModel" "high" "J") (by decide +kernel)) (fun _ h9 => h9) rfl (by decide +kernel) (rfl) (rfl) (Nat.le_of_ble_eq_true rfl) (rfl) dX9_near_70 (fun H locs hP hS => ?_)
            have hP : PW G (va_up w_31 59 (.inr (8, [.int (iN ((now : Nat) : Int)), .int (iN ((came : Nat) : Int)), .ref (gad G 60), .ref (gad G 61), .ref (gad G 62), .ref (gad G 63), .ref (gad G 64), .ref (gad G 65), .int (iN ((rm : Nat) : Int)), .int (iN ((mt : Nat) : Int)), .ref (gad G 66), .ref (gad G 67), .ref (gad G 68), .ref (gad G 69), .ref (gad G 70), .int (iN ((tm : Nat) : Int)), .ref (gad G 71), .ref (gad G 72), .int (iN 0), .int (iN i), .int (iN j), .long (jN lw), .long (jN wd), .int (iN ((sq : Nat) : Int)), .ref (gad G 73), .ref (gad G 74)]))) H := hP
            obtain ⟨w_44, hw_45⟩ : ∃ z : WF, z = va_up w_31 59 (.inr (8, [.int (iN ((now : Nat) : Int)), .int (iN ((came : Nat) : Int)), .ref (gad G 60), .ref (gad G 61), .ref (gad G 62), .ref (gad G 63), .ref (gad G 64), .ref (gad G 65), .int (iN ((rm : Nat) : Int)), .int (iN ((mt : Nat) : Int)), .ref (gad G 66), .ref (gad G 67), .ref (gad G 68), .ref (gad G 69), .ref (gad G 70), .int (iN ((tm : Nat) : Int)), .ref (gad G 71), .ref (gad G 72), .int (iN 0), .int (iN i), .int (iN j), .long (jN lw), .long (jN wd), .int (iN ((sq : Nat) : Int)), .ref (gad G 73), .ref (gad G 74)])) := ⟨_, rfl⟩
            rw [← hw_45] at hP
            have fr_46 : ∀ k : Nat, k ≠ 59 → w_44 k = w_31 k := fun k h => by rw [hw_45]; exact va_up_ne _ _ h
            have e_47 : w_44 59 = .inr (8, [.int (iN ((now : Nat) : Int)), .int (iN ((came : Nat) : Int)), .ref (gad G 60), .ref (gad G 61), .ref (gad G 62), .ref (gad G 63), .ref (gad G 64), .ref (gad G 65), .int (iN ((rm : Nat) : Int)), .int (iN ((mt : Nat) : Int)), .ref (gad G 66), .ref (gad G 67), .ref (gad G 68), .ref (gad G 69), .ref (gad G 70), .int (iN ((tm : Nat) : Int)), .ref (gad G 71), .ref (gad G 72), .int (iN 0), .int (iN i), .int (iN j), .long (jN lw), .long (jN wd), .int (iN ((sq : Nat) : Int)), .ref (gad G 73), .ref (gad G 74)]) := by rw [hw_45]; exact va_up_self _ _ _
            have e_48 : w_44 60 = .inl (gI G, 10, .inl (aN ga)) := (fr_46 60 (by omega)).trans e_35
            have e_49 : w_44 61 = .inl (gI G, 10, .inl (aN (pnI pn))) := (fr_46 61 (by omega)).trans e_36
            have e_50 : w_44 62 = .inl (gI G, 80, .inl (aN mbe)) := (fr_46 62 (by omega)).trans e_37
            have e_51 : w_44 63 = .inl (gI G, 80, .inl (aN mpl)) := (fr_46 63 (by omega)).trans e_38
            have e_52 : w_44 64 = .inl (gI G, 80, .inl (aN msp)) := (fr_46 64 (by omega)).trans e_39
            have e_53 : w_44 71 = .inl (gJ G, 700, .inr (.inl (aJ tN))) := (fr_46 71 (by omega)).trans e_40
            have e_54 : w_44 72 = .inl (gJ G, 700, .inr (.inl (aJ tD))) := (fr_46 72 (by omega)).trans e_41
            have e_55 : w_44 73 = .inl (gJ G, 1400, .inr (.inl (aJ sN))) := (fr_46 73 (by omega)).trans e_42
            have e_56 : w_44 74 = .inl (gJ G, 1400, .inr (.inl (aJ sD))) := (fr_46 74 (by omega)).trans e_43
            refine lv_aload_n hx hb dX9_near_73 rfl (lv_at hl 0 rfl) ?_
            refine lv_iload hx hb dX9_near_74 (lv_at hl 4 rfl) ?_
            refine f_callv (W.runV (As := [.int (iN en)]) (rest := []) ⟨hx, hb, hml, hown, hts⟩ (c_X9_beginTimes l G w_44 now came rm mt tm (0 : Int) i j lw wd sq ga pn mbe mpl msp tN tD en e_47 e_48 e_49 e_50 e_51 e_52 e_53 e_54 (p0) (by omega)) (cwV 1 hts gX9_near_X9_beginTimes rfl rfl rfl (by decide +kernel) ⟨Nat.le_of_ble_eq_true rfl, Nat.le_of_ble_eq_true rfl⟩) (f_preV hP hK 59 (by omega) 8 e_47 rfl) rfl rfl hl.1 rfl (lv_room (Nat.le_of_ble_eq_true rfl)) dX9_near_76 ⟨Nat.zero_le _, Nat.zero_le _⟩) hS hAA (fun w_57 H locs q_58 hP hS => ?_)
            obtain ⟨tm2_59, tN2_60, tD2_61, fr_62, e_63, e_64, e_65, q_66⟩ := q_58
            have e_67 : w_57 60 = .inl (gI G, 10, .inl (aN ga)) := (fr_62 60 (by omega) (by omega) (by omega)).trans e_48
            have e_68 : w_57 61 = .inl (gI G, 10, .inl (aN (pnI pn))) := (fr_62 61 (by omega) (by omega) (by omega)).trans e_49
            have e_69 : w_57 62 = .inl (gI G, 80, .inl (aN mbe)) := (fr_62 62 (by omega) (by omega) (by omega)).trans e_50
            have e_70 : w_57 63 = .inl (gI G, 80, .inl (aN mpl)) := (fr_62 63 (by omega) (by omega) (by omega)).trans e_51
            have e_71 : w_57 64 = .inl (gI G, 80, .inl (aN msp)) := (fr_62 64 (by omega) (by omega) (by omega)).trans e_52
            have e_72 : w_57 73 = .inl (gJ G, 1400, .inr (.inl (aJ sN))) := (fr_62 73 (by omega) (by omega) (by omega)).trans e_55
            have e_73 : w_57 74 = .inl (gJ G, 1400, .inr (.inl (aJ sD))) := (fr_62 74 (by omega) (by omega) (by omega)).trans e_56
            have e_74 : w_57 59 = .inr (8, [.int (iN ((now : Nat) : Int)), .int (iN ((came : Nat) : Int)), .ref (gad G 60), .ref (gad G 61), .ref (gad G 62), .ref (gad G 63), .ref (gad G 64), .ref (gad G 65), .int (iN ((rm : Nat) : Int)), .int (iN ((mt : Nat) : Int)), .ref (gad G 66), .ref (gad G 67), .ref (gad G 68), .ref (gad G 69), .ref (gad G 70), .int (iN ((tm2_59 : Nat) : Int)), .ref (gad G 71), .ref (gad G 72), .int (iN (0 : Int)), .int (iN i), .int (iN j), .long (jN lw), .long (jN wd), .int (iN ((sq : Nat) : Int)), .ref (gad G 73), .ref (gad G 74)]) := e_63
            have e_75 : w_57 71 = .inl (gJ G, 700, .inr (.inl (aJ tN2_60))) := e_64
            have e_76 : w_57 72 = .inl (gJ G, 700, .inr (.inl (aJ tD2_61))) := e_65
            have hl1 := btI_len (S := (rw8 mbe, rw8 mpl, rw8 msp, pn, ga)) (en := en) hn8 came (Nat.le_refl _)
            have hl2 := apP_len (S := (rw8 mbe, rw8 mpl, rw8 msp, pn, ga)) (en := en) (w0 := wd) (i := i.toNat) (L := btI (rw8 mbe, rw8 mpl, rw8 msp, pn, ga) en came) (hn8 j.toNat (by omega)) (pn i.toNat)
            have hl3 := apP_len (S := (rw8 mbe, rw8 mpl, rw8 msp, pn, ga)) (en := en) (w0 := -wd) (i := i.toNat) (L := apP (rw8 mbe, rw8 mpl, rw8 msp, pn, ga) en wd i.toNat j.toNat (pn i.toNat) (btI (rw8 mbe, rw8 mpl, rw8 msp, pn, ga) en came)) (hn8 j.toNat (by omega)) (pn i.toNat)
            have hni := hn8 i.toNat (by omega)
            refine lv_aload_n hx hb dX9_near_79 rfl (lv_at hl 0 rfl) ?_
            refine lv_iload_n hx hb dX9_near_80 rfl (lv_at hl 1 rfl) ?_
            refine n_top (A := i) (B := ((i.toNat : Nat) : Int)) (by omega) ?_
            refine lv_iload_n hx hb dX9_near_81 rfl (lv_at hl 2 rfl) ?_
            refine n_top (A := j) (B := ((j.toNat : Nat) : Int)) (by omega) ?_
            refine lv_iload_n hx hb dX9_near_82 rfl (lv_at hl 3 rfl) ?_
            refine n_i2l hx hb (by omega) (by omega) dX9_near_83 ?_
            refine lv_iload hx hb dX9_near_84 (lv_at hl 4 rfl) ?_
            refine f_callv (W.runV (As := [.int (iN ((i.toNat : Nat) : Int)), .int (iN ((j.toNat : Nat) : Int)), .long (jN wd), .int (iN en)]) (rest := []) ⟨hx, hb, hml, hown, hts⟩ (c_X9_addApart l G w_57 (btI (rw8 mbe, rw8 mpl, rw8 msp, pn, ga) en came) now came rm mt tm2_59 (0 : Int) i j lw wd sq ga pn mbe mpl msp tN2_60 tD2_61 i.toNat j.toNat wd en e_74 e_67 e_68 e_69 e_70 e_71 e_75 e_76 (p0) (by omega) (by omega) (q_66) (by omega) (by omega) (by omega)) (cwV 4 hts gX9_near_X9_addApart rfl rfl rfl (by decide +kernel) ⟨Nat.le_of_ble_eq_true rfl, Nat.le_of_ble_eq_true rfl⟩) (f_preV hP hK 59 (by omega) 8 e_74 rfl) rfl rfl hl.1 rfl (lv_room (Nat.le_of_ble_eq_true rfl)) dX9_near_86 ⟨Nat.zero_le _, Nat.zero_le _⟩) hS hAA (fun w_77 H locs q_78 hP hS => ?_)
            obtain ⟨tm2_79, tN2_80, tD2_81, fr_82, e_83, e_84, e_85, q_86⟩ := q_78
            have e_87 : w_77 60 = .inl (gI G, 10, .inl (aN ga)) := (fr_82 60 (by omega) (by omega) (by omega)).trans e_67
            have e_88 : w_77 61 = .inl (gI G, 10, .inl (aN (pnI pn))) := (fr_82 61 (by omega) (by omega) (by omega)).trans e_68
            have e_89 : w_77 62 = .inl (gI G, 80, .inl (aN mbe)) := (fr_82 62 (by omega) (by omega) (by omega)).trans e_69
            have e_90 : w_77 63 = .inl (gI G, 80, .inl (aN mpl)) := (fr_82 63 (by omega) (by omega) (by omega)).trans e_70
            have e_91 : w_77 64 = .inl (gI G, 80, .inl (aN msp)) := (fr_82 64 (by omega) (by omega) (by omega)).trans e_71
            have e_92 : w_77 73 = .inl (gJ G, 1400, .inr (.inl (aJ sN))) := (fr_82 73 (by omega) (by omega) (by omega)).trans e_72
            have e_93 : w_77 74 = .inl (gJ G, 1400, .inr (.inl (aJ sD))) := (fr_82 74 (by omega) (by omega) (by omega)).trans e_73
            have e_94 : w_77 59 = .inr (8, [.int (iN ((now : Nat) : Int)), .int (iN ((came : Nat) : Int)), .ref (gad G 60), .ref (gad G 61), .ref (gad G 62), .ref (gad G 63), .ref (gad G 64), .ref (gad G 65), .int (iN ((rm : Nat) : Int)), .int (iN ((mt : Nat) : Int)), .ref (gad G 66), .ref (gad G 67), .ref (gad G 68), .ref (gad G 69), .ref (gad G 70), .int (iN ((tm2_79 : Nat) : Int)), .ref (gad G 71), .ref (gad G 72), .int (iN (0 : Int)), .int (iN i), .int (iN j), .long (jN lw), .long (jN wd), .int (iN ((sq : Nat) : Int)), .ref (gad G 73), .ref (gad G 74)]) := e_83
            have e_95 : w_77 71 = .inl (gJ G, 700, .inr (.inl (aJ tN2_80))) := e_84
            have e_96 : w_77 72 = .inl (gJ G, 700, .inr (.inl (aJ tD2_81))) := e_85
            refine lv_aload_n hx hb dX9_near_89 rfl (lv_at hl 0 rfl) ?_
            refine lv_iload_n hx hb dX9_near_90 rfl (lv_at hl 1 rfl) ?_
            refine n_top (A := i) (B := ((i.toNat : Nat) : Int)) (by omega) ?_
            refine lv_iload_n hx hb dX9_near_91 rfl (lv_at hl 2 rfl) ?_
            refine n_top (A := j) (B := ((j.toNat : Nat) : Int)) (by omega) ?_
            refine lv_iload_n hx hb dX9_near_92 rfl (lv_at hl 3 rfl) ?_
            refine n_ineg hx hb dX9_near_93 ?_
            refine n_i2l hx hb (by omega) (by omega) dX9_near_94 ?_
            refine lv_iload hx hb dX9_near_95 (lv_at hl 4 rfl) ?_
            refine f_callv (W.runV (As := [.int (iN ((i.toNat : Nat) : Int)), .int (iN ((j.toNat : Nat) : Int)), .long (jN (-wd)), .int (iN en)]) (rest := []) ⟨hx, hb, hml, hown, hts⟩ (c_X9_addApart l G w_77 (apP (rw8 mbe, rw8 mpl, rw8 msp, pn, ga) en wd i.toNat j.toNat (pn i.toNat) (btI (rw8 mbe, rw8 mpl, rw8 msp, pn, ga) en came)) now came rm mt tm2_79 (0 : Int) i j lw wd sq ga pn mbe mpl msp tN2_80 tD2_81 i.toNat j.toNat (-wd) en e_94 e_87 e_88 e_89 e_90 e_91 e_95 e_96 (p0) (by omega) (by omega) (q_86) (by omega) (by omega) (by omega)) (cwV 4 hts gX9_near_X9_addApart rfl rfl rfl (by decide +kernel) ⟨Nat.le_of_ble_eq_true rfl, Nat.le_of_ble_eq_true rfl⟩) (f_preV hP hK 59 (by omega) 8 e_94 rfl) rfl rfl hl.1 rfl (lv_room (Nat.le_of_ble_eq_true rfl)) dX9_near_97 ⟨Nat.zero_le _, Nat.zero_le _⟩) hS hAA (fun w_97 H locs q_98 hP hS => ?_)
            obtain ⟨tm2_99, tN2_100, tD2_101, fr_102, e_103, e_104, e_105, q_106⟩ := q_98
            have e_107 : w_97 60 = .inl (gI G, 10, .inl (aN ga)) := (fr_102 60 (by omega) (by omega) (by omega)).trans e_87
            have e_108 : w_97 61 = .inl (gI G, 10, .inl (aN (pnI pn))) := (fr_102 61 (by omega) (by omega) (by omega)).trans e_88
            have e_109 : w_97 62 = .inl (gI G, 80, .inl (aN mbe)) := (fr_102 62 (by omega) (by omega) (by omega)).trans e_89
            have e_110 : w_97 63 = .inl (gI G, 80, .inl (aN mpl)) := (fr_102 63 (by omega) (by omega) (by omega)).trans e_90
            have e_111 : w_97 64 = .inl (gI G, 80, .inl (aN msp)) := (fr_102 64 (by omega) (by omega) (by omega)).trans e_91
            have e_112 : w_97 73 = .inl (gJ G, 1400, .inr (.inl (aJ sN))) := (fr_102 73 (by omega) (by omega) (by omega)).trans e_92
            have e_113 : w_97 74 = .inl (gJ G, 1400, .inr (.inl (aJ sD))) := (fr_102 74 (by omega) (by omega) (by omega)).trans e_93
            have e_114 : w_97 59 = .inr (8, [.int (iN ((now : Nat) : Int)), .int (iN ((came : Nat) : Int)), .ref (gad G 60), .ref (gad G 61), .ref (gad G 62), .ref (gad G 63), .ref (gad G 64), .ref (gad G 65), .int (iN ((rm : Nat) : Int)), .int (iN ((mt : Nat) : Int)), .ref (gad G 66), .ref (gad G 67), .ref (gad G 68), .ref (gad G 69), .ref (gad G 70), .int (iN ((tm2_99 : Nat) : Int)), .ref (gad G 71), .ref (gad G 72), .int (iN (0 : Int)), .int (iN i), .int (iN j), .long (jN lw), .long (jN wd), .int (iN ((sq : Nat) : Int)), .ref (gad G 73), .ref (gad G 74)]) := e_103
            have e_115 : w_97 71 = .inl (gJ G, 700, .inr (.inl (aJ tN2_100))) := e_104
            have e_116 : w_97 72 = .inl (gJ G, 700, .inr (.inl (aJ tD2_101))) := e_105
            refine lv_aload_n hx hb dX9_near_100 rfl (lv_at hl 0 rfl) ?_
            refine lv_iload hx hb dX9_near_101 (lv_at hl 5 rfl) ?_
            refine lv_iload hx hb dX9_near_103 (lv_at hl 6 rfl) ?_
            refine f_calli (W.runV (As := [.int (iN k), .int (iN wh)]) (rest := []) ⟨hx, hb, hml, hown, hts⟩ (c_X9_findSpans l G w_97 (apP (rw8 mbe, rw8 mpl, rw8 msp, pn, ga) en (-wd) i.toNat j.toNat (pn i.toNat) (apP (rw8 mbe, rw8 mpl, rw8 msp, pn, ga) en wd i.toNat j.toNat (pn i.toNat) (btI (rw8 mbe, rw8 mpl, rw8 msp, pn, ga) en came))) now came rm mt tm2_99 (0 : Int) i j lw wd sq ga pn mbe mpl msp tN2_100 tD2_101 sN sD k wh e_114 e_107 e_108 e_109 e_110 e_111 e_115 e_116 e_112 e_113 (p0) (q_106) (by omega) (by omega) (by omega) (by omega) (by omega) (by omega) (by omega) (p7) (by omega)) (cwV 2 hts gX9_near_X9_findSpans rfl rfl rfl (by decide +kernel) ⟨Nat.le_of_ble_eq_true rfl, Nat.le_of_ble_eq_true rfl⟩) (f_preV hP hK 59 (by omega) 8 e_114 rfl) rfl rfl hl.1 rfl (lv_room (Nat.le_of_ble_eq_true rfl)) dX9_near_105 ⟨Nat.zero_le _, Nat.zero_le _⟩) hS hAA (fun r_126 w_117 H locs q_118 hP hS => ?_)
            obtain ⟨hr_127, q_118⟩ := q_118
            obtain ⟨sq2_119, sN2_120, sD2_121, fr_122, e_123, e_124, e_125⟩ := q_118
            have e_128 : w_117 60 = .inl (gI G, 10, .inl (aN ga)) := (fr_122 60 (by omega) (by omega) (by omega)).trans e_107
            have e_129 : w_117 61 = .inl (gI G, 10, .inl (aN (pnI pn))) := (fr_122 61 (by omega) (by omega) (by omega)).trans e_108
            have e_130 : w_117 62 = .inl (gI G, 80, .inl (aN mbe)) := (fr_122 62 (by omega) (by omega) (by omega)).trans e_109
            have e_131 : w_117 63 = .inl (gI G, 80, .inl (aN mpl)) := (fr_122 63 (by omega) (by omega) (by omega)).trans e_110
            have e_132 : w_117 64 = .inl (gI G, 80, .inl (aN msp)) := (fr_122 64 (by omega) (by omega) (by omega)).trans e_111
            have e_133 : w_117 71 = .inl (gJ G, 700, .inr (.inl (aJ tN2_100))) := (fr_122 71 (by omega) (by omega) (by omega)).trans e_115
            have e_134 : w_117 72 = .inl (gJ G, 700, .inr (.inl (aJ tD2_101))) := (fr_122 72 (by omega) (by omega) (by omega)).trans e_116
            have e_135 : w_117 59 = .inr (8, [.int (iN ((now : Nat) : Int)), .int (iN ((came : Nat) : Int)), .ref (gad G 60), .ref (gad G 61), .ref (gad G 62), .ref (gad G 63), .ref (gad G 64), .ref (gad G 65), .int (iN ((rm : Nat) : Int)), .int (iN ((mt : Nat) : Int)), .ref (gad G 66), .ref (gad G 67), .ref (gad G 68), .ref (gad G 69), .ref (gad G 70), .int (iN ((tm2_99 : Nat) : Int)), .ref (gad G 71), .ref (gad G 72), .int (iN (0 : Int)), .int (iN i), .int (iN j), .long (jN lw), .long (jN wd), .int (iN ((sq2_119 : Nat) : Int)), .ref (gad G 73), .ref (gad G 74)]) := e_123
            have e_136 : w_117 73 = .inl (gJ G, 1400, .inr (.inl (aJ sN2_120))) := e_124
            have e_137 : w_117 74 = .inl (gJ G, 1400, .inr (.inl (aJ sD2_121))) := e_125
            rw [show r_126 = iN (ansW (fsG (soX (rw8 mbe, rw8 mpl, rw8 msp, pn, ga) came (0 : Int) i j lw wd) ((apP (rw8 mbe, rw8 mpl, rw8 msp, pn, ga) en (-wd) i.toNat j.toNat (pn i.toNat) (apP (rw8 mbe, rw8 mpl, rw8 msp, pn, ga) en wd i.toNat j.toNat (pn i.toNat) (btI (rw8 mbe, rw8 mpl, rw8 msp, pn, ga) en came))))) k wh) from hr_127]
            exact r_i hx hb hr dX9_near_108 hlocks hP hS ⟨(congrArg iN (by rw [if_pos (show (0 ≤ i ∧ i ≤ (came : Int) - 1) ∧ 0 ≤ j ∧ j ≤ (came : Int) - 1 by omega), if_pos (show (0 ≤ wd ∧ wd ≤ 2000) ∧ (1 ≤ en ∧ en ≤ 600) ∧ 0 ≤ wh ∧ wh ≤ 3 by omega), if_neg (show ¬ i = j by omega)])), tm2_99, tN2_100, tD2_101, sq2_119, sN2_120, sD2_121, ((0 : Int)), (i), (j), (lw), (wd), (fun k h0 h1 h2 h3 h4 => ((((((((((((((fr_122 k (by omega) (by omega) (by omega)).trans (fr_102 k (by omega) (by omega) (by omega)))).trans (fr_82 k (by omega) (by omega) (by omega)))).trans (fr_62 k (by omega) (by omega) (by omega)))).trans (fr_46 k (by omega)))).trans (fr_33 k (by omega)))).trans (fr_20 k (by omega)))).trans (fr_7 k (by omega)))), e_135, e_133, e_134, e_136, e_137, (by omega), (by omega)⟩
          · refine n_ldc (z := (-100003)) hx hb hown (hts (.constant RX9 83 (-100003)) (by decide +kernel)) (by decide) dX9_near_49 ?_
            exact r_i hx hb hr dX9_near_51 hlocks hP hS ⟨(show iN (-100003) = iN _ by rw [if_pos (show (0 ≤ i ∧ i ≤ (came : Int) - 1) ∧ 0 ≤ j ∧ j ≤ (came : Int) - 1 by omega), if_pos (show (0 ≤ wd ∧ wd ≤ 2000) ∧ (1 ≤ en ∧ en ≤ 600) ∧ 0 ≤ wh ∧ wh ≤ 3 by omega), if_pos (show i = j by omega)]), tm, tN, tD, sq, sN, sD, (thg), (onn), (two), (lw), (hg), (fun k _ _ _ _ _ => rfl), e0, e6, e7, e8, e9, (by omega), (by omega)⟩
        · refine n_ldc (z := (-100002)) hx hb hown (hts (.constant RX9 73 (-100002)) (by decide +kernel)) (by decide) dX9_near_41 ?_
          exact r_i hx hb hr dX9_near_43 hlocks hP hS ⟨(show iN (-100002) = iN _ by rw [if_pos (show (0 ≤ i ∧ i ≤ (came : Int) - 1) ∧ 0 ≤ j ∧ j ≤ (came : Int) - 1 by omega), if_neg (show ¬ ((0 ≤ wd ∧ wd ≤ 2000) ∧ (1 ≤ en ∧ en ≤ 600) ∧ 0 ≤ wh ∧ wh ≤ 3) by omega)]), tm, tN, tD, sq, sN, sD, (thg), (onn), (two), (lw), (hg), (fun k _ _ _ _ _ => rfl), e0, e6, e7, e8, e9, (by omega), (by omega)⟩
    · refine n_ldc (z := (-100001)) hx hb hown (hts (.constant RX9 82 (-100001)) (by decide +kernel)) (by decide) dX9_near_16 ?_
      exact r_i hx hb hr dX9_near_18 hlocks hP hS ⟨(show iN (-100001) = iN _ by rw [if_neg (show ¬ ((0 ≤ i ∧ i ≤ (came : Int) - 1) ∧ 0 ≤ j ∧ j ≤ (came : Int) - 1) by omega)]), tm, tN, tD, sq, sN, sD, (thg), (onn), (two), (lw), (hg), (fun k _ _ _ _ _ => rfl), e0, e6, e7, e8, e9, (by omega), (by omega)⟩

def fpT (S : FS) (en : Int) (o came : Nat) : Nat → List TM
  | 0 => btI S en came
  | j + 1 => if j = o then fpT S en o came j else apP S en 0 o j (S.2.2.2.1 o) (fpT S en o came j)
theorem fpT_len {S : FS} {en : Int} {o came : Nat} (hn : ∀ i, i < came → S.2.2.2.1 i ≤ 8) (ho : o < came) : ∀ j, j ≤ came → (fpT S en o came j).length ≤ 2 + 9 * came + 64 * (if o < j then j - 1 else j)
  | 0, _ => by
    have := btI_len (en := en) hn came (Nat.le_refl _)
    unfold fpT
    omega
  | j + 1, hj => by
    have h1 := fpT_len (en := en) hn ho j (by omega)
    have h2 := apP_len (S := S) (en := en) (w0 := 0) (i := o) (L := fpT S en o came j) (hn j (by omega)) (S.2.2.2.1 o)
    have h3 := hn o ho
    unfold fpT
    by_cases hjo : j = o
    · rw [if_pos hjo, if_pos (by omega)]
      rw [if_neg (by omega)] at h1
      omega
    · rw [if_neg hjo]
      by_cases hoj : o < j
      · rw [if_pos hoj] at h1
        rw [if_pos (by omega)]
        omega
      · rw [if_neg hoj] at h1
        rw [if_neg (by omega)]
        omega
theorem fpT_b {S : FS} {en : Int} {o came : Nat} (hn : ∀ i, i < came → S.2.2.2.1 i ≤ 8) (hc : came ≤ 10) (ho : o < came) {j : Nat} (hj : j < came) (hjo : ¬ o = j) : (fpT S en o came j).length ≤ 630 := by
  have h := fpT_len (en := en) hn ho j (by omega)
  by_cases z : o < j
  · rw [if_pos z] at h
    omega
  · rw [if_neg z] at h
    omega
theorem fpT_e {S : FS} {en : Int} {o came : Nat} (hn : ∀ i, i < came → S.2.2.2.1 i ≤ 8) (hc : came ≤ 10) (ho : o < came) : (fpT S en o came came).length ≤ 700 := by
  have h := fpT_len (en := en) hn ho came (Nat.le_refl _)
  rw [if_pos ho] at h
  omega
def wiT (S : FS) (en x0 x1 : Int) (came : Nat) : Nat → List TM
  | 0 => btI S en came
  | i + 1 => atL S en x1 i (S.2.2.2.1 i) (atL S en x0 i (S.2.2.2.1 i) (wiT S en x0 x1 came i))
theorem wiT_len {S : FS} {en x0 x1 : Int} {came : Nat} (hn : ∀ i, i < came → S.2.2.2.1 i ≤ 8) : ∀ i, i ≤ came → (wiT S en x0 x1 came i).length ≤ 2 + 9 * came + 16 * i
  | 0, _ => by
    have := btI_len (en := en) hn came (Nat.le_refl _)
    unfold wiT
    omega
  | i + 1, hi => by
    have h1 := wiT_len (en := en) (x0 := x0) (x1 := x1) hn i (by omega)
    have h2 := atL_len S en x0 i (wiT S en x0 x1 came i) (S.2.2.2.1 i)
    have h3 := atL_len S en x1 i (atL S en x0 i (S.2.2.2.1 i) (wiT S en x0 x1 came i)) (S.2.2.2.1 i)
    have h4 := hn i (by omega)
    unfold wiT
    omega

set_option maxHeartbeats 4000000 in
set_option maxRecDepth 100000 in
theorem c_X9_first (l : Launch) (G : GE) (w : WF) (now : Nat) (came : Nat) (rm : Nat) (mt : Nat) (tm : Nat) (thg : Int) (onn : Int) (two : Int) (lw : Int) (hg : Int) (sq : Nat) (ga : Nat → Int) (pn : Nat → Nat) (mbe : Nat → Int) (mpl : Nat → Int) (msp : Nat → Int) (tN : Nat → Int) (tD : Nat → Int) (sN : Nat → Int) (sD : Nat → Int) (i : Int) (en : Int) (k : Int) (wh : Int) (e0 : w 59 = .inr (8, [.int (iN ((now : Nat) : Int)), .int (iN ((came : Nat) : Int)), .ref (gad G 60), .ref (gad G 61), .ref (gad G 62), .ref (gad G 63), .ref (gad G 64), .ref (gad G 65), .int (iN ((rm : Nat) : Int)), .int (iN ((mt : Nat) : Int)), .ref (gad G 66), .ref (gad G 67), .ref (gad G 68), .ref (gad G 69), .ref (gad G 70), .int (iN ((tm : Nat) : Int)), .ref (gad G 71), .ref (gad G 72), .int (iN thg), .int (iN onn), .int (iN two), .long (jN lw), .long (jN hg), .int (iN ((sq : Nat) : Int)), .ref (gad G 73), .ref (gad G 74)])) (e1 : w 60 = .inl (gI G, 10, .inl (aN ga))) (e2 : w 61 = .inl (gI G, 10, .inl (aN (pnI pn)))) (e3 : w 62 = .inl (gI G, 80, .inl (aN mbe))) (e4 : w 63 = .inl (gI G, 80, .inl (aN mpl))) (e5 : w 64 = .inl (gI G, 80, .inl (aN msp))) (e6 : w 71 = .inl (gJ G, 700, .inr (.inl (aJ tN)))) (e7 : w 72 = .inl (gJ G, 700, .inr (.inl (aJ tD)))) (e8 : w 73 = .inl (gJ G, 1400, .inr (.inl (aJ sN)))) (e9 : w 74 = .inl (gJ G, 1400, .inr (.inl (aJ sD)))) (p0 : OKS came (rw8 mbe) (rw8 mpl) (rw8 msp) pn ga) (p1 : -60000 ≤ lw ∧ lw ≤ 60000) (p2 : -60000 ≤ hg ∧ hg ≤ 60000) (p3 : -2147483648 ≤ i ∧ i < 2147483648) (p4 : -2147483648 ≤ en ∧ en < 2147483648) (p5 : -2147483648 ≤ k ∧ k < 2147483648) (p6 : -2147483648 ≤ wh ∧ wh < 2147483648) : Met l yX9_first wsX9_first ({ frames := 4, cells := 0, slots := 0, locals := 103 }) (PcG G w [.ref (gad G 59), .int (iN i), .int (iN en), .int (iN k), .int (iN wh)]) (QI G (fun r w1 => r = iN (if 0 ≤ i ∧ i ≤ (came : Int) - 1 then (if (1 ≤ en ∧ en ≤ 600) ∧ 0 ≤ wh ∧ wh ≤ 3 then ansW (fsG (fun n d => fiR (rw8 mbe, rw8 mpl, rw8 msp, pn, ga) i.toNat n d came) (fpT (rw8 mbe, rw8 mpl, rw8 msp, pn, ga) en i.toNat came came)) k wh else -100002) else -100001) ∧ ∃ (tm2 : Nat) (tN2 : Nat → Int) (tD2 : Nat → Int) (sq2 : Nat) (sN2 : Nat → Int) (sD2 : Nat → Int) (thg2 : Int) (onn2 : Int) (two2 : Int) (lw2 : Int) (hg2 : Int), (∀ k : Nat, k ≠ 59 → k ≠ 71 → k ≠ 72 → k ≠ 73 → k ≠ 74 → w1 k = w k) ∧ w1 59 = .inr (8, [.int (iN ((now : Nat) : Int)), .int (iN ((came : Nat) : Int)), .ref (gad G 60), .ref (gad G 61), .ref (gad G 62), .ref (gad G 63), .ref (gad G 64), .ref (gad G 65), .int (iN ((rm : Nat) : Int)), .int (iN ((mt : Nat) : Int)), .ref (gad G 66), .ref (gad G 67), .ref (gad G 68), .ref (gad G 69), .ref (gad G 70), .int (iN ((tm2 : Nat) : Int)), .ref (gad G 71), .ref (gad G 72), .int (iN thg2), .int (iN onn2), .int (iN two2), .long (jN lw2), .long (jN hg2), .int (iN ((sq2 : Nat) : Int)), .ref (gad G 73), .ref (gad G 74)]) ∧ w1 71 = .inl (gJ G, 700, .inr (.inl (aJ tN2))) ∧ w1 72 = .inl (gJ G, 700, .inr (.inl (aJ tD2))) ∧ w1 73 = .inl (gJ G, 1400, .inr (.inl (aJ sN2))) ∧ w1 74 = .inl (gJ G, 1400, .inr (.inl (aJ sD2))) ∧ (-60000 ≤ lw2 ∧ lw2 ≤ 60000) ∧ (-60000 ≤ hg2 ∧ hg2 ≤ 60000))) 0 0 (AA G) := by
  refine Met.ofW (cc := cX9_first) (maxL := 6) (ret := (some .int)) (by decide) rfl ?_
  intro p e s m args below meth c s₁ B hml hv
  obtain ⟨rfl, hP, hK⟩ := hv
  have hx := B.exec
  have hb := B.bytes
  have hr := B.returns
  have hts := atoms_spec (ws := wsX9_first) B.pre
  have hown : s.vm.findClass RX9 = some m.cls := findClass_of_methodNamed B.named
  have hlocks := B.notSynchronized
  have hS : va_S (AA G) s.heap s.heap [] := va_S.rf
  have hAA : ∀ q, AA G q → AA G q := fun _ h => h
  have hl := lv_entry ([.ref (gad G 59), .int (iN i), .int (iN en), .int (iN k), .int (iN wh)]) (n := 6) (Nat.le_of_ble_eq_true rfl)
  rw [lg_entry_eq]
  generalize (lg_sl ([.ref (gad G 59), .int (iN i), .int (iN en), .int (iN k), .int (iN wh)]) ++ List.replicate (6 - (lg_sl ([.ref (gad G 59), .int (iN i), .int (iN en), .int (iN k), .int (iN wh)])).length) Slot.unset).toArray = ls at hl ⊢
  have hl : lv_has ls 6 [(0, .ref (gad G 59)), (1, .int (iN i)), (2, .int (iN en)), (3, .int (iN k)), (4, .int (iN wh))] := hl
  have hc10 : came ≤ 10 := p0.1
  have hn8 : ∀ i, i < came → pn i ≤ 8 := fun i hi => (p0.2 i hi).1.2
  refine lv_aload_n hx hb dX9_first_0 rfl (lv_at hl 0 rfl) ?_
  refine lv_iload_n hx hb dX9_first_1 rfl (lv_at hl 1 rfl) ?_
  refine vp_callSi (W.runV (As := [.int (iN i)]) (rest := []) ⟨hx, hb, hml, hown, hts⟩ (c_X9_isPoint l G w now came rm mt tm thg onn two lw hg sq i e0 (p3) (hc10)) (cwV 1 hts gX9_first_X9_isPoint rfl rfl rfl (by decide +kernel) ⟨Nat.le_of_ble_eq_true rfl, Nat.le_of_ble_eq_true rfl⟩) (f_preV hP hK 59 (by omega) 8 e0 rfl) rfl rfl hl.1 rfl (lv_room (Nat.le_of_ble_eq_true rfl)) dX9_first_2 ⟨Nat.zero_le _, Nat.zero_le _⟩) (fun r_1 hr_1 => ?_)
  rw [show r_1 = iN (if (0 ≤ i ∧ i ≤ ((came : Nat) : Int) - 1) then 1 else 0) from hr_1]
  refine n_ifb_ne (tgt := 11) hx hb dX9_first_5 (by decide) (fun c_5 => ?_) (fun c_5 => ?_)
  · refine lv_iload_n hx hb dX9_first_11 rfl (lv_at hl 2 rfl) ?_
    refine lv_iload hx hb dX9_first_12 (lv_at hl 4 rfl) ?_
    refine vp_callSi (W.runS (As := [.int (iN en), .int (iN wh)]) (rest := []) ⟨hx, hb, hml, hown, hts⟩ (c_X9_isAsked l en wh (p4) (p6)) (va_cwS 2 hts gX9_first_X9_isAsked rfl rfl rfl (by decide +kernel) ⟨Nat.le_of_ble_eq_true rfl, Nat.le_of_ble_eq_true rfl⟩) ⟨fun _ _ _ _ q => q, fun _ _ _ => rfl⟩ rfl rfl hl.1 rfl (lv_room (Nat.le_of_ble_eq_true rfl)) dX9_first_14 ⟨Nat.zero_le _, Nat.zero_le _⟩) (fun r_2 hr_2 => ?_)
    rw [show r_2 = iN (if (1 ≤ en ∧ en ≤ 600) ∧ 0 ≤ wh ∧ wh ≤ 3 then 1 else 0) from hr_2]
    refine n_ifb_ne (tgt := 23) hx hb dX9_first_17 (by decide) (fun c_17 => ?_) (fun c_17 => ?_)
    · refine lv_aload_n hx hb dX9_first_23 rfl (lv_at hl 0 rfl) ?_
      refine n_iconst hx hb dX9_first_24 ?_
      refine f_put (v := .int (iN 1)) (ty := .int) (C := RX9) (T := TX9) (N := 26) hx hb hts (by decide +kernel) tyX9 tyX9_ok nmX9 hown hK hP hS hAA 59 (by omega) e0 rfl 18 (by decide) (hts (.fieldLink RX9 182 "KeptMovingModel" "thing" "I") (by decide +kernel)) (fun _ h9 => h9) rfl (by decide +kernel) (rfl) (rfl) (Nat.le_of_ble_eq_true rfl) (rfl) dX9_first_25 (fun H locs hP hS => ?_)
      have hP : PW G (va_up w 59 (.inr (8, [.int (iN ((now : Nat) : Int)), .int (iN ((came : Nat) : Int)), .ref (gad G 60), .ref (gad G 61), .ref (gad G 62), .ref (gad G 63), .ref (gad G 64), .ref (gad G 65), .int (iN ((rm : Nat) : Int)), .int (iN ((mt : Nat) : Int)), .ref (gad G 66), .ref (gad G 67), .ref (gad G 68), .ref (gad G 69), .ref (gad G 70), .int (iN ((tm : Nat) : Int)), .ref (gad G 71), .ref (gad G 72), .int (iN 1), .int (iN onn), .int (iN two), .long (jN lw), .long (jN hg), .int (iN ((sq : Nat) : Int)), .ref (gad G 73), .ref (gad G 74)]))) H := hP
      obtain ⟨w_3, hw_4⟩ : ∃ z : WF, z = va_up w 59 (.inr (8, [.int (iN ((now : Nat) : Int)), .int (iN ((came : Nat) : Int)), .ref (gad G 60), .ref (gad G 61), .ref (gad G 62), .ref (gad G 63), .ref (gad G 64), .ref (gad G 65), .int (iN ((rm : Nat) : Int)), .int (iN ((mt : Nat) : Int)), .ref (gad G 66), .ref (gad G 67), .ref (gad G 68), .ref (gad G 69), .ref (gad G 70), .int (iN ((tm : Nat) : Int)), .ref (gad G 71), .ref (gad G 72), .int (iN 1), .int (iN onn), .int (iN two), .long (jN lw), .long (jN hg), .int (iN ((sq : Nat) : Int)), .ref (gad G 73), .ref (gad G 74)])) := ⟨_, rfl⟩
      rw [← hw_4] at hP
      have fr_5 : ∀ k : Nat, k ≠ 59 → w_3 k = w k := fun k h => by rw [hw_4]; exact va_up_ne _ _ h
      have e_6 : w_3 59 = .inr (8, [.int (iN ((now : Nat) : Int)), .int (iN ((came : Nat) : Int)), .ref (gad G 60), .ref (gad G 61), .ref (gad G 62), .ref (gad G 63), .ref (gad G 64), .ref (gad G 65), .int (iN ((rm : Nat) : Int)), .int (iN ((mt : Nat) : Int)), .ref (gad G 66), .ref (gad G 67), .ref (gad G 68), .ref (gad G 69), .ref (gad G 70), .int (iN ((tm : Nat) : Int)), .ref (gad G 71), .ref (gad G 72), .int (iN 1), .int (iN onn), .int (iN two), .long (jN lw), .long (jN hg), .int (iN ((sq : Nat) : Int)), .ref (gad G 73), .ref (gad G 74)]) := by rw [hw_4]; exact va_up_self _ _ _
      have e_7 : w_3 60 = .inl (gI G, 10, .inl (aN ga)) := (fr_5 60 (by omega)).trans e1
      have e_8 : w_3 61 = .inl (gI G, 10, .inl (aN (pnI pn))) := (fr_5 61 (by omega)).trans e2
      have e_9 : w_3 62 = .inl (gI G, 80, .inl (aN mbe)) := (fr_5 62 (by omega)).trans e3
      have e_10 : w_3 63 = .inl (gI G, 80, .inl (aN mpl)) := (fr_5 63 (by omega)).trans e4
      have e_11 : w_3 64 = .inl (gI G, 80, .inl (aN msp)) := (fr_5 64 (by omega)).trans e5
      have e_12 : w_3 71 = .inl (gJ G, 700, .inr (.inl (aJ tN))) := (fr_5 71 (by omega)).trans e6
      have e_13 : w_3 72 = .inl (gJ G, 700, .inr (.inl (aJ tD))) := (fr_5 72 (by omega)).trans e7
      have e_14 : w_3 73 = .inl (gJ G, 1400, .inr (.inl (aJ sN))) := (fr_5 73 (by omega)).trans e8
      have e_15 : w_3 74 = .inl (gJ G, 1400, .inr (.inl (aJ sD))) := (fr_5 74 (by omega)).trans e9
      refine lv_aload_n hx hb dX9_first_28 rfl (lv_at hl 0 rfl) ?_
      refine lv_iload_n hx hb dX9_first_29 rfl (lv_at hl 1 rfl) ?_
      refine f_put (v := .int (iN i)) (ty := .int) (C := RX9) (T := TX9) (N := 26) hx hb hts (by decide +kernel) tyX9 tyX9_ok nmX9 hown hK hP hS hAA 59 (by omega) e_6 rfl 19 (by decide) (hts (.fieldLink RX9 185 "KeptMovingModel" "one" "I") (by decide +kernel)) (fun _ h9 => h9) rfl (by decide +kernel) (rfl) (rfl) (Nat.le_of_ble_eq_true rfl) (rfl) dX9_first_30 (fun H locs hP hS => ?_)
      have hP : PW G (va_up w_3 59 (.inr (8, [.int (iN ((now : Nat) : Int)), .int (iN ((came : Nat) : Int)), .ref (gad G 60), .ref (gad G 61), .ref (gad G 62), .ref (gad G 63), .ref (gad G 64), .ref (gad G 65), .int (iN ((rm : Nat) : Int)), .int (iN ((mt : Nat) : Int)), .ref (gad G 66), .ref (gad G 67), .ref (gad G 68), .ref (gad G 69), .ref (gad G 70), .int (iN ((tm : Nat) : Int)), .ref (gad G 71), .ref (gad G 72), .int (iN 1), .int (iN i), .int (iN two), .long (jN lw), .long (jN hg), .int (iN ((sq : Nat) : Int)), .ref (gad G 73), .ref (gad G 74)]))) H := hP
      obtain ⟨w_16, hw_17⟩ : ∃ z : WF, z = va_up w_3 59 (.inr (8, [.int (iN ((now : Nat) : Int)), .int (iN ((came : Nat) : Int)), .ref (gad G 60), .ref (gad G 61), .ref (gad G 62), .ref (gad G 63), .ref (gad G 64), .ref (gad G 65), .int (iN ((rm : Nat) : Int)), .int (iN ((mt : Nat) : Int)), .ref (gad G 66), .ref (gad G 67), .ref (gad G 68), .ref (gad G 69), .ref (gad G 70), .int (iN ((tm : Nat) : Int)), .ref (gad G 71), .ref (gad G 72), .int (iN 1), .int (iN i), .int (iN two), .long (jN lw), .long (jN hg), .int (iN ((sq : Nat) : Int)), .ref (gad G 73), .ref (gad G 74)])) := ⟨_, rfl⟩
      rw [← hw_17] at hP
      have fr_18 : ∀ k : Nat, k ≠ 59 → w_16 k = w_3 k := fun k h => by rw [hw_17]; exact va_up_ne _ _ h
      have e_19 : w_16 59 = .inr (8, [.int (iN ((now : Nat) : Int)), .int (iN ((came : Nat) : Int)), .ref (gad G 60), .ref (gad G 61), .ref (gad G 62), .ref (gad G 63), .ref (gad G 64), .ref (gad G 65), .int (iN ((rm : Nat) : Int)), .int (iN ((mt : Nat) : Int)), .ref (gad G 66), .ref (gad G 67), .ref (gad G 68), .ref (gad G 69), .ref (gad G 70), .int (iN ((tm : Nat) : Int)), .ref (gad G 71), .ref (gad G 72), .int (iN 1), .int (iN i), .int (iN two), .long (jN lw), .long (jN hg), .int (iN ((sq : Nat) : Int)), .ref (gad G 73), .ref (gad G 74)]) := by rw [hw_17]; exact va_up_self _ _ _
      have e_20 : w_16 60 = .inl (gI G, 10, .inl (aN ga)) := (fr_18 60 (by omega)).trans e_7
      have e_21 : w_16 61 = .inl (gI G, 10, .inl (aN (pnI pn))) := (fr_18 61 (by omega)).trans e_8
      have e_22 : w_16 62 = .inl (gI G, 80, .inl (aN mbe)) := (fr_18 62 (by omega)).trans e_9
      have e_23 : w_16 63 = .inl (gI G, 80, .inl (aN mpl)) := (fr_18 63 (by omega)).trans e_10
      have e_24 : w_16 64 = .inl (gI G, 80, .inl (aN msp)) := (fr_18 64 (by omega)).trans e_11
      have e_25 : w_16 71 = .inl (gJ G, 700, .inr (.inl (aJ tN))) := (fr_18 71 (by omega)).trans e_12
      have e_26 : w_16 72 = .inl (gJ G, 700, .inr (.inl (aJ tD))) := (fr_18 72 (by omega)).trans e_13
      have e_27 : w_16 73 = .inl (gJ G, 1400, .inr (.inl (aJ sN))) := (fr_18 73 (by omega)).trans e_14
      have e_28 : w_16 74 = .inl (gJ G, 1400, .inr (.inl (aJ sD))) := (fr_18 74 (by omega)).trans e_15
      refine lv_aload_n hx hb dX9_first_33 rfl (lv_at hl 0 rfl) ?_
      refine lv_iload_n hx hb dX9_first_34 rfl (lv_at hl 2 rfl) ?_
      refine f_callv (W.runV (As := [.int (iN en)]) (rest := []) ⟨hx, hb, hml, hown, hts⟩ (c_X9_beginTimes l G w_16 now came rm mt tm (1 : Int) i two lw hg sq ga pn mbe mpl msp tN tD en e_19 e_20 e_21 e_22 e_23 e_24 e_25 e_26 (p0) (by omega)) (cwV 1 hts gX9_first_X9_beginTimes rfl rfl rfl (by decide +kernel) ⟨Nat.le_of_ble_eq_true rfl, Nat.le_of_ble_eq_true rfl⟩) (f_preV hP hK 59 (by omega) 8 e_19 rfl) rfl rfl hl.1 rfl (lv_room (Nat.le_of_ble_eq_true rfl)) dX9_first_35 ⟨Nat.zero_le _, Nat.zero_le _⟩) hS hAA (fun w_29 H locs q_30 hP hS => ?_)
      obtain ⟨tm2_31, tN2_32, tD2_33, fr_34, e_35, e_36, e_37, q_38⟩ := q_30
      have e_39 : w_29 60 = .inl (gI G, 10, .inl (aN ga)) := (fr_34 60 (by omega) (by omega) (by omega)).trans e_20
      have e_40 : w_29 61 = .inl (gI G, 10, .inl (aN (pnI pn))) := (fr_34 61 (by omega) (by omega) (by omega)).trans e_21
      have e_41 : w_29 62 = .inl (gI G, 80, .inl (aN mbe)) := (fr_34 62 (by omega) (by omega) (by omega)).trans e_22
      have e_42 : w_29 63 = .inl (gI G, 80, .inl (aN mpl)) := (fr_34 63 (by omega) (by omega) (by omega)).trans e_23
      have e_43 : w_29 64 = .inl (gI G, 80, .inl (aN msp)) := (fr_34 64 (by omega) (by omega) (by omega)).trans e_24
      have e_44 : w_29 73 = .inl (gJ G, 1400, .inr (.inl (aJ sN))) := (fr_34 73 (by omega) (by omega) (by omega)).trans e_27
      have e_45 : w_29 74 = .inl (gJ G, 1400, .inr (.inl (aJ sD))) := (fr_34 74 (by omega) (by omega) (by omega)).trans e_28
      have e_46 : w_29 59 = .inr (8, [.int (iN ((now : Nat) : Int)), .int (iN ((came : Nat) : Int)), .ref (gad G 60), .ref (gad G 61), .ref (gad G 62), .ref (gad G 63), .ref (gad G 64), .ref (gad G 65), .int (iN ((rm : Nat) : Int)), .int (iN ((mt : Nat) : Int)), .ref (gad G 66), .ref (gad G 67), .ref (gad G 68), .ref (gad G 69), .ref (gad G 70), .int (iN ((tm2_31 : Nat) : Int)), .ref (gad G 71), .ref (gad G 72), .int (iN (1 : Int)), .int (iN i), .int (iN two), .long (jN lw), .long (jN hg), .int (iN ((sq : Nat) : Int)), .ref (gad G 73), .ref (gad G 74)]) := e_35
      have e_47 : w_29 71 = .inl (gJ G, 700, .inr (.inl (aJ tN2_32))) := e_36
      have e_48 : w_29 72 = .inl (gJ G, 700, .inr (.inl (aJ tD2_33))) := e_37
      refine n_iconst hx hb dX9_first_38 ?_
      refine lv_istore (lv' := [(5, .int (iN 0)), (0, .ref (gad G 59)), (1, .int (iN i)), (2, .int (iN en)), (3, .int (iN k)), (4, .int (iN wh))]) hx hb dX9_first_39 hl (by decide) rfl (fun ls hl => ?_)
      have K41 : ∀ (N : Nat) (j : Nat) (tm2 : Nat) (tN2 : Nat → Int) (tD2 : Nat → Int) (w2 : WF) (H : Heap) (locs : List Loc) (ls : Array Slot), (j ≤ came) → (isT (fpT (rw8 mbe, rw8 mpl, rw8 msp, pn, ga) en i.toNat came j) tm2 tN2 tD2) → 11 - j < N → w2 59 = .inr (8, [.int (iN ((now : Nat) : Int)), .int (iN ((came : Nat) : Int)), .ref (gad G 60), .ref (gad G 61), .ref (gad G 62), .ref (gad G 63), .ref (gad G 64), .ref (gad G 65), .int (iN ((rm : Nat) : Int)), .int (iN ((mt : Nat) : Int)), .ref (gad G 66), .ref (gad G 67), .ref (gad G 68), .ref (gad G 69), .ref (gad G 70), .int (iN ((tm2 : Nat) : Int)), .ref (gad G 71), .ref (gad G 72), .int (iN 1), .int (iN i), .int (iN two), .long (jN lw), .long (jN hg), .int (iN ((sq : Nat) : Int)), .ref (gad G 73), .ref (gad G 74)]) → w2 71 = .inl (gJ G, 700, .inr (.inl (aJ tN2))) → w2 72 = .inl (gJ G, 700, .inr (.inl (aJ tD2))) → (∀ k : Nat, k ≠ 59 → k ≠ 71 → k ≠ 72 → w2 k = w k) → PW G w2 H → va_S (AA G) s.heap H locs → lv_has ls 6 [(0, .ref (gad G 59)), (1, .int (iN i)), (2, .int (iN en)), (3, .int (iN k)), (4, .int (iN wh)), (5, .int (iN ((j : Nat) : Int)))] → W p l e (headSpec wsX9_first ({ frames := 4, cells := 0, slots := 0, locals := 103 })).room s m (([.ref (gad G 59), .int (iN i), .int (iN en), .int (iN k), .int (iN wh)] : List Value).toArray) below meth c H locs 0 0 (MQ below (QI G (fun r w1 => r = iN (if 0 ≤ i ∧ i ≤ (came : Int) - 1 then (if (1 ≤ en ∧ en ≤ 600) ∧ 0 ≤ wh ∧ wh ≤ 3 then ansW (fsG (fun n d => fiR (rw8 mbe, rw8 mpl, rw8 msp, pn, ga) i.toNat n d came) (fpT (rw8 mbe, rw8 mpl, rw8 msp, pn, ga) en i.toNat came came)) k wh else -100002) else -100001) ∧ ∃ (tm2 : Nat) (tN2 : Nat → Int) (tD2 : Nat → Int) (sq2 : Nat) (sN2 : Nat → Int) (sD2 : Nat → Int) (thg2 : Int) (onn2 : Int) (two2 : Int) (lw2 : Int) (hg2 : Int), (∀ k : Nat, k ≠ 59 → k ≠ 71 → k ≠ 72 → k ≠ 73 → k ≠ 74 → w1 k = w k) ∧ w1 59 = .inr (8, [.int (iN ((now : Nat) : Int)), .int (iN ((came : Nat) : Int)), .ref (gad G 60), .ref (gad G 61), .ref (gad G 62), .ref (gad G 63), .ref (gad G 64), .ref (gad G 65), .int (iN ((rm : Nat) : Int)), .int (iN ((mt : Nat) : Int)), .ref (gad G 66), .ref (gad G 67), .ref (gad G 68), .ref (gad G 69), .ref (gad G 70), .int (iN ((tm2 : Nat) : Int)), .ref (gad G 71), .ref (gad G 72), .int (iN thg2), .int (iN onn2), .int (iN two2), .long (jN lw2), .long (jN hg2), .int (iN ((sq2 : Nat) : Int)), .ref (gad G 73), .ref (gad G 74)]) ∧ w1 71 = .inl (gJ G, 700, .inr (.inl (aJ tN2))) ∧ w1 72 = .inl (gJ G, 700, .inr (.inl (aJ tD2))) ∧ w1 73 = .inl (gJ G, 1400, .inr (.inl (aJ sN2))) ∧ w1 74 = .inl (gJ G, 1400, .inr (.inl (aJ sD2))) ∧ (-60000 ≤ lw2 ∧ lw2 ≤ 60000) ∧ (-60000 ≤ hg2 ∧ hg2 ≤ 60000))) (([.ref (gad G 59), .int (iN i), .int (iN en), .int (iN k), .int (iN wh)] : List Value).toArray) s 0 0 (AA G)) (F0 m 41 ls []) := by
        intro N
        induction N with
        | zero =>
          intros
          exfalso
          omega
        | succ N ih41 =>
          intro j tm2 tN2 tD2 w2 H locs ls i41_0 i41_1 hN41 f41_0 f41_1 f41_2 hfr41 hP hS hl
          have e_49 : w2 60 = .inl (gI G, 10, .inl (aN ga)) := by rw [hfr41 60 (by omega) (by omega) (by omega)]; exact e1
          have e_50 : w2 61 = .inl (gI G, 10, .inl (aN (pnI pn))) := by rw [hfr41 61 (by omega) (by omega) (by omega)]; exact e2
          have e_51 : w2 62 = .inl (gI G, 80, .inl (aN mbe)) := by rw [hfr41 62 (by omega) (by omega) (by omega)]; exact e3
          have e_52 : w2 63 = .inl (gI G, 80, .inl (aN mpl)) := by rw [hfr41 63 (by omega) (by omega) (by omega)]; exact e4
          have e_53 : w2 64 = .inl (gI G, 80, .inl (aN msp)) := by rw [hfr41 64 (by omega) (by omega) (by omega)]; exact e5
          have e_54 : w2 73 = .inl (gJ G, 1400, .inr (.inl (aJ sN))) := by rw [hfr41 73 (by omega) (by omega) (by omega)]; exact e8
          have e_55 : w2 74 = .inl (gJ G, 1400, .inr (.inl (aJ sD))) := by rw [hfr41 74 (by omega) (by omega) (by omega)]; exact e9
          refine lv_iload hx hb dX9_first_41 (lv_at hl 5 rfl) ?_
          refine lv_aload_n hx hb dX9_first_43 rfl (lv_at hl 0 rfl) ?_
          refine f_get (C := RX9) (T := TX9) (N := 26) hx hb hts (by decide +kernel) hown hK hP 59 (by omega) f41_0 rfl 1 (by decide) (hts (.fieldLink RX9 57 "KeptMovingModel" "points" "I") (by decide +kernel)) (fun _ h9 => h9) rfl dX9_first_44 ?_
          refine n_icmp_ge (tgt := 71) hx hb dX9_first_47 (by decide) (by omega) (by omega) (by omega) (by omega) (fun c_47 => ?_) (fun c_47 => ?_)
          · have hz9 : isT (fpT (rw8 mbe, rw8 mpl, rw8 msp, pn, ga) en i.toNat came came) tm2 tN2 tD2 := by rw [show came = j by omega]; rw [show came = j by omega] at i41_1; exact i41_1
            have hl3 := fpT_e (S := (rw8 mbe, rw8 mpl, rw8 msp, pn, ga)) (en := en) hn8 hc10 (show i.toNat < came by omega)
            refine lv_aload_n hx hb dX9_first_71 rfl (lv_at hl 0 rfl) ?_
            refine lv_iload_n hx hb dX9_first_72 rfl (lv_at hl 3 rfl) ?_
            refine lv_iload hx hb dX9_first_73 (lv_at hl 4 rfl) ?_
            refine f_calli (W.runV (As := [.int (iN k), .int (iN wh)]) (rest := []) ⟨hx, hb, hml, hown, hts⟩ (c_X9_findSpans l G w2 (fpT (rw8 mbe, rw8 mpl, rw8 msp, pn, ga) en i.toNat came came) now came rm mt tm2 (1 : Int) i two lw hg sq ga pn mbe mpl msp tN2 tD2 sN sD k wh f41_0 e_49 e_50 e_51 e_52 e_53 f41_1 f41_2 e_54 e_55 (p0) (hz9) (by omega) (by omega) (by omega) (by omega) (by omega) (by omega) (by omega) (p5) (by omega)) (cwV 2 hts gX9_first_X9_findSpans rfl rfl rfl (by decide +kernel) ⟨Nat.le_of_ble_eq_true rfl, Nat.le_of_ble_eq_true rfl⟩) (f_preV hP hK 59 (by omega) 8 f41_0 rfl) rfl rfl hl.1 rfl (lv_room (Nat.le_of_ble_eq_true rfl)) dX9_first_75 ⟨Nat.zero_le _, Nat.zero_le _⟩) hS hAA (fun r_65 w_56 H locs q_57 hP hS => ?_)
            obtain ⟨hr_66, q_57⟩ := q_57
            obtain ⟨sq2_58, sN2_59, sD2_60, fr_61, e_62, e_63, e_64⟩ := q_57
            have e_67 : w_56 71 = .inl (gJ G, 700, .inr (.inl (aJ tN2))) := (fr_61 71 (by omega) (by omega) (by omega)).trans f41_1
            have e_68 : w_56 72 = .inl (gJ G, 700, .inr (.inl (aJ tD2))) := (fr_61 72 (by omega) (by omega) (by omega)).trans f41_2
            have e_69 : w_56 60 = .inl (gI G, 10, .inl (aN ga)) := (fr_61 60 (by omega) (by omega) (by omega)).trans e_49
            have e_70 : w_56 61 = .inl (gI G, 10, .inl (aN (pnI pn))) := (fr_61 61 (by omega) (by omega) (by omega)).trans e_50
            have e_71 : w_56 62 = .inl (gI G, 80, .inl (aN mbe)) := (fr_61 62 (by omega) (by omega) (by omega)).trans e_51
            have e_72 : w_56 63 = .inl (gI G, 80, .inl (aN mpl)) := (fr_61 63 (by omega) (by omega) (by omega)).trans e_52
            have e_73 : w_56 64 = .inl (gI G, 80, .inl (aN msp)) := (fr_61 64 (by omega) (by omega) (by omega)).trans e_53
            have e_74 : w_56 59 = .inr (8, [.int (iN ((now : Nat) : Int)), .int (iN ((came : Nat) : Int)), .ref (gad G 60), .ref (gad G 61), .ref (gad G 62), .ref (gad G 63), .ref (gad G 64), .ref (gad G 65), .int (iN ((rm : Nat) : Int)), .int (iN ((mt : Nat) : Int)), .ref (gad G 66), .ref (gad G 67), .ref (gad G 68), .ref (gad G 69), .ref (gad G 70), .int (iN ((tm2 : Nat) : Int)), .ref (gad G 71), .ref (gad G 72), .int (iN (1 : Int)), .int (iN i), .int (iN two), .long (jN lw), .long (jN hg), .int (iN ((sq2_58 : Nat) : Int)), .ref (gad G 73), .ref (gad G 74)]) := e_62
            have e_75 : w_56 73 = .inl (gJ G, 1400, .inr (.inl (aJ sN2_59))) := e_63
            have e_76 : w_56 74 = .inl (gJ G, 1400, .inr (.inl (aJ sD2_60))) := e_64
            rw [show r_65 = iN (ansW (fsG (soX (rw8 mbe, rw8 mpl, rw8 msp, pn, ga) came (1 : Int) i two lw hg) ((fpT (rw8 mbe, rw8 mpl, rw8 msp, pn, ga) en i.toNat came came))) k wh) from hr_66]
            exact r_i hx hb hr dX9_first_78 hlocks hP hS ⟨(congrArg iN (by rw [if_pos (show 0 ≤ i ∧ i ≤ (came : Int) - 1 by omega), if_pos (show (1 ≤ en ∧ en ≤ 600) ∧ 0 ≤ wh ∧ wh ≤ 3 by omega)]; rfl)), tm2, tN2, tD2, sq2_58, sN2_59, sD2_60, ((1 : Int)), (i), (two), (lw), (hg), (fun k h0 h1 h2 h3 h4 => ((fr_61 k (by omega) (by omega) (by omega)).trans (hfr41 k (by omega) (by omega) (by omega)))), e_74, e_67, e_68, e_75, e_76, (by omega), (by omega)⟩
          · refine lv_iload hx hb dX9_first_50 (lv_at hl 5 rfl) ?_
            refine lv_iload_n hx hb dX9_first_52 rfl (lv_at hl 1 rfl) ?_
            refine n_icmp_eq (tgt := 65) hx hb dX9_first_53 (by decide) (by omega) (by omega) (by omega) (by omega) (fun c_53 => ?_) (fun c_53 => ?_)
            · refine lv_iinc (v := iN ((j + 1 : Nat) : Int)) (lv' := [(5, .int (iN ((j + 1 : Nat) : Int))), (0, .ref (gad G 59)), (1, .int (iN i)), (2, .int (iN en)), (3, .int (iN k)), (4, .int (iN wh))]) hx hb dX9_first_65 hl (k := 5) rfl (iN_incN _) (by decide) rfl (fun ls hl => ?_)
              refine lv_goto (tgt := 41) hx hb dX9_first_68 (by decide) ?_
              exact ih41 (j + 1) (tm2) (tN2) (tD2) w2 _ _ _ (by omega) ((by show isT (if j = i.toNat then _ else _) _ _ _; rw [if_pos (by omega)]; exact i41_1)) (by omega) (f41_0) (f41_1) (f41_2) (fun k h0 h1 h2 => hfr41 k (by omega) (by omega) (by omega)) hP hS (lv_sub hl [1, 2, 3, 4, 5, 0] rfl)
            · have hij : ¬ i.toNat = j := by omega
              have hl1 := fpT_b (S := (rw8 mbe, rw8 mpl, rw8 msp, pn, ga)) (en := en) hn8 hc10 (show i.toNat < came by omega) (show j < came by omega) hij
              refine lv_aload_n hx hb dX9_first_56 rfl (lv_at hl 0 rfl) ?_
              refine lv_iload_n hx hb dX9_first_57 rfl (lv_at hl 1 rfl) ?_
              refine n_top (A := i) (B := ((i.toNat : Nat) : Int)) (by omega) ?_
              refine lv_iload hx hb dX9_first_58 (lv_at hl 5 rfl) ?_
              refine n_lconst (z := 0) hx hb dX9_first_60 (by decide) ?_
              refine lv_iload_n hx hb dX9_first_61 rfl (lv_at hl 2 rfl) ?_
              refine f_callv (W.runV (As := [.int (iN ((i.toNat : Nat) : Int)), .int (iN ((j : Nat) : Int)), .long (jN 0), .int (iN en)]) (rest := []) ⟨hx, hb, hml, hown, hts⟩ (c_X9_addApart l G w2 (fpT (rw8 mbe, rw8 mpl, rw8 msp, pn, ga) en i.toNat came j) now came rm mt tm2 (1 : Int) i two lw hg sq ga pn mbe mpl msp tN2 tD2 i.toNat j (0 : Int) en f41_0 e_49 e_50 e_51 e_52 e_53 f41_1 f41_2 (p0) (by omega) (by omega) (i41_1) (by omega) (by omega) (by omega)) (cwV 4 hts gX9_first_X9_addApart rfl rfl rfl (by decide +kernel) ⟨Nat.le_of_ble_eq_true rfl, Nat.le_of_ble_eq_true rfl⟩) (f_preV hP hK 59 (by omega) 8 f41_0 rfl) rfl rfl hl.1 rfl (lv_room (Nat.le_of_ble_eq_true rfl)) dX9_first_62 ⟨Nat.zero_le _, Nat.zero_le _⟩) hS hAA (fun w_77 H locs q_78 hP hS => ?_)
              obtain ⟨tm2_79, tN2_80, tD2_81, fr_82, e_83, e_84, e_85, q_86⟩ := q_78
              have e_87 : w_77 60 = .inl (gI G, 10, .inl (aN ga)) := (fr_82 60 (by omega) (by omega) (by omega)).trans e_49
              have e_88 : w_77 61 = .inl (gI G, 10, .inl (aN (pnI pn))) := (fr_82 61 (by omega) (by omega) (by omega)).trans e_50
              have e_89 : w_77 62 = .inl (gI G, 80, .inl (aN mbe)) := (fr_82 62 (by omega) (by omega) (by omega)).trans e_51
              have e_90 : w_77 63 = .inl (gI G, 80, .inl (aN mpl)) := (fr_82 63 (by omega) (by omega) (by omega)).trans e_52
              have e_91 : w_77 64 = .inl (gI G, 80, .inl (aN msp)) := (fr_82 64 (by omega) (by omega) (by omega)).trans e_53
              have e_92 : w_77 73 = .inl (gJ G, 1400, .inr (.inl (aJ sN))) := (fr_82 73 (by omega) (by omega) (by omega)).trans e_54
              have e_93 : w_77 74 = .inl (gJ G, 1400, .inr (.inl (aJ sD))) := (fr_82 74 (by omega) (by omega) (by omega)).trans e_55
              have e_94 : w_77 59 = .inr (8, [.int (iN ((now : Nat) : Int)), .int (iN ((came : Nat) : Int)), .ref (gad G 60), .ref (gad G 61), .ref (gad G 62), .ref (gad G 63), .ref (gad G 64), .ref (gad G 65), .int (iN ((rm : Nat) : Int)), .int (iN ((mt : Nat) : Int)), .ref (gad G 66), .ref (gad G 67), .ref (gad G 68), .ref (gad G 69), .ref (gad G 70), .int (iN ((tm2_79 : Nat) : Int)), .ref (gad G 71), .ref (gad G 72), .int (iN (1 : Int)), .int (iN i), .int (iN two), .long (jN lw), .long (jN hg), .int (iN ((sq : Nat) : Int)), .ref (gad G 73), .ref (gad G 74)]) := e_83
              have e_95 : w_77 71 = .inl (gJ G, 700, .inr (.inl (aJ tN2_80))) := e_84
              have e_96 : w_77 72 = .inl (gJ G, 700, .inr (.inl (aJ tD2_81))) := e_85
              refine lv_iinc (v := iN ((j + 1 : Nat) : Int)) (lv' := [(5, .int (iN ((j + 1 : Nat) : Int))), (0, .ref (gad G 59)), (1, .int (iN i)), (2, .int (iN en)), (3, .int (iN k)), (4, .int (iN wh))]) hx hb dX9_first_65 hl (k := 5) rfl (iN_incN _) (by decide) rfl (fun ls hl => ?_)
              refine lv_goto (tgt := 41) hx hb dX9_first_68 (by decide) ?_
              exact ih41 (j + 1) (tm2_79) (tN2_80) (tD2_81) w_77 _ _ _ (by omega) ((by show isT (if j = i.toNat then _ else _) _ _ _; rw [if_neg (by omega)]; exact q_86)) (by omega) (e_94) (e_95) (e_96) (fun k h0 h1 h2 => ((fr_82 k (by omega) (by omega) (by omega)).trans (hfr41 k (by omega) (by omega) (by omega)))) hP hS (lv_sub hl [1, 2, 3, 4, 5, 0] rfl)
      exact K41 ((11 - 0) + 1) (0) (tm2_31) (tN2_32) (tD2_33) w_29 _ _ _ (by omega) (q_38) (by omega) (e_46) (e_47) (e_48) (fun k h0 h1 h2 => ((((fr_34 k (by omega) (by omega) (by omega)).trans (fr_18 k (by omega)))).trans (fr_5 k (by omega)))) hP hS (lv_sub hl [1, 2, 3, 4, 5, 0] rfl)
    · refine n_ldc (z := (-100002)) hx hb hown (hts (.constant RX9 73 (-100002)) (by decide +kernel)) (by decide) dX9_first_20 ?_
      exact r_i hx hb hr dX9_first_22 hlocks hP hS ⟨(show iN (-100002) = iN _ by rw [if_pos (show 0 ≤ i ∧ i ≤ (came : Int) - 1 by omega), if_neg (show ¬ ((1 ≤ en ∧ en ≤ 600) ∧ 0 ≤ wh ∧ wh ≤ 3) by omega)]), tm, tN, tD, sq, sN, sD, (thg), (onn), (two), (lw), (hg), (fun k _ _ _ _ _ => rfl), e0, e6, e7, e8, e9, (by omega), (by omega)⟩
  · refine n_ldc (z := (-100001)) hx hb hown (hts (.constant RX9 82 (-100001)) (by decide +kernel)) (by decide) dX9_first_8 ?_
    exact r_i hx hb hr dX9_first_10 hlocks hP hS ⟨(show iN (-100001) = iN _ by rw [if_neg (show ¬ (0 ≤ i ∧ i ≤ (came : Int) - 1) by omega)]), tm, tN, tD, sq, sN, sD, (thg), (onn), (two), (lw), (hg), (fun k _ _ _ _ _ => rfl), e0, e6, e7, e8, e9, (by omega), (by omega)⟩

set_option maxHeartbeats 4000000 in
set_option maxRecDepth 100000 in
theorem c_X9_within (l : Launch) (G : GE) (w : WF) (now : Nat) (came : Nat) (rm : Nat) (mt : Nat) (tm : Nat) (thg : Int) (onn : Int) (two : Int) (lw : Int) (hg : Int) (sq : Nat) (ga : Nat → Int) (pn : Nat → Nat) (mbe : Nat → Int) (mpl : Nat → Int) (msp : Nat → Int) (tN : Nat → Int) (tD : Nat → Int) (sN : Nat → Int) (sD : Nat → Int) (x0 : Int) (x1 : Int) (mn : Int) (en : Int) (k : Int) (wh : Int) (e0 : w 59 = .inr (8, [.int (iN ((now : Nat) : Int)), .int (iN ((came : Nat) : Int)), .ref (gad G 60), .ref (gad G 61), .ref (gad G 62), .ref (gad G 63), .ref (gad G 64), .ref (gad G 65), .int (iN ((rm : Nat) : Int)), .int (iN ((mt : Nat) : Int)), .ref (gad G 66), .ref (gad G 67), .ref (gad G 68), .ref (gad G 69), .ref (gad G 70), .int (iN ((tm : Nat) : Int)), .ref (gad G 71), .ref (gad G 72), .int (iN thg), .int (iN onn), .int (iN two), .long (jN lw), .long (jN hg), .int (iN ((sq : Nat) : Int)), .ref (gad G 73), .ref (gad G 74)])) (e1 : w 60 = .inl (gI G, 10, .inl (aN ga))) (e2 : w 61 = .inl (gI G, 10, .inl (aN (pnI pn)))) (e3 : w 62 = .inl (gI G, 80, .inl (aN mbe))) (e4 : w 63 = .inl (gI G, 80, .inl (aN mpl))) (e5 : w 64 = .inl (gI G, 80, .inl (aN msp))) (e6 : w 71 = .inl (gJ G, 700, .inr (.inl (aJ tN)))) (e7 : w 72 = .inl (gJ G, 700, .inr (.inl (aJ tD)))) (e8 : w 73 = .inl (gJ G, 1400, .inr (.inl (aJ sN)))) (e9 : w 74 = .inl (gJ G, 1400, .inr (.inl (aJ sD)))) (p0 : OKS came (rw8 mbe) (rw8 mpl) (rw8 msp) pn ga) (p1 : -60000 ≤ lw ∧ lw ≤ 60000) (p2 : -60000 ≤ hg ∧ hg ≤ 60000) (p3 : -2147483648 ≤ x0 ∧ x0 < 2147483648) (p4 : -2147483648 ≤ x1 ∧ x1 < 2147483648) (p5 : -2147483648 ≤ mn ∧ mn < 2147483648) (p6 : -2147483648 ≤ en ∧ en < 2147483648) (p7 : -2147483648 ≤ k ∧ k < 2147483648) (p8 : -2147483648 ≤ wh ∧ wh < 2147483648) : Met l yX9_within wsX9_within ({ frames := 4, cells := 0, slots := 0, locals := 103 }) (PcG G w [.ref (gad G 59), .int (iN x0), .int (iN x1), .int (iN mn), .int (iN en), .int (iN k), .int (iN wh)]) (QI G (fun r w1 => r = iN (if (-60000 ≤ x0 ∧ x0 ≤ 60000) ∧ (x0 ≤ x1 ∧ x1 ≤ 60000) ∧ (1 ≤ mn ∧ mn ≤ 10) ∧ (1 ≤ en ∧ en ≤ 600) ∧ 0 ≤ wh ∧ wh ≤ 3 then ansW (fsG (fun n d => decide (mn ≤ ((mnR (rw8 mbe, rw8 mpl, rw8 msp, pn, ga) x0 x1 n d came : Nat) : Int))) (wiT (rw8 mbe, rw8 mpl, rw8 msp, pn, ga) en x0 x1 came came)) k wh else -100002) ∧ ∃ (tm2 : Nat) (tN2 : Nat → Int) (tD2 : Nat → Int) (sq2 : Nat) (sN2 : Nat → Int) (sD2 : Nat → Int) (thg2 : Int) (onn2 : Int) (two2 : Int) (lw2 : Int) (hg2 : Int), (∀ k : Nat, k ≠ 59 → k ≠ 71 → k ≠ 72 → k ≠ 73 → k ≠ 74 → w1 k = w k) ∧ w1 59 = .inr (8, [.int (iN ((now : Nat) : Int)), .int (iN ((came : Nat) : Int)), .ref (gad G 60), .ref (gad G 61), .ref (gad G 62), .ref (gad G 63), .ref (gad G 64), .ref (gad G 65), .int (iN ((rm : Nat) : Int)), .int (iN ((mt : Nat) : Int)), .ref (gad G 66), .ref (gad G 67), .ref (gad G 68), .ref (gad G 69), .ref (gad G 70), .int (iN ((tm2 : Nat) : Int)), .ref (gad G 71), .ref (gad G 72), .int (iN thg2), .int (iN onn2), .int (iN two2), .long (jN lw2), .long (jN hg2), .int (iN ((sq2 : Nat) : Int)), .ref (gad G 73), .ref (gad G 74)]) ∧ w1 71 = .inl (gJ G, 700, .inr (.inl (aJ tN2))) ∧ w1 72 = .inl (gJ G, 700, .inr (.inl (aJ tD2))) ∧ w1 73 = .inl (gJ G, 1400, .inr (.inl (aJ sN2))) ∧ w1 74 = .inl (gJ G, 1400, .inr (.inl (aJ sD2))) ∧ (-60000 ≤ lw2 ∧ lw2 ≤ 60000) ∧ (-60000 ≤ hg2 ∧ hg2 ≤ 60000))) 0 0 (AA G) := by
  refine Met.ofW (cc := cX9_within) (maxL := 8) (ret := (some .int)) (by decide) rfl ?_
  intro p e s m args below meth c s₁ B hml hv
  obtain ⟨rfl, hP, hK⟩ := hv
  have hx := B.exec
  have hb := B.bytes
  have hr := B.returns
  have hts := atoms_spec (ws := wsX9_within) B.pre
  have hown : s.vm.findClass RX9 = some m.cls := findClass_of_methodNamed B.named
  have hlocks := B.notSynchronized
  have hS : va_S (AA G) s.heap s.heap [] := va_S.rf
  have hAA : ∀ q, AA G q → AA G q := fun _ h => h
  have hl := lv_entry ([.ref (gad G 59), .int (iN x0), .int (iN x1), .int (iN mn), .int (iN en), .int (iN k), .int (iN wh)]) (n := 8) (Nat.le_of_ble_eq_true rfl)
  rw [lg_entry_eq]
  generalize (lg_sl ([.ref (gad G 59), .int (iN x0), .int (iN x1), .int (iN mn), .int (iN en), .int (iN k), .int (iN wh)]) ++ List.replicate (8 - (lg_sl ([.ref (gad G 59), .int (iN x0), .int (iN x1), .int (iN mn), .int (iN en), .int (iN k), .int (iN wh)])).length) Slot.unset).toArray = ls at hl ⊢
  have hl : lv_has ls 8 [(0, .ref (gad G 59)), (1, .int (iN x0)), (2, .int (iN x1)), (3, .int (iN mn)), (4, .int (iN en)), (5, .int (iN k)), (6, .int (iN wh))] := hl
  have hc10 : came ≤ 10 := p0.1
  have hn8 : ∀ i, i < came → pn i ≤ 8 := fun i hi => (p0.2 i hi).1.2
  refine lv_iload_n hx hb dX9_within_0 rfl (lv_at hl 1 rfl) ?_
  refine n_i2l hx hb (by omega) (by omega) dX9_within_1 ?_
  refine n_ldc2 (z := (-60000)) hx hb hown (hts (.constantLong RX9 227 (-60000)) (by decide +kernel)) (by decide) dX9_within_2 ?_
  refine n_ldc2 (z := (60000)) hx hb hown (hts (.constantLong RX9 229 (60000)) (by decide +kernel)) (by decide) dX9_within_5 ?_
  refine vp_callSi (W.runS (As := [.long (jN x0), .long (jN (-60000)), .long (jN 60000)]) (rest := []) ⟨hx, hb, hml, hown, hts⟩ (c_X9_in l x0 (-60000) (60000 : Int) (by omega) (by omega) (by omega)) (va_cwS 3 hts gX9_within_X9_in rfl rfl rfl (by decide +kernel) ⟨Nat.le_of_ble_eq_true rfl, Nat.le_of_ble_eq_true rfl⟩) ⟨fun _ _ _ _ q => q, fun _ _ _ => rfl⟩ rfl rfl hl.1 rfl (lv_room (Nat.le_of_ble_eq_true rfl)) dX9_within_8 ⟨Nat.zero_le _, Nat.zero_le _⟩) (fun r_1 hr_1 => ?_)
  rw [show r_1 = iN (if ((-60000) ≤ x0 ∧ x0 ≤ (60000 : Int)) then 1 else 0) from hr_1]
  refine n_ifb_eq (tgt := 49) hx hb dX9_within_11 (by decide) (fun c_11 => ?_) (fun c_11 => ?_)
  · refine n_ldc (z := (-100002)) hx hb hown (hts (.constant RX9 73 (-100002)) (by decide +kernel)) (by decide) dX9_within_49 ?_
    exact r_i hx hb hr dX9_within_51 hlocks hP hS ⟨(show iN (-100002) = iN _ by rw [if_neg (show ¬ ((-60000 ≤ x0 ∧ x0 ≤ 60000) ∧ (x0 ≤ x1 ∧ x1 ≤ 60000) ∧ (1 ≤ mn ∧ mn ≤ 10) ∧ (1 ≤ en ∧ en ≤ 600) ∧ 0 ≤ wh ∧ wh ≤ 3) by omega)]), tm, tN, tD, sq, sN, sD, (thg), (onn), (two), (lw), (hg), (fun k _ _ _ _ _ => rfl), e0, e6, e7, e8, e9, (by omega), (by omega)⟩
  · refine lv_iload_n hx hb dX9_within_14 rfl (lv_at hl 2 rfl) ?_
    refine n_i2l hx hb (by omega) (by omega) dX9_within_15 ?_
    refine lv_iload_n hx hb dX9_within_16 rfl (lv_at hl 1 rfl) ?_
    refine n_i2l hx hb (by omega) (by omega) dX9_within_17 ?_
    refine n_ldc2 (z := (60000)) hx hb hown (hts (.constantLong RX9 229 (60000)) (by decide +kernel)) (by decide) dX9_within_18 ?_
    refine vp_callSi (W.runS (As := [.long (jN x1), .long (jN x0), .long (jN 60000)]) (rest := []) ⟨hx, hb, hml, hown, hts⟩ (c_X9_in l x1 x0 (60000 : Int) (by omega) (by omega) (by omega)) (va_cwS 3 hts gX9_within_X9_in rfl rfl rfl (by decide +kernel) ⟨Nat.le_of_ble_eq_true rfl, Nat.le_of_ble_eq_true rfl⟩) ⟨fun _ _ _ _ q => q, fun _ _ _ => rfl⟩ rfl rfl hl.1 rfl (lv_room (Nat.le_of_ble_eq_true rfl)) dX9_within_21 ⟨Nat.zero_le _, Nat.zero_le _⟩) (fun r_2 hr_2 => ?_)
    rw [show r_2 = iN (if (x0 ≤ x1 ∧ x1 ≤ (60000 : Int)) then 1 else 0) from hr_2]
    refine n_ifb_eq (tgt := 49) hx hb dX9_within_24 (by decide) (fun c_24 => ?_) (fun c_24 => ?_)
    · refine n_ldc (z := (-100002)) hx hb hown (hts (.constant RX9 73 (-100002)) (by decide +kernel)) (by decide) dX9_within_49 ?_
      exact r_i hx hb hr dX9_within_51 hlocks hP hS ⟨(show iN (-100002) = iN _ by rw [if_neg (show ¬ ((-60000 ≤ x0 ∧ x0 ≤ 60000) ∧ (x0 ≤ x1 ∧ x1 ≤ 60000) ∧ (1 ≤ mn ∧ mn ≤ 10) ∧ (1 ≤ en ∧ en ≤ 600) ∧ 0 ≤ wh ∧ wh ≤ 3) by omega)]), tm, tN, tD, sq, sN, sD, (thg), (onn), (two), (lw), (hg), (fun k _ _ _ _ _ => rfl), e0, e6, e7, e8, e9, (by omega), (by omega)⟩
    · refine lv_iload_n hx hb dX9_within_27 rfl (lv_at hl 3 rfl) ?_
      refine n_i2l hx hb (by omega) (by omega) dX9_within_28 ?_
      refine n_lconst (z := 1) hx hb dX9_within_29 (by decide) ?_
      refine n_ldc2 (z := (10)) hx hb hown (hts (.constantLong RX9 231 (10)) (by decide +kernel)) (by decide) dX9_within_30 ?_
      refine vp_callSi (W.runS (As := [.long (jN mn), .long (jN 1), .long (jN 10)]) (rest := []) ⟨hx, hb, hml, hown, hts⟩ (c_X9_in l mn (1 : Int) (10 : Int) (by omega) (by omega) (by omega)) (va_cwS 3 hts gX9_within_X9_in rfl rfl rfl (by decide +kernel) ⟨Nat.le_of_ble_eq_true rfl, Nat.le_of_ble_eq_true rfl⟩) ⟨fun _ _ _ _ q => q, fun _ _ _ => rfl⟩ rfl rfl hl.1 rfl (lv_room (Nat.le_of_ble_eq_true rfl)) dX9_within_33 ⟨Nat.zero_le _, Nat.zero_le _⟩) (fun r_3 hr_3 => ?_)
      rw [show r_3 = iN (if ((1 : Int) ≤ mn ∧ mn ≤ (10 : Int)) then 1 else 0) from hr_3]
      refine n_ifb_eq (tgt := 49) hx hb dX9_within_36 (by decide) (fun c_36 => ?_) (fun c_36 => ?_)
      · refine n_ldc (z := (-100002)) hx hb hown (hts (.constant RX9 73 (-100002)) (by decide +kernel)) (by decide) dX9_within_49 ?_
        exact r_i hx hb hr dX9_within_51 hlocks hP hS ⟨(show iN (-100002) = iN _ by rw [if_neg (show ¬ ((-60000 ≤ x0 ∧ x0 ≤ 60000) ∧ (x0 ≤ x1 ∧ x1 ≤ 60000) ∧ (1 ≤ mn ∧ mn ≤ 10) ∧ (1 ≤ en ∧ en ≤ 600) ∧ 0 ≤ wh ∧ wh ≤ 3) by omega)]), tm, tN, tD, sq, sN, sD, (thg), (onn), (two), (lw), (hg), (fun k _ _ _ _ _ => rfl), e0, e6, e7, e8, e9, (by omega), (by omega)⟩
      · refine lv_iload hx hb dX9_within_39 (lv_at hl 4 rfl) ?_
        refine lv_iload hx hb dX9_within_41 (lv_at hl 6 rfl) ?_
        refine vp_callSi (W.runS (As := [.int (iN en), .int (iN wh)]) (rest := []) ⟨hx, hb, hml, hown, hts⟩ (c_X9_isAsked l en wh (p6) (p8)) (va_cwS 2 hts gX9_within_X9_isAsked rfl rfl rfl (by decide +kernel) ⟨Nat.le_of_ble_eq_true rfl, Nat.le_of_ble_eq_true rfl⟩) ⟨fun _ _ _ _ q => q, fun _ _ _ => rfl⟩ rfl rfl hl.1 rfl (lv_room (Nat.le_of_ble_eq_true rfl)) dX9_within_43 ⟨Nat.zero_le _, Nat.zero_le _⟩) (fun r_4 hr_4 => ?_)
        rw [show r_4 = iN (if (1 ≤ en ∧ en ≤ 600) ∧ 0 ≤ wh ∧ wh ≤ 3 then 1 else 0) from hr_4]
        refine n_ifb_ne (tgt := 52) hx hb dX9_within_46 (by decide) (fun c_46 => ?_) (fun c_46 => ?_)
        · refine lv_aload_n hx hb dX9_within_52 rfl (lv_at hl 0 rfl) ?_
          refine n_iconst hx hb dX9_within_53 ?_
          refine f_put (v := .int (iN 2)) (ty := .int) (C := RX9) (T := TX9) (N := 26) hx hb hts (by decide +kernel) tyX9 tyX9_ok nmX9 hown hK hP hS hAA 59 (by omega) e0 rfl 18 (by decide) (hts (.fieldLink RX9 182 "KeptMovingModel" "thing" "I") (by decide +kernel)) (fun _ h9 => h9) rfl (by decide +kernel) (rfl) (rfl) (Nat.le_of_ble_eq_true rfl) (rfl) dX9_within_54 (fun H locs hP hS => ?_)
          have hP : PW G (va_up w 59 (.inr (8, [.int (iN ((now : Nat) : Int)), .int (iN ((came : Nat) : Int)), .ref (gad G 60), .ref (gad G 61), .ref (gad G 62), .ref (gad G 63), .ref (gad G 64), .ref (gad G 65), .int (iN ((rm : Nat) : Int)), .int (iN ((mt : Nat) : Int)), .ref (gad G 66), .ref (gad G 67), .ref (gad G 68), .ref (gad G 69), .ref (gad G 70), .int (iN ((tm : Nat) : Int)), .ref (gad G 71), .ref (gad G 72), .int (iN 2), .int (iN onn), .int (iN two), .long (jN lw), .long (jN hg), .int (iN ((sq : Nat) : Int)), .ref (gad G 73), .ref (gad G 74)]))) H := hP
          obtain ⟨w_5, hw_6⟩ : ∃ z : WF, z = va_up w 59 (.inr (8, [.int (iN ((now : Nat) : Int)), .int (iN ((came : Nat) : Int)), .ref (gad G 60), .ref (gad G 61), .ref (gad G 62), .ref (gad G 63), .ref (gad G 64), .ref (gad G 65), .int (iN ((rm : Nat) : Int)), .int (iN ((mt : Nat) : Int)), .ref (gad G 66), .ref (gad G 67), .ref (gad G 68), .ref (gad G 69), .ref (gad G 70), .int (iN ((tm : Nat) : Int)), .ref (gad G 71), .ref (gad G 72), .int (iN 2), .int (iN onn), .int (iN two), .long (jN lw), .long (jN hg), .int (iN ((sq : Nat) : Int)), .ref (gad G 73), .ref (gad G 74)])) := ⟨_, rfl⟩
          rw [← hw_6] at hP
          have fr_7 : ∀ k : Nat, k ≠ 59 → w_5 k = w k := fun k h => by rw [hw_6]; exact va_up_ne _ _ h
          have e_8 : w_5 59 = .inr (8, [.int (iN ((now : Nat) : Int)), .int (iN ((came : Nat) : Int)), .ref (gad G 60), .ref (gad G 61), .ref (gad G 62), .ref (gad G 63), .ref (gad G 64), .ref (gad G 65), .int (iN ((rm : Nat) : Int)), .int (iN ((mt : Nat) : Int)), .ref (gad G 66), .ref (gad G 67), .ref (gad G 68), .ref (gad G 69), .ref (gad G 70), .int (iN ((tm : Nat) : Int)), .ref (gad G 71), .ref (gad G 72), .int (iN 2), .int (iN onn), .int (iN two), .long (jN lw), .long (jN hg), .int (iN ((sq : Nat) : Int)), .ref (gad G 73), .ref (gad G 74)]) := by rw [hw_6]; exact va_up_self _ _ _
          have e_9 : w_5 60 = .inl (gI G, 10, .inl (aN ga)) := (fr_7 60 (by omega)).trans e1
          have e_10 : w_5 61 = .inl (gI G, 10, .inl (aN (pnI pn))) := (fr_7 61 (by omega)).trans e2
          have e_11 : w_5 62 = .inl (gI G, 80, .inl (aN mbe)) := (fr_7 62 (by omega)).trans e3
          have e_12 : w_5 63 = .inl (gI G, 80, .inl (aN mpl)) := (fr_7 63 (by omega)).trans e4
          have e_13 : w_5 64 = .inl (gI G, 80, .inl (aN msp)) := (fr_7 64 (by omega)).trans e5
          have e_14 : w_5 71 = .inl (gJ G, 700, .inr (.inl (aJ tN))) := (fr_7 71 (by omega)).trans e6
          have e_15 : w_5 72 = .inl (gJ G, 700, .inr (.inl (aJ tD))) := (fr_7 72 (by omega)).trans e7
          have e_16 : w_5 73 = .inl (gJ G, 1400, .inr (.inl (aJ sN))) := (fr_7 73 (by omega)).trans e8
          have e_17 : w_5 74 = .inl (gJ G, 1400, .inr (.inl (aJ sD))) := (fr_7 74 (by omega)).trans e9
          refine lv_aload_n hx hb dX9_within_57 rfl (lv_at hl 0 rfl) ?_
          refine lv_iload_n hx hb dX9_within_58 rfl (lv_at hl 3 rfl) ?_
          refine f_put (v := .int (iN mn)) (ty := .int) (C := RX9) (T := TX9) (N := 26) hx hb hts (by decide +kernel) tyX9 tyX9_ok nmX9 hown hK hP hS hAA 59 (by omega) e_8 rfl 19 (by decide) (hts (.fieldLink RX9 185 "KeptMovingModel" "one" "I") (by decide +kernel)) (fun _ h9 => h9) rfl (by decide +kernel) (rfl) (rfl) (Nat.le_of_ble_eq_true rfl) (rfl) dX9_within_59 (fun H locs hP hS => ?_)
          have hP : PW G (va_up w_5 59 (.inr (8, [.int (iN ((now : Nat) : Int)), .int (iN ((came : Nat) : Int)), .ref (gad G 60), .ref (gad G 61), .ref (gad G 62), .ref (gad G 63), .ref (gad G 64), .ref (gad G 65), .int (iN ((rm : Nat) : Int)), .int (iN ((mt : Nat) : Int)), .ref (gad G 66), .ref (gad G 67), .ref (gad G 68), .ref (gad G 69), .ref (gad G 70), .int (iN ((tm : Nat) : Int)), .ref (gad G 71), .ref (gad G 72), .int (iN 2), .int (iN mn), .int (iN two), .long (jN lw), .long (jN hg), .int (iN ((sq : Nat) : Int)), .ref (gad G 73), .ref (gad G 74)]))) H := hP
          obtain ⟨w_18, hw_19⟩ : ∃ z : WF, z = va_up w_5 59 (.inr (8, [.int (iN ((now : Nat) : Int)), .int (iN ((came : Nat) : Int)), .ref (gad G 60), .ref (gad G 61), .ref (gad G 62), .ref (gad G 63), .ref (gad G 64), .ref (gad G 65), .int (iN ((rm : Nat) : Int)), .int (iN ((mt : Nat) : Int)), .ref (gad G 66), .ref (gad G 67), .ref (gad G 68), .ref (gad G 69), .ref (gad G 70), .int (iN ((tm : Nat) : Int)), .ref (gad G 71), .ref (gad G 72), .int (iN 2), .int (iN mn), .int (iN two), .long (jN lw), .long (jN hg), .int (iN ((sq : Nat) : Int)), .ref (gad G 73), .ref (gad G 74)])) := ⟨_, rfl⟩
          rw [← hw_19] at hP
          have fr_20 : ∀ k : Nat, k ≠ 59 → w_18 k = w_5 k := fun k h => by rw [hw_19]; exact va_up_ne _ _ h
          have e_21 : w_18 59 = .inr (8, [.int (iN ((now : Nat) : Int)), .int (iN ((came : Nat) : Int)), .ref (gad G 60), .ref (gad G 61), .ref (gad G 62), .ref (gad G 63), .ref (gad G 64), .ref (gad G 65), .int (iN ((rm : Nat) : Int)), .int (iN ((mt : Nat) : Int)), .ref (gad G 66), .ref (gad G 67), .ref (gad G 68), .ref (gad G 69), .ref (gad G 70), .int (iN ((tm : Nat) : Int)), .ref (gad G 71), .ref (gad G 72), .int (iN 2), .int (iN mn), .int (iN two), .long (jN lw), .long (jN hg), .int (iN ((sq : Nat) : Int)), .ref (gad G 73), .ref (gad G 74)]) := by rw [hw_19]; exact va_up_self _ _ _
          have e_22 : w_18 60 = .inl (gI G, 10, .inl (aN ga)) := (fr_20 60 (by omega)).trans e_9
          have e_23 : w_18 61 = .inl (gI G, 10, .inl (aN (pnI pn))) := (fr_20 61 (by omega)).trans e_10
          have e_24 : w_18 62 = .inl (gI G, 80, .inl (aN mbe)) := (fr_20 62 (by omega)).trans e_11
          have e_25 : w_18 63 = .inl (gI G, 80, .inl (aN mpl)) := (fr_20 63 (by omega)).trans e_12
          have e_26 : w_18 64 = .inl (gI G, 80, .inl (aN msp)) := (fr_20 64 (by omega)).trans e_13
          have e_27 : w_18 71 = .inl (gJ G, 700, .inr (.inl (aJ tN))) := (fr_20 71 (by omega)).trans e_14
          have e_28 : w_18 72 = .inl (gJ G, 700, .inr (.inl (aJ tD))) := (fr_20 72 (by omega)).trans e_15
          have e_29 : w_18 73 = .inl (gJ G, 1400, .inr (.inl (aJ sN))) := (fr_20 73 (by omega)).trans e_16
          have e_30 : w_18 74 = .inl (gJ G, 1400, .inr (.inl (aJ sD))) := (fr_20 74 (by omega)).trans e_17
          refine lv_aload_n hx hb dX9_within_62 rfl (lv_at hl 0 rfl) ?_
          refine lv_iload_n hx hb dX9_within_63 rfl (lv_at hl 1 rfl) ?_
          refine n_i2l hx hb (by omega) (by omega) dX9_within_64 ?_
          refine f_put (v := .long (jN x0)) (ty := .long) (C := RX9) (T := TX9) (N := 26) hx hb hts (by decide +kernel) tyX9 tyX9_ok nmX9 hown hK hP hS hAA 59 (by omega) e_21 rfl 21 (by decide) (hts (.fieldLink RX9 195 "KeptMovingModel" "low" "J") (by decide +kernel)) (fun _ h9 => h9) rfl (by decide +kernel) (rfl) (rfl) (Nat.le_of_ble_eq_true rfl) (rfl) dX9_within_65 (fun H locs hP hS => ?_)
          have hP : PW G (va_up w_18 59 (.inr (8, [.int (iN ((now : Nat) : Int)), .int (iN ((came : Nat) : Int)), .ref (gad G 60), .ref (gad G 61), .ref (gad G 62), .ref (gad G 63), .ref (gad G 64), .ref (gad G 65), .int (iN ((rm : Nat) : Int)), .int (iN ((mt : Nat) : Int)), .ref (gad G 66), .ref (gad G 67), .ref (gad G 68), .ref (gad G 69), .ref (gad G 70), .int (iN ((tm : Nat) : Int)), .ref (gad G 71), .ref (gad G 72), .int (iN 2), .int (iN mn), .int (iN two), .long (jN x0), .long (jN hg), .int (iN ((sq : Nat) : Int)), .ref (gad G 73), .ref (gad G 74)]))) H := hP
          obtain ⟨w_31, hw_32⟩ : ∃ z : WF, z = va_up w_18 59 (.inr (8, [.int (iN ((now : Nat) : Int)), .int (iN ((came : Nat) : Int)), .ref (gad G 60), .ref (gad G 61), .ref (gad G 62), .ref (gad G 63), .ref (gad G 64), .ref (gad G 65), .int (iN ((rm : Nat) : Int)), .int (iN ((mt : Nat) : Int)), .ref (gad G 66), .ref (gad G 67), .ref (gad G 68), .ref (gad G 69), .ref (gad G 70), .int (iN ((tm : Nat) : Int)), .ref (gad G 71), .ref (gad G 72), .int (iN 2), .int (iN mn), .int (iN two), .long (jN x0), .long (jN hg), .int (iN ((sq : Nat) : Int)), .ref (gad G 73), .ref (gad G 74)])) := ⟨_, rfl⟩
          rw [← hw_32] at hP
          have fr_33 : ∀ k : Nat, k ≠ 59 → w_31 k = w_18 k := fun k h => by rw [hw_32]; exact va_up_ne _ _ h
          have e_34 : w_31 59 = .inr (8, [.int (iN ((now : Nat) : Int)), .int (iN ((came : Nat) : Int)), .ref (gad G 60), .ref (gad G 61), .ref (gad G 62), .ref (gad G 63), .ref (gad G 64), .ref (gad G 65), .int (iN ((rm : Nat) : Int)), .int (iN ((mt : Nat) : Int)), .ref (gad G 66), .ref (gad G 67), .ref (gad G 68), .ref (gad G 69), .ref (gad G 70), .int (iN ((tm : Nat) : Int)), .ref (gad G 71), .ref (gad G 72), .int (iN 2), .int (iN mn), .int (iN two), .long (jN x0), .long (jN hg), .int (iN ((sq : Nat) : Int)), .ref (gad G 73), .ref (gad G 74)]) := by rw [hw_32]; exact va_up_self _ _ _
          have e_35 : w_31 60 = .inl (gI G, 10, .inl (aN ga)) := (fr_33 60 (by omega)).trans e_22
          have e_36 : w_31 61 = .inl (gI G, 10, .inl (aN (pnI pn))) := (fr_33 61 (by omega)).trans e_23
          have e_37 : w_31 62 = .inl (gI G, 80, .inl (aN mbe)) := (fr_33 62 (by omega)).trans e_24
          have e_38 : w_31 63 = .inl (gI G, 80, .inl (aN mpl)) := (fr_33 63 (by omega)).trans e_25
          have e_39 : w_31 64 = .inl (gI G, 80, .inl (aN msp)) := (fr_33 64 (by omega)).trans e_26
          have e_40 : w_31 71 = .inl (gJ G, 700, .inr (.inl (aJ tN))) := (fr_33 71 (by omega)).trans e_27
          have e_41 : w_31 72 = .inl (gJ G, 700, .inr (.inl (aJ tD))) := (fr_33 72 (by omega)).trans e_28
          have e_42 : w_31 73 = .inl (gJ G, 1400, .inr (.inl (aJ sN))) := (fr_33 73 (by omega)).trans e_29
          have e_43 : w_31 74 = .inl (gJ G, 1400, .inr (.inl (aJ sD))) := (fr_33 74 (by omega)).trans e_30
          refine lv_aload_n hx hb dX9_within_68 rfl (lv_at hl 0 rfl) ?_
          refine lv_iload_n hx hb dX9_within_69 rfl (lv_at hl 2 rfl) ?_
          refine n_i2l hx hb (by omega) (by omega) dX9_within_70 ?_
          refine f_put (v := .long (jN x1)) (ty := .long) (C := RX9) (T := TX9) (N := 26) hx hb hts (by decide +kernel) tyX9 tyX9_ok nmX9 hown hK hP hS hAA 59 (by omega) e_34 rfl 22 (by decide) (hts (.fieldLink RX9 191 "KeptMovingModel" "high" "J") (by decide +kernel)) (fun _ h9 => h9) rfl (by decide +kernel) (rfl) (rfl) (Nat.le_of_ble_eq_true rfl) (rfl) dX9_within_71 (fun H locs hP hS => ?_)
          have hP : PW G (va_up w_31 59 (.inr (8, [.int (iN ((now : Nat) : Int)), .int (iN ((came : Nat) : Int)), .ref (gad G 60), .ref (gad G 61), .ref (gad G 62), .ref (gad G 63), .ref (gad G 64), .ref (gad G 65), .int (iN ((rm : Nat) : Int)), .int (iN ((mt : Nat) : Int)), .ref (gad G 66), .ref (gad G 67), .ref (gad G 68), .ref (gad G 69), .ref (gad G 70), .int (iN ((tm : Nat) : Int)), .ref (gad G 71), .ref (gad G 72), .int (iN 2), .int (iN mn), .int (iN two), .long (jN x0), .long (jN x1), .int (iN ((sq : Nat) : Int)), .ref (gad G 73), .ref (gad G 74)]))) H := hP
          obtain ⟨w_44, hw_45⟩ : ∃ z : WF, z = va_up w_31 59 (.inr (8, [.int (iN ((now : Nat) : Int)), .int (iN ((came : Nat) : Int)), .ref (gad G 60), .ref (gad G 61), .ref (gad G 62), .ref (gad G 63), .ref (gad G 64), .ref (gad G 65), .int (iN ((rm : Nat) : Int)), .int (iN ((mt : Nat) : Int)), .ref (gad G 66), .ref (gad G 67), .ref (gad G 68), .ref (gad G 69), .ref (gad G 70), .int (iN ((tm : Nat) : Int)), .ref (gad G 71), .ref (gad G 72), .int (iN 2), .int (iN mn), .int (iN two), .long (jN x0), .long (jN x1), .int (iN ((sq : Nat) : Int)), .ref (gad G 73), .ref (gad G 74)])) := ⟨_, rfl⟩
          rw [← hw_45] at hP
          have fr_46 : ∀ k : Nat, k ≠ 59 → w_44 k = w_31 k := fun k h => by rw [hw_45]; exact va_up_ne _ _ h
          have e_47 : w_44 59 = .inr (8, [.int (iN ((now : Nat) : Int)), .int (iN ((came : Nat) : Int)), .ref (gad G 60), .ref (gad G 61), .ref (gad G 62), .ref (gad G 63), .ref (gad G 64), .ref (gad G 65), .int (iN ((rm : Nat) : Int)), .int (iN ((mt : Nat) : Int)), .ref (gad G 66), .ref (gad G 67), .ref (gad G 68), .ref (gad G 69), .ref (gad G 70), .int (iN ((tm : Nat) : Int)), .ref (gad G 71), .ref (gad G 72), .int (iN 2), .int (iN mn), .int (iN two), .long (jN x0), .long (jN x1), .int (iN ((sq : Nat) : Int)), .ref (gad G 73), .ref (gad G 74)]) := by rw [hw_45]; exact va_up_self _ _ _
          have e_48 : w_44 60 = .inl (gI G, 10, .inl (aN ga)) := (fr_46 60 (by omega)).trans e_35
          have e_49 : w_44 61 = .inl (gI G, 10, .inl (aN (pnI pn))) := (fr_46 61 (by omega)).trans e_36
          have e_50 : w_44 62 = .inl (gI G, 80, .inl (aN mbe)) := (fr_46 62 (by omega)).trans e_37
          have e_51 : w_44 63 = .inl (gI G, 80, .inl (aN mpl)) := (fr_46 63 (by omega)).trans e_38
          have e_52 : w_44 64 = .inl (gI G, 80, .inl (aN msp)) := (fr_46 64 (by omega)).trans e_39
          have e_53 : w_44 71 = .inl (gJ G, 700, .inr (.inl (aJ tN))) := (fr_46 71 (by omega)).trans e_40
          have e_54 : w_44 72 = .inl (gJ G, 700, .inr (.inl (aJ tD))) := (fr_46 72 (by omega)).trans e_41
          have e_55 : w_44 73 = .inl (gJ G, 1400, .inr (.inl (aJ sN))) := (fr_46 73 (by omega)).trans e_42
          have e_56 : w_44 74 = .inl (gJ G, 1400, .inr (.inl (aJ sD))) := (fr_46 74 (by omega)).trans e_43
          refine lv_aload_n hx hb dX9_within_74 rfl (lv_at hl 0 rfl) ?_
          refine lv_iload hx hb dX9_within_75 (lv_at hl 4 rfl) ?_
          refine f_callv (W.runV (As := [.int (iN en)]) (rest := []) ⟨hx, hb, hml, hown, hts⟩ (c_X9_beginTimes l G w_44 now came rm mt tm (2 : Int) mn two x0 x1 sq ga pn mbe mpl msp tN tD en e_47 e_48 e_49 e_50 e_51 e_52 e_53 e_54 (p0) (by omega)) (cwV 1 hts gX9_within_X9_beginTimes rfl rfl rfl (by decide +kernel) ⟨Nat.le_of_ble_eq_true rfl, Nat.le_of_ble_eq_true rfl⟩) (f_preV hP hK 59 (by omega) 8 e_47 rfl) rfl rfl hl.1 rfl (lv_room (Nat.le_of_ble_eq_true rfl)) dX9_within_77 ⟨Nat.zero_le _, Nat.zero_le _⟩) hS hAA (fun w_57 H locs q_58 hP hS => ?_)
          obtain ⟨tm2_59, tN2_60, tD2_61, fr_62, e_63, e_64, e_65, q_66⟩ := q_58
          have e_67 : w_57 60 = .inl (gI G, 10, .inl (aN ga)) := (fr_62 60 (by omega) (by omega) (by omega)).trans e_48
          have e_68 : w_57 61 = .inl (gI G, 10, .inl (aN (pnI pn))) := (fr_62 61 (by omega) (by omega) (by omega)).trans e_49
          have e_69 : w_57 62 = .inl (gI G, 80, .inl (aN mbe)) := (fr_62 62 (by omega) (by omega) (by omega)).trans e_50
          have e_70 : w_57 63 = .inl (gI G, 80, .inl (aN mpl)) := (fr_62 63 (by omega) (by omega) (by omega)).trans e_51
          have e_71 : w_57 64 = .inl (gI G, 80, .inl (aN msp)) := (fr_62 64 (by omega) (by omega) (by omega)).trans e_52
          have e_72 : w_57 73 = .inl (gJ G, 1400, .inr (.inl (aJ sN))) := (fr_62 73 (by omega) (by omega) (by omega)).trans e_55
          have e_73 : w_57 74 = .inl (gJ G, 1400, .inr (.inl (aJ sD))) := (fr_62 74 (by omega) (by omega) (by omega)).trans e_56
          have e_74 : w_57 59 = .inr (8, [.int (iN ((now : Nat) : Int)), .int (iN ((came : Nat) : Int)), .ref (gad G 60), .ref (gad G 61), .ref (gad G 62), .ref (gad G 63), .ref (gad G 64), .ref (gad G 65), .int (iN ((rm : Nat) : Int)), .int (iN ((mt : Nat) : Int)), .ref (gad G 66), .ref (gad G 67), .ref (gad G 68), .ref (gad G 69), .ref (gad G 70), .int (iN ((tm2_59 : Nat) : Int)), .ref (gad G 71), .ref (gad G 72), .int (iN (2 : Int)), .int (iN mn), .int (iN two), .long (jN x0), .long (jN x1), .int (iN ((sq : Nat) : Int)), .ref (gad G 73), .ref (gad G 74)]) := e_63
          have e_75 : w_57 71 = .inl (gJ G, 700, .inr (.inl (aJ tN2_60))) := e_64
          have e_76 : w_57 72 = .inl (gJ G, 700, .inr (.inl (aJ tD2_61))) := e_65
          refine n_iconst hx hb dX9_within_80 ?_
          refine lv_istore (lv' := [(7, .int (iN 0)), (0, .ref (gad G 59)), (1, .int (iN x0)), (2, .int (iN x1)), (3, .int (iN mn)), (4, .int (iN en)), (5, .int (iN k)), (6, .int (iN wh))]) hx hb dX9_within_81 hl (by decide) rfl (fun ls hl => ?_)
          have K83 : ∀ (N : Nat) (j : Nat) (tm2 : Nat) (tN2 : Nat → Int) (tD2 : Nat → Int) (w2 : WF) (H : Heap) (locs : List Loc) (ls : Array Slot), (j ≤ came) → (isT (wiT (rw8 mbe, rw8 mpl, rw8 msp, pn, ga) en x0 x1 came j) tm2 tN2 tD2) → 11 - j < N → w2 59 = .inr (8, [.int (iN ((now : Nat) : Int)), .int (iN ((came : Nat) : Int)), .ref (gad G 60), .ref (gad G 61), .ref (gad G 62), .ref (gad G 63), .ref (gad G 64), .ref (gad G 65), .int (iN ((rm : Nat) : Int)), .int (iN ((mt : Nat) : Int)), .ref (gad G 66), .ref (gad G 67), .ref (gad G 68), .ref (gad G 69), .ref (gad G 70), .int (iN ((tm2 : Nat) : Int)), .ref (gad G 71), .ref (gad G 72), .int (iN 2), .int (iN mn), .int (iN two), .long (jN x0), .long (jN x1), .int (iN ((sq : Nat) : Int)), .ref (gad G 73), .ref (gad G 74)]) → w2 71 = .inl (gJ G, 700, .inr (.inl (aJ tN2))) → w2 72 = .inl (gJ G, 700, .inr (.inl (aJ tD2))) → (∀ k : Nat, k ≠ 59 → k ≠ 71 → k ≠ 72 → w2 k = w k) → PW G w2 H → va_S (AA G) s.heap H locs → lv_has ls 8 [(0, .ref (gad G 59)), (1, .int (iN x0)), (2, .int (iN x1)), (3, .int (iN mn)), (4, .int (iN en)), (5, .int (iN k)), (6, .int (iN wh)), (7, .int (iN ((j : Nat) : Int)))] → W p l e (headSpec wsX9_within ({ frames := 4, cells := 0, slots := 0, locals := 103 })).room s m (([.ref (gad G 59), .int (iN x0), .int (iN x1), .int (iN mn), .int (iN en), .int (iN k), .int (iN wh)] : List Value).toArray) below meth c H locs 0 0 (MQ below (QI G (fun r w1 => r = iN (if (-60000 ≤ x0 ∧ x0 ≤ 60000) ∧ (x0 ≤ x1 ∧ x1 ≤ 60000) ∧ (1 ≤ mn ∧ mn ≤ 10) ∧ (1 ≤ en ∧ en ≤ 600) ∧ 0 ≤ wh ∧ wh ≤ 3 then ansW (fsG (fun n d => decide (mn ≤ ((mnR (rw8 mbe, rw8 mpl, rw8 msp, pn, ga) x0 x1 n d came : Nat) : Int))) (wiT (rw8 mbe, rw8 mpl, rw8 msp, pn, ga) en x0 x1 came came)) k wh else -100002) ∧ ∃ (tm2 : Nat) (tN2 : Nat → Int) (tD2 : Nat → Int) (sq2 : Nat) (sN2 : Nat → Int) (sD2 : Nat → Int) (thg2 : Int) (onn2 : Int) (two2 : Int) (lw2 : Int) (hg2 : Int), (∀ k : Nat, k ≠ 59 → k ≠ 71 → k ≠ 72 → k ≠ 73 → k ≠ 74 → w1 k = w k) ∧ w1 59 = .inr (8, [.int (iN ((now : Nat) : Int)), .int (iN ((came : Nat) : Int)), .ref (gad G 60), .ref (gad G 61), .ref (gad G 62), .ref (gad G 63), .ref (gad G 64), .ref (gad G 65), .int (iN ((rm : Nat) : Int)), .int (iN ((mt : Nat) : Int)), .ref (gad G 66), .ref (gad G 67), .ref (gad G 68), .ref (gad G 69), .ref (gad G 70), .int (iN ((tm2 : Nat) : Int)), .ref (gad G 71), .ref (gad G 72), .int (iN thg2), .int (iN onn2), .int (iN two2), .long (jN lw2), .long (jN hg2), .int (iN ((sq2 : Nat) : Int)), .ref (gad G 73), .ref (gad G 74)]) ∧ w1 71 = .inl (gJ G, 700, .inr (.inl (aJ tN2))) ∧ w1 72 = .inl (gJ G, 700, .inr (.inl (aJ tD2))) ∧ w1 73 = .inl (gJ G, 1400, .inr (.inl (aJ sN2))) ∧ w1 74 = .inl (gJ G, 1400, .inr (.inl (aJ sD2))) ∧ (-60000 ≤ lw2 ∧ lw2 ≤ 60000) ∧ (-60000 ≤ hg2 ∧ hg2 ≤ 60000))) (([.ref (gad G 59), .int (iN x0), .int (iN x1), .int (iN mn), .int (iN en), .int (iN k), .int (iN wh)] : List Value).toArray) s 0 0 (AA G)) (F0 m 83 ls []) := by
            intro N
            induction N with
            | zero =>
              intros
              exfalso
              omega
            | succ N ih83 =>
              intro j tm2 tN2 tD2 w2 H locs ls i83_0 i83_1 hN83 f83_0 f83_1 f83_2 hfr83 hP hS hl
              have e_77 : w2 60 = .inl (gI G, 10, .inl (aN ga)) := by rw [hfr83 60 (by omega) (by omega) (by omega)]; exact e1
              have e_78 : w2 61 = .inl (gI G, 10, .inl (aN (pnI pn))) := by rw [hfr83 61 (by omega) (by omega) (by omega)]; exact e2
              have e_79 : w2 62 = .inl (gI G, 80, .inl (aN mbe)) := by rw [hfr83 62 (by omega) (by omega) (by omega)]; exact e3
              have e_80 : w2 63 = .inl (gI G, 80, .inl (aN mpl)) := by rw [hfr83 63 (by omega) (by omega) (by omega)]; exact e4
              have e_81 : w2 64 = .inl (gI G, 80, .inl (aN msp)) := by rw [hfr83 64 (by omega) (by omega) (by omega)]; exact e5
              have e_82 : w2 73 = .inl (gJ G, 1400, .inr (.inl (aJ sN))) := by rw [hfr83 73 (by omega) (by omega) (by omega)]; exact e8
              have e_83 : w2 74 = .inl (gJ G, 1400, .inr (.inl (aJ sD))) := by rw [hfr83 74 (by omega) (by omega) (by omega)]; exact e9
              refine lv_iload hx hb dX9_within_83 (lv_at hl 7 rfl) ?_
              refine lv_aload_n hx hb dX9_within_85 rfl (lv_at hl 0 rfl) ?_
              refine f_get (C := RX9) (T := TX9) (N := 26) hx hb hts (by decide +kernel) hown hK hP 59 (by omega) f83_0 rfl 1 (by decide) (hts (.fieldLink RX9 57 "KeptMovingModel" "points" "I") (by decide +kernel)) (fun _ h9 => h9) rfl dX9_within_86 ?_
              refine n_icmp_ge (tgt := 118) hx hb dX9_within_89 (by decide) (by omega) (by omega) (by omega) (by omega) (fun c_89 => ?_) (fun c_89 => ?_)
              · have hz9 : isT (wiT (rw8 mbe, rw8 mpl, rw8 msp, pn, ga) en x0 x1 came came) tm2 tN2 tD2 := by rw [show came = j by omega]; rw [show came = j by omega] at i83_1; exact i83_1
                have hl3 := wiT_len (S := (rw8 mbe, rw8 mpl, rw8 msp, pn, ga)) (en := en) (x0 := x0) (x1 := x1) hn8 came (Nat.le_refl _)
                refine lv_aload_n hx hb dX9_within_118 rfl (lv_at hl 0 rfl) ?_
                refine lv_iload hx hb dX9_within_119 (lv_at hl 5 rfl) ?_
                refine lv_iload hx hb dX9_within_121 (lv_at hl 6 rfl) ?_
                refine f_calli (W.runV (As := [.int (iN k), .int (iN wh)]) (rest := []) ⟨hx, hb, hml, hown, hts⟩ (c_X9_findSpans l G w2 (wiT (rw8 mbe, rw8 mpl, rw8 msp, pn, ga) en x0 x1 came came) now came rm mt tm2 (2 : Int) mn two x0 x1 sq ga pn mbe mpl msp tN2 tD2 sN sD k wh f83_0 e_77 e_78 e_79 e_80 e_81 f83_1 f83_2 e_82 e_83 (p0) (hz9) (by omega) (by omega) (by omega) (by omega) (by omega) (by omega) (by omega) (p7) (by omega)) (cwV 2 hts gX9_within_X9_findSpans rfl rfl rfl (by decide +kernel) ⟨Nat.le_of_ble_eq_true rfl, Nat.le_of_ble_eq_true rfl⟩) (f_preV hP hK 59 (by omega) 8 f83_0 rfl) rfl rfl hl.1 rfl (lv_room (Nat.le_of_ble_eq_true rfl)) dX9_within_123 ⟨Nat.zero_le _, Nat.zero_le _⟩) hS hAA (fun r_93 w_84 H locs q_85 hP hS => ?_)
                obtain ⟨hr_94, q_85⟩ := q_85
                obtain ⟨sq2_86, sN2_87, sD2_88, fr_89, e_90, e_91, e_92⟩ := q_85
                have e_95 : w_84 71 = .inl (gJ G, 700, .inr (.inl (aJ tN2))) := (fr_89 71 (by omega) (by omega) (by omega)).trans f83_1
                have e_96 : w_84 72 = .inl (gJ G, 700, .inr (.inl (aJ tD2))) := (fr_89 72 (by omega) (by omega) (by omega)).trans f83_2
                have e_97 : w_84 60 = .inl (gI G, 10, .inl (aN ga)) := (fr_89 60 (by omega) (by omega) (by omega)).trans e_77
                have e_98 : w_84 61 = .inl (gI G, 10, .inl (aN (pnI pn))) := (fr_89 61 (by omega) (by omega) (by omega)).trans e_78
                have e_99 : w_84 62 = .inl (gI G, 80, .inl (aN mbe)) := (fr_89 62 (by omega) (by omega) (by omega)).trans e_79
                have e_100 : w_84 63 = .inl (gI G, 80, .inl (aN mpl)) := (fr_89 63 (by omega) (by omega) (by omega)).trans e_80
                have e_101 : w_84 64 = .inl (gI G, 80, .inl (aN msp)) := (fr_89 64 (by omega) (by omega) (by omega)).trans e_81
                have e_102 : w_84 59 = .inr (8, [.int (iN ((now : Nat) : Int)), .int (iN ((came : Nat) : Int)), .ref (gad G 60), .ref (gad G 61), .ref (gad G 62), .ref (gad G 63), .ref (gad G 64), .ref (gad G 65), .int (iN ((rm : Nat) : Int)), .int (iN ((mt : Nat) : Int)), .ref (gad G 66), .ref (gad G 67), .ref (gad G 68), .ref (gad G 69), .ref (gad G 70), .int (iN ((tm2 : Nat) : Int)), .ref (gad G 71), .ref (gad G 72), .int (iN (2 : Int)), .int (iN mn), .int (iN two), .long (jN x0), .long (jN x1), .int (iN ((sq2_86 : Nat) : Int)), .ref (gad G 73), .ref (gad G 74)]) := e_90
                have e_103 : w_84 73 = .inl (gJ G, 1400, .inr (.inl (aJ sN2_87))) := e_91
                have e_104 : w_84 74 = .inl (gJ G, 1400, .inr (.inl (aJ sD2_88))) := e_92
                rw [show r_93 = iN (ansW (fsG (soX (rw8 mbe, rw8 mpl, rw8 msp, pn, ga) came (2 : Int) mn two x0 x1) ((wiT (rw8 mbe, rw8 mpl, rw8 msp, pn, ga) en x0 x1 came came))) k wh) from hr_94]
                exact r_i hx hb hr dX9_within_126 hlocks hP hS ⟨(congrArg iN (by rw [if_pos (show (-60000 ≤ x0 ∧ x0 ≤ 60000) ∧ (x0 ≤ x1 ∧ x1 ≤ 60000) ∧ (1 ≤ mn ∧ mn ≤ 10) ∧ (1 ≤ en ∧ en ≤ 600) ∧ 0 ≤ wh ∧ wh ≤ 3 by omega)]; rfl)), tm2, tN2, tD2, sq2_86, sN2_87, sD2_88, ((2 : Int)), (mn), (two), (x0), (x1), (fun k h0 h1 h2 h3 h4 => ((fr_89 k (by omega) (by omega) (by omega)).trans (hfr83 k (by omega) (by omega) (by omega)))), e_102, e_95, e_96, e_103, e_104, (by omega), (by omega)⟩
              · have hl1 := wiT_len (S := (rw8 mbe, rw8 mpl, rw8 msp, pn, ga)) (en := en) (x0 := x0) (x1 := x1) hn8 j (by omega)
                have hl2 := atL_len (rw8 mbe, rw8 mpl, rw8 msp, pn, ga) en x0 j (wiT (rw8 mbe, rw8 mpl, rw8 msp, pn, ga) en x0 x1 came j) (pn j)
                have hnj := hn8 j (by omega)
                refine lv_aload_n hx hb dX9_within_92 rfl (lv_at hl 0 rfl) ?_
                refine lv_iload hx hb dX9_within_93 (lv_at hl 7 rfl) ?_
                refine lv_iload_n hx hb dX9_within_95 rfl (lv_at hl 1 rfl) ?_
                refine n_i2l hx hb (by omega) (by omega) dX9_within_96 ?_
                refine lv_iload hx hb dX9_within_97 (lv_at hl 4 rfl) ?_
                refine f_callv (W.runV (As := [.int (iN ((j : Nat) : Int)), .long (jN x0), .int (iN en)]) (rest := []) ⟨hx, hb, hml, hown, hts⟩ (c_X9_addAt l G w2 (wiT (rw8 mbe, rw8 mpl, rw8 msp, pn, ga) en x0 x1 came j) now came rm mt tm2 (2 : Int) mn two x0 x1 sq ga pn mbe mpl msp tN2 tD2 j x0 en f83_0 e_77 e_78 e_79 e_80 e_81 f83_1 f83_2 (p0) (by omega) (i83_1) (by omega) (by omega) (by omega)) (cwV 3 hts gX9_within_X9_addAt rfl rfl rfl (by decide +kernel) ⟨Nat.le_of_ble_eq_true rfl, Nat.le_of_ble_eq_true rfl⟩) (f_preV hP hK 59 (by omega) 8 f83_0 rfl) rfl rfl hl.1 rfl (lv_room (Nat.le_of_ble_eq_true rfl)) dX9_within_99 ⟨Nat.zero_le _, Nat.zero_le _⟩) hS hAA (fun w_105 H locs q_106 hP hS => ?_)
                obtain ⟨tm2_107, tN2_108, tD2_109, fr_110, e_111, e_112, e_113, q_114⟩ := q_106
                have e_115 : w_105 60 = .inl (gI G, 10, .inl (aN ga)) := (fr_110 60 (by omega) (by omega) (by omega)).trans e_77
                have e_116 : w_105 61 = .inl (gI G, 10, .inl (aN (pnI pn))) := (fr_110 61 (by omega) (by omega) (by omega)).trans e_78
                have e_117 : w_105 62 = .inl (gI G, 80, .inl (aN mbe)) := (fr_110 62 (by omega) (by omega) (by omega)).trans e_79
                have e_118 : w_105 63 = .inl (gI G, 80, .inl (aN mpl)) := (fr_110 63 (by omega) (by omega) (by omega)).trans e_80
                have e_119 : w_105 64 = .inl (gI G, 80, .inl (aN msp)) := (fr_110 64 (by omega) (by omega) (by omega)).trans e_81
                have e_120 : w_105 73 = .inl (gJ G, 1400, .inr (.inl (aJ sN))) := (fr_110 73 (by omega) (by omega) (by omega)).trans e_82
                have e_121 : w_105 74 = .inl (gJ G, 1400, .inr (.inl (aJ sD))) := (fr_110 74 (by omega) (by omega) (by omega)).trans e_83
                have e_122 : w_105 59 = .inr (8, [.int (iN ((now : Nat) : Int)), .int (iN ((came : Nat) : Int)), .ref (gad G 60), .ref (gad G 61), .ref (gad G 62), .ref (gad G 63), .ref (gad G 64), .ref (gad G 65), .int (iN ((rm : Nat) : Int)), .int (iN ((mt : Nat) : Int)), .ref (gad G 66), .ref (gad G 67), .ref (gad G 68), .ref (gad G 69), .ref (gad G 70), .int (iN ((tm2_107 : Nat) : Int)), .ref (gad G 71), .ref (gad G 72), .int (iN (2 : Int)), .int (iN mn), .int (iN two), .long (jN x0), .long (jN x1), .int (iN ((sq : Nat) : Int)), .ref (gad G 73), .ref (gad G 74)]) := e_111
                have e_123 : w_105 71 = .inl (gJ G, 700, .inr (.inl (aJ tN2_108))) := e_112
                have e_124 : w_105 72 = .inl (gJ G, 700, .inr (.inl (aJ tD2_109))) := e_113
                refine lv_aload_n hx hb dX9_within_102 rfl (lv_at hl 0 rfl) ?_
                refine lv_iload hx hb dX9_within_103 (lv_at hl 7 rfl) ?_
                refine lv_iload_n hx hb dX9_within_105 rfl (lv_at hl 2 rfl) ?_
                refine n_i2l hx hb (by omega) (by omega) dX9_within_106 ?_
                refine lv_iload hx hb dX9_within_107 (lv_at hl 4 rfl) ?_
                refine f_callv (W.runV (As := [.int (iN ((j : Nat) : Int)), .long (jN x1), .int (iN en)]) (rest := []) ⟨hx, hb, hml, hown, hts⟩ (c_X9_addAt l G w_105 (atL (rw8 mbe, rw8 mpl, rw8 msp, pn, ga) en x0 j (pn j) (wiT (rw8 mbe, rw8 mpl, rw8 msp, pn, ga) en x0 x1 came j)) now came rm mt tm2_107 (2 : Int) mn two x0 x1 sq ga pn mbe mpl msp tN2_108 tD2_109 j x1 en e_122 e_115 e_116 e_117 e_118 e_119 e_123 e_124 (p0) (by omega) (q_114) (by omega) (by omega) (by omega)) (cwV 3 hts gX9_within_X9_addAt rfl rfl rfl (by decide +kernel) ⟨Nat.le_of_ble_eq_true rfl, Nat.le_of_ble_eq_true rfl⟩) (f_preV hP hK 59 (by omega) 8 e_122 rfl) rfl rfl hl.1 rfl (lv_room (Nat.le_of_ble_eq_true rfl)) dX9_within_109 ⟨Nat.zero_le _, Nat.zero_le _⟩) hS hAA (fun w_125 H locs q_126 hP hS => ?_)
                obtain ⟨tm2_127, tN2_128, tD2_129, fr_130, e_131, e_132, e_133, q_134⟩ := q_126
                have e_135 : w_125 60 = .inl (gI G, 10, .inl (aN ga)) := (fr_130 60 (by omega) (by omega) (by omega)).trans e_115
                have e_136 : w_125 61 = .inl (gI G, 10, .inl (aN (pnI pn))) := (fr_130 61 (by omega) (by omega) (by omega)).trans e_116
                have e_137 : w_125 62 = .inl (gI G, 80, .inl (aN mbe)) := (fr_130 62 (by omega) (by omega) (by omega)).trans e_117
                have e_138 : w_125 63 = .inl (gI G, 80, .inl (aN mpl)) := (fr_130 63 (by omega) (by omega) (by omega)).trans e_118
                have e_139 : w_125 64 = .inl (gI G, 80, .inl (aN msp)) := (fr_130 64 (by omega) (by omega) (by omega)).trans e_119
                have e_140 : w_125 73 = .inl (gJ G, 1400, .inr (.inl (aJ sN))) := (fr_130 73 (by omega) (by omega) (by omega)).trans e_120
                have e_141 : w_125 74 = .inl (gJ G, 1400, .inr (.inl (aJ sD))) := (fr_130 74 (by omega) (by omega) (by omega)).trans e_121
                have e_142 : w_125 59 = .inr (8, [.int (iN ((now : Nat) : Int)), .int (iN ((came : Nat) : Int)), .ref (gad G 60), .ref (gad G 61), .ref (gad G 62), .ref (gad G 63), .ref (gad G 64), .ref (gad G 65), .int (iN ((rm : Nat) : Int)), .int (iN ((mt : Nat) : Int)), .ref (gad G 66), .ref (gad G 67), .ref (gad G 68), .ref (gad G 69), .ref (gad G 70), .int (iN ((tm2_127 : Nat) : Int)), .ref (gad G 71), .ref (gad G 72), .int (iN (2 : Int)), .int (iN mn), .int (iN two), .long (jN x0), .long (jN x1), .int (iN ((sq : Nat) : Int)), .ref (gad G 73), .ref (gad G 74)]) := e_131
                have e_143 : w_125 71 = .inl (gJ G, 700, .inr (.inl (aJ tN2_128))) := e_132
                have e_144 : w_125 72 = .inl (gJ G, 700, .inr (.inl (aJ tD2_129))) := e_133
                refine lv_iinc (v := iN ((j + 1 : Nat) : Int)) (lv' := [(7, .int (iN ((j + 1 : Nat) : Int))), (0, .ref (gad G 59)), (1, .int (iN x0)), (2, .int (iN x1)), (3, .int (iN mn)), (4, .int (iN en)), (5, .int (iN k)), (6, .int (iN wh))]) hx hb dX9_within_112 hl (k := 7) rfl (iN_incN _) (by decide) rfl (fun ls hl => ?_)
                refine lv_goto (tgt := 83) hx hb dX9_within_115 (by decide) ?_
                exact ih83 (j + 1) (tm2_127) (tN2_128) (tD2_129) w_125 _ _ _ (by omega) (q_134) (by omega) (e_142) (e_143) (e_144) (fun k h0 h1 h2 => ((((fr_130 k (by omega) (by omega) (by omega)).trans (fr_110 k (by omega) (by omega) (by omega)))).trans (hfr83 k (by omega) (by omega) (by omega)))) hP hS (lv_sub hl [1, 2, 3, 4, 5, 6, 7, 0] rfl)
          exact K83 ((11 - 0) + 1) (0) (tm2_59) (tN2_60) (tD2_61) w_57 _ _ _ (by omega) (q_66) (by omega) (e_74) (e_75) (e_76) (fun k h0 h1 h2 => ((((((((fr_62 k (by omega) (by omega) (by omega)).trans (fr_46 k (by omega)))).trans (fr_33 k (by omega)))).trans (fr_20 k (by omega)))).trans (fr_7 k (by omega)))) hP hS (lv_sub hl [1, 2, 3, 4, 5, 6, 7, 0] rfl)
        · refine n_ldc (z := (-100002)) hx hb hown (hts (.constant RX9 73 (-100002)) (by decide +kernel)) (by decide) dX9_within_49 ?_
          exact r_i hx hb hr dX9_within_51 hlocks hP hS ⟨(show iN (-100002) = iN _ by rw [if_neg (show ¬ ((-60000 ≤ x0 ∧ x0 ≤ 60000) ∧ (x0 ≤ x1 ∧ x1 ≤ 60000) ∧ (1 ≤ mn ∧ mn ≤ 10) ∧ (1 ≤ en ∧ en ≤ 600) ∧ 0 ≤ wh ∧ wh ≤ 3) by omega)]), tm, tN, tD, sq, sN, sD, (thg), (onn), (two), (lw), (hg), (fun k _ _ _ _ _ => rfl), e0, e6, e7, e8, e9, (by omega), (by omega)⟩
