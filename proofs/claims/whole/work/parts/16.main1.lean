/-- the ten courses of the class: what each holds -/
def FAM (G : GE) (w : WF) (cst cpl csp : Nat → Nat → Int) (cnp : Nat → Nat) (cstop : Nat → Int) : Prop := ∀ i : Nat, i < 10 → w (19 + 4 * i) = .inr (0, [.ref (gad G (19 + 4 * i + 1)), .ref (gad G (19 + 4 * i + 2)), .ref (gad G (19 + 4 * i + 3)), .int (iN ((cnp i : Nat) : Int)), .int (iN (cstop i))]) ∧ w (19 + 4 * i + 1) = .inl (gI G, 8, .inl (aN (cst i))) ∧ w (19 + 4 * i + 2) = .inl (gI G, 8, .inl (aN (cpl i))) ∧ w (19 + 4 * i + 3) = .inl (gI G, 8, .inl (aN (csp i)))
theorem FAM.keep {G : GE} {w w' : WF} {cst cpl csp : Nat → Nat → Int} {cnp : Nat → Nat} {cstop : Nat → Int} (h : FAM G w cst cpl csp cnp cstop) (hf : ∀ k : Nat, 19 ≤ k → k < 59 → w' k = w k) : FAM G w' cst cpl csp cnp cstop := fun i hi => by
  obtain ⟨h0, h1, h2, h3⟩ := h i hi
  exact ⟨(hf _ (by omega) (by omega)).trans h0, (hf _ (by omega) (by omega)).trans h1, (hf _ (by omega) (by omega)).trans h2, (hf _ (by omega) (by omega)).trans h3⟩
theorem FAM.put {G : GE} {w w' : WF} {cst cpl csp : Nat → Nat → Int} {cnp : Nat → Nat} {cstop : Nat → Int} (h : FAM G w cst cpl csp cnp cstop) {i : Nat} (hi : i < 10) (hf : ∀ k : Nat, k ≠ 19 + 4 * i → k ≠ 19 + 4 * i + 1 → k ≠ 19 + 4 * i + 2 → k ≠ 19 + 4 * i + 3 → w' k = w k) {np : Nat} {stop : Int} {st pl sp : Nat → Int}
    (e0 : w' (19 + 4 * i) = .inr (0, [.ref (gad G (19 + 4 * i + 1)), .ref (gad G (19 + 4 * i + 2)), .ref (gad G (19 + 4 * i + 3)), .int (iN (np : Int)), .int (iN stop)])) (e1 : w' (19 + 4 * i + 1) = .inl (gI G, 8, .inl (aN st))) (e2 : w' (19 + 4 * i + 2) = .inl (gI G, 8, .inl (aN pl))) (e3 : w' (19 + 4 * i + 3) = .inl (gI G, 8, .inl (aN sp))) : FAM G w' (va_up cst i st) (va_up cpl i pl) (va_up csp i sp) (va_up cnp i np) (va_up cstop i stop) := fun j hj => by
  by_cases hji : j = i
  · subst hji
    rw [va_up_self, va_up_self, va_up_self, va_up_self, va_up_self]
    exact ⟨e0, e1, e2, e3⟩
  · rw [va_up_ne _ _ hji, va_up_ne _ _ hji, va_up_ne _ _ hji, va_up_ne _ _ hji, va_up_ne _ _ hji]
    obtain ⟨h0, h1, h2, h3⟩ := h j hj
    exact ⟨(hf _ (by omega) (by omega) (by omega) (by omega)).trans h0, (hf _ (by omega) (by omega) (by omega) (by omega)).trans h1, (hf _ (by omega) (by omega) (by omega) (by omega)).trans h2, (hf _ (by omega) (by omega) (by omega) (by omega)).trans h3⟩
/-- what holds of a course -/
def OKC (st pl sp : Nat → Int) (np : Nat) (stop : Int) : Prop := (1 ≤ np ∧ np ≤ 8) ∧ (∀ p : Nat, p < np → 0 ≤ st p ∧ st p ≤ 400) ∧ (-1 ≤ stop ∧ stop ≤ 400) ∧ ∀ p : Nat, p < np → (-21000 ≤ pl p ∧ pl p ≤ 21000) ∧ (-50 ≤ sp p ∧ sp p ≤ 50)
def OKS (came : Nat) (cst cpl csp : Nat → Nat → Int) (cnp : Nat → Nat) (cstop : Nat → Int) : Prop := came ≤ 10 ∧ ∀ i : Nat, i < came → OKC (cst i) (cpl i) (csp i) (cnp i) (cstop i)
theorem mb3 {a b A B : Int} (ha : -A ≤ a ∧ a ≤ A) (hb : -B ≤ b ∧ b ≤ B) : -(A * B) ≤ a * b ∧ a * b ≤ A * B := by
  have hA : 0 ≤ A := by omega
  have hB : 0 ≤ B := by omega
  have h : (a * b).natAbs ≤ (A * B).natAbs := by
    rw [Int.natAbs_mul, Int.natAbs_mul]
    exact Nat.mul_le_mul (by omega) (by omega)
  have h2 : 0 ≤ A * B := Int.mul_nonneg hA hB
  omega
theorem upAt_rng {st pl sp : Nat → Int} {np : Nat} {stop n d : Int} (h : OKC st pl sp np stop) (hd : 1 ≤ d ∧ d ≤ 200) (hn : 0 ≤ n ∧ n ≤ 600 * d) : -10400000 ≤ upAt st pl sp np n d ∧ upAt st pl sp np n d ≤ 10400000 ∧ (d = 1 → -51000 ≤ upAt st pl sp np n d ∧ upAt st pl sp np n d ≤ 51000) := by
  obtain ⟨h1, h2, -, h3⟩ := h
  have hq := pcAt_lt st n d np h1.1
  unfold upAt
  generalize pcAt st n d np = q at hq
  have h4 := h2 q hq
  obtain ⟨h5, h6⟩ := h3 q hq
  have m1 := mb1 h4 hd
  have m2 : -(21000 * 200) ≤ pl q * d ∧ pl q * d ≤ 21000 * 200 := mb3 (by omega) (by omega)
  have m3 : -(50 * 120000) ≤ sp q * (n - st q * d) ∧ sp q * (n - st q * d) ≤ 50 * 120000 := mb3 (by omega) (by omega)
  refine ⟨by omega, by omega, fun hd1 => ?_⟩
  subst hd1
  have m4 : -(50 * 600) ≤ sp q * (n - st q * 1) ∧ sp q * (n - st q * 1) ≤ 50 * 600 := mb3 (by omega) (by omega)
  omega
theorem spAt_rng {st pl sp : Nat → Int} {np : Nat} {stop n : Int} (h : OKC st pl sp np stop) : -50 ≤ spAt st sp np n ∧ spAt st sp np n ≤ 50 := by
  obtain ⟨h1, -, -, h3⟩ := h
  exact (h3 _ (pcAt_lt st n 1 np h1.1)).2
/-- the order at a moment: those who are there, by their upper numbers, as an insertion sort lays them -/
def ordR (f : Nat → Int) (th : Nat → Bool) : Nat → Nat × (Nat → Nat)
  | 0 => (0, fun _ => 0)
  | i + 1 => if th i then ((ordR f th i).1 + 1, insF (ordR f th i).2 (spotP (fun k => decide (f i < f ((ordR f th i).2 k))) (ordR f th i).1) (ordR f th i).1 i) else ordR f th i
theorem ordR_le (f : Nat → Int) (th : Nat → Bool) : ∀ i, (ordR f th i).1 ≤ i
  | 0 => Nat.le_refl 0
  | i + 1 => by
    have := ordR_le f th i
    unfold ordR
    split
    · dsimp only
      omega
    · omega
theorem insF_rng {a : Nat → Nat} {j n x b : Nat} (ha : ∀ k, k < n → a k < b) (hx : x < b) (hj : j ≤ n) : ∀ k, k < n + 1 → insF a j n x k < b := fun k hk => by
  unfold insF
  by_cases h1 : k < j
  · rw [if_pos h1]
    exact ha k (by omega)
  · rw [if_neg h1]
    by_cases h2 : k = j
    · rw [if_pos h2]
      exact hx
    · rw [if_neg h2, if_pos (by omega)]
      exact ha _ (by omega)
theorem ordR_lt (f : Nat → Int) (th : Nat → Bool) : ∀ i k, k < (ordR f th i).1 → (ordR f th i).2 k < i
  | 0, k, h => absurd h (Nat.not_lt_zero _)
  | i + 1, k, h => by
    have ih := ordR_lt f th i
    unfold ordR at h ⊢
    split
    · rename_i hth
      rw [if_pos hth] at h
      dsimp only at h ⊢
      exact insF_rng (fun k hk => Nat.lt_succ_of_lt (ih k hk)) (Nat.lt_succ_self i) (spot_le _ _) k h
    · rename_i hth
      rw [if_neg hth] at h
      exact Nat.lt_succ_of_lt (ih k h)
theorem spot_cong {p q : Nat → Bool} : ∀ {n : Nat}, (∀ k, k < n → p k = q k) → spotP p n = spotP q n
  | 0, _ => rfl
  | n + 1, h => by
    have ih := spot_cong (n := n) (fun k hk => h k (by omega))
    unfold spotP
    rw [h n (by omega), ih]
theorem insF_map {α β : Type} {a : Nat → α} {b : Nat → β} {g : β → α} {j n : Nat} {x : α} {y : β} (h : ∀ k, k < n → a k = g (b k)) (hx : x = g y) (hj : j ≤ n) : ∀ k, k < n + 1 → insF a j n x k = g (insF b j n y k) := fun k hk => by
  unfold insF
  by_cases h1 : k < j
  · rw [if_pos h1, if_pos h1]
    exact h k (by omega)
  · rw [if_neg h1, if_neg h1]
    by_cases h2 : k = j
    · rw [if_pos h2, if_pos h2]
      exact hx
    · rw [if_neg h2, if_neg h2, if_pos (by omega), if_pos (by omega)]
      exact h _ (by omega)
/-- a Line holds the order -/
def isOrd (f : Nat → Int) (th : Nat → Bool) (i sz : Nat) (nums upps : Nat → Int) : Prop := sz = (ordR f th i).1 ∧ ∀ k, k < sz → nums k = (((ordR f th i).2 k : Nat) : Int) ∧ upps k = f ((ordR f th i).2 k)
theorem isOrd_in {f : Nat → Int} {th : Nat → Bool} {i sz : Nat} {nums upps : Nat → Int} {x : Int} (h : isOrd f th i sz nums upps) (hth : th i = true) (hx : x = f i) : isOrd f th (i + 1) (sz + 1) (insF nums (spotP (fun k => decide (x < upps k)) sz) sz ((i : Nat) : Int)) (insF upps (spotP (fun k => decide (x < upps k)) sz) sz x) := by
  obtain ⟨rfl, h2⟩ := h
  have hsp : spotP (fun k => decide (x < upps k)) (ordR f th i).1 = spotP (fun k => decide (f i < f ((ordR f th i).2 k))) (ordR f th i).1 := spot_cong fun k hk => by
    rw [(h2 k hk).2, hx]
  refine ⟨?_, fun k hk => ?_⟩
  · show _ = (if th i then _ else _ : Nat × (Nat → Nat)).1
    rw [if_pos hth]
  · rw [show ordR f th (i + 1) = (if th i then ((ordR f th i).1 + 1, insF (ordR f th i).2 (spotP (fun k => decide (f i < f ((ordR f th i).2 k))) (ordR f th i).1) (ordR f th i).1 i) else ordR f th i) from rfl, if_pos hth, hsp]
    exact ⟨insF_map (g := fun q : Nat => (q : Int)) (fun k hk => (h2 k hk).1) rfl (spot_le _ _) k hk, insF_map (g := f) (fun k hk => (h2 k hk).2) hx (spot_le _ _) k hk⟩
theorem isOrd_out {f : Nat → Int} {th : Nat → Bool} {i sz : Nat} {nums upps : Nat → Int} (h : isOrd f th i sz nums upps) (hth : ¬ th i = true) : isOrd f th (i + 1) sz nums upps := by
  unfold isOrd ordR
  rw [if_neg hth]
  exact h

set_option maxHeartbeats 4000000 in
set_option maxRecDepth 100000 in
theorem c_X8_isFromTo (l : Launch) (x : Int) (lo : Int) (hi : Int) (p0 : -2147483648 ≤ x ∧ x < 2147483648) (p1 : -2147483648 ≤ lo ∧ lo < 2147483648) (p2 : -2147483648 ≤ hi ∧ hi < 2147483648) : Met l yX8_isFromTo wsX8_isFromTo ({ frames := 0, cells := 0, slots := 0, locals := 0 }) (PcN [.int (iN x), .int (iN lo), .int (iN hi)]) (vp_Si (fun r => r = iN (if (lo ≤ x ∧ x ≤ hi) then 1 else 0))) 0 0 (fun _ => False) := by
  refine Met.ofW (cc := cX8_isFromTo) (maxL := 3) (ret := (some .boolean)) (by decide) rfl ?_
  intro p e s m args below meth c s₁ B hml hv
  obtain rfl := hv
  have hx := B.exec
  have hb := B.bytes
  have hr := B.returns
  have hts := atoms_spec (ws := wsX8_isFromTo) B.pre
  have hown : s.vm.findClass RX8 = some m.cls := findClass_of_methodNamed B.named
  have hlocks := B.notSynchronized
  have hl := lv_entry ([.int (iN x), .int (iN lo), .int (iN hi)]) (n := 3) (Nat.le_of_ble_eq_true rfl)
  rw [lg_entry_eq]
  generalize (lg_sl ([.int (iN x), .int (iN lo), .int (iN hi)]) ++ List.replicate (3 - (lg_sl ([.int (iN x), .int (iN lo), .int (iN hi)])).length) Slot.unset).toArray = ls at hl ⊢
  have hl : lv_has ls 3 [(0, .int (iN x)), (1, .int (iN lo)), (2, .int (iN hi))] := hl
  refine lv_iload_n hx hb dX8_isFromTo_0 rfl (lv_at hl 0 rfl) ?_
  refine lv_iload_n hx hb dX8_isFromTo_1 rfl (lv_at hl 1 rfl) ?_
  refine n_icmp_lt (tgt := 14) hx hb dX8_isFromTo_2 (by decide) (by omega) (by omega) (by omega) (by omega) (fun c_2 => ?_) (fun c_2 => ?_)
  · refine n_iconst hx hb dX8_isFromTo_14 ?_
    exact r_z0 hx hb hr dX8_isFromTo_15 hlocks (show iN 0 = iN (if (lo ≤ x ∧ x ≤ hi) then 1 else 0) by rw [if_neg (by omega)])
  · refine lv_iload_n hx hb dX8_isFromTo_5 rfl (lv_at hl 0 rfl) ?_
    refine lv_iload_n hx hb dX8_isFromTo_6 rfl (lv_at hl 2 rfl) ?_
    refine n_icmp_gt (tgt := 14) hx hb dX8_isFromTo_7 (by decide) (by omega) (by omega) (by omega) (by omega) (fun c_7 => ?_) (fun c_7 => ?_)
    · refine n_iconst hx hb dX8_isFromTo_14 ?_
      exact r_z0 hx hb hr dX8_isFromTo_15 hlocks (show iN 0 = iN (if (lo ≤ x ∧ x ≤ hi) then 1 else 0) by rw [if_neg (by omega)])
    · refine n_iconst hx hb dX8_isFromTo_10 ?_
      refine lv_goto (tgt := 15) hx hb dX8_isFromTo_11 (by decide) ?_
      exact r_z1 hx hb hr dX8_isFromTo_15 hlocks (show iN 1 = iN (if (lo ≤ x ∧ x ≤ hi) then 1 else 0) by rw [if_pos (by omega)])

set_option maxHeartbeats 4000000 in
set_option maxRecDepth 100000 in
theorem c_X8_isKnown (l : Launch) (G : GE) (w : WF) (came : Nat) (now : Nat) (bc : Nat) (i : Int) (e0 : w 0 = .inr (7, [.ref (gad G 1), .int (iN ((came : Nat) : Int)), .int (iN ((now : Nat) : Int)), .ref (gad G 2), .ref (gad G 5), .int (iN ((bc : Nat) : Int)), .ref (gad G 6), .ref (gad G 10), .ref (gad G 14), .ref (gad G 15), .ref (gad G 18)])) (p0 : -2147483648 ≤ i ∧ i < 2147483648) (p1 : came ≤ 10) : Met l yX8_isKnown wsX8_isKnown ({ frames := 0, cells := 0, slots := 0, locals := 0 }) (PcG G w [.ref (gad G 0), .int (iN i)]) (vp_Si (fun r => r = iN (if (0 ≤ i ∧ i < (came : Int)) then 1 else 0))) 0 0 (fun _ => False) := by
  refine Met.ofW (cc := cX8_isKnown) (maxL := 2) (ret := (some .boolean)) (by decide) rfl ?_
  intro p e s m args below meth c s₁ B hml hv
  obtain ⟨rfl, hP, hK⟩ := hv
  have hx := B.exec
  have hb := B.bytes
  have hr := B.returns
  have hts := atoms_spec (ws := wsX8_isKnown) B.pre
  have hown : s.vm.findClass RX8 = some m.cls := findClass_of_methodNamed B.named
  have hlocks := B.notSynchronized
  have hl := lv_entry ([.ref (gad G 0), .int (iN i)]) (n := 2) (Nat.le_of_ble_eq_true rfl)
  rw [lg_entry_eq]
  generalize (lg_sl ([.ref (gad G 0), .int (iN i)]) ++ List.replicate (2 - (lg_sl ([.ref (gad G 0), .int (iN i)])).length) Slot.unset).toArray = ls at hl ⊢
  have hl : lv_has ls 2 [(0, .ref (gad G 0)), (1, .int (iN i))] := hl
  refine lv_iload_n hx hb dX8_isKnown_0 rfl (lv_at hl 1 rfl) ?_
  refine n_if_lt (tgt := 16) hx hb dX8_isKnown_1 (by decide) (by omega) (by omega) (fun c_1 => ?_) (fun c_1 => ?_)
  · refine n_iconst hx hb dX8_isKnown_16 ?_
    exact r_z0 hx hb hr dX8_isKnown_17 hlocks (show iN 0 = iN (if (0 ≤ i ∧ i < (came : Int)) then 1 else 0) by rw [if_neg (by omega)])
  · refine lv_iload_n hx hb dX8_isKnown_4 rfl (lv_at hl 1 rfl) ?_
    refine lv_aload_n hx hb dX8_isKnown_5 rfl (lv_at hl 0 rfl) ?_
    refine f_get (C := RX8) (T := TX8) (N := 11) hx hb hts (by decide +kernel) hown hK hP 0 (by omega) e0 rfl 1 (by decide) (hts (.fieldLink RX8 67 "KeptMoving" "came" "I") (by decide +kernel)) (fun _ h9 => h9) rfl dX8_isKnown_6 ?_
    refine n_icmp_ge (tgt := 16) hx hb dX8_isKnown_9 (by decide) (by omega) (by omega) (by omega) (by omega) (fun c_9 => ?_) (fun c_9 => ?_)
    · refine n_iconst hx hb dX8_isKnown_16 ?_
      exact r_z0 hx hb hr dX8_isKnown_17 hlocks (show iN 0 = iN (if (0 ≤ i ∧ i < (came : Int)) then 1 else 0) by rw [if_neg (by omega)])
    · refine n_iconst hx hb dX8_isKnown_12 ?_
      refine lv_goto (tgt := 17) hx hb dX8_isKnown_13 (by decide) ?_
      exact r_z1 hx hb hr dX8_isKnown_17 hlocks (show iN 1 = iN (if (0 ≤ i ∧ i < (came : Int)) then 1 else 0) by rw [if_pos (by omega)])

set_option maxHeartbeats 4000000 in
set_option maxRecDepth 100000 in
theorem c_X8_isMoment (l : Launch) (n : Int) (d : Int) (p0 : -2147483648 ≤ n ∧ n < 2147483648) (p1 : -2147483648 ≤ d ∧ d < 2147483648) : Met l yX8_isMoment wsX8_isMoment ({ frames := 1, cells := 0, slots := 0, locals := 22 }) (PcN [.int (iN n), .int (iN d)]) (vp_Si (fun r => r = iN (if (1 ≤ d ∧ d ≤ 200 ∧ 0 ≤ n ∧ n ≤ 600 * d) then 1 else 0))) 0 0 (fun _ => False) := by
  refine Met.ofW (cc := cX8_isMoment) (maxL := 2) (ret := (some .boolean)) (by decide) rfl ?_
  intro p e s m args below meth c s₁ B hml hv
  obtain rfl := hv
  have hx := B.exec
  have hb := B.bytes
  have hr := B.returns
  have hts := atoms_spec (ws := wsX8_isMoment) B.pre
  have hown : s.vm.findClass RX8 = some m.cls := findClass_of_methodNamed B.named
  have hlocks := B.notSynchronized
  have hl := lv_entry ([.int (iN n), .int (iN d)]) (n := 2) (Nat.le_of_ble_eq_true rfl)
  rw [lg_entry_eq]
  generalize (lg_sl ([.int (iN n), .int (iN d)]) ++ List.replicate (2 - (lg_sl ([.int (iN n), .int (iN d)])).length) Slot.unset).toArray = ls at hl ⊢
  have hl : lv_has ls 2 [(0, .int (iN n)), (1, .int (iN d))] := hl
  refine lv_iload_n hx hb dX8_isMoment_0 rfl (lv_at hl 1 rfl) ?_
  refine n_iconst hx hb dX8_isMoment_1 ?_
  refine n_sipush hx hb dX8_isMoment_2 (by decide) ?_
  refine vp_callSi (W.runS (As := [.int (iN d), .int (iN 1), .int (iN 200)]) (rest := []) ⟨hx, hb, hml, hown, hts⟩ (c_X8_isFromTo l d 1 200 (by omega) (by omega) (by omega)) (va_cwS 3 hts gX8_isMoment_X8_isFromTo rfl rfl rfl (by decide +kernel) ⟨Nat.le_of_ble_eq_true rfl, Nat.le_of_ble_eq_true rfl⟩) ⟨fun _ _ _ _ q => q, fun _ _ _ => rfl⟩ rfl rfl hl.1 rfl (lv_room (Nat.le_of_ble_eq_true rfl)) dX8_isMoment_5 ⟨Nat.zero_le _, Nat.zero_le _⟩) (fun r_1 hr_1 => ?_)
  rw [show r_1 = iN (if (1 ≤ d ∧ d ≤ 200) then 1 else 0) from hr_1]
  refine n_ifb_eq (tgt := 28) hx hb dX8_isMoment_8 (by decide) (fun c_8 => ?_) (fun c_8 => ?_)
  · refine n_iconst hx hb dX8_isMoment_28 ?_
    exact r_z0 hx hb hr dX8_isMoment_29 hlocks (show iN 0 = iN (if (1 ≤ d ∧ d ≤ 200 ∧ 0 ≤ n ∧ n ≤ 600 * d) then 1 else 0) by rw [if_neg (by omega)])
  · refine lv_iload_n hx hb dX8_isMoment_11 rfl (lv_at hl 0 rfl) ?_
    refine n_iconst hx hb dX8_isMoment_12 ?_
    refine n_sipush hx hb dX8_isMoment_13 (by decide) ?_
    refine lv_iload_n hx hb dX8_isMoment_16 rfl (lv_at hl 1 rfl) ?_
    refine n_imul hx hb dX8_isMoment_17 ?_
    refine vp_callSi (W.runS (As := [.int (iN n), .int (iN 0), .int (iN (600 * d))]) (rest := []) ⟨hx, hb, hml, hown, hts⟩ (c_X8_isFromTo l n 0 (600 * d) (by omega) (by omega) (by omega)) (va_cwS 3 hts gX8_isMoment_X8_isFromTo rfl rfl rfl (by decide +kernel) ⟨Nat.le_of_ble_eq_true rfl, Nat.le_of_ble_eq_true rfl⟩) ⟨fun _ _ _ _ q => q, fun _ _ _ => rfl⟩ rfl rfl hl.1 rfl (lv_room (Nat.le_of_ble_eq_true rfl)) dX8_isMoment_18 ⟨Nat.zero_le _, Nat.zero_le _⟩) (fun r_2 hr_2 => ?_)
    rw [show r_2 = iN (if (0 ≤ n ∧ n ≤ (600 * d)) then 1 else 0) from hr_2]
    refine n_ifb_eq (tgt := 28) hx hb dX8_isMoment_21 (by decide) (fun c_21 => ?_) (fun c_21 => ?_)
    · refine n_iconst hx hb dX8_isMoment_28 ?_
      exact r_z0 hx hb hr dX8_isMoment_29 hlocks (show iN 0 = iN (if (1 ≤ d ∧ d ≤ 200 ∧ 0 ≤ n ∧ n ≤ 600 * d) then 1 else 0) by rw [if_neg (by omega)])
    · refine n_iconst hx hb dX8_isMoment_24 ?_
      refine lv_goto (tgt := 29) hx hb dX8_isMoment_25 (by decide) ?_
      exact r_z1 hx hb hr dX8_isMoment_29 hlocks (show iN 1 = iN (if (1 ≤ d ∧ d ≤ 200 ∧ 0 ≤ n ∧ n ≤ 600 * d) then 1 else 0) by rw [if_pos (by omega)])

set_option maxHeartbeats 4000000 in
set_option maxRecDepth 100000 in
theorem c_X8_isSpanAsked (l : Launch) (ed : Int) (wh : Int) (p0 : -2147483648 ≤ ed ∧ ed < 2147483648) (p1 : -2147483648 ≤ wh ∧ wh < 2147483648) : Met l yX8_isSpanAsked wsX8_isSpanAsked ({ frames := 1, cells := 0, slots := 0, locals := 22 }) (PcN [.int (iN ed), .int (iN wh)]) (vp_Si (fun r => r = iN (if (1 ≤ ed ∧ ed ≤ 600 ∧ 0 ≤ wh ∧ wh ≤ 3) then 1 else 0))) 0 0 (fun _ => False) := by
  refine Met.ofW (cc := cX8_isSpanAsked) (maxL := 2) (ret := (some .boolean)) (by decide) rfl ?_
  intro p e s m args below meth c s₁ B hml hv
  obtain rfl := hv
  have hx := B.exec
  have hb := B.bytes
  have hr := B.returns
  have hts := atoms_spec (ws := wsX8_isSpanAsked) B.pre
  have hown : s.vm.findClass RX8 = some m.cls := findClass_of_methodNamed B.named
  have hlocks := B.notSynchronized
  have hl := lv_entry ([.int (iN ed), .int (iN wh)]) (n := 2) (Nat.le_of_ble_eq_true rfl)
  rw [lg_entry_eq]
  generalize (lg_sl ([.int (iN ed), .int (iN wh)]) ++ List.replicate (2 - (lg_sl ([.int (iN ed), .int (iN wh)])).length) Slot.unset).toArray = ls at hl ⊢
  have hl : lv_has ls 2 [(0, .int (iN ed)), (1, .int (iN wh))] := hl
  refine lv_iload_n hx hb dX8_isSpanAsked_0 rfl (lv_at hl 0 rfl) ?_
  refine n_iconst hx hb dX8_isSpanAsked_1 ?_
  refine n_sipush hx hb dX8_isSpanAsked_2 (by decide) ?_
  refine vp_callSi (W.runS (As := [.int (iN ed), .int (iN 1), .int (iN 600)]) (rest := []) ⟨hx, hb, hml, hown, hts⟩ (c_X8_isFromTo l ed 1 600 (by omega) (by omega) (by omega)) (va_cwS 3 hts gX8_isSpanAsked_X8_isFromTo rfl rfl rfl (by decide +kernel) ⟨Nat.le_of_ble_eq_true rfl, Nat.le_of_ble_eq_true rfl⟩) ⟨fun _ _ _ _ q => q, fun _ _ _ => rfl⟩ rfl rfl hl.1 rfl (lv_room (Nat.le_of_ble_eq_true rfl)) dX8_isSpanAsked_5 ⟨Nat.zero_le _, Nat.zero_le _⟩) (fun r_1 hr_1 => ?_)
  rw [show r_1 = iN (if (1 ≤ ed ∧ ed ≤ 600) then 1 else 0) from hr_1]
  refine n_ifb_eq (tgt := 24) hx hb dX8_isSpanAsked_8 (by decide) (fun c_8 => ?_) (fun c_8 => ?_)
  · refine n_iconst hx hb dX8_isSpanAsked_24 ?_
    exact r_z0 hx hb hr dX8_isSpanAsked_25 hlocks (show iN 0 = iN (if (1 ≤ ed ∧ ed ≤ 600 ∧ 0 ≤ wh ∧ wh ≤ 3) then 1 else 0) by rw [if_neg (by omega)])
  · refine lv_iload_n hx hb dX8_isSpanAsked_11 rfl (lv_at hl 1 rfl) ?_
    refine n_iconst hx hb dX8_isSpanAsked_12 ?_
    refine n_iconst hx hb dX8_isSpanAsked_13 ?_
    refine vp_callSi (W.runS (As := [.int (iN wh), .int (iN 0), .int (iN 3)]) (rest := []) ⟨hx, hb, hml, hown, hts⟩ (c_X8_isFromTo l wh 0 3 (by omega) (by omega) (by omega)) (va_cwS 3 hts gX8_isSpanAsked_X8_isFromTo rfl rfl rfl (by decide +kernel) ⟨Nat.le_of_ble_eq_true rfl, Nat.le_of_ble_eq_true rfl⟩) ⟨fun _ _ _ _ q => q, fun _ _ _ => rfl⟩ rfl rfl hl.1 rfl (lv_room (Nat.le_of_ble_eq_true rfl)) dX8_isSpanAsked_14 ⟨Nat.zero_le _, Nat.zero_le _⟩) (fun r_2 hr_2 => ?_)
    rw [show r_2 = iN (if (0 ≤ wh ∧ wh ≤ 3) then 1 else 0) from hr_2]
    refine n_ifb_eq (tgt := 24) hx hb dX8_isSpanAsked_17 (by decide) (fun c_17 => ?_) (fun c_17 => ?_)
    · refine n_iconst hx hb dX8_isSpanAsked_24 ?_
      exact r_z0 hx hb hr dX8_isSpanAsked_25 hlocks (show iN 0 = iN (if (1 ≤ ed ∧ ed ≤ 600 ∧ 0 ≤ wh ∧ wh ≤ 3) then 1 else 0) by rw [if_neg (by omega)])
    · refine n_iconst hx hb dX8_isSpanAsked_20 ?_
      refine lv_goto (tgt := 25) hx hb dX8_isSpanAsked_21 (by decide) ?_
      exact r_z1 hx hb hr dX8_isSpanAsked_25 hlocks (show iN 1 = iN (if (1 ≤ ed ∧ ed ≤ 600 ∧ 0 ≤ wh ∧ wh ≤ 3) then 1 else 0) by rw [if_pos (by omega)])

set_option maxHeartbeats 4000000 in
set_option maxRecDepth 100000 in
theorem c_X8_isWindow (l : Launch) (lo : Int) (hi : Int) (p0 : -2147483648 ≤ lo ∧ lo < 2147483648) (p1 : -2147483648 ≤ hi ∧ hi < 2147483648) : Met l yX8_isWindow wsX8_isWindow ({ frames := 0, cells := 0, slots := 0, locals := 0 }) (PcN [.int (iN lo), .int (iN hi)]) (vp_Si (fun r => r = iN (if (-60000 ≤ lo ∧ lo ≤ hi ∧ hi ≤ 60000) then 1 else 0))) 0 0 (fun _ => False) := by
  refine Met.ofW (cc := cX8_isWindow) (maxL := 2) (ret := (some .boolean)) (by decide) rfl ?_
  intro p e s m args below meth c s₁ B hml hv
  obtain rfl := hv
  have hx := B.exec
  have hb := B.bytes
  have hr := B.returns
  have hts := atoms_spec (ws := wsX8_isWindow) B.pre
  have hown : s.vm.findClass RX8 = some m.cls := findClass_of_methodNamed B.named
  have hlocks := B.notSynchronized
  have hl := lv_entry ([.int (iN lo), .int (iN hi)]) (n := 2) (Nat.le_of_ble_eq_true rfl)
  rw [lg_entry_eq]
  generalize (lg_sl ([.int (iN lo), .int (iN hi)]) ++ List.replicate (2 - (lg_sl ([.int (iN lo), .int (iN hi)])).length) Slot.unset).toArray = ls at hl ⊢
  have hl : lv_has ls 2 [(0, .int (iN lo)), (1, .int (iN hi))] := hl
  refine lv_iload_n hx hb dX8_isWindow_0 rfl (lv_at hl 0 rfl) ?_
  refine n_ldc (z := (-60000)) hx hb hown (hts (.constant RX8 215 (-60000)) (by decide +kernel)) (by decide) dX8_isWindow_1 ?_
  refine n_icmp_lt (tgt := 21) hx hb dX8_isWindow_3 (by decide) (by omega) (by omega) (by omega) (by omega) (fun c_3 => ?_) (fun c_3 => ?_)
  · refine n_iconst hx hb dX8_isWindow_21 ?_
    exact r_z0 hx hb hr dX8_isWindow_22 hlocks (show iN 0 = iN (if (-60000 ≤ lo ∧ lo ≤ hi ∧ hi ≤ 60000) then 1 else 0) by rw [if_neg (by omega)])
  · refine lv_iload_n hx hb dX8_isWindow_6 rfl (lv_at hl 0 rfl) ?_
    refine lv_iload_n hx hb dX8_isWindow_7 rfl (lv_at hl 1 rfl) ?_
    refine n_icmp_gt (tgt := 21) hx hb dX8_isWindow_8 (by decide) (by omega) (by omega) (by omega) (by omega) (fun c_8 => ?_) (fun c_8 => ?_)
    · refine n_iconst hx hb dX8_isWindow_21 ?_
      exact r_z0 hx hb hr dX8_isWindow_22 hlocks (show iN 0 = iN (if (-60000 ≤ lo ∧ lo ≤ hi ∧ hi ≤ 60000) then 1 else 0) by rw [if_neg (by omega)])
    · refine lv_iload_n hx hb dX8_isWindow_11 rfl (lv_at hl 1 rfl) ?_
      refine n_ldc (z := 60000) hx hb hown (hts (.constant RX8 216 (60000)) (by decide +kernel)) (by decide) dX8_isWindow_12 ?_
      refine n_icmp_gt (tgt := 21) hx hb dX8_isWindow_14 (by decide) (by omega) (by omega) (by omega) (by omega) (fun c_14 => ?_) (fun c_14 => ?_)
      · refine n_iconst hx hb dX8_isWindow_21 ?_
        exact r_z0 hx hb hr dX8_isWindow_22 hlocks (show iN 0 = iN (if (-60000 ≤ lo ∧ lo ≤ hi ∧ hi ≤ 60000) then 1 else 0) by rw [if_neg (by omega)])
      · refine n_iconst hx hb dX8_isWindow_17 ?_
        refine lv_goto (tgt := 22) hx hb dX8_isWindow_18 (by decide) ?_
        exact r_z1 hx hb hr dX8_isWindow_22 hlocks (show iN 1 = iN (if (-60000 ≤ lo ∧ lo ≤ hi ∧ hi ≤ 60000) then 1 else 0) by rw [if_pos (by omega)])

set_option maxHeartbeats 4000000 in
set_option maxRecDepth 100000 in
theorem c_X8_point (l : Launch) (G : GE) (w : WF) (came : Nat) (now : Nat) (bc : Nat) (x : Int) (v : Int) (cst : Nat → Nat → Int) (cpl : Nat → Nat → Int) (csp : Nat → Nat → Int) (cnp : Nat → Nat) (cstop : Nat → Int) (e0 : w 0 = .inr (7, [.ref (gad G 1), .int (iN ((came : Nat) : Int)), .int (iN ((now : Nat) : Int)), .ref (gad G 2), .ref (gad G 5), .int (iN ((bc : Nat) : Int)), .ref (gad G 6), .ref (gad G 10), .ref (gad G 14), .ref (gad G 15), .ref (gad G 18)])) (hC : FAM G w cst cpl csp cnp cstop) (p0 : -2147483648 ≤ x ∧ x < 2147483648) (p1 : -2147483648 ≤ v ∧ v < 2147483648) (p2 : came ≤ 10) (p3 : now ≤ 400) : Met l yX8_point wsX8_point ({ frames := 1, cells := 0, slots := 0, locals := 23 }) (PcG G w [.ref (gad G 0), .int (iN x), .int (iN v)]) (QI G (fun r w1 => r = iN (if -1000 ≤ x ∧ x ≤ 1000 ∧ -50 ≤ v ∧ v ≤ 50 then (if came < 10 then (came : Int) else -100004) else -100002) ∧ (∀ k : Nat, k ≠ 0 → k < 19 ∨ 59 ≤ k → w1 k = w k) ∧ w1 0 = .inr (7, [.ref (gad G 1), .int (iN ((if -1000 ≤ x ∧ x ≤ 1000 ∧ -50 ≤ v ∧ v ≤ 50 ∧ came < 10 then came + 1 else came : Nat) : Int)), .int (iN ((now : Nat) : Int)), .ref (gad G 2), .ref (gad G 5), .int (iN ((bc : Nat) : Int)), .ref (gad G 6), .ref (gad G 10), .ref (gad G 14), .ref (gad G 15), .ref (gad G 18)]) ∧ FAM G w1 (if -1000 ≤ x ∧ x ≤ 1000 ∧ -50 ≤ v ∧ v ≤ 50 ∧ came < 10 then va_up cst came (va_up (cst came) 0 now) else cst) (if -1000 ≤ x ∧ x ≤ 1000 ∧ -50 ≤ v ∧ v ≤ 50 ∧ came < 10 then va_up cpl came (va_up (cpl came) 0 x) else cpl) (if -1000 ≤ x ∧ x ≤ 1000 ∧ -50 ≤ v ∧ v ≤ 50 ∧ came < 10 then va_up csp came (va_up (csp came) 0 v) else csp) (if -1000 ≤ x ∧ x ≤ 1000 ∧ -50 ≤ v ∧ v ≤ 50 ∧ came < 10 then va_up cnp came 1 else cnp) (if -1000 ≤ x ∧ x ≤ 1000 ∧ -50 ≤ v ∧ v ≤ 50 ∧ came < 10 then va_up cstop came (-1) else cstop))) 0 0 (AA G) := by
  refine Met.ofW (cc := cX8_point) (maxL := 3) (ret := (some .int)) (by decide) rfl ?_
  intro p e s m args below meth c s₁ B hml hv
  obtain ⟨rfl, hP, hK⟩ := hv
  have hx := B.exec
  have hb := B.bytes
  have hr := B.returns
  have hts := atoms_spec (ws := wsX8_point) B.pre
  have hown : s.vm.findClass RX8 = some m.cls := findClass_of_methodNamed B.named
  have hlocks := B.notSynchronized
  have hS : va_S (AA G) s.heap s.heap [] := va_S.rf
  have hAA : ∀ q, AA G q → AA G q := fun _ h => h
  have hl := lv_entry ([.ref (gad G 0), .int (iN x), .int (iN v)]) (n := 3) (Nat.le_of_ble_eq_true rfl)
  rw [lg_entry_eq]
  generalize (lg_sl ([.ref (gad G 0), .int (iN x), .int (iN v)]) ++ List.replicate (3 - (lg_sl ([.ref (gad G 0), .int (iN x), .int (iN v)])).length) Slot.unset).toArray = ls at hl ⊢
  have hl : lv_has ls 3 [(0, .ref (gad G 0)), (1, .int (iN x)), (2, .int (iN v))] := hl
  refine lv_iload_n hx hb dX8_point_0 rfl (lv_at hl 1 rfl) ?_
  refine n_sipush hx hb dX8_point_1 (by decide) ?_
  refine n_sipush hx hb dX8_point_4 (by decide) ?_
  refine vp_callSi (W.runS (As := [.int (iN x), .int (iN (-1000)), .int (iN 1000)]) (rest := []) ⟨hx, hb, hml, hown, hts⟩ (c_X8_isFromTo l x (-1000) 1000 (by omega) (by omega) (by omega)) (va_cwS 3 hts gX8_point_X8_isFromTo rfl rfl rfl (by decide +kernel) ⟨Nat.le_of_ble_eq_true rfl, Nat.le_of_ble_eq_true rfl⟩) ⟨fun _ _ _ _ q => q, fun _ _ _ => rfl⟩ rfl rfl hl.1 rfl (lv_room (Nat.le_of_ble_eq_true rfl)) dX8_point_7 ⟨Nat.zero_le _, Nat.zero_le _⟩) (fun r_1 hr_1 => ?_)
  rw [show r_1 = iN (if ((-1000) ≤ x ∧ x ≤ 1000) then 1 else 0) from hr_1]
  refine n_ifb_eq (tgt := 24) hx hb dX8_point_10 (by decide) (fun c_10 => ?_) (fun c_10 => ?_)
  · refine n_ldc (z := (-100002)) hx hb hown (hts (.constant RX8 66 (-100002)) (by decide +kernel)) (by decide) dX8_point_24 ?_
    exact r_i hx hb hr dX8_point_26 hlocks hP hS ⟨(show iN (-100002) = iN _ by rw [if_neg (by omega)]), (fun k _ _ => rfl), (by rw [if_neg (show ¬ (-1000 ≤ x ∧ x ≤ 1000 ∧ -50 ≤ v ∧ v ≤ 50 ∧ came < 10) by omega)]; exact e0), (by rw [if_neg (show ¬ (-1000 ≤ x ∧ x ≤ 1000 ∧ -50 ≤ v ∧ v ≤ 50 ∧ came < 10) by omega), if_neg (show ¬ (-1000 ≤ x ∧ x ≤ 1000 ∧ -50 ≤ v ∧ v ≤ 50 ∧ came < 10) by omega), if_neg (show ¬ (-1000 ≤ x ∧ x ≤ 1000 ∧ -50 ≤ v ∧ v ≤ 50 ∧ came < 10) by omega), if_neg (show ¬ (-1000 ≤ x ∧ x ≤ 1000 ∧ -50 ≤ v ∧ v ≤ 50 ∧ came < 10) by omega), if_neg (show ¬ (-1000 ≤ x ∧ x ≤ 1000 ∧ -50 ≤ v ∧ v ≤ 50 ∧ came < 10) by omega)]; exact hC)⟩
  · refine lv_iload_n hx hb dX8_point_13 rfl (lv_at hl 2 rfl) ?_
    refine n_bipush hx hb dX8_point_14 (by decide) ?_
    refine n_bipush hx hb dX8_point_16 (by decide) ?_
    refine vp_callSi (W.runS (As := [.int (iN v), .int (iN (-50)), .int (iN 50)]) (rest := []) ⟨hx, hb, hml, hown, hts⟩ (c_X8_isFromTo l v (-50) 50 (by omega) (by omega) (by omega)) (va_cwS 3 hts gX8_point_X8_isFromTo rfl rfl rfl (by decide +kernel) ⟨Nat.le_of_ble_eq_true rfl, Nat.le_of_ble_eq_true rfl⟩) ⟨fun _ _ _ _ q => q, fun _ _ _ => rfl⟩ rfl rfl hl.1 rfl (lv_room (Nat.le_of_ble_eq_true rfl)) dX8_point_18 ⟨Nat.zero_le _, Nat.zero_le _⟩) (fun r_2 hr_2 => ?_)
    rw [show r_2 = iN (if ((-50) ≤ v ∧ v ≤ 50) then 1 else 0) from hr_2]
    refine n_ifb_ne (tgt := 27) hx hb dX8_point_21 (by decide) (fun c_21 => ?_) (fun c_21 => ?_)
    · refine lv_aload_n hx hb dX8_point_27 rfl (lv_at hl 0 rfl) ?_
      refine f_get (C := RX8) (T := TX8) (N := 11) hx hb hts (by decide +kernel) hown hK hP 0 (by omega) e0 rfl 1 (by decide) (hts (.fieldLink RX8 67 "KeptMoving" "came" "I") (by decide +kernel)) (fun _ h9 => h9) rfl dX8_point_28 ?_
      refine n_bipush hx hb dX8_point_31 (by decide) ?_
      refine n_icmp_lt (tgt := 39) hx hb dX8_point_33 (by decide) (by omega) (by omega) (by omega) (by omega) (fun c_33 => ?_) (fun c_33 => ?_)
      · refine lv_aload_n hx hb dX8_point_39 rfl (lv_at hl 0 rfl) ?_
        refine f_get (C := RX8) (T := TX8) (N := 11) hx hb hts (by decide +kernel) hown hK hP 0 (by omega) e0 rfl 0 (by decide) (hts (.fieldLink RX8 11 "KeptMoving" "courses" "[LKeptMoving$Course;") (by decide +kernel)) (fun _ h9 => h9) rfl dX8_point_40 ?_
        refine lv_aload_n hx hb dX8_point_43 rfl (lv_at hl 0 rfl) ?_
        refine f_get (C := RX8) (T := TX8) (N := 11) hx hb hts (by decide +kernel) hown hK hP 0 (by omega) e0 rfl 1 (by decide) (hts (.fieldLink RX8 67 "KeptMoving" "came" "I") (by decide +kernel)) (fun _ h9 => h9) rfl dX8_point_44 ?_
        refine n_aldq hx hb hK hP came (rfl) (by omega) dX8_point_47 ?_
        refine lv_aload_n hx hb dX8_point_48 rfl (lv_at hl 0 rfl) ?_
        refine f_get (C := RX8) (T := TX8) (N := 11) hx hb hts (by decide +kernel) hown hK hP 0 (by omega) e0 rfl 2 (by decide) (hts (.fieldLink RX8 72 "KeptMoving" "now" "I") (by decide +kernel)) (fun _ h9 => h9) rfl dX8_point_49 ?_
        refine lv_iload_n hx hb dX8_point_52 rfl (lv_at hl 1 rfl) ?_
        refine lv_iload_n hx hb dX8_point_53 rfl (lv_at hl 2 rfl) ?_
        obtain ⟨x_3, x_4, x_5, x_6⟩ := hC came (by omega)
        refine f_callv (va_Run.run (va_runVN (As := [.int (iN ((now : Nat) : Int)), .int (iN x), .int (iN v)]) (rest := []) ⟨hx, hb, hml, hown, hts⟩ (c_X0_begin l G w came (cst came) (cpl came) (csp came) (cnp came) (cstop came) ((now : Nat) : Int) x v x_3 x_4 x_5 x_6 (by omega)) ⟨va_cnB 3 hts gX8_point_X0_begin_n75 rfl rfl rfl (hK.nm 7 rfl) (hts (.initialized RX0) (by decide +kernel)) (by decide +kernel) ⟨Nat.le_of_ble_eq_true rfl, Nat.le_of_ble_eq_true rfl⟩, hts (.instanceMethod yX0_begin) (by decide +kernel), hts (.selects RX0 yX0_begin yX0_begin) (by decide +kernel)⟩ (f_preV hP hK (19 + 4 * came) (by omega) 0 x_3 rfl) rfl rfl hl.1 rfl (lv_room (Nat.le_of_ble_eq_true rfl)) dX8_point_54 ⟨Nat.zero_le _, Nat.zero_le _⟩)) hS hAA (fun w_7 H locs q_8 hP hS => ?_)
        obtain ⟨fr_9, e_10, e_11, e_12, e_13⟩ := q_8
        have e_14 : w_7 0 = .inr (7, [.ref (gad G 1), .int (iN ((came : Nat) : Int)), .int (iN ((now : Nat) : Int)), .ref (gad G 2), .ref (gad G 5), .int (iN ((bc : Nat) : Int)), .ref (gad G 6), .ref (gad G 10), .ref (gad G 14), .ref (gad G 15), .ref (gad G 18)]) := (fr_9 0 (by omega) (by omega) (by omega) (by omega)).trans e0
        have e_15 : w_7 (19 + 4 * came) = .inr (0, [.ref (gad G (19 + 4 * came + 1)), .ref (gad G (19 + 4 * came + 2)), .ref (gad G (19 + 4 * came + 3)), .int (iN 1), .int (iN (-1))]) := e_10
        have e_16 : w_7 (19 + 4 * came + 1) = .inl (gI G, 8, .inl (aN (va_up (cst came) 0 ((now : Nat) : Int)))) := e_11
        have e_17 : w_7 (19 + 4 * came + 2) = .inl (gI G, 8, .inl (aN (va_up (cpl came) 0 x))) := e_12
        have e_18 : w_7 (19 + 4 * came + 3) = .inl (gI G, 8, .inl (aN (va_up (csp came) 0 v))) := e_13
        have hC_19 : FAM G w_7 (va_up cst came (va_up (cst came) 0 ((now : Nat) : Int))) (va_up cpl came (va_up (cpl came) 0 x)) (va_up csp came (va_up (csp came) 0 v)) (va_up cnp came 1) (va_up cstop came (-1)) := hC.put (i := came) (by omega) (fun k h0 h1 h2 h3 => fr_9 k (by omega) (by omega) (by omega) (by omega)) e_15 e_16 e_17 e_18
        refine lv_aload_n hx hb dX8_point_57 rfl (lv_at hl 0 rfl) ?_
        refine lv_dup hx hb dX8_point_58 rfl ?_
        refine f_get (C := RX8) (T := TX8) (N := 11) hx hb hts (by decide +kernel) hown hK hP 0 (by omega) e_14 rfl 1 (by decide) (hts (.fieldLink RX8 67 "KeptMoving" "came" "I") (by decide +kernel)) (fun _ h9 => h9) rfl dX8_point_59 ?_
        refine n_iconst hx hb dX8_point_62 ?_
        refine n_iadd hx hb dX8_point_63 ?_
        rw [show ((came : Nat) : Int) + 1 = ((came + 1 : Nat) : Int) by omega]
        refine f_put (v := .int (iN ((came + 1 : Nat) : Int))) (ty := .int) (C := RX8) (T := TX8) (N := 11) hx hb hts (by decide +kernel) tyX8 tyX8_ok nmX8 hown hK hP hS hAA 0 (by omega) e_14 rfl 1 (by decide) (hts (.fieldLink RX8 67 "KeptMoving" "came" "I") (by decide +kernel)) (fun _ h9 => h9) rfl (by decide +kernel) (rfl) (rfl) (Nat.le_of_ble_eq_true rfl) (rfl) dX8_point_64 (fun H locs hP hS => ?_)
        have hP : PW G (va_up w_7 0 (.inr (7, [.ref (gad G 1), .int (iN ((came + 1 : Nat) : Int)), .int (iN ((now : Nat) : Int)), .ref (gad G 2), .ref (gad G 5), .int (iN ((bc : Nat) : Int)), .ref (gad G 6), .ref (gad G 10), .ref (gad G 14), .ref (gad G 15), .ref (gad G 18)]))) H := hP
        obtain ⟨w_20, hw_21⟩ : ∃ z : WF, z = va_up w_7 0 (.inr (7, [.ref (gad G 1), .int (iN ((came + 1 : Nat) : Int)), .int (iN ((now : Nat) : Int)), .ref (gad G 2), .ref (gad G 5), .int (iN ((bc : Nat) : Int)), .ref (gad G 6), .ref (gad G 10), .ref (gad G 14), .ref (gad G 15), .ref (gad G 18)])) := ⟨_, rfl⟩
        rw [← hw_21] at hP
        have fr_22 : ∀ k : Nat, k ≠ 0 → w_20 k = w_7 k := fun k h => by rw [hw_21]; exact va_up_ne _ _ h
        have hC_23 : FAM G w_20 (va_up cst came (va_up (cst came) 0 ((now : Nat) : Int))) (va_up cpl came (va_up (cpl came) 0 x)) (va_up csp came (va_up (csp came) 0 v)) (va_up cnp came 1) (va_up cstop came (-1)) := hC_19.keep (fun k h1 h2 => fr_22 k (by omega))
        have e_24 : w_20 0 = .inr (7, [.ref (gad G 1), .int (iN ((came + 1 : Nat) : Int)), .int (iN ((now : Nat) : Int)), .ref (gad G 2), .ref (gad G 5), .int (iN ((bc : Nat) : Int)), .ref (gad G 6), .ref (gad G 10), .ref (gad G 14), .ref (gad G 15), .ref (gad G 18)]) := by rw [hw_21]; exact va_up_self _ _ _
        refine lv_aload_n hx hb dX8_point_67 rfl (lv_at hl 0 rfl) ?_
        refine f_get (C := RX8) (T := TX8) (N := 11) hx hb hts (by decide +kernel) hown hK hP 0 (by omega) e_24 rfl 1 (by decide) (hts (.fieldLink RX8 67 "KeptMoving" "came" "I") (by decide +kernel)) (fun _ h9 => h9) rfl dX8_point_68 ?_
        refine n_iconst hx hb dX8_point_71 ?_
        refine n_isub hx hb dX8_point_72 ?_
        rw [show ((came + 1 : Nat) : Int) - 1 = (((came + 1) - 1 : Nat) : Int) by omega]
        exact r_i hx hb hr dX8_point_73 hlocks hP hS ⟨(show iN ((came : Int)) = iN _ by rw [if_pos (by omega), if_pos (by omega)]), (fun k h0 hf => ((fr_22 k (by omega)).trans (fr_9 k (by omega) (by omega) (by omega) (by omega)))), (by rw [if_pos (show -1000 ≤ x ∧ x ≤ 1000 ∧ -50 ≤ v ∧ v ≤ 50 ∧ came < 10 by omega)]; exact e_24), (by rw [if_pos (show -1000 ≤ x ∧ x ≤ 1000 ∧ -50 ≤ v ∧ v ≤ 50 ∧ came < 10 by omega), if_pos (show -1000 ≤ x ∧ x ≤ 1000 ∧ -50 ≤ v ∧ v ≤ 50 ∧ came < 10 by omega), if_pos (show -1000 ≤ x ∧ x ≤ 1000 ∧ -50 ≤ v ∧ v ≤ 50 ∧ came < 10 by omega), if_pos (show -1000 ≤ x ∧ x ≤ 1000 ∧ -50 ≤ v ∧ v ≤ 50 ∧ came < 10 by omega), if_pos (show -1000 ≤ x ∧ x ≤ 1000 ∧ -50 ≤ v ∧ v ≤ 50 ∧ came < 10 by omega)]; exact hC_23)⟩
      · refine n_ldc (z := (-100004)) hx hb hown (hts (.constant RX8 71 (-100004)) (by decide +kernel)) (by decide) dX8_point_36 ?_
        exact r_i hx hb hr dX8_point_38 hlocks hP hS ⟨(show iN (-100004) = iN _ by rw [if_pos (by omega), if_neg (by omega)]), (fun k _ _ => rfl), (by rw [if_neg (show ¬ (-1000 ≤ x ∧ x ≤ 1000 ∧ -50 ≤ v ∧ v ≤ 50 ∧ came < 10) by omega)]; exact e0), (by rw [if_neg (show ¬ (-1000 ≤ x ∧ x ≤ 1000 ∧ -50 ≤ v ∧ v ≤ 50 ∧ came < 10) by omega), if_neg (show ¬ (-1000 ≤ x ∧ x ≤ 1000 ∧ -50 ≤ v ∧ v ≤ 50 ∧ came < 10) by omega), if_neg (show ¬ (-1000 ≤ x ∧ x ≤ 1000 ∧ -50 ≤ v ∧ v ≤ 50 ∧ came < 10) by omega), if_neg (show ¬ (-1000 ≤ x ∧ x ≤ 1000 ∧ -50 ≤ v ∧ v ≤ 50 ∧ came < 10) by omega), if_neg (show ¬ (-1000 ≤ x ∧ x ≤ 1000 ∧ -50 ≤ v ∧ v ≤ 50 ∧ came < 10) by omega)]; exact hC)⟩
    · refine n_ldc (z := (-100002)) hx hb hown (hts (.constant RX8 66 (-100002)) (by decide +kernel)) (by decide) dX8_point_24 ?_
      exact r_i hx hb hr dX8_point_26 hlocks hP hS ⟨(show iN (-100002) = iN _ by rw [if_neg (by omega)]), (fun k _ _ => rfl), (by rw [if_neg (show ¬ (-1000 ≤ x ∧ x ≤ 1000 ∧ -50 ≤ v ∧ v ≤ 50 ∧ came < 10) by omega)]; exact e0), (by rw [if_neg (show ¬ (-1000 ≤ x ∧ x ≤ 1000 ∧ -50 ≤ v ∧ v ≤ 50 ∧ came < 10) by omega), if_neg (show ¬ (-1000 ≤ x ∧ x ≤ 1000 ∧ -50 ≤ v ∧ v ≤ 50 ∧ came < 10) by omega), if_neg (show ¬ (-1000 ≤ x ∧ x ≤ 1000 ∧ -50 ≤ v ∧ v ≤ 50 ∧ came < 10) by omega), if_neg (show ¬ (-1000 ≤ x ∧ x ≤ 1000 ∧ -50 ≤ v ∧ v ≤ 50 ∧ came < 10) by omega), if_neg (show ¬ (-1000 ≤ x ∧ x ≤ 1000 ∧ -50 ≤ v ∧ v ≤ 50 ∧ came < 10) by omega)]; exact hC)⟩
