theorem iN_incN (x : Nat) : iN (x : Int) + Int32.ofInt 1 = iN ((x + 1 : Nat) : Int) := iN_inc _ _
theorem iN_decN {x : Nat} (h : 0 < x) : iN (x : Int) + Int32.ofInt (-1) = iN ((x - 1 : Nat) : Int) := by
  rw [iN_inc]
  congr 1
  omega
theorem mb1 {a d : Int} (ha : 0 ≤ a ∧ a ≤ 400) (hd : 1 ≤ d ∧ d ≤ 200) : 0 ≤ a * d ∧ a * d ≤ 80000 := ⟨Int.mul_nonneg ha.1 (by omega), by
  have h1 : a * d ≤ 400 * d := Int.mul_le_mul_of_nonneg_right ha.2 (by omega)
  omega⟩
/-- the piece of a course at n / d -/
def pcAt (st : Nat → Int) (n d : Int) : Nat → Nat
  | 0 => 0
  | k + 1 => if 0 < k ∧ st k * d ≤ n then k else pcAt st n d k
theorem pcAt_lt (st : Nat → Int) (n d : Int) : ∀ k, 1 ≤ k → pcAt st n d k < k
  | 0, h => absurd h (by omega)
  | 1, _ => by simp [pcAt]
  | k + 2, _ => by
    have := pcAt_lt st n d (k + 1) (by omega)
    unfold pcAt
    split <;> omega
/-- the upper number of the place at n / d -/
def upAt (st pl sp : Nat → Int) (np : Nat) (n d : Int) : Int := pl (pcAt st n d np) * d + sp (pcAt st n d np) * (n - st (pcAt st n d np) * d)
def spAt (st sp : Nat → Int) (np : Nat) (n : Int) : Int := sp (pcAt st n 1 np)
/-- the next bend of a course after a time, at most last -/
def nbP (st : Nat → Int) (after : Int) : Nat → Int → Int
  | 0, last => last
  | k + 1, last => if after < st k then min (nbP st after k last) (st k) else nbP st after k last
def nbC (st : Nat → Int) (np : Nat) (stop after last : Int) : Int := if after < stop then min (nbP st after np last) stop else nbP st after np last
theorem nbP_rng (st : Nat → Int) (after : Int) : ∀ (k : Nat) (last : Int), 0 ≤ last → last ≤ 1000 → (∀ p : Nat, p < k → 0 ≤ st p ∧ st p ≤ 400) → 0 ≤ nbP st after k last ∧ nbP st after k last ≤ last
  | 0, last, h, _, _ => ⟨h, Int.le_refl _⟩
  | k + 1, last, h, h2, hp => by
    have h1 := nbP_rng st after k last h h2 (fun p q => hp p (by omega))
    have h3 := hp k (by omega)
    unfold nbP
    split <;> omega

set_option maxHeartbeats 4000000 in
set_option maxRecDepth 100000 in
theorem c_X0_began (l : Launch) (G : GE) (w : WF) (i : Nat) (st : Nat → Int) (pl : Nat → Int) (sp : Nat → Int) (np : Nat) (stop : Int) (e0 : w (19 + 4 * i) = .inr (0, [.ref (gad G (19 + 4 * i + 1)), .ref (gad G (19 + 4 * i + 2)), .ref (gad G (19 + 4 * i + 3)), .int (iN ((np : Nat) : Int)), .int (iN stop)])) (e1 : w (19 + 4 * i + 1) = .inl (gI G, 8, .inl (aN st))) (e2 : w (19 + 4 * i + 2) = .inl (gI G, 8, .inl (aN pl))) (e3 : w (19 + 4 * i + 3) = .inl (gI G, 8, .inl (aN sp))) (p0 : i < 10) : Met l yX0_began wsX0_began ({ frames := 0, cells := 0, slots := 0, locals := 0 }) (PcG G w [.ref (gad G (19 + 4 * i))]) (vp_Si (fun r => r = iN (st 0))) 0 0 (fun _ => False) := by
  refine Met.ofW (cc := cX0_began) (maxL := 1) (ret := (some .int)) (by decide) rfl ?_
  intro p e s m args below meth c s₁ B hml hv
  obtain ⟨rfl, hP, hK⟩ := hv
  have hx := B.exec
  have hb := B.bytes
  have hr := B.returns
  have hts := atoms_spec (ws := wsX0_began) B.pre
  have hown : s.vm.findClass RX0 = some m.cls := findClass_of_methodNamed B.named
  have hlocks := B.notSynchronized
  have hl := lv_entry ([.ref (gad G (19 + 4 * i))]) (n := 1) (Nat.le_of_ble_eq_true rfl)
  rw [lg_entry_eq]
  generalize (lg_sl ([.ref (gad G (19 + 4 * i))]) ++ List.replicate (1 - (lg_sl ([.ref (gad G (19 + 4 * i))])).length) Slot.unset).toArray = ls at hl ⊢
  have hl : lv_has ls 1 [(0, .ref (gad G (19 + 4 * i)))] := hl
  refine lv_aload_n hx hb dX0_began_0 rfl (lv_at hl 0 rfl) ?_
  refine f_get (C := RX0) (T := TX0) (N := 5) hx hb hts (by decide +kernel) hown hK hP (19 + 4 * i) (by omega) e0 rfl 0 (by decide) (hts (.fieldLink RX0 9 "KeptMoving$Course" "starts" "[I") (by decide +kernel)) (fun _ h9 => h9) rfl dX0_began_1 ?_
  refine n_iconst hx hb dX0_began_4 ?_
  refine n_iald hx hb hK hP (19 + 4 * i + 1) (by omega) e1 0 rfl (by omega) (by decide) dX0_began_5 ?_
  exact r_si hx hb hr dX0_began_6 hlocks (show iN (st 0) = iN (st 0) from congrArg iN (by first | rfl | omega))

set_option maxHeartbeats 4000000 in
set_option maxRecDepth 100000 in
theorem c_X0_isStopped (l : Launch) (G : GE) (w : WF) (i : Nat) (st : Nat → Int) (pl : Nat → Int) (sp : Nat → Int) (np : Nat) (stop : Int) (e0 : w (19 + 4 * i) = .inr (0, [.ref (gad G (19 + 4 * i + 1)), .ref (gad G (19 + 4 * i + 2)), .ref (gad G (19 + 4 * i + 3)), .int (iN ((np : Nat) : Int)), .int (iN stop)])) (e1 : w (19 + 4 * i + 1) = .inl (gI G, 8, .inl (aN st))) (e2 : w (19 + 4 * i + 2) = .inl (gI G, 8, .inl (aN pl))) (e3 : w (19 + 4 * i + 3) = .inl (gI G, 8, .inl (aN sp))) (p0 : i < 10) (p1 : -1 ≤ stop ∧ stop ≤ 400) : Met l yX0_isStopped wsX0_isStopped ({ frames := 0, cells := 0, slots := 0, locals := 0 }) (PcG G w [.ref (gad G (19 + 4 * i))]) (vp_Si (fun r => r = iN (if (stop ≠ -1) then 1 else 0))) 0 0 (fun _ => False) := by
  refine Met.ofW (cc := cX0_isStopped) (maxL := 1) (ret := (some .boolean)) (by decide) rfl ?_
  intro p e s m args below meth c s₁ B hml hv
  obtain ⟨rfl, hP, hK⟩ := hv
  have hx := B.exec
  have hb := B.bytes
  have hr := B.returns
  have hts := atoms_spec (ws := wsX0_isStopped) B.pre
  have hown : s.vm.findClass RX0 = some m.cls := findClass_of_methodNamed B.named
  have hlocks := B.notSynchronized
  have hl := lv_entry ([.ref (gad G (19 + 4 * i))]) (n := 1) (Nat.le_of_ble_eq_true rfl)
  rw [lg_entry_eq]
  generalize (lg_sl ([.ref (gad G (19 + 4 * i))]) ++ List.replicate (1 - (lg_sl ([.ref (gad G (19 + 4 * i))])).length) Slot.unset).toArray = ls at hl ⊢
  have hl : lv_has ls 1 [(0, .ref (gad G (19 + 4 * i)))] := hl
  refine lv_aload_n hx hb dX0_isStopped_0 rfl (lv_at hl 0 rfl) ?_
  refine f_get (C := RX0) (T := TX0) (N := 5) hx hb hts (by decide +kernel) hown hK hP (19 + 4 * i) (by omega) e0 rfl 4 (by decide) (hts (.fieldLink RX0 25 "KeptMoving$Course" "stopped" "I") (by decide +kernel)) (fun _ h9 => h9) rfl dX0_isStopped_1 ?_
  refine n_iconst hx hb dX0_isStopped_4 ?_
  refine n_icmp_eq (tgt := 12) hx hb dX0_isStopped_5 (by decide) (by omega) (by omega) (by omega) (by omega) (fun c_5 => ?_) (fun c_5 => ?_)
  · refine n_iconst hx hb dX0_isStopped_12 ?_
    exact r_z0 hx hb hr dX0_isStopped_13 hlocks (show iN 0 = iN (if (stop ≠ -1) then 1 else 0) by rw [if_neg (by omega)])
  · refine n_iconst hx hb dX0_isStopped_8 ?_
    refine lv_goto (tgt := 13) hx hb dX0_isStopped_9 (by decide) ?_
    exact r_z1 hx hb hr dX0_isStopped_13 hlocks (show iN 1 = iN (if (stop ≠ -1) then 1 else 0) by rw [if_pos (by omega)])

set_option maxHeartbeats 4000000 in
set_option maxRecDepth 100000 in
theorem c_X0_latestSpeed (l : Launch) (G : GE) (w : WF) (i : Nat) (st : Nat → Int) (pl : Nat → Int) (sp : Nat → Int) (np : Nat) (stop : Int) (e0 : w (19 + 4 * i) = .inr (0, [.ref (gad G (19 + 4 * i + 1)), .ref (gad G (19 + 4 * i + 2)), .ref (gad G (19 + 4 * i + 3)), .int (iN ((np : Nat) : Int)), .int (iN stop)])) (e1 : w (19 + 4 * i + 1) = .inl (gI G, 8, .inl (aN st))) (e2 : w (19 + 4 * i + 2) = .inl (gI G, 8, .inl (aN pl))) (e3 : w (19 + 4 * i + 3) = .inl (gI G, 8, .inl (aN sp))) (p0 : i < 10) (p1 : 1 ≤ np ∧ np ≤ 8) : Met l yX0_latestSpeed wsX0_latestSpeed ({ frames := 0, cells := 0, slots := 0, locals := 0 }) (PcG G w [.ref (gad G (19 + 4 * i))]) (vp_Si (fun r => r = iN (sp (np - 1)))) 0 0 (fun _ => False) := by
  refine Met.ofW (cc := cX0_latestSpeed) (maxL := 1) (ret := (some .int)) (by decide) rfl ?_
  intro p e s m args below meth c s₁ B hml hv
  obtain ⟨rfl, hP, hK⟩ := hv
  have hx := B.exec
  have hb := B.bytes
  have hr := B.returns
  have hts := atoms_spec (ws := wsX0_latestSpeed) B.pre
  have hown : s.vm.findClass RX0 = some m.cls := findClass_of_methodNamed B.named
  have hlocks := B.notSynchronized
  have hl := lv_entry ([.ref (gad G (19 + 4 * i))]) (n := 1) (Nat.le_of_ble_eq_true rfl)
  rw [lg_entry_eq]
  generalize (lg_sl ([.ref (gad G (19 + 4 * i))]) ++ List.replicate (1 - (lg_sl ([.ref (gad G (19 + 4 * i))])).length) Slot.unset).toArray = ls at hl ⊢
  have hl : lv_has ls 1 [(0, .ref (gad G (19 + 4 * i)))] := hl
  refine lv_aload_n hx hb dX0_latestSpeed_0 rfl (lv_at hl 0 rfl) ?_
  refine f_get (C := RX0) (T := TX0) (N := 5) hx hb hts (by decide +kernel) hown hK hP (19 + 4 * i) (by omega) e0 rfl 2 (by decide) (hts (.fieldLink RX0 18 "KeptMoving$Course" "speeds" "[I") (by decide +kernel)) (fun _ h9 => h9) rfl dX0_latestSpeed_1 ?_
  refine lv_aload_n hx hb dX0_latestSpeed_4 rfl (lv_at hl 0 rfl) ?_
  refine f_get (C := RX0) (T := TX0) (N := 5) hx hb hts (by decide +kernel) hown hK hP (19 + 4 * i) (by omega) e0 rfl 3 (by decide) (hts (.fieldLink RX0 21 "KeptMoving$Course" "pieces" "I") (by decide +kernel)) (fun _ h9 => h9) rfl dX0_latestSpeed_5 ?_
  refine n_iconst hx hb dX0_latestSpeed_8 ?_
  refine n_isub hx hb dX0_latestSpeed_9 ?_
  refine n_iald hx hb hK hP (19 + 4 * i + 3) (by omega) e3 (np - 1) (by omega) (by omega) (by decide) dX0_latestSpeed_10 ?_
  exact r_si hx hb hr dX0_latestSpeed_11 hlocks (show iN (sp (np - 1)) = iN (sp (np - 1)) from congrArg iN (by first | rfl | omega))

set_option maxHeartbeats 4000000 in
set_option maxRecDepth 100000 in
theorem c_X0_canTurn (l : Launch) (G : GE) (w : WF) (i : Nat) (st : Nat → Int) (pl : Nat → Int) (sp : Nat → Int) (np : Nat) (stop : Int) (t : Int) (e0 : w (19 + 4 * i) = .inr (0, [.ref (gad G (19 + 4 * i + 1)), .ref (gad G (19 + 4 * i + 2)), .ref (gad G (19 + 4 * i + 3)), .int (iN ((np : Nat) : Int)), .int (iN stop)])) (e1 : w (19 + 4 * i + 1) = .inl (gI G, 8, .inl (aN st))) (e2 : w (19 + 4 * i + 2) = .inl (gI G, 8, .inl (aN pl))) (e3 : w (19 + 4 * i + 3) = .inl (gI G, 8, .inl (aN sp))) (p0 : i < 10) (p1 : 1 ≤ np ∧ np ≤ 8) (p2 : ∀ p : Nat, p < np → 0 ≤ st p ∧ st p ≤ 400) (p3 : 0 ≤ t ∧ t ≤ 400) : Met l yX0_canTurn wsX0_canTurn ({ frames := 0, cells := 0, slots := 0, locals := 0 }) (PcG G w [.ref (gad G (19 + 4 * i)), .int (iN t)]) (vp_Si (fun r => r = iN (if (np < 8 ∨ st 7 = t) then 1 else 0))) 0 0 (fun _ => False) := by
  refine Met.ofW (cc := cX0_canTurn) (maxL := 2) (ret := (some .boolean)) (by decide) rfl ?_
  intro p e s m args below meth c s₁ B hml hv
  obtain ⟨rfl, hP, hK⟩ := hv
  have hx := B.exec
  have hb := B.bytes
  have hr := B.returns
  have hts := atoms_spec (ws := wsX0_canTurn) B.pre
  have hown : s.vm.findClass RX0 = some m.cls := findClass_of_methodNamed B.named
  have hlocks := B.notSynchronized
  have hl := lv_entry ([.ref (gad G (19 + 4 * i)), .int (iN t)]) (n := 2) (Nat.le_of_ble_eq_true rfl)
  rw [lg_entry_eq]
  generalize (lg_sl ([.ref (gad G (19 + 4 * i)), .int (iN t)]) ++ List.replicate (2 - (lg_sl ([.ref (gad G (19 + 4 * i)), .int (iN t)])).length) Slot.unset).toArray = ls at hl ⊢
  have hl : lv_has ls 2 [(0, .ref (gad G (19 + 4 * i))), (1, .int (iN t))] := hl
  refine lv_aload_n hx hb dX0_canTurn_0 rfl (lv_at hl 0 rfl) ?_
  refine f_get (C := RX0) (T := TX0) (N := 5) hx hb hts (by decide +kernel) hown hK hP (19 + 4 * i) (by omega) e0 rfl 3 (by decide) (hts (.fieldLink RX0 21 "KeptMoving$Course" "pieces" "I") (by decide +kernel)) (fun _ h9 => h9) rfl dX0_canTurn_1 ?_
  refine n_bipush hx hb dX0_canTurn_4 (by decide) ?_
  refine n_icmp_lt (tgt := 20) hx hb dX0_canTurn_6 (by decide) (by omega) (by omega) (by omega) (by omega) (fun c_6 => ?_) (fun c_6 => ?_)
  · refine n_iconst hx hb dX0_canTurn_20 ?_
    refine lv_goto (tgt := 25) hx hb dX0_canTurn_21 (by decide) ?_
    exact r_z1 hx hb hr dX0_canTurn_25 hlocks (show iN 1 = iN (if (np < 8 ∨ st 7 = t) then 1 else 0) by rw [if_pos (by omega)])
  · have hs7 := p2 7 (by omega)
    refine lv_aload_n hx hb dX0_canTurn_9 rfl (lv_at hl 0 rfl) ?_
    refine f_get (C := RX0) (T := TX0) (N := 5) hx hb hts (by decide +kernel) hown hK hP (19 + 4 * i) (by omega) e0 rfl 0 (by decide) (hts (.fieldLink RX0 9 "KeptMoving$Course" "starts" "[I") (by decide +kernel)) (fun _ h9 => h9) rfl dX0_canTurn_10 ?_
    refine n_bipush hx hb dX0_canTurn_13 (by decide) ?_
    refine n_iald hx hb hK hP (19 + 4 * i + 1) (by omega) e1 7 rfl (by omega) (by decide) dX0_canTurn_15 ?_
    refine lv_iload_n hx hb dX0_canTurn_16 rfl (lv_at hl 1 rfl) ?_
    refine n_icmp_ne (tgt := 24) hx hb dX0_canTurn_17 (by decide) (by omega) (by omega) (by omega) (by omega) (fun c_17 => ?_) (fun c_17 => ?_)
    · refine n_iconst hx hb dX0_canTurn_24 ?_
      exact r_z0 hx hb hr dX0_canTurn_25 hlocks (show iN 0 = iN (if (np < 8 ∨ st 7 = t) then 1 else 0) by rw [if_neg (by omega)])
    · refine n_iconst hx hb dX0_canTurn_20 ?_
      refine lv_goto (tgt := 25) hx hb dX0_canTurn_21 (by decide) ?_
      exact r_z1 hx hb hr dX0_canTurn_25 hlocks (show iN 1 = iN (if (np < 8 ∨ st 7 = t) then 1 else 0) by rw [if_pos (by omega)])

set_option maxHeartbeats 4000000 in
set_option maxRecDepth 100000 in
theorem c_X0_pieceAt (l : Launch) (G : GE) (w : WF) (i : Nat) (st : Nat → Int) (pl : Nat → Int) (sp : Nat → Int) (np : Nat) (stop : Int) (n : Int) (d : Int) (e0 : w (19 + 4 * i) = .inr (0, [.ref (gad G (19 + 4 * i + 1)), .ref (gad G (19 + 4 * i + 2)), .ref (gad G (19 + 4 * i + 3)), .int (iN ((np : Nat) : Int)), .int (iN stop)])) (e1 : w (19 + 4 * i + 1) = .inl (gI G, 8, .inl (aN st))) (e2 : w (19 + 4 * i + 2) = .inl (gI G, 8, .inl (aN pl))) (e3 : w (19 + 4 * i + 3) = .inl (gI G, 8, .inl (aN sp))) (p0 : i < 10) (p1 : 1 ≤ np ∧ np ≤ 8) (p2 : ∀ p : Nat, p < np → 0 ≤ st p ∧ st p ≤ 400) (p3 : 0 ≤ n ∧ n ≤ 120000) (p4 : 1 ≤ d ∧ d ≤ 200) : Met l yX0_pieceAt wsX0_pieceAt ({ frames := 0, cells := 0, slots := 0, locals := 0 }) (PcG G w [.ref (gad G (19 + 4 * i)), .int (iN n), .int (iN d)]) (vp_Si (fun r => r = iN ((pcAt st n d np : Nat) : Int))) 0 0 (fun _ => False) := by
  refine Met.ofW (cc := cX0_pieceAt) (maxL := 5) (ret := (some .int)) (by decide) rfl ?_
  intro p e s m args below meth c s₁ B hml hv
  obtain ⟨rfl, hP, hK⟩ := hv
  have hx := B.exec
  have hb := B.bytes
  have hr := B.returns
  have hts := atoms_spec (ws := wsX0_pieceAt) B.pre
  have hown : s.vm.findClass RX0 = some m.cls := findClass_of_methodNamed B.named
  have hlocks := B.notSynchronized
  have hl := lv_entry ([.ref (gad G (19 + 4 * i)), .int (iN n), .int (iN d)]) (n := 5) (Nat.le_of_ble_eq_true rfl)
  rw [lg_entry_eq]
  generalize (lg_sl ([.ref (gad G (19 + 4 * i)), .int (iN n), .int (iN d)]) ++ List.replicate (5 - (lg_sl ([.ref (gad G (19 + 4 * i)), .int (iN n), .int (iN d)])).length) Slot.unset).toArray = ls at hl ⊢
  have hl : lv_has ls 5 [(0, .ref (gad G (19 + 4 * i))), (1, .int (iN n)), (2, .int (iN d))] := hl
  refine n_iconst hx hb dX0_pieceAt_0 ?_
  refine lv_istore_n (lv' := [(3, .int (iN 0)), (0, .ref (gad G (19 + 4 * i))), (1, .int (iN n)), (2, .int (iN d))]) hx hb dX0_pieceAt_1 rfl hl (by decide) rfl (fun ls hl => ?_)
  refine n_iconst hx hb dX0_pieceAt_2 ?_
  refine lv_istore (lv' := [(4, .int (iN 1)), (3, .int (iN 0)), (0, .ref (gad G (19 + 4 * i))), (1, .int (iN n)), (2, .int (iN d))]) hx hb dX0_pieceAt_3 hl (by decide) rfl (fun ls hl => ?_)
  have K5 : ∀ (N : Nat) (q : Nat) (ls : Array Slot), 1 ≤ q ∧ q ≤ np → 9 - q < N → lv_has ls 5 [(0, .ref (gad G (19 + 4 * i))), (1, .int (iN n)), (2, .int (iN d)), (3, .int (iN ((pcAt st n d q : Nat) : Int))), (4, .int (iN ((q : Nat) : Int)))] → W p l e (headSpec wsX0_pieceAt ({ frames := 0, cells := 0, slots := 0, locals := 0 })).room s m (([.ref (gad G (19 + 4 * i)), .int (iN n), .int (iN d)] : List Value).toArray) below meth c s.heap [] 0 0 (MQ below (vp_Si (fun r => r = iN ((pcAt st n d np : Nat) : Int))) (([.ref (gad G (19 + 4 * i)), .int (iN n), .int (iN d)] : List Value).toArray) s 0 0 (fun _ => False)) (F0 m 5 ls []) := by
    intro N
    induction N with
    | zero =>
      intros
      exfalso
      omega
    | succ N ih5 =>
      intro q ls i5_0 hN5 hl
      refine lv_iload hx hb dX0_pieceAt_5 (lv_at hl 4 rfl) ?_
      refine lv_aload_n hx hb dX0_pieceAt_7 rfl (lv_at hl 0 rfl) ?_
      refine f_get (C := RX0) (T := TX0) (N := 5) hx hb hts (by decide +kernel) hown hK hP (19 + 4 * i) (by omega) e0 rfl 3 (by decide) (hts (.fieldLink RX0 21 "KeptMoving$Course" "pieces" "I") (by decide +kernel)) (fun _ h9 => h9) rfl dX0_pieceAt_8 ?_
      refine n_icmp_ge (tgt := 36) hx hb dX0_pieceAt_11 (by decide) (by omega) (by omega) (by omega) (by omega) (fun c_11 => ?_) (fun c_11 => ?_)
      · refine lv_iload_n hx hb dX0_pieceAt_36 rfl (lv_at hl 3 rfl) ?_
        exact r_si hx hb hr dX0_pieceAt_37 hlocks (show iN ((pcAt st n d q : Nat) : Int) = iN ((pcAt st n d np : Nat) : Int) by rw [show q = np by omega])
      · have hm := mb1 (p2 q (by omega)) p4
        refine lv_aload_n hx hb dX0_pieceAt_14 rfl (lv_at hl 0 rfl) ?_
        refine f_get (C := RX0) (T := TX0) (N := 5) hx hb hts (by decide +kernel) hown hK hP (19 + 4 * i) (by omega) e0 rfl 0 (by decide) (hts (.fieldLink RX0 9 "KeptMoving$Course" "starts" "[I") (by decide +kernel)) (fun _ h9 => h9) rfl dX0_pieceAt_15 ?_
        refine lv_iload hx hb dX0_pieceAt_18 (lv_at hl 4 rfl) ?_
        refine n_iald hx hb hK hP (19 + 4 * i + 1) (by omega) e1 q rfl (by omega) (by decide) dX0_pieceAt_20 ?_
        refine lv_iload_n hx hb dX0_pieceAt_21 rfl (lv_at hl 2 rfl) ?_
        refine n_imul hx hb dX0_pieceAt_22 ?_
        refine lv_iload_n hx hb dX0_pieceAt_23 rfl (lv_at hl 1 rfl) ?_
        refine n_icmp_gt (tgt := 30) hx hb dX0_pieceAt_24 (by decide) (by omega) (by omega) (by omega) (by omega) (fun c_24 => ?_) (fun c_24 => ?_)
        · have hz_1 : pcAt st n d q = pcAt st n d (q + 1) := by show _ = if 0 < q ∧ st q * d ≤ n then q else pcAt st n d q; rw [if_neg (by omega)]
          have hl : lv_has ls 5 [(0, .ref (gad G (19 + 4 * i))), (1, .int (iN n)), (2, .int (iN d)), (3, .int (iN ((pcAt st n d (q + 1) : Nat) : Int))), (4, .int (iN ((q : Nat) : Int)))] := by rw [← hz_1]; exact hl
          refine lv_iinc (v := iN ((q + 1 : Nat) : Int)) (lv' := [(4, .int (iN ((q + 1 : Nat) : Int))), (0, .ref (gad G (19 + 4 * i))), (1, .int (iN n)), (2, .int (iN d)), (3, .int (iN ((pcAt st n d (q + 1) : Nat) : Int)))]) hx hb dX0_pieceAt_30 hl (k := 4) rfl (iN_incN _) (by decide) rfl (fun ls hl => ?_)
          refine lv_goto (tgt := 5) hx hb dX0_pieceAt_33 (by decide) ?_
          exact ih5 (q + 1) _ (by omega) (by omega) (lv_sub hl [1, 2, 3, 4, 0] rfl)
        · refine lv_iload hx hb dX0_pieceAt_27 (lv_at hl 4 rfl) ?_
          refine lv_istore_n (lv' := [(3, .int (iN ((q : Nat) : Int))), (0, .ref (gad G (19 + 4 * i))), (1, .int (iN n)), (2, .int (iN d)), (4, .int (iN ((q : Nat) : Int)))]) hx hb dX0_pieceAt_29 rfl hl (by decide) rfl (fun ls hl => ?_)
          have hz_2 : q = pcAt st n d (q + 1) := by show _ = if 0 < q ∧ st q * d ≤ n then q else pcAt st n d q; rw [if_pos ⟨by omega, by omega⟩]
          have hl : lv_has ls 5 [(3, .int (iN ((pcAt st n d (q + 1) : Nat) : Int))), (0, .ref (gad G (19 + 4 * i))), (1, .int (iN n)), (2, .int (iN d)), (4, .int (iN ((q : Nat) : Int)))] := by rw [← hz_2]; exact hl
          refine lv_iinc (v := iN ((q + 1 : Nat) : Int)) (lv' := [(4, .int (iN ((q + 1 : Nat) : Int))), (3, .int (iN ((pcAt st n d (q + 1) : Nat) : Int))), (0, .ref (gad G (19 + 4 * i))), (1, .int (iN n)), (2, .int (iN d))]) hx hb dX0_pieceAt_30 hl (k := 4) rfl (iN_incN _) (by decide) rfl (fun ls hl => ?_)
          refine lv_goto (tgt := 5) hx hb dX0_pieceAt_33 (by decide) ?_
          exact ih5 (q + 1) _ (by omega) (by omega) (lv_sub hl [2, 3, 4, 1, 0] rfl)
  exact K5 ((9 - 1) + 1) (1) _ (by omega) (by omega) (lv_sub hl [2, 3, 4, 1, 0] rfl)

set_option maxHeartbeats 4000000 in
set_option maxRecDepth 100000 in
theorem c_X0_upperAt (l : Launch) (G : GE) (w : WF) (i : Nat) (st : Nat → Int) (pl : Nat → Int) (sp : Nat → Int) (np : Nat) (stop : Int) (n : Int) (d : Int) (e0 : w (19 + 4 * i) = .inr (0, [.ref (gad G (19 + 4 * i + 1)), .ref (gad G (19 + 4 * i + 2)), .ref (gad G (19 + 4 * i + 3)), .int (iN ((np : Nat) : Int)), .int (iN stop)])) (e1 : w (19 + 4 * i + 1) = .inl (gI G, 8, .inl (aN st))) (e2 : w (19 + 4 * i + 2) = .inl (gI G, 8, .inl (aN pl))) (e3 : w (19 + 4 * i + 3) = .inl (gI G, 8, .inl (aN sp))) (p0 : i < 10) (p1 : 1 ≤ np ∧ np ≤ 8) (p2 : ∀ p : Nat, p < np → 0 ≤ st p ∧ st p ≤ 400) (p3 : 0 ≤ n ∧ n ≤ 120000) (p4 : 1 ≤ d ∧ d ≤ 200) : Met l yX0_upperAt wsX0_upperAt ({ frames := 1, cells := 0, slots := 0, locals := 24 }) (PcG G w [.ref (gad G (19 + 4 * i)), .int (iN n), .int (iN d)]) (vp_Si (fun r => r = iN (upAt st pl sp np n d))) 0 0 (fun _ => False) := by
  refine Met.ofW (cc := cX0_upperAt) (maxL := 4) (ret := (some .int)) (by decide) rfl ?_
  intro p e s m args below meth c s₁ B hml hv
  obtain ⟨rfl, hP, hK⟩ := hv
  have hx := B.exec
  have hb := B.bytes
  have hr := B.returns
  have hts := atoms_spec (ws := wsX0_upperAt) B.pre
  have hown : s.vm.findClass RX0 = some m.cls := findClass_of_methodNamed B.named
  have hlocks := B.notSynchronized
  have hl := lv_entry ([.ref (gad G (19 + 4 * i)), .int (iN n), .int (iN d)]) (n := 4) (Nat.le_of_ble_eq_true rfl)
  rw [lg_entry_eq]
  generalize (lg_sl ([.ref (gad G (19 + 4 * i)), .int (iN n), .int (iN d)]) ++ List.replicate (4 - (lg_sl ([.ref (gad G (19 + 4 * i)), .int (iN n), .int (iN d)])).length) Slot.unset).toArray = ls at hl ⊢
  have hl : lv_has ls 4 [(0, .ref (gad G (19 + 4 * i))), (1, .int (iN n)), (2, .int (iN d))] := hl
  refine lv_aload_n hx hb dX0_upperAt_0 rfl (lv_at hl 0 rfl) ?_
  refine lv_iload_n hx hb dX0_upperAt_1 rfl (lv_at hl 1 rfl) ?_
  refine lv_iload_n hx hb dX0_upperAt_2 rfl (lv_at hl 2 rfl) ?_
  refine vp_callSi (W.runV (As := [.int (iN n), .int (iN d)]) (rest := []) ⟨hx, hb, hml, hown, hts⟩ (c_X0_pieceAt l G w i st pl sp np stop n d e0 e1 e2 e3 (p0) (p1) (p2) (p3) (p4)) (cwV 2 hts gX0_upperAt_X0_pieceAt rfl rfl rfl (by decide +kernel) ⟨Nat.le_of_ble_eq_true rfl, Nat.le_of_ble_eq_true rfl⟩) (f_preV hP hK (19 + 4 * i) (by omega) 0 e0 rfl) rfl rfl hl.1 rfl (lv_room (Nat.le_of_ble_eq_true rfl)) dX0_upperAt_3 ⟨Nat.zero_le _, Nat.zero_le _⟩) (fun r_1 hr_1 => ?_)
  rw [show r_1 = iN ((pcAt st n d np : Nat) : Int) from hr_1]
  have hq := pcAt_lt st n d np (by omega)
  refine lv_istore_n (lv' := [(3, .int (iN ((pcAt st n d np : Nat) : Int))), (0, .ref (gad G (19 + 4 * i))), (1, .int (iN n)), (2, .int (iN d))]) hx hb dX0_upperAt_6 rfl hl (by decide) rfl (fun ls hl => ?_)
  refine lv_aload_n hx hb dX0_upperAt_7 rfl (lv_at hl 1 rfl) ?_
  refine f_get (C := RX0) (T := TX0) (N := 5) hx hb hts (by decide +kernel) hown hK hP (19 + 4 * i) (by omega) e0 rfl 1 (by decide) (hts (.fieldLink RX0 15 "KeptMoving$Course" "places" "[I") (by decide +kernel)) (fun _ h9 => h9) rfl dX0_upperAt_8 ?_
  refine lv_iload_n hx hb dX0_upperAt_11 rfl (lv_at hl 0 rfl) ?_
  refine n_iald hx hb hK hP (19 + 4 * i + 2) (by omega) e2 (pcAt st n d np) rfl (by omega) (by decide) dX0_upperAt_12 ?_
  refine lv_iload_n hx hb dX0_upperAt_13 rfl (lv_at hl 3 rfl) ?_
  refine n_imul hx hb dX0_upperAt_14 ?_
  refine lv_aload_n hx hb dX0_upperAt_15 rfl (lv_at hl 1 rfl) ?_
  refine f_get (C := RX0) (T := TX0) (N := 5) hx hb hts (by decide +kernel) hown hK hP (19 + 4 * i) (by omega) e0 rfl 2 (by decide) (hts (.fieldLink RX0 18 "KeptMoving$Course" "speeds" "[I") (by decide +kernel)) (fun _ h9 => h9) rfl dX0_upperAt_16 ?_
  refine lv_iload_n hx hb dX0_upperAt_19 rfl (lv_at hl 0 rfl) ?_
  refine n_iald hx hb hK hP (19 + 4 * i + 3) (by omega) e3 (pcAt st n d np) rfl (by omega) (by decide) dX0_upperAt_20 ?_
  refine lv_iload_n hx hb dX0_upperAt_21 rfl (lv_at hl 2 rfl) ?_
  refine lv_aload_n hx hb dX0_upperAt_22 rfl (lv_at hl 1 rfl) ?_
  refine f_get (C := RX0) (T := TX0) (N := 5) hx hb hts (by decide +kernel) hown hK hP (19 + 4 * i) (by omega) e0 rfl 0 (by decide) (hts (.fieldLink RX0 9 "KeptMoving$Course" "starts" "[I") (by decide +kernel)) (fun _ h9 => h9) rfl dX0_upperAt_23 ?_
  refine lv_iload_n hx hb dX0_upperAt_26 rfl (lv_at hl 0 rfl) ?_
  refine n_iald hx hb hK hP (19 + 4 * i + 1) (by omega) e1 (pcAt st n d np) rfl (by omega) (by decide) dX0_upperAt_27 ?_
  refine lv_iload_n hx hb dX0_upperAt_28 rfl (lv_at hl 3 rfl) ?_
  refine n_imul hx hb dX0_upperAt_29 ?_
  refine n_isub hx hb dX0_upperAt_30 ?_
  refine n_imul hx hb dX0_upperAt_31 ?_
  refine n_iadd hx hb dX0_upperAt_32 ?_
  exact r_si hx hb hr dX0_upperAt_33 hlocks (show iN (((pl (pcAt st n d np)) * d) + ((sp (pcAt st n d np)) * (n - ((st (pcAt st n d np)) * d)))) = iN (upAt st pl sp np n d) from congrArg iN (by first | rfl | omega))

set_option maxHeartbeats 4000000 in
set_option maxRecDepth 100000 in
theorem c_X0_placeAt (l : Launch) (G : GE) (w : WF) (i : Nat) (st : Nat → Int) (pl : Nat → Int) (sp : Nat → Int) (np : Nat) (stop : Int) (n : Int) (e0 : w (19 + 4 * i) = .inr (0, [.ref (gad G (19 + 4 * i + 1)), .ref (gad G (19 + 4 * i + 2)), .ref (gad G (19 + 4 * i + 3)), .int (iN ((np : Nat) : Int)), .int (iN stop)])) (e1 : w (19 + 4 * i + 1) = .inl (gI G, 8, .inl (aN st))) (e2 : w (19 + 4 * i + 2) = .inl (gI G, 8, .inl (aN pl))) (e3 : w (19 + 4 * i + 3) = .inl (gI G, 8, .inl (aN sp))) (p0 : i < 10) (p1 : 1 ≤ np ∧ np ≤ 8) (p2 : ∀ p : Nat, p < np → 0 ≤ st p ∧ st p ≤ 400) (p3 : 0 ≤ n ∧ n ≤ 120000) : Met l yX0_placeAt wsX0_placeAt ({ frames := 2, cells := 0, slots := 0, locals := 47 }) (PcG G w [.ref (gad G (19 + 4 * i)), .int (iN n)]) (vp_Si (fun r => r = iN (upAt st pl sp np n 1))) 0 0 (fun _ => False) := by
  refine Met.ofW (cc := cX0_placeAt) (maxL := 2) (ret := (some .int)) (by decide) rfl ?_
  intro p e s m args below meth c s₁ B hml hv
  obtain ⟨rfl, hP, hK⟩ := hv
  have hx := B.exec
  have hb := B.bytes
  have hr := B.returns
  have hts := atoms_spec (ws := wsX0_placeAt) B.pre
  have hown : s.vm.findClass RX0 = some m.cls := findClass_of_methodNamed B.named
  have hlocks := B.notSynchronized
  have hl := lv_entry ([.ref (gad G (19 + 4 * i)), .int (iN n)]) (n := 2) (Nat.le_of_ble_eq_true rfl)
  rw [lg_entry_eq]
  generalize (lg_sl ([.ref (gad G (19 + 4 * i)), .int (iN n)]) ++ List.replicate (2 - (lg_sl ([.ref (gad G (19 + 4 * i)), .int (iN n)])).length) Slot.unset).toArray = ls at hl ⊢
  have hl : lv_has ls 2 [(0, .ref (gad G (19 + 4 * i))), (1, .int (iN n))] := hl
  refine lv_aload_n hx hb dX0_placeAt_0 rfl (lv_at hl 0 rfl) ?_
  refine lv_iload_n hx hb dX0_placeAt_1 rfl (lv_at hl 1 rfl) ?_
  refine n_iconst hx hb dX0_placeAt_2 ?_
  refine vp_callSi (W.runV (As := [.int (iN n), .int (iN 1)]) (rest := []) ⟨hx, hb, hml, hown, hts⟩ (c_X0_upperAt l G w i st pl sp np stop n 1 e0 e1 e2 e3 (p0) (p1) (p2) (p3) (by omega)) (cwV 2 hts gX0_placeAt_X0_upperAt rfl rfl rfl (by decide +kernel) ⟨Nat.le_of_ble_eq_true rfl, Nat.le_of_ble_eq_true rfl⟩) (f_preV hP hK (19 + 4 * i) (by omega) 0 e0 rfl) rfl rfl hl.1 rfl (lv_room (Nat.le_of_ble_eq_true rfl)) dX0_placeAt_3 ⟨Nat.zero_le _, Nat.zero_le _⟩) (fun r_1 hr_1 => ?_)
  rw [show r_1 = iN (upAt st pl sp np n 1) from hr_1]
  exact r_si hx hb hr dX0_placeAt_6 hlocks (show iN (upAt st pl sp np n 1) = iN (upAt st pl sp np n 1) from congrArg iN (by first | rfl | omega))

set_option maxHeartbeats 4000000 in
set_option maxRecDepth 100000 in
theorem c_X0_speedAt (l : Launch) (G : GE) (w : WF) (i : Nat) (st : Nat → Int) (pl : Nat → Int) (sp : Nat → Int) (np : Nat) (stop : Int) (n : Int) (e0 : w (19 + 4 * i) = .inr (0, [.ref (gad G (19 + 4 * i + 1)), .ref (gad G (19 + 4 * i + 2)), .ref (gad G (19 + 4 * i + 3)), .int (iN ((np : Nat) : Int)), .int (iN stop)])) (e1 : w (19 + 4 * i + 1) = .inl (gI G, 8, .inl (aN st))) (e2 : w (19 + 4 * i + 2) = .inl (gI G, 8, .inl (aN pl))) (e3 : w (19 + 4 * i + 3) = .inl (gI G, 8, .inl (aN sp))) (p0 : i < 10) (p1 : 1 ≤ np ∧ np ≤ 8) (p2 : ∀ p : Nat, p < np → 0 ≤ st p ∧ st p ≤ 400) (p3 : 0 ≤ n ∧ n ≤ 120000) : Met l yX0_speedAt wsX0_speedAt ({ frames := 1, cells := 0, slots := 0, locals := 24 }) (PcG G w [.ref (gad G (19 + 4 * i)), .int (iN n)]) (vp_Si (fun r => r = iN (spAt st sp np n))) 0 0 (fun _ => False) := by
  refine Met.ofW (cc := cX0_speedAt) (maxL := 2) (ret := (some .int)) (by decide) rfl ?_
  intro p e s m args below meth c s₁ B hml hv
  obtain ⟨rfl, hP, hK⟩ := hv
  have hx := B.exec
  have hb := B.bytes
  have hr := B.returns
  have hts := atoms_spec (ws := wsX0_speedAt) B.pre
  have hown : s.vm.findClass RX0 = some m.cls := findClass_of_methodNamed B.named
  have hlocks := B.notSynchronized
  have hl := lv_entry ([.ref (gad G (19 + 4 * i)), .int (iN n)]) (n := 2) (Nat.le_of_ble_eq_true rfl)
  rw [lg_entry_eq]
  generalize (lg_sl ([.ref (gad G (19 + 4 * i)), .int (iN n)]) ++ List.replicate (2 - (lg_sl ([.ref (gad G (19 + 4 * i)), .int (iN n)])).length) Slot.unset).toArray = ls at hl ⊢
  have hl : lv_has ls 2 [(0, .ref (gad G (19 + 4 * i))), (1, .int (iN n))] := hl
  have hq := pcAt_lt st n 1 np (by omega)
  refine lv_aload_n hx hb dX0_speedAt_0 rfl (lv_at hl 0 rfl) ?_
  refine f_get (C := RX0) (T := TX0) (N := 5) hx hb hts (by decide +kernel) hown hK hP (19 + 4 * i) (by omega) e0 rfl 2 (by decide) (hts (.fieldLink RX0 18 "KeptMoving$Course" "speeds" "[I") (by decide +kernel)) (fun _ h9 => h9) rfl dX0_speedAt_1 ?_
  refine lv_aload_n hx hb dX0_speedAt_4 rfl (lv_at hl 0 rfl) ?_
  refine lv_iload_n hx hb dX0_speedAt_5 rfl (lv_at hl 1 rfl) ?_
  refine n_iconst hx hb dX0_speedAt_6 ?_
  refine vp_callSi (W.runV (As := [.int (iN n), .int (iN 1)]) (rest := [.ref (gad G (19 + 4 * i + 3))]) ⟨hx, hb, hml, hown, hts⟩ (c_X0_pieceAt l G w i st pl sp np stop n 1 e0 e1 e2 e3 (p0) (p1) (p2) (p3) (by omega)) (cwV 2 hts gX0_speedAt_X0_pieceAt rfl rfl rfl (by decide +kernel) ⟨Nat.le_of_ble_eq_true rfl, Nat.le_of_ble_eq_true rfl⟩) (f_preV hP hK (19 + 4 * i) (by omega) 0 e0 rfl) rfl rfl hl.1 rfl (lv_room (Nat.le_of_ble_eq_true rfl)) dX0_speedAt_7 ⟨Nat.zero_le _, Nat.zero_le _⟩) (fun r_1 hr_1 => ?_)
  rw [show r_1 = iN ((pcAt st n 1 np : Nat) : Int) from hr_1]
  refine n_iald hx hb hK hP (19 + 4 * i + 3) (by omega) e3 (pcAt st n 1 np) rfl (by omega) (by decide) dX0_speedAt_10 ?_
  exact r_si hx hb hr dX0_speedAt_11 hlocks (show iN (sp (pcAt st n 1 np)) = iN (spAt st sp np n) from congrArg iN (by first | rfl | omega))

set_option maxHeartbeats 4000000 in
set_option maxRecDepth 100000 in
theorem c_X0_isThere (l : Launch) (G : GE) (w : WF) (i : Nat) (st : Nat → Int) (pl : Nat → Int) (sp : Nat → Int) (np : Nat) (stop : Int) (n : Int) (d : Int) (e0 : w (19 + 4 * i) = .inr (0, [.ref (gad G (19 + 4 * i + 1)), .ref (gad G (19 + 4 * i + 2)), .ref (gad G (19 + 4 * i + 3)), .int (iN ((np : Nat) : Int)), .int (iN stop)])) (e1 : w (19 + 4 * i + 1) = .inl (gI G, 8, .inl (aN st))) (e2 : w (19 + 4 * i + 2) = .inl (gI G, 8, .inl (aN pl))) (e3 : w (19 + 4 * i + 3) = .inl (gI G, 8, .inl (aN sp))) (p0 : i < 10) (p1 : 0 ≤ st 0 ∧ st 0 ≤ 400) (p2 : -1 ≤ stop ∧ stop ≤ 400) (p3 : 0 ≤ n ∧ n ≤ 120000) (p4 : 1 ≤ d ∧ d ≤ 200) : Met l yX0_isThere wsX0_isThere ({ frames := 0, cells := 0, slots := 0, locals := 0 }) (PcG G w [.ref (gad G (19 + 4 * i)), .int (iN n), .int (iN d)]) (vp_Si (fun r => r = iN (if (st 0 * d ≤ n ∧ (stop = -1 ∨ n < stop * d)) then 1 else 0))) 0 0 (fun _ => False) := by
  refine Met.ofW (cc := cX0_isThere) (maxL := 3) (ret := (some .boolean)) (by decide) rfl ?_
  intro p e s m args below meth c s₁ B hml hv
  obtain ⟨rfl, hP, hK⟩ := hv
  have hx := B.exec
  have hb := B.bytes
  have hr := B.returns
  have hts := atoms_spec (ws := wsX0_isThere) B.pre
  have hown : s.vm.findClass RX0 = some m.cls := findClass_of_methodNamed B.named
  have hlocks := B.notSynchronized
  have hl := lv_entry ([.ref (gad G (19 + 4 * i)), .int (iN n), .int (iN d)]) (n := 3) (Nat.le_of_ble_eq_true rfl)
  rw [lg_entry_eq]
  generalize (lg_sl ([.ref (gad G (19 + 4 * i)), .int (iN n), .int (iN d)]) ++ List.replicate (3 - (lg_sl ([.ref (gad G (19 + 4 * i)), .int (iN n), .int (iN d)])).length) Slot.unset).toArray = ls at hl ⊢
  have hl : lv_has ls 3 [(0, .ref (gad G (19 + 4 * i))), (1, .int (iN n)), (2, .int (iN d))] := hl
  have hm := mb1 p1 p4
  have hm2 : stop ≠ -1 → 0 ≤ stop * d ∧ stop * d ≤ 80000 := fun q => mb1 ⟨by omega, by omega⟩ p4
  refine lv_aload_n hx hb dX0_isThere_0 rfl (lv_at hl 0 rfl) ?_
  refine f_get (C := RX0) (T := TX0) (N := 5) hx hb hts (by decide +kernel) hown hK hP (19 + 4 * i) (by omega) e0 rfl 0 (by decide) (hts (.fieldLink RX0 9 "KeptMoving$Course" "starts" "[I") (by decide +kernel)) (fun _ h9 => h9) rfl dX0_isThere_1 ?_
  refine n_iconst hx hb dX0_isThere_4 ?_
  refine n_iald hx hb hK hP (19 + 4 * i + 1) (by omega) e1 0 rfl (by omega) (by decide) dX0_isThere_5 ?_
  refine lv_iload_n hx hb dX0_isThere_6 rfl (lv_at hl 2 rfl) ?_
  refine n_imul hx hb dX0_isThere_7 ?_
  refine lv_iload_n hx hb dX0_isThere_8 rfl (lv_at hl 1 rfl) ?_
  refine n_icmp_gt (tgt := 34) hx hb dX0_isThere_9 (by decide) (by omega) (by omega) (by omega) (by omega) (fun c_9 => ?_) (fun c_9 => ?_)
  · refine n_iconst hx hb dX0_isThere_34 ?_
    exact r_z0 hx hb hr dX0_isThere_35 hlocks (show iN 0 = iN (if (st 0 * d ≤ n ∧ (stop = -1 ∨ n < stop * d)) then 1 else 0) by rw [if_neg (by omega)])
  · refine lv_aload_n hx hb dX0_isThere_12 rfl (lv_at hl 0 rfl) ?_
    refine f_get (C := RX0) (T := TX0) (N := 5) hx hb hts (by decide +kernel) hown hK hP (19 + 4 * i) (by omega) e0 rfl 4 (by decide) (hts (.fieldLink RX0 25 "KeptMoving$Course" "stopped" "I") (by decide +kernel)) (fun _ h9 => h9) rfl dX0_isThere_13 ?_
    refine n_iconst hx hb dX0_isThere_16 ?_
    refine n_icmp_eq (tgt := 30) hx hb dX0_isThere_17 (by decide) (by omega) (by omega) (by omega) (by omega) (fun c_17 => ?_) (fun c_17 => ?_)
    · refine n_iconst hx hb dX0_isThere_30 ?_
      refine lv_goto (tgt := 35) hx hb dX0_isThere_31 (by decide) ?_
      exact r_z1 hx hb hr dX0_isThere_35 hlocks (show iN 1 = iN (if (st 0 * d ≤ n ∧ (stop = -1 ∨ n < stop * d)) then 1 else 0) by rw [if_pos (by omega)])
    · refine lv_iload_n hx hb dX0_isThere_20 rfl (lv_at hl 1 rfl) ?_
      refine lv_aload_n hx hb dX0_isThere_21 rfl (lv_at hl 0 rfl) ?_
      refine f_get (C := RX0) (T := TX0) (N := 5) hx hb hts (by decide +kernel) hown hK hP (19 + 4 * i) (by omega) e0 rfl 4 (by decide) (hts (.fieldLink RX0 25 "KeptMoving$Course" "stopped" "I") (by decide +kernel)) (fun _ h9 => h9) rfl dX0_isThere_22 ?_
      refine lv_iload_n hx hb dX0_isThere_25 rfl (lv_at hl 2 rfl) ?_
      refine n_imul hx hb dX0_isThere_26 ?_
      refine n_icmp_ge (tgt := 34) hx hb dX0_isThere_27 (by decide) (by omega) (by omega) (by omega) (by omega) (fun c_27 => ?_) (fun c_27 => ?_)
      · refine n_iconst hx hb dX0_isThere_34 ?_
        exact r_z0 hx hb hr dX0_isThere_35 hlocks (show iN 0 = iN (if (st 0 * d ≤ n ∧ (stop = -1 ∨ n < stop * d)) then 1 else 0) by rw [if_neg (by omega)])
      · refine n_iconst hx hb dX0_isThere_30 ?_
        refine lv_goto (tgt := 35) hx hb dX0_isThere_31 (by decide) ?_
        exact r_z1 hx hb hr dX0_isThere_35 hlocks (show iN 1 = iN (if (st 0 * d ≤ n ∧ (stop = -1 ∨ n < stop * d)) then 1 else 0) by rw [if_pos (by omega)])

set_option maxHeartbeats 4000000 in
set_option maxRecDepth 100000 in
theorem c_X0_nextBend (l : Launch) (G : GE) (w : WF) (i : Nat) (st : Nat → Int) (pl : Nat → Int) (sp : Nat → Int) (np : Nat) (stop : Int) (after : Int) (last : Int) (e0 : w (19 + 4 * i) = .inr (0, [.ref (gad G (19 + 4 * i + 1)), .ref (gad G (19 + 4 * i + 2)), .ref (gad G (19 + 4 * i + 3)), .int (iN ((np : Nat) : Int)), .int (iN stop)])) (e1 : w (19 + 4 * i + 1) = .inl (gI G, 8, .inl (aN st))) (e2 : w (19 + 4 * i + 2) = .inl (gI G, 8, .inl (aN pl))) (e3 : w (19 + 4 * i + 3) = .inl (gI G, 8, .inl (aN sp))) (p0 : i < 10) (p1 : 1 ≤ np ∧ np ≤ 8) (p2 : ∀ p : Nat, p < np → 0 ≤ st p ∧ st p ≤ 400) (p3 : -1 ≤ stop ∧ stop ≤ 400) (p4 : 0 ≤ after ∧ after ≤ 1000) (p5 : 0 ≤ last ∧ last ≤ 1000) : Met l yX0_nextBend wsX0_nextBend ({ frames := 1, cells := 0, slots := 0, locals := 21 }) (PcG G w [.ref (gad G (19 + 4 * i)), .int (iN after), .int (iN last)]) (vp_Si (fun r => r = iN (nbC st np stop after last))) 0 0 (fun _ => False) := by
  refine Met.ofW (cc := cX0_nextBend) (maxL := 5) (ret := (some .int)) (by decide) rfl ?_
  intro p e s m args below meth c s₁ B hml hv
  obtain ⟨rfl, hP, hK⟩ := hv
  have hx := B.exec
  have hb := B.bytes
  have hr := B.returns
  have hts := atoms_spec (ws := wsX0_nextBend) B.pre
  have hown : s.vm.findClass RX0 = some m.cls := findClass_of_methodNamed B.named
  have hlocks := B.notSynchronized
  have hl := lv_entry ([.ref (gad G (19 + 4 * i)), .int (iN after), .int (iN last)]) (n := 5) (Nat.le_of_ble_eq_true rfl)
  rw [lg_entry_eq]
  generalize (lg_sl ([.ref (gad G (19 + 4 * i)), .int (iN after), .int (iN last)]) ++ List.replicate (5 - (lg_sl ([.ref (gad G (19 + 4 * i)), .int (iN after), .int (iN last)])).length) Slot.unset).toArray = ls at hl ⊢
  have hl : lv_has ls 5 [(0, .ref (gad G (19 + 4 * i))), (1, .int (iN after)), (2, .int (iN last))] := hl
  refine lv_iload_n hx hb dX0_nextBend_0 rfl (lv_at hl 2 rfl) ?_
  refine lv_istore_n (lv' := [(3, .int (iN last)), (0, .ref (gad G (19 + 4 * i))), (1, .int (iN after)), (2, .int (iN last))]) hx hb dX0_nextBend_1 rfl hl (by decide) rfl (fun ls hl => ?_)
  refine n_iconst hx hb dX0_nextBend_2 ?_
  refine lv_istore (lv' := [(4, .int (iN 0)), (3, .int (iN last)), (0, .ref (gad G (19 + 4 * i))), (1, .int (iN after)), (2, .int (iN last))]) hx hb dX0_nextBend_3 hl (by decide) rfl (fun ls hl => ?_)
  have K5 : ∀ (N : Nat) (q : Nat) (ls : Array Slot), q ≤ np → 9 - q < N → lv_has ls 5 [(0, .ref (gad G (19 + 4 * i))), (1, .int (iN after)), (2, .int (iN last)), (3, .int (iN (nbP st after q last))), (4, .int (iN ((q : Nat) : Int)))] → W p l e (headSpec wsX0_nextBend ({ frames := 1, cells := 0, slots := 0, locals := 21 })).room s m (([.ref (gad G (19 + 4 * i)), .int (iN after), .int (iN last)] : List Value).toArray) below meth c s.heap [] 0 0 (MQ below (vp_Si (fun r => r = iN (nbC st np stop after last))) (([.ref (gad G (19 + 4 * i)), .int (iN after), .int (iN last)] : List Value).toArray) s 0 0 (fun _ => False)) (F0 m 5 ls []) := by
    intro N
    induction N with
    | zero =>
      intros
      exfalso
      omega
    | succ N ih5 =>
      intro q ls i5_0 hN5 hl
      refine lv_iload hx hb dX0_nextBend_5 (lv_at hl 4 rfl) ?_
      refine lv_aload_n hx hb dX0_nextBend_7 rfl (lv_at hl 0 rfl) ?_
      refine f_get (C := RX0) (T := TX0) (N := 5) hx hb hts (by decide +kernel) hown hK hP (19 + 4 * i) (by omega) e0 rfl 3 (by decide) (hts (.fieldLink RX0 21 "KeptMoving$Course" "pieces" "I") (by decide +kernel)) (fun _ h9 => h9) rfl dX0_nextBend_8 ?_
      refine n_icmp_ge (tgt := 43) hx hb dX0_nextBend_11 (by decide) (by omega) (by omega) (by omega) (by omega) (fun c_11 => ?_) (fun c_11 => ?_)
      · have hb1 := nbP_rng st after q last (by omega) (by omega) (fun p z => p2 p (by omega))
        obtain rfl : q = np := by omega
        refine lv_aload_n hx hb dX0_nextBend_43 rfl (lv_at hl 0 rfl) ?_
        refine f_get (C := RX0) (T := TX0) (N := 5) hx hb hts (by decide +kernel) hown hK hP (19 + 4 * i) (by omega) e0 rfl 4 (by decide) (hts (.fieldLink RX0 25 "KeptMoving$Course" "stopped" "I") (by decide +kernel)) (fun _ h9 => h9) rfl dX0_nextBend_44 ?_
        refine lv_iload_n hx hb dX0_nextBend_47 rfl (lv_at hl 1 rfl) ?_
        refine n_icmp_le (tgt := 60) hx hb dX0_nextBend_48 (by decide) (by omega) (by omega) (by omega) (by omega) (fun c_48 => ?_) (fun c_48 => ?_)
        · refine lv_iload_n hx hb dX0_nextBend_60 rfl (lv_at hl 3 rfl) ?_
          exact r_si hx hb hr dX0_nextBend_61 hlocks (show _ = iN (nbC st q stop after last) by unfold nbC; rw [if_neg (by omega)])
        · refine lv_iload_n hx hb dX0_nextBend_51 rfl (lv_at hl 3 rfl) ?_
          refine lv_aload_n hx hb dX0_nextBend_52 rfl (lv_at hl 0 rfl) ?_
          refine f_get (C := RX0) (T := TX0) (N := 5) hx hb hts (by decide +kernel) hown hK hP (19 + 4 * i) (by omega) e0 rfl 4 (by decide) (hts (.fieldLink RX0 25 "KeptMoving$Course" "stopped" "I") (by decide +kernel)) (fun _ h9 => h9) rfl dX0_nextBend_53 ?_
          refine n_mmin hx hb (by rw [hml]; exact hl.1.symm) hown (hts (.methodLink RX0 39 Lib.Math.min.name) (by decide +kernel)) (hts (.static Lib.Math.min.name) (by decide +kernel)) (hts (.initialized "java/lang/Math") (by decide +kernel)) (hts (.code Lib.Math.min.name Lib.Math.min.code 2 (some .int)) (by decide +kernel)) (Nat.le_of_ble_eq_true rfl) (Nat.le_of_ble_eq_true rfl) (Nat.zero_le _) (Nat.zero_le _) (by omega) (by omega) (by omega) (by omega) dX0_nextBend_56 ?_
          refine lv_istore_n (lv' := [(3, .int (iN (min (nbP st after q last) stop))), (0, .ref (gad G (19 + 4 * i))), (1, .int (iN after)), (2, .int (iN last)), (4, .int (iN ((q : Nat) : Int)))]) hx hb dX0_nextBend_59 rfl hl (by decide) rfl (fun ls hl => ?_)
          refine lv_iload_n hx hb dX0_nextBend_60 rfl (lv_at hl 0 rfl) ?_
          exact r_si hx hb hr dX0_nextBend_61 hlocks (show _ = iN (nbC st q stop after last) by unfold nbC; rw [if_pos (by omega)])
      · have hs := p2 q (by omega)
        have hb1 := nbP_rng st after q last (by omega) (by omega) (fun p z => p2 p (by omega))
        refine lv_aload_n hx hb dX0_nextBend_14 rfl (lv_at hl 0 rfl) ?_
        refine f_get (C := RX0) (T := TX0) (N := 5) hx hb hts (by decide +kernel) hown hK hP (19 + 4 * i) (by omega) e0 rfl 0 (by decide) (hts (.fieldLink RX0 9 "KeptMoving$Course" "starts" "[I") (by decide +kernel)) (fun _ h9 => h9) rfl dX0_nextBend_15 ?_
        refine lv_iload hx hb dX0_nextBend_18 (lv_at hl 4 rfl) ?_
        refine n_iald hx hb hK hP (19 + 4 * i + 1) (by omega) e1 q rfl (by omega) (by decide) dX0_nextBend_20 ?_
        refine lv_iload_n hx hb dX0_nextBend_21 rfl (lv_at hl 1 rfl) ?_
        refine n_icmp_le (tgt := 37) hx hb dX0_nextBend_22 (by decide) (by omega) (by omega) (by omega) (by omega) (fun c_22 => ?_) (fun c_22 => ?_)
        · have hz_1 : nbP st after q last = nbP st after (q + 1) last := by show _ = if after < st q then min (nbP st after q last) (st q) else nbP st after q last; rw [if_neg (by omega)]
          have hl : lv_has ls 5 [(0, .ref (gad G (19 + 4 * i))), (1, .int (iN after)), (2, .int (iN last)), (3, .int (iN (nbP st after (q + 1) last))), (4, .int (iN ((q : Nat) : Int)))] := by rw [← hz_1]; exact hl
          refine lv_iinc (v := iN ((q + 1 : Nat) : Int)) (lv' := [(4, .int (iN ((q + 1 : Nat) : Int))), (0, .ref (gad G (19 + 4 * i))), (1, .int (iN after)), (2, .int (iN last)), (3, .int (iN (nbP st after (q + 1) last)))]) hx hb dX0_nextBend_37 hl (k := 4) rfl (iN_incN _) (by decide) rfl (fun ls hl => ?_)
          refine lv_goto (tgt := 5) hx hb dX0_nextBend_40 (by decide) ?_
          exact ih5 (q + 1) _ (by omega) (by omega) (lv_sub hl [1, 2, 3, 4, 0] rfl)
        · refine lv_iload_n hx hb dX0_nextBend_25 rfl (lv_at hl 3 rfl) ?_
          refine lv_aload_n hx hb dX0_nextBend_26 rfl (lv_at hl 0 rfl) ?_
          refine f_get (C := RX0) (T := TX0) (N := 5) hx hb hts (by decide +kernel) hown hK hP (19 + 4 * i) (by omega) e0 rfl 0 (by decide) (hts (.fieldLink RX0 9 "KeptMoving$Course" "starts" "[I") (by decide +kernel)) (fun _ h9 => h9) rfl dX0_nextBend_27 ?_
          refine lv_iload hx hb dX0_nextBend_30 (lv_at hl 4 rfl) ?_
          refine n_iald hx hb hK hP (19 + 4 * i + 1) (by omega) e1 q rfl (by omega) (by decide) dX0_nextBend_32 ?_
          refine n_mmin hx hb (by rw [hml]; exact hl.1.symm) hown (hts (.methodLink RX0 39 Lib.Math.min.name) (by decide +kernel)) (hts (.static Lib.Math.min.name) (by decide +kernel)) (hts (.initialized "java/lang/Math") (by decide +kernel)) (hts (.code Lib.Math.min.name Lib.Math.min.code 2 (some .int)) (by decide +kernel)) (Nat.le_of_ble_eq_true rfl) (Nat.le_of_ble_eq_true rfl) (Nat.zero_le _) (Nat.zero_le _) (by omega) (by omega) (by omega) (by omega) dX0_nextBend_33 ?_
          refine lv_istore_n (lv' := [(3, .int (iN (min (nbP st after q last) (st q)))), (0, .ref (gad G (19 + 4 * i))), (1, .int (iN after)), (2, .int (iN last)), (4, .int (iN ((q : Nat) : Int)))]) hx hb dX0_nextBend_36 rfl hl (by decide) rfl (fun ls hl => ?_)
          have hz_2 : min (nbP st after q last) (st q) = nbP st after (q + 1) last := by show _ = if after < st q then min (nbP st after q last) (st q) else nbP st after q last; rw [if_pos (by omega)]
          have hl : lv_has ls 5 [(3, .int (iN (nbP st after (q + 1) last))), (0, .ref (gad G (19 + 4 * i))), (1, .int (iN after)), (2, .int (iN last)), (4, .int (iN ((q : Nat) : Int)))] := by rw [← hz_2]; exact hl
          refine lv_iinc (v := iN ((q + 1 : Nat) : Int)) (lv' := [(4, .int (iN ((q + 1 : Nat) : Int))), (3, .int (iN (nbP st after (q + 1) last))), (0, .ref (gad G (19 + 4 * i))), (1, .int (iN after)), (2, .int (iN last))]) hx hb dX0_nextBend_37 hl (k := 4) rfl (iN_incN _) (by decide) rfl (fun ls hl => ?_)
          refine lv_goto (tgt := 5) hx hb dX0_nextBend_40 (by decide) ?_
          exact ih5 (q + 1) _ (by omega) (by omega) (lv_sub hl [2, 3, 4, 1, 0] rfl)
  exact K5 ((9 - 0) + 1) (0) _ (by omega) (by omega) (lv_sub hl [2, 3, 4, 1, 0] rfl)
