/-- the courses array as far as it is filled; the courses made so far -/
def CQ (G : GE) (i : Nat) : va_E := .inl (gQ G, 10, .inr (.inr (.inr (.inr (fun j => if j < i then some (gad G (19 + 4 * j)) else none)))))
def CI (G : GE) (w : WF) (i : Nat) : Prop := w (19 + 4 * i) = .inr (0, [.ref (gad G (19 + 4 * i + 1)), .ref (gad G (19 + 4 * i + 2)), .ref (gad G (19 + 4 * i + 3)), .int (iN 1), .int (iN (-1))]) ∧ w (19 + 4 * i + 1) = .inl (gI G, 8, .inl (aN (fun _ => 0))) ∧ w (19 + 4 * i + 2) = .inl (gI G, 8, .inl (aN (fun _ => 0))) ∧ w (19 + 4 * i + 3) = .inl (gI G, 8, .inl (aN (fun _ => 0)))
def FI (G : GE) (w : WF) (i : Nat) : Prop := ∀ j : Nat, j < i → CI G w j
theorem FI.keep {G : GE} {w w1 : WF} {i : Nat} (h : FI G w i) (hf : ∀ k : Nat, 19 ≤ k → k < 19 + 4 * i → w1 k = w k) : FI G w1 i := fun j hj => by
  obtain ⟨h0, h1, h2, h3⟩ := h j hj
  unfold CI
  rw [hf _ (by omega) (by omega), hf _ (by omega) (by omega), hf _ (by omega) (by omega), hf _ (by omega) (by omega)]
  exact ⟨h0, h1, h2, h3⟩
theorem FI.s {G : GE} {w : WF} {i : Nat} (h : FI G w i) (hc : CI G w i) : FI G w (i + 1) := fun j hj => by
  by_cases z : j = i
  · subst z
    exact hc
  · exact h j (by omega)
theorem CQ_s (G : GE) (i : Nat) : (.inl (gQ G, 10, .inr (.inr (.inr (.inr (va_up (fun j => if j < i then some (gad G (19 + 4 * j)) else none) i (some (gad G (19 + 4 * i)))))))) : va_E) = CQ G (i + 1) := by
  unfold CQ
  congr 7
  funext j
  unfold va_up
  by_cases h : j = i
  · subst h
    rw [if_pos rfl, if_pos (Nat.lt_succ_self _)]
  · rw [if_neg h]
    show (if j < i then some (gad G (19 + 4 * j)) else none) = _
    by_cases h2 : j < i
    · rw [if_pos h2, if_pos (by omega)]
    · rw [if_neg h2, if_neg (by omega)]

set_option maxHeartbeats 8000000 in
set_option maxRecDepth 100000 in
theorem c_X8_init (l : Launch) (G : GE) (w : WF) (e0 : w 0 = .inr (7, [.null, .int (iN 0), .int (iN 0), .null, .null, .int (iN 0), .null, .null, .null, .null, .null])) : Met l yX8_init wsX8_init ({ frames := 2, cells := 58, slots := 622, locals := 32 }) (PcB G w 1 [.ref (gad G 0)]) (QB G 59 (fun w1 => (∀ k : Nat, 59 ≤ k → w1 k = w k) ∧ w1 0 = .inr (7, [.ref (gad G 1), .int (iN 0), .int (iN 0), .ref (gad G 2), .ref (gad G 5), .int (iN 0), .ref (gad G 6), .ref (gad G 10), .ref (gad G 14), .ref (gad G 15), .ref (gad G 18)]) ∧ w1 1 = CQ G 10 ∧ w1 2 = .inr (2, [.ref (gad G 3), .ref (gad G 4), .int (iN 0)]) ∧ w1 3 = .inl (gI G, 10, .inl (aN (fun _ => 0))) ∧ w1 4 = .inl (gI G, 10, .inl (aN (fun _ => 0))) ∧ w1 5 = .inl (gI G, 92, .inl (aN (fun _ => 0))) ∧ w1 6 = .inr (4, [.ref (gad G 7), .ref (gad G 8), .ref (gad G 9), .int (iN 0)]) ∧ w1 7 = .inl (gZ G, 10, .inl (aN (fun _ => 0))) ∧ w1 8 = .inl (gI G, 10, .inl (aN (fun _ => 0))) ∧ w1 9 = .inl (gI G, 10, .inl (aN (fun _ => 0))) ∧ w1 10 = .inr (3, [.ref (gad G 11), .ref (gad G 12), .ref (gad G 13), .int (iN 0), .int (iN 0)]) ∧ w1 11 = .inl (gJ G, 45, .inr (.inl (aJ (fun _ => 0)))) ∧ w1 12 = .inl (gI G, 45, .inl (aN (fun _ => 0))) ∧ w1 13 = .inl (gI G, 45, .inl (aN (fun _ => 0))) ∧ w1 14 = .inr (6, [.int (iN 0), .long (jN 0), .long (jN 0), .long (jN 0), .int (iN 0)]) ∧ w1 15 = .inr (1, [.ref (gad G 16), .ref (gad G 17), .int (iN 0)]) ∧ w1 16 = .inl (gJ G, 10, .inr (.inl (aJ (fun _ => 0)))) ∧ w1 17 = .inl (gJ G, 10, .inr (.inl (aJ (fun _ => 0)))) ∧ w1 18 = .inr (5, [.int (iN 0), .int (iN 0), .long (jN 0), .long (jN 0), .long (jN 0)]) ∧ FI G w1 10)) 58 622 (A9 G) := by
  refine Met.ofW (cc := cX8_init) (maxL := 2) (ret := none) (by decide) rfl ?_
  intro p e s m args below meth c s₁ B hml hv
  obtain ⟨rfl, hP, hK⟩ := hv
  have hx := B.exec
  have hb := B.bytes
  have hr := B.returns
  have hts := atoms_spec (ws := wsX8_init) B.pre
  have hown : s.vm.findClass RX8 = some m.cls := findClass_of_methodNamed B.named
  have hlocks := B.notSynchronized
  have hin : meth.name = "<init>" := (name_of_methodNamed B.named B.method).1
  have hS : va_S (A9 G) s.heap s.heap [] := va_S.rf
  have hAA : ∀ q, A9 G q → A9 G q := fun _ h => h
  have hl := lv_entry ([.ref (gad G 0)]) (n := 2) (Nat.le_of_ble_eq_true rfl)
  rw [lg_entry_eq]
  generalize (lg_sl ([.ref (gad G 0)]) ++ List.replicate (2 - (lg_sl ([.ref (gad G 0)])).length) Slot.unset).toArray = ls at hl ⊢
  have hl : lv_has ls 2 [(0, .ref (gad G 0))] := hl
  refine lv_aload_n hx hb dX8_init_0 rfl (lv_at hl 0 rfl) ?_
  refine W.objInit hx hb hown (hts (.methodLink RX8 3 objectInit) (by decide +kernel)) (hts (.instanceMethod objectInit) (by decide +kernel)) (hts (.code objectInit ⟨#[0xb1]⟩ 1 none) (by decide +kernel)) rfl (by rw [hml]; exact hl.1) rfl dX8_init_1 (Nat.le_of_ble_eq_true rfl) (Nat.le_of_ble_eq_true rfl) ?_
  refine lv_aload_n hx hb dX8_init_4 rfl (lv_at hl 0 rfl) ?_
  refine n_bipush hx hb dX8_init_5 (by decide) ?_
  refine y_newq hx hb hown (hts (.classLink RX8 9 RX0) (by decide +kernel)) hK hP hS (by decide) (N := 10) (by decide) (Nat.le_of_ble_eq_true rfl) (Nat.le_of_ble_eq_true rfl) (Nat.le_of_ble_eq_true rfl) 1 (by decide) dX8_init_7 (fun H hP hS => ?_)
  obtain ⟨w_1, hw_2⟩ : ∃ z : WF, z = va_up w 1 (.inl (gQ G, 10, .inr (.inr (.inr (.inr (fun _ => none)))))) := ⟨_, rfl⟩
  rw [← hw_2] at hP
  have fr_3 : ∀ k : Nat, k ≠ 1 → w_1 k = w k := fun k h => by rw [hw_2]; exact va_up_ne _ _ h
  have e_4 : w_1 0 = .inr (7, [.null, .int (iN 0), .int (iN 0), .null, .null, .int (iN 0), .null, .null, .null, .null, .null]) := (fr_3 0 (by omega)).trans e0
  have e_5 : w_1 1 = .inl (gQ G, 10, .inr (.inr (.inr (.inr (fun _ => none))))) := by rw [hw_2]; exact va_up_self _ _ _
  refine y_putF (v := .ref (gad G 1)) (ty := .array (.object "KeptMoving$Course")) (C := RX8) (T := TX8) (N := 11) hx hb hts (by decide +kernel) tyX8 tyX8_ok nmX8 hown hK hP hS hAA 0 (by decide) e_4 rfl 0 (by decide) (hts (.fieldLink RX8 11 "KeptMoving" "courses" "[LKeptMoving$Course;") (by decide +kernel)) (fun _ h9 => h9) rfl hin rfl (by decide +kernel) rfl rfl (Nat.le_of_ble_eq_true rfl) dX8_init_10 (fun H locs hP hS => ?_)
  have hP : PB G (va_up w_1 0 (.inr (7, [.ref (gad G 1), .int (iN 0), .int (iN 0), .null, .null, .int (iN 0), .null, .null, .null, .null, .null]))) _ H := hP
  obtain ⟨w_6, hw_7⟩ : ∃ z : WF, z = va_up w_1 0 (.inr (7, [.ref (gad G 1), .int (iN 0), .int (iN 0), .null, .null, .int (iN 0), .null, .null, .null, .null, .null])) := ⟨_, rfl⟩
  rw [← hw_7] at hP
  have fr_8 : ∀ k : Nat, k ≠ 0 → w_6 k = w_1 k := fun k h => by rw [hw_7]; exact va_up_ne _ _ h
  have e_9 : w_6 1 = .inl (gQ G, 10, .inr (.inr (.inr (.inr (fun _ => none))))) := (fr_8 1 (by omega)).trans e_5
  have e_10 : w_6 0 = .inr (7, [.ref (gad G 1), .int (iN 0), .int (iN 0), .null, .null, .int (iN 0), .null, .null, .null, .null, .null]) := by rw [hw_7]; exact va_up_self _ _ _
  refine n_iconst hx hb dX8_init_13 ?_
  refine lv_istore_n (lv' := [(1, .int (iN 0)), (0, .ref (gad G 0))]) hx hb dX8_init_14 rfl hl (by decide) rfl (fun ls hl => ?_)
  have K15 : ∀ (N : Nat) (i : Nat) (w2 : WF) (H : Heap) (locs : List Loc) (ls : Array Slot), i ≤ 10 → 11 - i < N → w2 0 = .inr (7, [.ref (gad G 1), .int (iN 0), .int (iN 0), .null, .null, .int (iN 0), .null, .null, .null, .null, .null]) → w2 1 = CQ G i → FI G w2 i → (∀ k : Nat, k ≠ 0 → k ≠ 1 → k < 19 ∨ 59 ≤ k → w2 k = w k) → PB G w2 (2 + 4 * i) H → va_S (A9 G) s.heap H locs → lv_has ls 2 [(1, .int (iN ((i : Nat) : Int))), (0, .ref (gad G 0))] → W p l e (headSpec wsX8_init ({ frames := 2, cells := 58, slots := 622, locals := 32 })).room s m (([.ref (gad G 0)] : List Value).toArray) below meth c H locs (1 + 4 * i) (10 + 29 * i) (MQ below (QB G 59 (fun w1 => (∀ k : Nat, 59 ≤ k → w1 k = w k) ∧ w1 0 = .inr (7, [.ref (gad G 1), .int (iN 0), .int (iN 0), .ref (gad G 2), .ref (gad G 5), .int (iN 0), .ref (gad G 6), .ref (gad G 10), .ref (gad G 14), .ref (gad G 15), .ref (gad G 18)]) ∧ w1 1 = CQ G 10 ∧ w1 2 = .inr (2, [.ref (gad G 3), .ref (gad G 4), .int (iN 0)]) ∧ w1 3 = .inl (gI G, 10, .inl (aN (fun _ => 0))) ∧ w1 4 = .inl (gI G, 10, .inl (aN (fun _ => 0))) ∧ w1 5 = .inl (gI G, 92, .inl (aN (fun _ => 0))) ∧ w1 6 = .inr (4, [.ref (gad G 7), .ref (gad G 8), .ref (gad G 9), .int (iN 0)]) ∧ w1 7 = .inl (gZ G, 10, .inl (aN (fun _ => 0))) ∧ w1 8 = .inl (gI G, 10, .inl (aN (fun _ => 0))) ∧ w1 9 = .inl (gI G, 10, .inl (aN (fun _ => 0))) ∧ w1 10 = .inr (3, [.ref (gad G 11), .ref (gad G 12), .ref (gad G 13), .int (iN 0), .int (iN 0)]) ∧ w1 11 = .inl (gJ G, 45, .inr (.inl (aJ (fun _ => 0)))) ∧ w1 12 = .inl (gI G, 45, .inl (aN (fun _ => 0))) ∧ w1 13 = .inl (gI G, 45, .inl (aN (fun _ => 0))) ∧ w1 14 = .inr (6, [.int (iN 0), .long (jN 0), .long (jN 0), .long (jN 0), .int (iN 0)]) ∧ w1 15 = .inr (1, [.ref (gad G 16), .ref (gad G 17), .int (iN 0)]) ∧ w1 16 = .inl (gJ G, 10, .inr (.inl (aJ (fun _ => 0)))) ∧ w1 17 = .inl (gJ G, 10, .inr (.inl (aJ (fun _ => 0)))) ∧ w1 18 = .inr (5, [.int (iN 0), .int (iN 0), .long (jN 0), .long (jN 0), .long (jN 0)]) ∧ FI G w1 10)) (([.ref (gad G 0)] : List Value).toArray) s 58 622 (A9 G)) (F0 m 15 ls []) := by
    intro N
    induction N with
    | zero =>
      intros
      exfalso
      omega
    | succ N ih =>
      intro i w2 H locs ls hi10 hN f0 f1 hC hfr hP hS hl
      refine lv_iload_n hx hb dX8_init_15 rfl (lv_at hl 0 rfl) ?_
      refine n_bipush hx hb dX8_init_16 (by decide) ?_
      refine n_icmp_ge (tgt := 40) hx hb dX8_init_18 (by decide) (by omega) (by omega) (by omega) (by omega) (fun c_18 => ?_) (fun c_18 => ?_)
      · obtain rfl : i = 10 := by omega
        refine lv_aload_n hx hb dX8_init_40 rfl (lv_at hl 1 rfl) ?_
        refine y_new (ci := 2) (fs := [.null, .null, .int (iN 0)]) (C := RX3) (T := TX3) (N := 3) hx hb hts (by decide +kernel) tyX3 tyX3_ok hown (hts (.classLink RX8 16 RX3) (by decide +kernel)) (hts (.instantiable RX3 3) (by decide +kernel)) (hts (.initialized RX3) (by decide +kernel)) hK hP hS rfl (fun j hj => by rcases (show j = 0 ∨ j = 1 ∨ j = 2 by omega) with rfl | rfl | rfl <;> rfl) (Nat.le_of_ble_eq_true rfl) (Nat.le_of_ble_eq_true rfl) 2 (by decide) dX8_init_41 (fun H hP hS => ?_)
        obtain ⟨w_11, hw_12⟩ : ∃ z : WF, z = va_up w2 2 (.inr (2, [.null, .null, .int (iN 0)])) := ⟨_, rfl⟩
        rw [← hw_12] at hP
        have fr_13 : ∀ k : Nat, k ≠ 2 → w_11 k = w2 k := fun k h => by rw [hw_12]; exact va_up_ne _ _ h
        have e_14 : w_11 0 = .inr (7, [.ref (gad G 1), .int (iN 0), .int (iN 0), .null, .null, .int (iN 0), .null, .null, .null, .null, .null]) := (fr_13 0 (by omega)).trans f0
        have e_15 : w_11 1 = CQ G 10 := (fr_13 1 (by omega)).trans f1
        have e_16 : w_11 2 = .inr (2, [.null, .null, .int (iN 0)]) := by rw [hw_12]; exact va_up_self _ _ _
        have hC_17 : FI G w_11 10 := hC.keep (fun k h1 h2 => fr_13 k (by omega))
        refine lv_dup hx hb dX8_init_44 rfl ?_
        refine y_callv (va_runIN (As := []) (rest := [.ref (gad G 2), .ref (gad G 0)]) ⟨hx, hb, hml, hown, hts⟩ (c_X3_init l G w_11 e_16) ⟨va_cnB 0 hts gX8_init_X3_init_n18 rfl rfl rfl (hK.1.nm 1 rfl) (hts (.initialized RX3) (by decide +kernel)) (by decide +kernel) ⟨Nat.le_of_ble_eq_true rfl, Nat.le_of_ble_eq_true rfl⟩, rfl, hts (.instanceMethod yX3_init) (by decide +kernel)⟩ (y_preS hP hK) rfl rfl hl.1 rfl (lv_room (Nat.le_of_ble_eq_true rfl)) dX8_init_45 ⟨Nat.le_of_ble_eq_true rfl, Nat.le_of_ble_eq_true rfl⟩) hS hAA (fun w_18 H locs q_19 hP hS => ?_)
        obtain ⟨fr_20, e_21, e_22, e_23⟩ := q_19
        have e_24 : w_18 0 = .inr (7, [.ref (gad G 1), .int (iN 0), .int (iN 0), .null, .null, .int (iN 0), .null, .null, .null, .null, .null]) := (fr_20 0 (by omega) (by omega) (by omega)).trans e_14
        have e_25 : w_18 1 = CQ G 10 := (fr_20 1 (by omega) (by omega) (by omega)).trans e_15
        have hC_26 : FI G w_18 10 := hC_17.keep (fun k h1 h2 => fr_20 k (by omega) (by omega) (by omega))
        refine y_putF (v := .ref (gad G 2)) (ty := .object "KeptMoving$Line") (C := RX8) (T := TX8) (N := 11) hx hb hts (by decide +kernel) tyX8 tyX8_ok nmX8 hown hK hP hS hAA 0 (by decide) e_24 rfl 3 (by decide) (hts (.fieldLink RX8 19 "KeptMoving" "line" "LKeptMoving$Line;") (by decide +kernel)) (fun _ h9 => h9) rfl hin rfl (by decide +kernel) rfl rfl (Nat.le_of_ble_eq_true rfl) dX8_init_48 (fun H locs hP hS => ?_)
        have hP : PB G (va_up w_18 0 (.inr (7, [.ref (gad G 1), .int (iN 0), .int (iN 0), .ref (gad G 2), .null, .int (iN 0), .null, .null, .null, .null, .null]))) _ H := hP
        obtain ⟨w_27, hw_28⟩ : ∃ z : WF, z = va_up w_18 0 (.inr (7, [.ref (gad G 1), .int (iN 0), .int (iN 0), .ref (gad G 2), .null, .int (iN 0), .null, .null, .null, .null, .null])) := ⟨_, rfl⟩
        rw [← hw_28] at hP
        have fr_29 : ∀ k : Nat, k ≠ 0 → w_27 k = w_18 k := fun k h => by rw [hw_28]; exact va_up_ne _ _ h
        have e_30 : w_27 1 = CQ G 10 := (fr_29 1 (by omega)).trans e_25
        have e_31 : w_27 2 = .inr (2, [.ref (gad G 3), .ref (gad G 4), .int (iN 0)]) := (fr_29 2 (by omega)).trans e_21
        have e_32 : w_27 3 = .inl (gI G, 10, .inl (aN (fun _ => 0))) := (fr_29 3 (by omega)).trans e_22
        have e_33 : w_27 4 = .inl (gI G, 10, .inl (aN (fun _ => 0))) := (fr_29 4 (by omega)).trans e_23
        have e_34 : w_27 0 = .inr (7, [.ref (gad G 1), .int (iN 0), .int (iN 0), .ref (gad G 2), .null, .int (iN 0), .null, .null, .null, .null, .null]) := by rw [hw_28]; exact va_up_self _ _ _
        have hC_35 : FI G w_27 10 := hC_26.keep (fun k h1 h2 => fr_29 k (by omega))
        refine lv_aload_n hx hb dX8_init_51 rfl (lv_at hl 1 rfl) ?_
        refine n_bipush hx hb dX8_init_52 (by decide) ?_
        refine y_newa (atype := .int) hx hb (hts (.arrayClass .int) (by decide +kernel)) (hK.1.1.2 0 _ rfl).2 hP hK.2.1 hS (y_i0 _ _) (by decide) (N := 92) (by decide) (Nat.le_of_ble_eq_true rfl) (Nat.le_of_ble_eq_true rfl) (Nat.le_of_ble_eq_true rfl) 5 (by decide) dX8_init_54 (fun H hP hS => ?_)
        obtain ⟨w_36, hw_37⟩ : ∃ z : WF, z = va_up w_27 5 (.inl (gI G, 92, .inl (aN (fun _ => 0)))) := ⟨_, rfl⟩
        rw [← hw_37] at hP
        have fr_38 : ∀ k : Nat, k ≠ 5 → w_36 k = w_27 k := fun k h => by rw [hw_37]; exact va_up_ne _ _ h
        have e_39 : w_36 1 = CQ G 10 := (fr_38 1 (by omega)).trans e_30
        have e_40 : w_36 2 = .inr (2, [.ref (gad G 3), .ref (gad G 4), .int (iN 0)]) := (fr_38 2 (by omega)).trans e_31
        have e_41 : w_36 3 = .inl (gI G, 10, .inl (aN (fun _ => 0))) := (fr_38 3 (by omega)).trans e_32
        have e_42 : w_36 4 = .inl (gI G, 10, .inl (aN (fun _ => 0))) := (fr_38 4 (by omega)).trans e_33
        have e_43 : w_36 0 = .inr (7, [.ref (gad G 1), .int (iN 0), .int (iN 0), .ref (gad G 2), .null, .int (iN 0), .null, .null, .null, .null, .null]) := (fr_38 0 (by omega)).trans e_34
        have e_44 : w_36 5 = .inl (gI G, 92, .inl (aN (fun _ => 0))) := by rw [hw_37]; exact va_up_self _ _ _
        have hC_45 : FI G w_36 10 := hC_35.keep (fun k h1 h2 => fr_38 k (by omega))
        refine y_putF (v := .ref (gad G 5)) (ty := .array .int) (C := RX8) (T := TX8) (N := 11) hx hb hts (by decide +kernel) tyX8 tyX8_ok nmX8 hown hK hP hS hAA 0 (by decide) e_43 rfl 4 (by decide) (hts (.fieldLink RX8 23 "KeptMoving" "bends" "[I") (by decide +kernel)) (fun _ h9 => h9) rfl hin rfl (by decide +kernel) rfl rfl (Nat.le_of_ble_eq_true rfl) dX8_init_56 (fun H locs hP hS => ?_)
        have hP : PB G (va_up w_36 0 (.inr (7, [.ref (gad G 1), .int (iN 0), .int (iN 0), .ref (gad G 2), .ref (gad G 5), .int (iN 0), .null, .null, .null, .null, .null]))) _ H := hP
        obtain ⟨w_46, hw_47⟩ : ∃ z : WF, z = va_up w_36 0 (.inr (7, [.ref (gad G 1), .int (iN 0), .int (iN 0), .ref (gad G 2), .ref (gad G 5), .int (iN 0), .null, .null, .null, .null, .null])) := ⟨_, rfl⟩
        rw [← hw_47] at hP
        have fr_48 : ∀ k : Nat, k ≠ 0 → w_46 k = w_36 k := fun k h => by rw [hw_47]; exact va_up_ne _ _ h
        have e_49 : w_46 1 = CQ G 10 := (fr_48 1 (by omega)).trans e_39
        have e_50 : w_46 2 = .inr (2, [.ref (gad G 3), .ref (gad G 4), .int (iN 0)]) := (fr_48 2 (by omega)).trans e_40
        have e_51 : w_46 3 = .inl (gI G, 10, .inl (aN (fun _ => 0))) := (fr_48 3 (by omega)).trans e_41
        have e_52 : w_46 4 = .inl (gI G, 10, .inl (aN (fun _ => 0))) := (fr_48 4 (by omega)).trans e_42
        have e_53 : w_46 5 = .inl (gI G, 92, .inl (aN (fun _ => 0))) := (fr_48 5 (by omega)).trans e_44
        have e_54 : w_46 0 = .inr (7, [.ref (gad G 1), .int (iN 0), .int (iN 0), .ref (gad G 2), .ref (gad G 5), .int (iN 0), .null, .null, .null, .null, .null]) := by rw [hw_47]; exact va_up_self _ _ _
        have hC_55 : FI G w_46 10 := hC_45.keep (fun k h1 h2 => fr_48 k (by omega))
        refine lv_aload_n hx hb dX8_init_59 rfl (lv_at hl 1 rfl) ?_
        refine y_new (ci := 4) (fs := [.null, .null, .null, .int (iN 0)]) (C := RX5) (T := TX5) (N := 4) hx hb hts (by decide +kernel) tyX5 tyX5_ok hown (hts (.classLink RX8 27 RX5) (by decide +kernel)) (hts (.instantiable RX5 4) (by decide +kernel)) (hts (.initialized RX5) (by decide +kernel)) hK hP hS rfl (fun j hj => by rcases (show j = 0 ∨ j = 1 ∨ j = 2 ∨ j = 3 by omega) with rfl | rfl | rfl | rfl <;> rfl) (Nat.le_of_ble_eq_true rfl) (Nat.le_of_ble_eq_true rfl) 6 (by decide) dX8_init_60 (fun H hP hS => ?_)
        obtain ⟨w_56, hw_57⟩ : ∃ z : WF, z = va_up w_46 6 (.inr (4, [.null, .null, .null, .int (iN 0)])) := ⟨_, rfl⟩
        rw [← hw_57] at hP
        have fr_58 : ∀ k : Nat, k ≠ 6 → w_56 k = w_46 k := fun k h => by rw [hw_57]; exact va_up_ne _ _ h
        have e_59 : w_56 1 = CQ G 10 := (fr_58 1 (by omega)).trans e_49
        have e_60 : w_56 2 = .inr (2, [.ref (gad G 3), .ref (gad G 4), .int (iN 0)]) := (fr_58 2 (by omega)).trans e_50
        have e_61 : w_56 3 = .inl (gI G, 10, .inl (aN (fun _ => 0))) := (fr_58 3 (by omega)).trans e_51
        have e_62 : w_56 4 = .inl (gI G, 10, .inl (aN (fun _ => 0))) := (fr_58 4 (by omega)).trans e_52
        have e_63 : w_56 5 = .inl (gI G, 92, .inl (aN (fun _ => 0))) := (fr_58 5 (by omega)).trans e_53
        have e_64 : w_56 0 = .inr (7, [.ref (gad G 1), .int (iN 0), .int (iN 0), .ref (gad G 2), .ref (gad G 5), .int (iN 0), .null, .null, .null, .null, .null]) := (fr_58 0 (by omega)).trans e_54
        have e_65 : w_56 6 = .inr (4, [.null, .null, .null, .int (iN 0)]) := by rw [hw_57]; exact va_up_self _ _ _
        have hC_66 : FI G w_56 10 := hC_55.keep (fun k h1 h2 => fr_58 k (by omega))
        refine lv_dup hx hb dX8_init_63 rfl ?_
        refine y_callv (va_runIN (As := []) (rest := [.ref (gad G 6), .ref (gad G 0)]) ⟨hx, hb, hml, hown, hts⟩ (c_X5_init l G w_56 e_65) ⟨va_cnB 0 hts gX8_init_X5_init_n29 rfl rfl rfl (hK.1.nm 2 rfl) (hts (.initialized RX5) (by decide +kernel)) (by decide +kernel) ⟨Nat.le_of_ble_eq_true rfl, Nat.le_of_ble_eq_true rfl⟩, rfl, hts (.instanceMethod yX5_init) (by decide +kernel)⟩ (y_preS hP hK) rfl rfl hl.1 rfl (lv_room (Nat.le_of_ble_eq_true rfl)) dX8_init_64 ⟨Nat.le_of_ble_eq_true rfl, Nat.le_of_ble_eq_true rfl⟩) hS hAA (fun w_67 H locs q_68 hP hS => ?_)
        obtain ⟨fr_69, e_70, e_71, e_72, e_73⟩ := q_68
        have e_74 : w_67 1 = CQ G 10 := (fr_69 1 (by omega) (by omega) (by omega) (by omega)).trans e_59
        have e_75 : w_67 2 = .inr (2, [.ref (gad G 3), .ref (gad G 4), .int (iN 0)]) := (fr_69 2 (by omega) (by omega) (by omega) (by omega)).trans e_60
        have e_76 : w_67 3 = .inl (gI G, 10, .inl (aN (fun _ => 0))) := (fr_69 3 (by omega) (by omega) (by omega) (by omega)).trans e_61
        have e_77 : w_67 4 = .inl (gI G, 10, .inl (aN (fun _ => 0))) := (fr_69 4 (by omega) (by omega) (by omega) (by omega)).trans e_62
        have e_78 : w_67 5 = .inl (gI G, 92, .inl (aN (fun _ => 0))) := (fr_69 5 (by omega) (by omega) (by omega) (by omega)).trans e_63
        have e_79 : w_67 0 = .inr (7, [.ref (gad G 1), .int (iN 0), .int (iN 0), .ref (gad G 2), .ref (gad G 5), .int (iN 0), .null, .null, .null, .null, .null]) := (fr_69 0 (by omega) (by omega) (by omega) (by omega)).trans e_64
        have hC_80 : FI G w_67 10 := hC_66.keep (fun k h1 h2 => fr_69 k (by omega) (by omega) (by omega) (by omega))
        refine y_putF (v := .ref (gad G 6)) (ty := .object "KeptMoving$Scene") (C := RX8) (T := TX8) (N := 11) hx hb hts (by decide +kernel) tyX8 tyX8_ok nmX8 hown hK hP hS hAA 0 (by decide) e_79 rfl 6 (by decide) (hts (.fieldLink RX8 30 "KeptMoving" "scene" "LKeptMoving$Scene;") (by decide +kernel)) (fun _ h9 => h9) rfl hin rfl (by decide +kernel) rfl rfl (Nat.le_of_ble_eq_true rfl) dX8_init_67 (fun H locs hP hS => ?_)
        have hP : PB G (va_up w_67 0 (.inr (7, [.ref (gad G 1), .int (iN 0), .int (iN 0), .ref (gad G 2), .ref (gad G 5), .int (iN 0), .ref (gad G 6), .null, .null, .null, .null]))) _ H := hP
        obtain ⟨w_81, hw_82⟩ : ∃ z : WF, z = va_up w_67 0 (.inr (7, [.ref (gad G 1), .int (iN 0), .int (iN 0), .ref (gad G 2), .ref (gad G 5), .int (iN 0), .ref (gad G 6), .null, .null, .null, .null])) := ⟨_, rfl⟩
        rw [← hw_82] at hP
        have fr_83 : ∀ k : Nat, k ≠ 0 → w_81 k = w_67 k := fun k h => by rw [hw_82]; exact va_up_ne _ _ h
        have e_84 : w_81 1 = CQ G 10 := (fr_83 1 (by omega)).trans e_74
        have e_85 : w_81 2 = .inr (2, [.ref (gad G 3), .ref (gad G 4), .int (iN 0)]) := (fr_83 2 (by omega)).trans e_75
        have e_86 : w_81 3 = .inl (gI G, 10, .inl (aN (fun _ => 0))) := (fr_83 3 (by omega)).trans e_76
        have e_87 : w_81 4 = .inl (gI G, 10, .inl (aN (fun _ => 0))) := (fr_83 4 (by omega)).trans e_77
        have e_88 : w_81 5 = .inl (gI G, 92, .inl (aN (fun _ => 0))) := (fr_83 5 (by omega)).trans e_78
        have e_89 : w_81 6 = .inr (4, [.ref (gad G 7), .ref (gad G 8), .ref (gad G 9), .int (iN 0)]) := (fr_83 6 (by omega)).trans e_70
        have e_90 : w_81 7 = .inl (gZ G, 10, .inl (aN (fun _ => 0))) := (fr_83 7 (by omega)).trans e_71
        have e_91 : w_81 8 = .inl (gI G, 10, .inl (aN (fun _ => 0))) := (fr_83 8 (by omega)).trans e_72
        have e_92 : w_81 9 = .inl (gI G, 10, .inl (aN (fun _ => 0))) := (fr_83 9 (by omega)).trans e_73
        have e_93 : w_81 0 = .inr (7, [.ref (gad G 1), .int (iN 0), .int (iN 0), .ref (gad G 2), .ref (gad G 5), .int (iN 0), .ref (gad G 6), .null, .null, .null, .null]) := by rw [hw_82]; exact va_up_self _ _ _
        have hC_94 : FI G w_81 10 := hC_80.keep (fun k h1 h2 => fr_83 k (by omega))
        refine lv_aload_n hx hb dX8_init_70 rfl (lv_at hl 1 rfl) ?_
        refine y_new (ci := 3) (fs := [.null, .null, .null, .int (iN 0), .int (iN 0)]) (C := RX4) (T := TX4) (N := 5) hx hb hts (by decide +kernel) tyX4 tyX4_ok hown (hts (.classLink RX8 34 RX4) (by decide +kernel)) (hts (.instantiable RX4 5) (by decide +kernel)) (hts (.initialized RX4) (by decide +kernel)) hK hP hS rfl (fun j hj => by rcases (show j = 0 ∨ j = 1 ∨ j = 2 ∨ j = 3 ∨ j = 4 by omega) with rfl | rfl | rfl | rfl | rfl <;> rfl) (Nat.le_of_ble_eq_true rfl) (Nat.le_of_ble_eq_true rfl) 10 (by decide) dX8_init_71 (fun H hP hS => ?_)
        obtain ⟨w_95, hw_96⟩ : ∃ z : WF, z = va_up w_81 10 (.inr (3, [.null, .null, .null, .int (iN 0), .int (iN 0)])) := ⟨_, rfl⟩
        rw [← hw_96] at hP
        have fr_97 : ∀ k : Nat, k ≠ 10 → w_95 k = w_81 k := fun k h => by rw [hw_96]; exact va_up_ne _ _ h
        have e_98 : w_95 1 = CQ G 10 := (fr_97 1 (by omega)).trans e_84
        have e_99 : w_95 2 = .inr (2, [.ref (gad G 3), .ref (gad G 4), .int (iN 0)]) := (fr_97 2 (by omega)).trans e_85
        have e_100 : w_95 3 = .inl (gI G, 10, .inl (aN (fun _ => 0))) := (fr_97 3 (by omega)).trans e_86
        have e_101 : w_95 4 = .inl (gI G, 10, .inl (aN (fun _ => 0))) := (fr_97 4 (by omega)).trans e_87
        have e_102 : w_95 5 = .inl (gI G, 92, .inl (aN (fun _ => 0))) := (fr_97 5 (by omega)).trans e_88
        have e_103 : w_95 6 = .inr (4, [.ref (gad G 7), .ref (gad G 8), .ref (gad G 9), .int (iN 0)]) := (fr_97 6 (by omega)).trans e_89
        have e_104 : w_95 7 = .inl (gZ G, 10, .inl (aN (fun _ => 0))) := (fr_97 7 (by omega)).trans e_90
        have e_105 : w_95 8 = .inl (gI G, 10, .inl (aN (fun _ => 0))) := (fr_97 8 (by omega)).trans e_91
        have e_106 : w_95 9 = .inl (gI G, 10, .inl (aN (fun _ => 0))) := (fr_97 9 (by omega)).trans e_92
        have e_107 : w_95 0 = .inr (7, [.ref (gad G 1), .int (iN 0), .int (iN 0), .ref (gad G 2), .ref (gad G 5), .int (iN 0), .ref (gad G 6), .null, .null, .null, .null]) := (fr_97 0 (by omega)).trans e_93
        have e_108 : w_95 10 = .inr (3, [.null, .null, .null, .int (iN 0), .int (iN 0)]) := by rw [hw_96]; exact va_up_self _ _ _
        have hC_109 : FI G w_95 10 := hC_94.keep (fun k h1 h2 => fr_97 k (by omega))
        refine lv_dup hx hb dX8_init_74 rfl ?_
        refine y_callv (va_runIN (As := []) (rest := [.ref (gad G 10), .ref (gad G 0)]) ⟨hx, hb, hml, hown, hts⟩ (c_X4_init l G w_95 e_108) ⟨va_cnB 0 hts gX8_init_X4_init_n36 rfl rfl rfl (hK.1.nm 3 rfl) (hts (.initialized RX4) (by decide +kernel)) (by decide +kernel) ⟨Nat.le_of_ble_eq_true rfl, Nat.le_of_ble_eq_true rfl⟩, rfl, hts (.instanceMethod yX4_init) (by decide +kernel)⟩ (y_preS hP hK) rfl rfl hl.1 rfl (lv_room (Nat.le_of_ble_eq_true rfl)) dX8_init_75 ⟨Nat.le_of_ble_eq_true rfl, Nat.le_of_ble_eq_true rfl⟩) hS hAA (fun w_110 H locs q_111 hP hS => ?_)
        obtain ⟨fr_112, e_113, e_114, e_115, e_116⟩ := q_111
        have e_117 : w_110 1 = CQ G 10 := (fr_112 1 (by omega) (by omega) (by omega) (by omega)).trans e_98
        have e_118 : w_110 2 = .inr (2, [.ref (gad G 3), .ref (gad G 4), .int (iN 0)]) := (fr_112 2 (by omega) (by omega) (by omega) (by omega)).trans e_99
        have e_119 : w_110 3 = .inl (gI G, 10, .inl (aN (fun _ => 0))) := (fr_112 3 (by omega) (by omega) (by omega) (by omega)).trans e_100
        have e_120 : w_110 4 = .inl (gI G, 10, .inl (aN (fun _ => 0))) := (fr_112 4 (by omega) (by omega) (by omega) (by omega)).trans e_101
        have e_121 : w_110 5 = .inl (gI G, 92, .inl (aN (fun _ => 0))) := (fr_112 5 (by omega) (by omega) (by omega) (by omega)).trans e_102
        have e_122 : w_110 6 = .inr (4, [.ref (gad G 7), .ref (gad G 8), .ref (gad G 9), .int (iN 0)]) := (fr_112 6 (by omega) (by omega) (by omega) (by omega)).trans e_103
        have e_123 : w_110 7 = .inl (gZ G, 10, .inl (aN (fun _ => 0))) := (fr_112 7 (by omega) (by omega) (by omega) (by omega)).trans e_104
        have e_124 : w_110 8 = .inl (gI G, 10, .inl (aN (fun _ => 0))) := (fr_112 8 (by omega) (by omega) (by omega) (by omega)).trans e_105
        have e_125 : w_110 9 = .inl (gI G, 10, .inl (aN (fun _ => 0))) := (fr_112 9 (by omega) (by omega) (by omega) (by omega)).trans e_106
        have e_126 : w_110 0 = .inr (7, [.ref (gad G 1), .int (iN 0), .int (iN 0), .ref (gad G 2), .ref (gad G 5), .int (iN 0), .ref (gad G 6), .null, .null, .null, .null]) := (fr_112 0 (by omega) (by omega) (by omega) (by omega)).trans e_107
        have hC_127 : FI G w_110 10 := hC_109.keep (fun k h1 h2 => fr_112 k (by omega) (by omega) (by omega) (by omega))
        refine y_putF (v := .ref (gad G 10)) (ty := .object "KeptMoving$Meetings") (C := RX8) (T := TX8) (N := 11) hx hb hts (by decide +kernel) tyX8 tyX8_ok nmX8 hown hK hP hS hAA 0 (by decide) e_126 rfl 7 (by decide) (hts (.fieldLink RX8 37 "KeptMoving" "meetings" "LKeptMoving$Meetings;") (by decide +kernel)) (fun _ h9 => h9) rfl hin rfl (by decide +kernel) rfl rfl (Nat.le_of_ble_eq_true rfl) dX8_init_78 (fun H locs hP hS => ?_)
        have hP : PB G (va_up w_110 0 (.inr (7, [.ref (gad G 1), .int (iN 0), .int (iN 0), .ref (gad G 2), .ref (gad G 5), .int (iN 0), .ref (gad G 6), .ref (gad G 10), .null, .null, .null]))) _ H := hP
        obtain ⟨w_128, hw_129⟩ : ∃ z : WF, z = va_up w_110 0 (.inr (7, [.ref (gad G 1), .int (iN 0), .int (iN 0), .ref (gad G 2), .ref (gad G 5), .int (iN 0), .ref (gad G 6), .ref (gad G 10), .null, .null, .null])) := ⟨_, rfl⟩
        rw [← hw_129] at hP
        have fr_130 : ∀ k : Nat, k ≠ 0 → w_128 k = w_110 k := fun k h => by rw [hw_129]; exact va_up_ne _ _ h
        have e_131 : w_128 1 = CQ G 10 := (fr_130 1 (by omega)).trans e_117
        have e_132 : w_128 2 = .inr (2, [.ref (gad G 3), .ref (gad G 4), .int (iN 0)]) := (fr_130 2 (by omega)).trans e_118
        have e_133 : w_128 3 = .inl (gI G, 10, .inl (aN (fun _ => 0))) := (fr_130 3 (by omega)).trans e_119
        have e_134 : w_128 4 = .inl (gI G, 10, .inl (aN (fun _ => 0))) := (fr_130 4 (by omega)).trans e_120
        have e_135 : w_128 5 = .inl (gI G, 92, .inl (aN (fun _ => 0))) := (fr_130 5 (by omega)).trans e_121
        have e_136 : w_128 6 = .inr (4, [.ref (gad G 7), .ref (gad G 8), .ref (gad G 9), .int (iN 0)]) := (fr_130 6 (by omega)).trans e_122
        have e_137 : w_128 7 = .inl (gZ G, 10, .inl (aN (fun _ => 0))) := (fr_130 7 (by omega)).trans e_123
        have e_138 : w_128 8 = .inl (gI G, 10, .inl (aN (fun _ => 0))) := (fr_130 8 (by omega)).trans e_124
        have e_139 : w_128 9 = .inl (gI G, 10, .inl (aN (fun _ => 0))) := (fr_130 9 (by omega)).trans e_125
        have e_140 : w_128 10 = .inr (3, [.ref (gad G 11), .ref (gad G 12), .ref (gad G 13), .int (iN 0), .int (iN 0)]) := (fr_130 10 (by omega)).trans e_113
        have e_141 : w_128 11 = .inl (gJ G, 45, .inr (.inl (aJ (fun _ => 0)))) := (fr_130 11 (by omega)).trans e_114
        have e_142 : w_128 12 = .inl (gI G, 45, .inl (aN (fun _ => 0))) := (fr_130 12 (by omega)).trans e_115
        have e_143 : w_128 13 = .inl (gI G, 45, .inl (aN (fun _ => 0))) := (fr_130 13 (by omega)).trans e_116
        have e_144 : w_128 0 = .inr (7, [.ref (gad G 1), .int (iN 0), .int (iN 0), .ref (gad G 2), .ref (gad G 5), .int (iN 0), .ref (gad G 6), .ref (gad G 10), .null, .null, .null]) := by rw [hw_129]; exact va_up_self _ _ _
        have hC_145 : FI G w_128 10 := hC_127.keep (fun k h1 h2 => fr_130 k (by omega))
        refine lv_aload_n hx hb dX8_init_81 rfl (lv_at hl 1 rfl) ?_
        refine y_new (ci := 6) (fs := [.int (iN 0), .long (jN 0), .long (jN 0), .long (jN 0), .int (iN 0)]) (C := RX7) (T := TX7) (N := 5) hx hb hts (by decide +kernel) tyX7 tyX7_ok hown (hts (.classLink RX8 41 RX7) (by decide +kernel)) (hts (.instantiable RX7 5) (by decide +kernel)) (hts (.initialized RX7) (by decide +kernel)) hK hP hS rfl (fun j hj => by rcases (show j = 0 ∨ j = 1 ∨ j = 2 ∨ j = 3 ∨ j = 4 by omega) with rfl | rfl | rfl | rfl | rfl <;> rfl) (Nat.le_of_ble_eq_true rfl) (Nat.le_of_ble_eq_true rfl) 14 (by decide) dX8_init_82 (fun H hP hS => ?_)
        obtain ⟨w_146, hw_147⟩ : ∃ z : WF, z = va_up w_128 14 (.inr (6, [.int (iN 0), .long (jN 0), .long (jN 0), .long (jN 0), .int (iN 0)])) := ⟨_, rfl⟩
        rw [← hw_147] at hP
        have fr_148 : ∀ k : Nat, k ≠ 14 → w_146 k = w_128 k := fun k h => by rw [hw_147]; exact va_up_ne _ _ h
        have e_149 : w_146 1 = CQ G 10 := (fr_148 1 (by omega)).trans e_131
        have e_150 : w_146 2 = .inr (2, [.ref (gad G 3), .ref (gad G 4), .int (iN 0)]) := (fr_148 2 (by omega)).trans e_132
        have e_151 : w_146 3 = .inl (gI G, 10, .inl (aN (fun _ => 0))) := (fr_148 3 (by omega)).trans e_133
        have e_152 : w_146 4 = .inl (gI G, 10, .inl (aN (fun _ => 0))) := (fr_148 4 (by omega)).trans e_134
        have e_153 : w_146 5 = .inl (gI G, 92, .inl (aN (fun _ => 0))) := (fr_148 5 (by omega)).trans e_135
        have e_154 : w_146 6 = .inr (4, [.ref (gad G 7), .ref (gad G 8), .ref (gad G 9), .int (iN 0)]) := (fr_148 6 (by omega)).trans e_136
        have e_155 : w_146 7 = .inl (gZ G, 10, .inl (aN (fun _ => 0))) := (fr_148 7 (by omega)).trans e_137
        have e_156 : w_146 8 = .inl (gI G, 10, .inl (aN (fun _ => 0))) := (fr_148 8 (by omega)).trans e_138
        have e_157 : w_146 9 = .inl (gI G, 10, .inl (aN (fun _ => 0))) := (fr_148 9 (by omega)).trans e_139
        have e_158 : w_146 10 = .inr (3, [.ref (gad G 11), .ref (gad G 12), .ref (gad G 13), .int (iN 0), .int (iN 0)]) := (fr_148 10 (by omega)).trans e_140
        have e_159 : w_146 11 = .inl (gJ G, 45, .inr (.inl (aJ (fun _ => 0)))) := (fr_148 11 (by omega)).trans e_141
        have e_160 : w_146 12 = .inl (gI G, 45, .inl (aN (fun _ => 0))) := (fr_148 12 (by omega)).trans e_142
        have e_161 : w_146 13 = .inl (gI G, 45, .inl (aN (fun _ => 0))) := (fr_148 13 (by omega)).trans e_143
        have e_162 : w_146 0 = .inr (7, [.ref (gad G 1), .int (iN 0), .int (iN 0), .ref (gad G 2), .ref (gad G 5), .int (iN 0), .ref (gad G 6), .ref (gad G 10), .null, .null, .null]) := (fr_148 0 (by omega)).trans e_144
        have e_163 : w_146 14 = .inr (6, [.int (iN 0), .long (jN 0), .long (jN 0), .long (jN 0), .int (iN 0)]) := by rw [hw_147]; exact va_up_self _ _ _
        have hC_164 : FI G w_146 10 := hC_145.keep (fun k h1 h2 => fr_148 k (by omega))
        refine lv_dup hx hb dX8_init_85 rfl ?_
        refine y_callv (va_runIN (As := []) (rest := [.ref (gad G 14), .ref (gad G 0)]) ⟨hx, hb, hml, hown, hts⟩ (c_X7_init l G w_146 e_163) ⟨va_cnB 0 hts gX8_init_X7_init_n43 rfl rfl rfl (hK.1.nm 4 rfl) (hts (.initialized RX7) (by decide +kernel)) (by decide +kernel) ⟨Nat.le_of_ble_eq_true rfl, Nat.le_of_ble_eq_true rfl⟩, rfl, hts (.instanceMethod yX7_init) (by decide +kernel)⟩ (y_preS hP hK) rfl rfl hl.1 rfl (lv_room (Nat.le_of_ble_eq_true rfl)) dX8_init_86 ⟨Nat.le_of_ble_eq_true rfl, Nat.le_of_ble_eq_true rfl⟩) hS hAA (fun w_165 H locs q_166 hP hS => ?_)
        obtain ⟨fr_167, e_168⟩ := q_166
        have e_169 : w_165 1 = CQ G 10 := (fr_167 1 (by omega)).trans e_149
        have e_170 : w_165 2 = .inr (2, [.ref (gad G 3), .ref (gad G 4), .int (iN 0)]) := (fr_167 2 (by omega)).trans e_150
        have e_171 : w_165 3 = .inl (gI G, 10, .inl (aN (fun _ => 0))) := (fr_167 3 (by omega)).trans e_151
        have e_172 : w_165 4 = .inl (gI G, 10, .inl (aN (fun _ => 0))) := (fr_167 4 (by omega)).trans e_152
        have e_173 : w_165 5 = .inl (gI G, 92, .inl (aN (fun _ => 0))) := (fr_167 5 (by omega)).trans e_153
        have e_174 : w_165 6 = .inr (4, [.ref (gad G 7), .ref (gad G 8), .ref (gad G 9), .int (iN 0)]) := (fr_167 6 (by omega)).trans e_154
        have e_175 : w_165 7 = .inl (gZ G, 10, .inl (aN (fun _ => 0))) := (fr_167 7 (by omega)).trans e_155
        have e_176 : w_165 8 = .inl (gI G, 10, .inl (aN (fun _ => 0))) := (fr_167 8 (by omega)).trans e_156
        have e_177 : w_165 9 = .inl (gI G, 10, .inl (aN (fun _ => 0))) := (fr_167 9 (by omega)).trans e_157
        have e_178 : w_165 10 = .inr (3, [.ref (gad G 11), .ref (gad G 12), .ref (gad G 13), .int (iN 0), .int (iN 0)]) := (fr_167 10 (by omega)).trans e_158
        have e_179 : w_165 11 = .inl (gJ G, 45, .inr (.inl (aJ (fun _ => 0)))) := (fr_167 11 (by omega)).trans e_159
        have e_180 : w_165 12 = .inl (gI G, 45, .inl (aN (fun _ => 0))) := (fr_167 12 (by omega)).trans e_160
        have e_181 : w_165 13 = .inl (gI G, 45, .inl (aN (fun _ => 0))) := (fr_167 13 (by omega)).trans e_161
        have e_182 : w_165 0 = .inr (7, [.ref (gad G 1), .int (iN 0), .int (iN 0), .ref (gad G 2), .ref (gad G 5), .int (iN 0), .ref (gad G 6), .ref (gad G 10), .null, .null, .null]) := (fr_167 0 (by omega)).trans e_162
        have hC_183 : FI G w_165 10 := hC_164.keep (fun k h1 h2 => fr_167 k (by omega))
        refine y_putF (v := .ref (gad G 14)) (ty := .object "KeptMoving$Stretch") (C := RX8) (T := TX8) (N := 11) hx hb hts (by decide +kernel) tyX8 tyX8_ok nmX8 hown hK hP hS hAA 0 (by decide) e_182 rfl 8 (by decide) (hts (.fieldLink RX8 44 "KeptMoving" "stretch" "LKeptMoving$Stretch;") (by decide +kernel)) (fun _ h9 => h9) rfl hin rfl (by decide +kernel) rfl rfl (Nat.le_of_ble_eq_true rfl) dX8_init_89 (fun H locs hP hS => ?_)
        have hP : PB G (va_up w_165 0 (.inr (7, [.ref (gad G 1), .int (iN 0), .int (iN 0), .ref (gad G 2), .ref (gad G 5), .int (iN 0), .ref (gad G 6), .ref (gad G 10), .ref (gad G 14), .null, .null]))) _ H := hP
        obtain ⟨w_184, hw_185⟩ : ∃ z : WF, z = va_up w_165 0 (.inr (7, [.ref (gad G 1), .int (iN 0), .int (iN 0), .ref (gad G 2), .ref (gad G 5), .int (iN 0), .ref (gad G 6), .ref (gad G 10), .ref (gad G 14), .null, .null])) := ⟨_, rfl⟩
        rw [← hw_185] at hP
        have fr_186 : ∀ k : Nat, k ≠ 0 → w_184 k = w_165 k := fun k h => by rw [hw_185]; exact va_up_ne _ _ h
        have e_187 : w_184 1 = CQ G 10 := (fr_186 1 (by omega)).trans e_169
        have e_188 : w_184 2 = .inr (2, [.ref (gad G 3), .ref (gad G 4), .int (iN 0)]) := (fr_186 2 (by omega)).trans e_170
        have e_189 : w_184 3 = .inl (gI G, 10, .inl (aN (fun _ => 0))) := (fr_186 3 (by omega)).trans e_171
        have e_190 : w_184 4 = .inl (gI G, 10, .inl (aN (fun _ => 0))) := (fr_186 4 (by omega)).trans e_172
        have e_191 : w_184 5 = .inl (gI G, 92, .inl (aN (fun _ => 0))) := (fr_186 5 (by omega)).trans e_173
        have e_192 : w_184 6 = .inr (4, [.ref (gad G 7), .ref (gad G 8), .ref (gad G 9), .int (iN 0)]) := (fr_186 6 (by omega)).trans e_174
        have e_193 : w_184 7 = .inl (gZ G, 10, .inl (aN (fun _ => 0))) := (fr_186 7 (by omega)).trans e_175
        have e_194 : w_184 8 = .inl (gI G, 10, .inl (aN (fun _ => 0))) := (fr_186 8 (by omega)).trans e_176
        have e_195 : w_184 9 = .inl (gI G, 10, .inl (aN (fun _ => 0))) := (fr_186 9 (by omega)).trans e_177
        have e_196 : w_184 10 = .inr (3, [.ref (gad G 11), .ref (gad G 12), .ref (gad G 13), .int (iN 0), .int (iN 0)]) := (fr_186 10 (by omega)).trans e_178
        have e_197 : w_184 11 = .inl (gJ G, 45, .inr (.inl (aJ (fun _ => 0)))) := (fr_186 11 (by omega)).trans e_179
        have e_198 : w_184 12 = .inl (gI G, 45, .inl (aN (fun _ => 0))) := (fr_186 12 (by omega)).trans e_180
        have e_199 : w_184 13 = .inl (gI G, 45, .inl (aN (fun _ => 0))) := (fr_186 13 (by omega)).trans e_181
        have e_200 : w_184 14 = .inr (6, [.int (iN 0), .long (jN 0), .long (jN 0), .long (jN 0), .int (iN 0)]) := (fr_186 14 (by omega)).trans e_168
        have e_201 : w_184 0 = .inr (7, [.ref (gad G 1), .int (iN 0), .int (iN 0), .ref (gad G 2), .ref (gad G 5), .int (iN 0), .ref (gad G 6), .ref (gad G 10), .ref (gad G 14), .null, .null]) := by rw [hw_185]; exact va_up_self _ _ _
        have hC_202 : FI G w_184 10 := hC_183.keep (fun k h1 h2 => fr_186 k (by omega))
        refine lv_aload_n hx hb dX8_init_92 rfl (lv_at hl 1 rfl) ?_
        refine y_new (ci := 1) (fs := [.null, .null, .int (iN 0)]) (C := RX1) (T := TX1) (N := 3) hx hb hts (by decide +kernel) tyX1 tyX1_ok hown (hts (.classLink RX8 48 RX1) (by decide +kernel)) (hts (.instantiable RX1 3) (by decide +kernel)) (hts (.initialized RX1) (by decide +kernel)) hK hP hS rfl (fun j hj => by rcases (show j = 0 ∨ j = 1 ∨ j = 2 by omega) with rfl | rfl | rfl <;> rfl) (Nat.le_of_ble_eq_true rfl) (Nat.le_of_ble_eq_true rfl) 15 (by decide) dX8_init_93 (fun H hP hS => ?_)
        obtain ⟨w_203, hw_204⟩ : ∃ z : WF, z = va_up w_184 15 (.inr (1, [.null, .null, .int (iN 0)])) := ⟨_, rfl⟩
        rw [← hw_204] at hP
        have fr_205 : ∀ k : Nat, k ≠ 15 → w_203 k = w_184 k := fun k h => by rw [hw_204]; exact va_up_ne _ _ h
        have e_206 : w_203 1 = CQ G 10 := (fr_205 1 (by omega)).trans e_187
        have e_207 : w_203 2 = .inr (2, [.ref (gad G 3), .ref (gad G 4), .int (iN 0)]) := (fr_205 2 (by omega)).trans e_188
        have e_208 : w_203 3 = .inl (gI G, 10, .inl (aN (fun _ => 0))) := (fr_205 3 (by omega)).trans e_189
        have e_209 : w_203 4 = .inl (gI G, 10, .inl (aN (fun _ => 0))) := (fr_205 4 (by omega)).trans e_190
        have e_210 : w_203 5 = .inl (gI G, 92, .inl (aN (fun _ => 0))) := (fr_205 5 (by omega)).trans e_191
        have e_211 : w_203 6 = .inr (4, [.ref (gad G 7), .ref (gad G 8), .ref (gad G 9), .int (iN 0)]) := (fr_205 6 (by omega)).trans e_192
        have e_212 : w_203 7 = .inl (gZ G, 10, .inl (aN (fun _ => 0))) := (fr_205 7 (by omega)).trans e_193
        have e_213 : w_203 8 = .inl (gI G, 10, .inl (aN (fun _ => 0))) := (fr_205 8 (by omega)).trans e_194
        have e_214 : w_203 9 = .inl (gI G, 10, .inl (aN (fun _ => 0))) := (fr_205 9 (by omega)).trans e_195
        have e_215 : w_203 10 = .inr (3, [.ref (gad G 11), .ref (gad G 12), .ref (gad G 13), .int (iN 0), .int (iN 0)]) := (fr_205 10 (by omega)).trans e_196
        have e_216 : w_203 11 = .inl (gJ G, 45, .inr (.inl (aJ (fun _ => 0)))) := (fr_205 11 (by omega)).trans e_197
        have e_217 : w_203 12 = .inl (gI G, 45, .inl (aN (fun _ => 0))) := (fr_205 12 (by omega)).trans e_198
        have e_218 : w_203 13 = .inl (gI G, 45, .inl (aN (fun _ => 0))) := (fr_205 13 (by omega)).trans e_199
        have e_219 : w_203 14 = .inr (6, [.int (iN 0), .long (jN 0), .long (jN 0), .long (jN 0), .int (iN 0)]) := (fr_205 14 (by omega)).trans e_200
        have e_220 : w_203 0 = .inr (7, [.ref (gad G 1), .int (iN 0), .int (iN 0), .ref (gad G 2), .ref (gad G 5), .int (iN 0), .ref (gad G 6), .ref (gad G 10), .ref (gad G 14), .null, .null]) := (fr_205 0 (by omega)).trans e_201
        have e_221 : w_203 15 = .inr (1, [.null, .null, .int (iN 0)]) := by rw [hw_204]; exact va_up_self _ _ _
        have hC_222 : FI G w_203 10 := hC_202.keep (fun k h1 h2 => fr_205 k (by omega))
        refine lv_dup hx hb dX8_init_96 rfl ?_
        refine y_callv (va_runIN (As := []) (rest := [.ref (gad G 15), .ref (gad G 0)]) ⟨hx, hb, hml, hown, hts⟩ (c_X1_init l G w_203 e_221) ⟨va_cnB 0 hts gX8_init_X1_init_n50 rfl rfl rfl (hK.1.nm 5 rfl) (hts (.initialized RX1) (by decide +kernel)) (by decide +kernel) ⟨Nat.le_of_ble_eq_true rfl, Nat.le_of_ble_eq_true rfl⟩, rfl, hts (.instanceMethod yX1_init) (by decide +kernel)⟩ (y_preS hP hK) rfl rfl hl.1 rfl (lv_room (Nat.le_of_ble_eq_true rfl)) dX8_init_97 ⟨Nat.le_of_ble_eq_true rfl, Nat.le_of_ble_eq_true rfl⟩) hS hAA (fun w_223 H locs q_224 hP hS => ?_)
        obtain ⟨fr_225, e_226, e_227, e_228⟩ := q_224
        have e_229 : w_223 1 = CQ G 10 := (fr_225 1 (by omega) (by omega) (by omega)).trans e_206
        have e_230 : w_223 2 = .inr (2, [.ref (gad G 3), .ref (gad G 4), .int (iN 0)]) := (fr_225 2 (by omega) (by omega) (by omega)).trans e_207
        have e_231 : w_223 3 = .inl (gI G, 10, .inl (aN (fun _ => 0))) := (fr_225 3 (by omega) (by omega) (by omega)).trans e_208
        have e_232 : w_223 4 = .inl (gI G, 10, .inl (aN (fun _ => 0))) := (fr_225 4 (by omega) (by omega) (by omega)).trans e_209
        have e_233 : w_223 5 = .inl (gI G, 92, .inl (aN (fun _ => 0))) := (fr_225 5 (by omega) (by omega) (by omega)).trans e_210
        have e_234 : w_223 6 = .inr (4, [.ref (gad G 7), .ref (gad G 8), .ref (gad G 9), .int (iN 0)]) := (fr_225 6 (by omega) (by omega) (by omega)).trans e_211
        have e_235 : w_223 7 = .inl (gZ G, 10, .inl (aN (fun _ => 0))) := (fr_225 7 (by omega) (by omega) (by omega)).trans e_212
        have e_236 : w_223 8 = .inl (gI G, 10, .inl (aN (fun _ => 0))) := (fr_225 8 (by omega) (by omega) (by omega)).trans e_213
        have e_237 : w_223 9 = .inl (gI G, 10, .inl (aN (fun _ => 0))) := (fr_225 9 (by omega) (by omega) (by omega)).trans e_214
        have e_238 : w_223 10 = .inr (3, [.ref (gad G 11), .ref (gad G 12), .ref (gad G 13), .int (iN 0), .int (iN 0)]) := (fr_225 10 (by omega) (by omega) (by omega)).trans e_215
        have e_239 : w_223 11 = .inl (gJ G, 45, .inr (.inl (aJ (fun _ => 0)))) := (fr_225 11 (by omega) (by omega) (by omega)).trans e_216
        have e_240 : w_223 12 = .inl (gI G, 45, .inl (aN (fun _ => 0))) := (fr_225 12 (by omega) (by omega) (by omega)).trans e_217
        have e_241 : w_223 13 = .inl (gI G, 45, .inl (aN (fun _ => 0))) := (fr_225 13 (by omega) (by omega) (by omega)).trans e_218
        have e_242 : w_223 14 = .inr (6, [.int (iN 0), .long (jN 0), .long (jN 0), .long (jN 0), .int (iN 0)]) := (fr_225 14 (by omega) (by omega) (by omega)).trans e_219
        have e_243 : w_223 0 = .inr (7, [.ref (gad G 1), .int (iN 0), .int (iN 0), .ref (gad G 2), .ref (gad G 5), .int (iN 0), .ref (gad G 6), .ref (gad G 10), .ref (gad G 14), .null, .null]) := (fr_225 0 (by omega) (by omega) (by omega)).trans e_220
        have hC_244 : FI G w_223 10 := hC_222.keep (fun k h1 h2 => fr_225 k (by omega) (by omega) (by omega))
        refine y_putF (v := .ref (gad G 15)) (ty := .object "KeptMoving$Crowd") (C := RX8) (T := TX8) (N := 11) hx hb hts (by decide +kernel) tyX8 tyX8_ok nmX8 hown hK hP hS hAA 0 (by decide) e_243 rfl 9 (by decide) (hts (.fieldLink RX8 51 "KeptMoving" "crowd" "LKeptMoving$Crowd;") (by decide +kernel)) (fun _ h9 => h9) rfl hin rfl (by decide +kernel) rfl rfl (Nat.le_of_ble_eq_true rfl) dX8_init_100 (fun H locs hP hS => ?_)
        have hP : PB G (va_up w_223 0 (.inr (7, [.ref (gad G 1), .int (iN 0), .int (iN 0), .ref (gad G 2), .ref (gad G 5), .int (iN 0), .ref (gad G 6), .ref (gad G 10), .ref (gad G 14), .ref (gad G 15), .null]))) _ H := hP
        obtain ⟨w_245, hw_246⟩ : ∃ z : WF, z = va_up w_223 0 (.inr (7, [.ref (gad G 1), .int (iN 0), .int (iN 0), .ref (gad G 2), .ref (gad G 5), .int (iN 0), .ref (gad G 6), .ref (gad G 10), .ref (gad G 14), .ref (gad G 15), .null])) := ⟨_, rfl⟩
        rw [← hw_246] at hP
        have fr_247 : ∀ k : Nat, k ≠ 0 → w_245 k = w_223 k := fun k h => by rw [hw_246]; exact va_up_ne _ _ h
        have e_248 : w_245 1 = CQ G 10 := (fr_247 1 (by omega)).trans e_229
        have e_249 : w_245 2 = .inr (2, [.ref (gad G 3), .ref (gad G 4), .int (iN 0)]) := (fr_247 2 (by omega)).trans e_230
        have e_250 : w_245 3 = .inl (gI G, 10, .inl (aN (fun _ => 0))) := (fr_247 3 (by omega)).trans e_231
        have e_251 : w_245 4 = .inl (gI G, 10, .inl (aN (fun _ => 0))) := (fr_247 4 (by omega)).trans e_232
        have e_252 : w_245 5 = .inl (gI G, 92, .inl (aN (fun _ => 0))) := (fr_247 5 (by omega)).trans e_233
        have e_253 : w_245 6 = .inr (4, [.ref (gad G 7), .ref (gad G 8), .ref (gad G 9), .int (iN 0)]) := (fr_247 6 (by omega)).trans e_234
        have e_254 : w_245 7 = .inl (gZ G, 10, .inl (aN (fun _ => 0))) := (fr_247 7 (by omega)).trans e_235
        have e_255 : w_245 8 = .inl (gI G, 10, .inl (aN (fun _ => 0))) := (fr_247 8 (by omega)).trans e_236
        have e_256 : w_245 9 = .inl (gI G, 10, .inl (aN (fun _ => 0))) := (fr_247 9 (by omega)).trans e_237
        have e_257 : w_245 10 = .inr (3, [.ref (gad G 11), .ref (gad G 12), .ref (gad G 13), .int (iN 0), .int (iN 0)]) := (fr_247 10 (by omega)).trans e_238
        have e_258 : w_245 11 = .inl (gJ G, 45, .inr (.inl (aJ (fun _ => 0)))) := (fr_247 11 (by omega)).trans e_239
        have e_259 : w_245 12 = .inl (gI G, 45, .inl (aN (fun _ => 0))) := (fr_247 12 (by omega)).trans e_240
        have e_260 : w_245 13 = .inl (gI G, 45, .inl (aN (fun _ => 0))) := (fr_247 13 (by omega)).trans e_241
        have e_261 : w_245 14 = .inr (6, [.int (iN 0), .long (jN 0), .long (jN 0), .long (jN 0), .int (iN 0)]) := (fr_247 14 (by omega)).trans e_242
        have e_262 : w_245 15 = .inr (1, [.ref (gad G 16), .ref (gad G 17), .int (iN 0)]) := (fr_247 15 (by omega)).trans e_226
        have e_263 : w_245 16 = .inl (gJ G, 10, .inr (.inl (aJ (fun _ => 0)))) := (fr_247 16 (by omega)).trans e_227
        have e_264 : w_245 17 = .inl (gJ G, 10, .inr (.inl (aJ (fun _ => 0)))) := (fr_247 17 (by omega)).trans e_228
        have e_265 : w_245 0 = .inr (7, [.ref (gad G 1), .int (iN 0), .int (iN 0), .ref (gad G 2), .ref (gad G 5), .int (iN 0), .ref (gad G 6), .ref (gad G 10), .ref (gad G 14), .ref (gad G 15), .null]) := by rw [hw_246]; exact va_up_self _ _ _
        have hC_266 : FI G w_245 10 := hC_244.keep (fun k h1 h2 => fr_247 k (by omega))
        refine lv_aload_n hx hb dX8_init_103 rfl (lv_at hl 1 rfl) ?_
        refine y_new (ci := 5) (fs := [.int (iN 0), .int (iN 0), .long (jN 0), .long (jN 0), .long (jN 0)]) (C := RX6) (T := TX6) (N := 5) hx hb hts (by decide +kernel) tyX6 tyX6_ok hown (hts (.classLink RX8 55 RX6) (by decide +kernel)) (hts (.instantiable RX6 5) (by decide +kernel)) (hts (.initialized RX6) (by decide +kernel)) hK hP hS rfl (fun j hj => by rcases (show j = 0 ∨ j = 1 ∨ j = 2 ∨ j = 3 ∨ j = 4 by omega) with rfl | rfl | rfl | rfl | rfl <;> rfl) (Nat.le_of_ble_eq_true rfl) (Nat.le_of_ble_eq_true rfl) 18 (by decide) dX8_init_104 (fun H hP hS => ?_)
        obtain ⟨w_267, hw_268⟩ : ∃ z : WF, z = va_up w_245 18 (.inr (5, [.int (iN 0), .int (iN 0), .long (jN 0), .long (jN 0), .long (jN 0)])) := ⟨_, rfl⟩
        rw [← hw_268] at hP
        have fr_269 : ∀ k : Nat, k ≠ 18 → w_267 k = w_245 k := fun k h => by rw [hw_268]; exact va_up_ne _ _ h
        have e_270 : w_267 1 = CQ G 10 := (fr_269 1 (by omega)).trans e_248
        have e_271 : w_267 2 = .inr (2, [.ref (gad G 3), .ref (gad G 4), .int (iN 0)]) := (fr_269 2 (by omega)).trans e_249
        have e_272 : w_267 3 = .inl (gI G, 10, .inl (aN (fun _ => 0))) := (fr_269 3 (by omega)).trans e_250
        have e_273 : w_267 4 = .inl (gI G, 10, .inl (aN (fun _ => 0))) := (fr_269 4 (by omega)).trans e_251
        have e_274 : w_267 5 = .inl (gI G, 92, .inl (aN (fun _ => 0))) := (fr_269 5 (by omega)).trans e_252
        have e_275 : w_267 6 = .inr (4, [.ref (gad G 7), .ref (gad G 8), .ref (gad G 9), .int (iN 0)]) := (fr_269 6 (by omega)).trans e_253
        have e_276 : w_267 7 = .inl (gZ G, 10, .inl (aN (fun _ => 0))) := (fr_269 7 (by omega)).trans e_254
        have e_277 : w_267 8 = .inl (gI G, 10, .inl (aN (fun _ => 0))) := (fr_269 8 (by omega)).trans e_255
        have e_278 : w_267 9 = .inl (gI G, 10, .inl (aN (fun _ => 0))) := (fr_269 9 (by omega)).trans e_256
        have e_279 : w_267 10 = .inr (3, [.ref (gad G 11), .ref (gad G 12), .ref (gad G 13), .int (iN 0), .int (iN 0)]) := (fr_269 10 (by omega)).trans e_257
        have e_280 : w_267 11 = .inl (gJ G, 45, .inr (.inl (aJ (fun _ => 0)))) := (fr_269 11 (by omega)).trans e_258
        have e_281 : w_267 12 = .inl (gI G, 45, .inl (aN (fun _ => 0))) := (fr_269 12 (by omega)).trans e_259
        have e_282 : w_267 13 = .inl (gI G, 45, .inl (aN (fun _ => 0))) := (fr_269 13 (by omega)).trans e_260
        have e_283 : w_267 14 = .inr (6, [.int (iN 0), .long (jN 0), .long (jN 0), .long (jN 0), .int (iN 0)]) := (fr_269 14 (by omega)).trans e_261
        have e_284 : w_267 15 = .inr (1, [.ref (gad G 16), .ref (gad G 17), .int (iN 0)]) := (fr_269 15 (by omega)).trans e_262
        have e_285 : w_267 16 = .inl (gJ G, 10, .inr (.inl (aJ (fun _ => 0)))) := (fr_269 16 (by omega)).trans e_263
        have e_286 : w_267 17 = .inl (gJ G, 10, .inr (.inl (aJ (fun _ => 0)))) := (fr_269 17 (by omega)).trans e_264
        have e_287 : w_267 0 = .inr (7, [.ref (gad G 1), .int (iN 0), .int (iN 0), .ref (gad G 2), .ref (gad G 5), .int (iN 0), .ref (gad G 6), .ref (gad G 10), .ref (gad G 14), .ref (gad G 15), .null]) := (fr_269 0 (by omega)).trans e_265
        have e_288 : w_267 18 = .inr (5, [.int (iN 0), .int (iN 0), .long (jN 0), .long (jN 0), .long (jN 0)]) := by rw [hw_268]; exact va_up_self _ _ _
        have hC_289 : FI G w_267 10 := hC_266.keep (fun k h1 h2 => fr_269 k (by omega))
        refine lv_dup hx hb dX8_init_107 rfl ?_
        refine y_callv (va_runIN (As := []) (rest := [.ref (gad G 18), .ref (gad G 0)]) ⟨hx, hb, hml, hown, hts⟩ (c_X6_init l G w_267 e_288) ⟨va_cnB 0 hts gX8_init_X6_init_n57 rfl rfl rfl (hK.1.nm 6 rfl) (hts (.initialized RX6) (by decide +kernel)) (by decide +kernel) ⟨Nat.le_of_ble_eq_true rfl, Nat.le_of_ble_eq_true rfl⟩, rfl, hts (.instanceMethod yX6_init) (by decide +kernel)⟩ (y_preS hP hK) rfl rfl hl.1 rfl (lv_room (Nat.le_of_ble_eq_true rfl)) dX8_init_108 ⟨Nat.le_of_ble_eq_true rfl, Nat.le_of_ble_eq_true rfl⟩) hS hAA (fun w_290 H locs q_291 hP hS => ?_)
        obtain ⟨fr_292, e_293⟩ := q_291
        have e_294 : w_290 1 = CQ G 10 := (fr_292 1 (by omega)).trans e_270
        have e_295 : w_290 2 = .inr (2, [.ref (gad G 3), .ref (gad G 4), .int (iN 0)]) := (fr_292 2 (by omega)).trans e_271
        have e_296 : w_290 3 = .inl (gI G, 10, .inl (aN (fun _ => 0))) := (fr_292 3 (by omega)).trans e_272
        have e_297 : w_290 4 = .inl (gI G, 10, .inl (aN (fun _ => 0))) := (fr_292 4 (by omega)).trans e_273
        have e_298 : w_290 5 = .inl (gI G, 92, .inl (aN (fun _ => 0))) := (fr_292 5 (by omega)).trans e_274
        have e_299 : w_290 6 = .inr (4, [.ref (gad G 7), .ref (gad G 8), .ref (gad G 9), .int (iN 0)]) := (fr_292 6 (by omega)).trans e_275
        have e_300 : w_290 7 = .inl (gZ G, 10, .inl (aN (fun _ => 0))) := (fr_292 7 (by omega)).trans e_276
        have e_301 : w_290 8 = .inl (gI G, 10, .inl (aN (fun _ => 0))) := (fr_292 8 (by omega)).trans e_277
        have e_302 : w_290 9 = .inl (gI G, 10, .inl (aN (fun _ => 0))) := (fr_292 9 (by omega)).trans e_278
        have e_303 : w_290 10 = .inr (3, [.ref (gad G 11), .ref (gad G 12), .ref (gad G 13), .int (iN 0), .int (iN 0)]) := (fr_292 10 (by omega)).trans e_279
        have e_304 : w_290 11 = .inl (gJ G, 45, .inr (.inl (aJ (fun _ => 0)))) := (fr_292 11 (by omega)).trans e_280
        have e_305 : w_290 12 = .inl (gI G, 45, .inl (aN (fun _ => 0))) := (fr_292 12 (by omega)).trans e_281
        have e_306 : w_290 13 = .inl (gI G, 45, .inl (aN (fun _ => 0))) := (fr_292 13 (by omega)).trans e_282
        have e_307 : w_290 14 = .inr (6, [.int (iN 0), .long (jN 0), .long (jN 0), .long (jN 0), .int (iN 0)]) := (fr_292 14 (by omega)).trans e_283
        have e_308 : w_290 15 = .inr (1, [.ref (gad G 16), .ref (gad G 17), .int (iN 0)]) := (fr_292 15 (by omega)).trans e_284
        have e_309 : w_290 16 = .inl (gJ G, 10, .inr (.inl (aJ (fun _ => 0)))) := (fr_292 16 (by omega)).trans e_285
        have e_310 : w_290 17 = .inl (gJ G, 10, .inr (.inl (aJ (fun _ => 0)))) := (fr_292 17 (by omega)).trans e_286
        have e_311 : w_290 0 = .inr (7, [.ref (gad G 1), .int (iN 0), .int (iN 0), .ref (gad G 2), .ref (gad G 5), .int (iN 0), .ref (gad G 6), .ref (gad G 10), .ref (gad G 14), .ref (gad G 15), .null]) := (fr_292 0 (by omega)).trans e_287
        have hC_312 : FI G w_290 10 := hC_289.keep (fun k h1 h2 => fr_292 k (by omega))
        refine y_putF (v := .ref (gad G 18)) (ty := .object "KeptMoving$Spans") (C := RX8) (T := TX8) (N := 11) hx hb hts (by decide +kernel) tyX8 tyX8_ok nmX8 hown hK hP hS hAA 0 (by decide) e_311 rfl 10 (by decide) (hts (.fieldLink RX8 58 "KeptMoving" "spans" "LKeptMoving$Spans;") (by decide +kernel)) (fun _ h9 => h9) rfl hin rfl (by decide +kernel) rfl rfl (Nat.le_of_ble_eq_true rfl) dX8_init_111 (fun H locs hP hS => ?_)
        have hP : PB G (va_up w_290 0 (.inr (7, [.ref (gad G 1), .int (iN 0), .int (iN 0), .ref (gad G 2), .ref (gad G 5), .int (iN 0), .ref (gad G 6), .ref (gad G 10), .ref (gad G 14), .ref (gad G 15), .ref (gad G 18)]))) _ H := hP
        obtain ⟨w_313, hw_314⟩ : ∃ z : WF, z = va_up w_290 0 (.inr (7, [.ref (gad G 1), .int (iN 0), .int (iN 0), .ref (gad G 2), .ref (gad G 5), .int (iN 0), .ref (gad G 6), .ref (gad G 10), .ref (gad G 14), .ref (gad G 15), .ref (gad G 18)])) := ⟨_, rfl⟩
        rw [← hw_314] at hP
        have fr_315 : ∀ k : Nat, k ≠ 0 → w_313 k = w_290 k := fun k h => by rw [hw_314]; exact va_up_ne _ _ h
        have e_316 : w_313 1 = CQ G 10 := (fr_315 1 (by omega)).trans e_294
        have e_317 : w_313 2 = .inr (2, [.ref (gad G 3), .ref (gad G 4), .int (iN 0)]) := (fr_315 2 (by omega)).trans e_295
        have e_318 : w_313 3 = .inl (gI G, 10, .inl (aN (fun _ => 0))) := (fr_315 3 (by omega)).trans e_296
        have e_319 : w_313 4 = .inl (gI G, 10, .inl (aN (fun _ => 0))) := (fr_315 4 (by omega)).trans e_297
        have e_320 : w_313 5 = .inl (gI G, 92, .inl (aN (fun _ => 0))) := (fr_315 5 (by omega)).trans e_298
        have e_321 : w_313 6 = .inr (4, [.ref (gad G 7), .ref (gad G 8), .ref (gad G 9), .int (iN 0)]) := (fr_315 6 (by omega)).trans e_299
        have e_322 : w_313 7 = .inl (gZ G, 10, .inl (aN (fun _ => 0))) := (fr_315 7 (by omega)).trans e_300
        have e_323 : w_313 8 = .inl (gI G, 10, .inl (aN (fun _ => 0))) := (fr_315 8 (by omega)).trans e_301
        have e_324 : w_313 9 = .inl (gI G, 10, .inl (aN (fun _ => 0))) := (fr_315 9 (by omega)).trans e_302
        have e_325 : w_313 10 = .inr (3, [.ref (gad G 11), .ref (gad G 12), .ref (gad G 13), .int (iN 0), .int (iN 0)]) := (fr_315 10 (by omega)).trans e_303
        have e_326 : w_313 11 = .inl (gJ G, 45, .inr (.inl (aJ (fun _ => 0)))) := (fr_315 11 (by omega)).trans e_304
        have e_327 : w_313 12 = .inl (gI G, 45, .inl (aN (fun _ => 0))) := (fr_315 12 (by omega)).trans e_305
        have e_328 : w_313 13 = .inl (gI G, 45, .inl (aN (fun _ => 0))) := (fr_315 13 (by omega)).trans e_306
        have e_329 : w_313 14 = .inr (6, [.int (iN 0), .long (jN 0), .long (jN 0), .long (jN 0), .int (iN 0)]) := (fr_315 14 (by omega)).trans e_307
        have e_330 : w_313 15 = .inr (1, [.ref (gad G 16), .ref (gad G 17), .int (iN 0)]) := (fr_315 15 (by omega)).trans e_308
        have e_331 : w_313 16 = .inl (gJ G, 10, .inr (.inl (aJ (fun _ => 0)))) := (fr_315 16 (by omega)).trans e_309
        have e_332 : w_313 17 = .inl (gJ G, 10, .inr (.inl (aJ (fun _ => 0)))) := (fr_315 17 (by omega)).trans e_310
        have e_333 : w_313 18 = .inr (5, [.int (iN 0), .int (iN 0), .long (jN 0), .long (jN 0), .long (jN 0)]) := (fr_315 18 (by omega)).trans e_293
        have e_334 : w_313 0 = .inr (7, [.ref (gad G 1), .int (iN 0), .int (iN 0), .ref (gad G 2), .ref (gad G 5), .int (iN 0), .ref (gad G 6), .ref (gad G 10), .ref (gad G 14), .ref (gad G 15), .ref (gad G 18)]) := by rw [hw_314]; exact va_up_self _ _ _
        have hC_335 : FI G w_313 10 := hC_312.keep (fun k h1 h2 => fr_315 k (by omega))
        refine W.widen (k := 58) (n := 622) (Nat.le_of_ble_eq_true rfl) (Nat.le_of_ble_eq_true rfl) ?_
        exact y_vret hx hb hr hlocks hP hS ⟨(fun k h59 => ((((((((((((((((((((((((((((((((((((((((fr_315 k (by omega)).trans (fr_292 k (by omega)))).trans (fr_269 k (by omega)))).trans (fr_247 k (by omega)))).trans (fr_225 k (by omega) (by omega) (by omega)))).trans (fr_205 k (by omega)))).trans (fr_186 k (by omega)))).trans (fr_167 k (by omega)))).trans (fr_148 k (by omega)))).trans (fr_130 k (by omega)))).trans (fr_112 k (by omega) (by omega) (by omega) (by omega)))).trans (fr_97 k (by omega)))).trans (fr_83 k (by omega)))).trans (fr_69 k (by omega) (by omega) (by omega) (by omega)))).trans (fr_58 k (by omega)))).trans (fr_48 k (by omega)))).trans (fr_38 k (by omega)))).trans (fr_29 k (by omega)))).trans (fr_20 k (by omega) (by omega) (by omega)))).trans (fr_13 k (by omega)))).trans (hfr k (by omega) (by omega) (Or.inr (by omega))))), e_334, e_316, e_317, e_318, e_319, e_320, e_321, e_322, e_323, e_324, e_325, e_326, e_327, e_328, e_329, e_330, e_331, e_332, e_333, hC_335⟩ dX8_init_114
      · have hi : i < 10 := by omega
        refine lv_aload_n hx hb dX8_init_21 rfl (lv_at hl 1 rfl) ?_
        refine y_get (C := RX8) (T := TX8) (N := 11) hx hb hts (by decide +kernel) hown hK hP 0 (by show 0 < 2 + 4 * i; omega) f0 rfl 0 (by decide) (hts (.fieldLink RX8 11 "KeptMoving" "courses" "[LKeptMoving$Course;") (by decide +kernel)) (fun _ h9 => h9) rfl dX8_init_22 ?_
        refine lv_iload_n hx hb dX8_init_25 rfl (lv_at hl 0 rfl) ?_
        refine y_new (ci := 0) (fs := [.null, .null, .null, .int (iN 0), .int (iN 0)]) (C := RX0) (T := TX0) (N := 5) hx hb hts (by decide +kernel) tyX0 tyX0_ok hown (hts (.classLink RX8 9 RX0) (by decide +kernel)) (hts (.instantiable RX0 5) (by decide +kernel)) (hts (.initialized RX0) (by decide +kernel)) hK hP hS rfl (fun j hj => by rcases (show j = 0 ∨ j = 1 ∨ j = 2 ∨ j = 3 ∨ j = 4 by omega) with rfl | rfl | rfl | rfl | rfl <;> rfl) (by show 1 + 4 * i + 1 ≤ 58; omega) (by show 10 + 29 * i + 5 ≤ 622; omega) (19 + 4 * i) (by rw [ordK_c0 hi]) dX8_init_26 (fun H hP hS => ?_)
        obtain ⟨w_336, hw_337⟩ : ∃ z : WF, z = va_up w2 (19 + 4 * i) (.inr (0, [.null, .null, .null, .int (iN 0), .int (iN 0)])) := ⟨_, rfl⟩
        rw [← hw_337] at hP
        have fr_338 : ∀ k : Nat, k ≠ (19 + 4 * i) → w_336 k = w2 k := fun k h => by rw [hw_337]; exact va_up_ne _ _ h
        have e_339 : w_336 0 = .inr (7, [.ref (gad G 1), .int (iN 0), .int (iN 0), .null, .null, .int (iN 0), .null, .null, .null, .null, .null]) := (fr_338 0 (by omega)).trans f0
        have e_340 : w_336 1 = CQ G i := (fr_338 1 (by omega)).trans f1
        have e_341 : w_336 (19 + 4 * i) = .inr (0, [.null, .null, .null, .int (iN 0), .int (iN 0)]) := by rw [hw_337]; exact va_up_self _ _ _
        have hC_342 : FI G w_336 i := hC.keep (fun k h1 h2 => fr_338 k (by omega))
        have hP : PB G w_336 (3 + 4 * i) H := by rw [show 3 + 4 * i = 2 + 4 * i + 1 by omega]; exact hP
        refine lv_dup hx hb dX8_init_29 rfl ?_
        refine y_callv (va_runIN (As := []) (rest := [.ref (gad G (19 + 4 * i)), .int (iN ((i : Nat) : Int)), .ref (gad G 1)]) ⟨hx, hb, hml, hown, hts⟩ (c_X0_init l G w_336 (i) hi e_341) ⟨va_cnB 0 hts gX8_init_X0_init_n15 rfl rfl rfl (hK.1.nm 0 rfl) (hts (.initialized RX0) (by decide +kernel)) (by decide +kernel) ⟨Nat.le_of_ble_eq_true rfl, Nat.le_of_ble_eq_true rfl⟩, rfl, hts (.instanceMethod yX0_init) (by decide +kernel)⟩ (y_preS hP hK) rfl rfl hl.1 rfl (lv_room (Nat.le_of_ble_eq_true rfl)) dX8_init_30 ⟨by show 1 + 4 * i + 1 + 3 ≤ 58; omega, by show 10 + 29 * i + 5 + 24 ≤ 622; omega⟩) hS hAA (fun w_343 H locs q_344 hP hS => ?_)
        obtain ⟨fr_345, e_346, e_347, e_348, e_349⟩ := q_344
        have e_350 : w_343 0 = .inr (7, [.ref (gad G 1), .int (iN 0), .int (iN 0), .null, .null, .int (iN 0), .null, .null, .null, .null, .null]) := (fr_345 0 (by omega) (by omega) (by omega) (by omega)).trans e_339
        have e_351 : w_343 1 = CQ G i := (fr_345 1 (by omega) (by omega) (by omega) (by omega)).trans e_340
        have hC_352 : FI G w_343 i := hC_342.keep (fun k h1 h2 => fr_345 k (by omega) (by omega) (by omega) (by omega))
        have hP : PB G w_343 (6 + 4 * i) H := by rw [show 6 + 4 * i = 3 + 4 * i + 3 by omega]; exact hP
        obtain ⟨hx1, hx2⟩ := iN_idx (A := ((i : Nat) : Int)) (j := i) (n := 10) rfl hi (by decide)
        refine y_aast hx hb hK hP hS hAA 1 (19 + 4 * i) (by show 1 < 6 + 4 * i; omega) (by rw [ordK_c0 hi]; omega) e_351 e_346 hx1 dX8_init_33 (fun H locs hP hS => ?_)
        rw [hx2, CQ_s] at hP
        obtain ⟨w_353, hw_354⟩ : ∃ z : WF, z = va_up w_343 1 (CQ G (i + 1)) := ⟨_, rfl⟩
        rw [← hw_354] at hP
        have fr_355 : ∀ k : Nat, k ≠ 1 → w_353 k = w_343 k := fun k h => by rw [hw_354]; exact va_up_ne _ _ h
        have e_356 : w_353 0 = .inr (7, [.ref (gad G 1), .int (iN 0), .int (iN 0), .null, .null, .int (iN 0), .null, .null, .null, .null, .null]) := (fr_355 0 (by omega)).trans e_350
        have e_357 : w_353 (19 + 4 * i) = .inr (0, [.ref (gad G (19 + 4 * i + 1)), .ref (gad G (19 + 4 * i + 2)), .ref (gad G (19 + 4 * i + 3)), .int (iN 1), .int (iN (-1))]) := (fr_355 (19 + 4 * i) (by omega)).trans e_346
        have e_358 : w_353 (19 + 4 * i + 1) = .inl (gI G, 8, .inl (aN (fun _ => 0))) := (fr_355 (19 + 4 * i + 1) (by omega)).trans e_347
        have e_359 : w_353 (19 + 4 * i + 2) = .inl (gI G, 8, .inl (aN (fun _ => 0))) := (fr_355 (19 + 4 * i + 2) (by omega)).trans e_348
        have e_360 : w_353 (19 + 4 * i + 3) = .inl (gI G, 8, .inl (aN (fun _ => 0))) := (fr_355 (19 + 4 * i + 3) (by omega)).trans e_349
        have e_361 : w_353 1 = CQ G (i + 1) := by rw [hw_354]; exact va_up_self _ _ _
        have hC_362 : FI G w_353 i := hC_352.keep (fun k h1 h2 => fr_355 k (by omega))
        refine lv_iinc (v := iN ((i + 1 : Nat) : Int)) (lv' := [(1, .int (iN ((i + 1 : Nat) : Int))), (0, .ref (gad G 0))]) hx hb dX8_init_34 hl (k := 0) rfl (iN_incN _) (by decide) rfl (fun ls hl => ?_)
        refine lv_goto (tgt := 15) hx hb dX8_init_37 (by decide) ?_
        refine W.widen (k := 1 + 4 * (i + 1)) (n := 10 + 29 * (i + 1)) (by omega) (by omega) ?_
        exact ih (i + 1) w_353 H locs ls (by omega) (by omega) e_356 e_361 (hC_362.s ⟨e_357, e_358, e_359, e_360⟩) (fun k h0 h1 h2 => ((((((fr_355 k (by omega)).trans (fr_345 k (by omega) (by omega) (by omega) (by omega)))).trans (fr_338 k (by omega)))).trans (hfr k h0 h1 h2))) (by rw [show 2 + 4 * (i + 1) = 6 + 4 * i by omega]; exact hP) hS hl
  exact K15 12 0 w_6 _ _ _ (by omega) (by omega) e_10 (e_9.trans rfl) (fun j hj => absurd hj (Nat.not_lt_zero j)) (fun k h0 h1 h2 => ((fr_8 k (by omega)).trans (fr_3 k (by omega)))) hP hS hl
