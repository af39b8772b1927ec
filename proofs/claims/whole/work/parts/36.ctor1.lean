theorem ordK_c {i j : Nat} (hi : i < 10) (hj : j < 4) : ordK (19 + 4 * i + j) = 2 + 4 * i + j := by
  unfold ordK
  rw [if_neg (by omega), if_neg (by omega), if_pos (by omega)]
  omega
theorem ordK_c0 {i : Nat} (hi : i < 10) : ordK (19 + 4 * i) = 2 + 4 * i := ordK_c (j := 0) hi (by omega)
theorem y_i0 (cA : ClassId) (N : Nat) : vp_cell cA (N, .inl (aN (fun _ => 0))) = arrV cA N (fun _ => defaultValue (newarray.typeOf .int)) := rfl
theorem y_z0 (cA : ClassId) (N : Nat) : vp_cell cA (N, .inl (aN (fun _ => 0))) = arrV cA N (fun _ => defaultValue (newarray.typeOf .boolean)) := rfl
theorem y_j0 (cA : ClassId) (N : Nat) : vp_cell cA (N, .inr (.inl (aJ (fun _ => 0)))) = arrV cA N (fun _ => defaultValue (newarray.typeOf .long)) := rfl

set_option maxHeartbeats 4000000 in
set_option maxRecDepth 100000 in
theorem c_X0_init (l : Launch) (G : GE) (w : WF) (i : Nat) (hi : i < 10) (e0 : w (19 + 4 * i) = .inr (0, [.null, .null, .null, .int (iN 0), .int (iN 0)])) : Met l yX0_init wsX0_init ({ frames := 1, cells := 3, slots := 24, locals := 12 }) (PcB G w (3 + 4 * i) [.ref (gad G (19 + 4 * i))]) (QB G (3 + 4 * i + 3) (fun w1 => (∀ k : Nat, k ≠ (19 + 4 * i) → k ≠ (19 + 4 * i + 1) → k ≠ (19 + 4 * i + 2) → k ≠ (19 + 4 * i + 3) → w1 k = w k) ∧ w1 (19 + 4 * i) = .inr (0, [.ref (gad G (19 + 4 * i + 1)), .ref (gad G (19 + 4 * i + 2)), .ref (gad G (19 + 4 * i + 3)), .int (iN 1), .int (iN (-1))]) ∧ w1 (19 + 4 * i + 1) = .inl (gI G, 8, .inl (aN (fun _ => 0))) ∧ w1 (19 + 4 * i + 2) = .inl (gI G, 8, .inl (aN (fun _ => 0))) ∧ w1 (19 + 4 * i + 3) = .inl (gI G, 8, .inl (aN (fun _ => 0))))) 3 24 (A9 G) := by
  refine Met.ofW (cc := cX0_init) (maxL := 1) (ret := none) (by decide) rfl ?_
  intro p e s m args below meth c s₁ B hml hv
  obtain ⟨rfl, hP, hK⟩ := hv
  have hx := B.exec
  have hb := B.bytes
  have hr := B.returns
  have hts := atoms_spec (ws := wsX0_init) B.pre
  have hown : s.vm.findClass RX0 = some m.cls := findClass_of_methodNamed B.named
  have hlocks := B.notSynchronized
  have hin : meth.name = "<init>" := (name_of_methodNamed B.named B.method).1
  have hS : va_S (A9 G) s.heap s.heap [] := va_S.rf
  have hAA : ∀ q, A9 G q → A9 G q := fun _ h => h
  have hl := lv_entry ([.ref (gad G (19 + 4 * i))]) (n := 1) (Nat.le_of_ble_eq_true rfl)
  rw [lg_entry_eq]
  generalize (lg_sl ([.ref (gad G (19 + 4 * i))]) ++ List.replicate (1 - (lg_sl ([.ref (gad G (19 + 4 * i))])).length) Slot.unset).toArray = ls at hl ⊢
  have hl : lv_has ls 1 [(0, .ref (gad G (19 + 4 * i)))] := hl
  refine lv_aload_n hx hb dX0_init_0 rfl (lv_at hl 0 rfl) ?_
  refine W.objInit hx hb hown (hts (.methodLink RX0 3 objectInit) (by decide +kernel)) (hts (.instanceMethod objectInit) (by decide +kernel)) (hts (.code objectInit ⟨#[0xb1]⟩ 1 none) (by decide +kernel)) rfl (by rw [hml]; exact hl.1) rfl dX0_init_1 (Nat.le_of_ble_eq_true rfl) (Nat.le_of_ble_eq_true rfl) ?_
  refine lv_aload_n hx hb dX0_init_4 rfl (lv_at hl 0 rfl) ?_
  refine n_bipush hx hb dX0_init_5 (by decide) ?_
  refine y_newa (atype := .int) hx hb (hts (.arrayClass .int) (by decide +kernel)) (hK.1.1.2 0 _ rfl).2 hP hK.2.1 hS (y_i0 _ _) (by decide) (N := 8) (by decide) (Nat.le_of_ble_eq_true rfl) (Nat.le_of_ble_eq_true rfl) (Nat.le_of_ble_eq_true rfl) (19 + 4 * i + 1) (by rw [ordK_c (j := 1) hi (by omega)]; omega) dX0_init_7 (fun H hP hS => ?_)
  obtain ⟨w_1, hw_2⟩ : ∃ z : WF, z = va_up w (19 + 4 * i + 1) (.inl (gI G, 8, .inl (aN (fun _ => 0)))) := ⟨_, rfl⟩
  rw [← hw_2] at hP
  have fr_3 : ∀ k : Nat, k ≠ (19 + 4 * i + 1) → w_1 k = w k := fun k h => by rw [hw_2]; exact va_up_ne _ _ h
  have e_4 : w_1 (19 + 4 * i) = .inr (0, [.null, .null, .null, .int (iN 0), .int (iN 0)]) := (fr_3 (19 + 4 * i) (by omega)).trans e0
  have e_5 : w_1 (19 + 4 * i + 1) = .inl (gI G, 8, .inl (aN (fun _ => 0))) := by rw [hw_2]; exact va_up_self _ _ _
  refine y_putF (v := .ref (gad G (19 + 4 * i + 1))) (ty := .array .int) (C := RX0) (T := TX0) (N := 5) hx hb hts (by decide +kernel) tyX0 tyX0_ok nmX0 hown hK hP hS hAA (19 + 4 * i) (by rw [ordK_c0 hi]; omega) e_4 rfl 0 (by decide) (hts (.fieldLink RX0 9 "KeptMoving$Course" "starts" "[I") (by decide +kernel)) (fun _ h9 => h9) rfl hin rfl (by decide +kernel) rfl rfl (Nat.le_of_ble_eq_true rfl) dX0_init_9 (fun H locs hP hS => ?_)
  have hP : PB G (va_up w_1 (19 + 4 * i) (.inr (0, [.ref (gad G (19 + 4 * i + 1)), .null, .null, .int (iN 0), .int (iN 0)]))) _ H := hP
  obtain ⟨w_6, hw_7⟩ : ∃ z : WF, z = va_up w_1 (19 + 4 * i) (.inr (0, [.ref (gad G (19 + 4 * i + 1)), .null, .null, .int (iN 0), .int (iN 0)])) := ⟨_, rfl⟩
  rw [← hw_7] at hP
  have fr_8 : ∀ k : Nat, k ≠ (19 + 4 * i) → w_6 k = w_1 k := fun k h => by rw [hw_7]; exact va_up_ne _ _ h
  have e_9 : w_6 (19 + 4 * i + 1) = .inl (gI G, 8, .inl (aN (fun _ => 0))) := (fr_8 (19 + 4 * i + 1) (by omega)).trans e_5
  have e_10 : w_6 (19 + 4 * i) = .inr (0, [.ref (gad G (19 + 4 * i + 1)), .null, .null, .int (iN 0), .int (iN 0)]) := by rw [hw_7]; exact va_up_self _ _ _
  refine lv_aload_n hx hb dX0_init_12 rfl (lv_at hl 0 rfl) ?_
  refine n_bipush hx hb dX0_init_13 (by decide) ?_
  refine y_newa (atype := .int) hx hb (hts (.arrayClass .int) (by decide +kernel)) (hK.1.1.2 0 _ rfl).2 hP hK.2.1 hS (y_i0 _ _) (by decide) (N := 8) (by decide) (Nat.le_of_ble_eq_true rfl) (Nat.le_of_ble_eq_true rfl) (Nat.le_of_ble_eq_true rfl) (19 + 4 * i + 2) (by rw [ordK_c (j := 2) hi (by omega)]; omega) dX0_init_15 (fun H hP hS => ?_)
  obtain ⟨w_11, hw_12⟩ : ∃ z : WF, z = va_up w_6 (19 + 4 * i + 2) (.inl (gI G, 8, .inl (aN (fun _ => 0)))) := ⟨_, rfl⟩
  rw [← hw_12] at hP
  have fr_13 : ∀ k : Nat, k ≠ (19 + 4 * i + 2) → w_11 k = w_6 k := fun k h => by rw [hw_12]; exact va_up_ne _ _ h
  have e_14 : w_11 (19 + 4 * i + 1) = .inl (gI G, 8, .inl (aN (fun _ => 0))) := (fr_13 (19 + 4 * i + 1) (by omega)).trans e_9
  have e_15 : w_11 (19 + 4 * i) = .inr (0, [.ref (gad G (19 + 4 * i + 1)), .null, .null, .int (iN 0), .int (iN 0)]) := (fr_13 (19 + 4 * i) (by omega)).trans e_10
  have e_16 : w_11 (19 + 4 * i + 2) = .inl (gI G, 8, .inl (aN (fun _ => 0))) := by rw [hw_12]; exact va_up_self _ _ _
  refine y_putF (v := .ref (gad G (19 + 4 * i + 2))) (ty := .array .int) (C := RX0) (T := TX0) (N := 5) hx hb hts (by decide +kernel) tyX0 tyX0_ok nmX0 hown hK hP hS hAA (19 + 4 * i) (by rw [ordK_c0 hi]; omega) e_15 rfl 1 (by decide) (hts (.fieldLink RX0 15 "KeptMoving$Course" "places" "[I") (by decide +kernel)) (fun _ h9 => h9) rfl hin rfl (by decide +kernel) rfl rfl (Nat.le_of_ble_eq_true rfl) dX0_init_17 (fun H locs hP hS => ?_)
  have hP : PB G (va_up w_11 (19 + 4 * i) (.inr (0, [.ref (gad G (19 + 4 * i + 1)), .ref (gad G (19 + 4 * i + 2)), .null, .int (iN 0), .int (iN 0)]))) _ H := hP
  obtain ⟨w_17, hw_18⟩ : ∃ z : WF, z = va_up w_11 (19 + 4 * i) (.inr (0, [.ref (gad G (19 + 4 * i + 1)), .ref (gad G (19 + 4 * i + 2)), .null, .int (iN 0), .int (iN 0)])) := ⟨_, rfl⟩
  rw [← hw_18] at hP
  have fr_19 : ∀ k : Nat, k ≠ (19 + 4 * i) → w_17 k = w_11 k := fun k h => by rw [hw_18]; exact va_up_ne _ _ h
  have e_20 : w_17 (19 + 4 * i + 1) = .inl (gI G, 8, .inl (aN (fun _ => 0))) := (fr_19 (19 + 4 * i + 1) (by omega)).trans e_14
  have e_21 : w_17 (19 + 4 * i + 2) = .inl (gI G, 8, .inl (aN (fun _ => 0))) := (fr_19 (19 + 4 * i + 2) (by omega)).trans e_16
  have e_22 : w_17 (19 + 4 * i) = .inr (0, [.ref (gad G (19 + 4 * i + 1)), .ref (gad G (19 + 4 * i + 2)), .null, .int (iN 0), .int (iN 0)]) := by rw [hw_18]; exact va_up_self _ _ _
  refine lv_aload_n hx hb dX0_init_20 rfl (lv_at hl 0 rfl) ?_
  refine n_bipush hx hb dX0_init_21 (by decide) ?_
  refine y_newa (atype := .int) hx hb (hts (.arrayClass .int) (by decide +kernel)) (hK.1.1.2 0 _ rfl).2 hP hK.2.1 hS (y_i0 _ _) (by decide) (N := 8) (by decide) (Nat.le_of_ble_eq_true rfl) (Nat.le_of_ble_eq_true rfl) (Nat.le_of_ble_eq_true rfl) (19 + 4 * i + 3) (by rw [ordK_c (j := 3) hi (by omega)]; omega) dX0_init_23 (fun H hP hS => ?_)
  obtain ⟨w_23, hw_24⟩ : ∃ z : WF, z = va_up w_17 (19 + 4 * i + 3) (.inl (gI G, 8, .inl (aN (fun _ => 0)))) := ⟨_, rfl⟩
  rw [← hw_24] at hP
  have fr_25 : ∀ k : Nat, k ≠ (19 + 4 * i + 3) → w_23 k = w_17 k := fun k h => by rw [hw_24]; exact va_up_ne _ _ h
  have e_26 : w_23 (19 + 4 * i + 1) = .inl (gI G, 8, .inl (aN (fun _ => 0))) := (fr_25 (19 + 4 * i + 1) (by omega)).trans e_20
  have e_27 : w_23 (19 + 4 * i + 2) = .inl (gI G, 8, .inl (aN (fun _ => 0))) := (fr_25 (19 + 4 * i + 2) (by omega)).trans e_21
  have e_28 : w_23 (19 + 4 * i) = .inr (0, [.ref (gad G (19 + 4 * i + 1)), .ref (gad G (19 + 4 * i + 2)), .null, .int (iN 0), .int (iN 0)]) := (fr_25 (19 + 4 * i) (by omega)).trans e_22
  have e_29 : w_23 (19 + 4 * i + 3) = .inl (gI G, 8, .inl (aN (fun _ => 0))) := by rw [hw_24]; exact va_up_self _ _ _
  refine y_putF (v := .ref (gad G (19 + 4 * i + 3))) (ty := .array .int) (C := RX0) (T := TX0) (N := 5) hx hb hts (by decide +kernel) tyX0 tyX0_ok nmX0 hown hK hP hS hAA (19 + 4 * i) (by rw [ordK_c0 hi]; omega) e_28 rfl 2 (by decide) (hts (.fieldLink RX0 18 "KeptMoving$Course" "speeds" "[I") (by decide +kernel)) (fun _ h9 => h9) rfl hin rfl (by decide +kernel) rfl rfl (Nat.le_of_ble_eq_true rfl) dX0_init_25 (fun H locs hP hS => ?_)
  have hP : PB G (va_up w_23 (19 + 4 * i) (.inr (0, [.ref (gad G (19 + 4 * i + 1)), .ref (gad G (19 + 4 * i + 2)), .ref (gad G (19 + 4 * i + 3)), .int (iN 0), .int (iN 0)]))) _ H := hP
  obtain ⟨w_30, hw_31⟩ : ∃ z : WF, z = va_up w_23 (19 + 4 * i) (.inr (0, [.ref (gad G (19 + 4 * i + 1)), .ref (gad G (19 + 4 * i + 2)), .ref (gad G (19 + 4 * i + 3)), .int (iN 0), .int (iN 0)])) := ⟨_, rfl⟩
  rw [← hw_31] at hP
  have fr_32 : ∀ k : Nat, k ≠ (19 + 4 * i) → w_30 k = w_23 k := fun k h => by rw [hw_31]; exact va_up_ne _ _ h
  have e_33 : w_30 (19 + 4 * i + 1) = .inl (gI G, 8, .inl (aN (fun _ => 0))) := (fr_32 (19 + 4 * i + 1) (by omega)).trans e_26
  have e_34 : w_30 (19 + 4 * i + 2) = .inl (gI G, 8, .inl (aN (fun _ => 0))) := (fr_32 (19 + 4 * i + 2) (by omega)).trans e_27
  have e_35 : w_30 (19 + 4 * i + 3) = .inl (gI G, 8, .inl (aN (fun _ => 0))) := (fr_32 (19 + 4 * i + 3) (by omega)).trans e_29
  have e_36 : w_30 (19 + 4 * i) = .inr (0, [.ref (gad G (19 + 4 * i + 1)), .ref (gad G (19 + 4 * i + 2)), .ref (gad G (19 + 4 * i + 3)), .int (iN 0), .int (iN 0)]) := by rw [hw_31]; exact va_up_self _ _ _
  refine lv_aload_n hx hb dX0_init_28 rfl (lv_at hl 0 rfl) ?_
  refine n_iconst hx hb dX0_init_29 ?_
  refine y_put (v := .int (iN 1)) (ty := .int) (C := RX0) (T := TX0) (N := 5) hx hb hts (by decide +kernel) tyX0 tyX0_ok nmX0 hown hK hP hS hAA (19 + 4 * i) (by rw [ordK_c0 hi]; omega) e_36 rfl 3 (by decide) (hts (.fieldLink RX0 21 "KeptMoving$Course" "pieces" "I") (by decide +kernel)) (fun _ h9 => h9) rfl (by decide +kernel) rfl rfl (Nat.le_of_ble_eq_true rfl) dX0_init_30 (fun H locs hP hS => ?_)
  have hP : PB G (va_up w_30 (19 + 4 * i) (.inr (0, [.ref (gad G (19 + 4 * i + 1)), .ref (gad G (19 + 4 * i + 2)), .ref (gad G (19 + 4 * i + 3)), .int (iN 1), .int (iN 0)]))) _ H := hP
  obtain ⟨w_37, hw_38⟩ : ∃ z : WF, z = va_up w_30 (19 + 4 * i) (.inr (0, [.ref (gad G (19 + 4 * i + 1)), .ref (gad G (19 + 4 * i + 2)), .ref (gad G (19 + 4 * i + 3)), .int (iN 1), .int (iN 0)])) := ⟨_, rfl⟩
  rw [← hw_38] at hP
  have fr_39 : ∀ k : Nat, k ≠ (19 + 4 * i) → w_37 k = w_30 k := fun k h => by rw [hw_38]; exact va_up_ne _ _ h
  have e_40 : w_37 (19 + 4 * i + 1) = .inl (gI G, 8, .inl (aN (fun _ => 0))) := (fr_39 (19 + 4 * i + 1) (by omega)).trans e_33
  have e_41 : w_37 (19 + 4 * i + 2) = .inl (gI G, 8, .inl (aN (fun _ => 0))) := (fr_39 (19 + 4 * i + 2) (by omega)).trans e_34
  have e_42 : w_37 (19 + 4 * i + 3) = .inl (gI G, 8, .inl (aN (fun _ => 0))) := (fr_39 (19 + 4 * i + 3) (by omega)).trans e_35
  have e_43 : w_37 (19 + 4 * i) = .inr (0, [.ref (gad G (19 + 4 * i + 1)), .ref (gad G (19 + 4 * i + 2)), .ref (gad G (19 + 4 * i + 3)), .int (iN 1), .int (iN 0)]) := by rw [hw_38]; exact va_up_self _ _ _
  refine lv_aload_n hx hb dX0_init_33 rfl (lv_at hl 0 rfl) ?_
  refine n_iconst hx hb dX0_init_34 ?_
  refine y_put (v := .int (iN (-1))) (ty := .int) (C := RX0) (T := TX0) (N := 5) hx hb hts (by decide +kernel) tyX0 tyX0_ok nmX0 hown hK hP hS hAA (19 + 4 * i) (by rw [ordK_c0 hi]; omega) e_43 rfl 4 (by decide) (hts (.fieldLink RX0 25 "KeptMoving$Course" "stopped" "I") (by decide +kernel)) (fun _ h9 => h9) rfl (by decide +kernel) rfl rfl (Nat.le_of_ble_eq_true rfl) dX0_init_35 (fun H locs hP hS => ?_)
  have hP : PB G (va_up w_37 (19 + 4 * i) (.inr (0, [.ref (gad G (19 + 4 * i + 1)), .ref (gad G (19 + 4 * i + 2)), .ref (gad G (19 + 4 * i + 3)), .int (iN 1), .int (iN (-1))]))) _ H := hP
  obtain ⟨w_44, hw_45⟩ : ∃ z : WF, z = va_up w_37 (19 + 4 * i) (.inr (0, [.ref (gad G (19 + 4 * i + 1)), .ref (gad G (19 + 4 * i + 2)), .ref (gad G (19 + 4 * i + 3)), .int (iN 1), .int (iN (-1))])) := ⟨_, rfl⟩
  rw [← hw_45] at hP
  have fr_46 : ∀ k : Nat, k ≠ (19 + 4 * i) → w_44 k = w_37 k := fun k h => by rw [hw_45]; exact va_up_ne _ _ h
  have e_47 : w_44 (19 + 4 * i + 1) = .inl (gI G, 8, .inl (aN (fun _ => 0))) := (fr_46 (19 + 4 * i + 1) (by omega)).trans e_40
  have e_48 : w_44 (19 + 4 * i + 2) = .inl (gI G, 8, .inl (aN (fun _ => 0))) := (fr_46 (19 + 4 * i + 2) (by omega)).trans e_41
  have e_49 : w_44 (19 + 4 * i + 3) = .inl (gI G, 8, .inl (aN (fun _ => 0))) := (fr_46 (19 + 4 * i + 3) (by omega)).trans e_42
  have e_50 : w_44 (19 + 4 * i) = .inr (0, [.ref (gad G (19 + 4 * i + 1)), .ref (gad G (19 + 4 * i + 2)), .ref (gad G (19 + 4 * i + 3)), .int (iN 1), .int (iN (-1))]) := by rw [hw_45]; exact va_up_self _ _ _
  refine W.widen (k := 3) (n := 24) (Nat.le_of_ble_eq_true rfl) (Nat.le_of_ble_eq_true rfl) ?_
  exact y_vret hx hb hr hlocks hP hS ⟨(fun k h0 h1 h2 h3 => ((((((((((((((fr_46 k (by omega)).trans (fr_39 k (by omega)))).trans (fr_32 k (by omega)))).trans (fr_25 k (by omega)))).trans (fr_19 k (by omega)))).trans (fr_13 k (by omega)))).trans (fr_8 k (by omega)))).trans (fr_3 k (by omega)))), e_50, e_47, e_48, e_49⟩ dX0_init_38

set_option maxHeartbeats 4000000 in
set_option maxRecDepth 100000 in
theorem c_X3_init (l : Launch) (G : GE) (w : WF) (e0 : w 2 = .inr (2, [.null, .null, .int (iN 0)])) : Met l yX3_init wsX3_init ({ frames := 1, cells := 2, slots := 20, locals := 12 }) (PcB G w 43 [.ref (gad G 2)]) (QB G 45 (fun w1 => (∀ k : Nat, k ≠ 2 → k ≠ 3 → k ≠ 4 → w1 k = w k) ∧ w1 2 = .inr (2, [.ref (gad G 3), .ref (gad G 4), .int (iN 0)]) ∧ w1 3 = .inl (gI G, 10, .inl (aN (fun _ => 0))) ∧ w1 4 = .inl (gI G, 10, .inl (aN (fun _ => 0))))) 2 20 (A9 G) := by
  refine Met.ofW (cc := cX3_init) (maxL := 1) (ret := none) (by decide) rfl ?_
  intro p e s m args below meth c s₁ B hml hv
  obtain ⟨rfl, hP, hK⟩ := hv
  have hx := B.exec
  have hb := B.bytes
  have hr := B.returns
  have hts := atoms_spec (ws := wsX3_init) B.pre
  have hown : s.vm.findClass RX3 = some m.cls := findClass_of_methodNamed B.named
  have hlocks := B.notSynchronized
  have hin : meth.name = "<init>" := (name_of_methodNamed B.named B.method).1
  have hS : va_S (A9 G) s.heap s.heap [] := va_S.rf
  have hAA : ∀ q, A9 G q → A9 G q := fun _ h => h
  have hl := lv_entry ([.ref (gad G 2)]) (n := 1) (Nat.le_of_ble_eq_true rfl)
  rw [lg_entry_eq]
  generalize (lg_sl ([.ref (gad G 2)]) ++ List.replicate (1 - (lg_sl ([.ref (gad G 2)])).length) Slot.unset).toArray = ls at hl ⊢
  have hl : lv_has ls 1 [(0, .ref (gad G 2))] := hl
  refine lv_aload_n hx hb dX3_init_0 rfl (lv_at hl 0 rfl) ?_
  refine W.objInit hx hb hown (hts (.methodLink RX3 3 objectInit) (by decide +kernel)) (hts (.instanceMethod objectInit) (by decide +kernel)) (hts (.code objectInit ⟨#[0xb1]⟩ 1 none) (by decide +kernel)) rfl (by rw [hml]; exact hl.1) rfl dX3_init_1 (Nat.le_of_ble_eq_true rfl) (Nat.le_of_ble_eq_true rfl) ?_
  refine lv_aload_n hx hb dX3_init_4 rfl (lv_at hl 0 rfl) ?_
  refine n_bipush hx hb dX3_init_5 (by decide) ?_
  refine y_newa (atype := .int) hx hb (hts (.arrayClass .int) (by decide +kernel)) (hK.1.1.2 0 _ rfl).2 hP hK.2.1 hS (y_i0 _ _) (by decide) (N := 10) (by decide) (Nat.le_of_ble_eq_true rfl) (Nat.le_of_ble_eq_true rfl) (Nat.le_of_ble_eq_true rfl) 3 (by decide) dX3_init_7 (fun H hP hS => ?_)
  obtain ⟨w_1, hw_2⟩ : ∃ z : WF, z = va_up w 3 (.inl (gI G, 10, .inl (aN (fun _ => 0)))) := ⟨_, rfl⟩
  rw [← hw_2] at hP
  have fr_3 : ∀ k : Nat, k ≠ 3 → w_1 k = w k := fun k h => by rw [hw_2]; exact va_up_ne _ _ h
  have e_4 : w_1 2 = .inr (2, [.null, .null, .int (iN 0)]) := (fr_3 2 (by omega)).trans e0
  have e_5 : w_1 3 = .inl (gI G, 10, .inl (aN (fun _ => 0))) := by rw [hw_2]; exact va_up_self _ _ _
  refine y_putF (v := .ref (gad G 3)) (ty := .array .int) (C := RX3) (T := TX3) (N := 3) hx hb hts (by decide +kernel) tyX3 tyX3_ok nmX3 hown hK hP hS hAA 2 (by decide) e_4 rfl 0 (by decide) (hts (.fieldLink RX3 9 "KeptMoving$Line" "numbers" "[I") (by decide +kernel)) (fun _ h9 => h9) rfl hin rfl (by decide +kernel) rfl rfl (Nat.le_of_ble_eq_true rfl) dX3_init_9 (fun H locs hP hS => ?_)
  have hP : PB G (va_up w_1 2 (.inr (2, [.ref (gad G 3), .null, .int (iN 0)]))) _ H := hP
  obtain ⟨w_6, hw_7⟩ : ∃ z : WF, z = va_up w_1 2 (.inr (2, [.ref (gad G 3), .null, .int (iN 0)])) := ⟨_, rfl⟩
  rw [← hw_7] at hP
  have fr_8 : ∀ k : Nat, k ≠ 2 → w_6 k = w_1 k := fun k h => by rw [hw_7]; exact va_up_ne _ _ h
  have e_9 : w_6 3 = .inl (gI G, 10, .inl (aN (fun _ => 0))) := (fr_8 3 (by omega)).trans e_5
  have e_10 : w_6 2 = .inr (2, [.ref (gad G 3), .null, .int (iN 0)]) := by rw [hw_7]; exact va_up_self _ _ _
  refine lv_aload_n hx hb dX3_init_12 rfl (lv_at hl 0 rfl) ?_
  refine n_bipush hx hb dX3_init_13 (by decide) ?_
  refine y_newa (atype := .int) hx hb (hts (.arrayClass .int) (by decide +kernel)) (hK.1.1.2 0 _ rfl).2 hP hK.2.1 hS (y_i0 _ _) (by decide) (N := 10) (by decide) (Nat.le_of_ble_eq_true rfl) (Nat.le_of_ble_eq_true rfl) (Nat.le_of_ble_eq_true rfl) 4 (by decide) dX3_init_15 (fun H hP hS => ?_)
  obtain ⟨w_11, hw_12⟩ : ∃ z : WF, z = va_up w_6 4 (.inl (gI G, 10, .inl (aN (fun _ => 0)))) := ⟨_, rfl⟩
  rw [← hw_12] at hP
  have fr_13 : ∀ k : Nat, k ≠ 4 → w_11 k = w_6 k := fun k h => by rw [hw_12]; exact va_up_ne _ _ h
  have e_14 : w_11 3 = .inl (gI G, 10, .inl (aN (fun _ => 0))) := (fr_13 3 (by omega)).trans e_9
  have e_15 : w_11 2 = .inr (2, [.ref (gad G 3), .null, .int (iN 0)]) := (fr_13 2 (by omega)).trans e_10
  have e_16 : w_11 4 = .inl (gI G, 10, .inl (aN (fun _ => 0))) := by rw [hw_12]; exact va_up_self _ _ _
  refine y_putF (v := .ref (gad G 4)) (ty := .array .int) (C := RX3) (T := TX3) (N := 3) hx hb hts (by decide +kernel) tyX3 tyX3_ok nmX3 hown hK hP hS hAA 2 (by decide) e_15 rfl 1 (by decide) (hts (.fieldLink RX3 15 "KeptMoving$Line" "uppers" "[I") (by decide +kernel)) (fun _ h9 => h9) rfl hin rfl (by decide +kernel) rfl rfl (Nat.le_of_ble_eq_true rfl) dX3_init_17 (fun H locs hP hS => ?_)
  have hP : PB G (va_up w_11 2 (.inr (2, [.ref (gad G 3), .ref (gad G 4), .int (iN 0)]))) _ H := hP
  obtain ⟨w_17, hw_18⟩ : ∃ z : WF, z = va_up w_11 2 (.inr (2, [.ref (gad G 3), .ref (gad G 4), .int (iN 0)])) := ⟨_, rfl⟩
  rw [← hw_18] at hP
  have fr_19 : ∀ k : Nat, k ≠ 2 → w_17 k = w_11 k := fun k h => by rw [hw_18]; exact va_up_ne _ _ h
  have e_20 : w_17 3 = .inl (gI G, 10, .inl (aN (fun _ => 0))) := (fr_19 3 (by omega)).trans e_14
  have e_21 : w_17 4 = .inl (gI G, 10, .inl (aN (fun _ => 0))) := (fr_19 4 (by omega)).trans e_16
  have e_22 : w_17 2 = .inr (2, [.ref (gad G 3), .ref (gad G 4), .int (iN 0)]) := by rw [hw_18]; exact va_up_self _ _ _
  refine W.widen (k := 2) (n := 20) (Nat.le_of_ble_eq_true rfl) (Nat.le_of_ble_eq_true rfl) ?_
  exact y_vret hx hb hr hlocks hP hS ⟨(fun k h0 h1 h2 => ((((((fr_19 k (by omega)).trans (fr_13 k (by omega)))).trans (fr_8 k (by omega)))).trans (fr_3 k (by omega)))), e_22, e_20, e_21⟩ dX3_init_20

set_option maxHeartbeats 4000000 in
set_option maxRecDepth 100000 in
theorem c_X5_init (l : Launch) (G : GE) (w : WF) (e0 : w 6 = .inr (4, [.null, .null, .null, .int (iN 0)])) : Met l yX5_init wsX5_init ({ frames := 1, cells := 3, slots := 30, locals := 12 }) (PcB G w 47 [.ref (gad G 6)]) (QB G 50 (fun w1 => (∀ k : Nat, k ≠ 6 → k ≠ 7 → k ≠ 8 → k ≠ 9 → w1 k = w k) ∧ w1 6 = .inr (4, [.ref (gad G 7), .ref (gad G 8), .ref (gad G 9), .int (iN 0)]) ∧ w1 7 = .inl (gZ G, 10, .inl (aN (fun _ => 0))) ∧ w1 8 = .inl (gI G, 10, .inl (aN (fun _ => 0))) ∧ w1 9 = .inl (gI G, 10, .inl (aN (fun _ => 0))))) 3 30 (A9 G) := by
  refine Met.ofW (cc := cX5_init) (maxL := 1) (ret := none) (by decide) rfl ?_
  intro p e s m args below meth c s₁ B hml hv
  obtain ⟨rfl, hP, hK⟩ := hv
  have hx := B.exec
  have hb := B.bytes
  have hr := B.returns
  have hts := atoms_spec (ws := wsX5_init) B.pre
  have hown : s.vm.findClass RX5 = some m.cls := findClass_of_methodNamed B.named
  have hlocks := B.notSynchronized
  have hin : meth.name = "<init>" := (name_of_methodNamed B.named B.method).1
  have hS : va_S (A9 G) s.heap s.heap [] := va_S.rf
  have hAA : ∀ q, A9 G q → A9 G q := fun _ h => h
  have hl := lv_entry ([.ref (gad G 6)]) (n := 1) (Nat.le_of_ble_eq_true rfl)
  rw [lg_entry_eq]
  generalize (lg_sl ([.ref (gad G 6)]) ++ List.replicate (1 - (lg_sl ([.ref (gad G 6)])).length) Slot.unset).toArray = ls at hl ⊢
  have hl : lv_has ls 1 [(0, .ref (gad G 6))] := hl
  refine lv_aload_n hx hb dX5_init_0 rfl (lv_at hl 0 rfl) ?_
  refine W.objInit hx hb hown (hts (.methodLink RX5 3 objectInit) (by decide +kernel)) (hts (.instanceMethod objectInit) (by decide +kernel)) (hts (.code objectInit ⟨#[0xb1]⟩ 1 none) (by decide +kernel)) rfl (by rw [hml]; exact hl.1) rfl dX5_init_1 (Nat.le_of_ble_eq_true rfl) (Nat.le_of_ble_eq_true rfl) ?_
  refine lv_aload_n hx hb dX5_init_4 rfl (lv_at hl 0 rfl) ?_
  refine n_bipush hx hb dX5_init_5 (by decide) ?_
  refine y_newa (atype := .boolean) hx hb (hts (.arrayClass .boolean) (by decide +kernel)) (hK.1.1.2 2 _ rfl).2 hP hK.2.1 hS (y_z0 _ _) (by decide) (N := 10) (by decide) (Nat.le_of_ble_eq_true rfl) (Nat.le_of_ble_eq_true rfl) (Nat.le_of_ble_eq_true rfl) 7 (by decide) dX5_init_7 (fun H hP hS => ?_)
  obtain ⟨w_1, hw_2⟩ : ∃ z : WF, z = va_up w 7 (.inl (gZ G, 10, .inl (aN (fun _ => 0)))) := ⟨_, rfl⟩
  rw [← hw_2] at hP
  have fr_3 : ∀ k : Nat, k ≠ 7 → w_1 k = w k := fun k h => by rw [hw_2]; exact va_up_ne _ _ h
  have e_4 : w_1 6 = .inr (4, [.null, .null, .null, .int (iN 0)]) := (fr_3 6 (by omega)).trans e0
  have e_5 : w_1 7 = .inl (gZ G, 10, .inl (aN (fun _ => 0))) := by rw [hw_2]; exact va_up_self _ _ _
  refine y_putF (v := .ref (gad G 7)) (ty := .array .boolean) (C := RX5) (T := TX5) (N := 4) hx hb hts (by decide +kernel) tyX5 tyX5_ok nmX5 hown hK hP hS hAA 6 (by decide) e_4 rfl 0 (by decide) (hts (.fieldLink RX5 9 "KeptMoving$Scene" "isThere" "[Z") (by decide +kernel)) (fun _ h9 => h9) rfl hin rfl (by decide +kernel) rfl rfl (Nat.le_of_ble_eq_true rfl) dX5_init_9 (fun H locs hP hS => ?_)
  have hP : PB G (va_up w_1 6 (.inr (4, [.ref (gad G 7), .null, .null, .int (iN 0)]))) _ H := hP
  obtain ⟨w_6, hw_7⟩ : ∃ z : WF, z = va_up w_1 6 (.inr (4, [.ref (gad G 7), .null, .null, .int (iN 0)])) := ⟨_, rfl⟩
  rw [← hw_7] at hP
  have fr_8 : ∀ k : Nat, k ≠ 6 → w_6 k = w_1 k := fun k h => by rw [hw_7]; exact va_up_ne _ _ h
  have e_9 : w_6 7 = .inl (gZ G, 10, .inl (aN (fun _ => 0))) := (fr_8 7 (by omega)).trans e_5
  have e_10 : w_6 6 = .inr (4, [.ref (gad G 7), .null, .null, .int (iN 0)]) := by rw [hw_7]; exact va_up_self _ _ _
  refine lv_aload_n hx hb dX5_init_12 rfl (lv_at hl 0 rfl) ?_
  refine n_bipush hx hb dX5_init_13 (by decide) ?_
  refine y_newa (atype := .int) hx hb (hts (.arrayClass .int) (by decide +kernel)) (hK.1.1.2 0 _ rfl).2 hP hK.2.1 hS (y_i0 _ _) (by decide) (N := 10) (by decide) (Nat.le_of_ble_eq_true rfl) (Nat.le_of_ble_eq_true rfl) (Nat.le_of_ble_eq_true rfl) 8 (by decide) dX5_init_15 (fun H hP hS => ?_)
  obtain ⟨w_11, hw_12⟩ : ∃ z : WF, z = va_up w_6 8 (.inl (gI G, 10, .inl (aN (fun _ => 0)))) := ⟨_, rfl⟩
  rw [← hw_12] at hP
  have fr_13 : ∀ k : Nat, k ≠ 8 → w_11 k = w_6 k := fun k h => by rw [hw_12]; exact va_up_ne _ _ h
  have e_14 : w_11 7 = .inl (gZ G, 10, .inl (aN (fun _ => 0))) := (fr_13 7 (by omega)).trans e_9
  have e_15 : w_11 6 = .inr (4, [.ref (gad G 7), .null, .null, .int (iN 0)]) := (fr_13 6 (by omega)).trans e_10
  have e_16 : w_11 8 = .inl (gI G, 10, .inl (aN (fun _ => 0))) := by rw [hw_12]; exact va_up_self _ _ _
  refine y_putF (v := .ref (gad G 8)) (ty := .array .int) (C := RX5) (T := TX5) (N := 4) hx hb hts (by decide +kernel) tyX5 tyX5_ok nmX5 hown hK hP hS hAA 6 (by decide) e_15 rfl 1 (by decide) (hts (.fieldLink RX5 15 "KeptMoving$Scene" "places" "[I") (by decide +kernel)) (fun _ h9 => h9) rfl hin rfl (by decide +kernel) rfl rfl (Nat.le_of_ble_eq_true rfl) dX5_init_17 (fun H locs hP hS => ?_)
  have hP : PB G (va_up w_11 6 (.inr (4, [.ref (gad G 7), .ref (gad G 8), .null, .int (iN 0)]))) _ H := hP
  obtain ⟨w_17, hw_18⟩ : ∃ z : WF, z = va_up w_11 6 (.inr (4, [.ref (gad G 7), .ref (gad G 8), .null, .int (iN 0)])) := ⟨_, rfl⟩
  rw [← hw_18] at hP
  have fr_19 : ∀ k : Nat, k ≠ 6 → w_17 k = w_11 k := fun k h => by rw [hw_18]; exact va_up_ne _ _ h
  have e_20 : w_17 7 = .inl (gZ G, 10, .inl (aN (fun _ => 0))) := (fr_19 7 (by omega)).trans e_14
  have e_21 : w_17 8 = .inl (gI G, 10, .inl (aN (fun _ => 0))) := (fr_19 8 (by omega)).trans e_16
  have e_22 : w_17 6 = .inr (4, [.ref (gad G 7), .ref (gad G 8), .null, .int (iN 0)]) := by rw [hw_18]; exact va_up_self _ _ _
  refine lv_aload_n hx hb dX5_init_20 rfl (lv_at hl 0 rfl) ?_
  refine n_bipush hx hb dX5_init_21 (by decide) ?_
  refine y_newa (atype := .int) hx hb (hts (.arrayClass .int) (by decide +kernel)) (hK.1.1.2 0 _ rfl).2 hP hK.2.1 hS (y_i0 _ _) (by decide) (N := 10) (by decide) (Nat.le_of_ble_eq_true rfl) (Nat.le_of_ble_eq_true rfl) (Nat.le_of_ble_eq_true rfl) 9 (by decide) dX5_init_23 (fun H hP hS => ?_)
  obtain ⟨w_23, hw_24⟩ : ∃ z : WF, z = va_up w_17 9 (.inl (gI G, 10, .inl (aN (fun _ => 0)))) := ⟨_, rfl⟩
  rw [← hw_24] at hP
  have fr_25 : ∀ k : Nat, k ≠ 9 → w_23 k = w_17 k := fun k h => by rw [hw_24]; exact va_up_ne _ _ h
  have e_26 : w_23 7 = .inl (gZ G, 10, .inl (aN (fun _ => 0))) := (fr_25 7 (by omega)).trans e_20
  have e_27 : w_23 8 = .inl (gI G, 10, .inl (aN (fun _ => 0))) := (fr_25 8 (by omega)).trans e_21
  have e_28 : w_23 6 = .inr (4, [.ref (gad G 7), .ref (gad G 8), .null, .int (iN 0)]) := (fr_25 6 (by omega)).trans e_22
  have e_29 : w_23 9 = .inl (gI G, 10, .inl (aN (fun _ => 0))) := by rw [hw_24]; exact va_up_self _ _ _
  refine y_putF (v := .ref (gad G 9)) (ty := .array .int) (C := RX5) (T := TX5) (N := 4) hx hb hts (by decide +kernel) tyX5 tyX5_ok nmX5 hown hK hP hS hAA 6 (by decide) e_28 rfl 2 (by decide) (hts (.fieldLink RX5 19 "KeptMoving$Scene" "speeds" "[I") (by decide +kernel)) (fun _ h9 => h9) rfl hin rfl (by decide +kernel) rfl rfl (Nat.le_of_ble_eq_true rfl) dX5_init_25 (fun H locs hP hS => ?_)
  have hP : PB G (va_up w_23 6 (.inr (4, [.ref (gad G 7), .ref (gad G 8), .ref (gad G 9), .int (iN 0)]))) _ H := hP
  obtain ⟨w_30, hw_31⟩ : ∃ z : WF, z = va_up w_23 6 (.inr (4, [.ref (gad G 7), .ref (gad G 8), .ref (gad G 9), .int (iN 0)])) := ⟨_, rfl⟩
  rw [← hw_31] at hP
  have fr_32 : ∀ k : Nat, k ≠ 6 → w_30 k = w_23 k := fun k h => by rw [hw_31]; exact va_up_ne _ _ h
  have e_33 : w_30 7 = .inl (gZ G, 10, .inl (aN (fun _ => 0))) := (fr_32 7 (by omega)).trans e_26
  have e_34 : w_30 8 = .inl (gI G, 10, .inl (aN (fun _ => 0))) := (fr_32 8 (by omega)).trans e_27
  have e_35 : w_30 9 = .inl (gI G, 10, .inl (aN (fun _ => 0))) := (fr_32 9 (by omega)).trans e_29
  have e_36 : w_30 6 = .inr (4, [.ref (gad G 7), .ref (gad G 8), .ref (gad G 9), .int (iN 0)]) := by rw [hw_31]; exact va_up_self _ _ _
  refine W.widen (k := 3) (n := 30) (Nat.le_of_ble_eq_true rfl) (Nat.le_of_ble_eq_true rfl) ?_
  exact y_vret hx hb hr hlocks hP hS ⟨(fun k h0 h1 h2 h3 => ((((((((((fr_32 k (by omega)).trans (fr_25 k (by omega)))).trans (fr_19 k (by omega)))).trans (fr_13 k (by omega)))).trans (fr_8 k (by omega)))).trans (fr_3 k (by omega)))), e_36, e_33, e_34, e_35⟩ dX5_init_28

set_option maxHeartbeats 4000000 in
set_option maxRecDepth 100000 in
theorem c_X4_init (l : Launch) (G : GE) (w : WF) (e0 : w 10 = .inr (3, [.null, .null, .null, .int (iN 0), .int (iN 0)])) : Met l yX4_init wsX4_init ({ frames := 1, cells := 3, slots := 135, locals := 12 }) (PcB G w 51 [.ref (gad G 10)]) (QB G 54 (fun w1 => (∀ k : Nat, k ≠ 10 → k ≠ 11 → k ≠ 12 → k ≠ 13 → w1 k = w k) ∧ w1 10 = .inr (3, [.ref (gad G 11), .ref (gad G 12), .ref (gad G 13), .int (iN 0), .int (iN 0)]) ∧ w1 11 = .inl (gJ G, 45, .inr (.inl (aJ (fun _ => 0)))) ∧ w1 12 = .inl (gI G, 45, .inl (aN (fun _ => 0))) ∧ w1 13 = .inl (gI G, 45, .inl (aN (fun _ => 0))))) 3 135 (A9 G) := by
  refine Met.ofW (cc := cX4_init) (maxL := 1) (ret := none) (by decide) rfl ?_
  intro p e s m args below meth c s₁ B hml hv
  obtain ⟨rfl, hP, hK⟩ := hv
  have hx := B.exec
  have hb := B.bytes
  have hr := B.returns
  have hts := atoms_spec (ws := wsX4_init) B.pre
  have hown : s.vm.findClass RX4 = some m.cls := findClass_of_methodNamed B.named
  have hlocks := B.notSynchronized
  have hin : meth.name = "<init>" := (name_of_methodNamed B.named B.method).1
  have hS : va_S (A9 G) s.heap s.heap [] := va_S.rf
  have hAA : ∀ q, A9 G q → A9 G q := fun _ h => h
  have hl := lv_entry ([.ref (gad G 10)]) (n := 1) (Nat.le_of_ble_eq_true rfl)
  rw [lg_entry_eq]
  generalize (lg_sl ([.ref (gad G 10)]) ++ List.replicate (1 - (lg_sl ([.ref (gad G 10)])).length) Slot.unset).toArray = ls at hl ⊢
  have hl : lv_has ls 1 [(0, .ref (gad G 10))] := hl
  refine lv_aload_n hx hb dX4_init_0 rfl (lv_at hl 0 rfl) ?_
  refine W.objInit hx hb hown (hts (.methodLink RX4 3 objectInit) (by decide +kernel)) (hts (.instanceMethod objectInit) (by decide +kernel)) (hts (.code objectInit ⟨#[0xb1]⟩ 1 none) (by decide +kernel)) rfl (by rw [hml]; exact hl.1) rfl dX4_init_1 (Nat.le_of_ble_eq_true rfl) (Nat.le_of_ble_eq_true rfl) ?_
  refine lv_aload_n hx hb dX4_init_4 rfl (lv_at hl 0 rfl) ?_
  refine n_bipush hx hb dX4_init_5 (by decide) ?_
  refine y_newa (atype := .long) hx hb (hts (.arrayClass .long) (by decide +kernel)) (hK.1.1.2 1 _ rfl).2 hP hK.2.1 hS (y_j0 _ _) (by decide) (N := 45) (by decide) (Nat.le_of_ble_eq_true rfl) (Nat.le_of_ble_eq_true rfl) (Nat.le_of_ble_eq_true rfl) 11 (by decide) dX4_init_7 (fun H hP hS => ?_)
  obtain ⟨w_1, hw_2⟩ : ∃ z : WF, z = va_up w 11 (.inl (gJ G, 45, .inr (.inl (aJ (fun _ => 0))))) := ⟨_, rfl⟩
  rw [← hw_2] at hP
  have fr_3 : ∀ k : Nat, k ≠ 11 → w_1 k = w k := fun k h => by rw [hw_2]; exact va_up_ne _ _ h
  have e_4 : w_1 10 = .inr (3, [.null, .null, .null, .int (iN 0), .int (iN 0)]) := (fr_3 10 (by omega)).trans e0
  have e_5 : w_1 11 = .inl (gJ G, 45, .inr (.inl (aJ (fun _ => 0)))) := by rw [hw_2]; exact va_up_self _ _ _
  refine y_putF (v := .ref (gad G 11)) (ty := .array .long) (C := RX4) (T := TX4) (N := 5) hx hb hts (by decide +kernel) tyX4 tyX4_ok nmX4 hown hK hP hS hAA 10 (by decide) e_4 rfl 0 (by decide) (hts (.fieldLink RX4 9 "KeptMoving$Meetings" "times" "[J") (by decide +kernel)) (fun _ h9 => h9) rfl hin rfl (by decide +kernel) rfl rfl (Nat.le_of_ble_eq_true rfl) dX4_init_9 (fun H locs hP hS => ?_)
  have hP : PB G (va_up w_1 10 (.inr (3, [.ref (gad G 11), .null, .null, .int (iN 0), .int (iN 0)]))) _ H := hP
  obtain ⟨w_6, hw_7⟩ : ∃ z : WF, z = va_up w_1 10 (.inr (3, [.ref (gad G 11), .null, .null, .int (iN 0), .int (iN 0)])) := ⟨_, rfl⟩
  rw [← hw_7] at hP
  have fr_8 : ∀ k : Nat, k ≠ 10 → w_6 k = w_1 k := fun k h => by rw [hw_7]; exact va_up_ne _ _ h
  have e_9 : w_6 11 = .inl (gJ G, 45, .inr (.inl (aJ (fun _ => 0)))) := (fr_8 11 (by omega)).trans e_5
  have e_10 : w_6 10 = .inr (3, [.ref (gad G 11), .null, .null, .int (iN 0), .int (iN 0)]) := by rw [hw_7]; exact va_up_self _ _ _
  refine lv_aload_n hx hb dX4_init_12 rfl (lv_at hl 0 rfl) ?_
  refine n_bipush hx hb dX4_init_13 (by decide) ?_
  refine y_newa (atype := .int) hx hb (hts (.arrayClass .int) (by decide +kernel)) (hK.1.1.2 0 _ rfl).2 hP hK.2.1 hS (y_i0 _ _) (by decide) (N := 45) (by decide) (Nat.le_of_ble_eq_true rfl) (Nat.le_of_ble_eq_true rfl) (Nat.le_of_ble_eq_true rfl) 12 (by decide) dX4_init_15 (fun H hP hS => ?_)
  obtain ⟨w_11, hw_12⟩ : ∃ z : WF, z = va_up w_6 12 (.inl (gI G, 45, .inl (aN (fun _ => 0)))) := ⟨_, rfl⟩
  rw [← hw_12] at hP
  have fr_13 : ∀ k : Nat, k ≠ 12 → w_11 k = w_6 k := fun k h => by rw [hw_12]; exact va_up_ne _ _ h
  have e_14 : w_11 11 = .inl (gJ G, 45, .inr (.inl (aJ (fun _ => 0)))) := (fr_13 11 (by omega)).trans e_9
  have e_15 : w_11 10 = .inr (3, [.ref (gad G 11), .null, .null, .int (iN 0), .int (iN 0)]) := (fr_13 10 (by omega)).trans e_10
  have e_16 : w_11 12 = .inl (gI G, 45, .inl (aN (fun _ => 0))) := by rw [hw_12]; exact va_up_self _ _ _
  refine y_putF (v := .ref (gad G 12)) (ty := .array .int) (C := RX4) (T := TX4) (N := 5) hx hb hts (by decide +kernel) tyX4 tyX4_ok nmX4 hown hK hP hS hAA 10 (by decide) e_15 rfl 1 (by decide) (hts (.fieldLink RX4 15 "KeptMoving$Meetings" "ones" "[I") (by decide +kernel)) (fun _ h9 => h9) rfl hin rfl (by decide +kernel) rfl rfl (Nat.le_of_ble_eq_true rfl) dX4_init_17 (fun H locs hP hS => ?_)
  have hP : PB G (va_up w_11 10 (.inr (3, [.ref (gad G 11), .ref (gad G 12), .null, .int (iN 0), .int (iN 0)]))) _ H := hP
  obtain ⟨w_17, hw_18⟩ : ∃ z : WF, z = va_up w_11 10 (.inr (3, [.ref (gad G 11), .ref (gad G 12), .null, .int (iN 0), .int (iN 0)])) := ⟨_, rfl⟩
  rw [← hw_18] at hP
  have fr_19 : ∀ k : Nat, k ≠ 10 → w_17 k = w_11 k := fun k h => by rw [hw_18]; exact va_up_ne _ _ h
  have e_20 : w_17 11 = .inl (gJ G, 45, .inr (.inl (aJ (fun _ => 0)))) := (fr_19 11 (by omega)).trans e_14
  have e_21 : w_17 12 = .inl (gI G, 45, .inl (aN (fun _ => 0))) := (fr_19 12 (by omega)).trans e_16
  have e_22 : w_17 10 = .inr (3, [.ref (gad G 11), .ref (gad G 12), .null, .int (iN 0), .int (iN 0)]) := by rw [hw_18]; exact va_up_self _ _ _
  refine lv_aload_n hx hb dX4_init_20 rfl (lv_at hl 0 rfl) ?_
  refine n_bipush hx hb dX4_init_21 (by decide) ?_
  refine y_newa (atype := .int) hx hb (hts (.arrayClass .int) (by decide +kernel)) (hK.1.1.2 0 _ rfl).2 hP hK.2.1 hS (y_i0 _ _) (by decide) (N := 45) (by decide) (Nat.le_of_ble_eq_true rfl) (Nat.le_of_ble_eq_true rfl) (Nat.le_of_ble_eq_true rfl) 13 (by decide) dX4_init_23 (fun H hP hS => ?_)
  obtain ⟨w_23, hw_24⟩ : ∃ z : WF, z = va_up w_17 13 (.inl (gI G, 45, .inl (aN (fun _ => 0)))) := ⟨_, rfl⟩
  rw [← hw_24] at hP
  have fr_25 : ∀ k : Nat, k ≠ 13 → w_23 k = w_17 k := fun k h => by rw [hw_24]; exact va_up_ne _ _ h
  have e_26 : w_23 11 = .inl (gJ G, 45, .inr (.inl (aJ (fun _ => 0)))) := (fr_25 11 (by omega)).trans e_20
  have e_27 : w_23 12 = .inl (gI G, 45, .inl (aN (fun _ => 0))) := (fr_25 12 (by omega)).trans e_21
  have e_28 : w_23 10 = .inr (3, [.ref (gad G 11), .ref (gad G 12), .null, .int (iN 0), .int (iN 0)]) := (fr_25 10 (by omega)).trans e_22
  have e_29 : w_23 13 = .inl (gI G, 45, .inl (aN (fun _ => 0))) := by rw [hw_24]; exact va_up_self _ _ _
  refine y_putF (v := .ref (gad G 13)) (ty := .array .int) (C := RX4) (T := TX4) (N := 5) hx hb hts (by decide +kernel) tyX4 tyX4_ok nmX4 hown hK hP hS hAA 10 (by decide) e_28 rfl 2 (by decide) (hts (.fieldLink RX4 19 "KeptMoving$Meetings" "others" "[I") (by decide +kernel)) (fun _ h9 => h9) rfl hin rfl (by decide +kernel) rfl rfl (Nat.le_of_ble_eq_true rfl) dX4_init_25 (fun H locs hP hS => ?_)
  have hP : PB G (va_up w_23 10 (.inr (3, [.ref (gad G 11), .ref (gad G 12), .ref (gad G 13), .int (iN 0), .int (iN 0)]))) _ H := hP
  obtain ⟨w_30, hw_31⟩ : ∃ z : WF, z = va_up w_23 10 (.inr (3, [.ref (gad G 11), .ref (gad G 12), .ref (gad G 13), .int (iN 0), .int (iN 0)])) := ⟨_, rfl⟩
  rw [← hw_31] at hP
  have fr_32 : ∀ k : Nat, k ≠ 10 → w_30 k = w_23 k := fun k h => by rw [hw_31]; exact va_up_ne _ _ h
  have e_33 : w_30 11 = .inl (gJ G, 45, .inr (.inl (aJ (fun _ => 0)))) := (fr_32 11 (by omega)).trans e_26
  have e_34 : w_30 12 = .inl (gI G, 45, .inl (aN (fun _ => 0))) := (fr_32 12 (by omega)).trans e_27
  have e_35 : w_30 13 = .inl (gI G, 45, .inl (aN (fun _ => 0))) := (fr_32 13 (by omega)).trans e_29
  have e_36 : w_30 10 = .inr (3, [.ref (gad G 11), .ref (gad G 12), .ref (gad G 13), .int (iN 0), .int (iN 0)]) := by rw [hw_31]; exact va_up_self _ _ _
  refine W.widen (k := 3) (n := 135) (Nat.le_of_ble_eq_true rfl) (Nat.le_of_ble_eq_true rfl) ?_
  exact y_vret hx hb hr hlocks hP hS ⟨(fun k h0 h1 h2 h3 => ((((((((((fr_32 k (by omega)).trans (fr_25 k (by omega)))).trans (fr_19 k (by omega)))).trans (fr_13 k (by omega)))).trans (fr_8 k (by omega)))).trans (fr_3 k (by omega)))), e_36, e_33, e_34, e_35⟩ dX4_init_28

set_option maxHeartbeats 4000000 in
set_option maxRecDepth 100000 in
theorem c_X7_init (l : Launch) (G : GE) (w : WF) (e0 : w 14 = .inr (6, [.int (iN 0), .long (jN 0), .long (jN 0), .long (jN 0), .int (iN 0)])) : Met l yX7_init wsX7_init ({ frames := 1, cells := 0, slots := 0, locals := 12 }) (PcB G w 55 [.ref (gad G 14)]) (QB G 55 (fun w1 => (∀ k : Nat, k ≠ 14 → w1 k = w k) ∧ w1 14 = .inr (6, [.int (iN 0), .long (jN 0), .long (jN 0), .long (jN 0), .int (iN 0)]))) 0 0 (A9 G) := by
  refine Met.ofW (cc := cX7_init) (maxL := 1) (ret := none) (by decide) rfl ?_
  intro p e s m args below meth c s₁ B hml hv
  obtain ⟨rfl, hP, hK⟩ := hv
  have hx := B.exec
  have hb := B.bytes
  have hr := B.returns
  have hts := atoms_spec (ws := wsX7_init) B.pre
  have hown : s.vm.findClass RX7 = some m.cls := findClass_of_methodNamed B.named
  have hlocks := B.notSynchronized
  have hin : meth.name = "<init>" := (name_of_methodNamed B.named B.method).1
  have hS : va_S (A9 G) s.heap s.heap [] := va_S.rf
  have hAA : ∀ q, A9 G q → A9 G q := fun _ h => h
  have hl := lv_entry ([.ref (gad G 14)]) (n := 1) (Nat.le_of_ble_eq_true rfl)
  rw [lg_entry_eq]
  generalize (lg_sl ([.ref (gad G 14)]) ++ List.replicate (1 - (lg_sl ([.ref (gad G 14)])).length) Slot.unset).toArray = ls at hl ⊢
  have hl : lv_has ls 1 [(0, .ref (gad G 14))] := hl
  refine lv_aload_n hx hb dX7_init_0 rfl (lv_at hl 0 rfl) ?_
  refine W.objInit hx hb hown (hts (.methodLink RX7 1 objectInit) (by decide +kernel)) (hts (.instanceMethod objectInit) (by decide +kernel)) (hts (.code objectInit ⟨#[0xb1]⟩ 1 none) (by decide +kernel)) rfl (by rw [hml]; exact hl.1) rfl dX7_init_1 (Nat.le_of_ble_eq_true rfl) (Nat.le_of_ble_eq_true rfl) ?_
  refine W.widen (k := 0) (n := 0) (Nat.le_of_ble_eq_true rfl) (Nat.le_of_ble_eq_true rfl) ?_
  exact y_vret hx hb hr hlocks hP hS ⟨(fun k _ => rfl), e0⟩ dX7_init_4

set_option maxHeartbeats 4000000 in
set_option maxRecDepth 100000 in
theorem c_X1_init (l : Launch) (G : GE) (w : WF) (e0 : w 15 = .inr (1, [.null, .null, .int (iN 0)])) : Met l yX1_init wsX1_init ({ frames := 1, cells := 2, slots := 20, locals := 12 }) (PcB G w 56 [.ref (gad G 15)]) (QB G 58 (fun w1 => (∀ k : Nat, k ≠ 15 → k ≠ 16 → k ≠ 17 → w1 k = w k) ∧ w1 15 = .inr (1, [.ref (gad G 16), .ref (gad G 17), .int (iN 0)]) ∧ w1 16 = .inl (gJ G, 10, .inr (.inl (aJ (fun _ => 0)))) ∧ w1 17 = .inl (gJ G, 10, .inr (.inl (aJ (fun _ => 0)))))) 2 20 (A9 G) := by
  refine Met.ofW (cc := cX1_init) (maxL := 1) (ret := none) (by decide) rfl ?_
  intro p e s m args below meth c s₁ B hml hv
  obtain ⟨rfl, hP, hK⟩ := hv
  have hx := B.exec
  have hb := B.bytes
  have hr := B.returns
  have hts := atoms_spec (ws := wsX1_init) B.pre
  have hown : s.vm.findClass RX1 = some m.cls := findClass_of_methodNamed B.named
  have hlocks := B.notSynchronized
  have hin : meth.name = "<init>" := (name_of_methodNamed B.named B.method).1
  have hS : va_S (A9 G) s.heap s.heap [] := va_S.rf
  have hAA : ∀ q, A9 G q → A9 G q := fun _ h => h
  have hl := lv_entry ([.ref (gad G 15)]) (n := 1) (Nat.le_of_ble_eq_true rfl)
  rw [lg_entry_eq]
  generalize (lg_sl ([.ref (gad G 15)]) ++ List.replicate (1 - (lg_sl ([.ref (gad G 15)])).length) Slot.unset).toArray = ls at hl ⊢
  have hl : lv_has ls 1 [(0, .ref (gad G 15))] := hl
  refine lv_aload_n hx hb dX1_init_0 rfl (lv_at hl 0 rfl) ?_
  refine W.objInit hx hb hown (hts (.methodLink RX1 3 objectInit) (by decide +kernel)) (hts (.instanceMethod objectInit) (by decide +kernel)) (hts (.code objectInit ⟨#[0xb1]⟩ 1 none) (by decide +kernel)) rfl (by rw [hml]; exact hl.1) rfl dX1_init_1 (Nat.le_of_ble_eq_true rfl) (Nat.le_of_ble_eq_true rfl) ?_
  refine lv_aload_n hx hb dX1_init_4 rfl (lv_at hl 0 rfl) ?_
  refine n_bipush hx hb dX1_init_5 (by decide) ?_
  refine y_newa (atype := .long) hx hb (hts (.arrayClass .long) (by decide +kernel)) (hK.1.1.2 1 _ rfl).2 hP hK.2.1 hS (y_j0 _ _) (by decide) (N := 10) (by decide) (Nat.le_of_ble_eq_true rfl) (Nat.le_of_ble_eq_true rfl) (Nat.le_of_ble_eq_true rfl) 16 (by decide) dX1_init_7 (fun H hP hS => ?_)
  obtain ⟨w_1, hw_2⟩ : ∃ z : WF, z = va_up w 16 (.inl (gJ G, 10, .inr (.inl (aJ (fun _ => 0))))) := ⟨_, rfl⟩
  rw [← hw_2] at hP
  have fr_3 : ∀ k : Nat, k ≠ 16 → w_1 k = w k := fun k h => by rw [hw_2]; exact va_up_ne _ _ h
  have e_4 : w_1 15 = .inr (1, [.null, .null, .int (iN 0)]) := (fr_3 15 (by omega)).trans e0
  have e_5 : w_1 16 = .inl (gJ G, 10, .inr (.inl (aJ (fun _ => 0)))) := by rw [hw_2]; exact va_up_self _ _ _
  refine y_putF (v := .ref (gad G 16)) (ty := .array .long) (C := RX1) (T := TX1) (N := 3) hx hb hts (by decide +kernel) tyX1 tyX1_ok nmX1 hown hK hP hS hAA 15 (by decide) e_4 rfl 0 (by decide) (hts (.fieldLink RX1 9 "KeptMoving$Crowd" "begins" "[J") (by decide +kernel)) (fun _ h9 => h9) rfl hin rfl (by decide +kernel) rfl rfl (Nat.le_of_ble_eq_true rfl) dX1_init_9 (fun H locs hP hS => ?_)
  have hP : PB G (va_up w_1 15 (.inr (1, [.ref (gad G 16), .null, .int (iN 0)]))) _ H := hP
  obtain ⟨w_6, hw_7⟩ : ∃ z : WF, z = va_up w_1 15 (.inr (1, [.ref (gad G 16), .null, .int (iN 0)])) := ⟨_, rfl⟩
  rw [← hw_7] at hP
  have fr_8 : ∀ k : Nat, k ≠ 15 → w_6 k = w_1 k := fun k h => by rw [hw_7]; exact va_up_ne _ _ h
  have e_9 : w_6 16 = .inl (gJ G, 10, .inr (.inl (aJ (fun _ => 0)))) := (fr_8 16 (by omega)).trans e_5
  have e_10 : w_6 15 = .inr (1, [.ref (gad G 16), .null, .int (iN 0)]) := by rw [hw_7]; exact va_up_self _ _ _
  refine lv_aload_n hx hb dX1_init_12 rfl (lv_at hl 0 rfl) ?_
  refine n_bipush hx hb dX1_init_13 (by decide) ?_
  refine y_newa (atype := .long) hx hb (hts (.arrayClass .long) (by decide +kernel)) (hK.1.1.2 1 _ rfl).2 hP hK.2.1 hS (y_j0 _ _) (by decide) (N := 10) (by decide) (Nat.le_of_ble_eq_true rfl) (Nat.le_of_ble_eq_true rfl) (Nat.le_of_ble_eq_true rfl) 17 (by decide) dX1_init_15 (fun H hP hS => ?_)
  obtain ⟨w_11, hw_12⟩ : ∃ z : WF, z = va_up w_6 17 (.inl (gJ G, 10, .inr (.inl (aJ (fun _ => 0))))) := ⟨_, rfl⟩
  rw [← hw_12] at hP
  have fr_13 : ∀ k : Nat, k ≠ 17 → w_11 k = w_6 k := fun k h => by rw [hw_12]; exact va_up_ne _ _ h
  have e_14 : w_11 16 = .inl (gJ G, 10, .inr (.inl (aJ (fun _ => 0)))) := (fr_13 16 (by omega)).trans e_9
  have e_15 : w_11 15 = .inr (1, [.ref (gad G 16), .null, .int (iN 0)]) := (fr_13 15 (by omega)).trans e_10
  have e_16 : w_11 17 = .inl (gJ G, 10, .inr (.inl (aJ (fun _ => 0)))) := by rw [hw_12]; exact va_up_self _ _ _
  refine y_putF (v := .ref (gad G 17)) (ty := .array .long) (C := RX1) (T := TX1) (N := 3) hx hb hts (by decide +kernel) tyX1 tyX1_ok nmX1 hown hK hP hS hAA 15 (by decide) e_15 rfl 1 (by decide) (hts (.fieldLink RX1 15 "KeptMoving$Crowd" "ends" "[J") (by decide +kernel)) (fun _ h9 => h9) rfl hin rfl (by decide +kernel) rfl rfl (Nat.le_of_ble_eq_true rfl) dX1_init_17 (fun H locs hP hS => ?_)
  have hP : PB G (va_up w_11 15 (.inr (1, [.ref (gad G 16), .ref (gad G 17), .int (iN 0)]))) _ H := hP
  obtain ⟨w_17, hw_18⟩ : ∃ z : WF, z = va_up w_11 15 (.inr (1, [.ref (gad G 16), .ref (gad G 17), .int (iN 0)])) := ⟨_, rfl⟩
  rw [← hw_18] at hP
  have fr_19 : ∀ k : Nat, k ≠ 15 → w_17 k = w_11 k := fun k h => by rw [hw_18]; exact va_up_ne _ _ h
  have e_20 : w_17 16 = .inl (gJ G, 10, .inr (.inl (aJ (fun _ => 0)))) := (fr_19 16 (by omega)).trans e_14
  have e_21 : w_17 17 = .inl (gJ G, 10, .inr (.inl (aJ (fun _ => 0)))) := (fr_19 17 (by omega)).trans e_16
  have e_22 : w_17 15 = .inr (1, [.ref (gad G 16), .ref (gad G 17), .int (iN 0)]) := by rw [hw_18]; exact va_up_self _ _ _
  refine W.widen (k := 2) (n := 20) (Nat.le_of_ble_eq_true rfl) (Nat.le_of_ble_eq_true rfl) ?_
  exact y_vret hx hb hr hlocks hP hS ⟨(fun k h0 h1 h2 => ((((((fr_19 k (by omega)).trans (fr_13 k (by omega)))).trans (fr_8 k (by omega)))).trans (fr_3 k (by omega)))), e_22, e_20, e_21⟩ dX1_init_20

set_option maxHeartbeats 4000000 in
set_option maxRecDepth 100000 in
theorem c_X6_init (l : Launch) (G : GE) (w : WF) (e0 : w 18 = .inr (5, [.int (iN 0), .int (iN 0), .long (jN 0), .long (jN 0), .long (jN 0)])) : Met l yX6_init wsX6_init ({ frames := 1, cells := 0, slots := 0, locals := 12 }) (PcB G w 59 [.ref (gad G 18)]) (QB G 59 (fun w1 => (∀ k : Nat, k ≠ 18 → w1 k = w k) ∧ w1 18 = .inr (5, [.int (iN 0), .int (iN 0), .long (jN 0), .long (jN 0), .long (jN 0)]))) 0 0 (A9 G) := by
  refine Met.ofW (cc := cX6_init) (maxL := 1) (ret := none) (by decide) rfl ?_
  intro p e s m args below meth c s₁ B hml hv
  obtain ⟨rfl, hP, hK⟩ := hv
  have hx := B.exec
  have hb := B.bytes
  have hr := B.returns
  have hts := atoms_spec (ws := wsX6_init) B.pre
  have hown : s.vm.findClass RX6 = some m.cls := findClass_of_methodNamed B.named
  have hlocks := B.notSynchronized
  have hin : meth.name = "<init>" := (name_of_methodNamed B.named B.method).1
  have hS : va_S (A9 G) s.heap s.heap [] := va_S.rf
  have hAA : ∀ q, A9 G q → A9 G q := fun _ h => h
  have hl := lv_entry ([.ref (gad G 18)]) (n := 1) (Nat.le_of_ble_eq_true rfl)
  rw [lg_entry_eq]
  generalize (lg_sl ([.ref (gad G 18)]) ++ List.replicate (1 - (lg_sl ([.ref (gad G 18)])).length) Slot.unset).toArray = ls at hl ⊢
  have hl : lv_has ls 1 [(0, .ref (gad G 18))] := hl
  refine lv_aload_n hx hb dX6_init_0 rfl (lv_at hl 0 rfl) ?_
  refine W.objInit hx hb hown (hts (.methodLink RX6 3 objectInit) (by decide +kernel)) (hts (.instanceMethod objectInit) (by decide +kernel)) (hts (.code objectInit ⟨#[0xb1]⟩ 1 none) (by decide +kernel)) rfl (by rw [hml]; exact hl.1) rfl dX6_init_1 (Nat.le_of_ble_eq_true rfl) (Nat.le_of_ble_eq_true rfl) ?_
  refine W.widen (k := 0) (n := 0) (Nat.le_of_ble_eq_true rfl) (Nat.le_of_ble_eq_true rfl) ?_
  exact y_vret hx hb hr hlocks hP hS ⟨(fun k _ => rfl), e0⟩ dX6_init_4

set_option maxHeartbeats 4000000 in
set_option maxRecDepth 100000 in
theorem c_X9_init (l : Launch) (G : GE) (w : WF) (e0 : w 59 = .inr (8, [.int (iN 0), .int (iN 0), .null, .null, .null, .null, .null, .null, .int (iN 0), .int (iN 0), .null, .null, .null, .null, .null, .int (iN 0), .null, .null, .int (iN 0), .int (iN 0), .int (iN 0), .long (jN 0), .long (jN 0), .int (iN 0), .null, .null])) : Met l yX9_init wsX9_init ({ frames := 1, cells := 15, slots := 8470, locals := 12 }) (PcB G w 60 [.ref (gad G 59)]) (QB G 75 (fun w1 => (∀ k : Nat, k ≠ 59 → k ≠ 60 → k ≠ 61 → k ≠ 62 → k ≠ 63 → k ≠ 64 → k ≠ 65 → k ≠ 66 → k ≠ 67 → k ≠ 68 → k ≠ 69 → k ≠ 70 → k ≠ 71 → k ≠ 72 → k ≠ 73 → k ≠ 74 → w1 k = w k) ∧ w1 59 = .inr (8, [.int (iN 0), .int (iN 0), .ref (gad G 60), .ref (gad G 61), .ref (gad G 62), .ref (gad G 63), .ref (gad G 64), .ref (gad G 65), .int (iN 0), .int (iN 0), .ref (gad G 66), .ref (gad G 67), .ref (gad G 68), .ref (gad G 69), .ref (gad G 70), .int (iN 0), .ref (gad G 71), .ref (gad G 72), .int (iN 0), .int (iN 0), .int (iN 0), .long (jN 0), .long (jN 0), .int (iN 0), .ref (gad G 73), .ref (gad G 74)]) ∧ w1 60 = .inl (gI G, 10, .inl (aN (fun _ => 0))) ∧ w1 61 = .inl (gI G, 10, .inl (aN (fun _ => 0))) ∧ w1 62 = .inl (gI G, 80, .inl (aN (fun _ => 0))) ∧ w1 63 = .inl (gI G, 80, .inl (aN (fun _ => 0))) ∧ w1 64 = .inl (gI G, 80, .inl (aN (fun _ => 0))) ∧ w1 65 = .inl (gI G, 10, .inl (aN (fun _ => 0))) ∧ w1 66 = .inl (gJ G, 800, .inr (.inl (aJ (fun _ => 0)))) ∧ w1 67 = .inl (gJ G, 800, .inr (.inl (aJ (fun _ => 0)))) ∧ w1 68 = .inl (gI G, 800, .inl (aN (fun _ => 0))) ∧ w1 69 = .inl (gI G, 800, .inl (aN (fun _ => 0))) ∧ w1 70 = .inl (gZ G, 800, .inl (aN (fun _ => 0))) ∧ w1 71 = .inl (gJ G, 700, .inr (.inl (aJ (fun _ => 0)))) ∧ w1 72 = .inl (gJ G, 700, .inr (.inl (aJ (fun _ => 0)))) ∧ w1 73 = .inl (gJ G, 1400, .inr (.inl (aJ (fun _ => 0)))) ∧ w1 74 = .inl (gJ G, 1400, .inr (.inl (aJ (fun _ => 0)))))) 15 8470 (A9 G) := by
  refine Met.ofW (cc := cX9_init) (maxL := 1) (ret := none) (by decide) rfl ?_
  intro p e s m args below meth c s₁ B hml hv
  obtain ⟨rfl, hP, hK⟩ := hv
  have hx := B.exec
  have hb := B.bytes
  have hr := B.returns
  have hts := atoms_spec (ws := wsX9_init) B.pre
  have hown : s.vm.findClass RX9 = some m.cls := findClass_of_methodNamed B.named
  have hlocks := B.notSynchronized
  have hin : meth.name = "<init>" := (name_of_methodNamed B.named B.method).1
  have hS : va_S (A9 G) s.heap s.heap [] := va_S.rf
  have hAA : ∀ q, A9 G q → A9 G q := fun _ h => h
  have hl := lv_entry ([.ref (gad G 59)]) (n := 1) (Nat.le_of_ble_eq_true rfl)
  rw [lg_entry_eq]
  generalize (lg_sl ([.ref (gad G 59)]) ++ List.replicate (1 - (lg_sl ([.ref (gad G 59)])).length) Slot.unset).toArray = ls at hl ⊢
  have hl : lv_has ls 1 [(0, .ref (gad G 59))] := hl
  refine lv_aload_n hx hb dX9_init_0 rfl (lv_at hl 0 rfl) ?_
  refine W.objInit hx hb hown (hts (.methodLink RX9 1 objectInit) (by decide +kernel)) (hts (.instanceMethod objectInit) (by decide +kernel)) (hts (.code objectInit ⟨#[0xb1]⟩ 1 none) (by decide +kernel)) rfl (by rw [hml]; exact hl.1) rfl dX9_init_1 (Nat.le_of_ble_eq_true rfl) (Nat.le_of_ble_eq_true rfl) ?_
  refine lv_aload_n hx hb dX9_init_4 rfl (lv_at hl 0 rfl) ?_
  refine n_bipush hx hb dX9_init_5 (by decide) ?_
  refine y_newa (atype := .int) hx hb (hts (.arrayClass .int) (by decide +kernel)) (hK.1.1.2 0 _ rfl).2 hP hK.2.1 hS (y_i0 _ _) (by decide) (N := 10) (by decide) (Nat.le_of_ble_eq_true rfl) (Nat.le_of_ble_eq_true rfl) (Nat.le_of_ble_eq_true rfl) 60 (by decide) dX9_init_7 (fun H hP hS => ?_)
  obtain ⟨w_1, hw_2⟩ : ∃ z : WF, z = va_up w 60 (.inl (gI G, 10, .inl (aN (fun _ => 0)))) := ⟨_, rfl⟩
  rw [← hw_2] at hP
  have fr_3 : ∀ k : Nat, k ≠ 60 → w_1 k = w k := fun k h => by rw [hw_2]; exact va_up_ne _ _ h
  have e_4 : w_1 59 = .inr (8, [.int (iN 0), .int (iN 0), .null, .null, .null, .null, .null, .null, .int (iN 0), .int (iN 0), .null, .null, .null, .null, .null, .int (iN 0), .null, .null, .int (iN 0), .int (iN 0), .int (iN 0), .long (jN 0), .long (jN 0), .int (iN 0), .null, .null]) := (fr_3 59 (by omega)).trans e0
  have e_5 : w_1 60 = .inl (gI G, 10, .inl (aN (fun _ => 0))) := by rw [hw_2]; exact va_up_self _ _ _
  refine y_putF (v := .ref (gad G 60)) (ty := .array .int) (C := RX9) (T := TX9) (N := 26) hx hb hts (by decide +kernel) tyX9 tyX9_ok nmX9 hown hK hP hS hAA 59 (by decide) e_4 rfl 2 (by decide) (hts (.fieldLink RX9 7 "KeptMovingModel" "goneAt" "[I") (by decide +kernel)) (fun _ h9 => h9) rfl hin rfl (by decide +kernel) rfl rfl (Nat.le_of_ble_eq_true rfl) dX9_init_9 (fun H locs hP hS => ?_)
  have hP : PB G (va_up w_1 59 (.inr (8, [.int (iN 0), .int (iN 0), .ref (gad G 60), .null, .null, .null, .null, .null, .int (iN 0), .int (iN 0), .null, .null, .null, .null, .null, .int (iN 0), .null, .null, .int (iN 0), .int (iN 0), .int (iN 0), .long (jN 0), .long (jN 0), .int (iN 0), .null, .null]))) _ H := hP
  obtain ⟨w_6, hw_7⟩ : ∃ z : WF, z = va_up w_1 59 (.inr (8, [.int (iN 0), .int (iN 0), .ref (gad G 60), .null, .null, .null, .null, .null, .int (iN 0), .int (iN 0), .null, .null, .null, .null, .null, .int (iN 0), .null, .null, .int (iN 0), .int (iN 0), .int (iN 0), .long (jN 0), .long (jN 0), .int (iN 0), .null, .null])) := ⟨_, rfl⟩
  rw [← hw_7] at hP
  have fr_8 : ∀ k : Nat, k ≠ 59 → w_6 k = w_1 k := fun k h => by rw [hw_7]; exact va_up_ne _ _ h
  have e_9 : w_6 60 = .inl (gI G, 10, .inl (aN (fun _ => 0))) := (fr_8 60 (by omega)).trans e_5
  have e_10 : w_6 59 = .inr (8, [.int (iN 0), .int (iN 0), .ref (gad G 60), .null, .null, .null, .null, .null, .int (iN 0), .int (iN 0), .null, .null, .null, .null, .null, .int (iN 0), .null, .null, .int (iN 0), .int (iN 0), .int (iN 0), .long (jN 0), .long (jN 0), .int (iN 0), .null, .null]) := by rw [hw_7]; exact va_up_self _ _ _
  refine lv_aload_n hx hb dX9_init_12 rfl (lv_at hl 0 rfl) ?_
  refine n_bipush hx hb dX9_init_13 (by decide) ?_
  refine y_newa (atype := .int) hx hb (hts (.arrayClass .int) (by decide +kernel)) (hK.1.1.2 0 _ rfl).2 hP hK.2.1 hS (y_i0 _ _) (by decide) (N := 10) (by decide) (Nat.le_of_ble_eq_true rfl) (Nat.le_of_ble_eq_true rfl) (Nat.le_of_ble_eq_true rfl) 61 (by decide) dX9_init_15 (fun H hP hS => ?_)
  obtain ⟨w_11, hw_12⟩ : ∃ z : WF, z = va_up w_6 61 (.inl (gI G, 10, .inl (aN (fun _ => 0)))) := ⟨_, rfl⟩
  rw [← hw_12] at hP
  have fr_13 : ∀ k : Nat, k ≠ 61 → w_11 k = w_6 k := fun k h => by rw [hw_12]; exact va_up_ne _ _ h
  have e_14 : w_11 60 = .inl (gI G, 10, .inl (aN (fun _ => 0))) := (fr_13 60 (by omega)).trans e_9
  have e_15 : w_11 59 = .inr (8, [.int (iN 0), .int (iN 0), .ref (gad G 60), .null, .null, .null, .null, .null, .int (iN 0), .int (iN 0), .null, .null, .null, .null, .null, .int (iN 0), .null, .null, .int (iN 0), .int (iN 0), .int (iN 0), .long (jN 0), .long (jN 0), .int (iN 0), .null, .null]) := (fr_13 59 (by omega)).trans e_10
  have e_16 : w_11 61 = .inl (gI G, 10, .inl (aN (fun _ => 0))) := by rw [hw_12]; exact va_up_self _ _ _
  refine y_putF (v := .ref (gad G 61)) (ty := .array .int) (C := RX9) (T := TX9) (N := 26) hx hb hts (by decide +kernel) tyX9 tyX9_ok nmX9 hown hK hP hS hAA 59 (by decide) e_15 rfl 3 (by decide) (hts (.fieldLink RX9 13 "KeptMovingModel" "pieces" "[I") (by decide +kernel)) (fun _ h9 => h9) rfl hin rfl (by decide +kernel) rfl rfl (Nat.le_of_ble_eq_true rfl) dX9_init_17 (fun H locs hP hS => ?_)
  have hP : PB G (va_up w_11 59 (.inr (8, [.int (iN 0), .int (iN 0), .ref (gad G 60), .ref (gad G 61), .null, .null, .null, .null, .int (iN 0), .int (iN 0), .null, .null, .null, .null, .null, .int (iN 0), .null, .null, .int (iN 0), .int (iN 0), .int (iN 0), .long (jN 0), .long (jN 0), .int (iN 0), .null, .null]))) _ H := hP
  obtain ⟨w_17, hw_18⟩ : ∃ z : WF, z = va_up w_11 59 (.inr (8, [.int (iN 0), .int (iN 0), .ref (gad G 60), .ref (gad G 61), .null, .null, .null, .null, .int (iN 0), .int (iN 0), .null, .null, .null, .null, .null, .int (iN 0), .null, .null, .int (iN 0), .int (iN 0), .int (iN 0), .long (jN 0), .long (jN 0), .int (iN 0), .null, .null])) := ⟨_, rfl⟩
  rw [← hw_18] at hP
  have fr_19 : ∀ k : Nat, k ≠ 59 → w_17 k = w_11 k := fun k h => by rw [hw_18]; exact va_up_ne _ _ h
  have e_20 : w_17 60 = .inl (gI G, 10, .inl (aN (fun _ => 0))) := (fr_19 60 (by omega)).trans e_14
  have e_21 : w_17 61 = .inl (gI G, 10, .inl (aN (fun _ => 0))) := (fr_19 61 (by omega)).trans e_16
  have e_22 : w_17 59 = .inr (8, [.int (iN 0), .int (iN 0), .ref (gad G 60), .ref (gad G 61), .null, .null, .null, .null, .int (iN 0), .int (iN 0), .null, .null, .null, .null, .null, .int (iN 0), .null, .null, .int (iN 0), .int (iN 0), .int (iN 0), .long (jN 0), .long (jN 0), .int (iN 0), .null, .null]) := by rw [hw_18]; exact va_up_self _ _ _
  refine lv_aload_n hx hb dX9_init_20 rfl (lv_at hl 0 rfl) ?_
  refine n_bipush hx hb dX9_init_21 (by decide) ?_
  refine y_newa (atype := .int) hx hb (hts (.arrayClass .int) (by decide +kernel)) (hK.1.1.2 0 _ rfl).2 hP hK.2.1 hS (y_i0 _ _) (by decide) (N := 80) (by decide) (Nat.le_of_ble_eq_true rfl) (Nat.le_of_ble_eq_true rfl) (Nat.le_of_ble_eq_true rfl) 62 (by decide) dX9_init_23 (fun H hP hS => ?_)
  obtain ⟨w_23, hw_24⟩ : ∃ z : WF, z = va_up w_17 62 (.inl (gI G, 80, .inl (aN (fun _ => 0)))) := ⟨_, rfl⟩
  rw [← hw_24] at hP
  have fr_25 : ∀ k : Nat, k ≠ 62 → w_23 k = w_17 k := fun k h => by rw [hw_24]; exact va_up_ne _ _ h
  have e_26 : w_23 60 = .inl (gI G, 10, .inl (aN (fun _ => 0))) := (fr_25 60 (by omega)).trans e_20
  have e_27 : w_23 61 = .inl (gI G, 10, .inl (aN (fun _ => 0))) := (fr_25 61 (by omega)).trans e_21
  have e_28 : w_23 59 = .inr (8, [.int (iN 0), .int (iN 0), .ref (gad G 60), .ref (gad G 61), .null, .null, .null, .null, .int (iN 0), .int (iN 0), .null, .null, .null, .null, .null, .int (iN 0), .null, .null, .int (iN 0), .int (iN 0), .int (iN 0), .long (jN 0), .long (jN 0), .int (iN 0), .null, .null]) := (fr_25 59 (by omega)).trans e_22
  have e_29 : w_23 62 = .inl (gI G, 80, .inl (aN (fun _ => 0))) := by rw [hw_24]; exact va_up_self _ _ _
  refine y_putF (v := .ref (gad G 62)) (ty := .array .int) (C := RX9) (T := TX9) (N := 26) hx hb hts (by decide +kernel) tyX9 tyX9_ok nmX9 hown hK hP hS hAA 59 (by decide) e_28 rfl 4 (by decide) (hts (.fieldLink RX9 16 "KeptMovingModel" "begins" "[I") (by decide +kernel)) (fun _ h9 => h9) rfl hin rfl (by decide +kernel) rfl rfl (Nat.le_of_ble_eq_true rfl) dX9_init_25 (fun H locs hP hS => ?_)
  have hP : PB G (va_up w_23 59 (.inr (8, [.int (iN 0), .int (iN 0), .ref (gad G 60), .ref (gad G 61), .ref (gad G 62), .null, .null, .null, .int (iN 0), .int (iN 0), .null, .null, .null, .null, .null, .int (iN 0), .null, .null, .int (iN 0), .int (iN 0), .int (iN 0), .long (jN 0), .long (jN 0), .int (iN 0), .null, .null]))) _ H := hP
  obtain ⟨w_30, hw_31⟩ : ∃ z : WF, z = va_up w_23 59 (.inr (8, [.int (iN 0), .int (iN 0), .ref (gad G 60), .ref (gad G 61), .ref (gad G 62), .null, .null, .null, .int (iN 0), .int (iN 0), .null, .null, .null, .null, .null, .int (iN 0), .null, .null, .int (iN 0), .int (iN 0), .int (iN 0), .long (jN 0), .long (jN 0), .int (iN 0), .null, .null])) := ⟨_, rfl⟩
  rw [← hw_31] at hP
  have fr_32 : ∀ k : Nat, k ≠ 59 → w_30 k = w_23 k := fun k h => by rw [hw_31]; exact va_up_ne _ _ h
  have e_33 : w_30 60 = .inl (gI G, 10, .inl (aN (fun _ => 0))) := (fr_32 60 (by omega)).trans e_26
  have e_34 : w_30 61 = .inl (gI G, 10, .inl (aN (fun _ => 0))) := (fr_32 61 (by omega)).trans e_27
  have e_35 : w_30 62 = .inl (gI G, 80, .inl (aN (fun _ => 0))) := (fr_32 62 (by omega)).trans e_29
  have e_36 : w_30 59 = .inr (8, [.int (iN 0), .int (iN 0), .ref (gad G 60), .ref (gad G 61), .ref (gad G 62), .null, .null, .null, .int (iN 0), .int (iN 0), .null, .null, .null, .null, .null, .int (iN 0), .null, .null, .int (iN 0), .int (iN 0), .int (iN 0), .long (jN 0), .long (jN 0), .int (iN 0), .null, .null]) := by rw [hw_31]; exact va_up_self _ _ _
  refine lv_aload_n hx hb dX9_init_28 rfl (lv_at hl 0 rfl) ?_
  refine n_bipush hx hb dX9_init_29 (by decide) ?_
  refine y_newa (atype := .int) hx hb (hts (.arrayClass .int) (by decide +kernel)) (hK.1.1.2 0 _ rfl).2 hP hK.2.1 hS (y_i0 _ _) (by decide) (N := 80) (by decide) (Nat.le_of_ble_eq_true rfl) (Nat.le_of_ble_eq_true rfl) (Nat.le_of_ble_eq_true rfl) 63 (by decide) dX9_init_31 (fun H hP hS => ?_)
  obtain ⟨w_37, hw_38⟩ : ∃ z : WF, z = va_up w_30 63 (.inl (gI G, 80, .inl (aN (fun _ => 0)))) := ⟨_, rfl⟩
  rw [← hw_38] at hP
  have fr_39 : ∀ k : Nat, k ≠ 63 → w_37 k = w_30 k := fun k h => by rw [hw_38]; exact va_up_ne _ _ h
  have e_40 : w_37 60 = .inl (gI G, 10, .inl (aN (fun _ => 0))) := (fr_39 60 (by omega)).trans e_33
  have e_41 : w_37 61 = .inl (gI G, 10, .inl (aN (fun _ => 0))) := (fr_39 61 (by omega)).trans e_34
  have e_42 : w_37 62 = .inl (gI G, 80, .inl (aN (fun _ => 0))) := (fr_39 62 (by omega)).trans e_35
  have e_43 : w_37 59 = .inr (8, [.int (iN 0), .int (iN 0), .ref (gad G 60), .ref (gad G 61), .ref (gad G 62), .null, .null, .null, .int (iN 0), .int (iN 0), .null, .null, .null, .null, .null, .int (iN 0), .null, .null, .int (iN 0), .int (iN 0), .int (iN 0), .long (jN 0), .long (jN 0), .int (iN 0), .null, .null]) := (fr_39 59 (by omega)).trans e_36
  have e_44 : w_37 63 = .inl (gI G, 80, .inl (aN (fun _ => 0))) := by rw [hw_38]; exact va_up_self _ _ _
  refine y_putF (v := .ref (gad G 63)) (ty := .array .int) (C := RX9) (T := TX9) (N := 26) hx hb hts (by decide +kernel) tyX9 tyX9_ok nmX9 hown hK hP hS hAA 59 (by decide) e_43 rfl 5 (by decide) (hts (.fieldLink RX9 19 "KeptMovingModel" "places" "[I") (by decide +kernel)) (fun _ h9 => h9) rfl hin rfl (by decide +kernel) rfl rfl (Nat.le_of_ble_eq_true rfl) dX9_init_33 (fun H locs hP hS => ?_)
  have hP : PB G (va_up w_37 59 (.inr (8, [.int (iN 0), .int (iN 0), .ref (gad G 60), .ref (gad G 61), .ref (gad G 62), .ref (gad G 63), .null, .null, .int (iN 0), .int (iN 0), .null, .null, .null, .null, .null, .int (iN 0), .null, .null, .int (iN 0), .int (iN 0), .int (iN 0), .long (jN 0), .long (jN 0), .int (iN 0), .null, .null]))) _ H := hP
  obtain ⟨w_45, hw_46⟩ : ∃ z : WF, z = va_up w_37 59 (.inr (8, [.int (iN 0), .int (iN 0), .ref (gad G 60), .ref (gad G 61), .ref (gad G 62), .ref (gad G 63), .null, .null, .int (iN 0), .int (iN 0), .null, .null, .null, .null, .null, .int (iN 0), .null, .null, .int (iN 0), .int (iN 0), .int (iN 0), .long (jN 0), .long (jN 0), .int (iN 0), .null, .null])) := ⟨_, rfl⟩
  rw [← hw_46] at hP
  have fr_47 : ∀ k : Nat, k ≠ 59 → w_45 k = w_37 k := fun k h => by rw [hw_46]; exact va_up_ne _ _ h
  have e_48 : w_45 60 = .inl (gI G, 10, .inl (aN (fun _ => 0))) := (fr_47 60 (by omega)).trans e_40
  have e_49 : w_45 61 = .inl (gI G, 10, .inl (aN (fun _ => 0))) := (fr_47 61 (by omega)).trans e_41
  have e_50 : w_45 62 = .inl (gI G, 80, .inl (aN (fun _ => 0))) := (fr_47 62 (by omega)).trans e_42
  have e_51 : w_45 63 = .inl (gI G, 80, .inl (aN (fun _ => 0))) := (fr_47 63 (by omega)).trans e_44
  have e_52 : w_45 59 = .inr (8, [.int (iN 0), .int (iN 0), .ref (gad G 60), .ref (gad G 61), .ref (gad G 62), .ref (gad G 63), .null, .null, .int (iN 0), .int (iN 0), .null, .null, .null, .null, .null, .int (iN 0), .null, .null, .int (iN 0), .int (iN 0), .int (iN 0), .long (jN 0), .long (jN 0), .int (iN 0), .null, .null]) := by rw [hw_46]; exact va_up_self _ _ _
  refine lv_aload_n hx hb dX9_init_36 rfl (lv_at hl 0 rfl) ?_
  refine n_bipush hx hb dX9_init_37 (by decide) ?_
  refine y_newa (atype := .int) hx hb (hts (.arrayClass .int) (by decide +kernel)) (hK.1.1.2 0 _ rfl).2 hP hK.2.1 hS (y_i0 _ _) (by decide) (N := 80) (by decide) (Nat.le_of_ble_eq_true rfl) (Nat.le_of_ble_eq_true rfl) (Nat.le_of_ble_eq_true rfl) 64 (by decide) dX9_init_39 (fun H hP hS => ?_)
  obtain ⟨w_53, hw_54⟩ : ∃ z : WF, z = va_up w_45 64 (.inl (gI G, 80, .inl (aN (fun _ => 0)))) := ⟨_, rfl⟩
  rw [← hw_54] at hP
  have fr_55 : ∀ k : Nat, k ≠ 64 → w_53 k = w_45 k := fun k h => by rw [hw_54]; exact va_up_ne _ _ h
  have e_56 : w_53 60 = .inl (gI G, 10, .inl (aN (fun _ => 0))) := (fr_55 60 (by omega)).trans e_48
  have e_57 : w_53 61 = .inl (gI G, 10, .inl (aN (fun _ => 0))) := (fr_55 61 (by omega)).trans e_49
  have e_58 : w_53 62 = .inl (gI G, 80, .inl (aN (fun _ => 0))) := (fr_55 62 (by omega)).trans e_50
  have e_59 : w_53 63 = .inl (gI G, 80, .inl (aN (fun _ => 0))) := (fr_55 63 (by omega)).trans e_51
  have e_60 : w_53 59 = .inr (8, [.int (iN 0), .int (iN 0), .ref (gad G 60), .ref (gad G 61), .ref (gad G 62), .ref (gad G 63), .null, .null, .int (iN 0), .int (iN 0), .null, .null, .null, .null, .null, .int (iN 0), .null, .null, .int (iN 0), .int (iN 0), .int (iN 0), .long (jN 0), .long (jN 0), .int (iN 0), .null, .null]) := (fr_55 59 (by omega)).trans e_52
  have e_61 : w_53 64 = .inl (gI G, 80, .inl (aN (fun _ => 0))) := by rw [hw_54]; exact va_up_self _ _ _
  refine y_putF (v := .ref (gad G 64)) (ty := .array .int) (C := RX9) (T := TX9) (N := 26) hx hb hts (by decide +kernel) tyX9 tyX9_ok nmX9 hown hK hP hS hAA 59 (by decide) e_60 rfl 6 (by decide) (hts (.fieldLink RX9 22 "KeptMovingModel" "speeds" "[I") (by decide +kernel)) (fun _ h9 => h9) rfl hin rfl (by decide +kernel) rfl rfl (Nat.le_of_ble_eq_true rfl) dX9_init_41 (fun H locs hP hS => ?_)
  have hP : PB G (va_up w_53 59 (.inr (8, [.int (iN 0), .int (iN 0), .ref (gad G 60), .ref (gad G 61), .ref (gad G 62), .ref (gad G 63), .ref (gad G 64), .null, .int (iN 0), .int (iN 0), .null, .null, .null, .null, .null, .int (iN 0), .null, .null, .int (iN 0), .int (iN 0), .int (iN 0), .long (jN 0), .long (jN 0), .int (iN 0), .null, .null]))) _ H := hP
  obtain ⟨w_62, hw_63⟩ : ∃ z : WF, z = va_up w_53 59 (.inr (8, [.int (iN 0), .int (iN 0), .ref (gad G 60), .ref (gad G 61), .ref (gad G 62), .ref (gad G 63), .ref (gad G 64), .null, .int (iN 0), .int (iN 0), .null, .null, .null, .null, .null, .int (iN 0), .null, .null, .int (iN 0), .int (iN 0), .int (iN 0), .long (jN 0), .long (jN 0), .int (iN 0), .null, .null])) := ⟨_, rfl⟩
  rw [← hw_63] at hP
  have fr_64 : ∀ k : Nat, k ≠ 59 → w_62 k = w_53 k := fun k h => by rw [hw_63]; exact va_up_ne _ _ h
  have e_65 : w_62 60 = .inl (gI G, 10, .inl (aN (fun _ => 0))) := (fr_64 60 (by omega)).trans e_56
  have e_66 : w_62 61 = .inl (gI G, 10, .inl (aN (fun _ => 0))) := (fr_64 61 (by omega)).trans e_57
  have e_67 : w_62 62 = .inl (gI G, 80, .inl (aN (fun _ => 0))) := (fr_64 62 (by omega)).trans e_58
  have e_68 : w_62 63 = .inl (gI G, 80, .inl (aN (fun _ => 0))) := (fr_64 63 (by omega)).trans e_59
  have e_69 : w_62 64 = .inl (gI G, 80, .inl (aN (fun _ => 0))) := (fr_64 64 (by omega)).trans e_61
  have e_70 : w_62 59 = .inr (8, [.int (iN 0), .int (iN 0), .ref (gad G 60), .ref (gad G 61), .ref (gad G 62), .ref (gad G 63), .ref (gad G 64), .null, .int (iN 0), .int (iN 0), .null, .null, .null, .null, .null, .int (iN 0), .null, .null, .int (iN 0), .int (iN 0), .int (iN 0), .long (jN 0), .long (jN 0), .int (iN 0), .null, .null]) := by rw [hw_63]; exact va_up_self _ _ _
  refine lv_aload_n hx hb dX9_init_44 rfl (lv_at hl 0 rfl) ?_
  refine n_bipush hx hb dX9_init_45 (by decide) ?_
  refine y_newa (atype := .int) hx hb (hts (.arrayClass .int) (by decide +kernel)) (hK.1.1.2 0 _ rfl).2 hP hK.2.1 hS (y_i0 _ _) (by decide) (N := 10) (by decide) (Nat.le_of_ble_eq_true rfl) (Nat.le_of_ble_eq_true rfl) (Nat.le_of_ble_eq_true rfl) 65 (by decide) dX9_init_47 (fun H hP hS => ?_)
  obtain ⟨w_71, hw_72⟩ : ∃ z : WF, z = va_up w_62 65 (.inl (gI G, 10, .inl (aN (fun _ => 0)))) := ⟨_, rfl⟩
  rw [← hw_72] at hP
  have fr_73 : ∀ k : Nat, k ≠ 65 → w_71 k = w_62 k := fun k h => by rw [hw_72]; exact va_up_ne _ _ h
  have e_74 : w_71 60 = .inl (gI G, 10, .inl (aN (fun _ => 0))) := (fr_73 60 (by omega)).trans e_65
  have e_75 : w_71 61 = .inl (gI G, 10, .inl (aN (fun _ => 0))) := (fr_73 61 (by omega)).trans e_66
  have e_76 : w_71 62 = .inl (gI G, 80, .inl (aN (fun _ => 0))) := (fr_73 62 (by omega)).trans e_67
  have e_77 : w_71 63 = .inl (gI G, 80, .inl (aN (fun _ => 0))) := (fr_73 63 (by omega)).trans e_68
  have e_78 : w_71 64 = .inl (gI G, 80, .inl (aN (fun _ => 0))) := (fr_73 64 (by omega)).trans e_69
  have e_79 : w_71 59 = .inr (8, [.int (iN 0), .int (iN 0), .ref (gad G 60), .ref (gad G 61), .ref (gad G 62), .ref (gad G 63), .ref (gad G 64), .null, .int (iN 0), .int (iN 0), .null, .null, .null, .null, .null, .int (iN 0), .null, .null, .int (iN 0), .int (iN 0), .int (iN 0), .long (jN 0), .long (jN 0), .int (iN 0), .null, .null]) := (fr_73 59 (by omega)).trans e_70
  have e_80 : w_71 65 = .inl (gI G, 10, .inl (aN (fun _ => 0))) := by rw [hw_72]; exact va_up_self _ _ _
  refine y_putF (v := .ref (gad G 65)) (ty := .array .int) (C := RX9) (T := TX9) (N := 26) hx hb hts (by decide +kernel) tyX9 tyX9_ok nmX9 hown hK hP hS hAA 59 (by decide) e_79 rfl 7 (by decide) (hts (.fieldLink RX9 25 "KeptMovingModel" "row" "[I") (by decide +kernel)) (fun _ h9 => h9) rfl hin rfl (by decide +kernel) rfl rfl (Nat.le_of_ble_eq_true rfl) dX9_init_49 (fun H locs hP hS => ?_)
  have hP : PB G (va_up w_71 59 (.inr (8, [.int (iN 0), .int (iN 0), .ref (gad G 60), .ref (gad G 61), .ref (gad G 62), .ref (gad G 63), .ref (gad G 64), .ref (gad G 65), .int (iN 0), .int (iN 0), .null, .null, .null, .null, .null, .int (iN 0), .null, .null, .int (iN 0), .int (iN 0), .int (iN 0), .long (jN 0), .long (jN 0), .int (iN 0), .null, .null]))) _ H := hP
  obtain ⟨w_81, hw_82⟩ : ∃ z : WF, z = va_up w_71 59 (.inr (8, [.int (iN 0), .int (iN 0), .ref (gad G 60), .ref (gad G 61), .ref (gad G 62), .ref (gad G 63), .ref (gad G 64), .ref (gad G 65), .int (iN 0), .int (iN 0), .null, .null, .null, .null, .null, .int (iN 0), .null, .null, .int (iN 0), .int (iN 0), .int (iN 0), .long (jN 0), .long (jN 0), .int (iN 0), .null, .null])) := ⟨_, rfl⟩
  rw [← hw_82] at hP
  have fr_83 : ∀ k : Nat, k ≠ 59 → w_81 k = w_71 k := fun k h => by rw [hw_82]; exact va_up_ne _ _ h
  have e_84 : w_81 60 = .inl (gI G, 10, .inl (aN (fun _ => 0))) := (fr_83 60 (by omega)).trans e_74
  have e_85 : w_81 61 = .inl (gI G, 10, .inl (aN (fun _ => 0))) := (fr_83 61 (by omega)).trans e_75
  have e_86 : w_81 62 = .inl (gI G, 80, .inl (aN (fun _ => 0))) := (fr_83 62 (by omega)).trans e_76
  have e_87 : w_81 63 = .inl (gI G, 80, .inl (aN (fun _ => 0))) := (fr_83 63 (by omega)).trans e_77
  have e_88 : w_81 64 = .inl (gI G, 80, .inl (aN (fun _ => 0))) := (fr_83 64 (by omega)).trans e_78
  have e_89 : w_81 65 = .inl (gI G, 10, .inl (aN (fun _ => 0))) := (fr_83 65 (by omega)).trans e_80
  have e_90 : w_81 59 = .inr (8, [.int (iN 0), .int (iN 0), .ref (gad G 60), .ref (gad G 61), .ref (gad G 62), .ref (gad G 63), .ref (gad G 64), .ref (gad G 65), .int (iN 0), .int (iN 0), .null, .null, .null, .null, .null, .int (iN 0), .null, .null, .int (iN 0), .int (iN 0), .int (iN 0), .long (jN 0), .long (jN 0), .int (iN 0), .null, .null]) := by rw [hw_82]; exact va_up_self _ _ _
  refine lv_aload_n hx hb dX9_init_52 rfl (lv_at hl 0 rfl) ?_
  refine n_sipush hx hb dX9_init_53 (by decide) ?_
  refine y_newa (atype := .long) hx hb (hts (.arrayClass .long) (by decide +kernel)) (hK.1.1.2 1 _ rfl).2 hP hK.2.1 hS (y_j0 _ _) (by decide) (N := 800) (by decide) (Nat.le_of_ble_eq_true rfl) (Nat.le_of_ble_eq_true rfl) (Nat.le_of_ble_eq_true rfl) 66 (by decide) dX9_init_56 (fun H hP hS => ?_)
  obtain ⟨w_91, hw_92⟩ : ∃ z : WF, z = va_up w_81 66 (.inl (gJ G, 800, .inr (.inl (aJ (fun _ => 0))))) := ⟨_, rfl⟩
  rw [← hw_92] at hP
  have fr_93 : ∀ k : Nat, k ≠ 66 → w_91 k = w_81 k := fun k h => by rw [hw_92]; exact va_up_ne _ _ h
  have e_94 : w_91 60 = .inl (gI G, 10, .inl (aN (fun _ => 0))) := (fr_93 60 (by omega)).trans e_84
  have e_95 : w_91 61 = .inl (gI G, 10, .inl (aN (fun _ => 0))) := (fr_93 61 (by omega)).trans e_85
  have e_96 : w_91 62 = .inl (gI G, 80, .inl (aN (fun _ => 0))) := (fr_93 62 (by omega)).trans e_86
  have e_97 : w_91 63 = .inl (gI G, 80, .inl (aN (fun _ => 0))) := (fr_93 63 (by omega)).trans e_87
  have e_98 : w_91 64 = .inl (gI G, 80, .inl (aN (fun _ => 0))) := (fr_93 64 (by omega)).trans e_88
  have e_99 : w_91 65 = .inl (gI G, 10, .inl (aN (fun _ => 0))) := (fr_93 65 (by omega)).trans e_89
  have e_100 : w_91 59 = .inr (8, [.int (iN 0), .int (iN 0), .ref (gad G 60), .ref (gad G 61), .ref (gad G 62), .ref (gad G 63), .ref (gad G 64), .ref (gad G 65), .int (iN 0), .int (iN 0), .null, .null, .null, .null, .null, .int (iN 0), .null, .null, .int (iN 0), .int (iN 0), .int (iN 0), .long (jN 0), .long (jN 0), .int (iN 0), .null, .null]) := (fr_93 59 (by omega)).trans e_90
  have e_101 : w_91 66 = .inl (gJ G, 800, .inr (.inl (aJ (fun _ => 0)))) := by rw [hw_92]; exact va_up_self _ _ _
  refine y_putF (v := .ref (gad G 66)) (ty := .array .long) (C := RX9) (T := TX9) (N := 26) hx hb hts (by decide +kernel) tyX9 tyX9_ok nmX9 hown hK hP hS hAA 59 (by decide) e_100 rfl 10 (by decide) (hts (.fieldLink RX9 28 "KeptMovingModel" "meetN" "[J") (by decide +kernel)) (fun _ h9 => h9) rfl hin rfl (by decide +kernel) rfl rfl (Nat.le_of_ble_eq_true rfl) dX9_init_58 (fun H locs hP hS => ?_)
  have hP : PB G (va_up w_91 59 (.inr (8, [.int (iN 0), .int (iN 0), .ref (gad G 60), .ref (gad G 61), .ref (gad G 62), .ref (gad G 63), .ref (gad G 64), .ref (gad G 65), .int (iN 0), .int (iN 0), .ref (gad G 66), .null, .null, .null, .null, .int (iN 0), .null, .null, .int (iN 0), .int (iN 0), .int (iN 0), .long (jN 0), .long (jN 0), .int (iN 0), .null, .null]))) _ H := hP
  obtain ⟨w_102, hw_103⟩ : ∃ z : WF, z = va_up w_91 59 (.inr (8, [.int (iN 0), .int (iN 0), .ref (gad G 60), .ref (gad G 61), .ref (gad G 62), .ref (gad G 63), .ref (gad G 64), .ref (gad G 65), .int (iN 0), .int (iN 0), .ref (gad G 66), .null, .null, .null, .null, .int (iN 0), .null, .null, .int (iN 0), .int (iN 0), .int (iN 0), .long (jN 0), .long (jN 0), .int (iN 0), .null, .null])) := ⟨_, rfl⟩
  rw [← hw_103] at hP
  have fr_104 : ∀ k : Nat, k ≠ 59 → w_102 k = w_91 k := fun k h => by rw [hw_103]; exact va_up_ne _ _ h
  have e_105 : w_102 60 = .inl (gI G, 10, .inl (aN (fun _ => 0))) := (fr_104 60 (by omega)).trans e_94
  have e_106 : w_102 61 = .inl (gI G, 10, .inl (aN (fun _ => 0))) := (fr_104 61 (by omega)).trans e_95
  have e_107 : w_102 62 = .inl (gI G, 80, .inl (aN (fun _ => 0))) := (fr_104 62 (by omega)).trans e_96
  have e_108 : w_102 63 = .inl (gI G, 80, .inl (aN (fun _ => 0))) := (fr_104 63 (by omega)).trans e_97
  have e_109 : w_102 64 = .inl (gI G, 80, .inl (aN (fun _ => 0))) := (fr_104 64 (by omega)).trans e_98
  have e_110 : w_102 65 = .inl (gI G, 10, .inl (aN (fun _ => 0))) := (fr_104 65 (by omega)).trans e_99
  have e_111 : w_102 66 = .inl (gJ G, 800, .inr (.inl (aJ (fun _ => 0)))) := (fr_104 66 (by omega)).trans e_101
  have e_112 : w_102 59 = .inr (8, [.int (iN 0), .int (iN 0), .ref (gad G 60), .ref (gad G 61), .ref (gad G 62), .ref (gad G 63), .ref (gad G 64), .ref (gad G 65), .int (iN 0), .int (iN 0), .ref (gad G 66), .null, .null, .null, .null, .int (iN 0), .null, .null, .int (iN 0), .int (iN 0), .int (iN 0), .long (jN 0), .long (jN 0), .int (iN 0), .null, .null]) := by rw [hw_103]; exact va_up_self _ _ _
  refine lv_aload_n hx hb dX9_init_61 rfl (lv_at hl 0 rfl) ?_
  refine n_sipush hx hb dX9_init_62 (by decide) ?_
  refine y_newa (atype := .long) hx hb (hts (.arrayClass .long) (by decide +kernel)) (hK.1.1.2 1 _ rfl).2 hP hK.2.1 hS (y_j0 _ _) (by decide) (N := 800) (by decide) (Nat.le_of_ble_eq_true rfl) (Nat.le_of_ble_eq_true rfl) (Nat.le_of_ble_eq_true rfl) 67 (by decide) dX9_init_65 (fun H hP hS => ?_)
  obtain ⟨w_113, hw_114⟩ : ∃ z : WF, z = va_up w_102 67 (.inl (gJ G, 800, .inr (.inl (aJ (fun _ => 0))))) := ⟨_, rfl⟩
  rw [← hw_114] at hP
  have fr_115 : ∀ k : Nat, k ≠ 67 → w_113 k = w_102 k := fun k h => by rw [hw_114]; exact va_up_ne _ _ h
  have e_116 : w_113 60 = .inl (gI G, 10, .inl (aN (fun _ => 0))) := (fr_115 60 (by omega)).trans e_105
  have e_117 : w_113 61 = .inl (gI G, 10, .inl (aN (fun _ => 0))) := (fr_115 61 (by omega)).trans e_106
  have e_118 : w_113 62 = .inl (gI G, 80, .inl (aN (fun _ => 0))) := (fr_115 62 (by omega)).trans e_107
  have e_119 : w_113 63 = .inl (gI G, 80, .inl (aN (fun _ => 0))) := (fr_115 63 (by omega)).trans e_108
  have e_120 : w_113 64 = .inl (gI G, 80, .inl (aN (fun _ => 0))) := (fr_115 64 (by omega)).trans e_109
  have e_121 : w_113 65 = .inl (gI G, 10, .inl (aN (fun _ => 0))) := (fr_115 65 (by omega)).trans e_110
  have e_122 : w_113 66 = .inl (gJ G, 800, .inr (.inl (aJ (fun _ => 0)))) := (fr_115 66 (by omega)).trans e_111
  have e_123 : w_113 59 = .inr (8, [.int (iN 0), .int (iN 0), .ref (gad G 60), .ref (gad G 61), .ref (gad G 62), .ref (gad G 63), .ref (gad G 64), .ref (gad G 65), .int (iN 0), .int (iN 0), .ref (gad G 66), .null, .null, .null, .null, .int (iN 0), .null, .null, .int (iN 0), .int (iN 0), .int (iN 0), .long (jN 0), .long (jN 0), .int (iN 0), .null, .null]) := (fr_115 59 (by omega)).trans e_112
  have e_124 : w_113 67 = .inl (gJ G, 800, .inr (.inl (aJ (fun _ => 0)))) := by rw [hw_114]; exact va_up_self _ _ _
  refine y_putF (v := .ref (gad G 67)) (ty := .array .long) (C := RX9) (T := TX9) (N := 26) hx hb hts (by decide +kernel) tyX9 tyX9_ok nmX9 hown hK hP hS hAA 59 (by decide) e_123 rfl 11 (by decide) (hts (.fieldLink RX9 32 "KeptMovingModel" "meetD" "[J") (by decide +kernel)) (fun _ h9 => h9) rfl hin rfl (by decide +kernel) rfl rfl (Nat.le_of_ble_eq_true rfl) dX9_init_67 (fun H locs hP hS => ?_)
  have hP : PB G (va_up w_113 59 (.inr (8, [.int (iN 0), .int (iN 0), .ref (gad G 60), .ref (gad G 61), .ref (gad G 62), .ref (gad G 63), .ref (gad G 64), .ref (gad G 65), .int (iN 0), .int (iN 0), .ref (gad G 66), .ref (gad G 67), .null, .null, .null, .int (iN 0), .null, .null, .int (iN 0), .int (iN 0), .int (iN 0), .long (jN 0), .long (jN 0), .int (iN 0), .null, .null]))) _ H := hP
  obtain ⟨w_125, hw_126⟩ : ∃ z : WF, z = va_up w_113 59 (.inr (8, [.int (iN 0), .int (iN 0), .ref (gad G 60), .ref (gad G 61), .ref (gad G 62), .ref (gad G 63), .ref (gad G 64), .ref (gad G 65), .int (iN 0), .int (iN 0), .ref (gad G 66), .ref (gad G 67), .null, .null, .null, .int (iN 0), .null, .null, .int (iN 0), .int (iN 0), .int (iN 0), .long (jN 0), .long (jN 0), .int (iN 0), .null, .null])) := ⟨_, rfl⟩
  rw [← hw_126] at hP
  have fr_127 : ∀ k : Nat, k ≠ 59 → w_125 k = w_113 k := fun k h => by rw [hw_126]; exact va_up_ne _ _ h
  have e_128 : w_125 60 = .inl (gI G, 10, .inl (aN (fun _ => 0))) := (fr_127 60 (by omega)).trans e_116
  have e_129 : w_125 61 = .inl (gI G, 10, .inl (aN (fun _ => 0))) := (fr_127 61 (by omega)).trans e_117
  have e_130 : w_125 62 = .inl (gI G, 80, .inl (aN (fun _ => 0))) := (fr_127 62 (by omega)).trans e_118
  have e_131 : w_125 63 = .inl (gI G, 80, .inl (aN (fun _ => 0))) := (fr_127 63 (by omega)).trans e_119
  have e_132 : w_125 64 = .inl (gI G, 80, .inl (aN (fun _ => 0))) := (fr_127 64 (by omega)).trans e_120
  have e_133 : w_125 65 = .inl (gI G, 10, .inl (aN (fun _ => 0))) := (fr_127 65 (by omega)).trans e_121
  have e_134 : w_125 66 = .inl (gJ G, 800, .inr (.inl (aJ (fun _ => 0)))) := (fr_127 66 (by omega)).trans e_122
  have e_135 : w_125 67 = .inl (gJ G, 800, .inr (.inl (aJ (fun _ => 0)))) := (fr_127 67 (by omega)).trans e_124
  have e_136 : w_125 59 = .inr (8, [.int (iN 0), .int (iN 0), .ref (gad G 60), .ref (gad G 61), .ref (gad G 62), .ref (gad G 63), .ref (gad G 64), .ref (gad G 65), .int (iN 0), .int (iN 0), .ref (gad G 66), .ref (gad G 67), .null, .null, .null, .int (iN 0), .null, .null, .int (iN 0), .int (iN 0), .int (iN 0), .long (jN 0), .long (jN 0), .int (iN 0), .null, .null]) := by rw [hw_126]; exact va_up_self _ _ _
  refine lv_aload_n hx hb dX9_init_70 rfl (lv_at hl 0 rfl) ?_
  refine n_sipush hx hb dX9_init_71 (by decide) ?_
  refine y_newa (atype := .int) hx hb (hts (.arrayClass .int) (by decide +kernel)) (hK.1.1.2 0 _ rfl).2 hP hK.2.1 hS (y_i0 _ _) (by decide) (N := 800) (by decide) (Nat.le_of_ble_eq_true rfl) (Nat.le_of_ble_eq_true rfl) (Nat.le_of_ble_eq_true rfl) 68 (by decide) dX9_init_74 (fun H hP hS => ?_)
  obtain ⟨w_137, hw_138⟩ : ∃ z : WF, z = va_up w_125 68 (.inl (gI G, 800, .inl (aN (fun _ => 0)))) := ⟨_, rfl⟩
  rw [← hw_138] at hP
  have fr_139 : ∀ k : Nat, k ≠ 68 → w_137 k = w_125 k := fun k h => by rw [hw_138]; exact va_up_ne _ _ h
  have e_140 : w_137 60 = .inl (gI G, 10, .inl (aN (fun _ => 0))) := (fr_139 60 (by omega)).trans e_128
  have e_141 : w_137 61 = .inl (gI G, 10, .inl (aN (fun _ => 0))) := (fr_139 61 (by omega)).trans e_129
  have e_142 : w_137 62 = .inl (gI G, 80, .inl (aN (fun _ => 0))) := (fr_139 62 (by omega)).trans e_130
  have e_143 : w_137 63 = .inl (gI G, 80, .inl (aN (fun _ => 0))) := (fr_139 63 (by omega)).trans e_131
  have e_144 : w_137 64 = .inl (gI G, 80, .inl (aN (fun _ => 0))) := (fr_139 64 (by omega)).trans e_132
  have e_145 : w_137 65 = .inl (gI G, 10, .inl (aN (fun _ => 0))) := (fr_139 65 (by omega)).trans e_133
  have e_146 : w_137 66 = .inl (gJ G, 800, .inr (.inl (aJ (fun _ => 0)))) := (fr_139 66 (by omega)).trans e_134
  have e_147 : w_137 67 = .inl (gJ G, 800, .inr (.inl (aJ (fun _ => 0)))) := (fr_139 67 (by omega)).trans e_135
  have e_148 : w_137 59 = .inr (8, [.int (iN 0), .int (iN 0), .ref (gad G 60), .ref (gad G 61), .ref (gad G 62), .ref (gad G 63), .ref (gad G 64), .ref (gad G 65), .int (iN 0), .int (iN 0), .ref (gad G 66), .ref (gad G 67), .null, .null, .null, .int (iN 0), .null, .null, .int (iN 0), .int (iN 0), .int (iN 0), .long (jN 0), .long (jN 0), .int (iN 0), .null, .null]) := (fr_139 59 (by omega)).trans e_136
  have e_149 : w_137 68 = .inl (gI G, 800, .inl (aN (fun _ => 0))) := by rw [hw_138]; exact va_up_self _ _ _
  refine y_putF (v := .ref (gad G 68)) (ty := .array .int) (C := RX9) (T := TX9) (N := 26) hx hb hts (by decide +kernel) tyX9 tyX9_ok nmX9 hown hK hP hS hAA 59 (by decide) e_148 rfl 12 (by decide) (hts (.fieldLink RX9 35 "KeptMovingModel" "meetI" "[I") (by decide +kernel)) (fun _ h9 => h9) rfl hin rfl (by decide +kernel) rfl rfl (Nat.le_of_ble_eq_true rfl) dX9_init_76 (fun H locs hP hS => ?_)
  have hP : PB G (va_up w_137 59 (.inr (8, [.int (iN 0), .int (iN 0), .ref (gad G 60), .ref (gad G 61), .ref (gad G 62), .ref (gad G 63), .ref (gad G 64), .ref (gad G 65), .int (iN 0), .int (iN 0), .ref (gad G 66), .ref (gad G 67), .ref (gad G 68), .null, .null, .int (iN 0), .null, .null, .int (iN 0), .int (iN 0), .int (iN 0), .long (jN 0), .long (jN 0), .int (iN 0), .null, .null]))) _ H := hP
  obtain ⟨w_150, hw_151⟩ : ∃ z : WF, z = va_up w_137 59 (.inr (8, [.int (iN 0), .int (iN 0), .ref (gad G 60), .ref (gad G 61), .ref (gad G 62), .ref (gad G 63), .ref (gad G 64), .ref (gad G 65), .int (iN 0), .int (iN 0), .ref (gad G 66), .ref (gad G 67), .ref (gad G 68), .null, .null, .int (iN 0), .null, .null, .int (iN 0), .int (iN 0), .int (iN 0), .long (jN 0), .long (jN 0), .int (iN 0), .null, .null])) := ⟨_, rfl⟩
  rw [← hw_151] at hP
  have fr_152 : ∀ k : Nat, k ≠ 59 → w_150 k = w_137 k := fun k h => by rw [hw_151]; exact va_up_ne _ _ h
  have e_153 : w_150 60 = .inl (gI G, 10, .inl (aN (fun _ => 0))) := (fr_152 60 (by omega)).trans e_140
  have e_154 : w_150 61 = .inl (gI G, 10, .inl (aN (fun _ => 0))) := (fr_152 61 (by omega)).trans e_141
  have e_155 : w_150 62 = .inl (gI G, 80, .inl (aN (fun _ => 0))) := (fr_152 62 (by omega)).trans e_142
  have e_156 : w_150 63 = .inl (gI G, 80, .inl (aN (fun _ => 0))) := (fr_152 63 (by omega)).trans e_143
  have e_157 : w_150 64 = .inl (gI G, 80, .inl (aN (fun _ => 0))) := (fr_152 64 (by omega)).trans e_144
  have e_158 : w_150 65 = .inl (gI G, 10, .inl (aN (fun _ => 0))) := (fr_152 65 (by omega)).trans e_145
  have e_159 : w_150 66 = .inl (gJ G, 800, .inr (.inl (aJ (fun _ => 0)))) := (fr_152 66 (by omega)).trans e_146
  have e_160 : w_150 67 = .inl (gJ G, 800, .inr (.inl (aJ (fun _ => 0)))) := (fr_152 67 (by omega)).trans e_147
  have e_161 : w_150 68 = .inl (gI G, 800, .inl (aN (fun _ => 0))) := (fr_152 68 (by omega)).trans e_149
  have e_162 : w_150 59 = .inr (8, [.int (iN 0), .int (iN 0), .ref (gad G 60), .ref (gad G 61), .ref (gad G 62), .ref (gad G 63), .ref (gad G 64), .ref (gad G 65), .int (iN 0), .int (iN 0), .ref (gad G 66), .ref (gad G 67), .ref (gad G 68), .null, .null, .int (iN 0), .null, .null, .int (iN 0), .int (iN 0), .int (iN 0), .long (jN 0), .long (jN 0), .int (iN 0), .null, .null]) := by rw [hw_151]; exact va_up_self _ _ _
  refine lv_aload_n hx hb dX9_init_79 rfl (lv_at hl 0 rfl) ?_
  refine n_sipush hx hb dX9_init_80 (by decide) ?_
  refine y_newa (atype := .int) hx hb (hts (.arrayClass .int) (by decide +kernel)) (hK.1.1.2 0 _ rfl).2 hP hK.2.1 hS (y_i0 _ _) (by decide) (N := 800) (by decide) (Nat.le_of_ble_eq_true rfl) (Nat.le_of_ble_eq_true rfl) (Nat.le_of_ble_eq_true rfl) 69 (by decide) dX9_init_83 (fun H hP hS => ?_)
  obtain ⟨w_163, hw_164⟩ : ∃ z : WF, z = va_up w_150 69 (.inl (gI G, 800, .inl (aN (fun _ => 0)))) := ⟨_, rfl⟩
  rw [← hw_164] at hP
  have fr_165 : ∀ k : Nat, k ≠ 69 → w_163 k = w_150 k := fun k h => by rw [hw_164]; exact va_up_ne _ _ h
  have e_166 : w_163 60 = .inl (gI G, 10, .inl (aN (fun _ => 0))) := (fr_165 60 (by omega)).trans e_153
  have e_167 : w_163 61 = .inl (gI G, 10, .inl (aN (fun _ => 0))) := (fr_165 61 (by omega)).trans e_154
  have e_168 : w_163 62 = .inl (gI G, 80, .inl (aN (fun _ => 0))) := (fr_165 62 (by omega)).trans e_155
  have e_169 : w_163 63 = .inl (gI G, 80, .inl (aN (fun _ => 0))) := (fr_165 63 (by omega)).trans e_156
  have e_170 : w_163 64 = .inl (gI G, 80, .inl (aN (fun _ => 0))) := (fr_165 64 (by omega)).trans e_157
  have e_171 : w_163 65 = .inl (gI G, 10, .inl (aN (fun _ => 0))) := (fr_165 65 (by omega)).trans e_158
  have e_172 : w_163 66 = .inl (gJ G, 800, .inr (.inl (aJ (fun _ => 0)))) := (fr_165 66 (by omega)).trans e_159
  have e_173 : w_163 67 = .inl (gJ G, 800, .inr (.inl (aJ (fun _ => 0)))) := (fr_165 67 (by omega)).trans e_160
  have e_174 : w_163 68 = .inl (gI G, 800, .inl (aN (fun _ => 0))) := (fr_165 68 (by omega)).trans e_161
  have e_175 : w_163 59 = .inr (8, [.int (iN 0), .int (iN 0), .ref (gad G 60), .ref (gad G 61), .ref (gad G 62), .ref (gad G 63), .ref (gad G 64), .ref (gad G 65), .int (iN 0), .int (iN 0), .ref (gad G 66), .ref (gad G 67), .ref (gad G 68), .null, .null, .int (iN 0), .null, .null, .int (iN 0), .int (iN 0), .int (iN 0), .long (jN 0), .long (jN 0), .int (iN 0), .null, .null]) := (fr_165 59 (by omega)).trans e_162
  have e_176 : w_163 69 = .inl (gI G, 800, .inl (aN (fun _ => 0))) := by rw [hw_164]; exact va_up_self _ _ _
  refine y_putF (v := .ref (gad G 69)) (ty := .array .int) (C := RX9) (T := TX9) (N := 26) hx hb hts (by decide +kernel) tyX9 tyX9_ok nmX9 hown hK hP hS hAA 59 (by decide) e_175 rfl 13 (by decide) (hts (.fieldLink RX9 38 "KeptMovingModel" "meetJ" "[I") (by decide +kernel)) (fun _ h9 => h9) rfl hin rfl (by decide +kernel) rfl rfl (Nat.le_of_ble_eq_true rfl) dX9_init_85 (fun H locs hP hS => ?_)
  have hP : PB G (va_up w_163 59 (.inr (8, [.int (iN 0), .int (iN 0), .ref (gad G 60), .ref (gad G 61), .ref (gad G 62), .ref (gad G 63), .ref (gad G 64), .ref (gad G 65), .int (iN 0), .int (iN 0), .ref (gad G 66), .ref (gad G 67), .ref (gad G 68), .ref (gad G 69), .null, .int (iN 0), .null, .null, .int (iN 0), .int (iN 0), .int (iN 0), .long (jN 0), .long (jN 0), .int (iN 0), .null, .null]))) _ H := hP
  obtain ⟨w_177, hw_178⟩ : ∃ z : WF, z = va_up w_163 59 (.inr (8, [.int (iN 0), .int (iN 0), .ref (gad G 60), .ref (gad G 61), .ref (gad G 62), .ref (gad G 63), .ref (gad G 64), .ref (gad G 65), .int (iN 0), .int (iN 0), .ref (gad G 66), .ref (gad G 67), .ref (gad G 68), .ref (gad G 69), .null, .int (iN 0), .null, .null, .int (iN 0), .int (iN 0), .int (iN 0), .long (jN 0), .long (jN 0), .int (iN 0), .null, .null])) := ⟨_, rfl⟩
  rw [← hw_178] at hP
  have fr_179 : ∀ k : Nat, k ≠ 59 → w_177 k = w_163 k := fun k h => by rw [hw_178]; exact va_up_ne _ _ h
  have e_180 : w_177 60 = .inl (gI G, 10, .inl (aN (fun _ => 0))) := (fr_179 60 (by omega)).trans e_166
  have e_181 : w_177 61 = .inl (gI G, 10, .inl (aN (fun _ => 0))) := (fr_179 61 (by omega)).trans e_167
  have e_182 : w_177 62 = .inl (gI G, 80, .inl (aN (fun _ => 0))) := (fr_179 62 (by omega)).trans e_168
  have e_183 : w_177 63 = .inl (gI G, 80, .inl (aN (fun _ => 0))) := (fr_179 63 (by omega)).trans e_169
  have e_184 : w_177 64 = .inl (gI G, 80, .inl (aN (fun _ => 0))) := (fr_179 64 (by omega)).trans e_170
  have e_185 : w_177 65 = .inl (gI G, 10, .inl (aN (fun _ => 0))) := (fr_179 65 (by omega)).trans e_171
  have e_186 : w_177 66 = .inl (gJ G, 800, .inr (.inl (aJ (fun _ => 0)))) := (fr_179 66 (by omega)).trans e_172
  have e_187 : w_177 67 = .inl (gJ G, 800, .inr (.inl (aJ (fun _ => 0)))) := (fr_179 67 (by omega)).trans e_173
  have e_188 : w_177 68 = .inl (gI G, 800, .inl (aN (fun _ => 0))) := (fr_179 68 (by omega)).trans e_174
  have e_189 : w_177 69 = .inl (gI G, 800, .inl (aN (fun _ => 0))) := (fr_179 69 (by omega)).trans e_176
  have e_190 : w_177 59 = .inr (8, [.int (iN 0), .int (iN 0), .ref (gad G 60), .ref (gad G 61), .ref (gad G 62), .ref (gad G 63), .ref (gad G 64), .ref (gad G 65), .int (iN 0), .int (iN 0), .ref (gad G 66), .ref (gad G 67), .ref (gad G 68), .ref (gad G 69), .null, .int (iN 0), .null, .null, .int (iN 0), .int (iN 0), .int (iN 0), .long (jN 0), .long (jN 0), .int (iN 0), .null, .null]) := by rw [hw_178]; exact va_up_self _ _ _
  refine lv_aload_n hx hb dX9_init_88 rfl (lv_at hl 0 rfl) ?_
  refine n_sipush hx hb dX9_init_89 (by decide) ?_
  refine y_newa (atype := .boolean) hx hb (hts (.arrayClass .boolean) (by decide +kernel)) (hK.1.1.2 2 _ rfl).2 hP hK.2.1 hS (y_z0 _ _) (by decide) (N := 800) (by decide) (Nat.le_of_ble_eq_true rfl) (Nat.le_of_ble_eq_true rfl) (Nat.le_of_ble_eq_true rfl) 70 (by decide) dX9_init_92 (fun H hP hS => ?_)
  obtain ⟨w_191, hw_192⟩ : ∃ z : WF, z = va_up w_177 70 (.inl (gZ G, 800, .inl (aN (fun _ => 0)))) := ⟨_, rfl⟩
  rw [← hw_192] at hP
  have fr_193 : ∀ k : Nat, k ≠ 70 → w_191 k = w_177 k := fun k h => by rw [hw_192]; exact va_up_ne _ _ h
  have e_194 : w_191 60 = .inl (gI G, 10, .inl (aN (fun _ => 0))) := (fr_193 60 (by omega)).trans e_180
  have e_195 : w_191 61 = .inl (gI G, 10, .inl (aN (fun _ => 0))) := (fr_193 61 (by omega)).trans e_181
  have e_196 : w_191 62 = .inl (gI G, 80, .inl (aN (fun _ => 0))) := (fr_193 62 (by omega)).trans e_182
  have e_197 : w_191 63 = .inl (gI G, 80, .inl (aN (fun _ => 0))) := (fr_193 63 (by omega)).trans e_183
  have e_198 : w_191 64 = .inl (gI G, 80, .inl (aN (fun _ => 0))) := (fr_193 64 (by omega)).trans e_184
  have e_199 : w_191 65 = .inl (gI G, 10, .inl (aN (fun _ => 0))) := (fr_193 65 (by omega)).trans e_185
  have e_200 : w_191 66 = .inl (gJ G, 800, .inr (.inl (aJ (fun _ => 0)))) := (fr_193 66 (by omega)).trans e_186
  have e_201 : w_191 67 = .inl (gJ G, 800, .inr (.inl (aJ (fun _ => 0)))) := (fr_193 67 (by omega)).trans e_187
  have e_202 : w_191 68 = .inl (gI G, 800, .inl (aN (fun _ => 0))) := (fr_193 68 (by omega)).trans e_188
  have e_203 : w_191 69 = .inl (gI G, 800, .inl (aN (fun _ => 0))) := (fr_193 69 (by omega)).trans e_189
  have e_204 : w_191 59 = .inr (8, [.int (iN 0), .int (iN 0), .ref (gad G 60), .ref (gad G 61), .ref (gad G 62), .ref (gad G 63), .ref (gad G 64), .ref (gad G 65), .int (iN 0), .int (iN 0), .ref (gad G 66), .ref (gad G 67), .ref (gad G 68), .ref (gad G 69), .null, .int (iN 0), .null, .null, .int (iN 0), .int (iN 0), .int (iN 0), .long (jN 0), .long (jN 0), .int (iN 0), .null, .null]) := (fr_193 59 (by omega)).trans e_190
  have e_205 : w_191 70 = .inl (gZ G, 800, .inl (aN (fun _ => 0))) := by rw [hw_192]; exact va_up_self _ _ _
  refine y_putF (v := .ref (gad G 70)) (ty := .array .boolean) (C := RX9) (T := TX9) (N := 26) hx hb hts (by decide +kernel) tyX9 tyX9_ok nmX9 hown hK hP hS hAA 59 (by decide) e_204 rfl 14 (by decide) (hts (.fieldLink RX9 41 "KeptMovingModel" "isPass" "[Z") (by decide +kernel)) (fun _ h9 => h9) rfl hin rfl (by decide +kernel) rfl rfl (Nat.le_of_ble_eq_true rfl) dX9_init_94 (fun H locs hP hS => ?_)
  have hP : PB G (va_up w_191 59 (.inr (8, [.int (iN 0), .int (iN 0), .ref (gad G 60), .ref (gad G 61), .ref (gad G 62), .ref (gad G 63), .ref (gad G 64), .ref (gad G 65), .int (iN 0), .int (iN 0), .ref (gad G 66), .ref (gad G 67), .ref (gad G 68), .ref (gad G 69), .ref (gad G 70), .int (iN 0), .null, .null, .int (iN 0), .int (iN 0), .int (iN 0), .long (jN 0), .long (jN 0), .int (iN 0), .null, .null]))) _ H := hP
  obtain ⟨w_206, hw_207⟩ : ∃ z : WF, z = va_up w_191 59 (.inr (8, [.int (iN 0), .int (iN 0), .ref (gad G 60), .ref (gad G 61), .ref (gad G 62), .ref (gad G 63), .ref (gad G 64), .ref (gad G 65), .int (iN 0), .int (iN 0), .ref (gad G 66), .ref (gad G 67), .ref (gad G 68), .ref (gad G 69), .ref (gad G 70), .int (iN 0), .null, .null, .int (iN 0), .int (iN 0), .int (iN 0), .long (jN 0), .long (jN 0), .int (iN 0), .null, .null])) := ⟨_, rfl⟩
  rw [← hw_207] at hP
  have fr_208 : ∀ k : Nat, k ≠ 59 → w_206 k = w_191 k := fun k h => by rw [hw_207]; exact va_up_ne _ _ h
  have e_209 : w_206 60 = .inl (gI G, 10, .inl (aN (fun _ => 0))) := (fr_208 60 (by omega)).trans e_194
  have e_210 : w_206 61 = .inl (gI G, 10, .inl (aN (fun _ => 0))) := (fr_208 61 (by omega)).trans e_195
  have e_211 : w_206 62 = .inl (gI G, 80, .inl (aN (fun _ => 0))) := (fr_208 62 (by omega)).trans e_196
  have e_212 : w_206 63 = .inl (gI G, 80, .inl (aN (fun _ => 0))) := (fr_208 63 (by omega)).trans e_197
  have e_213 : w_206 64 = .inl (gI G, 80, .inl (aN (fun _ => 0))) := (fr_208 64 (by omega)).trans e_198
  have e_214 : w_206 65 = .inl (gI G, 10, .inl (aN (fun _ => 0))) := (fr_208 65 (by omega)).trans e_199
  have e_215 : w_206 66 = .inl (gJ G, 800, .inr (.inl (aJ (fun _ => 0)))) := (fr_208 66 (by omega)).trans e_200
  have e_216 : w_206 67 = .inl (gJ G, 800, .inr (.inl (aJ (fun _ => 0)))) := (fr_208 67 (by omega)).trans e_201
  have e_217 : w_206 68 = .inl (gI G, 800, .inl (aN (fun _ => 0))) := (fr_208 68 (by omega)).trans e_202
  have e_218 : w_206 69 = .inl (gI G, 800, .inl (aN (fun _ => 0))) := (fr_208 69 (by omega)).trans e_203
  have e_219 : w_206 70 = .inl (gZ G, 800, .inl (aN (fun _ => 0))) := (fr_208 70 (by omega)).trans e_205
  have e_220 : w_206 59 = .inr (8, [.int (iN 0), .int (iN 0), .ref (gad G 60), .ref (gad G 61), .ref (gad G 62), .ref (gad G 63), .ref (gad G 64), .ref (gad G 65), .int (iN 0), .int (iN 0), .ref (gad G 66), .ref (gad G 67), .ref (gad G 68), .ref (gad G 69), .ref (gad G 70), .int (iN 0), .null, .null, .int (iN 0), .int (iN 0), .int (iN 0), .long (jN 0), .long (jN 0), .int (iN 0), .null, .null]) := by rw [hw_207]; exact va_up_self _ _ _
  refine lv_aload_n hx hb dX9_init_97 rfl (lv_at hl 0 rfl) ?_
  refine n_sipush hx hb dX9_init_98 (by decide) ?_
  refine y_newa (atype := .long) hx hb (hts (.arrayClass .long) (by decide +kernel)) (hK.1.1.2 1 _ rfl).2 hP hK.2.1 hS (y_j0 _ _) (by decide) (N := 700) (by decide) (Nat.le_of_ble_eq_true rfl) (Nat.le_of_ble_eq_true rfl) (Nat.le_of_ble_eq_true rfl) 71 (by decide) dX9_init_101 (fun H hP hS => ?_)
  obtain ⟨w_221, hw_222⟩ : ∃ z : WF, z = va_up w_206 71 (.inl (gJ G, 700, .inr (.inl (aJ (fun _ => 0))))) := ⟨_, rfl⟩
  rw [← hw_222] at hP
  have fr_223 : ∀ k : Nat, k ≠ 71 → w_221 k = w_206 k := fun k h => by rw [hw_222]; exact va_up_ne _ _ h
  have e_224 : w_221 60 = .inl (gI G, 10, .inl (aN (fun _ => 0))) := (fr_223 60 (by omega)).trans e_209
  have e_225 : w_221 61 = .inl (gI G, 10, .inl (aN (fun _ => 0))) := (fr_223 61 (by omega)).trans e_210
  have e_226 : w_221 62 = .inl (gI G, 80, .inl (aN (fun _ => 0))) := (fr_223 62 (by omega)).trans e_211
  have e_227 : w_221 63 = .inl (gI G, 80, .inl (aN (fun _ => 0))) := (fr_223 63 (by omega)).trans e_212
  have e_228 : w_221 64 = .inl (gI G, 80, .inl (aN (fun _ => 0))) := (fr_223 64 (by omega)).trans e_213
  have e_229 : w_221 65 = .inl (gI G, 10, .inl (aN (fun _ => 0))) := (fr_223 65 (by omega)).trans e_214
  have e_230 : w_221 66 = .inl (gJ G, 800, .inr (.inl (aJ (fun _ => 0)))) := (fr_223 66 (by omega)).trans e_215
  have e_231 : w_221 67 = .inl (gJ G, 800, .inr (.inl (aJ (fun _ => 0)))) := (fr_223 67 (by omega)).trans e_216
  have e_232 : w_221 68 = .inl (gI G, 800, .inl (aN (fun _ => 0))) := (fr_223 68 (by omega)).trans e_217
  have e_233 : w_221 69 = .inl (gI G, 800, .inl (aN (fun _ => 0))) := (fr_223 69 (by omega)).trans e_218
  have e_234 : w_221 70 = .inl (gZ G, 800, .inl (aN (fun _ => 0))) := (fr_223 70 (by omega)).trans e_219
  have e_235 : w_221 59 = .inr (8, [.int (iN 0), .int (iN 0), .ref (gad G 60), .ref (gad G 61), .ref (gad G 62), .ref (gad G 63), .ref (gad G 64), .ref (gad G 65), .int (iN 0), .int (iN 0), .ref (gad G 66), .ref (gad G 67), .ref (gad G 68), .ref (gad G 69), .ref (gad G 70), .int (iN 0), .null, .null, .int (iN 0), .int (iN 0), .int (iN 0), .long (jN 0), .long (jN 0), .int (iN 0), .null, .null]) := (fr_223 59 (by omega)).trans e_220
  have e_236 : w_221 71 = .inl (gJ G, 700, .inr (.inl (aJ (fun _ => 0)))) := by rw [hw_222]; exact va_up_self _ _ _
  refine y_putF (v := .ref (gad G 71)) (ty := .array .long) (C := RX9) (T := TX9) (N := 26) hx hb hts (by decide +kernel) tyX9 tyX9_ok nmX9 hown hK hP hS hAA 59 (by decide) e_235 rfl 16 (by decide) (hts (.fieldLink RX9 45 "KeptMovingModel" "timeN" "[J") (by decide +kernel)) (fun _ h9 => h9) rfl hin rfl (by decide +kernel) rfl rfl (Nat.le_of_ble_eq_true rfl) dX9_init_103 (fun H locs hP hS => ?_)
  have hP : PB G (va_up w_221 59 (.inr (8, [.int (iN 0), .int (iN 0), .ref (gad G 60), .ref (gad G 61), .ref (gad G 62), .ref (gad G 63), .ref (gad G 64), .ref (gad G 65), .int (iN 0), .int (iN 0), .ref (gad G 66), .ref (gad G 67), .ref (gad G 68), .ref (gad G 69), .ref (gad G 70), .int (iN 0), .ref (gad G 71), .null, .int (iN 0), .int (iN 0), .int (iN 0), .long (jN 0), .long (jN 0), .int (iN 0), .null, .null]))) _ H := hP
  obtain ⟨w_237, hw_238⟩ : ∃ z : WF, z = va_up w_221 59 (.inr (8, [.int (iN 0), .int (iN 0), .ref (gad G 60), .ref (gad G 61), .ref (gad G 62), .ref (gad G 63), .ref (gad G 64), .ref (gad G 65), .int (iN 0), .int (iN 0), .ref (gad G 66), .ref (gad G 67), .ref (gad G 68), .ref (gad G 69), .ref (gad G 70), .int (iN 0), .ref (gad G 71), .null, .int (iN 0), .int (iN 0), .int (iN 0), .long (jN 0), .long (jN 0), .int (iN 0), .null, .null])) := ⟨_, rfl⟩
  rw [← hw_238] at hP
  have fr_239 : ∀ k : Nat, k ≠ 59 → w_237 k = w_221 k := fun k h => by rw [hw_238]; exact va_up_ne _ _ h
  have e_240 : w_237 60 = .inl (gI G, 10, .inl (aN (fun _ => 0))) := (fr_239 60 (by omega)).trans e_224
  have e_241 : w_237 61 = .inl (gI G, 10, .inl (aN (fun _ => 0))) := (fr_239 61 (by omega)).trans e_225
  have e_242 : w_237 62 = .inl (gI G, 80, .inl (aN (fun _ => 0))) := (fr_239 62 (by omega)).trans e_226
  have e_243 : w_237 63 = .inl (gI G, 80, .inl (aN (fun _ => 0))) := (fr_239 63 (by omega)).trans e_227
  have e_244 : w_237 64 = .inl (gI G, 80, .inl (aN (fun _ => 0))) := (fr_239 64 (by omega)).trans e_228
  have e_245 : w_237 65 = .inl (gI G, 10, .inl (aN (fun _ => 0))) := (fr_239 65 (by omega)).trans e_229
  have e_246 : w_237 66 = .inl (gJ G, 800, .inr (.inl (aJ (fun _ => 0)))) := (fr_239 66 (by omega)).trans e_230
  have e_247 : w_237 67 = .inl (gJ G, 800, .inr (.inl (aJ (fun _ => 0)))) := (fr_239 67 (by omega)).trans e_231
  have e_248 : w_237 68 = .inl (gI G, 800, .inl (aN (fun _ => 0))) := (fr_239 68 (by omega)).trans e_232
  have e_249 : w_237 69 = .inl (gI G, 800, .inl (aN (fun _ => 0))) := (fr_239 69 (by omega)).trans e_233
  have e_250 : w_237 70 = .inl (gZ G, 800, .inl (aN (fun _ => 0))) := (fr_239 70 (by omega)).trans e_234
  have e_251 : w_237 71 = .inl (gJ G, 700, .inr (.inl (aJ (fun _ => 0)))) := (fr_239 71 (by omega)).trans e_236
  have e_252 : w_237 59 = .inr (8, [.int (iN 0), .int (iN 0), .ref (gad G 60), .ref (gad G 61), .ref (gad G 62), .ref (gad G 63), .ref (gad G 64), .ref (gad G 65), .int (iN 0), .int (iN 0), .ref (gad G 66), .ref (gad G 67), .ref (gad G 68), .ref (gad G 69), .ref (gad G 70), .int (iN 0), .ref (gad G 71), .null, .int (iN 0), .int (iN 0), .int (iN 0), .long (jN 0), .long (jN 0), .int (iN 0), .null, .null]) := by rw [hw_238]; exact va_up_self _ _ _
  refine lv_aload_n hx hb dX9_init_106 rfl (lv_at hl 0 rfl) ?_
  refine n_sipush hx hb dX9_init_107 (by decide) ?_
  refine y_newa (atype := .long) hx hb (hts (.arrayClass .long) (by decide +kernel)) (hK.1.1.2 1 _ rfl).2 hP hK.2.1 hS (y_j0 _ _) (by decide) (N := 700) (by decide) (Nat.le_of_ble_eq_true rfl) (Nat.le_of_ble_eq_true rfl) (Nat.le_of_ble_eq_true rfl) 72 (by decide) dX9_init_110 (fun H hP hS => ?_)
  obtain ⟨w_253, hw_254⟩ : ∃ z : WF, z = va_up w_237 72 (.inl (gJ G, 700, .inr (.inl (aJ (fun _ => 0))))) := ⟨_, rfl⟩
  rw [← hw_254] at hP
  have fr_255 : ∀ k : Nat, k ≠ 72 → w_253 k = w_237 k := fun k h => by rw [hw_254]; exact va_up_ne _ _ h
  have e_256 : w_253 60 = .inl (gI G, 10, .inl (aN (fun _ => 0))) := (fr_255 60 (by omega)).trans e_240
  have e_257 : w_253 61 = .inl (gI G, 10, .inl (aN (fun _ => 0))) := (fr_255 61 (by omega)).trans e_241
  have e_258 : w_253 62 = .inl (gI G, 80, .inl (aN (fun _ => 0))) := (fr_255 62 (by omega)).trans e_242
  have e_259 : w_253 63 = .inl (gI G, 80, .inl (aN (fun _ => 0))) := (fr_255 63 (by omega)).trans e_243
  have e_260 : w_253 64 = .inl (gI G, 80, .inl (aN (fun _ => 0))) := (fr_255 64 (by omega)).trans e_244
  have e_261 : w_253 65 = .inl (gI G, 10, .inl (aN (fun _ => 0))) := (fr_255 65 (by omega)).trans e_245
  have e_262 : w_253 66 = .inl (gJ G, 800, .inr (.inl (aJ (fun _ => 0)))) := (fr_255 66 (by omega)).trans e_246
  have e_263 : w_253 67 = .inl (gJ G, 800, .inr (.inl (aJ (fun _ => 0)))) := (fr_255 67 (by omega)).trans e_247
  have e_264 : w_253 68 = .inl (gI G, 800, .inl (aN (fun _ => 0))) := (fr_255 68 (by omega)).trans e_248
  have e_265 : w_253 69 = .inl (gI G, 800, .inl (aN (fun _ => 0))) := (fr_255 69 (by omega)).trans e_249
  have e_266 : w_253 70 = .inl (gZ G, 800, .inl (aN (fun _ => 0))) := (fr_255 70 (by omega)).trans e_250
  have e_267 : w_253 71 = .inl (gJ G, 700, .inr (.inl (aJ (fun _ => 0)))) := (fr_255 71 (by omega)).trans e_251
  have e_268 : w_253 59 = .inr (8, [.int (iN 0), .int (iN 0), .ref (gad G 60), .ref (gad G 61), .ref (gad G 62), .ref (gad G 63), .ref (gad G 64), .ref (gad G 65), .int (iN 0), .int (iN 0), .ref (gad G 66), .ref (gad G 67), .ref (gad G 68), .ref (gad G 69), .ref (gad G 70), .int (iN 0), .ref (gad G 71), .null, .int (iN 0), .int (iN 0), .int (iN 0), .long (jN 0), .long (jN 0), .int (iN 0), .null, .null]) := (fr_255 59 (by omega)).trans e_252
  have e_269 : w_253 72 = .inl (gJ G, 700, .inr (.inl (aJ (fun _ => 0)))) := by rw [hw_254]; exact va_up_self _ _ _
  refine y_putF (v := .ref (gad G 72)) (ty := .array .long) (C := RX9) (T := TX9) (N := 26) hx hb hts (by decide +kernel) tyX9 tyX9_ok nmX9 hown hK hP hS hAA 59 (by decide) e_268 rfl 17 (by decide) (hts (.fieldLink RX9 48 "KeptMovingModel" "timeD" "[J") (by decide +kernel)) (fun _ h9 => h9) rfl hin rfl (by decide +kernel) rfl rfl (Nat.le_of_ble_eq_true rfl) dX9_init_112 (fun H locs hP hS => ?_)
  have hP : PB G (va_up w_253 59 (.inr (8, [.int (iN 0), .int (iN 0), .ref (gad G 60), .ref (gad G 61), .ref (gad G 62), .ref (gad G 63), .ref (gad G 64), .ref (gad G 65), .int (iN 0), .int (iN 0), .ref (gad G 66), .ref (gad G 67), .ref (gad G 68), .ref (gad G 69), .ref (gad G 70), .int (iN 0), .ref (gad G 71), .ref (gad G 72), .int (iN 0), .int (iN 0), .int (iN 0), .long (jN 0), .long (jN 0), .int (iN 0), .null, .null]))) _ H := hP
  obtain ⟨w_270, hw_271⟩ : ∃ z : WF, z = va_up w_253 59 (.inr (8, [.int (iN 0), .int (iN 0), .ref (gad G 60), .ref (gad G 61), .ref (gad G 62), .ref (gad G 63), .ref (gad G 64), .ref (gad G 65), .int (iN 0), .int (iN 0), .ref (gad G 66), .ref (gad G 67), .ref (gad G 68), .ref (gad G 69), .ref (gad G 70), .int (iN 0), .ref (gad G 71), .ref (gad G 72), .int (iN 0), .int (iN 0), .int (iN 0), .long (jN 0), .long (jN 0), .int (iN 0), .null, .null])) := ⟨_, rfl⟩
  rw [← hw_271] at hP
  have fr_272 : ∀ k : Nat, k ≠ 59 → w_270 k = w_253 k := fun k h => by rw [hw_271]; exact va_up_ne _ _ h
  have e_273 : w_270 60 = .inl (gI G, 10, .inl (aN (fun _ => 0))) := (fr_272 60 (by omega)).trans e_256
  have e_274 : w_270 61 = .inl (gI G, 10, .inl (aN (fun _ => 0))) := (fr_272 61 (by omega)).trans e_257
  have e_275 : w_270 62 = .inl (gI G, 80, .inl (aN (fun _ => 0))) := (fr_272 62 (by omega)).trans e_258
  have e_276 : w_270 63 = .inl (gI G, 80, .inl (aN (fun _ => 0))) := (fr_272 63 (by omega)).trans e_259
  have e_277 : w_270 64 = .inl (gI G, 80, .inl (aN (fun _ => 0))) := (fr_272 64 (by omega)).trans e_260
  have e_278 : w_270 65 = .inl (gI G, 10, .inl (aN (fun _ => 0))) := (fr_272 65 (by omega)).trans e_261
  have e_279 : w_270 66 = .inl (gJ G, 800, .inr (.inl (aJ (fun _ => 0)))) := (fr_272 66 (by omega)).trans e_262
  have e_280 : w_270 67 = .inl (gJ G, 800, .inr (.inl (aJ (fun _ => 0)))) := (fr_272 67 (by omega)).trans e_263
  have e_281 : w_270 68 = .inl (gI G, 800, .inl (aN (fun _ => 0))) := (fr_272 68 (by omega)).trans e_264
  have e_282 : w_270 69 = .inl (gI G, 800, .inl (aN (fun _ => 0))) := (fr_272 69 (by omega)).trans e_265
  have e_283 : w_270 70 = .inl (gZ G, 800, .inl (aN (fun _ => 0))) := (fr_272 70 (by omega)).trans e_266
  have e_284 : w_270 71 = .inl (gJ G, 700, .inr (.inl (aJ (fun _ => 0)))) := (fr_272 71 (by omega)).trans e_267
  have e_285 : w_270 72 = .inl (gJ G, 700, .inr (.inl (aJ (fun _ => 0)))) := (fr_272 72 (by omega)).trans e_269
  have e_286 : w_270 59 = .inr (8, [.int (iN 0), .int (iN 0), .ref (gad G 60), .ref (gad G 61), .ref (gad G 62), .ref (gad G 63), .ref (gad G 64), .ref (gad G 65), .int (iN 0), .int (iN 0), .ref (gad G 66), .ref (gad G 67), .ref (gad G 68), .ref (gad G 69), .ref (gad G 70), .int (iN 0), .ref (gad G 71), .ref (gad G 72), .int (iN 0), .int (iN 0), .int (iN 0), .long (jN 0), .long (jN 0), .int (iN 0), .null, .null]) := by rw [hw_271]; exact va_up_self _ _ _
  refine lv_aload_n hx hb dX9_init_115 rfl (lv_at hl 0 rfl) ?_
  refine n_sipush hx hb dX9_init_116 (by decide) ?_
  refine y_newa (atype := .long) hx hb (hts (.arrayClass .long) (by decide +kernel)) (hK.1.1.2 1 _ rfl).2 hP hK.2.1 hS (y_j0 _ _) (by decide) (N := 1400) (by decide) (Nat.le_of_ble_eq_true rfl) (Nat.le_of_ble_eq_true rfl) (Nat.le_of_ble_eq_true rfl) 73 (by decide) dX9_init_119 (fun H hP hS => ?_)
  obtain ⟨w_287, hw_288⟩ : ∃ z : WF, z = va_up w_270 73 (.inl (gJ G, 1400, .inr (.inl (aJ (fun _ => 0))))) := ⟨_, rfl⟩
  rw [← hw_288] at hP
  have fr_289 : ∀ k : Nat, k ≠ 73 → w_287 k = w_270 k := fun k h => by rw [hw_288]; exact va_up_ne _ _ h
  have e_290 : w_287 60 = .inl (gI G, 10, .inl (aN (fun _ => 0))) := (fr_289 60 (by omega)).trans e_273
  have e_291 : w_287 61 = .inl (gI G, 10, .inl (aN (fun _ => 0))) := (fr_289 61 (by omega)).trans e_274
  have e_292 : w_287 62 = .inl (gI G, 80, .inl (aN (fun _ => 0))) := (fr_289 62 (by omega)).trans e_275
  have e_293 : w_287 63 = .inl (gI G, 80, .inl (aN (fun _ => 0))) := (fr_289 63 (by omega)).trans e_276
  have e_294 : w_287 64 = .inl (gI G, 80, .inl (aN (fun _ => 0))) := (fr_289 64 (by omega)).trans e_277
  have e_295 : w_287 65 = .inl (gI G, 10, .inl (aN (fun _ => 0))) := (fr_289 65 (by omega)).trans e_278
  have e_296 : w_287 66 = .inl (gJ G, 800, .inr (.inl (aJ (fun _ => 0)))) := (fr_289 66 (by omega)).trans e_279
  have e_297 : w_287 67 = .inl (gJ G, 800, .inr (.inl (aJ (fun _ => 0)))) := (fr_289 67 (by omega)).trans e_280
  have e_298 : w_287 68 = .inl (gI G, 800, .inl (aN (fun _ => 0))) := (fr_289 68 (by omega)).trans e_281
  have e_299 : w_287 69 = .inl (gI G, 800, .inl (aN (fun _ => 0))) := (fr_289 69 (by omega)).trans e_282
  have e_300 : w_287 70 = .inl (gZ G, 800, .inl (aN (fun _ => 0))) := (fr_289 70 (by omega)).trans e_283
  have e_301 : w_287 71 = .inl (gJ G, 700, .inr (.inl (aJ (fun _ => 0)))) := (fr_289 71 (by omega)).trans e_284
  have e_302 : w_287 72 = .inl (gJ G, 700, .inr (.inl (aJ (fun _ => 0)))) := (fr_289 72 (by omega)).trans e_285
  have e_303 : w_287 59 = .inr (8, [.int (iN 0), .int (iN 0), .ref (gad G 60), .ref (gad G 61), .ref (gad G 62), .ref (gad G 63), .ref (gad G 64), .ref (gad G 65), .int (iN 0), .int (iN 0), .ref (gad G 66), .ref (gad G 67), .ref (gad G 68), .ref (gad G 69), .ref (gad G 70), .int (iN 0), .ref (gad G 71), .ref (gad G 72), .int (iN 0), .int (iN 0), .int (iN 0), .long (jN 0), .long (jN 0), .int (iN 0), .null, .null]) := (fr_289 59 (by omega)).trans e_286
  have e_304 : w_287 73 = .inl (gJ G, 1400, .inr (.inl (aJ (fun _ => 0)))) := by rw [hw_288]; exact va_up_self _ _ _
  refine y_putF (v := .ref (gad G 73)) (ty := .array .long) (C := RX9) (T := TX9) (N := 26) hx hb hts (by decide +kernel) tyX9 tyX9_ok nmX9 hown hK hP hS hAA 59 (by decide) e_303 rfl 24 (by decide) (hts (.fieldLink RX9 51 "KeptMovingModel" "spanN" "[J") (by decide +kernel)) (fun _ h9 => h9) rfl hin rfl (by decide +kernel) rfl rfl (Nat.le_of_ble_eq_true rfl) dX9_init_121 (fun H locs hP hS => ?_)
  have hP : PB G (va_up w_287 59 (.inr (8, [.int (iN 0), .int (iN 0), .ref (gad G 60), .ref (gad G 61), .ref (gad G 62), .ref (gad G 63), .ref (gad G 64), .ref (gad G 65), .int (iN 0), .int (iN 0), .ref (gad G 66), .ref (gad G 67), .ref (gad G 68), .ref (gad G 69), .ref (gad G 70), .int (iN 0), .ref (gad G 71), .ref (gad G 72), .int (iN 0), .int (iN 0), .int (iN 0), .long (jN 0), .long (jN 0), .int (iN 0), .ref (gad G 73), .null]))) _ H := hP
  obtain ⟨w_305, hw_306⟩ : ∃ z : WF, z = va_up w_287 59 (.inr (8, [.int (iN 0), .int (iN 0), .ref (gad G 60), .ref (gad G 61), .ref (gad G 62), .ref (gad G 63), .ref (gad G 64), .ref (gad G 65), .int (iN 0), .int (iN 0), .ref (gad G 66), .ref (gad G 67), .ref (gad G 68), .ref (gad G 69), .ref (gad G 70), .int (iN 0), .ref (gad G 71), .ref (gad G 72), .int (iN 0), .int (iN 0), .int (iN 0), .long (jN 0), .long (jN 0), .int (iN 0), .ref (gad G 73), .null])) := ⟨_, rfl⟩
  rw [← hw_306] at hP
  have fr_307 : ∀ k : Nat, k ≠ 59 → w_305 k = w_287 k := fun k h => by rw [hw_306]; exact va_up_ne _ _ h
  have e_308 : w_305 60 = .inl (gI G, 10, .inl (aN (fun _ => 0))) := (fr_307 60 (by omega)).trans e_290
  have e_309 : w_305 61 = .inl (gI G, 10, .inl (aN (fun _ => 0))) := (fr_307 61 (by omega)).trans e_291
  have e_310 : w_305 62 = .inl (gI G, 80, .inl (aN (fun _ => 0))) := (fr_307 62 (by omega)).trans e_292
  have e_311 : w_305 63 = .inl (gI G, 80, .inl (aN (fun _ => 0))) := (fr_307 63 (by omega)).trans e_293
  have e_312 : w_305 64 = .inl (gI G, 80, .inl (aN (fun _ => 0))) := (fr_307 64 (by omega)).trans e_294
  have e_313 : w_305 65 = .inl (gI G, 10, .inl (aN (fun _ => 0))) := (fr_307 65 (by omega)).trans e_295
  have e_314 : w_305 66 = .inl (gJ G, 800, .inr (.inl (aJ (fun _ => 0)))) := (fr_307 66 (by omega)).trans e_296
  have e_315 : w_305 67 = .inl (gJ G, 800, .inr (.inl (aJ (fun _ => 0)))) := (fr_307 67 (by omega)).trans e_297
  have e_316 : w_305 68 = .inl (gI G, 800, .inl (aN (fun _ => 0))) := (fr_307 68 (by omega)).trans e_298
  have e_317 : w_305 69 = .inl (gI G, 800, .inl (aN (fun _ => 0))) := (fr_307 69 (by omega)).trans e_299
  have e_318 : w_305 70 = .inl (gZ G, 800, .inl (aN (fun _ => 0))) := (fr_307 70 (by omega)).trans e_300
  have e_319 : w_305 71 = .inl (gJ G, 700, .inr (.inl (aJ (fun _ => 0)))) := (fr_307 71 (by omega)).trans e_301
  have e_320 : w_305 72 = .inl (gJ G, 700, .inr (.inl (aJ (fun _ => 0)))) := (fr_307 72 (by omega)).trans e_302
  have e_321 : w_305 73 = .inl (gJ G, 1400, .inr (.inl (aJ (fun _ => 0)))) := (fr_307 73 (by omega)).trans e_304
  have e_322 : w_305 59 = .inr (8, [.int (iN 0), .int (iN 0), .ref (gad G 60), .ref (gad G 61), .ref (gad G 62), .ref (gad G 63), .ref (gad G 64), .ref (gad G 65), .int (iN 0), .int (iN 0), .ref (gad G 66), .ref (gad G 67), .ref (gad G 68), .ref (gad G 69), .ref (gad G 70), .int (iN 0), .ref (gad G 71), .ref (gad G 72), .int (iN 0), .int (iN 0), .int (iN 0), .long (jN 0), .long (jN 0), .int (iN 0), .ref (gad G 73), .null]) := by rw [hw_306]; exact va_up_self _ _ _
  refine lv_aload_n hx hb dX9_init_124 rfl (lv_at hl 0 rfl) ?_
  refine n_sipush hx hb dX9_init_125 (by decide) ?_
  refine y_newa (atype := .long) hx hb (hts (.arrayClass .long) (by decide +kernel)) (hK.1.1.2 1 _ rfl).2 hP hK.2.1 hS (y_j0 _ _) (by decide) (N := 1400) (by decide) (Nat.le_of_ble_eq_true rfl) (Nat.le_of_ble_eq_true rfl) (Nat.le_of_ble_eq_true rfl) 74 (by decide) dX9_init_128 (fun H hP hS => ?_)
  obtain ⟨w_323, hw_324⟩ : ∃ z : WF, z = va_up w_305 74 (.inl (gJ G, 1400, .inr (.inl (aJ (fun _ => 0))))) := ⟨_, rfl⟩
  rw [← hw_324] at hP
  have fr_325 : ∀ k : Nat, k ≠ 74 → w_323 k = w_305 k := fun k h => by rw [hw_324]; exact va_up_ne _ _ h
  have e_326 : w_323 60 = .inl (gI G, 10, .inl (aN (fun _ => 0))) := (fr_325 60 (by omega)).trans e_308
  have e_327 : w_323 61 = .inl (gI G, 10, .inl (aN (fun _ => 0))) := (fr_325 61 (by omega)).trans e_309
  have e_328 : w_323 62 = .inl (gI G, 80, .inl (aN (fun _ => 0))) := (fr_325 62 (by omega)).trans e_310
  have e_329 : w_323 63 = .inl (gI G, 80, .inl (aN (fun _ => 0))) := (fr_325 63 (by omega)).trans e_311
  have e_330 : w_323 64 = .inl (gI G, 80, .inl (aN (fun _ => 0))) := (fr_325 64 (by omega)).trans e_312
  have e_331 : w_323 65 = .inl (gI G, 10, .inl (aN (fun _ => 0))) := (fr_325 65 (by omega)).trans e_313
  have e_332 : w_323 66 = .inl (gJ G, 800, .inr (.inl (aJ (fun _ => 0)))) := (fr_325 66 (by omega)).trans e_314
  have e_333 : w_323 67 = .inl (gJ G, 800, .inr (.inl (aJ (fun _ => 0)))) := (fr_325 67 (by omega)).trans e_315
  have e_334 : w_323 68 = .inl (gI G, 800, .inl (aN (fun _ => 0))) := (fr_325 68 (by omega)).trans e_316
  have e_335 : w_323 69 = .inl (gI G, 800, .inl (aN (fun _ => 0))) := (fr_325 69 (by omega)).trans e_317
  have e_336 : w_323 70 = .inl (gZ G, 800, .inl (aN (fun _ => 0))) := (fr_325 70 (by omega)).trans e_318
  have e_337 : w_323 71 = .inl (gJ G, 700, .inr (.inl (aJ (fun _ => 0)))) := (fr_325 71 (by omega)).trans e_319
  have e_338 : w_323 72 = .inl (gJ G, 700, .inr (.inl (aJ (fun _ => 0)))) := (fr_325 72 (by omega)).trans e_320
  have e_339 : w_323 73 = .inl (gJ G, 1400, .inr (.inl (aJ (fun _ => 0)))) := (fr_325 73 (by omega)).trans e_321
  have e_340 : w_323 59 = .inr (8, [.int (iN 0), .int (iN 0), .ref (gad G 60), .ref (gad G 61), .ref (gad G 62), .ref (gad G 63), .ref (gad G 64), .ref (gad G 65), .int (iN 0), .int (iN 0), .ref (gad G 66), .ref (gad G 67), .ref (gad G 68), .ref (gad G 69), .ref (gad G 70), .int (iN 0), .ref (gad G 71), .ref (gad G 72), .int (iN 0), .int (iN 0), .int (iN 0), .long (jN 0), .long (jN 0), .int (iN 0), .ref (gad G 73), .null]) := (fr_325 59 (by omega)).trans e_322
  have e_341 : w_323 74 = .inl (gJ G, 1400, .inr (.inl (aJ (fun _ => 0)))) := by rw [hw_324]; exact va_up_self _ _ _
  refine y_putF (v := .ref (gad G 74)) (ty := .array .long) (C := RX9) (T := TX9) (N := 26) hx hb hts (by decide +kernel) tyX9 tyX9_ok nmX9 hown hK hP hS hAA 59 (by decide) e_340 rfl 25 (by decide) (hts (.fieldLink RX9 54 "KeptMovingModel" "spanD" "[J") (by decide +kernel)) (fun _ h9 => h9) rfl hin rfl (by decide +kernel) rfl rfl (Nat.le_of_ble_eq_true rfl) dX9_init_130 (fun H locs hP hS => ?_)
  have hP : PB G (va_up w_323 59 (.inr (8, [.int (iN 0), .int (iN 0), .ref (gad G 60), .ref (gad G 61), .ref (gad G 62), .ref (gad G 63), .ref (gad G 64), .ref (gad G 65), .int (iN 0), .int (iN 0), .ref (gad G 66), .ref (gad G 67), .ref (gad G 68), .ref (gad G 69), .ref (gad G 70), .int (iN 0), .ref (gad G 71), .ref (gad G 72), .int (iN 0), .int (iN 0), .int (iN 0), .long (jN 0), .long (jN 0), .int (iN 0), .ref (gad G 73), .ref (gad G 74)]))) _ H := hP
  obtain ⟨w_342, hw_343⟩ : ∃ z : WF, z = va_up w_323 59 (.inr (8, [.int (iN 0), .int (iN 0), .ref (gad G 60), .ref (gad G 61), .ref (gad G 62), .ref (gad G 63), .ref (gad G 64), .ref (gad G 65), .int (iN 0), .int (iN 0), .ref (gad G 66), .ref (gad G 67), .ref (gad G 68), .ref (gad G 69), .ref (gad G 70), .int (iN 0), .ref (gad G 71), .ref (gad G 72), .int (iN 0), .int (iN 0), .int (iN 0), .long (jN 0), .long (jN 0), .int (iN 0), .ref (gad G 73), .ref (gad G 74)])) := ⟨_, rfl⟩
  rw [← hw_343] at hP
  have fr_344 : ∀ k : Nat, k ≠ 59 → w_342 k = w_323 k := fun k h => by rw [hw_343]; exact va_up_ne _ _ h
  have e_345 : w_342 60 = .inl (gI G, 10, .inl (aN (fun _ => 0))) := (fr_344 60 (by omega)).trans e_326
  have e_346 : w_342 61 = .inl (gI G, 10, .inl (aN (fun _ => 0))) := (fr_344 61 (by omega)).trans e_327
  have e_347 : w_342 62 = .inl (gI G, 80, .inl (aN (fun _ => 0))) := (fr_344 62 (by omega)).trans e_328
  have e_348 : w_342 63 = .inl (gI G, 80, .inl (aN (fun _ => 0))) := (fr_344 63 (by omega)).trans e_329
  have e_349 : w_342 64 = .inl (gI G, 80, .inl (aN (fun _ => 0))) := (fr_344 64 (by omega)).trans e_330
  have e_350 : w_342 65 = .inl (gI G, 10, .inl (aN (fun _ => 0))) := (fr_344 65 (by omega)).trans e_331
  have e_351 : w_342 66 = .inl (gJ G, 800, .inr (.inl (aJ (fun _ => 0)))) := (fr_344 66 (by omega)).trans e_332
  have e_352 : w_342 67 = .inl (gJ G, 800, .inr (.inl (aJ (fun _ => 0)))) := (fr_344 67 (by omega)).trans e_333
  have e_353 : w_342 68 = .inl (gI G, 800, .inl (aN (fun _ => 0))) := (fr_344 68 (by omega)).trans e_334
  have e_354 : w_342 69 = .inl (gI G, 800, .inl (aN (fun _ => 0))) := (fr_344 69 (by omega)).trans e_335
  have e_355 : w_342 70 = .inl (gZ G, 800, .inl (aN (fun _ => 0))) := (fr_344 70 (by omega)).trans e_336
  have e_356 : w_342 71 = .inl (gJ G, 700, .inr (.inl (aJ (fun _ => 0)))) := (fr_344 71 (by omega)).trans e_337
  have e_357 : w_342 72 = .inl (gJ G, 700, .inr (.inl (aJ (fun _ => 0)))) := (fr_344 72 (by omega)).trans e_338
  have e_358 : w_342 73 = .inl (gJ G, 1400, .inr (.inl (aJ (fun _ => 0)))) := (fr_344 73 (by omega)).trans e_339
  have e_359 : w_342 74 = .inl (gJ G, 1400, .inr (.inl (aJ (fun _ => 0)))) := (fr_344 74 (by omega)).trans e_341
  have e_360 : w_342 59 = .inr (8, [.int (iN 0), .int (iN 0), .ref (gad G 60), .ref (gad G 61), .ref (gad G 62), .ref (gad G 63), .ref (gad G 64), .ref (gad G 65), .int (iN 0), .int (iN 0), .ref (gad G 66), .ref (gad G 67), .ref (gad G 68), .ref (gad G 69), .ref (gad G 70), .int (iN 0), .ref (gad G 71), .ref (gad G 72), .int (iN 0), .int (iN 0), .int (iN 0), .long (jN 0), .long (jN 0), .int (iN 0), .ref (gad G 73), .ref (gad G 74)]) := by rw [hw_343]; exact va_up_self _ _ _
  refine W.widen (k := 15) (n := 8470) (Nat.le_of_ble_eq_true rfl) (Nat.le_of_ble_eq_true rfl) ?_
  exact y_vret hx hb hr hlocks hP hS ⟨(fun k h0 h1 h2 h3 h4 h5 h6 h7 h8 h9 h10 h11 h12 h13 h14 h15 => ((((((((((((((((((((((((((((((((((((((((((((((((((((((((((fr_344 k (by omega)).trans (fr_325 k (by omega)))).trans (fr_307 k (by omega)))).trans (fr_289 k (by omega)))).trans (fr_272 k (by omega)))).trans (fr_255 k (by omega)))).trans (fr_239 k (by omega)))).trans (fr_223 k (by omega)))).trans (fr_208 k (by omega)))).trans (fr_193 k (by omega)))).trans (fr_179 k (by omega)))).trans (fr_165 k (by omega)))).trans (fr_152 k (by omega)))).trans (fr_139 k (by omega)))).trans (fr_127 k (by omega)))).trans (fr_115 k (by omega)))).trans (fr_104 k (by omega)))).trans (fr_93 k (by omega)))).trans (fr_83 k (by omega)))).trans (fr_73 k (by omega)))).trans (fr_64 k (by omega)))).trans (fr_55 k (by omega)))).trans (fr_47 k (by omega)))).trans (fr_39 k (by omega)))).trans (fr_32 k (by omega)))).trans (fr_25 k (by omega)))).trans (fr_19 k (by omega)))).trans (fr_13 k (by omega)))).trans (fr_8 k (by omega)))).trans (fr_3 k (by omega)))), e_360, e_345, e_346, e_347, e_348, e_349, e_350, e_351, e_352, e_353, e_354, e_355, e_356, e_357, e_358, e_359⟩ dX9_init_133
