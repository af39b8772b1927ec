theorem gt_t {x y : Int} (h : ¬ x / 256 * (y % 256) ≤ y / 256 * (x % 256)) : ltF y x := by
  show y / 256 * (x % 256) < x / 256 * (y % 256)
  omega
theorem gt_f {x y : Int} (h : x / 256 * (y % 256) ≤ y / 256 * (x % 256)) : ¬ ltF y x := by
  show ¬ (y / 256 * (x % 256) < x / 256 * (y % 256))
  omega

set_option maxHeartbeats 4000000 in
set_option maxRecDepth 100000 in
theorem c_X4_clear (l : Launch) (G : GE) (w : WF) (sz : Nat) (pa : Int) (ts : Nat → Int) (os : Nat → Int) (rs : Nat → Int) (e0 : w 10 = .inr (3, [.ref (gad G 11), .ref (gad G 12), .ref (gad G 13), .int (iN ((sz : Nat) : Int)), .int (iN pa)])) (e1 : w 11 = .inl (gJ G, 45, .inr (.inl (aJ ts)))) (e2 : w 12 = .inl (gI G, 45, .inl (aN os))) (e3 : w 13 = .inl (gI G, 45, .inl (aN rs))) : Met l yX4_clear wsX4_clear ({ frames := 0, cells := 0, slots := 0, locals := 0 }) (PcG G w [.ref (gad G 10)]) (QV G (fun w1 => (∀ k : Nat, k ≠ 10 → w1 k = w k) ∧ w1 10 = .inr (3, [.ref (gad G 11), .ref (gad G 12), .ref (gad G 13), .int (iN 0), .int (iN 0)]))) 0 0 (AA G) := by
  refine Met.ofW (cc := cX4_clear) (maxL := 1) (ret := none) (by decide) rfl ?_
  intro p e s m args below meth c s₁ B hml hv
  obtain ⟨rfl, hP, hK⟩ := hv
  have hx := B.exec
  have hb := B.bytes
  have hr := B.returns
  have hts := atoms_spec (ws := wsX4_clear) B.pre
  have hown : s.vm.findClass RX4 = some m.cls := findClass_of_methodNamed B.named
  have hlocks := B.notSynchronized
  have hS : va_S (AA G) s.heap s.heap [] := va_S.rf
  have hAA : ∀ q, AA G q → AA G q := fun _ h => h
  have hl := lv_entry ([.ref (gad G 10)]) (n := 1) (Nat.le_of_ble_eq_true rfl)
  rw [lg_entry_eq]
  generalize (lg_sl ([.ref (gad G 10)]) ++ List.replicate (1 - (lg_sl ([.ref (gad G 10)])).length) Slot.unset).toArray = ls at hl ⊢
  have hl : lv_has ls 1 [(0, .ref (gad G 10))] := hl
  refine lv_aload_n hx hb dX4_clear_0 rfl (lv_at hl 0 rfl) ?_
  refine n_iconst hx hb dX4_clear_1 ?_
  refine f_put (v := .int (iN 0)) (ty := .int) (C := RX4) (T := TX4) (N := 5) hx hb hts (by decide +kernel) tyX4 tyX4_ok nmX4 hown hK hP hS hAA 10 (by omega) e0 rfl 3 (by decide) (hts (.fieldLink RX4 22 "KeptMoving$Meetings" "size" "I") (by decide +kernel)) (fun _ h9 => h9) rfl (by decide +kernel) (rfl) (rfl) (Nat.le_of_ble_eq_true rfl) (rfl) dX4_clear_2 (fun H locs hP hS => ?_)
  have hP : PW G (va_up w 10 (.inr (3, [.ref (gad G 11), .ref (gad G 12), .ref (gad G 13), .int (iN 0), .int (iN pa)]))) H := hP
  obtain ⟨w_1, hw_2⟩ : ∃ z : WF, z = va_up w 10 (.inr (3, [.ref (gad G 11), .ref (gad G 12), .ref (gad G 13), .int (iN 0), .int (iN pa)])) := ⟨_, rfl⟩
  rw [← hw_2] at hP
  have fr_3 : ∀ k : Nat, k ≠ 10 → w_1 k = w k := fun k h => by rw [hw_2]; exact va_up_ne _ _ h
  have e_4 : w_1 10 = .inr (3, [.ref (gad G 11), .ref (gad G 12), .ref (gad G 13), .int (iN 0), .int (iN pa)]) := by rw [hw_2]; exact va_up_self _ _ _
  have e_5 : w_1 11 = .inl (gJ G, 45, .inr (.inl (aJ ts))) := (fr_3 11 (by omega)).trans e1
  have e_6 : w_1 12 = .inl (gI G, 45, .inl (aN os)) := (fr_3 12 (by omega)).trans e2
  have e_7 : w_1 13 = .inl (gI G, 45, .inl (aN rs)) := (fr_3 13 (by omega)).trans e3
  refine lv_aload_n hx hb dX4_clear_5 rfl (lv_at hl 0 rfl) ?_
  refine n_iconst hx hb dX4_clear_6 ?_
  refine f_put (v := .int (iN 0)) (ty := .int) (C := RX4) (T := TX4) (N := 5) hx hb hts (by decide +kernel) tyX4 tyX4_ok nmX4 hown hK hP hS hAA 10 (by omega) e_4 rfl 4 (by decide) (hts (.fieldLink RX4 26 "KeptMoving$Meetings" "passes" "I") (by decide +kernel)) (fun _ h9 => h9) rfl (by decide +kernel) (rfl) (rfl) (Nat.le_of_ble_eq_true rfl) (rfl) dX4_clear_7 (fun H locs hP hS => ?_)
  have hP : PW G (va_up w_1 10 (.inr (3, [.ref (gad G 11), .ref (gad G 12), .ref (gad G 13), .int (iN 0), .int (iN 0)]))) H := hP
  obtain ⟨w_8, hw_9⟩ : ∃ z : WF, z = va_up w_1 10 (.inr (3, [.ref (gad G 11), .ref (gad G 12), .ref (gad G 13), .int (iN 0), .int (iN 0)])) := ⟨_, rfl⟩
  rw [← hw_9] at hP
  have fr_10 : ∀ k : Nat, k ≠ 10 → w_8 k = w_1 k := fun k h => by rw [hw_9]; exact va_up_ne _ _ h
  have e_11 : w_8 10 = .inr (3, [.ref (gad G 11), .ref (gad G 12), .ref (gad G 13), .int (iN 0), .int (iN 0)]) := by rw [hw_9]; exact va_up_self _ _ _
  have e_12 : w_8 11 = .inl (gJ G, 45, .inr (.inl (aJ ts))) := (fr_10 11 (by omega)).trans e_5
  have e_13 : w_8 12 = .inl (gI G, 45, .inl (aN os)) := (fr_10 12 (by omega)).trans e_6
  have e_14 : w_8 13 = .inl (gI G, 45, .inl (aN rs)) := (fr_10 13 (by omega)).trans e_7
  exact r_v hx hb hr dX4_clear_10 hlocks hP hS (⟨(fun k h0 => ((fr_10 k (by omega)).trans (fr_3 k (by omega)))), e_11⟩)

set_option maxHeartbeats 4000000 in
set_option maxRecDepth 100000 in
theorem c_X4_insert (l : Launch) (G : GE) (w : WF) (sz : Nat) (pa : Int) (ts : Nat → Int) (os : Nat → Int) (rs : Nat → Int) (x : Int) (i : Int) (j : Int) (b : Int) (e0 : w 10 = .inr (3, [.ref (gad G 11), .ref (gad G 12), .ref (gad G 13), .int (iN ((sz : Nat) : Int)), .int (iN pa)])) (e1 : w 11 = .inl (gJ G, 45, .inr (.inl (aJ ts)))) (e2 : w 12 = .inl (gI G, 45, .inl (aN os))) (e3 : w 13 = .inl (gI G, 45, .inl (aN rs))) (p0 : sz < 45) (p1 : ∀ k : Nat, k < sz → -30000000000 ≤ ts k ∧ ts k ≤ 30000000000) (p2 : -30000000000 ≤ x ∧ x ≤ 30000000000) (p3 : b = 0 ∨ b = 1) : Met l yX4_insert wsX4_insert ({ frames := 2, cells := 0, slots := 0, locals := 46 }) (PcG G w [.ref (gad G 10), .long (jN x), .int (iN i), .int (iN j), .int (iN b)]) (QV G (fun w1 => (∀ k : Nat, k ≠ 10 → k ≠ 11 → k ≠ 12 → k ≠ 13 → w1 k = w k) ∧ w1 10 = .inr (3, [.ref (gad G 11), .ref (gad G 12), .ref (gad G 13), .int (iN ((sz + 1 : Nat) : Int)), .int (iN (pa + b))]) ∧ w1 11 = .inl (gJ G, 45, .inr (.inl (aJ (insF ts (spotP (fun k => decide (x / 256 * (ts k % 256) < ts k / 256 * (x % 256))) sz) sz x)))) ∧ w1 12 = .inl (gI G, 45, .inl (aN (insF os (spotP (fun k => decide (x / 256 * (ts k % 256) < ts k / 256 * (x % 256))) sz) sz i))) ∧ w1 13 = .inl (gI G, 45, .inl (aN (insF rs (spotP (fun k => decide (x / 256 * (ts k % 256) < ts k / 256 * (x % 256))) sz) sz j))))) 0 0 (AA G) := by
  refine Met.ofW (cc := cX4_insert) (maxL := 7) (ret := none) (by decide) rfl ?_
  intro p e s m args below meth c s₁ B hml hv
  obtain ⟨rfl, hP, hK⟩ := hv
  have hx := B.exec
  have hb := B.bytes
  have hr := B.returns
  have hts := atoms_spec (ws := wsX4_insert) B.pre
  have hown : s.vm.findClass RX4 = some m.cls := findClass_of_methodNamed B.named
  have hlocks := B.notSynchronized
  have hS : va_S (AA G) s.heap s.heap [] := va_S.rf
  have hAA : ∀ q, AA G q → AA G q := fun _ h => h
  have hl := lv_entry ([.ref (gad G 10), .long (jN x), .int (iN i), .int (iN j), .int (iN b)]) (n := 7) (Nat.le_of_ble_eq_true rfl)
  rw [lg_entry_eq]
  generalize (lg_sl ([.ref (gad G 10), .long (jN x), .int (iN i), .int (iN j), .int (iN b)]) ++ List.replicate (7 - (lg_sl ([.ref (gad G 10), .long (jN x), .int (iN i), .int (iN j), .int (iN b)])).length) Slot.unset).toArray = ls at hl ⊢
  have hl : lv_has ls 7 [(0, .ref (gad G 10)), (1, .long (jN x)), (3, .int (iN i)), (4, .int (iN j)), (5, .int (iN b))] := hl
  refine lv_aload_n hx hb dX4_insert_0 rfl (lv_at hl 0 rfl) ?_
  refine f_get (C := RX4) (T := TX4) (N := 5) hx hb hts (by decide +kernel) hown hK hP 10 (by omega) e0 rfl 3 (by decide) (hts (.fieldLink RX4 22 "KeptMoving$Meetings" "size" "I") (by decide +kernel)) (fun _ h9 => h9) rfl dX4_insert_1 ?_
  refine n_bipush hx hb dX4_insert_4 (by decide) ?_
  refine n_icmp_lt (tgt := 10) hx hb dX4_insert_6 (by decide) (by omega) (by omega) (by omega) (by omega) (fun c_6 => ?_) (fun c_6 => ?_)
  · refine lv_aload_n hx hb dX4_insert_10 rfl (lv_at hl 0 rfl) ?_
    refine f_get (C := RX4) (T := TX4) (N := 5) hx hb hts (by decide +kernel) hown hK hP 10 (by omega) e0 rfl 3 (by decide) (hts (.fieldLink RX4 22 "KeptMoving$Meetings" "size" "I") (by decide +kernel)) (fun _ h9 => h9) rfl dX4_insert_11 ?_
    refine lv_istore (lv' := [(6, .int (iN ((sz : Nat) : Int))), (0, .ref (gad G 10)), (1, .long (jN x)), (3, .int (iN i)), (4, .int (iN j)), (5, .int (iN b))]) hx hb dX4_insert_14 hl (by decide) rfl (fun ls hl => ?_)
    have K16 : ∀ (N : Nat) (q : Nat) (w2 : WF) (H : Heap) (locs : List Loc) (ls : Array Slot), (q ≤ sz) → (spotP (fun k => decide (x / 256 * (ts k % 256) < ts k / 256 * (x % 256))) q = spotP (fun k => decide (x / 256 * (ts k % 256) < ts k / 256 * (x % 256))) sz) → q < N → w2 11 = .inl (gJ G, 45, .inr (.inl (aJ (shF ts q sz)))) → w2 12 = .inl (gI G, 45, .inl (aN (shF os q sz))) → w2 13 = .inl (gI G, 45, .inl (aN (shF rs q sz))) → (∀ k : Nat, k ≠ 11 → k ≠ 12 → k ≠ 13 → w2 k = w k) → PW G w2 H → va_S (AA G) s.heap H locs → lv_has ls 7 [(0, .ref (gad G 10)), (1, .long (jN x)), (3, .int (iN i)), (4, .int (iN j)), (5, .int (iN b)), (6, .int (iN ((q : Nat) : Int)))] → W p l e (headSpec wsX4_insert ({ frames := 2, cells := 0, slots := 0, locals := 46 })).room s m (([.ref (gad G 10), .long (jN x), .int (iN i), .int (iN j), .int (iN b)] : List Value).toArray) below meth c H locs 0 0 (MQ below (QV G (fun w1 => (∀ k : Nat, k ≠ 10 → k ≠ 11 → k ≠ 12 → k ≠ 13 → w1 k = w k) ∧ w1 10 = .inr (3, [.ref (gad G 11), .ref (gad G 12), .ref (gad G 13), .int (iN ((sz + 1 : Nat) : Int)), .int (iN (pa + b))]) ∧ w1 11 = .inl (gJ G, 45, .inr (.inl (aJ (insF ts (spotP (fun k => decide (x / 256 * (ts k % 256) < ts k / 256 * (x % 256))) sz) sz x)))) ∧ w1 12 = .inl (gI G, 45, .inl (aN (insF os (spotP (fun k => decide (x / 256 * (ts k % 256) < ts k / 256 * (x % 256))) sz) sz i))) ∧ w1 13 = .inl (gI G, 45, .inl (aN (insF rs (spotP (fun k => decide (x / 256 * (ts k % 256) < ts k / 256 * (x % 256))) sz) sz j))))) (([.ref (gad G 10), .long (jN x), .int (iN i), .int (iN j), .int (iN b)] : List Value).toArray) s 0 0 (AA G)) (F0 m 16 ls []) := by
      intro N
      induction N with
      | zero =>
        intros
        exfalso
        omega
      | succ N ih16 =>
        intro q w2 H locs ls i16_0 i16_1 hN16 f16_0 f16_1 f16_2 hfr16 hP hS hl
        have e_1 : w2 10 = .inr (3, [.ref (gad G 11), .ref (gad G 12), .ref (gad G 13), .int (iN ((sz : Nat) : Int)), .int (iN pa)]) := by rw [hfr16 10 (by omega) (by omega) (by omega)]; exact e0
        refine lv_iload hx hb dX4_insert_16 (lv_at hl 5 rfl) ?_
        refine n_if_le (tgt := 91) hx hb dX4_insert_18 (by decide) (by omega) (by omega) (fun c_18 => ?_) (fun c_18 => ?_)
        · have hj : spotP (fun k => decide (x / 256 * (ts k % 256) < ts k / 256 * (x % 256))) sz = q := by rw [← i16_1]; exact spot_end (by omega)
          refine lv_aload_n hx hb dX4_insert_91 rfl (lv_at hl 0 rfl) ?_
          refine f_get (C := RX4) (T := TX4) (N := 5) hx hb hts (by decide +kernel) hown hK hP 10 (by omega) e_1 rfl 0 (by decide) (hts (.fieldLink RX4 9 "KeptMoving$Meetings" "times" "[J") (by decide +kernel)) (fun _ h9 => h9) rfl dX4_insert_92 ?_
          refine lv_iload hx hb dX4_insert_95 (lv_at hl 5 rfl) ?_
          refine lv_lload_n hx hb dX4_insert_97 rfl (lv_at hl 1 rfl) ?_
          refine n_last hx hb hK hP hS hAA 11 (by omega) f16_0 (fun _ => rfl) q rfl (by omega) (by decide) dX4_insert_98 (fun H locs hP hS => ?_)
          obtain ⟨w_2, hw_3⟩ : ∃ z : WF, z = va_up w2 11 (.inl (gJ G, 45, .inr (.inl (aJ (va_up (shF ts q sz) q x))))) := ⟨_, rfl⟩
          rw [← hw_3] at hP
          have fr_4 : ∀ k : Nat, k ≠ 11 → w_2 k = w2 k := fun k h => by rw [hw_3]; exact va_up_ne _ _ h
          have e_5 : w_2 11 = .inl (gJ G, 45, .inr (.inl (aJ (va_up (shF ts q sz) q x)))) := by rw [hw_3]; exact va_up_self _ _ _
          have e_6 : w_2 12 = .inl (gI G, 45, .inl (aN (shF os q sz))) := (fr_4 12 (by omega)).trans f16_1
          have e_7 : w_2 13 = .inl (gI G, 45, .inl (aN (shF rs q sz))) := (fr_4 13 (by omega)).trans f16_2
          have e_8 : w_2 10 = .inr (3, [.ref (gad G 11), .ref (gad G 12), .ref (gad G 13), .int (iN ((sz : Nat) : Int)), .int (iN pa)]) := (fr_4 10 (by omega)).trans e_1
          refine lv_aload_n hx hb dX4_insert_99 rfl (lv_at hl 0 rfl) ?_
          refine f_get (C := RX4) (T := TX4) (N := 5) hx hb hts (by decide +kernel) hown hK hP 10 (by omega) e_8 rfl 1 (by decide) (hts (.fieldLink RX4 15 "KeptMoving$Meetings" "ones" "[I") (by decide +kernel)) (fun _ h9 => h9) rfl dX4_insert_100 ?_
          refine lv_iload hx hb dX4_insert_103 (lv_at hl 5 rfl) ?_
          refine lv_iload_n hx hb dX4_insert_105 rfl (lv_at hl 2 rfl) ?_
          refine n_iast hx hb hK hP hS hAA 12 (by omega) e_6 (fun _ => rfl) q rfl (by omega) (by decide) dX4_insert_106 (fun H locs hP hS => ?_)
          obtain ⟨w_9, hw_10⟩ : ∃ z : WF, z = va_up w_2 12 (.inl (gI G, 45, .inl (aN (va_up (shF os q sz) q i)))) := ⟨_, rfl⟩
          rw [← hw_10] at hP
          have fr_11 : ∀ k : Nat, k ≠ 12 → w_9 k = w_2 k := fun k h => by rw [hw_10]; exact va_up_ne _ _ h
          have e_12 : w_9 11 = .inl (gJ G, 45, .inr (.inl (aJ (va_up (shF ts q sz) q x)))) := (fr_11 11 (by omega)).trans e_5
          have e_13 : w_9 12 = .inl (gI G, 45, .inl (aN (va_up (shF os q sz) q i))) := by rw [hw_10]; exact va_up_self _ _ _
          have e_14 : w_9 13 = .inl (gI G, 45, .inl (aN (shF rs q sz))) := (fr_11 13 (by omega)).trans e_7
          have e_15 : w_9 10 = .inr (3, [.ref (gad G 11), .ref (gad G 12), .ref (gad G 13), .int (iN ((sz : Nat) : Int)), .int (iN pa)]) := (fr_11 10 (by omega)).trans e_8
          refine lv_aload_n hx hb dX4_insert_107 rfl (lv_at hl 0 rfl) ?_
          refine f_get (C := RX4) (T := TX4) (N := 5) hx hb hts (by decide +kernel) hown hK hP 10 (by omega) e_15 rfl 2 (by decide) (hts (.fieldLink RX4 19 "KeptMoving$Meetings" "others" "[I") (by decide +kernel)) (fun _ h9 => h9) rfl dX4_insert_108 ?_
          refine lv_iload hx hb dX4_insert_111 (lv_at hl 5 rfl) ?_
          refine lv_iload hx hb dX4_insert_113 (lv_at hl 3 rfl) ?_
          refine n_iast hx hb hK hP hS hAA 13 (by omega) e_14 (fun _ => rfl) q rfl (by omega) (by decide) dX4_insert_115 (fun H locs hP hS => ?_)
          obtain ⟨w_16, hw_17⟩ : ∃ z : WF, z = va_up w_9 13 (.inl (gI G, 45, .inl (aN (va_up (shF rs q sz) q j)))) := ⟨_, rfl⟩
          rw [← hw_17] at hP
          have fr_18 : ∀ k : Nat, k ≠ 13 → w_16 k = w_9 k := fun k h => by rw [hw_17]; exact va_up_ne _ _ h
          have e_19 : w_16 11 = .inl (gJ G, 45, .inr (.inl (aJ (va_up (shF ts q sz) q x)))) := (fr_18 11 (by omega)).trans e_12
          have e_20 : w_16 12 = .inl (gI G, 45, .inl (aN (va_up (shF os q sz) q i))) := (fr_18 12 (by omega)).trans e_13
          have e_21 : w_16 13 = .inl (gI G, 45, .inl (aN (va_up (shF rs q sz) q j))) := by rw [hw_17]; exact va_up_self _ _ _
          have e_22 : w_16 10 = .inr (3, [.ref (gad G 11), .ref (gad G 12), .ref (gad G 13), .int (iN ((sz : Nat) : Int)), .int (iN pa)]) := (fr_18 10 (by omega)).trans e_15
          refine lv_aload_n hx hb dX4_insert_116 rfl (lv_at hl 0 rfl) ?_
          refine lv_dup hx hb dX4_insert_117 rfl ?_
          refine f_get (C := RX4) (T := TX4) (N := 5) hx hb hts (by decide +kernel) hown hK hP 10 (by omega) e_22 rfl 3 (by decide) (hts (.fieldLink RX4 22 "KeptMoving$Meetings" "size" "I") (by decide +kernel)) (fun _ h9 => h9) rfl dX4_insert_118 ?_
          refine n_iconst hx hb dX4_insert_121 ?_
          refine n_iadd hx hb dX4_insert_122 ?_
          rw [show ((sz : Nat) : Int) + 1 = ((sz + 1 : Nat) : Int) by omega]
          refine f_put (v := .int (iN ((sz + 1 : Nat) : Int))) (ty := .int) (C := RX4) (T := TX4) (N := 5) hx hb hts (by decide +kernel) tyX4 tyX4_ok nmX4 hown hK hP hS hAA 10 (by omega) e_22 rfl 3 (by decide) (hts (.fieldLink RX4 22 "KeptMoving$Meetings" "size" "I") (by decide +kernel)) (fun _ h9 => h9) rfl (by decide +kernel) (rfl) (rfl) (Nat.le_of_ble_eq_true rfl) (rfl) dX4_insert_123 (fun H locs hP hS => ?_)
          have hP : PW G (va_up w_16 10 (.inr (3, [.ref (gad G 11), .ref (gad G 12), .ref (gad G 13), .int (iN ((sz + 1 : Nat) : Int)), .int (iN pa)]))) H := hP
          obtain ⟨w_23, hw_24⟩ : ∃ z : WF, z = va_up w_16 10 (.inr (3, [.ref (gad G 11), .ref (gad G 12), .ref (gad G 13), .int (iN ((sz + 1 : Nat) : Int)), .int (iN pa)])) := ⟨_, rfl⟩
          rw [← hw_24] at hP
          have fr_25 : ∀ k : Nat, k ≠ 10 → w_23 k = w_16 k := fun k h => by rw [hw_24]; exact va_up_ne _ _ h
          have e_26 : w_23 11 = .inl (gJ G, 45, .inr (.inl (aJ (va_up (shF ts q sz) q x)))) := (fr_25 11 (by omega)).trans e_19
          have e_27 : w_23 12 = .inl (gI G, 45, .inl (aN (va_up (shF os q sz) q i))) := (fr_25 12 (by omega)).trans e_20
          have e_28 : w_23 13 = .inl (gI G, 45, .inl (aN (va_up (shF rs q sz) q j))) := (fr_25 13 (by omega)).trans e_21
          have e_29 : w_23 10 = .inr (3, [.ref (gad G 11), .ref (gad G 12), .ref (gad G 13), .int (iN ((sz + 1 : Nat) : Int)), .int (iN pa)]) := by rw [hw_24]; exact va_up_self _ _ _
          refine lv_iload hx hb dX4_insert_126 (lv_at hl 4 rfl) ?_
          refine n_if_eq (tgt := 141) hx hb dX4_insert_128 (by decide) (by omega) (by omega) (fun c_128 => ?_) (fun c_128 => ?_)
          · exact r_v hx hb hr dX4_insert_141 hlocks hP hS (⟨(fun k h0 h1 h2 h3 => ((((((((fr_25 k (by omega)).trans (fr_18 k (by omega)))).trans (fr_11 k (by omega)))).trans (fr_4 k (by omega)))).trans (hfr16 k (by omega) (by omega) (by omega)))), (e_29.trans (by rw [show pa + b = pa by omega])), (by rw [hj]; exact e_26.trans (by rw [shF_end (by omega)])), (by rw [hj]; exact e_27.trans (by rw [shF_end (by omega)])), (by rw [hj]; exact e_28.trans (by rw [shF_end (by omega)]))⟩)
          · refine lv_aload_n hx hb dX4_insert_131 rfl (lv_at hl 0 rfl) ?_
            refine lv_dup hx hb dX4_insert_132 rfl ?_
            refine f_get (C := RX4) (T := TX4) (N := 5) hx hb hts (by decide +kernel) hown hK hP 10 (by omega) e_29 rfl 4 (by decide) (hts (.fieldLink RX4 26 "KeptMoving$Meetings" "passes" "I") (by decide +kernel)) (fun _ h9 => h9) rfl dX4_insert_133 ?_
            refine n_iconst hx hb dX4_insert_136 ?_
            refine n_iadd hx hb dX4_insert_137 ?_
            refine f_put (v := .int (iN (pa + 1))) (ty := .int) (C := RX4) (T := TX4) (N := 5) hx hb hts (by decide +kernel) tyX4 tyX4_ok nmX4 hown hK hP hS hAA 10 (by omega) e_29 rfl 4 (by decide) (hts (.fieldLink RX4 26 "KeptMoving$Meetings" "passes" "I") (by decide +kernel)) (fun _ h9 => h9) rfl (by decide +kernel) (rfl) (rfl) (Nat.le_of_ble_eq_true rfl) (rfl) dX4_insert_138 (fun H locs hP hS => ?_)
            have hP : PW G (va_up w_23 10 (.inr (3, [.ref (gad G 11), .ref (gad G 12), .ref (gad G 13), .int (iN ((sz + 1 : Nat) : Int)), .int (iN (pa + 1))]))) H := hP
            obtain ⟨w_30, hw_31⟩ : ∃ z : WF, z = va_up w_23 10 (.inr (3, [.ref (gad G 11), .ref (gad G 12), .ref (gad G 13), .int (iN ((sz + 1 : Nat) : Int)), .int (iN (pa + 1))])) := ⟨_, rfl⟩
            rw [← hw_31] at hP
            have fr_32 : ∀ k : Nat, k ≠ 10 → w_30 k = w_23 k := fun k h => by rw [hw_31]; exact va_up_ne _ _ h
            have e_33 : w_30 11 = .inl (gJ G, 45, .inr (.inl (aJ (va_up (shF ts q sz) q x)))) := (fr_32 11 (by omega)).trans e_26
            have e_34 : w_30 12 = .inl (gI G, 45, .inl (aN (va_up (shF os q sz) q i))) := (fr_32 12 (by omega)).trans e_27
            have e_35 : w_30 13 = .inl (gI G, 45, .inl (aN (va_up (shF rs q sz) q j))) := (fr_32 13 (by omega)).trans e_28
            have e_36 : w_30 10 = .inr (3, [.ref (gad G 11), .ref (gad G 12), .ref (gad G 13), .int (iN ((sz + 1 : Nat) : Int)), .int (iN (pa + 1))]) := by rw [hw_31]; exact va_up_self _ _ _
            exact r_v hx hb hr dX4_insert_141 hlocks hP hS (⟨(fun k h0 h1 h2 h3 => ((((((((((fr_32 k (by omega)).trans (fr_25 k (by omega)))).trans (fr_18 k (by omega)))).trans (fr_11 k (by omega)))).trans (fr_4 k (by omega)))).trans (hfr16 k (by omega) (by omega) (by omega)))), (e_36.trans (by rw [show pa + b = pa + 1 by omega])), (by rw [hj]; exact e_33.trans (by rw [shF_end (by omega)])), (by rw [hj]; exact e_34.trans (by rw [shF_end (by omega)])), (by rw [hj]; exact e_35.trans (by rw [shF_end (by omega)]))⟩)
        · refine lv_aload_n hx hb dX4_insert_21 rfl (lv_at hl 0 rfl) ?_
          refine f_get (C := RX4) (T := TX4) (N := 5) hx hb hts (by decide +kernel) hown hK hP 10 (by omega) e_1 rfl 0 (by decide) (hts (.fieldLink RX4 9 "KeptMoving$Meetings" "times" "[J") (by decide +kernel)) (fun _ h9 => h9) rfl dX4_insert_22 ?_
          refine lv_iload hx hb dX4_insert_25 (lv_at hl 5 rfl) ?_
          refine n_iconst hx hb dX4_insert_27 ?_
          refine n_isub hx hb dX4_insert_28 ?_
          rw [show ((q : Nat) : Int) - 1 = ((q - 1 : Nat) : Int) by omega]
          refine n_lald hx hb hK hP 11 (by omega) f16_0 (q - 1) rfl (by omega) (by decide) dX4_insert_29 ?_
          refine lv_lload_n hx hb dX4_insert_30 rfl (lv_at hl 1 rfl) ?_
          refine vp_callSi (va_Run.run (va_runSN (As := [.long (jN ((shF ts q sz) (q - 1))), .long (jN x)]) (rest := []) ⟨hx, hb, hml, hown, hts⟩ (c_X2_compare l ((shF ts q sz) (q - 1)) x (by rw [shF_lo (by omega)]; exact p1 (q - 1) (by omega)) (p2)) ⟨va_cnB 2 hts gX4_insert_X2_compare_n29 rfl rfl rfl (hK.nm 33 rfl) (hts (.initialized RX2) (by decide +kernel)) (by decide +kernel) ⟨Nat.le_of_ble_eq_true rfl, Nat.le_of_ble_eq_true rfl⟩, hts (.static yX2_compare) (by decide +kernel), trivial⟩ ⟨fun _ _ _ _ q => q, fun _ _ _ => rfl⟩ rfl rfl hl.1 rfl (lv_room (Nat.le_of_ble_eq_true rfl)) dX4_insert_31 ⟨Nat.zero_le _, Nat.zero_le _⟩)) (fun r_37 hr_37 => ?_)
          rw [show r_37 = iN (cmpI (((shF ts q sz) (q - 1)) / 256 * (x % 256)) (x / 256 * (((shF ts q sz) (q - 1)) % 256))) from hr_37]
          refine n_ifc_le (tgt := 91) hx hb dX4_insert_34 (by decide) (fun c_34 => ?_) (fun c_34 => ?_)
          · have hj : spotP (fun k => decide (x / 256 * (ts k % 256) < ts k / 256 * (x % 256))) sz = q := by rw [← i16_1]; exact spot_end (Or.inr (decide_eq_false (by rw [show shF ts q sz (q - 1) = ts (q - 1) from shF_lo (by omega)] at c_34; omega)))
            refine lv_aload_n hx hb dX4_insert_91 rfl (lv_at hl 0 rfl) ?_
            refine f_get (C := RX4) (T := TX4) (N := 5) hx hb hts (by decide +kernel) hown hK hP 10 (by omega) e_1 rfl 0 (by decide) (hts (.fieldLink RX4 9 "KeptMoving$Meetings" "times" "[J") (by decide +kernel)) (fun _ h9 => h9) rfl dX4_insert_92 ?_
            refine lv_iload hx hb dX4_insert_95 (lv_at hl 5 rfl) ?_
            refine lv_lload_n hx hb dX4_insert_97 rfl (lv_at hl 1 rfl) ?_
            refine n_last hx hb hK hP hS hAA 11 (by omega) f16_0 (fun _ => rfl) q rfl (by omega) (by decide) dX4_insert_98 (fun H locs hP hS => ?_)
            obtain ⟨w_38, hw_39⟩ : ∃ z : WF, z = va_up w2 11 (.inl (gJ G, 45, .inr (.inl (aJ (va_up (shF ts q sz) q x))))) := ⟨_, rfl⟩
            rw [← hw_39] at hP
            have fr_40 : ∀ k : Nat, k ≠ 11 → w_38 k = w2 k := fun k h => by rw [hw_39]; exact va_up_ne _ _ h
            have e_41 : w_38 11 = .inl (gJ G, 45, .inr (.inl (aJ (va_up (shF ts q sz) q x)))) := by rw [hw_39]; exact va_up_self _ _ _
            have e_42 : w_38 12 = .inl (gI G, 45, .inl (aN (shF os q sz))) := (fr_40 12 (by omega)).trans f16_1
            have e_43 : w_38 13 = .inl (gI G, 45, .inl (aN (shF rs q sz))) := (fr_40 13 (by omega)).trans f16_2
            have e_44 : w_38 10 = .inr (3, [.ref (gad G 11), .ref (gad G 12), .ref (gad G 13), .int (iN ((sz : Nat) : Int)), .int (iN pa)]) := (fr_40 10 (by omega)).trans e_1
            refine lv_aload_n hx hb dX4_insert_99 rfl (lv_at hl 0 rfl) ?_
            refine f_get (C := RX4) (T := TX4) (N := 5) hx hb hts (by decide +kernel) hown hK hP 10 (by omega) e_44 rfl 1 (by decide) (hts (.fieldLink RX4 15 "KeptMoving$Meetings" "ones" "[I") (by decide +kernel)) (fun _ h9 => h9) rfl dX4_insert_100 ?_
            refine lv_iload hx hb dX4_insert_103 (lv_at hl 5 rfl) ?_
            refine lv_iload_n hx hb dX4_insert_105 rfl (lv_at hl 2 rfl) ?_
            refine n_iast hx hb hK hP hS hAA 12 (by omega) e_42 (fun _ => rfl) q rfl (by omega) (by decide) dX4_insert_106 (fun H locs hP hS => ?_)
            obtain ⟨w_45, hw_46⟩ : ∃ z : WF, z = va_up w_38 12 (.inl (gI G, 45, .inl (aN (va_up (shF os q sz) q i)))) := ⟨_, rfl⟩
            rw [← hw_46] at hP
            have fr_47 : ∀ k : Nat, k ≠ 12 → w_45 k = w_38 k := fun k h => by rw [hw_46]; exact va_up_ne _ _ h
            have e_48 : w_45 11 = .inl (gJ G, 45, .inr (.inl (aJ (va_up (shF ts q sz) q x)))) := (fr_47 11 (by omega)).trans e_41
            have e_49 : w_45 12 = .inl (gI G, 45, .inl (aN (va_up (shF os q sz) q i))) := by rw [hw_46]; exact va_up_self _ _ _
            have e_50 : w_45 13 = .inl (gI G, 45, .inl (aN (shF rs q sz))) := (fr_47 13 (by omega)).trans e_43
            have e_51 : w_45 10 = .inr (3, [.ref (gad G 11), .ref (gad G 12), .ref (gad G 13), .int (iN ((sz : Nat) : Int)), .int (iN pa)]) := (fr_47 10 (by omega)).trans e_44
            refine lv_aload_n hx hb dX4_insert_107 rfl (lv_at hl 0 rfl) ?_
            refine f_get (C := RX4) (T := TX4) (N := 5) hx hb hts (by decide +kernel) hown hK hP 10 (by omega) e_51 rfl 2 (by decide) (hts (.fieldLink RX4 19 "KeptMoving$Meetings" "others" "[I") (by decide +kernel)) (fun _ h9 => h9) rfl dX4_insert_108 ?_
            refine lv_iload hx hb dX4_insert_111 (lv_at hl 5 rfl) ?_
            refine lv_iload hx hb dX4_insert_113 (lv_at hl 3 rfl) ?_
            refine n_iast hx hb hK hP hS hAA 13 (by omega) e_50 (fun _ => rfl) q rfl (by omega) (by decide) dX4_insert_115 (fun H locs hP hS => ?_)
            obtain ⟨w_52, hw_53⟩ : ∃ z : WF, z = va_up w_45 13 (.inl (gI G, 45, .inl (aN (va_up (shF rs q sz) q j)))) := ⟨_, rfl⟩
            rw [← hw_53] at hP
            have fr_54 : ∀ k : Nat, k ≠ 13 → w_52 k = w_45 k := fun k h => by rw [hw_53]; exact va_up_ne _ _ h
            have e_55 : w_52 11 = .inl (gJ G, 45, .inr (.inl (aJ (va_up (shF ts q sz) q x)))) := (fr_54 11 (by omega)).trans e_48
            have e_56 : w_52 12 = .inl (gI G, 45, .inl (aN (va_up (shF os q sz) q i))) := (fr_54 12 (by omega)).trans e_49
            have e_57 : w_52 13 = .inl (gI G, 45, .inl (aN (va_up (shF rs q sz) q j))) := by rw [hw_53]; exact va_up_self _ _ _
            have e_58 : w_52 10 = .inr (3, [.ref (gad G 11), .ref (gad G 12), .ref (gad G 13), .int (iN ((sz : Nat) : Int)), .int (iN pa)]) := (fr_54 10 (by omega)).trans e_51
            refine lv_aload_n hx hb dX4_insert_116 rfl (lv_at hl 0 rfl) ?_
            refine lv_dup hx hb dX4_insert_117 rfl ?_
            refine f_get (C := RX4) (T := TX4) (N := 5) hx hb hts (by decide +kernel) hown hK hP 10 (by omega) e_58 rfl 3 (by decide) (hts (.fieldLink RX4 22 "KeptMoving$Meetings" "size" "I") (by decide +kernel)) (fun _ h9 => h9) rfl dX4_insert_118 ?_
            refine n_iconst hx hb dX4_insert_121 ?_
            refine n_iadd hx hb dX4_insert_122 ?_
            rw [show ((sz : Nat) : Int) + 1 = ((sz + 1 : Nat) : Int) by omega]
            refine f_put (v := .int (iN ((sz + 1 : Nat) : Int))) (ty := .int) (C := RX4) (T := TX4) (N := 5) hx hb hts (by decide +kernel) tyX4 tyX4_ok nmX4 hown hK hP hS hAA 10 (by omega) e_58 rfl 3 (by decide) (hts (.fieldLink RX4 22 "KeptMoving$Meetings" "size" "I") (by decide +kernel)) (fun _ h9 => h9) rfl (by decide +kernel) (rfl) (rfl) (Nat.le_of_ble_eq_true rfl) (rfl) dX4_insert_123 (fun H locs hP hS => ?_)
            have hP : PW G (va_up w_52 10 (.inr (3, [.ref (gad G 11), .ref (gad G 12), .ref (gad G 13), .int (iN ((sz + 1 : Nat) : Int)), .int (iN pa)]))) H := hP
            obtain ⟨w_59, hw_60⟩ : ∃ z : WF, z = va_up w_52 10 (.inr (3, [.ref (gad G 11), .ref (gad G 12), .ref (gad G 13), .int (iN ((sz + 1 : Nat) : Int)), .int (iN pa)])) := ⟨_, rfl⟩
            rw [← hw_60] at hP
            have fr_61 : ∀ k : Nat, k ≠ 10 → w_59 k = w_52 k := fun k h => by rw [hw_60]; exact va_up_ne _ _ h
            have e_62 : w_59 11 = .inl (gJ G, 45, .inr (.inl (aJ (va_up (shF ts q sz) q x)))) := (fr_61 11 (by omega)).trans e_55
            have e_63 : w_59 12 = .inl (gI G, 45, .inl (aN (va_up (shF os q sz) q i))) := (fr_61 12 (by omega)).trans e_56
            have e_64 : w_59 13 = .inl (gI G, 45, .inl (aN (va_up (shF rs q sz) q j))) := (fr_61 13 (by omega)).trans e_57
            have e_65 : w_59 10 = .inr (3, [.ref (gad G 11), .ref (gad G 12), .ref (gad G 13), .int (iN ((sz + 1 : Nat) : Int)), .int (iN pa)]) := by rw [hw_60]; exact va_up_self _ _ _
            refine lv_iload hx hb dX4_insert_126 (lv_at hl 4 rfl) ?_
            refine n_if_eq (tgt := 141) hx hb dX4_insert_128 (by decide) (by omega) (by omega) (fun c_128 => ?_) (fun c_128 => ?_)
            · exact r_v hx hb hr dX4_insert_141 hlocks hP hS (⟨(fun k h0 h1 h2 h3 => ((((((((fr_61 k (by omega)).trans (fr_54 k (by omega)))).trans (fr_47 k (by omega)))).trans (fr_40 k (by omega)))).trans (hfr16 k (by omega) (by omega) (by omega)))), (e_65.trans (by rw [show pa + b = pa by omega])), (by rw [hj]; exact e_62.trans (by rw [shF_end (by omega)])), (by rw [hj]; exact e_63.trans (by rw [shF_end (by omega)])), (by rw [hj]; exact e_64.trans (by rw [shF_end (by omega)]))⟩)
            · refine lv_aload_n hx hb dX4_insert_131 rfl (lv_at hl 0 rfl) ?_
              refine lv_dup hx hb dX4_insert_132 rfl ?_
              refine f_get (C := RX4) (T := TX4) (N := 5) hx hb hts (by decide +kernel) hown hK hP 10 (by omega) e_65 rfl 4 (by decide) (hts (.fieldLink RX4 26 "KeptMoving$Meetings" "passes" "I") (by decide +kernel)) (fun _ h9 => h9) rfl dX4_insert_133 ?_
              refine n_iconst hx hb dX4_insert_136 ?_
              refine n_iadd hx hb dX4_insert_137 ?_
              refine f_put (v := .int (iN (pa + 1))) (ty := .int) (C := RX4) (T := TX4) (N := 5) hx hb hts (by decide +kernel) tyX4 tyX4_ok nmX4 hown hK hP hS hAA 10 (by omega) e_65 rfl 4 (by decide) (hts (.fieldLink RX4 26 "KeptMoving$Meetings" "passes" "I") (by decide +kernel)) (fun _ h9 => h9) rfl (by decide +kernel) (rfl) (rfl) (Nat.le_of_ble_eq_true rfl) (rfl) dX4_insert_138 (fun H locs hP hS => ?_)
              have hP : PW G (va_up w_59 10 (.inr (3, [.ref (gad G 11), .ref (gad G 12), .ref (gad G 13), .int (iN ((sz + 1 : Nat) : Int)), .int (iN (pa + 1))]))) H := hP
              obtain ⟨w_66, hw_67⟩ : ∃ z : WF, z = va_up w_59 10 (.inr (3, [.ref (gad G 11), .ref (gad G 12), .ref (gad G 13), .int (iN ((sz + 1 : Nat) : Int)), .int (iN (pa + 1))])) := ⟨_, rfl⟩
              rw [← hw_67] at hP
              have fr_68 : ∀ k : Nat, k ≠ 10 → w_66 k = w_59 k := fun k h => by rw [hw_67]; exact va_up_ne _ _ h
              have e_69 : w_66 11 = .inl (gJ G, 45, .inr (.inl (aJ (va_up (shF ts q sz) q x)))) := (fr_68 11 (by omega)).trans e_62
              have e_70 : w_66 12 = .inl (gI G, 45, .inl (aN (va_up (shF os q sz) q i))) := (fr_68 12 (by omega)).trans e_63
              have e_71 : w_66 13 = .inl (gI G, 45, .inl (aN (va_up (shF rs q sz) q j))) := (fr_68 13 (by omega)).trans e_64
              have e_72 : w_66 10 = .inr (3, [.ref (gad G 11), .ref (gad G 12), .ref (gad G 13), .int (iN ((sz + 1 : Nat) : Int)), .int (iN (pa + 1))]) := by rw [hw_67]; exact va_up_self _ _ _
              exact r_v hx hb hr dX4_insert_141 hlocks hP hS (⟨(fun k h0 h1 h2 h3 => ((((((((((fr_68 k (by omega)).trans (fr_61 k (by omega)))).trans (fr_54 k (by omega)))).trans (fr_47 k (by omega)))).trans (fr_40 k (by omega)))).trans (hfr16 k (by omega) (by omega) (by omega)))), (e_72.trans (by rw [show pa + b = pa + 1 by omega])), (by rw [hj]; exact e_69.trans (by rw [shF_end (by omega)])), (by rw [hj]; exact e_70.trans (by rw [shF_end (by omega)])), (by rw [hj]; exact e_71.trans (by rw [shF_end (by omega)]))⟩)
          · rw [show shF ts q sz (q - 1) = ts (q - 1) from shF_lo (by omega)] at c_34
            refine lv_aload_n hx hb dX4_insert_37 rfl (lv_at hl 0 rfl) ?_
            refine f_get (C := RX4) (T := TX4) (N := 5) hx hb hts (by decide +kernel) hown hK hP 10 (by omega) e_1 rfl 0 (by decide) (hts (.fieldLink RX4 9 "KeptMoving$Meetings" "times" "[J") (by decide +kernel)) (fun _ h9 => h9) rfl dX4_insert_38 ?_
            refine lv_iload hx hb dX4_insert_41 (lv_at hl 5 rfl) ?_
            refine lv_aload_n hx hb dX4_insert_43 rfl (lv_at hl 0 rfl) ?_
            refine f_get (C := RX4) (T := TX4) (N := 5) hx hb hts (by decide +kernel) hown hK hP 10 (by omega) e_1 rfl 0 (by decide) (hts (.fieldLink RX4 9 "KeptMoving$Meetings" "times" "[J") (by decide +kernel)) (fun _ h9 => h9) rfl dX4_insert_44 ?_
            refine lv_iload hx hb dX4_insert_47 (lv_at hl 5 rfl) ?_
            refine n_iconst hx hb dX4_insert_49 ?_
            refine n_isub hx hb dX4_insert_50 ?_
            rw [show ((q : Nat) : Int) - 1 = ((q - 1 : Nat) : Int) by omega]
            refine n_lald hx hb hK hP 11 (by omega) f16_0 (q - 1) rfl (by omega) (by decide) dX4_insert_51 ?_
            refine n_last hx hb hK hP hS hAA 11 (by omega) f16_0 (fun _ => rfl) q rfl (by omega) (by decide) dX4_insert_52 (fun H locs hP hS => ?_)
            obtain ⟨w_73, hw_74⟩ : ∃ z : WF, z = va_up w2 11 (.inl (gJ G, 45, .inr (.inl (aJ (va_up (shF ts q sz) q ((shF ts q sz) (q - 1))))))) := ⟨_, rfl⟩
            rw [← hw_74] at hP
            have fr_75 : ∀ k : Nat, k ≠ 11 → w_73 k = w2 k := fun k h => by rw [hw_74]; exact va_up_ne _ _ h
            have e_76 : w_73 11 = .inl (gJ G, 45, .inr (.inl (aJ (va_up (shF ts q sz) q ((shF ts q sz) (q - 1)))))) := by rw [hw_74]; exact va_up_self _ _ _
            have e_77 : w_73 12 = .inl (gI G, 45, .inl (aN (shF os q sz))) := (fr_75 12 (by omega)).trans f16_1
            have e_78 : w_73 13 = .inl (gI G, 45, .inl (aN (shF rs q sz))) := (fr_75 13 (by omega)).trans f16_2
            have e_79 : w_73 10 = .inr (3, [.ref (gad G 11), .ref (gad G 12), .ref (gad G 13), .int (iN ((sz : Nat) : Int)), .int (iN pa)]) := (fr_75 10 (by omega)).trans e_1
            refine lv_aload_n hx hb dX4_insert_53 rfl (lv_at hl 0 rfl) ?_
            refine f_get (C := RX4) (T := TX4) (N := 5) hx hb hts (by decide +kernel) hown hK hP 10 (by omega) e_79 rfl 1 (by decide) (hts (.fieldLink RX4 15 "KeptMoving$Meetings" "ones" "[I") (by decide +kernel)) (fun _ h9 => h9) rfl dX4_insert_54 ?_
            refine lv_iload hx hb dX4_insert_57 (lv_at hl 5 rfl) ?_
            refine lv_aload_n hx hb dX4_insert_59 rfl (lv_at hl 0 rfl) ?_
            refine f_get (C := RX4) (T := TX4) (N := 5) hx hb hts (by decide +kernel) hown hK hP 10 (by omega) e_79 rfl 1 (by decide) (hts (.fieldLink RX4 15 "KeptMoving$Meetings" "ones" "[I") (by decide +kernel)) (fun _ h9 => h9) rfl dX4_insert_60 ?_
            refine lv_iload hx hb dX4_insert_63 (lv_at hl 5 rfl) ?_
            refine n_iconst hx hb dX4_insert_65 ?_
            refine n_isub hx hb dX4_insert_66 ?_
            rw [show ((q : Nat) : Int) - 1 = ((q - 1 : Nat) : Int) by omega]
            refine n_iald hx hb hK hP 12 (by omega) e_77 (q - 1) rfl (by omega) (by decide) dX4_insert_67 ?_
            refine n_iast hx hb hK hP hS hAA 12 (by omega) e_77 (fun _ => rfl) q rfl (by omega) (by decide) dX4_insert_68 (fun H locs hP hS => ?_)
            obtain ⟨w_80, hw_81⟩ : ∃ z : WF, z = va_up w_73 12 (.inl (gI G, 45, .inl (aN (va_up (shF os q sz) q ((shF os q sz) (q - 1)))))) := ⟨_, rfl⟩
            rw [← hw_81] at hP
            have fr_82 : ∀ k : Nat, k ≠ 12 → w_80 k = w_73 k := fun k h => by rw [hw_81]; exact va_up_ne _ _ h
            have e_83 : w_80 11 = .inl (gJ G, 45, .inr (.inl (aJ (va_up (shF ts q sz) q ((shF ts q sz) (q - 1)))))) := (fr_82 11 (by omega)).trans e_76
            have e_84 : w_80 12 = .inl (gI G, 45, .inl (aN (va_up (shF os q sz) q ((shF os q sz) (q - 1))))) := by rw [hw_81]; exact va_up_self _ _ _
            have e_85 : w_80 13 = .inl (gI G, 45, .inl (aN (shF rs q sz))) := (fr_82 13 (by omega)).trans e_78
            have e_86 : w_80 10 = .inr (3, [.ref (gad G 11), .ref (gad G 12), .ref (gad G 13), .int (iN ((sz : Nat) : Int)), .int (iN pa)]) := (fr_82 10 (by omega)).trans e_79
            refine lv_aload_n hx hb dX4_insert_69 rfl (lv_at hl 0 rfl) ?_
            refine f_get (C := RX4) (T := TX4) (N := 5) hx hb hts (by decide +kernel) hown hK hP 10 (by omega) e_86 rfl 2 (by decide) (hts (.fieldLink RX4 19 "KeptMoving$Meetings" "others" "[I") (by decide +kernel)) (fun _ h9 => h9) rfl dX4_insert_70 ?_
            refine lv_iload hx hb dX4_insert_73 (lv_at hl 5 rfl) ?_
            refine lv_aload_n hx hb dX4_insert_75 rfl (lv_at hl 0 rfl) ?_
            refine f_get (C := RX4) (T := TX4) (N := 5) hx hb hts (by decide +kernel) hown hK hP 10 (by omega) e_86 rfl 2 (by decide) (hts (.fieldLink RX4 19 "KeptMoving$Meetings" "others" "[I") (by decide +kernel)) (fun _ h9 => h9) rfl dX4_insert_76 ?_
            refine lv_iload hx hb dX4_insert_79 (lv_at hl 5 rfl) ?_
            refine n_iconst hx hb dX4_insert_81 ?_
            refine n_isub hx hb dX4_insert_82 ?_
            rw [show ((q : Nat) : Int) - 1 = ((q - 1 : Nat) : Int) by omega]
            refine n_iald hx hb hK hP 13 (by omega) e_85 (q - 1) rfl (by omega) (by decide) dX4_insert_83 ?_
            refine n_iast hx hb hK hP hS hAA 13 (by omega) e_85 (fun _ => rfl) q rfl (by omega) (by decide) dX4_insert_84 (fun H locs hP hS => ?_)
            obtain ⟨w_87, hw_88⟩ : ∃ z : WF, z = va_up w_80 13 (.inl (gI G, 45, .inl (aN (va_up (shF rs q sz) q ((shF rs q sz) (q - 1)))))) := ⟨_, rfl⟩
            rw [← hw_88] at hP
            have fr_89 : ∀ k : Nat, k ≠ 13 → w_87 k = w_80 k := fun k h => by rw [hw_88]; exact va_up_ne _ _ h
            have e_90 : w_87 11 = .inl (gJ G, 45, .inr (.inl (aJ (va_up (shF ts q sz) q ((shF ts q sz) (q - 1)))))) := (fr_89 11 (by omega)).trans e_83
            have e_91 : w_87 12 = .inl (gI G, 45, .inl (aN (va_up (shF os q sz) q ((shF os q sz) (q - 1))))) := (fr_89 12 (by omega)).trans e_84
            have e_92 : w_87 13 = .inl (gI G, 45, .inl (aN (va_up (shF rs q sz) q ((shF rs q sz) (q - 1))))) := by rw [hw_88]; exact va_up_self _ _ _
            have e_93 : w_87 10 = .inr (3, [.ref (gad G 11), .ref (gad G 12), .ref (gad G 13), .int (iN ((sz : Nat) : Int)), .int (iN pa)]) := (fr_89 10 (by omega)).trans e_86
            refine lv_iinc (v := iN ((q - 1 : Nat) : Int)) (lv' := [(6, .int (iN ((q - 1 : Nat) : Int))), (0, .ref (gad G 10)), (1, .long (jN x)), (3, .int (iN i)), (4, .int (iN j)), (5, .int (iN b))]) hx hb dX4_insert_85 hl (k := 5) rfl (iN_decN (by omega)) (by decide) rfl (fun ls hl => ?_)
            refine lv_goto (tgt := 16) hx hb dX4_insert_88 (by decide) ?_
            exact ih16 (q - 1) w_87 _ _ _ (by omega) (by rw [← i16_1]; exact (spot_step (by omega) (decide_eq_true (by omega))).symm) (by omega) (e_90.trans (by rw [shF_step (by omega) (by omega)])) (e_91.trans (by rw [shF_step (by omega) (by omega)])) (e_92.trans (by rw [shF_step (by omega) (by omega)])) (fun k h0 h1 h2 => ((((((fr_89 k (by omega)).trans (fr_82 k (by omega)))).trans (fr_75 k (by omega)))).trans (hfr16 k (by omega) (by omega) (by omega)))) hP hS (lv_sub hl [1, 2, 3, 4, 5, 0] rfl)
    exact K16 (sz + 1) (sz) w _ _ _ (by omega) (rfl) (by omega) (e1.trans (by rw [shF_0])) (e2.trans (by rw [shF_0])) (e3.trans (by rw [shF_0])) (fun k _ _ _ => rfl) hP hS (lv_sub hl [1, 2, 3, 4, 5, 0] rfl)
  · exact absurd p0 (by omega)

set_option maxHeartbeats 4000000 in
set_option maxRecDepth 100000 in
theorem c_X4_tell (l : Launch) (G : GE) (w : WF) (sz : Nat) (pa : Int) (ts : Nat → Int) (os : Nat → Int) (rs : Nat → Int) (k : Int) (wh : Int) (e0 : w 10 = .inr (3, [.ref (gad G 11), .ref (gad G 12), .ref (gad G 13), .int (iN ((sz : Nat) : Int)), .int (iN pa)])) (e1 : w 11 = .inl (gJ G, 45, .inr (.inl (aJ ts)))) (e2 : w 12 = .inl (gI G, 45, .inl (aN os))) (e3 : w 13 = .inl (gI G, 45, .inl (aN rs))) (p0 : sz ≤ 45) (p1 : -2147483648 ≤ k ∧ k < 2147483648) (p2 : 0 ≤ wh ∧ wh ≤ 3) (p3 : ∀ k : Nat, k < sz → -30000000000 ≤ ts k ∧ ts k ≤ 30000000000) : Met l yX4_tell wsX4_tell ({ frames := 1, cells := 0, slots := 0, locals := 21 }) (PcG G w [.ref (gad G 10), .int (iN k), .int (iN wh)]) (vp_Si (fun r => r = iN (if 0 ≤ k ∧ k < (sz : Int) then (if wh = 0 then ts k.toNat / 256 else if wh = 1 then ts k.toNat % 256 else if wh = 2 then os k.toNat else rs k.toNat) else -1))) 0 0 (fun _ => False) := by
  refine Met.ofW (cc := cX4_tell) (maxL := 3) (ret := (some .int)) (by decide) rfl ?_
  intro p e s m args below meth c s₁ B hml hv
  obtain ⟨rfl, hP, hK⟩ := hv
  have hx := B.exec
  have hb := B.bytes
  have hr := B.returns
  have hts := atoms_spec (ws := wsX4_tell) B.pre
  have hown : s.vm.findClass RX4 = some m.cls := findClass_of_methodNamed B.named
  have hlocks := B.notSynchronized
  have hl := lv_entry ([.ref (gad G 10), .int (iN k), .int (iN wh)]) (n := 3) (Nat.le_of_ble_eq_true rfl)
  rw [lg_entry_eq]
  generalize (lg_sl ([.ref (gad G 10), .int (iN k), .int (iN wh)]) ++ List.replicate (3 - (lg_sl ([.ref (gad G 10), .int (iN k), .int (iN wh)])).length) Slot.unset).toArray = ls at hl ⊢
  have hl : lv_has ls 3 [(0, .ref (gad G 10)), (1, .int (iN k)), (2, .int (iN wh))] := hl
  refine lv_iload_n hx hb dX4_tell_0 rfl (lv_at hl 1 rfl) ?_
  refine n_if_lt (tgt := 12) hx hb dX4_tell_1 (by decide) (by omega) (by omega) (fun c_1 => ?_) (fun c_1 => ?_)
  · refine n_iconst hx hb dX4_tell_12 ?_
    exact r_si hx hb hr dX4_tell_13 hlocks (show _ = iN (if 0 ≤ k ∧ k < (sz : Int) then (if wh = 0 then ts k.toNat / 256 else if wh = 1 then ts k.toNat % 256 else if wh = 2 then os k.toNat else rs k.toNat) else -1) by rw [if_neg (by omega)])
  · refine lv_iload_n hx hb dX4_tell_4 rfl (lv_at hl 1 rfl) ?_
    refine lv_aload_n hx hb dX4_tell_5 rfl (lv_at hl 0 rfl) ?_
    refine f_get (C := RX4) (T := TX4) (N := 5) hx hb hts (by decide +kernel) hown hK hP 10 (by omega) e0 rfl 3 (by decide) (hts (.fieldLink RX4 22 "KeptMoving$Meetings" "size" "I") (by decide +kernel)) (fun _ h9 => h9) rfl dX4_tell_6 ?_
    refine n_icmp_lt (tgt := 14) hx hb dX4_tell_9 (by decide) (by omega) (by omega) (by omega) (by omega) (fun c_9 => ?_) (fun c_9 => ?_)
    · refine lv_iload_n hx hb dX4_tell_14 rfl (lv_at hl 2 rfl) ?_
      by_cases sw15_0 : wh = 0
      · refine n_tabIn (v := 0) (off := 25) (tgt := 40) hx hb sw15_0 (by omega) (by omega) dX4_tell_15 (by decide) (by decide) (by decide) (by decide) ?_
        refine lv_aload_n hx hb dX4_tell_40 rfl (lv_at hl 0 rfl) ?_
        refine f_get (C := RX4) (T := TX4) (N := 5) hx hb hts (by decide +kernel) hown hK hP 10 (by omega) e0 rfl 0 (by decide) (hts (.fieldLink RX4 9 "KeptMoving$Meetings" "times" "[J") (by decide +kernel)) (fun _ h9 => h9) rfl dX4_tell_41 ?_
        refine lv_iload_n hx hb dX4_tell_44 rfl (lv_at hl 1 rfl) ?_
        refine n_lald hx hb hK hP 11 (by omega) e1 k.toNat (by omega) (by omega) (by decide) dX4_tell_45 ?_
        refine vp_callSi (va_Run.run (va_runSN (As := [.long (jN (ts k.toNat))]) (rest := []) ⟨hx, hb, hml, hown, hts⟩ (c_X2_upper l (ts k.toNat) (p3 _ (by omega))) ⟨va_cnB 1 hts gX4_tell_X2_upper_n35 rfl rfl rfl (hK.nm 42 rfl) (hts (.initialized RX2) (by decide +kernel)) (by decide +kernel) ⟨Nat.le_of_ble_eq_true rfl, Nat.le_of_ble_eq_true rfl⟩, hts (.static yX2_upper) (by decide +kernel), trivial⟩ ⟨fun _ _ _ _ q => q, fun _ _ _ => rfl⟩ rfl rfl hl.1 rfl (lv_room (Nat.le_of_ble_eq_true rfl)) dX4_tell_46 ⟨Nat.zero_le _, Nat.zero_le _⟩)) (fun r_1 hr_1 => ?_)
        rw [show r_1 = iN ((ts k.toNat) / 256) from hr_1]
        exact r_si hx hb hr dX4_tell_49 hlocks (show _ = iN (if 0 ≤ k ∧ k < (sz : Int) then (if wh = 0 then ts k.toNat / 256 else if wh = 1 then ts k.toNat % 256 else if wh = 2 then os k.toNat else rs k.toNat) else -1) by rw [if_pos (by omega), if_pos (by omega)])
      by_cases sw15_1 : wh = 1
      · refine n_tabIn (v := 1) (off := 35) (tgt := 50) hx hb sw15_1 (by omega) (by omega) dX4_tell_15 (by decide) (by decide) (by decide) (by decide) ?_
        refine lv_aload_n hx hb dX4_tell_50 rfl (lv_at hl 0 rfl) ?_
        refine f_get (C := RX4) (T := TX4) (N := 5) hx hb hts (by decide +kernel) hown hK hP 10 (by omega) e0 rfl 0 (by decide) (hts (.fieldLink RX4 9 "KeptMoving$Meetings" "times" "[J") (by decide +kernel)) (fun _ h9 => h9) rfl dX4_tell_51 ?_
        refine lv_iload_n hx hb dX4_tell_54 rfl (lv_at hl 1 rfl) ?_
        refine n_lald hx hb hK hP 11 (by omega) e1 k.toNat (by omega) (by omega) (by decide) dX4_tell_55 ?_
        refine vp_callSi (va_Run.run (va_runSN (As := [.long (jN (ts k.toNat))]) (rest := []) ⟨hx, hb, hml, hown, hts⟩ (c_X2_lower l (ts k.toNat) (p3 _ (by omega))) ⟨va_cnB 1 hts gX4_tell_X2_lower_n39 rfl rfl rfl (hK.nm 43 rfl) (hts (.initialized RX2) (by decide +kernel)) (by decide +kernel) ⟨Nat.le_of_ble_eq_true rfl, Nat.le_of_ble_eq_true rfl⟩, hts (.static yX2_lower) (by decide +kernel), trivial⟩ ⟨fun _ _ _ _ q => q, fun _ _ _ => rfl⟩ rfl rfl hl.1 rfl (lv_room (Nat.le_of_ble_eq_true rfl)) dX4_tell_56 ⟨Nat.zero_le _, Nat.zero_le _⟩)) (fun r_2 hr_2 => ?_)
        rw [show r_2 = iN ((ts k.toNat) % 256) from hr_2]
        exact r_si hx hb hr dX4_tell_59 hlocks (show _ = iN (if 0 ≤ k ∧ k < (sz : Int) then (if wh = 0 then ts k.toNat / 256 else if wh = 1 then ts k.toNat % 256 else if wh = 2 then os k.toNat else rs k.toNat) else -1) by rw [if_pos (by omega), if_neg (by omega), if_pos (by omega)])
      by_cases sw15_2 : wh = 2
      · refine n_tabIn (v := 2) (off := 45) (tgt := 60) hx hb sw15_2 (by omega) (by omega) dX4_tell_15 (by decide) (by decide) (by decide) (by decide) ?_
        refine lv_aload_n hx hb dX4_tell_60 rfl (lv_at hl 0 rfl) ?_
        refine f_get (C := RX4) (T := TX4) (N := 5) hx hb hts (by decide +kernel) hown hK hP 10 (by omega) e0 rfl 1 (by decide) (hts (.fieldLink RX4 15 "KeptMoving$Meetings" "ones" "[I") (by decide +kernel)) (fun _ h9 => h9) rfl dX4_tell_61 ?_
        refine lv_iload_n hx hb dX4_tell_64 rfl (lv_at hl 1 rfl) ?_
        refine n_iald hx hb hK hP 12 (by omega) e2 k.toNat (by omega) (by omega) (by decide) dX4_tell_65 ?_
        exact r_si hx hb hr dX4_tell_66 hlocks (show _ = iN (if 0 ≤ k ∧ k < (sz : Int) then (if wh = 0 then ts k.toNat / 256 else if wh = 1 then ts k.toNat % 256 else if wh = 2 then os k.toNat else rs k.toNat) else -1) by rw [if_pos (by omega), if_neg (by omega), if_neg (by omega), if_pos (by omega)])
      refine n_tabOut (tgt := 67) hx hb (by omega) (by omega) dX4_tell_15 (by omega) (by decide) ?_
      refine lv_aload_n hx hb dX4_tell_67 rfl (lv_at hl 0 rfl) ?_
      refine f_get (C := RX4) (T := TX4) (N := 5) hx hb hts (by decide +kernel) hown hK hP 10 (by omega) e0 rfl 2 (by decide) (hts (.fieldLink RX4 19 "KeptMoving$Meetings" "others" "[I") (by decide +kernel)) (fun _ h9 => h9) rfl dX4_tell_68 ?_
      refine lv_iload_n hx hb dX4_tell_71 rfl (lv_at hl 1 rfl) ?_
      refine n_iald hx hb hK hP 13 (by omega) e3 k.toNat (by omega) (by omega) (by decide) dX4_tell_72 ?_
      exact r_si hx hb hr dX4_tell_73 hlocks (show _ = iN (if 0 ≤ k ∧ k < (sz : Int) then (if wh = 0 then ts k.toNat / 256 else if wh = 1 then ts k.toNat % 256 else if wh = 2 then os k.toNat else rs k.toNat) else -1) by rw [if_pos (by omega), if_neg (by omega), if_neg (by omega), if_neg (by omega)])
    · refine n_iconst hx hb dX4_tell_12 ?_
      exact r_si hx hb hr dX4_tell_13 hlocks (show _ = iN (if 0 ≤ k ∧ k < (sz : Int) then (if wh = 0 then ts k.toNat / 256 else if wh = 1 then ts k.toNat % 256 else if wh = 2 then os k.toNat else rs k.toNat) else -1) by rw [if_neg (by omega)])

set_option maxHeartbeats 4000000 in
set_option maxRecDepth 100000 in
theorem c_X7_keepAll (l : Launch) (G : GE) (w : WF) (f : Int) (un : Int) (bg : Int) (en : Int) (no : Int) (e0 : w 14 = .inr (6, [.int (iN f), .long (jN un), .long (jN bg), .long (jN en), .int (iN no)])) (p0 : -100000 ≤ f ∧ f ≤ 100000) : Met l yX7_keepAll wsX7_keepAll ({ frames := 1, cells := 0, slots := 0, locals := 20 }) (PcG G w [.ref (gad G 14)]) (QV G (fun w1 => (∀ k : Nat, k ≠ 14 → w1 k = w k) ∧ w1 14 = .inr (6, [.int (iN f), .long (jN un), .long (jN (f * 256 + 1)), .long (jN un), .int (iN 0)]))) 0 0 (AA G) := by
  refine Met.ofW (cc := cX7_keepAll) (maxL := 1) (ret := none) (by decide) rfl ?_
  intro p e s m args below meth c s₁ B hml hv
  obtain ⟨rfl, hP, hK⟩ := hv
  have hx := B.exec
  have hb := B.bytes
  have hr := B.returns
  have hts := atoms_spec (ws := wsX7_keepAll) B.pre
  have hown : s.vm.findClass RX7 = some m.cls := findClass_of_methodNamed B.named
  have hlocks := B.notSynchronized
  have hS : va_S (AA G) s.heap s.heap [] := va_S.rf
  have hAA : ∀ q, AA G q → AA G q := fun _ h => h
  have hl := lv_entry ([.ref (gad G 14)]) (n := 1) (Nat.le_of_ble_eq_true rfl)
  rw [lg_entry_eq]
  generalize (lg_sl ([.ref (gad G 14)]) ++ List.replicate (1 - (lg_sl ([.ref (gad G 14)])).length) Slot.unset).toArray = ls at hl ⊢
  have hl : lv_has ls 1 [(0, .ref (gad G 14))] := hl
  refine lv_aload_n hx hb dX7_keepAll_0 rfl (lv_at hl 0 rfl) ?_
  refine lv_aload_n hx hb dX7_keepAll_1 rfl (lv_at hl 0 rfl) ?_
  refine f_get (C := RX7) (T := TX7) (N := 5) hx hb hts (by decide +kernel) hown hK hP 14 (by omega) e0 rfl 0 (by decide) (hts (.fieldLink RX7 7 "KeptMoving$Stretch" "from" "I") (by decide +kernel)) (fun _ h9 => h9) rfl dX7_keepAll_2 ?_
  refine vp_callSl (va_Run.run (va_runSN (As := [.int (iN f)]) (rest := [.ref (gad G 14)]) ⟨hx, hb, hml, hown, hts⟩ (c_X2_whole l f (by omega)) ⟨va_cnB 1 hts gX7_keepAll_X2_whole_n13 rfl rfl rfl (hK.nm 46 rfl) (hts (.initialized RX2) (by decide +kernel)) (by decide +kernel) ⟨Nat.le_of_ble_eq_true rfl, Nat.le_of_ble_eq_true rfl⟩, hts (.static yX2_whole) (by decide +kernel), trivial⟩ ⟨fun _ _ _ _ q => q, fun _ _ _ => rfl⟩ rfl rfl hl.1 rfl (lv_room (Nat.le_of_ble_eq_true rfl)) dX7_keepAll_5 ⟨Nat.zero_le _, Nat.zero_le _⟩)) (fun r_1 hr_1 => ?_)
  rw [show r_1 = jN (f * 256 + 1) from hr_1]
  refine f_put (v := .long (jN (f * 256 + 1))) (ty := .long) (C := RX7) (T := TX7) (N := 5) hx hb hts (by decide +kernel) tyX7 tyX7_ok nmX7 hown hK hP hS hAA 14 (by omega) e0 rfl 2 (by decide) (hts (.fieldLink RX7 26 "KeptMoving$Stretch" "begin" "J") (by decide +kernel)) (fun _ h9 => h9) rfl (by decide +kernel) (rfl) (rfl) (Nat.le_of_ble_eq_true rfl) (rfl) dX7_keepAll_8 (fun H locs hP hS => ?_)
  have hP : PW G (va_up w 14 (.inr (6, [.int (iN f), .long (jN un), .long (jN (f * 256 + 1)), .long (jN en), .int (iN no)]))) H := hP
  obtain ⟨w_2, hw_3⟩ : ∃ z : WF, z = va_up w 14 (.inr (6, [.int (iN f), .long (jN un), .long (jN (f * 256 + 1)), .long (jN en), .int (iN no)])) := ⟨_, rfl⟩
  rw [← hw_3] at hP
  have fr_4 : ∀ k : Nat, k ≠ 14 → w_2 k = w k := fun k h => by rw [hw_3]; exact va_up_ne _ _ h
  have e_5 : w_2 14 = .inr (6, [.int (iN f), .long (jN un), .long (jN (f * 256 + 1)), .long (jN en), .int (iN no)]) := by rw [hw_3]; exact va_up_self _ _ _
  refine lv_aload_n hx hb dX7_keepAll_11 rfl (lv_at hl 0 rfl) ?_
  refine lv_aload_n hx hb dX7_keepAll_12 rfl (lv_at hl 0 rfl) ?_
  refine f_get (C := RX7) (T := TX7) (N := 5) hx hb hts (by decide +kernel) hown hK hP 14 (by omega) e_5 rfl 1 (by decide) (hts (.fieldLink RX7 19 "KeptMoving$Stretch" "until" "J") (by decide +kernel)) (fun _ h9 => h9) rfl dX7_keepAll_13 ?_
  refine f_put (v := .long (jN un)) (ty := .long) (C := RX7) (T := TX7) (N := 5) hx hb hts (by decide +kernel) tyX7 tyX7_ok nmX7 hown hK hP hS hAA 14 (by omega) e_5 rfl 3 (by decide) (hts (.fieldLink RX7 29 "KeptMoving$Stretch" "end" "J") (by decide +kernel)) (fun _ h9 => h9) rfl (by decide +kernel) (rfl) (rfl) (Nat.le_of_ble_eq_true rfl) (rfl) dX7_keepAll_16 (fun H locs hP hS => ?_)
  have hP : PW G (va_up w_2 14 (.inr (6, [.int (iN f), .long (jN un), .long (jN (f * 256 + 1)), .long (jN un), .int (iN no)]))) H := hP
  obtain ⟨w_6, hw_7⟩ : ∃ z : WF, z = va_up w_2 14 (.inr (6, [.int (iN f), .long (jN un), .long (jN (f * 256 + 1)), .long (jN un), .int (iN no)])) := ⟨_, rfl⟩
  rw [← hw_7] at hP
  have fr_8 : ∀ k : Nat, k ≠ 14 → w_6 k = w_2 k := fun k h => by rw [hw_7]; exact va_up_ne _ _ h
  have e_9 : w_6 14 = .inr (6, [.int (iN f), .long (jN un), .long (jN (f * 256 + 1)), .long (jN un), .int (iN no)]) := by rw [hw_7]; exact va_up_self _ _ _
  refine lv_aload_n hx hb dX7_keepAll_19 rfl (lv_at hl 0 rfl) ?_
  refine n_iconst hx hb dX7_keepAll_20 ?_
  refine f_put (v := .int (iN 0)) (ty := .boolean) (C := RX7) (T := TX7) (N := 5) hx hb hts (by decide +kernel) tyX7 tyX7_ok nmX7 hown hK hP hS hAA 14 (by omega) e_9 rfl 4 (by decide) (hts (.fieldLink RX7 32 "KeptMoving$Stretch" "isNothing" "Z") (by decide +kernel)) (fun _ h9 => h9) rfl (by decide +kernel) (rfl) (rfl) (Nat.le_of_ble_eq_true rfl) (rfl) dX7_keepAll_21 (fun H locs hP hS => ?_)
  have hP : PW G (va_up w_6 14 (.inr (6, [.int (iN f), .long (jN un), .long (jN (f * 256 + 1)), .long (jN un), .int (iN 0)]))) H := hP
  obtain ⟨w_10, hw_11⟩ : ∃ z : WF, z = va_up w_6 14 (.inr (6, [.int (iN f), .long (jN un), .long (jN (f * 256 + 1)), .long (jN un), .int (iN 0)])) := ⟨_, rfl⟩
  rw [← hw_11] at hP
  have fr_12 : ∀ k : Nat, k ≠ 14 → w_10 k = w_6 k := fun k h => by rw [hw_11]; exact va_up_ne _ _ h
  have e_13 : w_10 14 = .inr (6, [.int (iN f), .long (jN un), .long (jN (f * 256 + 1)), .long (jN un), .int (iN 0)]) := by rw [hw_11]; exact va_up_self _ _ _
  exact r_v hx hb hr dX7_keepAll_24 hlocks hP hS (⟨(fun k h0 => ((((fr_12 k (by omega)).trans (fr_8 k (by omega)))).trans (fr_4 k (by omega)))), e_13⟩)

set_option maxHeartbeats 4000000 in
set_option maxRecDepth 100000 in
theorem c_X7_open (l : Launch) (G : GE) (w : WF) (f : Int) (un : Int) (bg : Int) (en : Int) (no : Int) (a : Int) (b : Int) (e0 : w 14 = .inr (6, [.int (iN f), .long (jN un), .long (jN bg), .long (jN en), .int (iN no)])) (p0 : -100000 ≤ a ∧ a ≤ 100000) (p1 : -100000 ≤ b ∧ b ≤ 100000) : Met l yX7_open wsX7_open ({ frames := 2, cells := 0, slots := 0, locals := 40 }) (PcG G w [.ref (gad G 14), .int (iN a), .int (iN b)]) (QV G (fun w1 => (∀ k : Nat, k ≠ 14 → w1 k = w k) ∧ w1 14 = .inr (6, [.int (iN a), .long (jN (b * 256 + 1)), .long (jN (a * 256 + 1)), .long (jN (b * 256 + 1)), .int (iN 0)]))) 0 0 (AA G) := by
  refine Met.ofW (cc := cX7_open) (maxL := 3) (ret := none) (by decide) rfl ?_
  intro p e s m args below meth c s₁ B hml hv
  obtain ⟨rfl, hP, hK⟩ := hv
  have hx := B.exec
  have hb := B.bytes
  have hr := B.returns
  have hts := atoms_spec (ws := wsX7_open) B.pre
  have hown : s.vm.findClass RX7 = some m.cls := findClass_of_methodNamed B.named
  have hlocks := B.notSynchronized
  have hS : va_S (AA G) s.heap s.heap [] := va_S.rf
  have hAA : ∀ q, AA G q → AA G q := fun _ h => h
  have hl := lv_entry ([.ref (gad G 14), .int (iN a), .int (iN b)]) (n := 3) (Nat.le_of_ble_eq_true rfl)
  rw [lg_entry_eq]
  generalize (lg_sl ([.ref (gad G 14), .int (iN a), .int (iN b)]) ++ List.replicate (3 - (lg_sl ([.ref (gad G 14), .int (iN a), .int (iN b)])).length) Slot.unset).toArray = ls at hl ⊢
  have hl : lv_has ls 3 [(0, .ref (gad G 14)), (1, .int (iN a)), (2, .int (iN b))] := hl
  refine lv_aload_n hx hb dX7_open_0 rfl (lv_at hl 0 rfl) ?_
  refine lv_iload_n hx hb dX7_open_1 rfl (lv_at hl 1 rfl) ?_
  refine f_put (v := .int (iN a)) (ty := .int) (C := RX7) (T := TX7) (N := 5) hx hb hts (by decide +kernel) tyX7 tyX7_ok nmX7 hown hK hP hS hAA 14 (by omega) e0 rfl 0 (by decide) (hts (.fieldLink RX7 7 "KeptMoving$Stretch" "from" "I") (by decide +kernel)) (fun _ h9 => h9) rfl (by decide +kernel) (rfl) (rfl) (Nat.le_of_ble_eq_true rfl) (rfl) dX7_open_2 (fun H locs hP hS => ?_)
  have hP : PW G (va_up w 14 (.inr (6, [.int (iN a), .long (jN un), .long (jN bg), .long (jN en), .int (iN no)]))) H := hP
  obtain ⟨w_1, hw_2⟩ : ∃ z : WF, z = va_up w 14 (.inr (6, [.int (iN a), .long (jN un), .long (jN bg), .long (jN en), .int (iN no)])) := ⟨_, rfl⟩
  rw [← hw_2] at hP
  have fr_3 : ∀ k : Nat, k ≠ 14 → w_1 k = w k := fun k h => by rw [hw_2]; exact va_up_ne _ _ h
  have e_4 : w_1 14 = .inr (6, [.int (iN a), .long (jN un), .long (jN bg), .long (jN en), .int (iN no)]) := by rw [hw_2]; exact va_up_self _ _ _
  refine lv_aload_n hx hb dX7_open_5 rfl (lv_at hl 0 rfl) ?_
  refine lv_iload_n hx hb dX7_open_6 rfl (lv_at hl 2 rfl) ?_
  refine vp_callSl (va_Run.run (va_runSN (As := [.int (iN b)]) (rest := [.ref (gad G 14)]) ⟨hx, hb, hml, hown, hts⟩ (c_X2_whole l b (by omega)) ⟨va_cnB 1 hts gX7_open_X2_whole_n13 rfl rfl rfl (hK.nm 46 rfl) (hts (.initialized RX2) (by decide +kernel)) (by decide +kernel) ⟨Nat.le_of_ble_eq_true rfl, Nat.le_of_ble_eq_true rfl⟩, hts (.static yX2_whole) (by decide +kernel), trivial⟩ ⟨fun _ _ _ _ q => q, fun _ _ _ => rfl⟩ rfl rfl hl.1 rfl (lv_room (Nat.le_of_ble_eq_true rfl)) dX7_open_7 ⟨Nat.zero_le _, Nat.zero_le _⟩)) (fun r_5 hr_5 => ?_)
  rw [show r_5 = jN (b * 256 + 1) from hr_5]
  refine f_put (v := .long (jN (b * 256 + 1))) (ty := .long) (C := RX7) (T := TX7) (N := 5) hx hb hts (by decide +kernel) tyX7 tyX7_ok nmX7 hown hK hP hS hAA 14 (by omega) e_4 rfl 1 (by decide) (hts (.fieldLink RX7 19 "KeptMoving$Stretch" "until" "J") (by decide +kernel)) (fun _ h9 => h9) rfl (by decide +kernel) (rfl) (rfl) (Nat.le_of_ble_eq_true rfl) (rfl) dX7_open_10 (fun H locs hP hS => ?_)
  have hP : PW G (va_up w_1 14 (.inr (6, [.int (iN a), .long (jN (b * 256 + 1)), .long (jN bg), .long (jN en), .int (iN no)]))) H := hP
  obtain ⟨w_6, hw_7⟩ : ∃ z : WF, z = va_up w_1 14 (.inr (6, [.int (iN a), .long (jN (b * 256 + 1)), .long (jN bg), .long (jN en), .int (iN no)])) := ⟨_, rfl⟩
  rw [← hw_7] at hP
  have fr_8 : ∀ k : Nat, k ≠ 14 → w_6 k = w_1 k := fun k h => by rw [hw_7]; exact va_up_ne _ _ h
  have e_9 : w_6 14 = .inr (6, [.int (iN a), .long (jN (b * 256 + 1)), .long (jN bg), .long (jN en), .int (iN no)]) := by rw [hw_7]; exact va_up_self _ _ _
  refine lv_aload_n hx hb dX7_open_13 rfl (lv_at hl 0 rfl) ?_
  refine f_callv (W.runV (As := []) (rest := []) ⟨hx, hb, hml, hown, hts⟩ (c_X7_keepAll l G w_6 a (b * 256 + 1) bg en no e_9 (by omega)) (cwV 0 hts gX7_open_X7_keepAll rfl rfl rfl (by decide +kernel) ⟨Nat.le_of_ble_eq_true rfl, Nat.le_of_ble_eq_true rfl⟩) (f_preV hP hK 14 (by omega) 6 e_9 rfl) rfl rfl hl.1 rfl (lv_room (Nat.le_of_ble_eq_true rfl)) dX7_open_14 ⟨Nat.zero_le _, Nat.zero_le _⟩) hS hAA (fun w_10 H locs q_11 hP hS => ?_)
  obtain ⟨fr_12, e_13⟩ := q_11
  have e_14 : w_10 14 = .inr (6, [.int (iN a), .long (jN (b * 256 + 1)), .long (jN (a * 256 + 1)), .long (jN (b * 256 + 1)), .int (iN 0)]) := e_13
  exact r_v hx hb hr dX7_open_17 hlocks hP hS (⟨(fun k h0 => ((((fr_12 k (by omega)).trans (fr_8 k (by omega)))).trans (fr_3 k (by omega)))), e_14⟩)

set_option maxHeartbeats 4000000 in
set_option maxRecDepth 100000 in
theorem c_X7_keepNothing (l : Launch) (G : GE) (w : WF) (f : Int) (un : Int) (bg : Int) (en : Int) (no : Int) (e0 : w 14 = .inr (6, [.int (iN f), .long (jN un), .long (jN bg), .long (jN en), .int (iN no)])) : Met l yX7_keepNothing wsX7_keepNothing ({ frames := 0, cells := 0, slots := 0, locals := 0 }) (PcG G w [.ref (gad G 14)]) (QV G (fun w1 => (∀ k : Nat, k ≠ 14 → w1 k = w k) ∧ w1 14 = .inr (6, [.int (iN f), .long (jN un), .long (jN bg), .long (jN en), .int (iN 1)]))) 0 0 (AA G) := by
  refine Met.ofW (cc := cX7_keepNothing) (maxL := 1) (ret := none) (by decide) rfl ?_
  intro p e s m args below meth c s₁ B hml hv
  obtain ⟨rfl, hP, hK⟩ := hv
  have hx := B.exec
  have hb := B.bytes
  have hr := B.returns
  have hts := atoms_spec (ws := wsX7_keepNothing) B.pre
  have hown : s.vm.findClass RX7 = some m.cls := findClass_of_methodNamed B.named
  have hlocks := B.notSynchronized
  have hS : va_S (AA G) s.heap s.heap [] := va_S.rf
  have hAA : ∀ q, AA G q → AA G q := fun _ h => h
  have hl := lv_entry ([.ref (gad G 14)]) (n := 1) (Nat.le_of_ble_eq_true rfl)
  rw [lg_entry_eq]
  generalize (lg_sl ([.ref (gad G 14)]) ++ List.replicate (1 - (lg_sl ([.ref (gad G 14)])).length) Slot.unset).toArray = ls at hl ⊢
  have hl : lv_has ls 1 [(0, .ref (gad G 14))] := hl
  refine lv_aload_n hx hb dX7_keepNothing_0 rfl (lv_at hl 0 rfl) ?_
  refine n_iconst hx hb dX7_keepNothing_1 ?_
  refine f_put (v := .int (iN 1)) (ty := .boolean) (C := RX7) (T := TX7) (N := 5) hx hb hts (by decide +kernel) tyX7 tyX7_ok nmX7 hown hK hP hS hAA 14 (by omega) e0 rfl 4 (by decide) (hts (.fieldLink RX7 32 "KeptMoving$Stretch" "isNothing" "Z") (by decide +kernel)) (fun _ h9 => h9) rfl (by decide +kernel) (rfl) (rfl) (Nat.le_of_ble_eq_true rfl) (rfl) dX7_keepNothing_2 (fun H locs hP hS => ?_)
  have hP : PW G (va_up w 14 (.inr (6, [.int (iN f), .long (jN un), .long (jN bg), .long (jN en), .int (iN 1)]))) H := hP
  obtain ⟨w_1, hw_2⟩ : ∃ z : WF, z = va_up w 14 (.inr (6, [.int (iN f), .long (jN un), .long (jN bg), .long (jN en), .int (iN 1)])) := ⟨_, rfl⟩
  rw [← hw_2] at hP
  have fr_3 : ∀ k : Nat, k ≠ 14 → w_1 k = w k := fun k h => by rw [hw_2]; exact va_up_ne _ _ h
  have e_4 : w_1 14 = .inr (6, [.int (iN f), .long (jN un), .long (jN bg), .long (jN en), .int (iN 1)]) := by rw [hw_2]; exact va_up_self _ _ _
  exact r_v hx hb hr dX7_keepNothing_5 hlocks hP hS (⟨(fun k h0 => fr_3 k (by omega)), e_4⟩)

theorem frac_rng {u lo : Int} (hu : -100000000 ≤ u ∧ u ≤ 100000000) (hl : 1 ≤ lo ∧ lo ≤ 255) : -30000000000 ≤ frac u lo ∧ frac u lo ≤ 30000000000 := by
  have h1 := Int.natAbs_tdiv_le_natAbs u (Nat.gcd u.natAbs lo.natAbs : Int)
  have h2 := Int.natAbs_tdiv_le_natAbs lo (Nat.gcd u.natAbs lo.natAbs : Int)
  unfold frac
  omega

set_option maxHeartbeats 4000000 in
set_option maxRecDepth 100000 in
theorem c_X7_keepAtMost (l : Launch) (G : GE) (w : WF) (f : Int) (un : Int) (bg : Int) (en : Int) (no : Int) (va : Int) (gr : Int) (bd : Int) (e0 : w 14 = .inr (6, [.int (iN f), .long (jN un), .long (jN bg), .long (jN en), .int (iN no)])) (p0 : -200 ≤ gr ∧ gr ≤ 200) (p1 : 0 < gr → -100000000 ≤ f * gr + (bd - va) ∧ f * gr + (bd - va) ≤ 100000000) (p2 : gr < 0 → -100000000 ≤ f * -gr + (va - bd) ∧ f * -gr + (va - bd) ≤ 100000000) (p3 : -30000000000 ≤ bg ∧ bg ≤ 30000000000) (p4 : -30000000000 ≤ en ∧ en ≤ 30000000000) (p5 : -1000000000 ≤ va ∧ va ≤ 1000000000) (p6 : -1000000000 ≤ bd ∧ bd ≤ 1000000000) : Met l yX7_keepAtMost wsX7_keepAtMost ({ frames := 3, cells := 0, slots := 0, locals := 69 }) (PcG G w [.ref (gad G 14), .int (iN va), .int (iN gr), .int (iN bd)]) (QV G (fun w1 => (∀ k : Nat, k ≠ 14 → w1 k = w k) ∧ w1 14 = .inr (6, [.int (iN f), .long (jN un), .long (jN (if gr < 0 ∧ bg / 256 * ((frac (f * -gr + (va - bd)) (-gr)) % 256) < (frac (f * -gr + (va - bd)) (-gr)) / 256 * (bg % 256) then frac (f * -gr + (va - bd)) (-gr) else bg)), .long (jN (if 0 < gr ∧ (frac (f * gr + (bd - va)) gr) / 256 * (en % 256) < en / 256 * ((frac (f * gr + (bd - va)) gr) % 256) then frac (f * gr + (bd - va)) gr else en)), .int (iN (if gr = 0 ∧ bd < va then 1 else no))]))) 0 0 (AA G) := by
  refine Met.ofW (cc := cX7_keepAtMost) (maxL := 6) (ret := none) (by decide) rfl ?_
  intro p e s m args below meth c s₁ B hml hv
  obtain ⟨rfl, hP, hK⟩ := hv
  have hx := B.exec
  have hb := B.bytes
  have hr := B.returns
  have hts := atoms_spec (ws := wsX7_keepAtMost) B.pre
  have hown : s.vm.findClass RX7 = some m.cls := findClass_of_methodNamed B.named
  have hlocks := B.notSynchronized
  have hS : va_S (AA G) s.heap s.heap [] := va_S.rf
  have hAA : ∀ q, AA G q → AA G q := fun _ h => h
  have hl := lv_entry ([.ref (gad G 14), .int (iN va), .int (iN gr), .int (iN bd)]) (n := 6) (Nat.le_of_ble_eq_true rfl)
  rw [lg_entry_eq]
  generalize (lg_sl ([.ref (gad G 14), .int (iN va), .int (iN gr), .int (iN bd)]) ++ List.replicate (6 - (lg_sl ([.ref (gad G 14), .int (iN va), .int (iN gr), .int (iN bd)])).length) Slot.unset).toArray = ls at hl ⊢
  have hl : lv_has ls 6 [(0, .ref (gad G 14)), (1, .int (iN va)), (2, .int (iN gr)), (3, .int (iN bd))] := hl
  refine lv_iload_n hx hb dX7_keepAtMost_0 rfl (lv_at hl 2 rfl) ?_
  refine n_if_le (tgt := 45) hx hb dX7_keepAtMost_1 (by decide) (by omega) (by omega) (fun c_1 => ?_) (fun c_1 => ?_)
  · refine lv_iload_n hx hb dX7_keepAtMost_45 rfl (lv_at hl 2 rfl) ?_
    refine n_if_ge (tgt := 91) hx hb dX7_keepAtMost_46 (by decide) (by omega) (by omega) (fun c_46 => ?_) (fun c_46 => ?_)
    · refine lv_iload_n hx hb dX7_keepAtMost_91 rfl (lv_at hl 1 rfl) ?_
      refine lv_iload_n hx hb dX7_keepAtMost_92 rfl (lv_at hl 3 rfl) ?_
      refine n_icmp_le (tgt := 100) hx hb dX7_keepAtMost_93 (by decide) (by omega) (by omega) (by omega) (by omega) (fun c_93 => ?_) (fun c_93 => ?_)
      · exact r_v hx hb hr dX7_keepAtMost_100 hlocks hP hS (⟨fun k _ => rfl, (by rw [show (if gr < 0 ∧ bg / 256 * ((frac (f * -gr + (va - bd)) (-gr)) % 256) < (frac (f * -gr + (va - bd)) (-gr)) / 256 * (bg % 256) then frac (f * -gr + (va - bd)) (-gr) else bg) = bg from if_neg (by omega), show (if 0 < gr ∧ (frac (f * gr + (bd - va)) gr) / 256 * (en % 256) < en / 256 * ((frac (f * gr + (bd - va)) gr) % 256) then frac (f * gr + (bd - va)) gr else en) = en from if_neg (by omega), show (if gr = 0 ∧ bd < va then 1 else no) = no from if_neg (by omega)]; exact e0)⟩)
      · refine lv_aload_n hx hb dX7_keepAtMost_96 rfl (lv_at hl 0 rfl) ?_
        refine f_callv (W.runV (As := []) (rest := []) ⟨hx, hb, hml, hown, hts⟩ (c_X7_keepNothing l G w f un bg en no e0) (cwV 0 hts gX7_keepAtMost_X7_keepNothing rfl rfl rfl (by decide +kernel) ⟨Nat.le_of_ble_eq_true rfl, Nat.le_of_ble_eq_true rfl⟩) (f_preV hP hK 14 (by omega) 6 e0 rfl) rfl rfl hl.1 rfl (lv_room (Nat.le_of_ble_eq_true rfl)) dX7_keepAtMost_97 ⟨Nat.zero_le _, Nat.zero_le _⟩) hS hAA (fun w_1 H locs q_2 hP hS => ?_)
        obtain ⟨fr_3, e_4⟩ := q_2
        have e_5 : w_1 14 = .inr (6, [.int (iN f), .long (jN un), .long (jN bg), .long (jN en), .int (iN 1)]) := e_4
        exact r_v hx hb hr dX7_keepAtMost_100 hlocks hP hS (⟨fun k h0 => fr_3 k (by omega), (by rw [show (if gr < 0 ∧ bg / 256 * ((frac (f * -gr + (va - bd)) (-gr)) % 256) < (frac (f * -gr + (va - bd)) (-gr)) / 256 * (bg % 256) then frac (f * -gr + (va - bd)) (-gr) else bg) = bg from if_neg (by omega), show (if 0 < gr ∧ (frac (f * gr + (bd - va)) gr) / 256 * (en % 256) < en / 256 * ((frac (f * gr + (bd - va)) gr) % 256) then frac (f * gr + (bd - va)) gr else en) = en from if_neg (by omega), show (if gr = 0 ∧ bd < va then 1 else no) = 1 from if_pos (by omega)]; exact e_5)⟩)
    · refine lv_aload_n hx hb dX7_keepAtMost_49 rfl (lv_at hl 0 rfl) ?_
      refine f_get (C := RX7) (T := TX7) (N := 5) hx hb hts (by decide +kernel) hown hK hP 14 (by omega) e0 rfl 0 (by decide) (hts (.fieldLink RX7 7 "KeptMoving$Stretch" "from" "I") (by decide +kernel)) (fun _ h9 => h9) rfl dX7_keepAtMost_50 ?_
      refine lv_iload_n hx hb dX7_keepAtMost_53 rfl (lv_at hl 1 rfl) ?_
      refine lv_iload_n hx hb dX7_keepAtMost_54 rfl (lv_at hl 3 rfl) ?_
      refine n_isub hx hb dX7_keepAtMost_55 ?_
      refine lv_iload_n hx hb dX7_keepAtMost_56 rfl (lv_at hl 2 rfl) ?_
      refine n_ineg hx hb dX7_keepAtMost_57 ?_
      have hp2 := p2 (by omega)
      refine vp_callSl (va_Run.run (va_runSN (As := [.int (iN f), .int (iN (va - bd)), .int (iN (-gr))]) (rest := []) ⟨hx, hb, hml, hown, hts⟩ (c_X2_past l f (va - bd) (-gr) (p2 (by omega)) (by omega)) ⟨va_cnB 3 hts gX7_keepAtMost_X2_past_n36 rfl rfl rfl (hK.nm 49 rfl) (hts (.initialized RX2) (by decide +kernel)) (by decide +kernel) ⟨Nat.le_of_ble_eq_true rfl, Nat.le_of_ble_eq_true rfl⟩, hts (.static yX2_past) (by decide +kernel), trivial⟩ ⟨fun _ _ _ _ q => q, fun _ _ _ => rfl⟩ rfl rfl hl.1 rfl (lv_room (Nat.le_of_ble_eq_true rfl)) dX7_keepAtMost_58 ⟨Nat.zero_le _, Nat.zero_le _⟩)) (fun r_6 hr_6 => ?_)
      rw [show r_6 = jN (frac (f * (-gr) + (va - bd)) (-gr)) from hr_6]
      refine lv_lstore (lv' := [(4, .long (jN (frac (f * (-gr) + (va - bd)) (-gr)))), (0, .ref (gad G 14)), (1, .int (iN va)), (2, .int (iN gr)), (3, .int (iN bd))]) hx hb dX7_keepAtMost_61 hl (by decide) rfl (fun ls hl => ?_)
      refine lv_aload_n hx hb dX7_keepAtMost_63 rfl (lv_at hl 1 rfl) ?_
      refine lv_lload hx hb dX7_keepAtMost_64 (lv_at hl 0 rfl) ?_
      refine lv_aload_n hx hb dX7_keepAtMost_66 rfl (lv_at hl 1 rfl) ?_
      refine f_get (C := RX7) (T := TX7) (N := 5) hx hb hts (by decide +kernel) hown hK hP 14 (by omega) e0 rfl 2 (by decide) (hts (.fieldLink RX7 26 "KeptMoving$Stretch" "begin" "J") (by decide +kernel)) (fun _ h9 => h9) rfl dX7_keepAtMost_67 ?_
      refine vp_callSi (va_Run.run (va_runSN (As := [.long (jN (frac (f * (-gr) + (va - bd)) (-gr))), .long (jN bg)]) (rest := [.ref (gad G 14)]) ⟨hx, hb, hml, hown, hts⟩ (c_X2_compare l (frac (f * (-gr) + (va - bd)) (-gr)) bg (frac_rng (p2 (by omega)) (by omega)) (p3)) ⟨va_cnB 2 hts gX7_keepAtMost_X2_compare_n40 rfl rfl rfl (hK.nm 50 rfl) (hts (.initialized RX2) (by decide +kernel)) (by decide +kernel) ⟨Nat.le_of_ble_eq_true rfl, Nat.le_of_ble_eq_true rfl⟩, hts (.static yX2_compare) (by decide +kernel), trivial⟩ ⟨fun _ _ _ _ q => q, fun _ _ _ => rfl⟩ rfl rfl hl.1 rfl (lv_room (Nat.le_of_ble_eq_true rfl)) dX7_keepAtMost_70 ⟨Nat.zero_le _, Nat.zero_le _⟩)) (fun r_7 hr_7 => ?_)
      rw [show r_7 = iN (cmpI ((frac (f * (-gr) + (va - bd)) (-gr)) / 256 * (bg % 256)) (bg / 256 * ((frac (f * (-gr) + (va - bd)) (-gr)) % 256))) from hr_7]
      refine n_ifc_le (tgt := 81) hx hb dX7_keepAtMost_73 (by decide) (fun c_73 => ?_) (fun c_73 => ?_)
      · refine lv_aload_n hx hb dX7_keepAtMost_81 rfl (lv_at hl 1 rfl) ?_
        refine f_get (C := RX7) (T := TX7) (N := 5) hx hb hts (by decide +kernel) hown hK hP 14 (by omega) e0 rfl 2 (by decide) (hts (.fieldLink RX7 26 "KeptMoving$Stretch" "begin" "J") (by decide +kernel)) (fun _ h9 => h9) rfl dX7_keepAtMost_82 ?_
        refine f_put (v := .long (jN bg)) (ty := .long) (C := RX7) (T := TX7) (N := 5) hx hb hts (by decide +kernel) tyX7 tyX7_ok nmX7 hown hK hP hS hAA 14 (by omega) e0 rfl 2 (by decide) (hts (.fieldLink RX7 26 "KeptMoving$Stretch" "begin" "J") (by decide +kernel)) (fun _ h9 => h9) rfl (by decide +kernel) (rfl) (rfl) (Nat.le_of_ble_eq_true rfl) (rfl) dX7_keepAtMost_85 (fun H locs hP hS => ?_)
        have hP : PW G (va_up w 14 (.inr (6, [.int (iN f), .long (jN un), .long (jN bg), .long (jN en), .int (iN no)]))) H := hP
        obtain ⟨w_8, hw_9⟩ : ∃ z : WF, z = va_up w 14 (.inr (6, [.int (iN f), .long (jN un), .long (jN bg), .long (jN en), .int (iN no)])) := ⟨_, rfl⟩
        rw [← hw_9] at hP
        have fr_10 : ∀ k : Nat, k ≠ 14 → w_8 k = w k := fun k h => by rw [hw_9]; exact va_up_ne _ _ h
        have e_11 : w_8 14 = .inr (6, [.int (iN f), .long (jN un), .long (jN bg), .long (jN en), .int (iN no)]) := by rw [hw_9]; exact va_up_self _ _ _
        refine lv_goto (tgt := 100) hx hb dX7_keepAtMost_88 (by decide) ?_
        exact r_v hx hb hr dX7_keepAtMost_100 hlocks hP hS (⟨fun k h0 => fr_10 k (by omega), (by rw [show (if gr < 0 ∧ bg / 256 * ((frac (f * -gr + (va - bd)) (-gr)) % 256) < (frac (f * -gr + (va - bd)) (-gr)) / 256 * (bg % 256) then frac (f * -gr + (va - bd)) (-gr) else bg) = bg from if_neg (by omega), show (if 0 < gr ∧ (frac (f * gr + (bd - va)) gr) / 256 * (en % 256) < en / 256 * ((frac (f * gr + (bd - va)) gr) % 256) then frac (f * gr + (bd - va)) gr else en) = en from if_neg (by omega), show (if gr = 0 ∧ bd < va then 1 else no) = no from if_neg (by omega)]; exact e_11)⟩)
      · refine lv_lload hx hb dX7_keepAtMost_76 (lv_at hl 0 rfl) ?_
        refine lv_goto (tgt := 85) hx hb dX7_keepAtMost_78 (by decide) ?_
        refine f_put (v := .long (jN (frac (f * (-gr) + (va - bd)) (-gr)))) (ty := .long) (C := RX7) (T := TX7) (N := 5) hx hb hts (by decide +kernel) tyX7 tyX7_ok nmX7 hown hK hP hS hAA 14 (by omega) e0 rfl 2 (by decide) (hts (.fieldLink RX7 26 "KeptMoving$Stretch" "begin" "J") (by decide +kernel)) (fun _ h9 => h9) rfl (by decide +kernel) (rfl) (rfl) (Nat.le_of_ble_eq_true rfl) (rfl) dX7_keepAtMost_85 (fun H locs hP hS => ?_)
        have hP : PW G (va_up w 14 (.inr (6, [.int (iN f), .long (jN un), .long (jN (frac (f * (-gr) + (va - bd)) (-gr))), .long (jN en), .int (iN no)]))) H := hP
        obtain ⟨w_12, hw_13⟩ : ∃ z : WF, z = va_up w 14 (.inr (6, [.int (iN f), .long (jN un), .long (jN (frac (f * (-gr) + (va - bd)) (-gr))), .long (jN en), .int (iN no)])) := ⟨_, rfl⟩
        rw [← hw_13] at hP
        have fr_14 : ∀ k : Nat, k ≠ 14 → w_12 k = w k := fun k h => by rw [hw_13]; exact va_up_ne _ _ h
        have e_15 : w_12 14 = .inr (6, [.int (iN f), .long (jN un), .long (jN (frac (f * (-gr) + (va - bd)) (-gr))), .long (jN en), .int (iN no)]) := by rw [hw_13]; exact va_up_self _ _ _
        refine lv_goto (tgt := 100) hx hb dX7_keepAtMost_88 (by decide) ?_
        exact r_v hx hb hr dX7_keepAtMost_100 hlocks hP hS (⟨fun k h0 => fr_14 k (by omega), (by rw [show (if gr < 0 ∧ bg / 256 * ((frac (f * -gr + (va - bd)) (-gr)) % 256) < (frac (f * -gr + (va - bd)) (-gr)) / 256 * (bg % 256) then frac (f * -gr + (va - bd)) (-gr) else bg) = frac (f * (-gr) + (va - bd)) (-gr) from if_pos (by omega), show (if 0 < gr ∧ (frac (f * gr + (bd - va)) gr) / 256 * (en % 256) < en / 256 * ((frac (f * gr + (bd - va)) gr) % 256) then frac (f * gr + (bd - va)) gr else en) = en from if_neg (by omega), show (if gr = 0 ∧ bd < va then 1 else no) = no from if_neg (by omega)]; exact e_15)⟩)
  · refine lv_aload_n hx hb dX7_keepAtMost_4 rfl (lv_at hl 0 rfl) ?_
    refine f_get (C := RX7) (T := TX7) (N := 5) hx hb hts (by decide +kernel) hown hK hP 14 (by omega) e0 rfl 0 (by decide) (hts (.fieldLink RX7 7 "KeptMoving$Stretch" "from" "I") (by decide +kernel)) (fun _ h9 => h9) rfl dX7_keepAtMost_5 ?_
    refine lv_iload_n hx hb dX7_keepAtMost_8 rfl (lv_at hl 3 rfl) ?_
    refine lv_iload_n hx hb dX7_keepAtMost_9 rfl (lv_at hl 1 rfl) ?_
    refine n_isub hx hb dX7_keepAtMost_10 ?_
    refine lv_iload_n hx hb dX7_keepAtMost_11 rfl (lv_at hl 2 rfl) ?_
    have hp1 := p1 (by omega)
    refine vp_callSl (va_Run.run (va_runSN (As := [.int (iN f), .int (iN (bd - va)), .int (iN gr)]) (rest := []) ⟨hx, hb, hml, hown, hts⟩ (c_X2_past l f (bd - va) gr (p1 (by omega)) (by omega)) ⟨va_cnB 3 hts gX7_keepAtMost_X2_past_n36 rfl rfl rfl (hK.nm 49 rfl) (hts (.initialized RX2) (by decide +kernel)) (by decide +kernel) ⟨Nat.le_of_ble_eq_true rfl, Nat.le_of_ble_eq_true rfl⟩, hts (.static yX2_past) (by decide +kernel), trivial⟩ ⟨fun _ _ _ _ q => q, fun _ _ _ => rfl⟩ rfl rfl hl.1 rfl (lv_room (Nat.le_of_ble_eq_true rfl)) dX7_keepAtMost_12 ⟨Nat.zero_le _, Nat.zero_le _⟩)) (fun r_16 hr_16 => ?_)
    rw [show r_16 = jN (frac (f * gr + (bd - va)) gr) from hr_16]
    refine lv_lstore (lv' := [(4, .long (jN (frac (f * gr + (bd - va)) gr))), (0, .ref (gad G 14)), (1, .int (iN va)), (2, .int (iN gr)), (3, .int (iN bd))]) hx hb dX7_keepAtMost_15 hl (by decide) rfl (fun ls hl => ?_)
    refine lv_aload_n hx hb dX7_keepAtMost_17 rfl (lv_at hl 1 rfl) ?_
    refine lv_lload hx hb dX7_keepAtMost_18 (lv_at hl 0 rfl) ?_
    refine lv_aload_n hx hb dX7_keepAtMost_20 rfl (lv_at hl 1 rfl) ?_
    refine f_get (C := RX7) (T := TX7) (N := 5) hx hb hts (by decide +kernel) hown hK hP 14 (by omega) e0 rfl 3 (by decide) (hts (.fieldLink RX7 29 "KeptMoving$Stretch" "end" "J") (by decide +kernel)) (fun _ h9 => h9) rfl dX7_keepAtMost_21 ?_
    refine vp_callSi (va_Run.run (va_runSN (As := [.long (jN (frac (f * gr + (bd - va)) gr)), .long (jN en)]) (rest := [.ref (gad G 14)]) ⟨hx, hb, hml, hown, hts⟩ (c_X2_compare l (frac (f * gr + (bd - va)) gr) en (frac_rng (p1 (by omega)) (by omega)) (p4)) ⟨va_cnB 2 hts gX7_keepAtMost_X2_compare_n40 rfl rfl rfl (hK.nm 50 rfl) (hts (.initialized RX2) (by decide +kernel)) (by decide +kernel) ⟨Nat.le_of_ble_eq_true rfl, Nat.le_of_ble_eq_true rfl⟩, hts (.static yX2_compare) (by decide +kernel), trivial⟩ ⟨fun _ _ _ _ q => q, fun _ _ _ => rfl⟩ rfl rfl hl.1 rfl (lv_room (Nat.le_of_ble_eq_true rfl)) dX7_keepAtMost_24 ⟨Nat.zero_le _, Nat.zero_le _⟩)) (fun r_17 hr_17 => ?_)
    rw [show r_17 = iN (cmpI ((frac (f * gr + (bd - va)) gr) / 256 * (en % 256)) (en / 256 * ((frac (f * gr + (bd - va)) gr) % 256))) from hr_17]
    refine n_ifc_ge (tgt := 35) hx hb dX7_keepAtMost_27 (by decide) (fun c_27 => ?_) (fun c_27 => ?_)
    · refine lv_aload_n hx hb dX7_keepAtMost_35 rfl (lv_at hl 1 rfl) ?_
      refine f_get (C := RX7) (T := TX7) (N := 5) hx hb hts (by decide +kernel) hown hK hP 14 (by omega) e0 rfl 3 (by decide) (hts (.fieldLink RX7 29 "KeptMoving$Stretch" "end" "J") (by decide +kernel)) (fun _ h9 => h9) rfl dX7_keepAtMost_36 ?_
      refine f_put (v := .long (jN en)) (ty := .long) (C := RX7) (T := TX7) (N := 5) hx hb hts (by decide +kernel) tyX7 tyX7_ok nmX7 hown hK hP hS hAA 14 (by omega) e0 rfl 3 (by decide) (hts (.fieldLink RX7 29 "KeptMoving$Stretch" "end" "J") (by decide +kernel)) (fun _ h9 => h9) rfl (by decide +kernel) (rfl) (rfl) (Nat.le_of_ble_eq_true rfl) (rfl) dX7_keepAtMost_39 (fun H locs hP hS => ?_)
      have hP : PW G (va_up w 14 (.inr (6, [.int (iN f), .long (jN un), .long (jN bg), .long (jN en), .int (iN no)]))) H := hP
      obtain ⟨w_18, hw_19⟩ : ∃ z : WF, z = va_up w 14 (.inr (6, [.int (iN f), .long (jN un), .long (jN bg), .long (jN en), .int (iN no)])) := ⟨_, rfl⟩
      rw [← hw_19] at hP
      have fr_20 : ∀ k : Nat, k ≠ 14 → w_18 k = w k := fun k h => by rw [hw_19]; exact va_up_ne _ _ h
      have e_21 : w_18 14 = .inr (6, [.int (iN f), .long (jN un), .long (jN bg), .long (jN en), .int (iN no)]) := by rw [hw_19]; exact va_up_self _ _ _
      refine lv_goto (tgt := 100) hx hb dX7_keepAtMost_42 (by decide) ?_
      exact r_v hx hb hr dX7_keepAtMost_100 hlocks hP hS (⟨fun k h0 => fr_20 k (by omega), (by rw [show (if gr < 0 ∧ bg / 256 * ((frac (f * -gr + (va - bd)) (-gr)) % 256) < (frac (f * -gr + (va - bd)) (-gr)) / 256 * (bg % 256) then frac (f * -gr + (va - bd)) (-gr) else bg) = bg from if_neg (by omega), show (if 0 < gr ∧ (frac (f * gr + (bd - va)) gr) / 256 * (en % 256) < en / 256 * ((frac (f * gr + (bd - va)) gr) % 256) then frac (f * gr + (bd - va)) gr else en) = en from if_neg (by omega), show (if gr = 0 ∧ bd < va then 1 else no) = no from if_neg (by omega)]; exact e_21)⟩)
    · refine lv_lload hx hb dX7_keepAtMost_30 (lv_at hl 0 rfl) ?_
      refine lv_goto (tgt := 39) hx hb dX7_keepAtMost_32 (by decide) ?_
      refine f_put (v := .long (jN (frac (f * gr + (bd - va)) gr))) (ty := .long) (C := RX7) (T := TX7) (N := 5) hx hb hts (by decide +kernel) tyX7 tyX7_ok nmX7 hown hK hP hS hAA 14 (by omega) e0 rfl 3 (by decide) (hts (.fieldLink RX7 29 "KeptMoving$Stretch" "end" "J") (by decide +kernel)) (fun _ h9 => h9) rfl (by decide +kernel) (rfl) (rfl) (Nat.le_of_ble_eq_true rfl) (rfl) dX7_keepAtMost_39 (fun H locs hP hS => ?_)
      have hP : PW G (va_up w 14 (.inr (6, [.int (iN f), .long (jN un), .long (jN bg), .long (jN (frac (f * gr + (bd - va)) gr)), .int (iN no)]))) H := hP
      obtain ⟨w_22, hw_23⟩ : ∃ z : WF, z = va_up w 14 (.inr (6, [.int (iN f), .long (jN un), .long (jN bg), .long (jN (frac (f * gr + (bd - va)) gr)), .int (iN no)])) := ⟨_, rfl⟩
      rw [← hw_23] at hP
      have fr_24 : ∀ k : Nat, k ≠ 14 → w_22 k = w k := fun k h => by rw [hw_23]; exact va_up_ne _ _ h
      have e_25 : w_22 14 = .inr (6, [.int (iN f), .long (jN un), .long (jN bg), .long (jN (frac (f * gr + (bd - va)) gr)), .int (iN no)]) := by rw [hw_23]; exact va_up_self _ _ _
      refine lv_goto (tgt := 100) hx hb dX7_keepAtMost_42 (by decide) ?_
      exact r_v hx hb hr dX7_keepAtMost_100 hlocks hP hS (⟨fun k h0 => fr_24 k (by omega), (by rw [show (if gr < 0 ∧ bg / 256 * ((frac (f * -gr + (va - bd)) (-gr)) % 256) < (frac (f * -gr + (va - bd)) (-gr)) / 256 * (bg % 256) then frac (f * -gr + (va - bd)) (-gr) else bg) = bg from if_neg (by omega), show (if 0 < gr ∧ (frac (f * gr + (bd - va)) gr) / 256 * (en % 256) < en / 256 * ((frac (f * gr + (bd - va)) gr) % 256) then frac (f * gr + (bd - va)) gr else en) = frac (f * gr + (bd - va)) gr from if_pos (by omega), show (if gr = 0 ∧ bd < va then 1 else no) = no from if_neg (by omega)]; exact e_25)⟩)

set_option maxHeartbeats 4000000 in
set_option maxRecDepth 100000 in
theorem c_X7_isSo (l : Launch) (G : GE) (w : WF) (f : Int) (un : Int) (bg : Int) (en : Int) (no : Int) (e0 : w 14 = .inr (6, [.int (iN f), .long (jN un), .long (jN bg), .long (jN en), .int (iN no)])) (p0 : no = 0 ∨ no = 1) (p1 : -100000 ≤ f ∧ f ≤ 100000) (p2 : -30000000000 ≤ un ∧ un ≤ 30000000000) (p3 : -30000000000 ≤ bg ∧ bg ≤ 30000000000) (p4 : -30000000000 ≤ en ∧ en ≤ 30000000000) : Met l yX7_isSo wsX7_isSo ({ frames := 2, cells := 0, slots := 0, locals := 46 }) (PcG G w [.ref (gad G 14)]) (vp_Si (fun r => r = iN (if (no = 0 ∧ ¬ (bg = un ∧ f ≠ un / 256) ∧ bg / 256 * (en % 256) ≤ en / 256 * (bg % 256)) then 1 else 0))) 0 0 (fun _ => False) := by
  refine Met.ofW (cc := cX7_isSo) (maxL := 2) (ret := (some .boolean)) (by decide) rfl ?_
  intro p e s m args below meth c s₁ B hml hv
  obtain ⟨rfl, hP, hK⟩ := hv
  have hx := B.exec
  have hb := B.bytes
  have hr := B.returns
  have hts := atoms_spec (ws := wsX7_isSo) B.pre
  have hown : s.vm.findClass RX7 = some m.cls := findClass_of_methodNamed B.named
  have hlocks := B.notSynchronized
  have hl := lv_entry ([.ref (gad G 14)]) (n := 2) (Nat.le_of_ble_eq_true rfl)
  rw [lg_entry_eq]
  generalize (lg_sl ([.ref (gad G 14)]) ++ List.replicate (2 - (lg_sl ([.ref (gad G 14)])).length) Slot.unset).toArray = ls at hl ⊢
  have hl : lv_has ls 2 [(0, .ref (gad G 14))] := hl
  refine lv_aload_n hx hb dX7_isSo_0 rfl (lv_at hl 0 rfl) ?_
  refine f_get (C := RX7) (T := TX7) (N := 5) hx hb hts (by decide +kernel) hown hK hP 14 (by omega) e0 rfl 2 (by decide) (hts (.fieldLink RX7 26 "KeptMoving$Stretch" "begin" "J") (by decide +kernel)) (fun _ h9 => h9) rfl dX7_isSo_1 ?_
  refine lv_aload_n hx hb dX7_isSo_4 rfl (lv_at hl 0 rfl) ?_
  refine f_get (C := RX7) (T := TX7) (N := 5) hx hb hts (by decide +kernel) hown hK hP 14 (by omega) e0 rfl 1 (by decide) (hts (.fieldLink RX7 19 "KeptMoving$Stretch" "until" "J") (by decide +kernel)) (fun _ h9 => h9) rfl dX7_isSo_5 ?_
  refine n_lcmp hx hb (by omega) (by omega) (by omega) (by omega) dX7_isSo_8 ?_
  refine n_ifc_ne (tgt := 30) hx hb dX7_isSo_9 (by decide) (fun c_9 => ?_) (fun c_9 => ?_)
  · refine n_iconst hx hb dX7_isSo_30 ?_
    refine lv_istore_n (lv' := [(1, .int (iN 0)), (0, .ref (gad G 14))]) hx hb dX7_isSo_31 rfl hl (by decide) rfl (fun ls hl => ?_)
    refine lv_aload_n hx hb dX7_isSo_32 rfl (lv_at hl 1 rfl) ?_
    refine f_get (C := RX7) (T := TX7) (N := 5) hx hb hts (by decide +kernel) hown hK hP 14 (by omega) e0 rfl 4 (by decide) (hts (.fieldLink RX7 32 "KeptMoving$Stretch" "isNothing" "Z") (by decide +kernel)) (fun _ h9 => h9) rfl dX7_isSo_33 ?_
    refine n_if_ne (tgt := 61) hx hb dX7_isSo_36 (by decide) (by omega) (by omega) (fun c_36 => ?_) (fun c_36 => ?_)
    · refine n_iconst hx hb dX7_isSo_61 ?_
      exact r_z0 hx hb hr dX7_isSo_62 hlocks (show iN 0 = iN (if (no = 0 ∧ ¬ (bg = un ∧ f ≠ un / 256) ∧ bg / 256 * (en % 256) ≤ en / 256 * (bg % 256)) then 1 else 0) by rw [if_neg (by omega)])
    · refine lv_iload_n hx hb dX7_isSo_39 rfl (lv_at hl 0 rfl) ?_
      refine n_if_ne (tgt := 61) hx hb dX7_isSo_40 (by decide) (by omega) (by omega) (fun c_40 => ?_) (fun c_40 => ?_)
      · exact absurd c_40 (by decide)
      · refine lv_aload_n hx hb dX7_isSo_43 rfl (lv_at hl 1 rfl) ?_
        refine f_get (C := RX7) (T := TX7) (N := 5) hx hb hts (by decide +kernel) hown hK hP 14 (by omega) e0 rfl 2 (by decide) (hts (.fieldLink RX7 26 "KeptMoving$Stretch" "begin" "J") (by decide +kernel)) (fun _ h9 => h9) rfl dX7_isSo_44 ?_
        refine lv_aload_n hx hb dX7_isSo_47 rfl (lv_at hl 1 rfl) ?_
        refine f_get (C := RX7) (T := TX7) (N := 5) hx hb hts (by decide +kernel) hown hK hP 14 (by omega) e0 rfl 3 (by decide) (hts (.fieldLink RX7 29 "KeptMoving$Stretch" "end" "J") (by decide +kernel)) (fun _ h9 => h9) rfl dX7_isSo_48 ?_
        refine vp_callSi (va_Run.run (va_runSN (As := [.long (jN bg), .long (jN en)]) (rest := []) ⟨hx, hb, hml, hown, hts⟩ (c_X2_compare l bg en (by omega) (by omega)) ⟨va_cnB 2 hts gX7_isSo_X2_compare_n40 rfl rfl rfl (hK.nm 50 rfl) (hts (.initialized RX2) (by decide +kernel)) (by decide +kernel) ⟨Nat.le_of_ble_eq_true rfl, Nat.le_of_ble_eq_true rfl⟩, hts (.static yX2_compare) (by decide +kernel), trivial⟩ ⟨fun _ _ _ _ q => q, fun _ _ _ => rfl⟩ rfl rfl hl.1 rfl (lv_room (Nat.le_of_ble_eq_true rfl)) dX7_isSo_51 ⟨Nat.zero_le _, Nat.zero_le _⟩)) (fun r_1 hr_1 => ?_)
        rw [show r_1 = iN (cmpI (bg / 256 * (en % 256)) (en / 256 * (bg % 256))) from hr_1]
        refine n_ifc_gt (tgt := 61) hx hb dX7_isSo_54 (by decide) (fun c_54 => ?_) (fun c_54 => ?_)
        · refine n_iconst hx hb dX7_isSo_61 ?_
          exact r_z0 hx hb hr dX7_isSo_62 hlocks (show iN 0 = iN (if (no = 0 ∧ ¬ (bg = un ∧ f ≠ un / 256) ∧ bg / 256 * (en % 256) ≤ en / 256 * (bg % 256)) then 1 else 0) by rw [if_neg (by omega)])
        · refine n_iconst hx hb dX7_isSo_57 ?_
          refine lv_goto (tgt := 62) hx hb dX7_isSo_58 (by decide) ?_
          exact r_z1 hx hb hr dX7_isSo_62 hlocks (show iN 1 = iN (if (no = 0 ∧ ¬ (bg = un ∧ f ≠ un / 256) ∧ bg / 256 * (en % 256) ≤ en / 256 * (bg % 256)) then 1 else 0) by rw [if_pos (by omega)])
  · refine lv_aload_n hx hb dX7_isSo_12 rfl (lv_at hl 0 rfl) ?_
    refine f_get (C := RX7) (T := TX7) (N := 5) hx hb hts (by decide +kernel) hown hK hP 14 (by omega) e0 rfl 0 (by decide) (hts (.fieldLink RX7 7 "KeptMoving$Stretch" "from" "I") (by decide +kernel)) (fun _ h9 => h9) rfl dX7_isSo_13 ?_
    refine lv_aload_n hx hb dX7_isSo_16 rfl (lv_at hl 0 rfl) ?_
    refine f_get (C := RX7) (T := TX7) (N := 5) hx hb hts (by decide +kernel) hown hK hP 14 (by omega) e0 rfl 1 (by decide) (hts (.fieldLink RX7 19 "KeptMoving$Stretch" "until" "J") (by decide +kernel)) (fun _ h9 => h9) rfl dX7_isSo_17 ?_
    refine vp_callSi (va_Run.run (va_runSN (As := [.long (jN un)]) (rest := [.int (iN f)]) ⟨hx, hb, hml, hown, hts⟩ (c_X2_upper l un (by omega)) ⟨va_cnB 1 hts gX7_isSo_X2_upper_n47 rfl rfl rfl (hK.nm 53 rfl) (hts (.initialized RX2) (by decide +kernel)) (by decide +kernel) ⟨Nat.le_of_ble_eq_true rfl, Nat.le_of_ble_eq_true rfl⟩, hts (.static yX2_upper) (by decide +kernel), trivial⟩ ⟨fun _ _ _ _ q => q, fun _ _ _ => rfl⟩ rfl rfl hl.1 rfl (lv_room (Nat.le_of_ble_eq_true rfl)) dX7_isSo_20 ⟨Nat.zero_le _, Nat.zero_le _⟩)) (fun r_2 hr_2 => ?_)
    rw [show r_2 = iN (un / 256) from hr_2]
    refine n_icmp_eq (tgt := 30) hx hb dX7_isSo_23 (by decide) (by omega) (by omega) (by omega) (by omega) (fun c_23 => ?_) (fun c_23 => ?_)
    · refine n_iconst hx hb dX7_isSo_30 ?_
      refine lv_istore_n (lv' := [(1, .int (iN 0)), (0, .ref (gad G 14))]) hx hb dX7_isSo_31 rfl hl (by decide) rfl (fun ls hl => ?_)
      refine lv_aload_n hx hb dX7_isSo_32 rfl (lv_at hl 1 rfl) ?_
      refine f_get (C := RX7) (T := TX7) (N := 5) hx hb hts (by decide +kernel) hown hK hP 14 (by omega) e0 rfl 4 (by decide) (hts (.fieldLink RX7 32 "KeptMoving$Stretch" "isNothing" "Z") (by decide +kernel)) (fun _ h9 => h9) rfl dX7_isSo_33 ?_
      refine n_if_ne (tgt := 61) hx hb dX7_isSo_36 (by decide) (by omega) (by omega) (fun c_36 => ?_) (fun c_36 => ?_)
      · refine n_iconst hx hb dX7_isSo_61 ?_
        exact r_z0 hx hb hr dX7_isSo_62 hlocks (show iN 0 = iN (if (no = 0 ∧ ¬ (bg = un ∧ f ≠ un / 256) ∧ bg / 256 * (en % 256) ≤ en / 256 * (bg % 256)) then 1 else 0) by rw [if_neg (by omega)])
      · refine lv_iload_n hx hb dX7_isSo_39 rfl (lv_at hl 0 rfl) ?_
        refine n_if_ne (tgt := 61) hx hb dX7_isSo_40 (by decide) (by omega) (by omega) (fun c_40 => ?_) (fun c_40 => ?_)
        · exact absurd c_40 (by decide)
        · refine lv_aload_n hx hb dX7_isSo_43 rfl (lv_at hl 1 rfl) ?_
          refine f_get (C := RX7) (T := TX7) (N := 5) hx hb hts (by decide +kernel) hown hK hP 14 (by omega) e0 rfl 2 (by decide) (hts (.fieldLink RX7 26 "KeptMoving$Stretch" "begin" "J") (by decide +kernel)) (fun _ h9 => h9) rfl dX7_isSo_44 ?_
          refine lv_aload_n hx hb dX7_isSo_47 rfl (lv_at hl 1 rfl) ?_
          refine f_get (C := RX7) (T := TX7) (N := 5) hx hb hts (by decide +kernel) hown hK hP 14 (by omega) e0 rfl 3 (by decide) (hts (.fieldLink RX7 29 "KeptMoving$Stretch" "end" "J") (by decide +kernel)) (fun _ h9 => h9) rfl dX7_isSo_48 ?_
          refine vp_callSi (va_Run.run (va_runSN (As := [.long (jN bg), .long (jN en)]) (rest := []) ⟨hx, hb, hml, hown, hts⟩ (c_X2_compare l bg en (by omega) (by omega)) ⟨va_cnB 2 hts gX7_isSo_X2_compare_n40 rfl rfl rfl (hK.nm 50 rfl) (hts (.initialized RX2) (by decide +kernel)) (by decide +kernel) ⟨Nat.le_of_ble_eq_true rfl, Nat.le_of_ble_eq_true rfl⟩, hts (.static yX2_compare) (by decide +kernel), trivial⟩ ⟨fun _ _ _ _ q => q, fun _ _ _ => rfl⟩ rfl rfl hl.1 rfl (lv_room (Nat.le_of_ble_eq_true rfl)) dX7_isSo_51 ⟨Nat.zero_le _, Nat.zero_le _⟩)) (fun r_3 hr_3 => ?_)
          rw [show r_3 = iN (cmpI (bg / 256 * (en % 256)) (en / 256 * (bg % 256))) from hr_3]
          refine n_ifc_gt (tgt := 61) hx hb dX7_isSo_54 (by decide) (fun c_54 => ?_) (fun c_54 => ?_)
          · refine n_iconst hx hb dX7_isSo_61 ?_
            exact r_z0 hx hb hr dX7_isSo_62 hlocks (show iN 0 = iN (if (no = 0 ∧ ¬ (bg = un ∧ f ≠ un / 256) ∧ bg / 256 * (en % 256) ≤ en / 256 * (bg % 256)) then 1 else 0) by rw [if_neg (by omega)])
          · refine n_iconst hx hb dX7_isSo_57 ?_
            refine lv_goto (tgt := 62) hx hb dX7_isSo_58 (by decide) ?_
            exact r_z1 hx hb hr dX7_isSo_62 hlocks (show iN 1 = iN (if (no = 0 ∧ ¬ (bg = un ∧ f ≠ un / 256) ∧ bg / 256 * (en % 256) ≤ en / 256 * (bg % 256)) then 1 else 0) by rw [if_pos (by omega)])
    · refine n_iconst hx hb dX7_isSo_26 ?_
      refine lv_goto (tgt := 31) hx hb dX7_isSo_27 (by decide) ?_
      refine lv_istore_n (lv' := [(1, .int (iN 1)), (0, .ref (gad G 14))]) hx hb dX7_isSo_31 rfl hl (by decide) rfl (fun ls hl => ?_)
      refine lv_aload_n hx hb dX7_isSo_32 rfl (lv_at hl 1 rfl) ?_
      refine f_get (C := RX7) (T := TX7) (N := 5) hx hb hts (by decide +kernel) hown hK hP 14 (by omega) e0 rfl 4 (by decide) (hts (.fieldLink RX7 32 "KeptMoving$Stretch" "isNothing" "Z") (by decide +kernel)) (fun _ h9 => h9) rfl dX7_isSo_33 ?_
      refine n_if_ne (tgt := 61) hx hb dX7_isSo_36 (by decide) (by omega) (by omega) (fun c_36 => ?_) (fun c_36 => ?_)
      · refine n_iconst hx hb dX7_isSo_61 ?_
        exact r_z0 hx hb hr dX7_isSo_62 hlocks (show iN 0 = iN (if (no = 0 ∧ ¬ (bg = un ∧ f ≠ un / 256) ∧ bg / 256 * (en % 256) ≤ en / 256 * (bg % 256)) then 1 else 0) by rw [if_neg (by omega)])
      · refine lv_iload_n hx hb dX7_isSo_39 rfl (lv_at hl 0 rfl) ?_
        refine n_if_ne (tgt := 61) hx hb dX7_isSo_40 (by decide) (by omega) (by omega) (fun c_40 => ?_) (fun c_40 => ?_)
        · refine n_iconst hx hb dX7_isSo_61 ?_
          exact r_z0 hx hb hr dX7_isSo_62 hlocks (show iN 0 = iN (if (no = 0 ∧ ¬ (bg = un ∧ f ≠ un / 256) ∧ bg / 256 * (en % 256) ≤ en / 256 * (bg % 256)) then 1 else 0) by rw [if_neg (by omega)])
        · exact absurd c_40 (by decide)

set_option maxHeartbeats 4000000 in
set_option maxRecDepth 100000 in
theorem c_X1_clear (l : Launch) (G : GE) (w : WF) (sz : Nat) (bs : Nat → Int) (es : Nat → Int) (e0 : w 15 = .inr (1, [.ref (gad G 16), .ref (gad G 17), .int (iN ((sz : Nat) : Int))])) (e1 : w 16 = .inl (gJ G, 10, .inr (.inl (aJ bs)))) (e2 : w 17 = .inl (gJ G, 10, .inr (.inl (aJ es)))) : Met l yX1_clear wsX1_clear ({ frames := 0, cells := 0, slots := 0, locals := 0 }) (PcG G w [.ref (gad G 15)]) (QV G (fun w1 => (∀ k : Nat, k ≠ 15 → w1 k = w k) ∧ w1 15 = .inr (1, [.ref (gad G 16), .ref (gad G 17), .int (iN 0)]))) 0 0 (AA G) := by
  refine Met.ofW (cc := cX1_clear) (maxL := 1) (ret := none) (by decide) rfl ?_
  intro p e s m args below meth c s₁ B hml hv
  obtain ⟨rfl, hP, hK⟩ := hv
  have hx := B.exec
  have hb := B.bytes
  have hr := B.returns
  have hts := atoms_spec (ws := wsX1_clear) B.pre
  have hown : s.vm.findClass RX1 = some m.cls := findClass_of_methodNamed B.named
  have hlocks := B.notSynchronized
  have hS : va_S (AA G) s.heap s.heap [] := va_S.rf
  have hAA : ∀ q, AA G q → AA G q := fun _ h => h
  have hl := lv_entry ([.ref (gad G 15)]) (n := 1) (Nat.le_of_ble_eq_true rfl)
  rw [lg_entry_eq]
  generalize (lg_sl ([.ref (gad G 15)]) ++ List.replicate (1 - (lg_sl ([.ref (gad G 15)])).length) Slot.unset).toArray = ls at hl ⊢
  have hl : lv_has ls 1 [(0, .ref (gad G 15))] := hl
  refine lv_aload_n hx hb dX1_clear_0 rfl (lv_at hl 0 rfl) ?_
  refine n_iconst hx hb dX1_clear_1 ?_
  refine f_put (v := .int (iN 0)) (ty := .int) (C := RX1) (T := TX1) (N := 3) hx hb hts (by decide +kernel) tyX1 tyX1_ok nmX1 hown hK hP hS hAA 15 (by omega) e0 rfl 2 (by decide) (hts (.fieldLink RX1 18 "KeptMoving$Crowd" "size" "I") (by decide +kernel)) (fun _ h9 => h9) rfl (by decide +kernel) (rfl) (rfl) (Nat.le_of_ble_eq_true rfl) (rfl) dX1_clear_2 (fun H locs hP hS => ?_)
  have hP : PW G (va_up w 15 (.inr (1, [.ref (gad G 16), .ref (gad G 17), .int (iN 0)]))) H := hP
  obtain ⟨w_1, hw_2⟩ : ∃ z : WF, z = va_up w 15 (.inr (1, [.ref (gad G 16), .ref (gad G 17), .int (iN 0)])) := ⟨_, rfl⟩
  rw [← hw_2] at hP
  have fr_3 : ∀ k : Nat, k ≠ 15 → w_1 k = w k := fun k h => by rw [hw_2]; exact va_up_ne _ _ h
  have e_4 : w_1 15 = .inr (1, [.ref (gad G 16), .ref (gad G 17), .int (iN 0)]) := by rw [hw_2]; exact va_up_self _ _ _
  have e_5 : w_1 16 = .inl (gJ G, 10, .inr (.inl (aJ bs))) := (fr_3 16 (by omega)).trans e1
  have e_6 : w_1 17 = .inl (gJ G, 10, .inr (.inl (aJ es))) := (fr_3 17 (by omega)).trans e2
  exact r_v hx hb hr dX1_clear_5 hlocks hP hS (⟨(fun k h0 => fr_3 k (by omega)), e_4⟩)

set_option maxHeartbeats 4000000 in
set_option maxRecDepth 100000 in
theorem c_X1_insert (l : Launch) (G : GE) (w : WF) (kk : Nat) (sz : Nat) (a : Nat → Int) (x : Int) (e0 : w 15 = .inr (1, [.ref (gad G 16), .ref (gad G 17), .int (iN ((sz : Nat) : Int))])) (e1 : w kk = .inl (gJ G, 10, .inr (.inl (aJ a)))) (p0 : kk = 16 ∨ kk = 17) (p1 : sz < 10) (p2 : ∀ k : Nat, k < sz → -30000000000 ≤ a k ∧ a k ≤ 30000000000) (p3 : -30000000000 ≤ x ∧ x ≤ 30000000000) : Met l yX1_insert wsX1_insert ({ frames := 2, cells := 0, slots := 0, locals := 46 }) (PcG G w [.ref (gad G 15), .ref (gad G kk), .long (jN x)]) (QV G (fun w1 => (∀ k : Nat, k ≠ kk → w1 k = w k) ∧ w1 kk = .inl (gJ G, 10, .inr (.inl (aJ (insF a (spotP (fun k => decide (x / 256 * (a k % 256) < a k / 256 * (x % 256))) sz) sz x)))))) 0 0 (AA G) := by
  refine Met.ofW (cc := cX1_insert) (maxL := 5) (ret := none) (by decide) rfl ?_
  intro p e s m args below meth c s₁ B hml hv
  obtain ⟨rfl, hP, hK⟩ := hv
  have hx := B.exec
  have hb := B.bytes
  have hr := B.returns
  have hts := atoms_spec (ws := wsX1_insert) B.pre
  have hown : s.vm.findClass RX1 = some m.cls := findClass_of_methodNamed B.named
  have hlocks := B.notSynchronized
  have hS : va_S (AA G) s.heap s.heap [] := va_S.rf
  have hAA : ∀ q, AA G q → AA G q := fun _ h => h
  have hl := lv_entry ([.ref (gad G 15), .ref (gad G kk), .long (jN x)]) (n := 5) (Nat.le_of_ble_eq_true rfl)
  rw [lg_entry_eq]
  generalize (lg_sl ([.ref (gad G 15), .ref (gad G kk), .long (jN x)]) ++ List.replicate (5 - (lg_sl ([.ref (gad G 15), .ref (gad G kk), .long (jN x)])).length) Slot.unset).toArray = ls at hl ⊢
  have hl : lv_has ls 5 [(0, .ref (gad G 15)), (1, .ref (gad G kk)), (2, .long (jN x))] := hl
  refine lv_aload_n hx hb dX1_insert_0 rfl (lv_at hl 0 rfl) ?_
  refine f_get (C := RX1) (T := TX1) (N := 3) hx hb hts (by decide +kernel) hown hK hP 15 (by omega) e0 rfl 2 (by decide) (hts (.fieldLink RX1 18 "KeptMoving$Crowd" "size" "I") (by decide +kernel)) (fun _ h9 => h9) rfl dX1_insert_1 ?_
  refine lv_istore (lv' := [(4, .int (iN ((sz : Nat) : Int))), (0, .ref (gad G 15)), (1, .ref (gad G kk)), (2, .long (jN x))]) hx hb dX1_insert_4 hl (by decide) rfl (fun ls hl => ?_)
  have K6 : ∀ (N : Nat) (q : Nat) (w2 : WF) (H : Heap) (locs : List Loc) (ls : Array Slot), (q ≤ sz) → (spotP (fun k => decide (x / 256 * (a k % 256) < a k / 256 * (x % 256))) q = spotP (fun k => decide (x / 256 * (a k % 256) < a k / 256 * (x % 256))) sz) → q < N → w2 kk = .inl (gJ G, 10, .inr (.inl (aJ (shF a q sz)))) → (∀ k : Nat, k ≠ kk → w2 k = w k) → PW G w2 H → va_S (AA G) s.heap H locs → lv_has ls 5 [(0, .ref (gad G 15)), (1, .ref (gad G kk)), (2, .long (jN x)), (4, .int (iN ((q : Nat) : Int)))] → W p l e (headSpec wsX1_insert ({ frames := 2, cells := 0, slots := 0, locals := 46 })).room s m (([.ref (gad G 15), .ref (gad G kk), .long (jN x)] : List Value).toArray) below meth c H locs 0 0 (MQ below (QV G (fun w1 => (∀ k : Nat, k ≠ kk → w1 k = w k) ∧ w1 kk = .inl (gJ G, 10, .inr (.inl (aJ (insF a (spotP (fun k => decide (x / 256 * (a k % 256) < a k / 256 * (x % 256))) sz) sz x)))))) (([.ref (gad G 15), .ref (gad G kk), .long (jN x)] : List Value).toArray) s 0 0 (AA G)) (F0 m 6 ls []) := by
    intro N
    induction N with
    | zero =>
      intros
      exfalso
      omega
    | succ N ih6 =>
      intro q w2 H locs ls i6_0 i6_1 hN6 f6_0 hfr6 hP hS hl
      have e_1 : w2 15 = .inr (1, [.ref (gad G 16), .ref (gad G 17), .int (iN ((sz : Nat) : Int))]) := by rw [hfr6 15 (by omega)]; exact e0
      refine lv_iload hx hb dX1_insert_6 (lv_at hl 3 rfl) ?_
      refine n_if_le (tgt := 40) hx hb dX1_insert_8 (by decide) (by omega) (by omega) (fun c_8 => ?_) (fun c_8 => ?_)
      · have hj : spotP (fun k => decide (x / 256 * (a k % 256) < a k / 256 * (x % 256))) sz = q := by rw [← i6_1]; exact spot_end (by omega)
        refine lv_aload_n hx hb dX1_insert_40 rfl (lv_at hl 1 rfl) ?_
        refine lv_iload hx hb dX1_insert_41 (lv_at hl 3 rfl) ?_
        refine lv_lload_n hx hb dX1_insert_43 rfl (lv_at hl 2 rfl) ?_
        refine n_last hx hb hK hP hS hAA kk (by omega) f6_0 (fun _ => shp_kk p0 _) q rfl (by omega) (by decide) dX1_insert_44 (fun H locs hP hS => ?_)
        obtain ⟨w_2, hw_3⟩ : ∃ z : WF, z = va_up w2 kk (.inl (gJ G, 10, .inr (.inl (aJ (va_up (shF a q sz) q x))))) := ⟨_, rfl⟩
        rw [← hw_3] at hP
        have fr_4 : ∀ k : Nat, k ≠ kk → w_2 k = w2 k := fun k h => by rw [hw_3]; exact va_up_ne _ _ h
        have e_5 : w_2 kk = .inl (gJ G, 10, .inr (.inl (aJ (va_up (shF a q sz) q x)))) := by rw [hw_3]; exact va_up_self _ _ _
        have e_6 : w_2 15 = .inr (1, [.ref (gad G 16), .ref (gad G 17), .int (iN ((sz : Nat) : Int))]) := (fr_4 15 (by omega)).trans e_1
        exact r_v hx hb hr dX1_insert_45 hlocks hP hS (⟨fun k h0 => ((fr_4 k (by omega)).trans (hfr6 k (by omega))), (by rw [hj]; exact e_5.trans (by rw [shF_end (by omega)]))⟩)
      · refine lv_aload_n hx hb dX1_insert_11 rfl (lv_at hl 1 rfl) ?_
        refine lv_iload hx hb dX1_insert_12 (lv_at hl 3 rfl) ?_
        refine n_iconst hx hb dX1_insert_14 ?_
        refine n_isub hx hb dX1_insert_15 ?_
        rw [show ((q : Nat) : Int) - 1 = ((q - 1 : Nat) : Int) by omega]
        refine n_lald hx hb hK hP kk (by omega) f6_0 (q - 1) rfl (by omega) (by decide) dX1_insert_16 ?_
        refine lv_lload_n hx hb dX1_insert_17 rfl (lv_at hl 2 rfl) ?_
        refine vp_callSi (va_Run.run (va_runSN (As := [.long (jN ((shF a q sz) (q - 1))), .long (jN x)]) (rest := []) ⟨hx, hb, hml, hown, hts⟩ (c_X2_compare l ((shF a q sz) (q - 1)) x (by rw [shF_lo (by omega)]; exact p2 (q - 1) (by omega)) (p3)) ⟨va_cnB 2 hts gX1_insert_X2_compare_n39 rfl rfl rfl (hK.nm 62 rfl) (hts (.initialized RX2) (by decide +kernel)) (by decide +kernel) ⟨Nat.le_of_ble_eq_true rfl, Nat.le_of_ble_eq_true rfl⟩, hts (.static yX2_compare) (by decide +kernel), trivial⟩ ⟨fun _ _ _ _ q => q, fun _ _ _ => rfl⟩ rfl rfl hl.1 rfl (lv_room (Nat.le_of_ble_eq_true rfl)) dX1_insert_18 ⟨Nat.zero_le _, Nat.zero_le _⟩)) (fun r_7 hr_7 => ?_)
        rw [show r_7 = iN (cmpI (((shF a q sz) (q - 1)) / 256 * (x % 256)) (x / 256 * (((shF a q sz) (q - 1)) % 256))) from hr_7]
        refine n_ifc_le (tgt := 40) hx hb dX1_insert_21 (by decide) (fun c_21 => ?_) (fun c_21 => ?_)
        · have hj : spotP (fun k => decide (x / 256 * (a k % 256) < a k / 256 * (x % 256))) sz = q := by rw [← i6_1]; exact spot_end (Or.inr (decide_eq_false (by rw [show shF a q sz (q - 1) = a (q - 1) from shF_lo (by omega)] at c_21; omega)))
          refine lv_aload_n hx hb dX1_insert_40 rfl (lv_at hl 1 rfl) ?_
          refine lv_iload hx hb dX1_insert_41 (lv_at hl 3 rfl) ?_
          refine lv_lload_n hx hb dX1_insert_43 rfl (lv_at hl 2 rfl) ?_
          refine n_last hx hb hK hP hS hAA kk (by omega) f6_0 (fun _ => shp_kk p0 _) q rfl (by omega) (by decide) dX1_insert_44 (fun H locs hP hS => ?_)
          obtain ⟨w_8, hw_9⟩ : ∃ z : WF, z = va_up w2 kk (.inl (gJ G, 10, .inr (.inl (aJ (va_up (shF a q sz) q x))))) := ⟨_, rfl⟩
          rw [← hw_9] at hP
          have fr_10 : ∀ k : Nat, k ≠ kk → w_8 k = w2 k := fun k h => by rw [hw_9]; exact va_up_ne _ _ h
          have e_11 : w_8 kk = .inl (gJ G, 10, .inr (.inl (aJ (va_up (shF a q sz) q x)))) := by rw [hw_9]; exact va_up_self _ _ _
          have e_12 : w_8 15 = .inr (1, [.ref (gad G 16), .ref (gad G 17), .int (iN ((sz : Nat) : Int))]) := (fr_10 15 (by omega)).trans e_1
          exact r_v hx hb hr dX1_insert_45 hlocks hP hS (⟨fun k h0 => ((fr_10 k (by omega)).trans (hfr6 k (by omega))), (by rw [hj]; exact e_11.trans (by rw [shF_end (by omega)]))⟩)
        · rw [show shF a q sz (q - 1) = a (q - 1) from shF_lo (by omega)] at c_21
          refine lv_aload_n hx hb dX1_insert_24 rfl (lv_at hl 1 rfl) ?_
          refine lv_iload hx hb dX1_insert_25 (lv_at hl 3 rfl) ?_
          refine lv_aload_n hx hb dX1_insert_27 rfl (lv_at hl 1 rfl) ?_
          refine lv_iload hx hb dX1_insert_28 (lv_at hl 3 rfl) ?_
          refine n_iconst hx hb dX1_insert_30 ?_
          refine n_isub hx hb dX1_insert_31 ?_
          rw [show ((q : Nat) : Int) - 1 = ((q - 1 : Nat) : Int) by omega]
          refine n_lald hx hb hK hP kk (by omega) f6_0 (q - 1) rfl (by omega) (by decide) dX1_insert_32 ?_
          refine n_last hx hb hK hP hS hAA kk (by omega) f6_0 (fun _ => shp_kk p0 _) q rfl (by omega) (by decide) dX1_insert_33 (fun H locs hP hS => ?_)
          obtain ⟨w_13, hw_14⟩ : ∃ z : WF, z = va_up w2 kk (.inl (gJ G, 10, .inr (.inl (aJ (va_up (shF a q sz) q ((shF a q sz) (q - 1))))))) := ⟨_, rfl⟩
          rw [← hw_14] at hP
          have fr_15 : ∀ k : Nat, k ≠ kk → w_13 k = w2 k := fun k h => by rw [hw_14]; exact va_up_ne _ _ h
          have e_16 : w_13 kk = .inl (gJ G, 10, .inr (.inl (aJ (va_up (shF a q sz) q ((shF a q sz) (q - 1)))))) := by rw [hw_14]; exact va_up_self _ _ _
          have e_17 : w_13 15 = .inr (1, [.ref (gad G 16), .ref (gad G 17), .int (iN ((sz : Nat) : Int))]) := (fr_15 15 (by omega)).trans e_1
          refine lv_iinc (v := iN ((q - 1 : Nat) : Int)) (lv' := [(4, .int (iN ((q - 1 : Nat) : Int))), (0, .ref (gad G 15)), (1, .ref (gad G kk)), (2, .long (jN x))]) hx hb dX1_insert_34 hl (k := 3) rfl (iN_decN (by omega)) (by decide) rfl (fun ls hl => ?_)
          refine lv_goto (tgt := 6) hx hb dX1_insert_37 (by decide) ?_
          exact ih6 (q - 1) w_13 _ _ _ (by omega) (by rw [← i6_1]; exact (spot_step (by omega) (decide_eq_true (by omega))).symm) (by omega) (e_16.trans (by rw [shF_step (by omega) (by omega)])) (fun k h0 => ((fr_15 k (by omega)).trans (hfr6 k (by omega)))) hP hS (lv_sub hl [1, 2, 3, 0] rfl)
  exact K6 (sz + 1) (sz) w _ _ _ (by omega) (rfl) (by omega) (e1.trans (by rw [shF_0])) (fun k _ => rfl) hP hS (lv_sub hl [1, 2, 3, 0] rfl)

set_option maxHeartbeats 4000000 in
set_option maxRecDepth 100000 in
theorem c_X1_addIfSo (l : Launch) (G : GE) (w : WF) (sz : Nat) (bs : Nat → Int) (es : Nat → Int) (f : Int) (un : Int) (bg : Int) (en : Int) (no : Int) (e0 : w 15 = .inr (1, [.ref (gad G 16), .ref (gad G 17), .int (iN ((sz : Nat) : Int))])) (e1 : w 16 = .inl (gJ G, 10, .inr (.inl (aJ bs)))) (e2 : w 17 = .inl (gJ G, 10, .inr (.inl (aJ es)))) (e3 : w 14 = .inr (6, [.int (iN f), .long (jN un), .long (jN bg), .long (jN en), .int (iN no)])) (p0 : no = 0 ∨ no = 1) (p1 : -100000 ≤ f ∧ f ≤ 100000) (p2 : -30000000000 ≤ un ∧ un ≤ 30000000000) (p3 : -30000000000 ≤ bg ∧ bg ≤ 30000000000) (p4 : -30000000000 ≤ en ∧ en ≤ 30000000000) (p5 : ∀ k : Nat, k < sz → -30000000000 ≤ bs k ∧ bs k ≤ 30000000000) (p6 : ∀ k : Nat, k < sz → -30000000000 ≤ es k ∧ es k ≤ 30000000000) (p7 : sz ≤ 10) : Met l yX1_addIfSo wsX1_addIfSo ({ frames := 3, cells := 0, slots := 0, locals := 70 }) (PcG G w [.ref (gad G 15), .ref (gad G 14)]) (QV G (fun w1 => (∀ k : Nat, k ≠ 15 → k ≠ 16 → k ≠ 17 → w1 k = w k) ∧ w1 15 = .inr (1, [.ref (gad G 16), .ref (gad G 17), .int (iN ((if sz < 10 ∧ (no = 0 ∧ ¬ (bg = un ∧ f ≠ un / 256) ∧ bg / 256 * (en % 256) ≤ en / 256 * (bg % 256)) then sz + 1 else sz : Nat) : Int))]) ∧ w1 16 = .inl (gJ G, 10, .inr (.inl (aJ (if sz < 10 ∧ (no = 0 ∧ ¬ (bg = un ∧ f ≠ un / 256) ∧ bg / 256 * (en % 256) ≤ en / 256 * (bg % 256)) then insF bs (spotP (fun k => decide (bg / 256 * (bs k % 256) < bs k / 256 * (bg % 256))) sz) sz bg else bs)))) ∧ w1 17 = .inl (gJ G, 10, .inr (.inl (aJ (if sz < 10 ∧ (no = 0 ∧ ¬ (bg = un ∧ f ≠ un / 256) ∧ bg / 256 * (en % 256) ≤ en / 256 * (bg % 256)) then insF es (spotP (fun k => decide (en / 256 * (es k % 256) < es k / 256 * (en % 256))) sz) sz en else es)))))) 0 0 (AA G) := by
  refine Met.ofW (cc := cX1_addIfSo) (maxL := 2) (ret := none) (by decide) rfl ?_
  intro p e s m args below meth c s₁ B hml hv
  obtain ⟨rfl, hP, hK⟩ := hv
  have hx := B.exec
  have hb := B.bytes
  have hr := B.returns
  have hts := atoms_spec (ws := wsX1_addIfSo) B.pre
  have hown : s.vm.findClass RX1 = some m.cls := findClass_of_methodNamed B.named
  have hlocks := B.notSynchronized
  have hS : va_S (AA G) s.heap s.heap [] := va_S.rf
  have hAA : ∀ q, AA G q → AA G q := fun _ h => h
  have hl := lv_entry ([.ref (gad G 15), .ref (gad G 14)]) (n := 2) (Nat.le_of_ble_eq_true rfl)
  rw [lg_entry_eq]
  generalize (lg_sl ([.ref (gad G 15), .ref (gad G 14)]) ++ List.replicate (2 - (lg_sl ([.ref (gad G 15), .ref (gad G 14)])).length) Slot.unset).toArray = ls at hl ⊢
  have hl : lv_has ls 2 [(0, .ref (gad G 15)), (1, .ref (gad G 14))] := hl
  refine lv_aload_n hx hb dX1_addIfSo_0 rfl (lv_at hl 0 rfl) ?_
  refine f_get (C := RX1) (T := TX1) (N := 3) hx hb hts (by decide +kernel) hown hK hP 15 (by omega) e0 rfl 2 (by decide) (hts (.fieldLink RX1 18 "KeptMoving$Crowd" "size" "I") (by decide +kernel)) (fun _ h9 => h9) rfl dX1_addIfSo_1 ?_
  refine n_bipush hx hb dX1_addIfSo_4 (by decide) ?_
  refine n_icmp_ge (tgt := 50) hx hb dX1_addIfSo_6 (by decide) (by omega) (by omega) (by omega) (by omega) (fun c_6 => ?_) (fun c_6 => ?_)
  · exact r_v hx hb hr dX1_addIfSo_50 hlocks hP hS (⟨(fun k _ _ _ => rfl), (by rw [if_neg (fun z => absurd z.1 (by omega))]; exact e0), (by rw [if_neg (fun z => absurd z.1 (by omega))]; exact e1), (by rw [if_neg (fun z => absurd z.1 (by omega))]; exact e2)⟩)
  · refine lv_aload_n hx hb dX1_addIfSo_9 rfl (lv_at hl 1 rfl) ?_
    refine vp_callSi (va_Run.run (va_runVN (As := []) (rest := []) ⟨hx, hb, hml, hown, hts⟩ (c_X7_isSo l G w f un bg en no e3 (p0) (p1) (p2) (p3) (p4)) ⟨va_cnB 0 hts gX1_addIfSo_X7_isSo_n22 rfl rfl rfl (hK.nm 61 rfl) (hts (.initialized RX7) (by decide +kernel)) (by decide +kernel) ⟨Nat.le_of_ble_eq_true rfl, Nat.le_of_ble_eq_true rfl⟩, hts (.instanceMethod yX7_isSo) (by decide +kernel), hts (.selects RX7 yX7_isSo yX7_isSo) (by decide +kernel)⟩ (f_preV hP hK 14 (by omega) 6 e3 rfl) rfl rfl hl.1 rfl (lv_room (Nat.le_of_ble_eq_true rfl)) dX1_addIfSo_10 ⟨Nat.zero_le _, Nat.zero_le _⟩)) (fun r_1 hr_1 => ?_)
    rw [show r_1 = iN (if (no = 0 ∧ ¬ (bg = un ∧ f ≠ un / 256) ∧ bg / 256 * (en % 256) ≤ en / 256 * (bg % 256)) then 1 else 0) from hr_1]
    refine n_ifb_eq (tgt := 50) hx hb dX1_addIfSo_13 (by decide) (fun c_13 => ?_) (fun c_13 => ?_)
    · exact r_v hx hb hr dX1_addIfSo_50 hlocks hP hS (⟨(fun k _ _ _ => rfl), (by rw [if_neg (fun z => c_13 z.2)]; exact e0), (by rw [if_neg (fun z => c_13 z.2)]; exact e1), (by rw [if_neg (fun z => c_13 z.2)]; exact e2)⟩)
    · refine lv_aload_n hx hb dX1_addIfSo_16 rfl (lv_at hl 0 rfl) ?_
      refine lv_aload_n hx hb dX1_addIfSo_17 rfl (lv_at hl 0 rfl) ?_
      refine f_get (C := RX1) (T := TX1) (N := 3) hx hb hts (by decide +kernel) hown hK hP 15 (by omega) e0 rfl 0 (by decide) (hts (.fieldLink RX1 9 "KeptMoving$Crowd" "begins" "[J") (by decide +kernel)) (fun _ h9 => h9) rfl dX1_addIfSo_18 ?_
      refine lv_aload_n hx hb dX1_addIfSo_21 rfl (lv_at hl 1 rfl) ?_
      refine f_getN (C := RX7) (T := TX7) (N := 5) hx hb hts (by decide +kernel) hown hK hP 14 (by omega) e3 rfl 2 (by decide) (hK.nf 8 rfl) (fun _ h9 => h9) rfl dX1_addIfSo_22 ?_
      refine f_callv (W.runV (As := [.ref (gad G 16), .long (jN bg)]) (rest := []) ⟨hx, hb, hml, hown, hts⟩ (c_X1_insert l G w 16 sz bs bg e0 e1 (Or.inl rfl) (by omega) (p5) (p3)) (cwV 2 hts gX1_addIfSo_X1_insert rfl rfl rfl (by decide +kernel) ⟨Nat.le_of_ble_eq_true rfl, Nat.le_of_ble_eq_true rfl⟩) (f_preV hP hK 15 (by omega) 1 e0 rfl) rfl rfl hl.1 rfl (lv_room (Nat.le_of_ble_eq_true rfl)) dX1_addIfSo_25 ⟨Nat.zero_le _, Nat.zero_le _⟩) hS hAA (fun w_2 H locs q_3 hP hS => ?_)
      obtain ⟨fr_4, e_5⟩ := q_3
      have e_6 : w_2 15 = .inr (1, [.ref (gad G 16), .ref (gad G 17), .int (iN ((sz : Nat) : Int))]) := (fr_4 15 (by omega)).trans e0
      have e_7 : w_2 17 = .inl (gJ G, 10, .inr (.inl (aJ es))) := (fr_4 17 (by omega)).trans e2
      have e_8 : w_2 14 = .inr (6, [.int (iN f), .long (jN un), .long (jN bg), .long (jN en), .int (iN no)]) := (fr_4 14 (by omega)).trans e3
      have e_9 : w_2 16 = .inl (gJ G, 10, .inr (.inl (aJ (insF bs (spotP (fun k => decide (bg / 256 * (bs k % 256) < bs k / 256 * (bg % 256))) sz) sz bg)))) := e_5
      refine lv_aload_n hx hb dX1_addIfSo_28 rfl (lv_at hl 0 rfl) ?_
      refine lv_aload_n hx hb dX1_addIfSo_29 rfl (lv_at hl 0 rfl) ?_
      refine f_get (C := RX1) (T := TX1) (N := 3) hx hb hts (by decide +kernel) hown hK hP 15 (by omega) e_6 rfl 1 (by decide) (hts (.fieldLink RX1 15 "KeptMoving$Crowd" "ends" "[J") (by decide +kernel)) (fun _ h9 => h9) rfl dX1_addIfSo_30 ?_
      refine lv_aload_n hx hb dX1_addIfSo_33 rfl (lv_at hl 1 rfl) ?_
      refine f_getN (C := RX7) (T := TX7) (N := 5) hx hb hts (by decide +kernel) hown hK hP 14 (by omega) e_8 rfl 3 (by decide) (hK.nf 10 rfl) (fun _ h9 => h9) rfl dX1_addIfSo_34 ?_
      refine f_callv (W.runV (As := [.ref (gad G 17), .long (jN en)]) (rest := []) ⟨hx, hb, hml, hown, hts⟩ (c_X1_insert l G w_2 17 sz es en e_6 e_7 (Or.inr rfl) (by omega) (p6) (p4)) (cwV 2 hts gX1_addIfSo_X1_insert rfl rfl rfl (by decide +kernel) ⟨Nat.le_of_ble_eq_true rfl, Nat.le_of_ble_eq_true rfl⟩) (f_preV hP hK 15 (by omega) 1 e_6 rfl) rfl rfl hl.1 rfl (lv_room (Nat.le_of_ble_eq_true rfl)) dX1_addIfSo_37 ⟨Nat.zero_le _, Nat.zero_le _⟩) hS hAA (fun w_10 H locs q_11 hP hS => ?_)
      obtain ⟨fr_12, e_13⟩ := q_11
      have e_14 : w_10 15 = .inr (1, [.ref (gad G 16), .ref (gad G 17), .int (iN ((sz : Nat) : Int))]) := (fr_12 15 (by omega)).trans e_6
      have e_15 : w_10 14 = .inr (6, [.int (iN f), .long (jN un), .long (jN bg), .long (jN en), .int (iN no)]) := (fr_12 14 (by omega)).trans e_8
      have e_16 : w_10 16 = .inl (gJ G, 10, .inr (.inl (aJ (insF bs (spotP (fun k => decide (bg / 256 * (bs k % 256) < bs k / 256 * (bg % 256))) sz) sz bg)))) := (fr_12 16 (by omega)).trans e_9
      have e_17 : w_10 17 = .inl (gJ G, 10, .inr (.inl (aJ (insF es (spotP (fun k => decide (en / 256 * (es k % 256) < es k / 256 * (en % 256))) sz) sz en)))) := e_13
      refine lv_aload_n hx hb dX1_addIfSo_40 rfl (lv_at hl 0 rfl) ?_
      refine lv_dup hx hb dX1_addIfSo_41 rfl ?_
      refine f_get (C := RX1) (T := TX1) (N := 3) hx hb hts (by decide +kernel) hown hK hP 15 (by omega) e_14 rfl 2 (by decide) (hts (.fieldLink RX1 18 "KeptMoving$Crowd" "size" "I") (by decide +kernel)) (fun _ h9 => h9) rfl dX1_addIfSo_42 ?_
      refine n_iconst hx hb dX1_addIfSo_45 ?_
      refine n_iadd hx hb dX1_addIfSo_46 ?_
      rw [show ((sz : Nat) : Int) + 1 = ((sz + 1 : Nat) : Int) by omega]
      refine f_put (v := .int (iN ((sz + 1 : Nat) : Int))) (ty := .int) (C := RX1) (T := TX1) (N := 3) hx hb hts (by decide +kernel) tyX1 tyX1_ok nmX1 hown hK hP hS hAA 15 (by omega) e_14 rfl 2 (by decide) (hts (.fieldLink RX1 18 "KeptMoving$Crowd" "size" "I") (by decide +kernel)) (fun _ h9 => h9) rfl (by decide +kernel) (rfl) (rfl) (Nat.le_of_ble_eq_true rfl) (rfl) dX1_addIfSo_47 (fun H locs hP hS => ?_)
      have hP : PW G (va_up w_10 15 (.inr (1, [.ref (gad G 16), .ref (gad G 17), .int (iN ((sz + 1 : Nat) : Int))]))) H := hP
      obtain ⟨w_18, hw_19⟩ : ∃ z : WF, z = va_up w_10 15 (.inr (1, [.ref (gad G 16), .ref (gad G 17), .int (iN ((sz + 1 : Nat) : Int))])) := ⟨_, rfl⟩
      rw [← hw_19] at hP
      have fr_20 : ∀ k : Nat, k ≠ 15 → w_18 k = w_10 k := fun k h => by rw [hw_19]; exact va_up_ne _ _ h
      have e_21 : w_18 15 = .inr (1, [.ref (gad G 16), .ref (gad G 17), .int (iN ((sz + 1 : Nat) : Int))]) := by rw [hw_19]; exact va_up_self _ _ _
      have e_22 : w_18 14 = .inr (6, [.int (iN f), .long (jN un), .long (jN bg), .long (jN en), .int (iN no)]) := (fr_20 14 (by omega)).trans e_15
      have e_23 : w_18 16 = .inl (gJ G, 10, .inr (.inl (aJ (insF bs (spotP (fun k => decide (bg / 256 * (bs k % 256) < bs k / 256 * (bg % 256))) sz) sz bg)))) := (fr_20 16 (by omega)).trans e_16
      have e_24 : w_18 17 = .inl (gJ G, 10, .inr (.inl (aJ (insF es (spotP (fun k => decide (en / 256 * (es k % 256) < es k / 256 * (en % 256))) sz) sz en)))) := (fr_20 17 (by omega)).trans e_17
      exact r_v hx hb hr dX1_addIfSo_50 hlocks hP hS (⟨(fun k h0 h1 h2 => ((((fr_20 k (by omega)).trans (fr_12 k (by omega)))).trans (fr_4 k (by omega)))), (by rw [if_pos ⟨by omega, c_13⟩]; exact e_21), (by rw [if_pos ⟨by omega, c_13⟩]; exact e_23), (by rw [if_pos ⟨by omega, c_13⟩]; exact e_24)⟩)

set_option maxHeartbeats 4000000 in
set_option maxRecDepth 100000 in
theorem c_X6_seek (l : Launch) (G : GE) (w : WF) (so : Int) (sz : Nat) (le : Int) (fb : Int) (fe : Int) (k : Int) (e0 : w 18 = .inr (5, [.int (iN so), .int (iN ((sz : Nat) : Int)), .long (jN le), .long (jN fb), .long (jN fe)])) : Met l yX6_seek wsX6_seek ({ frames := 0, cells := 0, slots := 0, locals := 0 }) (PcG G w [.ref (gad G 18), .int (iN k)]) (QV G (fun w1 => (∀ k : Nat, k ≠ 18 → w1 k = w k) ∧ w1 18 = .inr (5, [.int (iN k), .int (iN 0), .long (jN le), .long (jN fb), .long (jN fe)]))) 0 0 (AA G) := by
  refine Met.ofW (cc := cX6_seek) (maxL := 2) (ret := none) (by decide) rfl ?_
  intro p e s m args below meth c s₁ B hml hv
  obtain ⟨rfl, hP, hK⟩ := hv
  have hx := B.exec
  have hb := B.bytes
  have hr := B.returns
  have hts := atoms_spec (ws := wsX6_seek) B.pre
  have hown : s.vm.findClass RX6 = some m.cls := findClass_of_methodNamed B.named
  have hlocks := B.notSynchronized
  have hS : va_S (AA G) s.heap s.heap [] := va_S.rf
  have hAA : ∀ q, AA G q → AA G q := fun _ h => h
  have hl := lv_entry ([.ref (gad G 18), .int (iN k)]) (n := 2) (Nat.le_of_ble_eq_true rfl)
  rw [lg_entry_eq]
  generalize (lg_sl ([.ref (gad G 18), .int (iN k)]) ++ List.replicate (2 - (lg_sl ([.ref (gad G 18), .int (iN k)])).length) Slot.unset).toArray = ls at hl ⊢
  have hl : lv_has ls 2 [(0, .ref (gad G 18)), (1, .int (iN k))] := hl
  refine lv_aload_n hx hb dX6_seek_0 rfl (lv_at hl 0 rfl) ?_
  refine lv_iload_n hx hb dX6_seek_1 rfl (lv_at hl 1 rfl) ?_
  refine f_put (v := .int (iN k)) (ty := .int) (C := RX6) (T := TX6) (N := 5) hx hb hts (by decide +kernel) tyX6 tyX6_ok nmX6 hown hK hP hS hAA 18 (by omega) e0 rfl 0 (by decide) (hts (.fieldLink RX6 9 "KeptMoving$Spans" "sought" "I") (by decide +kernel)) (fun _ h9 => h9) rfl (by decide +kernel) (rfl) (rfl) (Nat.le_of_ble_eq_true rfl) (rfl) dX6_seek_2 (fun H locs hP hS => ?_)
  have hP : PW G (va_up w 18 (.inr (5, [.int (iN k), .int (iN ((sz : Nat) : Int)), .long (jN le), .long (jN fb), .long (jN fe)]))) H := hP
  obtain ⟨w_1, hw_2⟩ : ∃ z : WF, z = va_up w 18 (.inr (5, [.int (iN k), .int (iN ((sz : Nat) : Int)), .long (jN le), .long (jN fb), .long (jN fe)])) := ⟨_, rfl⟩
  rw [← hw_2] at hP
  have fr_3 : ∀ k : Nat, k ≠ 18 → w_1 k = w k := fun k h => by rw [hw_2]; exact va_up_ne _ _ h
  have e_4 : w_1 18 = .inr (5, [.int (iN k), .int (iN ((sz : Nat) : Int)), .long (jN le), .long (jN fb), .long (jN fe)]) := by rw [hw_2]; exact va_up_self _ _ _
  refine lv_aload_n hx hb dX6_seek_5 rfl (lv_at hl 0 rfl) ?_
  refine n_iconst hx hb dX6_seek_6 ?_
  refine f_put (v := .int (iN 0)) (ty := .int) (C := RX6) (T := TX6) (N := 5) hx hb hts (by decide +kernel) tyX6 tyX6_ok nmX6 hown hK hP hS hAA 18 (by omega) e_4 rfl 1 (by decide) (hts (.fieldLink RX6 15 "KeptMoving$Spans" "size" "I") (by decide +kernel)) (fun _ h9 => h9) rfl (by decide +kernel) (rfl) (rfl) (Nat.le_of_ble_eq_true rfl) (rfl) dX6_seek_7 (fun H locs hP hS => ?_)
  have hP : PW G (va_up w_1 18 (.inr (5, [.int (iN k), .int (iN 0), .long (jN le), .long (jN fb), .long (jN fe)]))) H := hP
  obtain ⟨w_5, hw_6⟩ : ∃ z : WF, z = va_up w_1 18 (.inr (5, [.int (iN k), .int (iN 0), .long (jN le), .long (jN fb), .long (jN fe)])) := ⟨_, rfl⟩
  rw [← hw_6] at hP
  have fr_7 : ∀ k : Nat, k ≠ 18 → w_5 k = w_1 k := fun k h => by rw [hw_6]; exact va_up_ne _ _ h
  have e_8 : w_5 18 = .inr (5, [.int (iN k), .int (iN 0), .long (jN le), .long (jN fb), .long (jN fe)]) := by rw [hw_6]; exact va_up_self _ _ _
  exact r_v hx hb hr dX6_seek_10 hlocks hP hS (⟨(fun k h0 => ((fr_7 k (by omega)).trans (fr_3 k (by omega)))), e_8⟩)

set_option maxHeartbeats 4000000 in
set_option maxRecDepth 100000 in
theorem c_X6_add (l : Launch) (G : GE) (w : WF) (so : Int) (sz : Nat) (le : Int) (fb : Int) (fe : Int) (bb : Int) (ee : Int) (e0 : w 18 = .inr (5, [.int (iN so), .int (iN ((sz : Nat) : Int)), .long (jN le), .long (jN fb), .long (jN fe)])) (p0 : sz < 10000) (p1 : -2147483648 ≤ so ∧ so < 2147483648) (p2 : -30000000000 ≤ le ∧ le ≤ 30000000000) (p3 : -30000000000 ≤ bb ∧ bb ≤ 30000000000) : Met l yX6_add wsX6_add ({ frames := 2, cells := 0, slots := 0, locals := 46 }) (PcG G w [.ref (gad G 18), .long (jN bb), .long (jN ee)]) (QV G (fun w1 => (∀ k : Nat, k ≠ 18 → w1 k = w k) ∧ w1 18 = .inr (5, [.int (iN so), .int (iN ((if 0 < sz ∧ bb / 256 * (le % 256) ≤ le / 256 * (bb % 256) then sz else sz + 1 : Nat) : Int)), .long (jN ee), .long (jN (if ¬ (0 < sz ∧ bb / 256 * (le % 256) ≤ le / 256 * (bb % 256)) ∧ (sz : Int) = so then bb else fb)), .long (jN (if (if 0 < sz ∧ bb / 256 * (le % 256) ≤ le / 256 * (bb % 256) then (sz : Int) - 1 else sz) = so then ee else fe))]))) 0 0 (AA G) := by
  refine Met.ofW (cc := cX6_add) (maxL := 6) (ret := none) (by decide) rfl ?_
  intro p e s m args below meth c s₁ B hml hv
  obtain ⟨rfl, hP, hK⟩ := hv
  have hx := B.exec
  have hb := B.bytes
  have hr := B.returns
  have hts := atoms_spec (ws := wsX6_add) B.pre
  have hown : s.vm.findClass RX6 = some m.cls := findClass_of_methodNamed B.named
  have hlocks := B.notSynchronized
  have hS : va_S (AA G) s.heap s.heap [] := va_S.rf
  have hAA : ∀ q, AA G q → AA G q := fun _ h => h
  have hl := lv_entry ([.ref (gad G 18), .long (jN bb), .long (jN ee)]) (n := 6) (Nat.le_of_ble_eq_true rfl)
  rw [lg_entry_eq]
  generalize (lg_sl ([.ref (gad G 18), .long (jN bb), .long (jN ee)]) ++ List.replicate (6 - (lg_sl ([.ref (gad G 18), .long (jN bb), .long (jN ee)])).length) Slot.unset).toArray = ls at hl ⊢
  have hl : lv_has ls 6 [(0, .ref (gad G 18)), (1, .long (jN bb)), (3, .long (jN ee))] := hl
  refine lv_aload_n hx hb dX6_add_0 rfl (lv_at hl 0 rfl) ?_
  refine f_get (C := RX6) (T := TX6) (N := 5) hx hb hts (by decide +kernel) hown hK hP 18 (by omega) e0 rfl 1 (by decide) (hts (.fieldLink RX6 15 "KeptMoving$Spans" "size" "I") (by decide +kernel)) (fun _ h9 => h9) rfl dX6_add_1 ?_
  refine n_if_le (tgt := 22) hx hb dX6_add_4 (by decide) (by omega) (by omega) (fun c_4 => ?_) (fun c_4 => ?_)
  · refine n_iconst hx hb dX6_add_22 ?_
    refine lv_istore (lv' := [(5, .int (iN 0)), (0, .ref (gad G 18)), (1, .long (jN bb)), (3, .long (jN ee))]) hx hb dX6_add_23 hl (by decide) rfl (fun ls hl => ?_)
    refine lv_iload hx hb dX6_add_25 (lv_at hl 0 rfl) ?_
    refine n_if_ne (tgt := 58) hx hb dX6_add_27 (by decide) (by omega) (by omega) (fun c_27 => ?_) (fun c_27 => ?_)
    · exact absurd c_27 (by decide)
    · refine lv_aload_n hx hb dX6_add_30 rfl (lv_at hl 1 rfl) ?_
      refine lv_dup hx hb dX6_add_31 rfl ?_
      refine f_get (C := RX6) (T := TX6) (N := 5) hx hb hts (by decide +kernel) hown hK hP 18 (by omega) e0 rfl 1 (by decide) (hts (.fieldLink RX6 15 "KeptMoving$Spans" "size" "I") (by decide +kernel)) (fun _ h9 => h9) rfl dX6_add_32 ?_
      refine n_iconst hx hb dX6_add_35 ?_
      refine n_iadd hx hb dX6_add_36 ?_
      rw [show ((sz : Nat) : Int) + 1 = ((sz + 1 : Nat) : Int) by omega]
      refine f_put (v := .int (iN ((sz + 1 : Nat) : Int))) (ty := .int) (C := RX6) (T := TX6) (N := 5) hx hb hts (by decide +kernel) tyX6 tyX6_ok nmX6 hown hK hP hS hAA 18 (by omega) e0 rfl 1 (by decide) (hts (.fieldLink RX6 15 "KeptMoving$Spans" "size" "I") (by decide +kernel)) (fun _ h9 => h9) rfl (by decide +kernel) (rfl) (rfl) (Nat.le_of_ble_eq_true rfl) (rfl) dX6_add_37 (fun H locs hP hS => ?_)
      have hP : PW G (va_up w 18 (.inr (5, [.int (iN so), .int (iN ((sz + 1 : Nat) : Int)), .long (jN le), .long (jN fb), .long (jN fe)]))) H := hP
      obtain ⟨w_1, hw_2⟩ : ∃ z : WF, z = va_up w 18 (.inr (5, [.int (iN so), .int (iN ((sz + 1 : Nat) : Int)), .long (jN le), .long (jN fb), .long (jN fe)])) := ⟨_, rfl⟩
      rw [← hw_2] at hP
      have fr_3 : ∀ k : Nat, k ≠ 18 → w_1 k = w k := fun k h => by rw [hw_2]; exact va_up_ne _ _ h
      have e_4 : w_1 18 = .inr (5, [.int (iN so), .int (iN ((sz + 1 : Nat) : Int)), .long (jN le), .long (jN fb), .long (jN fe)]) := by rw [hw_2]; exact va_up_self _ _ _
      refine lv_aload_n hx hb dX6_add_40 rfl (lv_at hl 1 rfl) ?_
      refine f_get (C := RX6) (T := TX6) (N := 5) hx hb hts (by decide +kernel) hown hK hP 18 (by omega) e_4 rfl 1 (by decide) (hts (.fieldLink RX6 15 "KeptMoving$Spans" "size" "I") (by decide +kernel)) (fun _ h9 => h9) rfl dX6_add_41 ?_
      refine n_iconst hx hb dX6_add_44 ?_
      refine n_isub hx hb dX6_add_45 ?_
      refine lv_aload_n hx hb dX6_add_46 rfl (lv_at hl 1 rfl) ?_
      refine f_get (C := RX6) (T := TX6) (N := 5) hx hb hts (by decide +kernel) hown hK hP 18 (by omega) e_4 rfl 0 (by decide) (hts (.fieldLink RX6 9 "KeptMoving$Spans" "sought" "I") (by decide +kernel)) (fun _ h9 => h9) rfl dX6_add_47 ?_
      refine n_icmp_ne (tgt := 58) hx hb dX6_add_50 (by decide) (by omega) (by omega) (by omega) (by omega) (fun c_50 => ?_) (fun c_50 => ?_)
      · refine lv_aload_n hx hb dX6_add_58 rfl (lv_at hl 1 rfl) ?_
        refine lv_lload_n hx hb dX6_add_59 rfl (lv_at hl 3 rfl) ?_
        refine f_put (v := .long (jN ee)) (ty := .long) (C := RX6) (T := TX6) (N := 5) hx hb hts (by decide +kernel) tyX6 tyX6_ok nmX6 hown hK hP hS hAA 18 (by omega) e_4 rfl 2 (by decide) (hts (.fieldLink RX6 35 "KeptMoving$Spans" "latestEnd" "J") (by decide +kernel)) (fun _ h9 => h9) rfl (by decide +kernel) (rfl) (rfl) (Nat.le_of_ble_eq_true rfl) (rfl) dX6_add_60 (fun H locs hP hS => ?_)
        have hP : PW G (va_up w_1 18 (.inr (5, [.int (iN so), .int (iN ((sz + 1 : Nat) : Int)), .long (jN ee), .long (jN fb), .long (jN fe)]))) H := hP
        obtain ⟨w_5, hw_6⟩ : ∃ z : WF, z = va_up w_1 18 (.inr (5, [.int (iN so), .int (iN ((sz + 1 : Nat) : Int)), .long (jN ee), .long (jN fb), .long (jN fe)])) := ⟨_, rfl⟩
        rw [← hw_6] at hP
        have fr_7 : ∀ k : Nat, k ≠ 18 → w_5 k = w_1 k := fun k h => by rw [hw_6]; exact va_up_ne _ _ h
        have e_8 : w_5 18 = .inr (5, [.int (iN so), .int (iN ((sz + 1 : Nat) : Int)), .long (jN ee), .long (jN fb), .long (jN fe)]) := by rw [hw_6]; exact va_up_self _ _ _
        refine lv_aload_n hx hb dX6_add_63 rfl (lv_at hl 1 rfl) ?_
        refine f_get (C := RX6) (T := TX6) (N := 5) hx hb hts (by decide +kernel) hown hK hP 18 (by omega) e_8 rfl 1 (by decide) (hts (.fieldLink RX6 15 "KeptMoving$Spans" "size" "I") (by decide +kernel)) (fun _ h9 => h9) rfl dX6_add_64 ?_
        refine n_iconst hx hb dX6_add_67 ?_
        refine n_isub hx hb dX6_add_68 ?_
        refine lv_aload_n hx hb dX6_add_69 rfl (lv_at hl 1 rfl) ?_
        refine f_get (C := RX6) (T := TX6) (N := 5) hx hb hts (by decide +kernel) hown hK hP 18 (by omega) e_8 rfl 0 (by decide) (hts (.fieldLink RX6 9 "KeptMoving$Spans" "sought" "I") (by decide +kernel)) (fun _ h9 => h9) rfl dX6_add_70 ?_
        refine n_icmp_ne (tgt := 81) hx hb dX6_add_73 (by decide) (by omega) (by omega) (by omega) (by omega) (fun c_73 => ?_) (fun c_73 => ?_)
        · exact r_v hx hb hr dX6_add_81 hlocks hP hS (⟨fun k h0 => ((fr_7 k (by omega)).trans (fr_3 k (by omega))), (by rw [show (if 0 < sz ∧ bb / 256 * (le % 256) ≤ le / 256 * (bb % 256) then (sz : Int) - 1 else sz) = (sz : Int) from if_neg (by omega), show (if 0 < sz ∧ bb / 256 * (le % 256) ≤ le / 256 * (bb % 256) then sz else sz + 1) = sz + 1 from if_neg (by omega), show (if ¬ (0 < sz ∧ bb / 256 * (le % 256) ≤ le / 256 * (bb % 256)) ∧ (sz : Int) = so then bb else fb) = fb from if_neg (by omega), if_neg (by omega)]; exact e_8)⟩)
        · refine lv_aload_n hx hb dX6_add_76 rfl (lv_at hl 1 rfl) ?_
          refine lv_lload_n hx hb dX6_add_77 rfl (lv_at hl 3 rfl) ?_
          refine f_put (v := .long (jN ee)) (ty := .long) (C := RX6) (T := TX6) (N := 5) hx hb hts (by decide +kernel) tyX6 tyX6_ok nmX6 hown hK hP hS hAA 18 (by omega) e_8 rfl 4 (by decide) (hts (.fieldLink RX6 47 "KeptMoving$Spans" "foundEnd" "J") (by decide +kernel)) (fun _ h9 => h9) rfl (by decide +kernel) (rfl) (rfl) (Nat.le_of_ble_eq_true rfl) (rfl) dX6_add_78 (fun H locs hP hS => ?_)
          have hP : PW G (va_up w_5 18 (.inr (5, [.int (iN so), .int (iN ((sz + 1 : Nat) : Int)), .long (jN ee), .long (jN fb), .long (jN ee)]))) H := hP
          obtain ⟨w_9, hw_10⟩ : ∃ z : WF, z = va_up w_5 18 (.inr (5, [.int (iN so), .int (iN ((sz + 1 : Nat) : Int)), .long (jN ee), .long (jN fb), .long (jN ee)])) := ⟨_, rfl⟩
          rw [← hw_10] at hP
          have fr_11 : ∀ k : Nat, k ≠ 18 → w_9 k = w_5 k := fun k h => by rw [hw_10]; exact va_up_ne _ _ h
          have e_12 : w_9 18 = .inr (5, [.int (iN so), .int (iN ((sz + 1 : Nat) : Int)), .long (jN ee), .long (jN fb), .long (jN ee)]) := by rw [hw_10]; exact va_up_self _ _ _
          exact r_v hx hb hr dX6_add_81 hlocks hP hS (⟨fun k h0 => ((((fr_11 k (by omega)).trans (fr_7 k (by omega)))).trans (fr_3 k (by omega))), (by rw [show (if 0 < sz ∧ bb / 256 * (le % 256) ≤ le / 256 * (bb % 256) then (sz : Int) - 1 else sz) = (sz : Int) from if_neg (by omega), show (if 0 < sz ∧ bb / 256 * (le % 256) ≤ le / 256 * (bb % 256) then sz else sz + 1) = sz + 1 from if_neg (by omega), show (if ¬ (0 < sz ∧ bb / 256 * (le % 256) ≤ le / 256 * (bb % 256)) ∧ (sz : Int) = so then bb else fb) = fb from if_neg (by omega), if_pos (by omega)]; exact e_12)⟩)
      · refine lv_aload_n hx hb dX6_add_53 rfl (lv_at hl 1 rfl) ?_
        refine lv_lload_n hx hb dX6_add_54 rfl (lv_at hl 2 rfl) ?_
        refine f_put (v := .long (jN bb)) (ty := .long) (C := RX6) (T := TX6) (N := 5) hx hb hts (by decide +kernel) tyX6 tyX6_ok nmX6 hown hK hP hS hAA 18 (by omega) e_4 rfl 3 (by decide) (hts (.fieldLink RX6 44 "KeptMoving$Spans" "foundBegin" "J") (by decide +kernel)) (fun _ h9 => h9) rfl (by decide +kernel) (rfl) (rfl) (Nat.le_of_ble_eq_true rfl) (rfl) dX6_add_55 (fun H locs hP hS => ?_)
        have hP : PW G (va_up w_1 18 (.inr (5, [.int (iN so), .int (iN ((sz + 1 : Nat) : Int)), .long (jN le), .long (jN bb), .long (jN fe)]))) H := hP
        obtain ⟨w_13, hw_14⟩ : ∃ z : WF, z = va_up w_1 18 (.inr (5, [.int (iN so), .int (iN ((sz + 1 : Nat) : Int)), .long (jN le), .long (jN bb), .long (jN fe)])) := ⟨_, rfl⟩
        rw [← hw_14] at hP
        have fr_15 : ∀ k : Nat, k ≠ 18 → w_13 k = w_1 k := fun k h => by rw [hw_14]; exact va_up_ne _ _ h
        have e_16 : w_13 18 = .inr (5, [.int (iN so), .int (iN ((sz + 1 : Nat) : Int)), .long (jN le), .long (jN bb), .long (jN fe)]) := by rw [hw_14]; exact va_up_self _ _ _
        refine lv_aload_n hx hb dX6_add_58 rfl (lv_at hl 1 rfl) ?_
        refine lv_lload_n hx hb dX6_add_59 rfl (lv_at hl 3 rfl) ?_
        refine f_put (v := .long (jN ee)) (ty := .long) (C := RX6) (T := TX6) (N := 5) hx hb hts (by decide +kernel) tyX6 tyX6_ok nmX6 hown hK hP hS hAA 18 (by omega) e_16 rfl 2 (by decide) (hts (.fieldLink RX6 35 "KeptMoving$Spans" "latestEnd" "J") (by decide +kernel)) (fun _ h9 => h9) rfl (by decide +kernel) (rfl) (rfl) (Nat.le_of_ble_eq_true rfl) (rfl) dX6_add_60 (fun H locs hP hS => ?_)
        have hP : PW G (va_up w_13 18 (.inr (5, [.int (iN so), .int (iN ((sz + 1 : Nat) : Int)), .long (jN ee), .long (jN bb), .long (jN fe)]))) H := hP
        obtain ⟨w_17, hw_18⟩ : ∃ z : WF, z = va_up w_13 18 (.inr (5, [.int (iN so), .int (iN ((sz + 1 : Nat) : Int)), .long (jN ee), .long (jN bb), .long (jN fe)])) := ⟨_, rfl⟩
        rw [← hw_18] at hP
        have fr_19 : ∀ k : Nat, k ≠ 18 → w_17 k = w_13 k := fun k h => by rw [hw_18]; exact va_up_ne _ _ h
        have e_20 : w_17 18 = .inr (5, [.int (iN so), .int (iN ((sz + 1 : Nat) : Int)), .long (jN ee), .long (jN bb), .long (jN fe)]) := by rw [hw_18]; exact va_up_self _ _ _
        refine lv_aload_n hx hb dX6_add_63 rfl (lv_at hl 1 rfl) ?_
        refine f_get (C := RX6) (T := TX6) (N := 5) hx hb hts (by decide +kernel) hown hK hP 18 (by omega) e_20 rfl 1 (by decide) (hts (.fieldLink RX6 15 "KeptMoving$Spans" "size" "I") (by decide +kernel)) (fun _ h9 => h9) rfl dX6_add_64 ?_
        refine n_iconst hx hb dX6_add_67 ?_
        refine n_isub hx hb dX6_add_68 ?_
        refine lv_aload_n hx hb dX6_add_69 rfl (lv_at hl 1 rfl) ?_
        refine f_get (C := RX6) (T := TX6) (N := 5) hx hb hts (by decide +kernel) hown hK hP 18 (by omega) e_20 rfl 0 (by decide) (hts (.fieldLink RX6 9 "KeptMoving$Spans" "sought" "I") (by decide +kernel)) (fun _ h9 => h9) rfl dX6_add_70 ?_
        refine n_icmp_ne (tgt := 81) hx hb dX6_add_73 (by decide) (by omega) (by omega) (by omega) (by omega) (fun c_73 => ?_) (fun c_73 => ?_)
        · exact r_v hx hb hr dX6_add_81 hlocks hP hS (⟨fun k h0 => ((((fr_19 k (by omega)).trans (fr_15 k (by omega)))).trans (fr_3 k (by omega))), (by rw [show (if 0 < sz ∧ bb / 256 * (le % 256) ≤ le / 256 * (bb % 256) then (sz : Int) - 1 else sz) = (sz : Int) from if_neg (by omega), show (if 0 < sz ∧ bb / 256 * (le % 256) ≤ le / 256 * (bb % 256) then sz else sz + 1) = sz + 1 from if_neg (by omega), show (if ¬ (0 < sz ∧ bb / 256 * (le % 256) ≤ le / 256 * (bb % 256)) ∧ (sz : Int) = so then bb else fb) = bb from if_pos (by omega), if_neg (by omega)]; exact e_20)⟩)
        · refine lv_aload_n hx hb dX6_add_76 rfl (lv_at hl 1 rfl) ?_
          refine lv_lload_n hx hb dX6_add_77 rfl (lv_at hl 3 rfl) ?_
          refine f_put (v := .long (jN ee)) (ty := .long) (C := RX6) (T := TX6) (N := 5) hx hb hts (by decide +kernel) tyX6 tyX6_ok nmX6 hown hK hP hS hAA 18 (by omega) e_20 rfl 4 (by decide) (hts (.fieldLink RX6 47 "KeptMoving$Spans" "foundEnd" "J") (by decide +kernel)) (fun _ h9 => h9) rfl (by decide +kernel) (rfl) (rfl) (Nat.le_of_ble_eq_true rfl) (rfl) dX6_add_78 (fun H locs hP hS => ?_)
          have hP : PW G (va_up w_17 18 (.inr (5, [.int (iN so), .int (iN ((sz + 1 : Nat) : Int)), .long (jN ee), .long (jN bb), .long (jN ee)]))) H := hP
          obtain ⟨w_21, hw_22⟩ : ∃ z : WF, z = va_up w_17 18 (.inr (5, [.int (iN so), .int (iN ((sz + 1 : Nat) : Int)), .long (jN ee), .long (jN bb), .long (jN ee)])) := ⟨_, rfl⟩
          rw [← hw_22] at hP
          have fr_23 : ∀ k : Nat, k ≠ 18 → w_21 k = w_17 k := fun k h => by rw [hw_22]; exact va_up_ne _ _ h
          have e_24 : w_21 18 = .inr (5, [.int (iN so), .int (iN ((sz + 1 : Nat) : Int)), .long (jN ee), .long (jN bb), .long (jN ee)]) := by rw [hw_22]; exact va_up_self _ _ _
          exact r_v hx hb hr dX6_add_81 hlocks hP hS (⟨fun k h0 => ((((((fr_23 k (by omega)).trans (fr_19 k (by omega)))).trans (fr_15 k (by omega)))).trans (fr_3 k (by omega))), (by rw [show (if 0 < sz ∧ bb / 256 * (le % 256) ≤ le / 256 * (bb % 256) then (sz : Int) - 1 else sz) = (sz : Int) from if_neg (by omega), show (if 0 < sz ∧ bb / 256 * (le % 256) ≤ le / 256 * (bb % 256) then sz else sz + 1) = sz + 1 from if_neg (by omega), show (if ¬ (0 < sz ∧ bb / 256 * (le % 256) ≤ le / 256 * (bb % 256)) ∧ (sz : Int) = so then bb else fb) = bb from if_pos (by omega), if_pos (by omega)]; exact e_24)⟩)
  · refine lv_lload_n hx hb dX6_add_7 rfl (lv_at hl 1 rfl) ?_
    refine lv_aload_n hx hb dX6_add_8 rfl (lv_at hl 0 rfl) ?_
    refine f_get (C := RX6) (T := TX6) (N := 5) hx hb hts (by decide +kernel) hown hK hP 18 (by omega) e0 rfl 2 (by decide) (hts (.fieldLink RX6 35 "KeptMoving$Spans" "latestEnd" "J") (by decide +kernel)) (fun _ h9 => h9) rfl dX6_add_9 ?_
    refine vp_callSi (va_Run.run (va_runSN (As := [.long (jN bb), .long (jN le)]) (rest := []) ⟨hx, hb, hml, hown, hts⟩ (c_X2_compare l bb le (p3) (p2)) ⟨va_cnB 2 hts gX6_add_X2_compare_n38 rfl rfl rfl (hK.nm 54 rfl) (hts (.initialized RX2) (by decide +kernel)) (by decide +kernel) ⟨Nat.le_of_ble_eq_true rfl, Nat.le_of_ble_eq_true rfl⟩, hts (.static yX2_compare) (by decide +kernel), trivial⟩ ⟨fun _ _ _ _ q => q, fun _ _ _ => rfl⟩ rfl rfl hl.1 rfl (lv_room (Nat.le_of_ble_eq_true rfl)) dX6_add_12 ⟨Nat.zero_le _, Nat.zero_le _⟩)) (fun r_25 hr_25 => ?_)
    rw [show r_25 = iN (cmpI (bb / 256 * (le % 256)) (le / 256 * (bb % 256))) from hr_25]
    refine n_ifc_gt (tgt := 22) hx hb dX6_add_15 (by decide) (fun c_15 => ?_) (fun c_15 => ?_)
    · refine n_iconst hx hb dX6_add_22 ?_
      refine lv_istore (lv' := [(5, .int (iN 0)), (0, .ref (gad G 18)), (1, .long (jN bb)), (3, .long (jN ee))]) hx hb dX6_add_23 hl (by decide) rfl (fun ls hl => ?_)
      refine lv_iload hx hb dX6_add_25 (lv_at hl 0 rfl) ?_
      refine n_if_ne (tgt := 58) hx hb dX6_add_27 (by decide) (by omega) (by omega) (fun c_27 => ?_) (fun c_27 => ?_)
      · exact absurd c_27 (by decide)
      · refine lv_aload_n hx hb dX6_add_30 rfl (lv_at hl 1 rfl) ?_
        refine lv_dup hx hb dX6_add_31 rfl ?_
        refine f_get (C := RX6) (T := TX6) (N := 5) hx hb hts (by decide +kernel) hown hK hP 18 (by omega) e0 rfl 1 (by decide) (hts (.fieldLink RX6 15 "KeptMoving$Spans" "size" "I") (by decide +kernel)) (fun _ h9 => h9) rfl dX6_add_32 ?_
        refine n_iconst hx hb dX6_add_35 ?_
        refine n_iadd hx hb dX6_add_36 ?_
        rw [show ((sz : Nat) : Int) + 1 = ((sz + 1 : Nat) : Int) by omega]
        refine f_put (v := .int (iN ((sz + 1 : Nat) : Int))) (ty := .int) (C := RX6) (T := TX6) (N := 5) hx hb hts (by decide +kernel) tyX6 tyX6_ok nmX6 hown hK hP hS hAA 18 (by omega) e0 rfl 1 (by decide) (hts (.fieldLink RX6 15 "KeptMoving$Spans" "size" "I") (by decide +kernel)) (fun _ h9 => h9) rfl (by decide +kernel) (rfl) (rfl) (Nat.le_of_ble_eq_true rfl) (rfl) dX6_add_37 (fun H locs hP hS => ?_)
        have hP : PW G (va_up w 18 (.inr (5, [.int (iN so), .int (iN ((sz + 1 : Nat) : Int)), .long (jN le), .long (jN fb), .long (jN fe)]))) H := hP
        obtain ⟨w_26, hw_27⟩ : ∃ z : WF, z = va_up w 18 (.inr (5, [.int (iN so), .int (iN ((sz + 1 : Nat) : Int)), .long (jN le), .long (jN fb), .long (jN fe)])) := ⟨_, rfl⟩
        rw [← hw_27] at hP
        have fr_28 : ∀ k : Nat, k ≠ 18 → w_26 k = w k := fun k h => by rw [hw_27]; exact va_up_ne _ _ h
        have e_29 : w_26 18 = .inr (5, [.int (iN so), .int (iN ((sz + 1 : Nat) : Int)), .long (jN le), .long (jN fb), .long (jN fe)]) := by rw [hw_27]; exact va_up_self _ _ _
        refine lv_aload_n hx hb dX6_add_40 rfl (lv_at hl 1 rfl) ?_
        refine f_get (C := RX6) (T := TX6) (N := 5) hx hb hts (by decide +kernel) hown hK hP 18 (by omega) e_29 rfl 1 (by decide) (hts (.fieldLink RX6 15 "KeptMoving$Spans" "size" "I") (by decide +kernel)) (fun _ h9 => h9) rfl dX6_add_41 ?_
        refine n_iconst hx hb dX6_add_44 ?_
        refine n_isub hx hb dX6_add_45 ?_
        refine lv_aload_n hx hb dX6_add_46 rfl (lv_at hl 1 rfl) ?_
        refine f_get (C := RX6) (T := TX6) (N := 5) hx hb hts (by decide +kernel) hown hK hP 18 (by omega) e_29 rfl 0 (by decide) (hts (.fieldLink RX6 9 "KeptMoving$Spans" "sought" "I") (by decide +kernel)) (fun _ h9 => h9) rfl dX6_add_47 ?_
        refine n_icmp_ne (tgt := 58) hx hb dX6_add_50 (by decide) (by omega) (by omega) (by omega) (by omega) (fun c_50 => ?_) (fun c_50 => ?_)
        · refine lv_aload_n hx hb dX6_add_58 rfl (lv_at hl 1 rfl) ?_
          refine lv_lload_n hx hb dX6_add_59 rfl (lv_at hl 3 rfl) ?_
          refine f_put (v := .long (jN ee)) (ty := .long) (C := RX6) (T := TX6) (N := 5) hx hb hts (by decide +kernel) tyX6 tyX6_ok nmX6 hown hK hP hS hAA 18 (by omega) e_29 rfl 2 (by decide) (hts (.fieldLink RX6 35 "KeptMoving$Spans" "latestEnd" "J") (by decide +kernel)) (fun _ h9 => h9) rfl (by decide +kernel) (rfl) (rfl) (Nat.le_of_ble_eq_true rfl) (rfl) dX6_add_60 (fun H locs hP hS => ?_)
          have hP : PW G (va_up w_26 18 (.inr (5, [.int (iN so), .int (iN ((sz + 1 : Nat) : Int)), .long (jN ee), .long (jN fb), .long (jN fe)]))) H := hP
          obtain ⟨w_30, hw_31⟩ : ∃ z : WF, z = va_up w_26 18 (.inr (5, [.int (iN so), .int (iN ((sz + 1 : Nat) : Int)), .long (jN ee), .long (jN fb), .long (jN fe)])) := ⟨_, rfl⟩
          rw [← hw_31] at hP
          have fr_32 : ∀ k : Nat, k ≠ 18 → w_30 k = w_26 k := fun k h => by rw [hw_31]; exact va_up_ne _ _ h
          have e_33 : w_30 18 = .inr (5, [.int (iN so), .int (iN ((sz + 1 : Nat) : Int)), .long (jN ee), .long (jN fb), .long (jN fe)]) := by rw [hw_31]; exact va_up_self _ _ _
          refine lv_aload_n hx hb dX6_add_63 rfl (lv_at hl 1 rfl) ?_
          refine f_get (C := RX6) (T := TX6) (N := 5) hx hb hts (by decide +kernel) hown hK hP 18 (by omega) e_33 rfl 1 (by decide) (hts (.fieldLink RX6 15 "KeptMoving$Spans" "size" "I") (by decide +kernel)) (fun _ h9 => h9) rfl dX6_add_64 ?_
          refine n_iconst hx hb dX6_add_67 ?_
          refine n_isub hx hb dX6_add_68 ?_
          refine lv_aload_n hx hb dX6_add_69 rfl (lv_at hl 1 rfl) ?_
          refine f_get (C := RX6) (T := TX6) (N := 5) hx hb hts (by decide +kernel) hown hK hP 18 (by omega) e_33 rfl 0 (by decide) (hts (.fieldLink RX6 9 "KeptMoving$Spans" "sought" "I") (by decide +kernel)) (fun _ h9 => h9) rfl dX6_add_70 ?_
          refine n_icmp_ne (tgt := 81) hx hb dX6_add_73 (by decide) (by omega) (by omega) (by omega) (by omega) (fun c_73 => ?_) (fun c_73 => ?_)
          · exact r_v hx hb hr dX6_add_81 hlocks hP hS (⟨fun k h0 => ((fr_32 k (by omega)).trans (fr_28 k (by omega))), (by rw [show (if 0 < sz ∧ bb / 256 * (le % 256) ≤ le / 256 * (bb % 256) then (sz : Int) - 1 else sz) = (sz : Int) from if_neg (by omega), show (if 0 < sz ∧ bb / 256 * (le % 256) ≤ le / 256 * (bb % 256) then sz else sz + 1) = sz + 1 from if_neg (by omega), show (if ¬ (0 < sz ∧ bb / 256 * (le % 256) ≤ le / 256 * (bb % 256)) ∧ (sz : Int) = so then bb else fb) = fb from if_neg (by omega), if_neg (by omega)]; exact e_33)⟩)
          · refine lv_aload_n hx hb dX6_add_76 rfl (lv_at hl 1 rfl) ?_
            refine lv_lload_n hx hb dX6_add_77 rfl (lv_at hl 3 rfl) ?_
            refine f_put (v := .long (jN ee)) (ty := .long) (C := RX6) (T := TX6) (N := 5) hx hb hts (by decide +kernel) tyX6 tyX6_ok nmX6 hown hK hP hS hAA 18 (by omega) e_33 rfl 4 (by decide) (hts (.fieldLink RX6 47 "KeptMoving$Spans" "foundEnd" "J") (by decide +kernel)) (fun _ h9 => h9) rfl (by decide +kernel) (rfl) (rfl) (Nat.le_of_ble_eq_true rfl) (rfl) dX6_add_78 (fun H locs hP hS => ?_)
            have hP : PW G (va_up w_30 18 (.inr (5, [.int (iN so), .int (iN ((sz + 1 : Nat) : Int)), .long (jN ee), .long (jN fb), .long (jN ee)]))) H := hP
            obtain ⟨w_34, hw_35⟩ : ∃ z : WF, z = va_up w_30 18 (.inr (5, [.int (iN so), .int (iN ((sz + 1 : Nat) : Int)), .long (jN ee), .long (jN fb), .long (jN ee)])) := ⟨_, rfl⟩
            rw [← hw_35] at hP
            have fr_36 : ∀ k : Nat, k ≠ 18 → w_34 k = w_30 k := fun k h => by rw [hw_35]; exact va_up_ne _ _ h
            have e_37 : w_34 18 = .inr (5, [.int (iN so), .int (iN ((sz + 1 : Nat) : Int)), .long (jN ee), .long (jN fb), .long (jN ee)]) := by rw [hw_35]; exact va_up_self _ _ _
            exact r_v hx hb hr dX6_add_81 hlocks hP hS (⟨fun k h0 => ((((fr_36 k (by omega)).trans (fr_32 k (by omega)))).trans (fr_28 k (by omega))), (by rw [show (if 0 < sz ∧ bb / 256 * (le % 256) ≤ le / 256 * (bb % 256) then (sz : Int) - 1 else sz) = (sz : Int) from if_neg (by omega), show (if 0 < sz ∧ bb / 256 * (le % 256) ≤ le / 256 * (bb % 256) then sz else sz + 1) = sz + 1 from if_neg (by omega), show (if ¬ (0 < sz ∧ bb / 256 * (le % 256) ≤ le / 256 * (bb % 256)) ∧ (sz : Int) = so then bb else fb) = fb from if_neg (by omega), if_pos (by omega)]; exact e_37)⟩)
        · refine lv_aload_n hx hb dX6_add_53 rfl (lv_at hl 1 rfl) ?_
          refine lv_lload_n hx hb dX6_add_54 rfl (lv_at hl 2 rfl) ?_
          refine f_put (v := .long (jN bb)) (ty := .long) (C := RX6) (T := TX6) (N := 5) hx hb hts (by decide +kernel) tyX6 tyX6_ok nmX6 hown hK hP hS hAA 18 (by omega) e_29 rfl 3 (by decide) (hts (.fieldLink RX6 44 "KeptMoving$Spans" "foundBegin" "J") (by decide +kernel)) (fun _ h9 => h9) rfl (by decide +kernel) (rfl) (rfl) (Nat.le_of_ble_eq_true rfl) (rfl) dX6_add_55 (fun H locs hP hS => ?_)
          have hP : PW G (va_up w_26 18 (.inr (5, [.int (iN so), .int (iN ((sz + 1 : Nat) : Int)), .long (jN le), .long (jN bb), .long (jN fe)]))) H := hP
          obtain ⟨w_38, hw_39⟩ : ∃ z : WF, z = va_up w_26 18 (.inr (5, [.int (iN so), .int (iN ((sz + 1 : Nat) : Int)), .long (jN le), .long (jN bb), .long (jN fe)])) := ⟨_, rfl⟩
          rw [← hw_39] at hP
          have fr_40 : ∀ k : Nat, k ≠ 18 → w_38 k = w_26 k := fun k h => by rw [hw_39]; exact va_up_ne _ _ h
          have e_41 : w_38 18 = .inr (5, [.int (iN so), .int (iN ((sz + 1 : Nat) : Int)), .long (jN le), .long (jN bb), .long (jN fe)]) := by rw [hw_39]; exact va_up_self _ _ _
          refine lv_aload_n hx hb dX6_add_58 rfl (lv_at hl 1 rfl) ?_
          refine lv_lload_n hx hb dX6_add_59 rfl (lv_at hl 3 rfl) ?_
          refine f_put (v := .long (jN ee)) (ty := .long) (C := RX6) (T := TX6) (N := 5) hx hb hts (by decide +kernel) tyX6 tyX6_ok nmX6 hown hK hP hS hAA 18 (by omega) e_41 rfl 2 (by decide) (hts (.fieldLink RX6 35 "KeptMoving$Spans" "latestEnd" "J") (by decide +kernel)) (fun _ h9 => h9) rfl (by decide +kernel) (rfl) (rfl) (Nat.le_of_ble_eq_true rfl) (rfl) dX6_add_60 (fun H locs hP hS => ?_)
          have hP : PW G (va_up w_38 18 (.inr (5, [.int (iN so), .int (iN ((sz + 1 : Nat) : Int)), .long (jN ee), .long (jN bb), .long (jN fe)]))) H := hP
          obtain ⟨w_42, hw_43⟩ : ∃ z : WF, z = va_up w_38 18 (.inr (5, [.int (iN so), .int (iN ((sz + 1 : Nat) : Int)), .long (jN ee), .long (jN bb), .long (jN fe)])) := ⟨_, rfl⟩
          rw [← hw_43] at hP
          have fr_44 : ∀ k : Nat, k ≠ 18 → w_42 k = w_38 k := fun k h => by rw [hw_43]; exact va_up_ne _ _ h
          have e_45 : w_42 18 = .inr (5, [.int (iN so), .int (iN ((sz + 1 : Nat) : Int)), .long (jN ee), .long (jN bb), .long (jN fe)]) := by rw [hw_43]; exact va_up_self _ _ _
          refine lv_aload_n hx hb dX6_add_63 rfl (lv_at hl 1 rfl) ?_
          refine f_get (C := RX6) (T := TX6) (N := 5) hx hb hts (by decide +kernel) hown hK hP 18 (by omega) e_45 rfl 1 (by decide) (hts (.fieldLink RX6 15 "KeptMoving$Spans" "size" "I") (by decide +kernel)) (fun _ h9 => h9) rfl dX6_add_64 ?_
          refine n_iconst hx hb dX6_add_67 ?_
          refine n_isub hx hb dX6_add_68 ?_
          refine lv_aload_n hx hb dX6_add_69 rfl (lv_at hl 1 rfl) ?_
          refine f_get (C := RX6) (T := TX6) (N := 5) hx hb hts (by decide +kernel) hown hK hP 18 (by omega) e_45 rfl 0 (by decide) (hts (.fieldLink RX6 9 "KeptMoving$Spans" "sought" "I") (by decide +kernel)) (fun _ h9 => h9) rfl dX6_add_70 ?_
          refine n_icmp_ne (tgt := 81) hx hb dX6_add_73 (by decide) (by omega) (by omega) (by omega) (by omega) (fun c_73 => ?_) (fun c_73 => ?_)
          · exact r_v hx hb hr dX6_add_81 hlocks hP hS (⟨fun k h0 => ((((fr_44 k (by omega)).trans (fr_40 k (by omega)))).trans (fr_28 k (by omega))), (by rw [show (if 0 < sz ∧ bb / 256 * (le % 256) ≤ le / 256 * (bb % 256) then (sz : Int) - 1 else sz) = (sz : Int) from if_neg (by omega), show (if 0 < sz ∧ bb / 256 * (le % 256) ≤ le / 256 * (bb % 256) then sz else sz + 1) = sz + 1 from if_neg (by omega), show (if ¬ (0 < sz ∧ bb / 256 * (le % 256) ≤ le / 256 * (bb % 256)) ∧ (sz : Int) = so then bb else fb) = bb from if_pos (by omega), if_neg (by omega)]; exact e_45)⟩)
          · refine lv_aload_n hx hb dX6_add_76 rfl (lv_at hl 1 rfl) ?_
            refine lv_lload_n hx hb dX6_add_77 rfl (lv_at hl 3 rfl) ?_
            refine f_put (v := .long (jN ee)) (ty := .long) (C := RX6) (T := TX6) (N := 5) hx hb hts (by decide +kernel) tyX6 tyX6_ok nmX6 hown hK hP hS hAA 18 (by omega) e_45 rfl 4 (by decide) (hts (.fieldLink RX6 47 "KeptMoving$Spans" "foundEnd" "J") (by decide +kernel)) (fun _ h9 => h9) rfl (by decide +kernel) (rfl) (rfl) (Nat.le_of_ble_eq_true rfl) (rfl) dX6_add_78 (fun H locs hP hS => ?_)
            have hP : PW G (va_up w_42 18 (.inr (5, [.int (iN so), .int (iN ((sz + 1 : Nat) : Int)), .long (jN ee), .long (jN bb), .long (jN ee)]))) H := hP
            obtain ⟨w_46, hw_47⟩ : ∃ z : WF, z = va_up w_42 18 (.inr (5, [.int (iN so), .int (iN ((sz + 1 : Nat) : Int)), .long (jN ee), .long (jN bb), .long (jN ee)])) := ⟨_, rfl⟩
            rw [← hw_47] at hP
            have fr_48 : ∀ k : Nat, k ≠ 18 → w_46 k = w_42 k := fun k h => by rw [hw_47]; exact va_up_ne _ _ h
            have e_49 : w_46 18 = .inr (5, [.int (iN so), .int (iN ((sz + 1 : Nat) : Int)), .long (jN ee), .long (jN bb), .long (jN ee)]) := by rw [hw_47]; exact va_up_self _ _ _
            exact r_v hx hb hr dX6_add_81 hlocks hP hS (⟨fun k h0 => ((((((fr_48 k (by omega)).trans (fr_44 k (by omega)))).trans (fr_40 k (by omega)))).trans (fr_28 k (by omega))), (by rw [show (if 0 < sz ∧ bb / 256 * (le % 256) ≤ le / 256 * (bb % 256) then (sz : Int) - 1 else sz) = (sz : Int) from if_neg (by omega), show (if 0 < sz ∧ bb / 256 * (le % 256) ≤ le / 256 * (bb % 256) then sz else sz + 1) = sz + 1 from if_neg (by omega), show (if ¬ (0 < sz ∧ bb / 256 * (le % 256) ≤ le / 256 * (bb % 256)) ∧ (sz : Int) = so then bb else fb) = bb from if_pos (by omega), if_pos (by omega)]; exact e_49)⟩)
    · refine n_iconst hx hb dX6_add_18 ?_
      refine lv_goto (tgt := 23) hx hb dX6_add_19 (by decide) ?_
      refine lv_istore (lv' := [(5, .int (iN 1)), (0, .ref (gad G 18)), (1, .long (jN bb)), (3, .long (jN ee))]) hx hb dX6_add_23 hl (by decide) rfl (fun ls hl => ?_)
      refine lv_iload hx hb dX6_add_25 (lv_at hl 0 rfl) ?_
      refine n_if_ne (tgt := 58) hx hb dX6_add_27 (by decide) (by omega) (by omega) (fun c_27 => ?_) (fun c_27 => ?_)
      · refine lv_aload_n hx hb dX6_add_58 rfl (lv_at hl 1 rfl) ?_
        refine lv_lload_n hx hb dX6_add_59 rfl (lv_at hl 3 rfl) ?_
        refine f_put (v := .long (jN ee)) (ty := .long) (C := RX6) (T := TX6) (N := 5) hx hb hts (by decide +kernel) tyX6 tyX6_ok nmX6 hown hK hP hS hAA 18 (by omega) e0 rfl 2 (by decide) (hts (.fieldLink RX6 35 "KeptMoving$Spans" "latestEnd" "J") (by decide +kernel)) (fun _ h9 => h9) rfl (by decide +kernel) (rfl) (rfl) (Nat.le_of_ble_eq_true rfl) (rfl) dX6_add_60 (fun H locs hP hS => ?_)
        have hP : PW G (va_up w 18 (.inr (5, [.int (iN so), .int (iN ((sz : Nat) : Int)), .long (jN ee), .long (jN fb), .long (jN fe)]))) H := hP
        obtain ⟨w_50, hw_51⟩ : ∃ z : WF, z = va_up w 18 (.inr (5, [.int (iN so), .int (iN ((sz : Nat) : Int)), .long (jN ee), .long (jN fb), .long (jN fe)])) := ⟨_, rfl⟩
        rw [← hw_51] at hP
        have fr_52 : ∀ k : Nat, k ≠ 18 → w_50 k = w k := fun k h => by rw [hw_51]; exact va_up_ne _ _ h
        have e_53 : w_50 18 = .inr (5, [.int (iN so), .int (iN ((sz : Nat) : Int)), .long (jN ee), .long (jN fb), .long (jN fe)]) := by rw [hw_51]; exact va_up_self _ _ _
        refine lv_aload_n hx hb dX6_add_63 rfl (lv_at hl 1 rfl) ?_
        refine f_get (C := RX6) (T := TX6) (N := 5) hx hb hts (by decide +kernel) hown hK hP 18 (by omega) e_53 rfl 1 (by decide) (hts (.fieldLink RX6 15 "KeptMoving$Spans" "size" "I") (by decide +kernel)) (fun _ h9 => h9) rfl dX6_add_64 ?_
        refine n_iconst hx hb dX6_add_67 ?_
        refine n_isub hx hb dX6_add_68 ?_
        refine lv_aload_n hx hb dX6_add_69 rfl (lv_at hl 1 rfl) ?_
        refine f_get (C := RX6) (T := TX6) (N := 5) hx hb hts (by decide +kernel) hown hK hP 18 (by omega) e_53 rfl 0 (by decide) (hts (.fieldLink RX6 9 "KeptMoving$Spans" "sought" "I") (by decide +kernel)) (fun _ h9 => h9) rfl dX6_add_70 ?_
        refine n_icmp_ne (tgt := 81) hx hb dX6_add_73 (by decide) (by omega) (by omega) (by omega) (by omega) (fun c_73 => ?_) (fun c_73 => ?_)
        · exact r_v hx hb hr dX6_add_81 hlocks hP hS (⟨fun k h0 => fr_52 k (by omega), (by rw [show (if 0 < sz ∧ bb / 256 * (le % 256) ≤ le / 256 * (bb % 256) then (sz : Int) - 1 else sz) = (sz : Int) - 1 from if_pos (by omega), show (if 0 < sz ∧ bb / 256 * (le % 256) ≤ le / 256 * (bb % 256) then sz else sz + 1) = sz from if_pos (by omega), show (if ¬ (0 < sz ∧ bb / 256 * (le % 256) ≤ le / 256 * (bb % 256)) ∧ (sz : Int) = so then bb else fb) = fb from if_neg (by omega), if_neg (by omega)]; exact e_53)⟩)
        · refine lv_aload_n hx hb dX6_add_76 rfl (lv_at hl 1 rfl) ?_
          refine lv_lload_n hx hb dX6_add_77 rfl (lv_at hl 3 rfl) ?_
          refine f_put (v := .long (jN ee)) (ty := .long) (C := RX6) (T := TX6) (N := 5) hx hb hts (by decide +kernel) tyX6 tyX6_ok nmX6 hown hK hP hS hAA 18 (by omega) e_53 rfl 4 (by decide) (hts (.fieldLink RX6 47 "KeptMoving$Spans" "foundEnd" "J") (by decide +kernel)) (fun _ h9 => h9) rfl (by decide +kernel) (rfl) (rfl) (Nat.le_of_ble_eq_true rfl) (rfl) dX6_add_78 (fun H locs hP hS => ?_)
          have hP : PW G (va_up w_50 18 (.inr (5, [.int (iN so), .int (iN ((sz : Nat) : Int)), .long (jN ee), .long (jN fb), .long (jN ee)]))) H := hP
          obtain ⟨w_54, hw_55⟩ : ∃ z : WF, z = va_up w_50 18 (.inr (5, [.int (iN so), .int (iN ((sz : Nat) : Int)), .long (jN ee), .long (jN fb), .long (jN ee)])) := ⟨_, rfl⟩
          rw [← hw_55] at hP
          have fr_56 : ∀ k : Nat, k ≠ 18 → w_54 k = w_50 k := fun k h => by rw [hw_55]; exact va_up_ne _ _ h
          have e_57 : w_54 18 = .inr (5, [.int (iN so), .int (iN ((sz : Nat) : Int)), .long (jN ee), .long (jN fb), .long (jN ee)]) := by rw [hw_55]; exact va_up_self _ _ _
          exact r_v hx hb hr dX6_add_81 hlocks hP hS (⟨fun k h0 => ((fr_56 k (by omega)).trans (fr_52 k (by omega))), (by rw [show (if 0 < sz ∧ bb / 256 * (le % 256) ≤ le / 256 * (bb % 256) then (sz : Int) - 1 else sz) = (sz : Int) - 1 from if_pos (by omega), show (if 0 < sz ∧ bb / 256 * (le % 256) ≤ le / 256 * (bb % 256) then sz else sz + 1) = sz from if_pos (by omega), show (if ¬ (0 < sz ∧ bb / 256 * (le % 256) ≤ le / 256 * (bb % 256)) ∧ (sz : Int) = so then bb else fb) = fb from if_neg (by omega), if_pos (by omega)]; exact e_57)⟩)
      · exact absurd c_27 (by decide)

set_option maxHeartbeats 4000000 in
set_option maxRecDepth 100000 in
theorem c_X6_addIfSo (l : Launch) (G : GE) (w : WF) (so : Int) (sz : Nat) (le : Int) (fb : Int) (fe : Int) (f : Int) (un : Int) (bg : Int) (en : Int) (no : Int) (e0 : w 18 = .inr (5, [.int (iN so), .int (iN ((sz : Nat) : Int)), .long (jN le), .long (jN fb), .long (jN fe)])) (e1 : w 14 = .inr (6, [.int (iN f), .long (jN un), .long (jN bg), .long (jN en), .int (iN no)])) (p0 : no = 0 ∨ no = 1) (p1 : -100000 ≤ f ∧ f ≤ 100000) (p2 : -30000000000 ≤ un ∧ un ≤ 30000000000) (p3 : -30000000000 ≤ bg ∧ bg ≤ 30000000000) (p4 : -30000000000 ≤ en ∧ en ≤ 30000000000) (p5 : sz < 10000) (p6 : -2147483648 ≤ so ∧ so < 2147483648) (p7 : -30000000000 ≤ le ∧ le ≤ 30000000000) : Met l yX6_addIfSo wsX6_addIfSo ({ frames := 3, cells := 0, slots := 0, locals := 71 }) (PcG G w [.ref (gad G 18), .ref (gad G 14)]) (QV G (fun w1 => (∀ k : Nat, k ≠ 18 → w1 k = w k) ∧ w1 18 = .inr (5, [.int (iN so), .int (iN ((if (no = 0 ∧ ¬ (bg = un ∧ f ≠ un / 256) ∧ bg / 256 * (en % 256) ≤ en / 256 * (bg % 256)) then (if 0 < sz ∧ bg / 256 * (le % 256) ≤ le / 256 * (bg % 256) then sz else sz + 1) else sz : Nat) : Int)), .long (jN (if (no = 0 ∧ ¬ (bg = un ∧ f ≠ un / 256) ∧ bg / 256 * (en % 256) ≤ en / 256 * (bg % 256)) then en else le)), .long (jN (if (no = 0 ∧ ¬ (bg = un ∧ f ≠ un / 256) ∧ bg / 256 * (en % 256) ≤ en / 256 * (bg % 256)) then (if ¬ (0 < sz ∧ bg / 256 * (le % 256) ≤ le / 256 * (bg % 256)) ∧ (sz : Int) = so then bg else fb) else fb)), .long (jN (if (no = 0 ∧ ¬ (bg = un ∧ f ≠ un / 256) ∧ bg / 256 * (en % 256) ≤ en / 256 * (bg % 256)) then (if (if 0 < sz ∧ bg / 256 * (le % 256) ≤ le / 256 * (bg % 256) then (sz : Int) - 1 else sz) = so then en else fe) else fe))]))) 0 0 (AA G) := by
  refine Met.ofW (cc := cX6_addIfSo) (maxL := 2) (ret := none) (by decide) rfl ?_
  intro p e s m args below meth c s₁ B hml hv
  obtain ⟨rfl, hP, hK⟩ := hv
  have hx := B.exec
  have hb := B.bytes
  have hr := B.returns
  have hts := atoms_spec (ws := wsX6_addIfSo) B.pre
  have hown : s.vm.findClass RX6 = some m.cls := findClass_of_methodNamed B.named
  have hlocks := B.notSynchronized
  have hS : va_S (AA G) s.heap s.heap [] := va_S.rf
  have hAA : ∀ q, AA G q → AA G q := fun _ h => h
  have hl := lv_entry ([.ref (gad G 18), .ref (gad G 14)]) (n := 2) (Nat.le_of_ble_eq_true rfl)
  rw [lg_entry_eq]
  generalize (lg_sl ([.ref (gad G 18), .ref (gad G 14)]) ++ List.replicate (2 - (lg_sl ([.ref (gad G 18), .ref (gad G 14)])).length) Slot.unset).toArray = ls at hl ⊢
  have hl : lv_has ls 2 [(0, .ref (gad G 18)), (1, .ref (gad G 14))] := hl
  refine lv_aload_n hx hb dX6_addIfSo_0 rfl (lv_at hl 1 rfl) ?_
  refine vp_callSi (va_Run.run (va_runVN (As := []) (rest := []) ⟨hx, hb, hml, hown, hts⟩ (c_X7_isSo l G w f un bg en no e1 (p0) (p1) (p2) (p3) (p4)) ⟨va_cnB 0 hts gX6_addIfSo_X7_isSo_n18 rfl rfl rfl (hK.nm 52 rfl) (hts (.initialized RX7) (by decide +kernel)) (by decide +kernel) ⟨Nat.le_of_ble_eq_true rfl, Nat.le_of_ble_eq_true rfl⟩, hts (.instanceMethod yX7_isSo) (by decide +kernel), hts (.selects RX7 yX7_isSo yX7_isSo) (by decide +kernel)⟩ (f_preV hP hK 14 (by omega) 6 e1 rfl) rfl rfl hl.1 rfl (lv_room (Nat.le_of_ble_eq_true rfl)) dX6_addIfSo_1 ⟨Nat.zero_le _, Nat.zero_le _⟩)) (fun r_1 hr_1 => ?_)
  rw [show r_1 = iN (if (no = 0 ∧ ¬ (bg = un ∧ f ≠ un / 256) ∧ bg / 256 * (en % 256) ≤ en / 256 * (bg % 256)) then 1 else 0) from hr_1]
  refine n_ifb_eq (tgt := 19) hx hb dX6_addIfSo_4 (by decide) (fun c_4 => ?_) (fun c_4 => ?_)
  · exact r_v hx hb hr dX6_addIfSo_19 hlocks hP hS (⟨fun k _ => rfl, (by rw [if_neg c_4, if_neg c_4, if_neg c_4, if_neg c_4]; exact e0)⟩)
  · refine lv_aload_n hx hb dX6_addIfSo_7 rfl (lv_at hl 0 rfl) ?_
    refine lv_aload_n hx hb dX6_addIfSo_8 rfl (lv_at hl 1 rfl) ?_
    refine f_getN (C := RX7) (T := TX7) (N := 5) hx hb hts (by decide +kernel) hown hK hP 14 (by omega) e1 rfl 2 (by decide) (hK.nf 7 rfl) (fun _ h9 => h9) rfl dX6_addIfSo_9 ?_
    refine lv_aload_n hx hb dX6_addIfSo_12 rfl (lv_at hl 1 rfl) ?_
    refine f_getN (C := RX7) (T := TX7) (N := 5) hx hb hts (by decide +kernel) hown hK hP 14 (by omega) e1 rfl 3 (by decide) (hK.nf 9 rfl) (fun _ h9 => h9) rfl dX6_addIfSo_13 ?_
    refine f_callv (W.runV (As := [.long (jN bg), .long (jN en)]) (rest := []) ⟨hx, hb, hml, hown, hts⟩ (c_X6_add l G w so sz le fb fe bg en e0 (p5) (p6) (p7) (p3)) (cwV 2 hts gX6_addIfSo_X6_add rfl rfl rfl (by decide +kernel) ⟨Nat.le_of_ble_eq_true rfl, Nat.le_of_ble_eq_true rfl⟩) (f_preV hP hK 18 (by omega) 5 e0 rfl) rfl rfl hl.1 rfl (lv_room (Nat.le_of_ble_eq_true rfl)) dX6_addIfSo_16 ⟨Nat.zero_le _, Nat.zero_le _⟩) hS hAA (fun w_2 H locs q_3 hP hS => ?_)
    obtain ⟨fr_4, e_5⟩ := q_3
    have e_6 : w_2 14 = .inr (6, [.int (iN f), .long (jN un), .long (jN bg), .long (jN en), .int (iN no)]) := (fr_4 14 (by omega)).trans e1
    have e_7 : w_2 18 = .inr (5, [.int (iN so), .int (iN ((if 0 < sz ∧ bg / 256 * (le % 256) ≤ le / 256 * (bg % 256) then sz else sz + 1 : Nat) : Int)), .long (jN en), .long (jN (if ¬ (0 < sz ∧ bg / 256 * (le % 256) ≤ le / 256 * (bg % 256)) ∧ (sz : Int) = so then bg else fb)), .long (jN (if (if 0 < sz ∧ bg / 256 * (le % 256) ≤ le / 256 * (bg % 256) then (sz : Int) - 1 else sz) = so then en else fe))]) := e_5
    exact r_v hx hb hr dX6_addIfSo_19 hlocks hP hS (⟨fun k h0 => fr_4 k (by omega), (by rw [if_pos c_4, if_pos c_4, if_pos c_4, if_pos c_4]; exact e_7)⟩)

set_option maxHeartbeats 4000000 in
set_option maxRecDepth 100000 in
theorem c_X6_tell (l : Launch) (G : GE) (w : WF) (so : Int) (sz : Nat) (le : Int) (fb : Int) (fe : Int) (wh : Int) (e0 : w 18 = .inr (5, [.int (iN so), .int (iN ((sz : Nat) : Int)), .long (jN le), .long (jN fb), .long (jN fe)])) (p0 : sz < 10000) (p1 : -2147483648 ≤ so ∧ so < 2147483648) (p2 : 0 ≤ wh ∧ wh ≤ 3) (p3 : -30000000000 ≤ fb ∧ fb ≤ 30000000000) (p4 : -30000000000 ≤ fe ∧ fe ≤ 30000000000) : Met l yX6_tell wsX6_tell ({ frames := 1, cells := 0, slots := 0, locals := 21 }) (PcG G w [.ref (gad G 18), .int (iN wh)]) (vp_Si (fun r => r = iN (if so = -1 then (sz : Int) else if so < 0 ∨ (sz : Int) ≤ so then -1 else if wh = 0 then fb / 256 else if wh = 1 then fb % 256 else if wh = 2 then fe / 256 else fe % 256))) 0 0 (fun _ => False) := by
  refine Met.ofW (cc := cX6_tell) (maxL := 4) (ret := (some .int)) (by decide) rfl ?_
  intro p e s m args below meth c s₁ B hml hv
  obtain ⟨rfl, hP, hK⟩ := hv
  have hx := B.exec
  have hb := B.bytes
  have hr := B.returns
  have hts := atoms_spec (ws := wsX6_tell) B.pre
  have hown : s.vm.findClass RX6 = some m.cls := findClass_of_methodNamed B.named
  have hlocks := B.notSynchronized
  have hl := lv_entry ([.ref (gad G 18), .int (iN wh)]) (n := 4) (Nat.le_of_ble_eq_true rfl)
  rw [lg_entry_eq]
  generalize (lg_sl ([.ref (gad G 18), .int (iN wh)]) ++ List.replicate (4 - (lg_sl ([.ref (gad G 18), .int (iN wh)])).length) Slot.unset).toArray = ls at hl ⊢
  have hl : lv_has ls 4 [(0, .ref (gad G 18)), (1, .int (iN wh))] := hl
  refine lv_aload_n hx hb dX6_tell_0 rfl (lv_at hl 0 rfl) ?_
  refine f_get (C := RX6) (T := TX6) (N := 5) hx hb hts (by decide +kernel) hown hK hP 18 (by omega) e0 rfl 0 (by decide) (hts (.fieldLink RX6 9 "KeptMoving$Spans" "sought" "I") (by decide +kernel)) (fun _ h9 => h9) rfl dX6_tell_1 ?_
  refine n_iconst hx hb dX6_tell_4 ?_
  refine n_icmp_ne (tgt := 13) hx hb dX6_tell_5 (by decide) (by omega) (by omega) (by omega) (by omega) (fun c_5 => ?_) (fun c_5 => ?_)
  · refine lv_aload_n hx hb dX6_tell_13 rfl (lv_at hl 0 rfl) ?_
    refine f_get (C := RX6) (T := TX6) (N := 5) hx hb hts (by decide +kernel) hown hK hP 18 (by omega) e0 rfl 0 (by decide) (hts (.fieldLink RX6 9 "KeptMoving$Spans" "sought" "I") (by decide +kernel)) (fun _ h9 => h9) rfl dX6_tell_14 ?_
    refine n_if_lt (tgt := 31) hx hb dX6_tell_17 (by decide) (by omega) (by omega) (fun c_17 => ?_) (fun c_17 => ?_)
    · refine n_iconst hx hb dX6_tell_31 ?_
      exact r_si hx hb hr dX6_tell_32 hlocks (show _ = iN (if so = -1 then (sz : Int) else if so < 0 ∨ (sz : Int) ≤ so then -1 else if wh = 0 then fb / 256 else if wh = 1 then fb % 256 else if wh = 2 then fe / 256 else fe % 256) by rw [if_neg (by omega), if_pos (by omega)])
    · refine lv_aload_n hx hb dX6_tell_20 rfl (lv_at hl 0 rfl) ?_
      refine f_get (C := RX6) (T := TX6) (N := 5) hx hb hts (by decide +kernel) hown hK hP 18 (by omega) e0 rfl 0 (by decide) (hts (.fieldLink RX6 9 "KeptMoving$Spans" "sought" "I") (by decide +kernel)) (fun _ h9 => h9) rfl dX6_tell_21 ?_
      refine lv_aload_n hx hb dX6_tell_24 rfl (lv_at hl 0 rfl) ?_
      refine f_get (C := RX6) (T := TX6) (N := 5) hx hb hts (by decide +kernel) hown hK hP 18 (by omega) e0 rfl 1 (by decide) (hts (.fieldLink RX6 15 "KeptMoving$Spans" "size" "I") (by decide +kernel)) (fun _ h9 => h9) rfl dX6_tell_25 ?_
      refine n_icmp_lt (tgt := 33) hx hb dX6_tell_28 (by decide) (by omega) (by omega) (by omega) (by omega) (fun c_28 => ?_) (fun c_28 => ?_)
      · refine lv_iload_n hx hb dX6_tell_33 rfl (lv_at hl 1 rfl) ?_
        refine n_iconst hx hb dX6_tell_34 ?_
        refine n_icmp_ge (tgt := 45) hx hb dX6_tell_35 (by decide) (by omega) (by omega) (by omega) (by omega) (fun c_35 => ?_) (fun c_35 => ?_)
        · refine lv_aload_n hx hb dX6_tell_45 rfl (lv_at hl 0 rfl) ?_
          refine f_get (C := RX6) (T := TX6) (N := 5) hx hb hts (by decide +kernel) hown hK hP 18 (by omega) e0 rfl 4 (by decide) (hts (.fieldLink RX6 47 "KeptMoving$Spans" "foundEnd" "J") (by decide +kernel)) (fun _ h9 => h9) rfl dX6_tell_46 ?_
          refine lv_lstore_n (lv' := [(2, .long (jN fe)), (0, .ref (gad G 18)), (1, .int (iN wh))]) hx hb dX6_tell_49 rfl hl (by decide) rfl (fun ls hl => ?_)
          refine lv_iload_n hx hb dX6_tell_50 rfl (lv_at hl 2 rfl) ?_
          refine n_iconst hx hb dX6_tell_51 ?_
          have hw2 : Int.tmod wh 2 = wh % 2 := Int.tmod_eq_emod_of_nonneg (by omega)
          refine n_irem hx hb (by omega) (by omega) (by omega) (by omega) (by omega) dX6_tell_52 ?_
          refine n_if_ne (tgt := 63) hx hb dX6_tell_53 (by decide) (by omega) (by omega) (fun c_53 => ?_) (fun c_53 => ?_)
          · refine lv_lload_n hx hb dX6_tell_63 rfl (lv_at hl 0 rfl) ?_
            refine vp_callSi (va_Run.run (va_runSN (As := [.long (jN fe)]) (rest := []) ⟨hx, hb, hml, hown, hts⟩ (c_X2_lower l fe (by first | exact p3 | exact p4)) ⟨va_cnB 1 hts gX6_tell_X2_lower_n54 rfl rfl rfl (hK.nm 57 rfl) (hts (.initialized RX2) (by decide +kernel)) (by decide +kernel) ⟨Nat.le_of_ble_eq_true rfl, Nat.le_of_ble_eq_true rfl⟩, hts (.static yX2_lower) (by decide +kernel), trivial⟩ ⟨fun _ _ _ _ q => q, fun _ _ _ => rfl⟩ rfl rfl hl.1 rfl (lv_room (Nat.le_of_ble_eq_true rfl)) dX6_tell_64 ⟨Nat.zero_le _, Nat.zero_le _⟩)) (fun r_1 hr_1 => ?_)
            rw [show r_1 = iN (fe % 256) from hr_1]
            exact r_si hx hb hr dX6_tell_67 hlocks (show _ = iN (if so = -1 then (sz : Int) else if so < 0 ∨ (sz : Int) ≤ so then -1 else if wh = 0 then fb / 256 else if wh = 1 then fb % 256 else if wh = 2 then fe / 256 else fe % 256) by rw [if_neg (by omega), if_neg (by omega), if_neg (by omega), if_neg (by omega), if_neg (by omega)])
          · refine lv_lload_n hx hb dX6_tell_56 rfl (lv_at hl 0 rfl) ?_
            refine vp_callSi (va_Run.run (va_runSN (As := [.long (jN fe)]) (rest := []) ⟨hx, hb, hml, hown, hts⟩ (c_X2_upper l fe (by first | exact p3 | exact p4)) ⟨va_cnB 1 hts gX6_tell_X2_upper_n50 rfl rfl rfl (hK.nm 56 rfl) (hts (.initialized RX2) (by decide +kernel)) (by decide +kernel) ⟨Nat.le_of_ble_eq_true rfl, Nat.le_of_ble_eq_true rfl⟩, hts (.static yX2_upper) (by decide +kernel), trivial⟩ ⟨fun _ _ _ _ q => q, fun _ _ _ => rfl⟩ rfl rfl hl.1 rfl (lv_room (Nat.le_of_ble_eq_true rfl)) dX6_tell_57 ⟨Nat.zero_le _, Nat.zero_le _⟩)) (fun r_2 hr_2 => ?_)
            rw [show r_2 = iN (fe / 256) from hr_2]
            refine lv_goto (tgt := 67) hx hb dX6_tell_60 (by decide) ?_
            exact r_si hx hb hr dX6_tell_67 hlocks (show _ = iN (if so = -1 then (sz : Int) else if so < 0 ∨ (sz : Int) ≤ so then -1 else if wh = 0 then fb / 256 else if wh = 1 then fb % 256 else if wh = 2 then fe / 256 else fe % 256) by rw [if_neg (by omega), if_neg (by omega), if_neg (by omega), if_neg (by omega), if_pos (by omega)])
        · refine lv_aload_n hx hb dX6_tell_38 rfl (lv_at hl 0 rfl) ?_
          refine f_get (C := RX6) (T := TX6) (N := 5) hx hb hts (by decide +kernel) hown hK hP 18 (by omega) e0 rfl 3 (by decide) (hts (.fieldLink RX6 44 "KeptMoving$Spans" "foundBegin" "J") (by decide +kernel)) (fun _ h9 => h9) rfl dX6_tell_39 ?_
          refine lv_goto (tgt := 49) hx hb dX6_tell_42 (by decide) ?_
          refine lv_lstore_n (lv' := [(2, .long (jN fb)), (0, .ref (gad G 18)), (1, .int (iN wh))]) hx hb dX6_tell_49 rfl hl (by decide) rfl (fun ls hl => ?_)
          refine lv_iload_n hx hb dX6_tell_50 rfl (lv_at hl 2 rfl) ?_
          refine n_iconst hx hb dX6_tell_51 ?_
          have hw2 : Int.tmod wh 2 = wh % 2 := Int.tmod_eq_emod_of_nonneg (by omega)
          refine n_irem hx hb (by omega) (by omega) (by omega) (by omega) (by omega) dX6_tell_52 ?_
          refine n_if_ne (tgt := 63) hx hb dX6_tell_53 (by decide) (by omega) (by omega) (fun c_53 => ?_) (fun c_53 => ?_)
          · refine lv_lload_n hx hb dX6_tell_63 rfl (lv_at hl 0 rfl) ?_
            refine vp_callSi (va_Run.run (va_runSN (As := [.long (jN fb)]) (rest := []) ⟨hx, hb, hml, hown, hts⟩ (c_X2_lower l fb (by first | exact p3 | exact p4)) ⟨va_cnB 1 hts gX6_tell_X2_lower_n54 rfl rfl rfl (hK.nm 57 rfl) (hts (.initialized RX2) (by decide +kernel)) (by decide +kernel) ⟨Nat.le_of_ble_eq_true rfl, Nat.le_of_ble_eq_true rfl⟩, hts (.static yX2_lower) (by decide +kernel), trivial⟩ ⟨fun _ _ _ _ q => q, fun _ _ _ => rfl⟩ rfl rfl hl.1 rfl (lv_room (Nat.le_of_ble_eq_true rfl)) dX6_tell_64 ⟨Nat.zero_le _, Nat.zero_le _⟩)) (fun r_3 hr_3 => ?_)
            rw [show r_3 = iN (fb % 256) from hr_3]
            exact r_si hx hb hr dX6_tell_67 hlocks (show _ = iN (if so = -1 then (sz : Int) else if so < 0 ∨ (sz : Int) ≤ so then -1 else if wh = 0 then fb / 256 else if wh = 1 then fb % 256 else if wh = 2 then fe / 256 else fe % 256) by rw [if_neg (by omega), if_neg (by omega), if_neg (by omega), if_pos (by omega)])
          · refine lv_lload_n hx hb dX6_tell_56 rfl (lv_at hl 0 rfl) ?_
            refine vp_callSi (va_Run.run (va_runSN (As := [.long (jN fb)]) (rest := []) ⟨hx, hb, hml, hown, hts⟩ (c_X2_upper l fb (by first | exact p3 | exact p4)) ⟨va_cnB 1 hts gX6_tell_X2_upper_n50 rfl rfl rfl (hK.nm 56 rfl) (hts (.initialized RX2) (by decide +kernel)) (by decide +kernel) ⟨Nat.le_of_ble_eq_true rfl, Nat.le_of_ble_eq_true rfl⟩, hts (.static yX2_upper) (by decide +kernel), trivial⟩ ⟨fun _ _ _ _ q => q, fun _ _ _ => rfl⟩ rfl rfl hl.1 rfl (lv_room (Nat.le_of_ble_eq_true rfl)) dX6_tell_57 ⟨Nat.zero_le _, Nat.zero_le _⟩)) (fun r_4 hr_4 => ?_)
            rw [show r_4 = iN (fb / 256) from hr_4]
            refine lv_goto (tgt := 67) hx hb dX6_tell_60 (by decide) ?_
            exact r_si hx hb hr dX6_tell_67 hlocks (show _ = iN (if so = -1 then (sz : Int) else if so < 0 ∨ (sz : Int) ≤ so then -1 else if wh = 0 then fb / 256 else if wh = 1 then fb % 256 else if wh = 2 then fe / 256 else fe % 256) by rw [if_neg (by omega), if_neg (by omega), if_pos (by omega)])
      · refine n_iconst hx hb dX6_tell_31 ?_
        exact r_si hx hb hr dX6_tell_32 hlocks (show _ = iN (if so = -1 then (sz : Int) else if so < 0 ∨ (sz : Int) ≤ so then -1 else if wh = 0 then fb / 256 else if wh = 1 then fb % 256 else if wh = 2 then fe / 256 else fe % 256) by rw [if_neg (by omega), if_pos (by omega)])
  · refine lv_aload_n hx hb dX6_tell_8 rfl (lv_at hl 0 rfl) ?_
    refine f_get (C := RX6) (T := TX6) (N := 5) hx hb hts (by decide +kernel) hown hK hP 18 (by omega) e0 rfl 1 (by decide) (hts (.fieldLink RX6 15 "KeptMoving$Spans" "size" "I") (by decide +kernel)) (fun _ h9 => h9) rfl dX6_tell_9 ?_
    exact r_si hx hb hr dX6_tell_12 hlocks (show _ = iN (if so = -1 then (sz : Int) else if so < 0 ∨ (sz : Int) ≤ so then -1 else if wh = 0 then fb / 256 else if wh = 1 then fb % 256 else if wh = 2 then fe / 256 else fe % 256) by rw [if_pos (by omega)])
