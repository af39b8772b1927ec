theorem shp_cf {G : GE} {i : Nat} (hi : i < 10) (x y : Int32) : (.inr (0, [.ref (gad G (19 + 4 * i + 1)), .ref (gad G (19 + 4 * i + 2)), .ref (gad G (19 + 4 * i + 3)), .int x, .int y]) : va_E) = shp G (19 + 4 * i) (.inr (0, [.ref (gad G (19 + 4 * i + 1)), .ref (gad G (19 + 4 * i + 2)), .ref (gad G (19 + 4 * i + 3)), .int x, .int y])) := by
  rw [shp_c0 _ hi]
  rfl
theorem shp_cg {G : GE} {i j : Nat} (hi : i < 10) (hj : j = 1 ∨ j = 2 ∨ j = 3) (g : Nat → Int32) : (.inl (gI G, 8, .inl g) : va_E) = shp G (19 + 4 * i + j) (.inl (gI G, 8, .inl g)) := by
  rw [shp_c1 _ hi hj]
  rfl
/-- where undoFrom leaves a course: its pieces -/
def cutP (st : Nat → Int) (t : Int) : Nat → Nat
  | 0 => 0
  | 1 => 1
  | k + 2 => if t ≤ st (k + 1) then cutP st t (k + 1) else k + 2
theorem shl8 (A : Int) : jN A <<< ((iN 8).toInt64 &&& 63) = jN (A * 256) := by
  have h1 : ((iN 8).toInt64 &&& 63) = 8 := by decide
  rw [h1]
  apply Int64.toBitVec.inj
  show (BitVec.ofInt 64 A) <<< ((8 : Int64).toBitVec.smod 64) = BitVec.ofInt 64 (A * 256)
  rw [show ((8 : Int64).toBitVec.smod 64) = 8#64 by decide, BitVec.ofInt_mul, BitVec.shiftLeft_eq', show (8#64).toNat = 8 by decide, BitVec.shiftLeft_eq_mul_twoPow]
  congr 1
theorem or8 {A B : Int} (b0 : 0 ≤ B) (b1 : B < 256) : (jN (A * 256) ||| jN B) = jN (A * 256 + B) := by
  apply Int64.toBitVec.inj
  show BitVec.ofInt 64 (A * 256) ||| BitVec.ofInt 64 B = BitVec.ofInt 64 (A * 256 + B)
  rw [BitVec.ofInt_add]
  apply BitVec.eq_of_toNat_eq
  rw [BitVec.toNat_or, BitVec.toNat_add, BitVec.toNat_ofInt, BitVec.toNat_ofInt]
  obtain ⟨k, hk, hk2⟩ : ∃ k : Nat, ((A * 256) % ((2 ^ 64 : Nat) : Int)).toNat = 2 ^ 8 * k ∧ k < 2 ^ 56 := by
    refine ⟨((A * 256) % ((2 ^ 64 : Nat) : Int)).toNat / 256, ?_, ?_⟩ <;> omega
  obtain ⟨b, hb, hb2⟩ : ∃ b : Nat, (B % ((2 ^ 64 : Nat) : Int)).toNat = b ∧ b < 2 ^ 8 := ⟨_, rfl, by omega⟩
  rw [hk, hb, ← Nat.two_pow_add_eq_or_of_lt hb2]
  omega
theorem shr8 {x : Int} (h1 : -9223372036854775808 ≤ x) (h2 : x < 9223372036854775808) : jN x >>> ((iN 8).toInt64 &&& 63) = jN (x / 256) := by
  have h3 : ((iN 8).toInt64 &&& 63) = 8 := by decide
  rw [h3]
  apply Int64.toInt_inj.mp
  rw [jN_ti (by omega) (by omega)]
  show ((jN x).toBitVec.sshiftRight' ((8 : Int64).toBitVec.smod 64)).toInt = x / 256
  rw [show ((8 : Int64).toBitVec.smod 64) = 8#64 by decide, BitVec.toInt_sshiftRight', show (8#64).toNat = 8 by decide]
  rw [show (jN x).toBitVec.toInt = x from jN_ti h1 h2, Int.shiftRight_eq_div_pow]
  rfl
theorem and8 (x : Int) : (jN x &&& jN 255) = jN (x % 256) := by
  apply Int64.toBitVec.inj
  show BitVec.ofInt 64 x &&& BitVec.ofInt 64 255 = BitVec.ofInt 64 (x % 256)
  apply BitVec.eq_of_toNat_eq
  rw [BitVec.toNat_and, BitVec.toNat_ofInt, BitVec.toNat_ofInt, BitVec.toNat_ofInt]
  rw [show ((255 : Int) % ((2 ^ 64 : Nat) : Int)).toNat = 2 ^ 8 - 1 by decide, Nat.and_two_pow_sub_one_eq_mod]
  omega
section FS
variable {p : Program} {l : Launch} {e : Env} {R : Room} {s : State} {m : MethodId} {args : Array Value} {below : List Frame} {meth : Method} {c : Code} {H : Heap} {locs : List Loc} {cells slots : Nat} {Q : State → Prop}
variable {pc : Nat} {ls : Array Slot} {rest : List Value} {cc : ByteArray}
theorem n_lshl8 (hx : p.tables.exec = Jvm.exec) (hb : c.code = cc) {A : Int} (hdg : decode cc pc = .ok (.lshl, 1)) (k : W p l e R s m args below meth c H locs cells slots Q (F0 m (pc + 1) ls (.long (jN (A * 256)) :: rest))) : W p l e R s m args below meth c H locs cells slots Q (F0 m pc ls (.int (iN 8) :: .long (jN A) :: rest)) := lv_lshl hx hb hdg (shl8 A) k
theorem n_lshr8 (hx : p.tables.exec = Jvm.exec) (hb : c.code = cc) {A : Int} (a1 : -9223372036854775808 ≤ A) (a2 : A < 9223372036854775808) (hdg : decode cc pc = .ok (.lshr, 1)) (k : W p l e R s m args below meth c H locs cells slots Q (F0 m (pc + 1) ls (.long (jN (A / 256)) :: rest))) : W p l e R s m args below meth c H locs cells slots Q (F0 m pc ls (.int (iN 8) :: .long (jN A) :: rest)) := lv_lshr hx hb hdg (shr8 a1 a2) k
theorem n_lor8 (hx : p.tables.exec = Jvm.exec) (hb : c.code = cc) {A B : Int} (b1 : 0 ≤ B) (b2 : B < 256) (hdg : decode cc pc = .ok (.lor, 1)) (k : W p l e R s m args below meth c H locs cells slots Q (F0 m (pc + 1) ls (.long (jN (A * 256 + B)) :: rest))) : W p l e R s m args below meth c H locs cells slots Q (F0 m pc ls (.long (jN B) :: .long (jN (A * 256)) :: rest)) := lv_lor hx hb hdg (by rw [or8 b1 b2]; exact k)
theorem n_land8 (hx : p.tables.exec = Jvm.exec) (hb : c.code = cc) {A : Int} (a1 : -9223372036854775808 ≤ A) (a2 : A < 9223372036854775808) (hdg : decode cc pc = .ok (.land, 1)) (k : W p l e R s m args below meth c H locs cells slots Q (F0 m (pc + 1) ls (.long (jN (A % 256)) :: rest))) : W p l e R s m args below meth c H locs cells slots Q (F0 m pc ls (.long (jN 255) :: .long (jN A) :: rest)) := lv_land hx hb hdg (by rw [and8]; exact k)
end FS
/-- a fraction in least terms in one number -/
def frac (u lo : Int) : Int := (u.tdiv (Nat.gcd u.natAbs lo.natAbs : Int)) * 256 + lo.tdiv (Nat.gcd u.natAbs lo.natAbs : Int)
theorem gcd_pot {A B r : Nat} (hB : 0 < B) (hb : B ≤ 255) (h : 1 ≤ r → B ≤ A ∧ (A + B) * 3 ^ r ≤ 765 * 2 ^ r) : (1 ≤ r + 1 → A % B ≤ B ∧ (B + A % B) * 3 ^ (r + 1) ≤ 765 * 2 ^ (r + 1)) := by
  intro _
  have h1 : A % B < B := Nat.mod_lt _ hB
  refine ⟨by omega, ?_⟩
  rcases Nat.eq_zero_or_pos r with q | q
  · subst q
    simp only [Nat.zero_add, Nat.pow_one]
    omega
  · obtain ⟨h2, h3⟩ := h q
    have h4 : B + A % B ≤ A := by
      have := Nat.div_add_mod A B
      have h5 : 1 ≤ A / B := (Nat.one_le_div_iff hB).mpr h2
      have h6 : B * 1 ≤ B * (A / B) := Nat.mul_le_mul_left B h5
      omega
    have h7 : 3 * (B + A % B) ≤ 2 * (A + B) := by omega
    rw [Nat.pow_succ, Nat.pow_succ]
    have h8 : 3 * (B + A % B) * 3 ^ r ≤ 2 * (A + B) * 3 ^ r := Nat.mul_le_mul_right _ h7
    have e1 : (B + A % B) * (3 ^ r * 3) = 3 * (B + A % B) * 3 ^ r := by rw [Nat.mul_comm (3 ^ r) 3, ← Nat.mul_assoc, Nat.mul_comm (B + A % B) 3]
    have e2 : 2 * (A + B) * 3 ^ r = 2 * ((A + B) * 3 ^ r) := Nat.mul_assoc _ _ _
    have e3 : 765 * (2 ^ r * 2) = 2 * (765 * 2 ^ r) := by rw [Nat.mul_comm (2 ^ r) 2, Nat.mul_left_comm]
    omega
theorem gcd_end {A B r : Nat} (h : 1 ≤ r → B ≤ A ∧ (A + B) * 3 ^ r ≤ 765 * 2 ^ r) (hr : 64 ≤ r) (h2 : r ≤ 64) : B = 0 := by
  obtain rfl : r = 64 := by omega
  obtain ⟨-, h3⟩ := h (by omega)
  have h4 : (3 : Nat) ^ 64 = 3433683820292512484657849089281 := by decide
  have h5 : (2 : Nat) ^ 64 = 18446744073709551616 := by decide
  rw [h4, h5] at h3
  rcases Nat.eq_zero_or_pos B with q | q
  · exact q
  · exfalso
    omega

theorem mb2 {x y : Int} (hx : -30000000000 ≤ x ∧ x ≤ 30000000000) (hy : -30000000000 ≤ y ∧ y ≤ 30000000000) : -9223372036854775808 ≤ x / 256 * (y % 256) ∧ x / 256 * (y % 256) < 9223372036854775808 := by
  have h1 : 0 ≤ y % 256 := by omega
  have h2 : y % 256 < 256 := by omega
  have h3 : -200000000 ≤ x / 256 := by omega
  have h4 : x / 256 ≤ 200000000 := by omega
  have h5 : x / 256 * (y % 256) ≤ 200000000 * (y % 256) := Int.mul_le_mul_of_nonneg_right h4 h1
  have h6 : -200000000 * (y % 256) ≤ x / 256 * (y % 256) := Int.mul_le_mul_of_nonneg_right h3 h1
  omega

set_option maxHeartbeats 4000000 in
set_option maxRecDepth 100000 in
theorem c_X0_begin (l : Launch) (G : GE) (w : WF) (i : Nat) (st : Nat → Int) (pl : Nat → Int) (sp : Nat → Int) (np : Nat) (stop : Int) (t : Int) (x : Int) (v : Int) (e0 : w (19 + 4 * i) = .inr (0, [.ref (gad G (19 + 4 * i + 1)), .ref (gad G (19 + 4 * i + 2)), .ref (gad G (19 + 4 * i + 3)), .int (iN ((np : Nat) : Int)), .int (iN stop)])) (e1 : w (19 + 4 * i + 1) = .inl (gI G, 8, .inl (aN st))) (e2 : w (19 + 4 * i + 2) = .inl (gI G, 8, .inl (aN pl))) (e3 : w (19 + 4 * i + 3) = .inl (gI G, 8, .inl (aN sp))) (p0 : i < 10) : Met l yX0_begin wsX0_begin ({ frames := 0, cells := 0, slots := 0, locals := 0 }) (PcG G w [.ref (gad G (19 + 4 * i)), .int (iN t), .int (iN x), .int (iN v)]) (QV G (fun w1 => (∀ k : Nat, k ≠ (19 + 4 * i) → k ≠ (19 + 4 * i + 1) → k ≠ (19 + 4 * i + 2) → k ≠ (19 + 4 * i + 3) → w1 k = w k) ∧ w1 (19 + 4 * i) = .inr (0, [.ref (gad G (19 + 4 * i + 1)), .ref (gad G (19 + 4 * i + 2)), .ref (gad G (19 + 4 * i + 3)), .int (iN 1), .int (iN (-1))]) ∧ w1 (19 + 4 * i + 1) = .inl (gI G, 8, .inl (aN (va_up st 0 t))) ∧ w1 (19 + 4 * i + 2) = .inl (gI G, 8, .inl (aN (va_up pl 0 x))) ∧ w1 (19 + 4 * i + 3) = .inl (gI G, 8, .inl (aN (va_up sp 0 v))))) 0 0 (AA G) := by
  refine Met.ofW (cc := cX0_begin) (maxL := 4) (ret := none) (by decide) rfl ?_
  intro p e s m args below meth c s₁ B hml hv
  obtain ⟨rfl, hP, hK⟩ := hv
  have hx := B.exec
  have hb := B.bytes
  have hr := B.returns
  have hts := atoms_spec (ws := wsX0_begin) B.pre
  have hown : s.vm.findClass RX0 = some m.cls := findClass_of_methodNamed B.named
  have hlocks := B.notSynchronized
  have hS : va_S (AA G) s.heap s.heap [] := va_S.rf
  have hAA : ∀ q, AA G q → AA G q := fun _ h => h
  have hl := lv_entry ([.ref (gad G (19 + 4 * i)), .int (iN t), .int (iN x), .int (iN v)]) (n := 4) (Nat.le_of_ble_eq_true rfl)
  rw [lg_entry_eq]
  generalize (lg_sl ([.ref (gad G (19 + 4 * i)), .int (iN t), .int (iN x), .int (iN v)]) ++ List.replicate (4 - (lg_sl ([.ref (gad G (19 + 4 * i)), .int (iN t), .int (iN x), .int (iN v)])).length) Slot.unset).toArray = ls at hl ⊢
  have hl : lv_has ls 4 [(0, .ref (gad G (19 + 4 * i))), (1, .int (iN t)), (2, .int (iN x)), (3, .int (iN v))] := hl
  refine lv_aload_n hx hb dX0_begin_0 rfl (lv_at hl 0 rfl) ?_
  refine n_iconst hx hb dX0_begin_1 ?_
  refine f_put (v := .int (iN 1)) (ty := .int) (C := RX0) (T := TX0) (N := 5) hx hb hts (by decide +kernel) tyX0 tyX0_ok nmX0 hown hK hP hS hAA (19 + 4 * i) (by omega) e0 rfl 3 (by decide) (hts (.fieldLink RX0 21 "KeptMoving$Course" "pieces" "I") (by decide +kernel)) (fun _ h9 => h9) rfl (by decide +kernel) (rfl) (rfl) (Nat.le_of_ble_eq_true rfl) (shp_cf (i := i) (by omega) _ _) dX0_begin_2 (fun H locs hP hS => ?_)
  have hP : PW G (va_up w (19 + 4 * i) (.inr (0, [.ref (gad G (19 + 4 * i + 1)), .ref (gad G (19 + 4 * i + 2)), .ref (gad G (19 + 4 * i + 3)), .int (iN 1), .int (iN stop)]))) H := hP
  obtain ⟨w_1, hw_2⟩ : ∃ z : WF, z = va_up w (19 + 4 * i) (.inr (0, [.ref (gad G (19 + 4 * i + 1)), .ref (gad G (19 + 4 * i + 2)), .ref (gad G (19 + 4 * i + 3)), .int (iN 1), .int (iN stop)])) := ⟨_, rfl⟩
  rw [← hw_2] at hP
  have fr_3 : ∀ k : Nat, k ≠ (19 + 4 * i) → w_1 k = w k := fun k h => by rw [hw_2]; exact va_up_ne _ _ h
  have e_4 : w_1 (19 + 4 * i) = .inr (0, [.ref (gad G (19 + 4 * i + 1)), .ref (gad G (19 + 4 * i + 2)), .ref (gad G (19 + 4 * i + 3)), .int (iN 1), .int (iN stop)]) := by rw [hw_2]; exact va_up_self _ _ _
  have e_5 : w_1 (19 + 4 * i + 1) = .inl (gI G, 8, .inl (aN st)) := (fr_3 (19 + 4 * i + 1) (by omega)).trans e1
  have e_6 : w_1 (19 + 4 * i + 2) = .inl (gI G, 8, .inl (aN pl)) := (fr_3 (19 + 4 * i + 2) (by omega)).trans e2
  have e_7 : w_1 (19 + 4 * i + 3) = .inl (gI G, 8, .inl (aN sp)) := (fr_3 (19 + 4 * i + 3) (by omega)).trans e3
  refine lv_aload_n hx hb dX0_begin_5 rfl (lv_at hl 0 rfl) ?_
  refine n_iconst hx hb dX0_begin_6 ?_
  refine f_put (v := .int (iN (-1))) (ty := .int) (C := RX0) (T := TX0) (N := 5) hx hb hts (by decide +kernel) tyX0 tyX0_ok nmX0 hown hK hP hS hAA (19 + 4 * i) (by omega) e_4 rfl 4 (by decide) (hts (.fieldLink RX0 25 "KeptMoving$Course" "stopped" "I") (by decide +kernel)) (fun _ h9 => h9) rfl (by decide +kernel) (rfl) (rfl) (Nat.le_of_ble_eq_true rfl) (shp_cf (i := i) (by omega) _ _) dX0_begin_7 (fun H locs hP hS => ?_)
  have hP : PW G (va_up w_1 (19 + 4 * i) (.inr (0, [.ref (gad G (19 + 4 * i + 1)), .ref (gad G (19 + 4 * i + 2)), .ref (gad G (19 + 4 * i + 3)), .int (iN 1), .int (iN (-1))]))) H := hP
  obtain ⟨w_8, hw_9⟩ : ∃ z : WF, z = va_up w_1 (19 + 4 * i) (.inr (0, [.ref (gad G (19 + 4 * i + 1)), .ref (gad G (19 + 4 * i + 2)), .ref (gad G (19 + 4 * i + 3)), .int (iN 1), .int (iN (-1))])) := ⟨_, rfl⟩
  rw [← hw_9] at hP
  have fr_10 : ∀ k : Nat, k ≠ (19 + 4 * i) → w_8 k = w_1 k := fun k h => by rw [hw_9]; exact va_up_ne _ _ h
  have e_11 : w_8 (19 + 4 * i) = .inr (0, [.ref (gad G (19 + 4 * i + 1)), .ref (gad G (19 + 4 * i + 2)), .ref (gad G (19 + 4 * i + 3)), .int (iN 1), .int (iN (-1))]) := by rw [hw_9]; exact va_up_self _ _ _
  have e_12 : w_8 (19 + 4 * i + 1) = .inl (gI G, 8, .inl (aN st)) := (fr_10 (19 + 4 * i + 1) (by omega)).trans e_5
  have e_13 : w_8 (19 + 4 * i + 2) = .inl (gI G, 8, .inl (aN pl)) := (fr_10 (19 + 4 * i + 2) (by omega)).trans e_6
  have e_14 : w_8 (19 + 4 * i + 3) = .inl (gI G, 8, .inl (aN sp)) := (fr_10 (19 + 4 * i + 3) (by omega)).trans e_7
  refine lv_aload_n hx hb dX0_begin_10 rfl (lv_at hl 0 rfl) ?_
  refine f_get (C := RX0) (T := TX0) (N := 5) hx hb hts (by decide +kernel) hown hK hP (19 + 4 * i) (by omega) e_11 rfl 0 (by decide) (hts (.fieldLink RX0 9 "KeptMoving$Course" "starts" "[I") (by decide +kernel)) (fun _ h9 => h9) rfl dX0_begin_11 ?_
  refine n_iconst hx hb dX0_begin_14 ?_
  refine lv_iload_n hx hb dX0_begin_15 rfl (lv_at hl 1 rfl) ?_
  refine n_iast hx hb hK hP hS hAA (19 + 4 * i + 1) (by omega) e_12 (fun _ => shp_cg (i := i) (j := 1) (by omega) (Or.inl rfl) _) 0 rfl (by omega) (by decide) dX0_begin_16 (fun H locs hP hS => ?_)
  obtain ⟨w_15, hw_16⟩ : ∃ z : WF, z = va_up w_8 (19 + 4 * i + 1) (.inl (gI G, 8, .inl (aN (va_up st 0 t)))) := ⟨_, rfl⟩
  rw [← hw_16] at hP
  have fr_17 : ∀ k : Nat, k ≠ (19 + 4 * i + 1) → w_15 k = w_8 k := fun k h => by rw [hw_16]; exact va_up_ne _ _ h
  have e_18 : w_15 (19 + 4 * i) = .inr (0, [.ref (gad G (19 + 4 * i + 1)), .ref (gad G (19 + 4 * i + 2)), .ref (gad G (19 + 4 * i + 3)), .int (iN 1), .int (iN (-1))]) := (fr_17 (19 + 4 * i) (by omega)).trans e_11
  have e_19 : w_15 (19 + 4 * i + 1) = .inl (gI G, 8, .inl (aN (va_up st 0 t))) := by rw [hw_16]; exact va_up_self _ _ _
  have e_20 : w_15 (19 + 4 * i + 2) = .inl (gI G, 8, .inl (aN pl)) := (fr_17 (19 + 4 * i + 2) (by omega)).trans e_13
  have e_21 : w_15 (19 + 4 * i + 3) = .inl (gI G, 8, .inl (aN sp)) := (fr_17 (19 + 4 * i + 3) (by omega)).trans e_14
  refine lv_aload_n hx hb dX0_begin_17 rfl (lv_at hl 0 rfl) ?_
  refine f_get (C := RX0) (T := TX0) (N := 5) hx hb hts (by decide +kernel) hown hK hP (19 + 4 * i) (by omega) e_18 rfl 1 (by decide) (hts (.fieldLink RX0 15 "KeptMoving$Course" "places" "[I") (by decide +kernel)) (fun _ h9 => h9) rfl dX0_begin_18 ?_
  refine n_iconst hx hb dX0_begin_21 ?_
  refine lv_iload_n hx hb dX0_begin_22 rfl (lv_at hl 2 rfl) ?_
  refine n_iast hx hb hK hP hS hAA (19 + 4 * i + 2) (by omega) e_20 (fun _ => shp_cg (i := i) (j := 2) (by omega) (Or.inr (Or.inl rfl)) _) 0 rfl (by omega) (by decide) dX0_begin_23 (fun H locs hP hS => ?_)
  obtain ⟨w_22, hw_23⟩ : ∃ z : WF, z = va_up w_15 (19 + 4 * i + 2) (.inl (gI G, 8, .inl (aN (va_up pl 0 x)))) := ⟨_, rfl⟩
  rw [← hw_23] at hP
  have fr_24 : ∀ k : Nat, k ≠ (19 + 4 * i + 2) → w_22 k = w_15 k := fun k h => by rw [hw_23]; exact va_up_ne _ _ h
  have e_25 : w_22 (19 + 4 * i) = .inr (0, [.ref (gad G (19 + 4 * i + 1)), .ref (gad G (19 + 4 * i + 2)), .ref (gad G (19 + 4 * i + 3)), .int (iN 1), .int (iN (-1))]) := (fr_24 (19 + 4 * i) (by omega)).trans e_18
  have e_26 : w_22 (19 + 4 * i + 1) = .inl (gI G, 8, .inl (aN (va_up st 0 t))) := (fr_24 (19 + 4 * i + 1) (by omega)).trans e_19
  have e_27 : w_22 (19 + 4 * i + 2) = .inl (gI G, 8, .inl (aN (va_up pl 0 x))) := by rw [hw_23]; exact va_up_self _ _ _
  have e_28 : w_22 (19 + 4 * i + 3) = .inl (gI G, 8, .inl (aN sp)) := (fr_24 (19 + 4 * i + 3) (by omega)).trans e_21
  refine lv_aload_n hx hb dX0_begin_24 rfl (lv_at hl 0 rfl) ?_
  refine f_get (C := RX0) (T := TX0) (N := 5) hx hb hts (by decide +kernel) hown hK hP (19 + 4 * i) (by omega) e_25 rfl 2 (by decide) (hts (.fieldLink RX0 18 "KeptMoving$Course" "speeds" "[I") (by decide +kernel)) (fun _ h9 => h9) rfl dX0_begin_25 ?_
  refine n_iconst hx hb dX0_begin_28 ?_
  refine lv_iload_n hx hb dX0_begin_29 rfl (lv_at hl 3 rfl) ?_
  refine n_iast hx hb hK hP hS hAA (19 + 4 * i + 3) (by omega) e_28 (fun _ => shp_cg (i := i) (j := 3) (by omega) (Or.inr (Or.inr rfl)) _) 0 rfl (by omega) (by decide) dX0_begin_30 (fun H locs hP hS => ?_)
  obtain ⟨w_29, hw_30⟩ : ∃ z : WF, z = va_up w_22 (19 + 4 * i + 3) (.inl (gI G, 8, .inl (aN (va_up sp 0 v)))) := ⟨_, rfl⟩
  rw [← hw_30] at hP
  have fr_31 : ∀ k : Nat, k ≠ (19 + 4 * i + 3) → w_29 k = w_22 k := fun k h => by rw [hw_30]; exact va_up_ne _ _ h
  have e_32 : w_29 (19 + 4 * i) = .inr (0, [.ref (gad G (19 + 4 * i + 1)), .ref (gad G (19 + 4 * i + 2)), .ref (gad G (19 + 4 * i + 3)), .int (iN 1), .int (iN (-1))]) := (fr_31 (19 + 4 * i) (by omega)).trans e_25
  have e_33 : w_29 (19 + 4 * i + 1) = .inl (gI G, 8, .inl (aN (va_up st 0 t))) := (fr_31 (19 + 4 * i + 1) (by omega)).trans e_26
  have e_34 : w_29 (19 + 4 * i + 2) = .inl (gI G, 8, .inl (aN (va_up pl 0 x))) := (fr_31 (19 + 4 * i + 2) (by omega)).trans e_27
  have e_35 : w_29 (19 + 4 * i + 3) = .inl (gI G, 8, .inl (aN (va_up sp 0 v))) := by rw [hw_30]; exact va_up_self _ _ _
  exact r_v hx hb hr dX0_begin_31 hlocks hP hS (⟨(fun k h0 h1 h2 h3 => ((((((((fr_31 k (by omega)).trans (fr_24 k (by omega)))).trans (fr_17 k (by omega)))).trans (fr_10 k (by omega)))).trans (fr_3 k (by omega)))), e_32, e_33, e_34, e_35⟩)

set_option maxHeartbeats 4000000 in
set_option maxRecDepth 100000 in
theorem c_X0_stop (l : Launch) (G : GE) (w : WF) (i : Nat) (st : Nat → Int) (pl : Nat → Int) (sp : Nat → Int) (np : Nat) (stop : Int) (t : Int) (e0 : w (19 + 4 * i) = .inr (0, [.ref (gad G (19 + 4 * i + 1)), .ref (gad G (19 + 4 * i + 2)), .ref (gad G (19 + 4 * i + 3)), .int (iN ((np : Nat) : Int)), .int (iN stop)])) (e1 : w (19 + 4 * i + 1) = .inl (gI G, 8, .inl (aN st))) (e2 : w (19 + 4 * i + 2) = .inl (gI G, 8, .inl (aN pl))) (e3 : w (19 + 4 * i + 3) = .inl (gI G, 8, .inl (aN sp))) (p0 : i < 10) : Met l yX0_stop wsX0_stop ({ frames := 0, cells := 0, slots := 0, locals := 0 }) (PcG G w [.ref (gad G (19 + 4 * i)), .int (iN t)]) (QV G (fun w1 => (∀ k : Nat, k ≠ (19 + 4 * i) → w1 k = w k) ∧ w1 (19 + 4 * i) = .inr (0, [.ref (gad G (19 + 4 * i + 1)), .ref (gad G (19 + 4 * i + 2)), .ref (gad G (19 + 4 * i + 3)), .int (iN ((np : Nat) : Int)), .int (iN t)]))) 0 0 (AA G) := by
  refine Met.ofW (cc := cX0_stop) (maxL := 2) (ret := none) (by decide) rfl ?_
  intro p e s m args below meth c s₁ B hml hv
  obtain ⟨rfl, hP, hK⟩ := hv
  have hx := B.exec
  have hb := B.bytes
  have hr := B.returns
  have hts := atoms_spec (ws := wsX0_stop) B.pre
  have hown : s.vm.findClass RX0 = some m.cls := findClass_of_methodNamed B.named
  have hlocks := B.notSynchronized
  have hS : va_S (AA G) s.heap s.heap [] := va_S.rf
  have hAA : ∀ q, AA G q → AA G q := fun _ h => h
  have hl := lv_entry ([.ref (gad G (19 + 4 * i)), .int (iN t)]) (n := 2) (Nat.le_of_ble_eq_true rfl)
  rw [lg_entry_eq]
  generalize (lg_sl ([.ref (gad G (19 + 4 * i)), .int (iN t)]) ++ List.replicate (2 - (lg_sl ([.ref (gad G (19 + 4 * i)), .int (iN t)])).length) Slot.unset).toArray = ls at hl ⊢
  have hl : lv_has ls 2 [(0, .ref (gad G (19 + 4 * i))), (1, .int (iN t))] := hl
  refine lv_aload_n hx hb dX0_stop_0 rfl (lv_at hl 0 rfl) ?_
  refine lv_iload_n hx hb dX0_stop_1 rfl (lv_at hl 1 rfl) ?_
  refine f_put (v := .int (iN t)) (ty := .int) (C := RX0) (T := TX0) (N := 5) hx hb hts (by decide +kernel) tyX0 tyX0_ok nmX0 hown hK hP hS hAA (19 + 4 * i) (by omega) e0 rfl 4 (by decide) (hts (.fieldLink RX0 25 "KeptMoving$Course" "stopped" "I") (by decide +kernel)) (fun _ h9 => h9) rfl (by decide +kernel) (rfl) (rfl) (Nat.le_of_ble_eq_true rfl) (shp_cf (i := i) (by omega) _ _) dX0_stop_2 (fun H locs hP hS => ?_)
  have hP : PW G (va_up w (19 + 4 * i) (.inr (0, [.ref (gad G (19 + 4 * i + 1)), .ref (gad G (19 + 4 * i + 2)), .ref (gad G (19 + 4 * i + 3)), .int (iN ((np : Nat) : Int)), .int (iN t)]))) H := hP
  obtain ⟨w_1, hw_2⟩ : ∃ z : WF, z = va_up w (19 + 4 * i) (.inr (0, [.ref (gad G (19 + 4 * i + 1)), .ref (gad G (19 + 4 * i + 2)), .ref (gad G (19 + 4 * i + 3)), .int (iN ((np : Nat) : Int)), .int (iN t)])) := ⟨_, rfl⟩
  rw [← hw_2] at hP
  have fr_3 : ∀ k : Nat, k ≠ (19 + 4 * i) → w_1 k = w k := fun k h => by rw [hw_2]; exact va_up_ne _ _ h
  have e_4 : w_1 (19 + 4 * i) = .inr (0, [.ref (gad G (19 + 4 * i + 1)), .ref (gad G (19 + 4 * i + 2)), .ref (gad G (19 + 4 * i + 3)), .int (iN ((np : Nat) : Int)), .int (iN t)]) := by rw [hw_2]; exact va_up_self _ _ _
  have e_5 : w_1 (19 + 4 * i + 1) = .inl (gI G, 8, .inl (aN st)) := (fr_3 (19 + 4 * i + 1) (by omega)).trans e1
  have e_6 : w_1 (19 + 4 * i + 2) = .inl (gI G, 8, .inl (aN pl)) := (fr_3 (19 + 4 * i + 2) (by omega)).trans e2
  have e_7 : w_1 (19 + 4 * i + 3) = .inl (gI G, 8, .inl (aN sp)) := (fr_3 (19 + 4 * i + 3) (by omega)).trans e3
  exact r_v hx hb hr dX0_stop_5 hlocks hP hS (⟨(fun k h0 => fr_3 k (by omega)), e_4⟩)

set_option maxHeartbeats 4000000 in
set_option maxRecDepth 100000 in
theorem c_X0_turn (l : Launch) (G : GE) (w : WF) (i : Nat) (st : Nat → Int) (pl : Nat → Int) (sp : Nat → Int) (np : Nat) (stop : Int) (t : Int) (v : Int) (e0 : w (19 + 4 * i) = .inr (0, [.ref (gad G (19 + 4 * i + 1)), .ref (gad G (19 + 4 * i + 2)), .ref (gad G (19 + 4 * i + 3)), .int (iN ((np : Nat) : Int)), .int (iN stop)])) (e1 : w (19 + 4 * i + 1) = .inl (gI G, 8, .inl (aN st))) (e2 : w (19 + 4 * i + 2) = .inl (gI G, 8, .inl (aN pl))) (e3 : w (19 + 4 * i + 3) = .inl (gI G, 8, .inl (aN sp))) (p0 : i < 10) (p1 : 1 ≤ np ∧ np ≤ 8) (p2 : ∀ p : Nat, p < np → 0 ≤ st p ∧ st p ≤ 400) (p3 : 0 ≤ t ∧ t ≤ 400) : Met l yX0_turn wsX0_turn ({ frames := 3, cells := 0, slots := 0, locals := 68 }) (PcG G w [.ref (gad G (19 + 4 * i)), .int (iN t), .int (iN v)]) (QV G (fun w1 => (∀ k : Nat, k ≠ (19 + 4 * i) → k ≠ (19 + 4 * i + 1) → k ≠ (19 + 4 * i + 2) → k ≠ (19 + 4 * i + 3) → w1 k = w k) ∧ w1 (19 + 4 * i) = .inr (0, [.ref (gad G (19 + 4 * i + 1)), .ref (gad G (19 + 4 * i + 2)), .ref (gad G (19 + 4 * i + 3)), .int (iN ((if st (np - 1) ≠ t ∧ np < 8 then np + 1 else np : Nat) : Int)), .int (iN stop)]) ∧ w1 (19 + 4 * i + 1) = .inl (gI G, 8, .inl (aN (if st (np - 1) ≠ t ∧ np < 8 then va_up st np t else st))) ∧ w1 (19 + 4 * i + 2) = .inl (gI G, 8, .inl (aN (if st (np - 1) ≠ t ∧ np < 8 then va_up pl np (upAt (va_up st np t) pl sp np t 1) else pl))) ∧ w1 (19 + 4 * i + 3) = .inl (gI G, 8, .inl (aN (va_up sp (if st (np - 1) ≠ t ∧ np < 8 then np else np - 1) v))))) 0 0 (AA G) := by
  refine Met.ofW (cc := cX0_turn) (maxL := 3) (ret := none) (by decide) rfl ?_
  intro p e s m args below meth c s₁ B hml hv
  obtain ⟨rfl, hP, hK⟩ := hv
  have hx := B.exec
  have hb := B.bytes
  have hr := B.returns
  have hts := atoms_spec (ws := wsX0_turn) B.pre
  have hown : s.vm.findClass RX0 = some m.cls := findClass_of_methodNamed B.named
  have hlocks := B.notSynchronized
  have hS : va_S (AA G) s.heap s.heap [] := va_S.rf
  have hAA : ∀ q, AA G q → AA G q := fun _ h => h
  have hl := lv_entry ([.ref (gad G (19 + 4 * i)), .int (iN t), .int (iN v)]) (n := 3) (Nat.le_of_ble_eq_true rfl)
  rw [lg_entry_eq]
  generalize (lg_sl ([.ref (gad G (19 + 4 * i)), .int (iN t), .int (iN v)]) ++ List.replicate (3 - (lg_sl ([.ref (gad G (19 + 4 * i)), .int (iN t), .int (iN v)])).length) Slot.unset).toArray = ls at hl ⊢
  have hl : lv_has ls 3 [(0, .ref (gad G (19 + 4 * i))), (1, .int (iN t)), (2, .int (iN v))] := hl
  have hs7 := p2 (np - 1) (by omega)
  refine lv_aload_n hx hb dX0_turn_0 rfl (lv_at hl 0 rfl) ?_
  refine f_get (C := RX0) (T := TX0) (N := 5) hx hb hts (by decide +kernel) hown hK hP (19 + 4 * i) (by omega) e0 rfl 0 (by decide) (hts (.fieldLink RX0 9 "KeptMoving$Course" "starts" "[I") (by decide +kernel)) (fun _ h9 => h9) rfl dX0_turn_1 ?_
  refine lv_aload_n hx hb dX0_turn_4 rfl (lv_at hl 0 rfl) ?_
  refine f_get (C := RX0) (T := TX0) (N := 5) hx hb hts (by decide +kernel) hown hK hP (19 + 4 * i) (by omega) e0 rfl 3 (by decide) (hts (.fieldLink RX0 21 "KeptMoving$Course" "pieces" "I") (by decide +kernel)) (fun _ h9 => h9) rfl dX0_turn_5 ?_
  refine n_iconst hx hb dX0_turn_8 ?_
  refine n_isub hx hb dX0_turn_9 ?_
  rw [show ((np : Nat) : Int) - 1 = ((np - 1 : Nat) : Int) by omega]
  refine n_iald hx hb hK hP (19 + 4 * i + 1) (by omega) e1 (np - 1) rfl (by omega) (by decide) dX0_turn_10 ?_
  refine lv_iload_n hx hb dX0_turn_11 rfl (lv_at hl 1 rfl) ?_
  refine n_icmp_eq (tgt := 58) hx hb dX0_turn_12 (by decide) (by omega) (by omega) (by omega) (by omega) (fun c_12 => ?_) (fun c_12 => ?_)
  · refine lv_aload_n hx hb dX0_turn_58 rfl (lv_at hl 0 rfl) ?_
    refine f_get (C := RX0) (T := TX0) (N := 5) hx hb hts (by decide +kernel) hown hK hP (19 + 4 * i) (by omega) e0 rfl 2 (by decide) (hts (.fieldLink RX0 18 "KeptMoving$Course" "speeds" "[I") (by decide +kernel)) (fun _ h9 => h9) rfl dX0_turn_59 ?_
    refine lv_aload_n hx hb dX0_turn_62 rfl (lv_at hl 0 rfl) ?_
    refine f_get (C := RX0) (T := TX0) (N := 5) hx hb hts (by decide +kernel) hown hK hP (19 + 4 * i) (by omega) e0 rfl 3 (by decide) (hts (.fieldLink RX0 21 "KeptMoving$Course" "pieces" "I") (by decide +kernel)) (fun _ h9 => h9) rfl dX0_turn_63 ?_
    refine n_iconst hx hb dX0_turn_66 ?_
    refine n_isub hx hb dX0_turn_67 ?_
    rw [show ((np : Nat) : Int) - 1 = ((np - 1 : Nat) : Int) by omega]
    refine lv_iload_n hx hb dX0_turn_68 rfl (lv_at hl 2 rfl) ?_
    refine n_iast hx hb hK hP hS hAA (19 + 4 * i + 3) (by omega) e3 (fun _ => shp_cg (i := i) (j := 3) (by omega) (Or.inr (Or.inr rfl)) _) (np - 1) rfl (by omega) (by decide) dX0_turn_69 (fun H locs hP hS => ?_)
    obtain ⟨w_1, hw_2⟩ : ∃ z : WF, z = va_up w (19 + 4 * i + 3) (.inl (gI G, 8, .inl (aN (va_up sp (np - 1) v)))) := ⟨_, rfl⟩
    rw [← hw_2] at hP
    have fr_3 : ∀ k : Nat, k ≠ (19 + 4 * i + 3) → w_1 k = w k := fun k h => by rw [hw_2]; exact va_up_ne _ _ h
    have e_4 : w_1 (19 + 4 * i) = .inr (0, [.ref (gad G (19 + 4 * i + 1)), .ref (gad G (19 + 4 * i + 2)), .ref (gad G (19 + 4 * i + 3)), .int (iN ((np : Nat) : Int)), .int (iN stop)]) := (fr_3 (19 + 4 * i) (by omega)).trans e0
    have e_5 : w_1 (19 + 4 * i + 1) = .inl (gI G, 8, .inl (aN st)) := (fr_3 (19 + 4 * i + 1) (by omega)).trans e1
    have e_6 : w_1 (19 + 4 * i + 2) = .inl (gI G, 8, .inl (aN pl)) := (fr_3 (19 + 4 * i + 2) (by omega)).trans e2
    have e_7 : w_1 (19 + 4 * i + 3) = .inl (gI G, 8, .inl (aN (va_up sp (np - 1) v))) := by rw [hw_2]; exact va_up_self _ _ _
    exact r_v hx hb hr dX0_turn_70 hlocks hP hS (⟨(fun k h0 h1 h2 h3 => fr_3 k (by omega)), (by rw [if_neg (show ¬ (st (np - 1) ≠ t ∧ np < 8) by omega)]; exact e_4), (by rw [if_neg (show ¬ (st (np - 1) ≠ t ∧ np < 8) by omega)]; exact e_5), (by rw [if_neg (show ¬ (st (np - 1) ≠ t ∧ np < 8) by omega)]; exact e_6), (by rw [if_neg (show ¬ (st (np - 1) ≠ t ∧ np < 8) by omega)]; exact e_7)⟩)
  · refine lv_aload_n hx hb dX0_turn_15 rfl (lv_at hl 0 rfl) ?_
    refine f_get (C := RX0) (T := TX0) (N := 5) hx hb hts (by decide +kernel) hown hK hP (19 + 4 * i) (by omega) e0 rfl 3 (by decide) (hts (.fieldLink RX0 21 "KeptMoving$Course" "pieces" "I") (by decide +kernel)) (fun _ h9 => h9) rfl dX0_turn_16 ?_
    refine n_bipush hx hb dX0_turn_19 (by decide) ?_
    refine n_icmp_ge (tgt := 58) hx hb dX0_turn_21 (by decide) (by omega) (by omega) (by omega) (by omega) (fun c_21 => ?_) (fun c_21 => ?_)
    · refine lv_aload_n hx hb dX0_turn_58 rfl (lv_at hl 0 rfl) ?_
      refine f_get (C := RX0) (T := TX0) (N := 5) hx hb hts (by decide +kernel) hown hK hP (19 + 4 * i) (by omega) e0 rfl 2 (by decide) (hts (.fieldLink RX0 18 "KeptMoving$Course" "speeds" "[I") (by decide +kernel)) (fun _ h9 => h9) rfl dX0_turn_59 ?_
      refine lv_aload_n hx hb dX0_turn_62 rfl (lv_at hl 0 rfl) ?_
      refine f_get (C := RX0) (T := TX0) (N := 5) hx hb hts (by decide +kernel) hown hK hP (19 + 4 * i) (by omega) e0 rfl 3 (by decide) (hts (.fieldLink RX0 21 "KeptMoving$Course" "pieces" "I") (by decide +kernel)) (fun _ h9 => h9) rfl dX0_turn_63 ?_
      refine n_iconst hx hb dX0_turn_66 ?_
      refine n_isub hx hb dX0_turn_67 ?_
      rw [show ((np : Nat) : Int) - 1 = ((np - 1 : Nat) : Int) by omega]
      refine lv_iload_n hx hb dX0_turn_68 rfl (lv_at hl 2 rfl) ?_
      refine n_iast hx hb hK hP hS hAA (19 + 4 * i + 3) (by omega) e3 (fun _ => shp_cg (i := i) (j := 3) (by omega) (Or.inr (Or.inr rfl)) _) (np - 1) rfl (by omega) (by decide) dX0_turn_69 (fun H locs hP hS => ?_)
      obtain ⟨w_8, hw_9⟩ : ∃ z : WF, z = va_up w (19 + 4 * i + 3) (.inl (gI G, 8, .inl (aN (va_up sp (np - 1) v)))) := ⟨_, rfl⟩
      rw [← hw_9] at hP
      have fr_10 : ∀ k : Nat, k ≠ (19 + 4 * i + 3) → w_8 k = w k := fun k h => by rw [hw_9]; exact va_up_ne _ _ h
      have e_11 : w_8 (19 + 4 * i) = .inr (0, [.ref (gad G (19 + 4 * i + 1)), .ref (gad G (19 + 4 * i + 2)), .ref (gad G (19 + 4 * i + 3)), .int (iN ((np : Nat) : Int)), .int (iN stop)]) := (fr_10 (19 + 4 * i) (by omega)).trans e0
      have e_12 : w_8 (19 + 4 * i + 1) = .inl (gI G, 8, .inl (aN st)) := (fr_10 (19 + 4 * i + 1) (by omega)).trans e1
      have e_13 : w_8 (19 + 4 * i + 2) = .inl (gI G, 8, .inl (aN pl)) := (fr_10 (19 + 4 * i + 2) (by omega)).trans e2
      have e_14 : w_8 (19 + 4 * i + 3) = .inl (gI G, 8, .inl (aN (va_up sp (np - 1) v))) := by rw [hw_9]; exact va_up_self _ _ _
      exact r_v hx hb hr dX0_turn_70 hlocks hP hS (⟨(fun k h0 h1 h2 h3 => fr_10 k (by omega)), (by rw [if_neg (show ¬ (st (np - 1) ≠ t ∧ np < 8) by omega)]; exact e_11), (by rw [if_neg (show ¬ (st (np - 1) ≠ t ∧ np < 8) by omega)]; exact e_12), (by rw [if_neg (show ¬ (st (np - 1) ≠ t ∧ np < 8) by omega)]; exact e_13), (by rw [if_neg (show ¬ (st (np - 1) ≠ t ∧ np < 8) by omega)]; exact e_14)⟩)
    · refine lv_aload_n hx hb dX0_turn_24 rfl (lv_at hl 0 rfl) ?_
      refine f_get (C := RX0) (T := TX0) (N := 5) hx hb hts (by decide +kernel) hown hK hP (19 + 4 * i) (by omega) e0 rfl 0 (by decide) (hts (.fieldLink RX0 9 "KeptMoving$Course" "starts" "[I") (by decide +kernel)) (fun _ h9 => h9) rfl dX0_turn_25 ?_
      refine lv_aload_n hx hb dX0_turn_28 rfl (lv_at hl 0 rfl) ?_
      refine f_get (C := RX0) (T := TX0) (N := 5) hx hb hts (by decide +kernel) hown hK hP (19 + 4 * i) (by omega) e0 rfl 3 (by decide) (hts (.fieldLink RX0 21 "KeptMoving$Course" "pieces" "I") (by decide +kernel)) (fun _ h9 => h9) rfl dX0_turn_29 ?_
      refine lv_iload_n hx hb dX0_turn_32 rfl (lv_at hl 1 rfl) ?_
      refine n_iast hx hb hK hP hS hAA (19 + 4 * i + 1) (by omega) e1 (fun _ => shp_cg (i := i) (j := 1) (by omega) (Or.inl rfl) _) np rfl (by omega) (by decide) dX0_turn_33 (fun H locs hP hS => ?_)
      obtain ⟨w_15, hw_16⟩ : ∃ z : WF, z = va_up w (19 + 4 * i + 1) (.inl (gI G, 8, .inl (aN (va_up st np t)))) := ⟨_, rfl⟩
      rw [← hw_16] at hP
      have fr_17 : ∀ k : Nat, k ≠ (19 + 4 * i + 1) → w_15 k = w k := fun k h => by rw [hw_16]; exact va_up_ne _ _ h
      have e_18 : w_15 (19 + 4 * i) = .inr (0, [.ref (gad G (19 + 4 * i + 1)), .ref (gad G (19 + 4 * i + 2)), .ref (gad G (19 + 4 * i + 3)), .int (iN ((np : Nat) : Int)), .int (iN stop)]) := (fr_17 (19 + 4 * i) (by omega)).trans e0
      have e_19 : w_15 (19 + 4 * i + 1) = .inl (gI G, 8, .inl (aN (va_up st np t))) := by rw [hw_16]; exact va_up_self _ _ _
      have e_20 : w_15 (19 + 4 * i + 2) = .inl (gI G, 8, .inl (aN pl)) := (fr_17 (19 + 4 * i + 2) (by omega)).trans e2
      have e_21 : w_15 (19 + 4 * i + 3) = .inl (gI G, 8, .inl (aN sp)) := (fr_17 (19 + 4 * i + 3) (by omega)).trans e3
      refine lv_aload_n hx hb dX0_turn_34 rfl (lv_at hl 0 rfl) ?_
      refine f_get (C := RX0) (T := TX0) (N := 5) hx hb hts (by decide +kernel) hown hK hP (19 + 4 * i) (by omega) e_18 rfl 1 (by decide) (hts (.fieldLink RX0 15 "KeptMoving$Course" "places" "[I") (by decide +kernel)) (fun _ h9 => h9) rfl dX0_turn_35 ?_
      refine lv_aload_n hx hb dX0_turn_38 rfl (lv_at hl 0 rfl) ?_
      refine f_get (C := RX0) (T := TX0) (N := 5) hx hb hts (by decide +kernel) hown hK hP (19 + 4 * i) (by omega) e_18 rfl 3 (by decide) (hts (.fieldLink RX0 21 "KeptMoving$Course" "pieces" "I") (by decide +kernel)) (fun _ h9 => h9) rfl dX0_turn_39 ?_
      refine lv_aload_n hx hb dX0_turn_42 rfl (lv_at hl 0 rfl) ?_
      refine lv_iload_n hx hb dX0_turn_43 rfl (lv_at hl 1 rfl) ?_
      refine vp_callSi (W.runV (As := [.int (iN t)]) (rest := [.int (iN ((np : Nat) : Int)), .ref (gad G (19 + 4 * i + 2))]) ⟨hx, hb, hml, hown, hts⟩ (c_X0_placeAt l G w_15 i (va_up st np t) pl sp np stop t e_18 e_19 e_20 e_21 (p0) (p1) (fun p h => by rw [va_up_ne _ _ (by omega)]; exact p2 p h) (by omega)) (cwV 1 hts gX0_turn_X0_placeAt rfl rfl rfl (by decide +kernel) ⟨Nat.le_of_ble_eq_true rfl, Nat.le_of_ble_eq_true rfl⟩) (f_preV hP hK (19 + 4 * i) (by omega) 0 e_18 rfl) rfl rfl hl.1 rfl (lv_room (Nat.le_of_ble_eq_true rfl)) dX0_turn_44 ⟨Nat.zero_le _, Nat.zero_le _⟩) (fun r_22 hr_22 => ?_)
      rw [show r_22 = iN (upAt (va_up st np t) pl sp np t 1) from hr_22]
      refine n_iast hx hb hK hP hS hAA (19 + 4 * i + 2) (by omega) e_20 (fun _ => shp_cg (i := i) (j := 2) (by omega) (Or.inr (Or.inl rfl)) _) np rfl (by omega) (by decide) dX0_turn_47 (fun H locs hP hS => ?_)
      obtain ⟨w_23, hw_24⟩ : ∃ z : WF, z = va_up w_15 (19 + 4 * i + 2) (.inl (gI G, 8, .inl (aN (va_up pl np (upAt (va_up st np t) pl sp np t 1))))) := ⟨_, rfl⟩
      rw [← hw_24] at hP
      have fr_25 : ∀ k : Nat, k ≠ (19 + 4 * i + 2) → w_23 k = w_15 k := fun k h => by rw [hw_24]; exact va_up_ne _ _ h
      have e_26 : w_23 (19 + 4 * i) = .inr (0, [.ref (gad G (19 + 4 * i + 1)), .ref (gad G (19 + 4 * i + 2)), .ref (gad G (19 + 4 * i + 3)), .int (iN ((np : Nat) : Int)), .int (iN stop)]) := (fr_25 (19 + 4 * i) (by omega)).trans e_18
      have e_27 : w_23 (19 + 4 * i + 1) = .inl (gI G, 8, .inl (aN (va_up st np t))) := (fr_25 (19 + 4 * i + 1) (by omega)).trans e_19
      have e_28 : w_23 (19 + 4 * i + 2) = .inl (gI G, 8, .inl (aN (va_up pl np (upAt (va_up st np t) pl sp np t 1)))) := by rw [hw_24]; exact va_up_self _ _ _
      have e_29 : w_23 (19 + 4 * i + 3) = .inl (gI G, 8, .inl (aN sp)) := (fr_25 (19 + 4 * i + 3) (by omega)).trans e_21
      refine lv_aload_n hx hb dX0_turn_48 rfl (lv_at hl 0 rfl) ?_
      refine lv_dup hx hb dX0_turn_49 rfl ?_
      refine f_get (C := RX0) (T := TX0) (N := 5) hx hb hts (by decide +kernel) hown hK hP (19 + 4 * i) (by omega) e_26 rfl 3 (by decide) (hts (.fieldLink RX0 21 "KeptMoving$Course" "pieces" "I") (by decide +kernel)) (fun _ h9 => h9) rfl dX0_turn_50 ?_
      refine n_iconst hx hb dX0_turn_53 ?_
      refine n_iadd hx hb dX0_turn_54 ?_
      rw [show ((np : Nat) : Int) + 1 = ((np + 1 : Nat) : Int) by omega]
      refine f_put (v := .int (iN ((np + 1 : Nat) : Int))) (ty := .int) (C := RX0) (T := TX0) (N := 5) hx hb hts (by decide +kernel) tyX0 tyX0_ok nmX0 hown hK hP hS hAA (19 + 4 * i) (by omega) e_26 rfl 3 (by decide) (hts (.fieldLink RX0 21 "KeptMoving$Course" "pieces" "I") (by decide +kernel)) (fun _ h9 => h9) rfl (by decide +kernel) (rfl) (rfl) (Nat.le_of_ble_eq_true rfl) (shp_cf (i := i) (by omega) _ _) dX0_turn_55 (fun H locs hP hS => ?_)
      have hP : PW G (va_up w_23 (19 + 4 * i) (.inr (0, [.ref (gad G (19 + 4 * i + 1)), .ref (gad G (19 + 4 * i + 2)), .ref (gad G (19 + 4 * i + 3)), .int (iN ((np + 1 : Nat) : Int)), .int (iN stop)]))) H := hP
      obtain ⟨w_30, hw_31⟩ : ∃ z : WF, z = va_up w_23 (19 + 4 * i) (.inr (0, [.ref (gad G (19 + 4 * i + 1)), .ref (gad G (19 + 4 * i + 2)), .ref (gad G (19 + 4 * i + 3)), .int (iN ((np + 1 : Nat) : Int)), .int (iN stop)])) := ⟨_, rfl⟩
      rw [← hw_31] at hP
      have fr_32 : ∀ k : Nat, k ≠ (19 + 4 * i) → w_30 k = w_23 k := fun k h => by rw [hw_31]; exact va_up_ne _ _ h
      have e_33 : w_30 (19 + 4 * i) = .inr (0, [.ref (gad G (19 + 4 * i + 1)), .ref (gad G (19 + 4 * i + 2)), .ref (gad G (19 + 4 * i + 3)), .int (iN ((np + 1 : Nat) : Int)), .int (iN stop)]) := by rw [hw_31]; exact va_up_self _ _ _
      have e_34 : w_30 (19 + 4 * i + 1) = .inl (gI G, 8, .inl (aN (va_up st np t))) := (fr_32 (19 + 4 * i + 1) (by omega)).trans e_27
      have e_35 : w_30 (19 + 4 * i + 2) = .inl (gI G, 8, .inl (aN (va_up pl np (upAt (va_up st np t) pl sp np t 1)))) := (fr_32 (19 + 4 * i + 2) (by omega)).trans e_28
      have e_36 : w_30 (19 + 4 * i + 3) = .inl (gI G, 8, .inl (aN sp)) := (fr_32 (19 + 4 * i + 3) (by omega)).trans e_29
      refine lv_aload_n hx hb dX0_turn_58 rfl (lv_at hl 0 rfl) ?_
      refine f_get (C := RX0) (T := TX0) (N := 5) hx hb hts (by decide +kernel) hown hK hP (19 + 4 * i) (by omega) e_33 rfl 2 (by decide) (hts (.fieldLink RX0 18 "KeptMoving$Course" "speeds" "[I") (by decide +kernel)) (fun _ h9 => h9) rfl dX0_turn_59 ?_
      refine lv_aload_n hx hb dX0_turn_62 rfl (lv_at hl 0 rfl) ?_
      refine f_get (C := RX0) (T := TX0) (N := 5) hx hb hts (by decide +kernel) hown hK hP (19 + 4 * i) (by omega) e_33 rfl 3 (by decide) (hts (.fieldLink RX0 21 "KeptMoving$Course" "pieces" "I") (by decide +kernel)) (fun _ h9 => h9) rfl dX0_turn_63 ?_
      refine n_iconst hx hb dX0_turn_66 ?_
      refine n_isub hx hb dX0_turn_67 ?_
      rw [show ((np + 1 : Nat) : Int) - 1 = (((np + 1) - 1 : Nat) : Int) by omega]
      refine lv_iload_n hx hb dX0_turn_68 rfl (lv_at hl 2 rfl) ?_
      refine n_iast hx hb hK hP hS hAA (19 + 4 * i + 3) (by omega) e_36 (fun _ => shp_cg (i := i) (j := 3) (by omega) (Or.inr (Or.inr rfl)) _) ((np + 1) - 1) rfl (by omega) (by decide) dX0_turn_69 (fun H locs hP hS => ?_)
      obtain ⟨w_37, hw_38⟩ : ∃ z : WF, z = va_up w_30 (19 + 4 * i + 3) (.inl (gI G, 8, .inl (aN (va_up sp ((np + 1) - 1) v)))) := ⟨_, rfl⟩
      rw [← hw_38] at hP
      have fr_39 : ∀ k : Nat, k ≠ (19 + 4 * i + 3) → w_37 k = w_30 k := fun k h => by rw [hw_38]; exact va_up_ne _ _ h
      have e_40 : w_37 (19 + 4 * i) = .inr (0, [.ref (gad G (19 + 4 * i + 1)), .ref (gad G (19 + 4 * i + 2)), .ref (gad G (19 + 4 * i + 3)), .int (iN ((np + 1 : Nat) : Int)), .int (iN stop)]) := (fr_39 (19 + 4 * i) (by omega)).trans e_33
      have e_41 : w_37 (19 + 4 * i + 1) = .inl (gI G, 8, .inl (aN (va_up st np t))) := (fr_39 (19 + 4 * i + 1) (by omega)).trans e_34
      have e_42 : w_37 (19 + 4 * i + 2) = .inl (gI G, 8, .inl (aN (va_up pl np (upAt (va_up st np t) pl sp np t 1)))) := (fr_39 (19 + 4 * i + 2) (by omega)).trans e_35
      have e_43 : w_37 (19 + 4 * i + 3) = .inl (gI G, 8, .inl (aN (va_up sp ((np + 1) - 1) v))) := by rw [hw_38]; exact va_up_self _ _ _
      exact r_v hx hb hr dX0_turn_70 hlocks hP hS (⟨(fun k h0 h1 h2 h3 => ((((((fr_39 k (by omega)).trans (fr_32 k (by omega)))).trans (fr_25 k (by omega)))).trans (fr_17 k (by omega)))), (by rw [if_pos (show st (np - 1) ≠ t ∧ np < 8 by omega)]; exact e_40), (by rw [if_pos (show st (np - 1) ≠ t ∧ np < 8 by omega)]; exact e_41), (by rw [if_pos (show st (np - 1) ≠ t ∧ np < 8 by omega)]; exact e_42), (by rw [if_pos (show st (np - 1) ≠ t ∧ np < 8 by omega)]; exact e_43)⟩)

theorem cutP_step {st : Nat → Int} {t : Int} {q : Nat} (h : 1 < q) (h2 : t ≤ st (q - 1)) : cutP st t q = cutP st t (q - 1) := by
  obtain ⟨k, rfl⟩ : ∃ k, q = k + 2 := ⟨q - 2, by omega⟩
  show (if t ≤ st (k + 1) then cutP st t (k + 1) else k + 2) = _
  exact if_pos h2
theorem cutP_end {st : Nat → Int} {t : Int} {q : Nat} (h0 : 1 ≤ q) (h : q ≤ 1 ∨ st (q - 1) < t) : cutP st t q = q := by
  rcases Nat.lt_or_ge 1 q with z | z
  · obtain ⟨k, rfl⟩ : ∃ k, q = k + 2 := ⟨q - 2, by omega⟩
    show (if t ≤ st (k + 1) then cutP st t (k + 1) else k + 2) = _
    rw [if_neg]
    intro z2
    rcases h with h | h
    · omega
    · have : st (k + 2 - 1) = st (k + 1) := rfl
      omega
  · obtain rfl : q = 1 := by omega
    rfl

set_option maxHeartbeats 4000000 in
set_option maxRecDepth 100000 in
theorem c_X0_undoFrom (l : Launch) (G : GE) (w : WF) (i : Nat) (st : Nat → Int) (pl : Nat → Int) (sp : Nat → Int) (np : Nat) (stop : Int) (t : Int) (e0 : w (19 + 4 * i) = .inr (0, [.ref (gad G (19 + 4 * i + 1)), .ref (gad G (19 + 4 * i + 2)), .ref (gad G (19 + 4 * i + 3)), .int (iN ((np : Nat) : Int)), .int (iN stop)])) (e1 : w (19 + 4 * i + 1) = .inl (gI G, 8, .inl (aN st))) (e2 : w (19 + 4 * i + 2) = .inl (gI G, 8, .inl (aN pl))) (e3 : w (19 + 4 * i + 3) = .inl (gI G, 8, .inl (aN sp))) (p0 : i < 10) (p1 : 1 ≤ np ∧ np ≤ 8) (p2 : ∀ p : Nat, p < np → 0 ≤ st p ∧ st p ≤ 400) (p3 : 0 ≤ t ∧ t ≤ 400) (p4 : -1 ≤ stop ∧ stop ≤ 400) : Met l yX0_undoFrom wsX0_undoFrom ({ frames := 0, cells := 0, slots := 0, locals := 0 }) (PcG G w [.ref (gad G (19 + 4 * i)), .int (iN t)]) (QV G (fun w1 => (∀ k : Nat, k ≠ (19 + 4 * i) → w1 k = w k) ∧ w1 (19 + 4 * i) = .inr (0, [.ref (gad G (19 + 4 * i + 1)), .ref (gad G (19 + 4 * i + 2)), .ref (gad G (19 + 4 * i + 3)), .int (iN ((cutP st t np : Nat) : Int)), .int (iN (if t ≤ stop then (-1) else stop))]))) 0 0 (AA G) := by
  refine Met.ofW (cc := cX0_undoFrom) (maxL := 2) (ret := none) (by decide) rfl ?_
  intro p e s m args below meth c s₁ B hml hv
  obtain ⟨rfl, hP, hK⟩ := hv
  have hx := B.exec
  have hb := B.bytes
  have hr := B.returns
  have hts := atoms_spec (ws := wsX0_undoFrom) B.pre
  have hown : s.vm.findClass RX0 = some m.cls := findClass_of_methodNamed B.named
  have hlocks := B.notSynchronized
  have hS : va_S (AA G) s.heap s.heap [] := va_S.rf
  have hAA : ∀ q, AA G q → AA G q := fun _ h => h
  have hl := lv_entry ([.ref (gad G (19 + 4 * i)), .int (iN t)]) (n := 2) (Nat.le_of_ble_eq_true rfl)
  rw [lg_entry_eq]
  generalize (lg_sl ([.ref (gad G (19 + 4 * i)), .int (iN t)]) ++ List.replicate (2 - (lg_sl ([.ref (gad G (19 + 4 * i)), .int (iN t)])).length) Slot.unset).toArray = ls at hl ⊢
  have hl : lv_has ls 2 [(0, .ref (gad G (19 + 4 * i))), (1, .int (iN t))] := hl
  have K0 : ∀ (N : Nat) (q : Nat) (w2 : WF) (H : Heap) (locs : List Loc) (ls : Array Slot), (1 ≤ q ∧ q ≤ np) → (cutP st t q = cutP st t np) → q < N → w2 (19 + 4 * i) = .inr (0, [.ref (gad G (19 + 4 * i + 1)), .ref (gad G (19 + 4 * i + 2)), .ref (gad G (19 + 4 * i + 3)), .int (iN ((q : Nat) : Int)), .int (iN stop)]) → (∀ k : Nat, k ≠ (19 + 4 * i) → w2 k = w k) → PW G w2 H → va_S (AA G) s.heap H locs → lv_has ls 2 [(0, .ref (gad G (19 + 4 * i))), (1, .int (iN t))] → W p l e (headSpec wsX0_undoFrom ({ frames := 0, cells := 0, slots := 0, locals := 0 })).room s m (([.ref (gad G (19 + 4 * i)), .int (iN t)] : List Value).toArray) below meth c H locs 0 0 (MQ below (QV G (fun w1 => (∀ k : Nat, k ≠ (19 + 4 * i) → w1 k = w k) ∧ w1 (19 + 4 * i) = .inr (0, [.ref (gad G (19 + 4 * i + 1)), .ref (gad G (19 + 4 * i + 2)), .ref (gad G (19 + 4 * i + 3)), .int (iN ((cutP st t np : Nat) : Int)), .int (iN (if t ≤ stop then (-1) else stop))]))) (([.ref (gad G (19 + 4 * i)), .int (iN t)] : List Value).toArray) s 0 0 (AA G)) (F0 m 0 ls []) := by
    intro N
    induction N with
    | zero =>
      intros
      exfalso
      omega
    | succ N ih0 =>
      intro q w2 H locs ls i0_0 i0_1 hN0 f0_0 hfr0 hP hS hl
      have e_1 : w2 (19 + 4 * i + 1) = .inl (gI G, 8, .inl (aN st)) := by rw [hfr0 (19 + 4 * i + 1) (by omega)]; exact e1
      have e_2 : w2 (19 + 4 * i + 2) = .inl (gI G, 8, .inl (aN pl)) := by rw [hfr0 (19 + 4 * i + 2) (by omega)]; exact e2
      have e_3 : w2 (19 + 4 * i + 3) = .inl (gI G, 8, .inl (aN sp)) := by rw [hfr0 (19 + 4 * i + 3) (by omega)]; exact e3
      refine lv_aload_n hx hb dX0_undoFrom_0 rfl (lv_at hl 0 rfl) ?_
      refine f_get (C := RX0) (T := TX0) (N := 5) hx hb hts (by decide +kernel) hown hK hP (19 + 4 * i) (by omega) f0_0 rfl 3 (by decide) (hts (.fieldLink RX0 21 "KeptMoving$Course" "pieces" "I") (by decide +kernel)) (fun _ h9 => h9) rfl dX0_undoFrom_1 ?_
      refine n_iconst hx hb dX0_undoFrom_4 ?_
      refine n_icmp_le (tgt := 36) hx hb dX0_undoFrom_5 (by decide) (by omega) (by omega) (by omega) (by omega) (fun c_5 => ?_) (fun c_5 => ?_)
      · have hcq : cutP st t q = q := cutP_end (by omega) (by omega)
        rw [i0_1] at hcq
        subst hcq
        refine lv_aload_n hx hb dX0_undoFrom_36 rfl (lv_at hl 0 rfl) ?_
        refine f_get (C := RX0) (T := TX0) (N := 5) hx hb hts (by decide +kernel) hown hK hP (19 + 4 * i) (by omega) f0_0 rfl 4 (by decide) (hts (.fieldLink RX0 25 "KeptMoving$Course" "stopped" "I") (by decide +kernel)) (fun _ h9 => h9) rfl dX0_undoFrom_37 ?_
        refine lv_iload_n hx hb dX0_undoFrom_40 rfl (lv_at hl 1 rfl) ?_
        refine n_icmp_lt (tgt := 49) hx hb dX0_undoFrom_41 (by decide) (by omega) (by omega) (by omega) (by omega) (fun c_41 => ?_) (fun c_41 => ?_)
        · exact r_v hx hb hr dX0_undoFrom_49 hlocks hP hS (⟨fun k h0 => hfr0 k (by omega), (by rw [if_neg (show ¬ (t ≤ stop) by omega)]; exact f0_0)⟩)
        · refine lv_aload_n hx hb dX0_undoFrom_44 rfl (lv_at hl 0 rfl) ?_
          refine n_iconst hx hb dX0_undoFrom_45 ?_
          refine f_put (v := .int (iN (-1))) (ty := .int) (C := RX0) (T := TX0) (N := 5) hx hb hts (by decide +kernel) tyX0 tyX0_ok nmX0 hown hK hP hS hAA (19 + 4 * i) (by omega) f0_0 rfl 4 (by decide) (hts (.fieldLink RX0 25 "KeptMoving$Course" "stopped" "I") (by decide +kernel)) (fun _ h9 => h9) rfl (by decide +kernel) (rfl) (rfl) (Nat.le_of_ble_eq_true rfl) (shp_cf (i := i) (by omega) _ _) dX0_undoFrom_46 (fun H locs hP hS => ?_)
          have hP : PW G (va_up w2 (19 + 4 * i) (.inr (0, [.ref (gad G (19 + 4 * i + 1)), .ref (gad G (19 + 4 * i + 2)), .ref (gad G (19 + 4 * i + 3)), .int (iN (((cutP st t np) : Nat) : Int)), .int (iN (-1))]))) H := hP
          obtain ⟨w_4, hw_5⟩ : ∃ z : WF, z = va_up w2 (19 + 4 * i) (.inr (0, [.ref (gad G (19 + 4 * i + 1)), .ref (gad G (19 + 4 * i + 2)), .ref (gad G (19 + 4 * i + 3)), .int (iN (((cutP st t np) : Nat) : Int)), .int (iN (-1))])) := ⟨_, rfl⟩
          rw [← hw_5] at hP
          have fr_6 : ∀ k : Nat, k ≠ (19 + 4 * i) → w_4 k = w2 k := fun k h => by rw [hw_5]; exact va_up_ne _ _ h
          have e_7 : w_4 (19 + 4 * i) = .inr (0, [.ref (gad G (19 + 4 * i + 1)), .ref (gad G (19 + 4 * i + 2)), .ref (gad G (19 + 4 * i + 3)), .int (iN (((cutP st t np) : Nat) : Int)), .int (iN (-1))]) := by rw [hw_5]; exact va_up_self _ _ _
          have e_8 : w_4 (19 + 4 * i + 1) = .inl (gI G, 8, .inl (aN st)) := (fr_6 (19 + 4 * i + 1) (by omega)).trans e_1
          have e_9 : w_4 (19 + 4 * i + 2) = .inl (gI G, 8, .inl (aN pl)) := (fr_6 (19 + 4 * i + 2) (by omega)).trans e_2
          have e_10 : w_4 (19 + 4 * i + 3) = .inl (gI G, 8, .inl (aN sp)) := (fr_6 (19 + 4 * i + 3) (by omega)).trans e_3
          exact r_v hx hb hr dX0_undoFrom_49 hlocks hP hS (⟨fun k h0 => ((fr_6 k (by omega)).trans (hfr0 k (by omega))), (by rw [if_pos (show t ≤ stop by omega)]; exact e_7)⟩)
      · have hsq := p2 (q - 1) (by omega)
        refine lv_aload_n hx hb dX0_undoFrom_8 rfl (lv_at hl 0 rfl) ?_
        refine f_get (C := RX0) (T := TX0) (N := 5) hx hb hts (by decide +kernel) hown hK hP (19 + 4 * i) (by omega) f0_0 rfl 0 (by decide) (hts (.fieldLink RX0 9 "KeptMoving$Course" "starts" "[I") (by decide +kernel)) (fun _ h9 => h9) rfl dX0_undoFrom_9 ?_
        refine lv_aload_n hx hb dX0_undoFrom_12 rfl (lv_at hl 0 rfl) ?_
        refine f_get (C := RX0) (T := TX0) (N := 5) hx hb hts (by decide +kernel) hown hK hP (19 + 4 * i) (by omega) f0_0 rfl 3 (by decide) (hts (.fieldLink RX0 21 "KeptMoving$Course" "pieces" "I") (by decide +kernel)) (fun _ h9 => h9) rfl dX0_undoFrom_13 ?_
        refine n_iconst hx hb dX0_undoFrom_16 ?_
        refine n_isub hx hb dX0_undoFrom_17 ?_
        rw [show ((q : Nat) : Int) - 1 = ((q - 1 : Nat) : Int) by omega]
        refine n_iald hx hb hK hP (19 + 4 * i + 1) (by omega) e_1 (q - 1) rfl (by omega) (by decide) dX0_undoFrom_18 ?_
        refine lv_iload_n hx hb dX0_undoFrom_19 rfl (lv_at hl 1 rfl) ?_
        refine n_icmp_lt (tgt := 36) hx hb dX0_undoFrom_20 (by decide) (by omega) (by omega) (by omega) (by omega) (fun c_20 => ?_) (fun c_20 => ?_)
        · have hcq : cutP st t q = q := cutP_end (by omega) (by omega)
          rw [i0_1] at hcq
          subst hcq
          refine lv_aload_n hx hb dX0_undoFrom_36 rfl (lv_at hl 0 rfl) ?_
          refine f_get (C := RX0) (T := TX0) (N := 5) hx hb hts (by decide +kernel) hown hK hP (19 + 4 * i) (by omega) f0_0 rfl 4 (by decide) (hts (.fieldLink RX0 25 "KeptMoving$Course" "stopped" "I") (by decide +kernel)) (fun _ h9 => h9) rfl dX0_undoFrom_37 ?_
          refine lv_iload_n hx hb dX0_undoFrom_40 rfl (lv_at hl 1 rfl) ?_
          refine n_icmp_lt (tgt := 49) hx hb dX0_undoFrom_41 (by decide) (by omega) (by omega) (by omega) (by omega) (fun c_41 => ?_) (fun c_41 => ?_)
          · exact r_v hx hb hr dX0_undoFrom_49 hlocks hP hS (⟨fun k h0 => hfr0 k (by omega), (by rw [if_neg (show ¬ (t ≤ stop) by omega)]; exact f0_0)⟩)
          · refine lv_aload_n hx hb dX0_undoFrom_44 rfl (lv_at hl 0 rfl) ?_
            refine n_iconst hx hb dX0_undoFrom_45 ?_
            refine f_put (v := .int (iN (-1))) (ty := .int) (C := RX0) (T := TX0) (N := 5) hx hb hts (by decide +kernel) tyX0 tyX0_ok nmX0 hown hK hP hS hAA (19 + 4 * i) (by omega) f0_0 rfl 4 (by decide) (hts (.fieldLink RX0 25 "KeptMoving$Course" "stopped" "I") (by decide +kernel)) (fun _ h9 => h9) rfl (by decide +kernel) (rfl) (rfl) (Nat.le_of_ble_eq_true rfl) (shp_cf (i := i) (by omega) _ _) dX0_undoFrom_46 (fun H locs hP hS => ?_)
            have hP : PW G (va_up w2 (19 + 4 * i) (.inr (0, [.ref (gad G (19 + 4 * i + 1)), .ref (gad G (19 + 4 * i + 2)), .ref (gad G (19 + 4 * i + 3)), .int (iN (((cutP st t np) : Nat) : Int)), .int (iN (-1))]))) H := hP
            obtain ⟨w_11, hw_12⟩ : ∃ z : WF, z = va_up w2 (19 + 4 * i) (.inr (0, [.ref (gad G (19 + 4 * i + 1)), .ref (gad G (19 + 4 * i + 2)), .ref (gad G (19 + 4 * i + 3)), .int (iN (((cutP st t np) : Nat) : Int)), .int (iN (-1))])) := ⟨_, rfl⟩
            rw [← hw_12] at hP
            have fr_13 : ∀ k : Nat, k ≠ (19 + 4 * i) → w_11 k = w2 k := fun k h => by rw [hw_12]; exact va_up_ne _ _ h
            have e_14 : w_11 (19 + 4 * i) = .inr (0, [.ref (gad G (19 + 4 * i + 1)), .ref (gad G (19 + 4 * i + 2)), .ref (gad G (19 + 4 * i + 3)), .int (iN (((cutP st t np) : Nat) : Int)), .int (iN (-1))]) := by rw [hw_12]; exact va_up_self _ _ _
            have e_15 : w_11 (19 + 4 * i + 1) = .inl (gI G, 8, .inl (aN st)) := (fr_13 (19 + 4 * i + 1) (by omega)).trans e_1
            have e_16 : w_11 (19 + 4 * i + 2) = .inl (gI G, 8, .inl (aN pl)) := (fr_13 (19 + 4 * i + 2) (by omega)).trans e_2
            have e_17 : w_11 (19 + 4 * i + 3) = .inl (gI G, 8, .inl (aN sp)) := (fr_13 (19 + 4 * i + 3) (by omega)).trans e_3
            exact r_v hx hb hr dX0_undoFrom_49 hlocks hP hS (⟨fun k h0 => ((fr_13 k (by omega)).trans (hfr0 k (by omega))), (by rw [if_pos (show t ≤ stop by omega)]; exact e_14)⟩)
        · refine lv_aload_n hx hb dX0_undoFrom_23 rfl (lv_at hl 0 rfl) ?_
          refine lv_dup hx hb dX0_undoFrom_24 rfl ?_
          refine f_get (C := RX0) (T := TX0) (N := 5) hx hb hts (by decide +kernel) hown hK hP (19 + 4 * i) (by omega) f0_0 rfl 3 (by decide) (hts (.fieldLink RX0 21 "KeptMoving$Course" "pieces" "I") (by decide +kernel)) (fun _ h9 => h9) rfl dX0_undoFrom_25 ?_
          refine n_iconst hx hb dX0_undoFrom_28 ?_
          refine n_isub hx hb dX0_undoFrom_29 ?_
          rw [show ((q : Nat) : Int) - 1 = ((q - 1 : Nat) : Int) by omega]
          refine f_put (v := .int (iN ((q - 1 : Nat) : Int))) (ty := .int) (C := RX0) (T := TX0) (N := 5) hx hb hts (by decide +kernel) tyX0 tyX0_ok nmX0 hown hK hP hS hAA (19 + 4 * i) (by omega) f0_0 rfl 3 (by decide) (hts (.fieldLink RX0 21 "KeptMoving$Course" "pieces" "I") (by decide +kernel)) (fun _ h9 => h9) rfl (by decide +kernel) (rfl) (rfl) (Nat.le_of_ble_eq_true rfl) (shp_cf (i := i) (by omega) _ _) dX0_undoFrom_30 (fun H locs hP hS => ?_)
          have hP : PW G (va_up w2 (19 + 4 * i) (.inr (0, [.ref (gad G (19 + 4 * i + 1)), .ref (gad G (19 + 4 * i + 2)), .ref (gad G (19 + 4 * i + 3)), .int (iN ((q - 1 : Nat) : Int)), .int (iN stop)]))) H := hP
          obtain ⟨w_18, hw_19⟩ : ∃ z : WF, z = va_up w2 (19 + 4 * i) (.inr (0, [.ref (gad G (19 + 4 * i + 1)), .ref (gad G (19 + 4 * i + 2)), .ref (gad G (19 + 4 * i + 3)), .int (iN ((q - 1 : Nat) : Int)), .int (iN stop)])) := ⟨_, rfl⟩
          rw [← hw_19] at hP
          have fr_20 : ∀ k : Nat, k ≠ (19 + 4 * i) → w_18 k = w2 k := fun k h => by rw [hw_19]; exact va_up_ne _ _ h
          have e_21 : w_18 (19 + 4 * i) = .inr (0, [.ref (gad G (19 + 4 * i + 1)), .ref (gad G (19 + 4 * i + 2)), .ref (gad G (19 + 4 * i + 3)), .int (iN ((q - 1 : Nat) : Int)), .int (iN stop)]) := by rw [hw_19]; exact va_up_self _ _ _
          have e_22 : w_18 (19 + 4 * i + 1) = .inl (gI G, 8, .inl (aN st)) := (fr_20 (19 + 4 * i + 1) (by omega)).trans e_1
          have e_23 : w_18 (19 + 4 * i + 2) = .inl (gI G, 8, .inl (aN pl)) := (fr_20 (19 + 4 * i + 2) (by omega)).trans e_2
          have e_24 : w_18 (19 + 4 * i + 3) = .inl (gI G, 8, .inl (aN sp)) := (fr_20 (19 + 4 * i + 3) (by omega)).trans e_3
          refine lv_goto (tgt := 0) hx hb dX0_undoFrom_33 (by decide) ?_
          exact ih0 (q - 1) w_18 _ _ _ (by omega) (by rw [← i0_1]; exact (cutP_step (by omega) (by omega)).symm) (by omega) (e_21) (fun k h0 => ((fr_20 k (by omega)).trans (hfr0 k (by omega)))) hP hS (lv_sub hl [0, 1] rfl)
  exact K0 (np + 1) (np) w _ _ _ (by omega) (rfl) (by omega) (e0) (fun k _ => rfl) hP hS (lv_sub hl [0, 1] rfl)

set_option maxHeartbeats 4000000 in
set_option maxRecDepth 100000 in
theorem c_X2_commonDivisor (l : Launch) (a : Int) (b : Int) (p0 : 0 ≤ a ∧ a ≤ 100000000) (p1 : 0 ≤ b ∧ b ≤ 255) : Met l yX2_commonDivisor wsX2_commonDivisor ({ frames := 0, cells := 0, slots := 0, locals := 0 }) (PcN [.int (iN a), .int (iN b)]) (vp_Si (fun r => r = iN ((Nat.gcd a.toNat b.toNat : Nat) : Int))) 0 0 (fun _ => False) := by
  refine Met.ofW (cc := cX2_commonDivisor) (maxL := 6) (ret := (some .int)) (by decide) rfl ?_
  intro p e s m args below meth c s₁ B hml hv
  obtain rfl := hv
  have hx := B.exec
  have hb := B.bytes
  have hr := B.returns
  have hts := atoms_spec (ws := wsX2_commonDivisor) B.pre
  have hown : s.vm.findClass RX2 = some m.cls := findClass_of_methodNamed B.named
  have hlocks := B.notSynchronized
  have hl := lv_entry ([.int (iN a), .int (iN b)]) (n := 6) (Nat.le_of_ble_eq_true rfl)
  rw [lg_entry_eq]
  generalize (lg_sl ([.int (iN a), .int (iN b)]) ++ List.replicate (6 - (lg_sl ([.int (iN a), .int (iN b)])).length) Slot.unset).toArray = ls at hl ⊢
  have hl : lv_has ls 6 [(0, .int (iN a)), (1, .int (iN b))] := hl
  refine lv_iload_n hx hb dX2_commonDivisor_0 rfl (lv_at hl 0 rfl) ?_
  refine lv_istore_n (lv' := [(2, .int (iN a)), (0, .int (iN a)), (1, .int (iN b))]) hx hb dX2_commonDivisor_1 rfl hl (by decide) rfl (fun ls hl => ?_)
  refine lv_iload_n hx hb dX2_commonDivisor_2 rfl (lv_at hl 2 rfl) ?_
  refine lv_istore_n (lv' := [(3, .int (iN b)), (2, .int (iN a)), (0, .int (iN a)), (1, .int (iN b))]) hx hb dX2_commonDivisor_3 rfl hl (by decide) rfl (fun ls hl => ?_)
  refine n_iconst hx hb dX2_commonDivisor_4 ?_
  have hz_1 : a = ((a.toNat : Nat) : Int) := by omega
  have hl : lv_has ls 6 [(3, .int (iN b)), (2, .int (iN ((a.toNat : Nat) : Int))), (0, .int (iN a)), (1, .int (iN b))] := by rw [← hz_1]; exact hl
  have hz_2 : b = ((b.toNat : Nat) : Int) := by omega
  have hl : lv_has ls 6 [(3, .int (iN ((b.toNat : Nat) : Int))), (2, .int (iN ((a.toNat : Nat) : Int))), (0, .int (iN a)), (1, .int (iN b))] := by rw [← hz_2]; exact hl
  refine lv_istore (lv' := [(4, .int (iN 0)), (3, .int (iN ((b.toNat : Nat) : Int))), (2, .int (iN ((a.toNat : Nat) : Int))), (0, .int (iN a)), (1, .int (iN b))]) hx hb dX2_commonDivisor_5 hl (by decide) rfl (fun ls hl => ?_)
  have K7 : ∀ (N : Nat) (A : Nat) (B : Nat) (r : Nat) (ls : Array Slot), (Nat.gcd A B = Nat.gcd a.toNat b.toNat) → (r ≤ 64) → (1 ≤ r → B ≤ A ∧ (A + B) * 3 ^ r ≤ 765 * 2 ^ r) → (A ≤ 100000000 ∧ B ≤ 255) → 65 - r < N → lv_has ls 6 [(2, .int (iN ((A : Nat) : Int))), (3, .int (iN ((B : Nat) : Int))), (4, .int (iN ((r : Nat) : Int)))] → W p l e (headSpec wsX2_commonDivisor ({ frames := 0, cells := 0, slots := 0, locals := 0 })).room s m (([.int (iN a), .int (iN b)] : List Value).toArray) below meth c s.heap [] 0 0 (MQ below (vp_Si (fun r => r = iN ((Nat.gcd a.toNat b.toNat : Nat) : Int))) (([.int (iN a), .int (iN b)] : List Value).toArray) s 0 0 (fun _ => False)) (F0 m 7 ls []) := by
    intro N
    induction N with
    | zero =>
      intros
      exfalso
      omega
    | succ N ih7 =>
      intro A B r ls i7_0 i7_1 i7_2 i7_3 hN7 hl
      refine lv_iload hx hb dX2_commonDivisor_7 (lv_at hl 2 rfl) ?_
      refine n_bipush hx hb dX2_commonDivisor_9 (by decide) ?_
      refine n_icmp_ge (tgt := 34) hx hb dX2_commonDivisor_11 (by decide) (by omega) (by omega) (by omega) (by omega) (fun c_11 => ?_) (fun c_11 => ?_)
      · refine lv_iload_n hx hb dX2_commonDivisor_34 rfl (lv_at hl 0 rfl) ?_
        exact r_si hx hb hr dX2_commonDivisor_35 hlocks (show iN ((A : Nat) : Int) = iN ((Nat.gcd a.toNat b.toNat : Nat) : Int) by rw [← i7_0, show B = 0 by exact gcd_end i7_2 (by omega) (by omega), Nat.gcd_zero_right])
      · refine lv_iload_n hx hb dX2_commonDivisor_14 rfl (lv_at hl 1 rfl) ?_
        refine n_if_le (tgt := 34) hx hb dX2_commonDivisor_15 (by decide) (by omega) (by omega) (fun c_15 => ?_) (fun c_15 => ?_)
        · refine lv_iload_n hx hb dX2_commonDivisor_34 rfl (lv_at hl 0 rfl) ?_
          exact r_si hx hb hr dX2_commonDivisor_35 hlocks (show iN ((A : Nat) : Int) = iN ((Nat.gcd a.toNat b.toNat : Nat) : Int) by rw [← i7_0, show B = 0 by omega, Nat.gcd_zero_right])
        · refine lv_iload_n hx hb dX2_commonDivisor_18 rfl (lv_at hl 0 rfl) ?_
          refine lv_iload_n hx hb dX2_commonDivisor_19 rfl (lv_at hl 1 rfl) ?_
          refine n_irem hx hb (by omega) (by omega) (by omega) (by omega) (by omega) dX2_commonDivisor_20 ?_
          refine lv_istore (lv' := [(5, .int (iN (Int.tmod ((A : Nat) : Int) ((B : Nat) : Int)))), (2, .int (iN ((A : Nat) : Int))), (3, .int (iN ((B : Nat) : Int))), (4, .int (iN ((r : Nat) : Int)))]) hx hb dX2_commonDivisor_21 hl (by decide) rfl (fun ls hl => ?_)
          have hz_3 : Int.tmod ((A : Nat) : Int) ((B : Nat) : Int) = ((A % B : Nat) : Int) := by exact (Int.ofNat_tmod A B).symm
          have hl : lv_has ls 6 [(5, .int (iN ((A % B : Nat) : Int))), (2, .int (iN ((A : Nat) : Int))), (3, .int (iN ((B : Nat) : Int))), (4, .int (iN ((r : Nat) : Int)))] := by rw [← hz_3]; exact hl
          refine lv_iload_n hx hb dX2_commonDivisor_23 rfl (lv_at hl 2 rfl) ?_
          refine lv_istore_n (lv' := [(2, .int (iN ((B : Nat) : Int))), (5, .int (iN ((A % B : Nat) : Int))), (3, .int (iN ((B : Nat) : Int))), (4, .int (iN ((r : Nat) : Int)))]) hx hb dX2_commonDivisor_24 rfl hl (by decide) rfl (fun ls hl => ?_)
          refine lv_iload hx hb dX2_commonDivisor_25 (lv_at hl 1 rfl) ?_
          refine lv_istore_n (lv' := [(3, .int (iN ((A % B : Nat) : Int))), (2, .int (iN ((B : Nat) : Int))), (5, .int (iN ((A % B : Nat) : Int))), (4, .int (iN ((r : Nat) : Int)))]) hx hb dX2_commonDivisor_27 rfl hl (by decide) rfl (fun ls hl => ?_)
          refine lv_iinc (v := iN ((r + 1 : Nat) : Int)) (lv' := [(4, .int (iN ((r + 1 : Nat) : Int))), (3, .int (iN ((A % B : Nat) : Int))), (2, .int (iN ((B : Nat) : Int))), (5, .int (iN ((A % B : Nat) : Int)))]) hx hb dX2_commonDivisor_28 hl (k := 3) rfl (iN_incN _) (by decide) rfl (fun ls hl => ?_)
          refine lv_goto (tgt := 7) hx hb dX2_commonDivisor_31 (by decide) ?_
          exact ih7 (B) (A % B) (r + 1) _ (by rw [Nat.gcd_comm B, ← Nat.gcd_rec, Nat.gcd_comm B A]; exact i7_0) (by omega) (gcd_pot (by omega) (by omega) i7_2) (⟨by omega, by have := Nat.mod_lt A (show B > 0 by omega); omega⟩) (by omega) (lv_sub hl [2, 1, 0] rfl)
  exact K7 ((65 - 0) + 1) (a.toNat) (b.toNat) (0) _ (rfl) (by omega) (fun z => absurd z (by omega)) (by omega) (by omega) (lv_sub hl [2, 1, 0] rfl)

set_option maxHeartbeats 4000000 in
set_option maxRecDepth 100000 in
theorem c_X2_whole (l : Launch) (a : Int) (p0 : -100000000 ≤ a ∧ a ≤ 100000000) : Met l yX2_whole wsX2_whole ({ frames := 0, cells := 0, slots := 0, locals := 0 }) (PcN [.int (iN a)]) (vp_Sl (fun r => r = jN (a * 256 + 1))) 0 0 (fun _ => False) := by
  refine Met.ofW (cc := cX2_whole) (maxL := 1) (ret := (some .long)) (by decide) rfl ?_
  intro p e s m args below meth c s₁ B hml hv
  obtain rfl := hv
  have hx := B.exec
  have hb := B.bytes
  have hr := B.returns
  have hts := atoms_spec (ws := wsX2_whole) B.pre
  have hown : s.vm.findClass RX2 = some m.cls := findClass_of_methodNamed B.named
  have hlocks := B.notSynchronized
  have hl := lv_entry ([.int (iN a)]) (n := 1) (Nat.le_of_ble_eq_true rfl)
  rw [lg_entry_eq]
  generalize (lg_sl ([.int (iN a)]) ++ List.replicate (1 - (lg_sl ([.int (iN a)])).length) Slot.unset).toArray = ls at hl ⊢
  have hl : lv_has ls 1 [(0, .int (iN a))] := hl
  refine lv_iload_n hx hb dX2_whole_0 rfl (lv_at hl 0 rfl) ?_
  refine n_i2l hx hb (by omega) (by omega) dX2_whole_1 ?_
  refine n_bipush hx hb dX2_whole_2 (by decide) ?_
  refine n_lshl8 hx hb dX2_whole_4 ?_
  refine n_lconst (z := 1) hx hb dX2_whole_5 (by decide) ?_
  refine n_lor8 hx hb (by omega) (by omega) dX2_whole_6 ?_
  exact r_sl hx hb hr dX2_whole_7 hlocks (show jN (a * 256 + 1) = jN (a * 256 + 1) from congrArg jN (by first | rfl | omega))

set_option maxHeartbeats 4000000 in
set_option maxRecDepth 100000 in
theorem c_X2_of (l : Launch) (u : Int) (lo : Int) (p0 : -100000000 ≤ u ∧ u ≤ 100000000) (p1 : 1 ≤ lo ∧ lo ≤ 255) : Met l yX2_of wsX2_of ({ frames := 1, cells := 0, slots := 0, locals := 25 }) (PcN [.int (iN u), .int (iN lo)]) (vp_Sl (fun r => r = jN (frac u lo))) 0 0 (fun _ => False) := by
  refine Met.ofW (cc := cX2_of) (maxL := 3) (ret := (some .long)) (by decide) rfl ?_
  intro p e s m args below meth c s₁ B hml hv
  obtain rfl := hv
  have hx := B.exec
  have hb := B.bytes
  have hr := B.returns
  have hts := atoms_spec (ws := wsX2_of) B.pre
  have hown : s.vm.findClass RX2 = some m.cls := findClass_of_methodNamed B.named
  have hlocks := B.notSynchronized
  have hl := lv_entry ([.int (iN u), .int (iN lo)]) (n := 3) (Nat.le_of_ble_eq_true rfl)
  rw [lg_entry_eq]
  generalize (lg_sl ([.int (iN u), .int (iN lo)]) ++ List.replicate (3 - (lg_sl ([.int (iN u), .int (iN lo)])).length) Slot.unset).toArray = ls at hl ⊢
  have hl : lv_has ls 3 [(0, .int (iN u)), (1, .int (iN lo))] := hl
  refine lv_iload_n hx hb dX2_of_0 rfl (lv_at hl 0 rfl) ?_
  refine n_mabs hx hb (by rw [hml]; exact hl.1.symm) hown (hts (.methodLink RX2 7 Lib.Math.abs.name) (by decide +kernel)) (hts (.static Lib.Math.abs.name) (by decide +kernel)) (hts (.initialized "java/lang/Math") (by decide +kernel)) (hts (.code Lib.Math.abs.name Lib.Math.abs.code 1 (some .int)) (by decide +kernel)) (Nat.le_of_ble_eq_true rfl) (Nat.le_of_ble_eq_true rfl) (Nat.zero_le _) (Nat.zero_le _) (by omega) (by omega) dX2_of_1 ?_
  refine lv_iload_n hx hb dX2_of_4 rfl (lv_at hl 1 rfl) ?_
  refine vp_callSi (W.runS (As := [.int (iN ((Int.natAbs u : Nat) : Int)), .int (iN lo)]) (rest := []) ⟨hx, hb, hml, hown, hts⟩ (c_X2_commonDivisor l ((Int.natAbs u : Nat) : Int) lo (by omega) (by omega)) (va_cwS 2 hts gX2_of_X2_commonDivisor rfl rfl rfl (by decide +kernel) ⟨Nat.le_of_ble_eq_true rfl, Nat.le_of_ble_eq_true rfl⟩) ⟨fun _ _ _ _ q => q, fun _ _ _ => rfl⟩ rfl rfl hl.1 rfl (lv_room (Nat.le_of_ble_eq_true rfl)) dX2_of_5 ⟨Nat.zero_le _, Nat.zero_le _⟩) (fun r_1 hr_1 => ?_)
  rw [show r_1 = iN ((Nat.gcd ((Int.natAbs u : Nat) : Int).toNat lo.toNat : Nat) : Int) from hr_1]
  refine lv_istore_n (lv' := [(2, .int (iN ((Nat.gcd ((Int.natAbs u : Nat) : Int).toNat lo.toNat : Nat) : Int))), (0, .int (iN u)), (1, .int (iN lo))]) hx hb dX2_of_8 rfl hl (by decide) rfl (fun ls hl => ?_)
  have hz_2 : Nat.gcd ((Int.natAbs u : Nat) : Int).toNat lo.toNat = Nat.gcd u.natAbs lo.natAbs := by rw [show (Int.toNat (((Int.natAbs u) : Nat) : Int)) = u.natAbs by omega, show lo.toNat = lo.natAbs by omega]
  have hl : lv_has ls 3 [(2, .int (iN ((Nat.gcd u.natAbs lo.natAbs : Nat) : Int))), (0, .int (iN u)), (1, .int (iN lo))] := by rw [← hz_2]; exact hl
  have hg0 : 0 < Nat.gcd u.natAbs lo.natAbs := Nat.gcd_pos_of_pos_right _ (by omega)
  have hg1 : Nat.gcd u.natAbs lo.natAbs ≤ lo.natAbs := Nat.le_of_dvd (by omega) (Nat.gcd_dvd_right _ _)
  have hd1 := Int.natAbs_tdiv_le_natAbs u (Nat.gcd u.natAbs lo.natAbs : Int)
  have hd2 := Int.natAbs_tdiv_le_natAbs lo (Nat.gcd u.natAbs lo.natAbs : Int)
  have hd3 : 0 ≤ lo.tdiv (Nat.gcd u.natAbs lo.natAbs : Int) := Int.tdiv_nonneg (by omega) (by omega)
  refine lv_iload_n hx hb dX2_of_9 rfl (lv_at hl 0 rfl) ?_
  refine n_iconst hx hb dX2_of_10 ?_
  refine n_icmp_ge (tgt := 19) hx hb dX2_of_11 (by decide) (by omega) (by omega) (by omega) (by omega) (fun c_11 => ?_) (fun c_11 => ?_)
  · refine lv_iload_n hx hb dX2_of_19 rfl (lv_at hl 1 rfl) ?_
    refine lv_iload_n hx hb dX2_of_20 rfl (lv_at hl 0 rfl) ?_
    refine n_idiv hx hb (by omega) (by omega) (by omega) (by omega) (by omega) dX2_of_21 ?_
    refine n_i2l hx hb (by omega) (by omega) dX2_of_22 ?_
    refine n_bipush hx hb dX2_of_23 (by decide) ?_
    refine n_lshl8 hx hb dX2_of_25 ?_
    refine lv_iload_n hx hb dX2_of_26 rfl (lv_at hl 2 rfl) ?_
    refine lv_iload_n hx hb dX2_of_27 rfl (lv_at hl 0 rfl) ?_
    refine n_idiv hx hb (by omega) (by omega) (by omega) (by omega) (by omega) dX2_of_28 ?_
    refine n_i2l hx hb (by omega) (by omega) dX2_of_29 ?_
    refine n_lor8 hx hb (by omega) (by omega) dX2_of_30 ?_
    exact r_sl hx hb hr dX2_of_31 hlocks (show jN ((Int.tdiv u ((Nat.gcd u.natAbs lo.natAbs : Nat) : Int)) * 256 + (Int.tdiv lo ((Nat.gcd u.natAbs lo.natAbs : Nat) : Int))) = jN (frac u lo) from congrArg jN (by first | rfl | omega))
  · exact absurd hg0 (by omega)

set_option maxHeartbeats 4000000 in
set_option maxRecDepth 100000 in
theorem c_X2_past (l : Launch) (fr : Int) (u : Int) (lo : Int) (p0 : -100000000 ≤ fr * lo + u ∧ fr * lo + u ≤ 100000000) (p1 : 1 ≤ lo ∧ lo ≤ 255) : Met l yX2_past wsX2_past ({ frames := 2, cells := 0, slots := 0, locals := 47 }) (PcN [.int (iN fr), .int (iN u), .int (iN lo)]) (vp_Sl (fun r => r = jN (frac (fr * lo + u) lo))) 0 0 (fun _ => False) := by
  refine Met.ofW (cc := cX2_past) (maxL := 3) (ret := (some .long)) (by decide) rfl ?_
  intro p e s m args below meth c s₁ B hml hv
  obtain rfl := hv
  have hx := B.exec
  have hb := B.bytes
  have hr := B.returns
  have hts := atoms_spec (ws := wsX2_past) B.pre
  have hown : s.vm.findClass RX2 = some m.cls := findClass_of_methodNamed B.named
  have hlocks := B.notSynchronized
  have hl := lv_entry ([.int (iN fr), .int (iN u), .int (iN lo)]) (n := 3) (Nat.le_of_ble_eq_true rfl)
  rw [lg_entry_eq]
  generalize (lg_sl ([.int (iN fr), .int (iN u), .int (iN lo)]) ++ List.replicate (3 - (lg_sl ([.int (iN fr), .int (iN u), .int (iN lo)])).length) Slot.unset).toArray = ls at hl ⊢
  have hl : lv_has ls 3 [(0, .int (iN fr)), (1, .int (iN u)), (2, .int (iN lo))] := hl
  refine lv_iload_n hx hb dX2_past_0 rfl (lv_at hl 0 rfl) ?_
  refine lv_iload_n hx hb dX2_past_1 rfl (lv_at hl 2 rfl) ?_
  refine n_imul hx hb dX2_past_2 ?_
  refine lv_iload_n hx hb dX2_past_3 rfl (lv_at hl 1 rfl) ?_
  refine n_iadd hx hb dX2_past_4 ?_
  refine lv_iload_n hx hb dX2_past_5 rfl (lv_at hl 2 rfl) ?_
  refine vp_callSl (W.runS (As := [.int (iN ((fr * lo) + u)), .int (iN lo)]) (rest := []) ⟨hx, hb, hml, hown, hts⟩ (c_X2_of l ((fr * lo) + u) lo (by omega) (by omega)) (va_cwS 2 hts gX2_past_X2_of rfl rfl rfl (by decide +kernel) ⟨Nat.le_of_ble_eq_true rfl, Nat.le_of_ble_eq_true rfl⟩) ⟨fun _ _ _ _ q => q, fun _ _ _ => rfl⟩ rfl rfl hl.1 rfl (lv_room (Nat.le_of_ble_eq_true rfl)) dX2_past_6 ⟨Nat.zero_le _, Nat.zero_le _⟩) (fun r_1 hr_1 => ?_)
  rw [show r_1 = jN (frac ((fr * lo) + u) lo) from hr_1]
  exact r_sl hx hb hr dX2_past_9 hlocks (show jN (frac ((fr * lo) + u) lo) = jN (frac (fr * lo + u) lo) from congrArg jN (by first | rfl | omega))

set_option maxHeartbeats 4000000 in
set_option maxRecDepth 100000 in
theorem c_X2_upper (l : Launch) (x : Int) (p0 : -30000000000 ≤ x ∧ x ≤ 30000000000) : Met l yX2_upper wsX2_upper ({ frames := 0, cells := 0, slots := 0, locals := 0 }) (PcN [.long (jN x)]) (vp_Si (fun r => r = iN (x / 256))) 0 0 (fun _ => False) := by
  refine Met.ofW (cc := cX2_upper) (maxL := 2) (ret := (some .int)) (by decide) rfl ?_
  intro p e s m args below meth c s₁ B hml hv
  obtain rfl := hv
  have hx := B.exec
  have hb := B.bytes
  have hr := B.returns
  have hts := atoms_spec (ws := wsX2_upper) B.pre
  have hown : s.vm.findClass RX2 = some m.cls := findClass_of_methodNamed B.named
  have hlocks := B.notSynchronized
  have hl := lv_entry ([.long (jN x)]) (n := 2) (Nat.le_of_ble_eq_true rfl)
  rw [lg_entry_eq]
  generalize (lg_sl ([.long (jN x)]) ++ List.replicate (2 - (lg_sl ([.long (jN x)])).length) Slot.unset).toArray = ls at hl ⊢
  have hl : lv_has ls 2 [(0, .long (jN x))] := hl
  refine lv_lload_n hx hb dX2_upper_0 rfl (lv_at hl 0 rfl) ?_
  refine n_bipush hx hb dX2_upper_1 (by decide) ?_
  refine n_lshr8 hx hb (by omega) (by omega) dX2_upper_3 ?_
  refine n_l2i hx hb dX2_upper_4 ?_
  exact r_si hx hb hr dX2_upper_5 hlocks (show iN (x / 256) = iN (x / 256) from congrArg iN (by first | rfl | omega))

set_option maxHeartbeats 4000000 in
set_option maxRecDepth 100000 in
theorem c_X2_lower (l : Launch) (x : Int) (p0 : -30000000000 ≤ x ∧ x ≤ 30000000000) : Met l yX2_lower wsX2_lower ({ frames := 0, cells := 0, slots := 0, locals := 0 }) (PcN [.long (jN x)]) (vp_Si (fun r => r = iN (x % 256))) 0 0 (fun _ => False) := by
  refine Met.ofW (cc := cX2_lower) (maxL := 2) (ret := (some .int)) (by decide) rfl ?_
  intro p e s m args below meth c s₁ B hml hv
  obtain rfl := hv
  have hx := B.exec
  have hb := B.bytes
  have hr := B.returns
  have hts := atoms_spec (ws := wsX2_lower) B.pre
  have hown : s.vm.findClass RX2 = some m.cls := findClass_of_methodNamed B.named
  have hlocks := B.notSynchronized
  have hl := lv_entry ([.long (jN x)]) (n := 2) (Nat.le_of_ble_eq_true rfl)
  rw [lg_entry_eq]
  generalize (lg_sl ([.long (jN x)]) ++ List.replicate (2 - (lg_sl ([.long (jN x)])).length) Slot.unset).toArray = ls at hl ⊢
  have hl : lv_has ls 2 [(0, .long (jN x))] := hl
  refine lv_lload_n hx hb dX2_lower_0 rfl (lv_at hl 0 rfl) ?_
  refine n_ldc2 (z := (255)) hx hb hown (hts (.constantLong RX2 27 (255)) (by decide +kernel)) (by decide) dX2_lower_1 ?_
  refine n_land8 hx hb (by omega) (by omega) dX2_lower_4 ?_
  refine n_l2i hx hb dX2_lower_5 ?_
  exact r_si hx hb hr dX2_lower_6 hlocks (show iN (x % 256) = iN (x % 256) from congrArg iN (by first | rfl | omega))

set_option maxHeartbeats 4000000 in
set_option maxRecDepth 100000 in
theorem c_J13_compare_74951 (l : Launch) (x : Int) (y : Int) (p0 : -9223372036854775808 ≤ x ∧ x < 9223372036854775808) (p1 : -9223372036854775808 ≤ y ∧ y < 9223372036854775808) : Met l yJ13_compare_74951 wsJ13_compare_74951 ({ frames := 0, cells := 0, slots := 0, locals := 0 }) (PcN [.long (jN x), .long (jN y)]) (vp_Si (fun r => r = iN (cmpI x y))) 0 0 (fun _ => False) := by
  refine Met.ofW (cc := cJ13_compare_74951) (maxL := 4) (ret := (some .int)) (by decide) rfl ?_
  intro p e s m args below meth c s₁ B hml hv
  obtain rfl := hv
  have hx := B.exec
  have hb := B.bytes
  have hr := B.returns
  have hts := atoms_spec (ws := wsJ13_compare_74951) B.pre
  have hown : s.vm.findClass RJ13 = some m.cls := findClass_of_methodNamed B.named
  have hlocks := B.notSynchronized
  have hl := lv_entry ([.long (jN x), .long (jN y)]) (n := 4) (Nat.le_of_ble_eq_true rfl)
  rw [lg_entry_eq]
  generalize (lg_sl ([.long (jN x), .long (jN y)]) ++ List.replicate (4 - (lg_sl ([.long (jN x), .long (jN y)])).length) Slot.unset).toArray = ls at hl ⊢
  have hl : lv_has ls 4 [(0, .long (jN x)), (2, .long (jN y))] := hl
  refine lv_lload_n hx hb dJ13_compare_74951_0 rfl (lv_at hl 0 rfl) ?_
  refine lv_lload_n hx hb dJ13_compare_74951_1 rfl (lv_at hl 1 rfl) ?_
  refine n_lcmp hx hb (by omega) (by omega) (by omega) (by omega) dJ13_compare_74951_2 ?_
  refine n_ifc_ge (tgt := 10) hx hb dJ13_compare_74951_3 (by decide) (fun c_3 => ?_) (fun c_3 => ?_)
  · refine lv_lload_n hx hb dJ13_compare_74951_10 rfl (lv_at hl 0 rfl) ?_
    refine lv_lload_n hx hb dJ13_compare_74951_11 rfl (lv_at hl 1 rfl) ?_
    refine n_lcmp hx hb (by omega) (by omega) (by omega) (by omega) dJ13_compare_74951_12 ?_
    refine n_ifc_ne (tgt := 20) hx hb dJ13_compare_74951_13 (by decide) (fun c_13 => ?_) (fun c_13 => ?_)
    · refine n_iconst hx hb dJ13_compare_74951_20 ?_
      exact r_si hx hb hr dJ13_compare_74951_21 hlocks (show iN 1 = iN (cmpI x y) by unfold cmpI; rw [if_pos (by omega)])
    · refine n_iconst hx hb dJ13_compare_74951_16 ?_
      refine lv_goto (tgt := 21) hx hb dJ13_compare_74951_17 (by decide) ?_
      exact r_si hx hb hr dJ13_compare_74951_21 hlocks (show iN 0 = iN (cmpI x y) by unfold cmpI; rw [if_neg (by omega), if_pos (by omega)])
  · refine n_iconst hx hb dJ13_compare_74951_6 ?_
    refine lv_goto (tgt := 21) hx hb dJ13_compare_74951_7 (by decide) ?_
    exact r_si hx hb hr dJ13_compare_74951_21 hlocks (show iN (-1) = iN (cmpI x y) by unfold cmpI; rw [if_neg (by omega), if_neg (by omega)])

set_option maxHeartbeats 4000000 in
set_option maxRecDepth 100000 in
theorem c_X2_compare (l : Launch) (x : Int) (y : Int) (p0 : -30000000000 ≤ x ∧ x ≤ 30000000000) (p1 : -30000000000 ≤ y ∧ y ≤ 30000000000) : Met l yX2_compare wsX2_compare ({ frames := 1, cells := 0, slots := 0, locals := 23 }) (PcN [.long (jN x), .long (jN y)]) (vp_Si (fun r => r = iN (cmpI (x / 256 * (y % 256)) (y / 256 * (x % 256))))) 0 0 (fun _ => False) := by
  refine Met.ofW (cc := cX2_compare) (maxL := 4) (ret := (some .int)) (by decide) rfl ?_
  intro p e s m args below meth c s₁ B hml hv
  obtain rfl := hv
  have hx := B.exec
  have hb := B.bytes
  have hr := B.returns
  have hts := atoms_spec (ws := wsX2_compare) B.pre
  have hown : s.vm.findClass RX2 = some m.cls := findClass_of_methodNamed B.named
  have hlocks := B.notSynchronized
  have hl := lv_entry ([.long (jN x), .long (jN y)]) (n := 4) (Nat.le_of_ble_eq_true rfl)
  rw [lg_entry_eq]
  generalize (lg_sl ([.long (jN x), .long (jN y)]) ++ List.replicate (4 - (lg_sl ([.long (jN x), .long (jN y)])).length) Slot.unset).toArray = ls at hl ⊢
  have hl : lv_has ls 4 [(0, .long (jN x)), (2, .long (jN y))] := hl
  have hm1 := mb2 p0 p1
  have hm2 := mb2 p1 p0
  refine lv_lload_n hx hb dX2_compare_0 rfl (lv_at hl 0 rfl) ?_
  refine vp_callSi (W.runS (As := [.long (jN x)]) (rest := []) ⟨hx, hb, hml, hown, hts⟩ (c_X2_upper l x (by omega)) (va_cwS 1 hts gX2_compare_X2_upper rfl rfl rfl (by decide +kernel) ⟨Nat.le_of_ble_eq_true rfl, Nat.le_of_ble_eq_true rfl⟩) ⟨fun _ _ _ _ q => q, fun _ _ _ => rfl⟩ rfl rfl hl.1 rfl (lv_room (Nat.le_of_ble_eq_true rfl)) dX2_compare_1 ⟨Nat.zero_le _, Nat.zero_le _⟩) (fun r_1 hr_1 => ?_)
  rw [show r_1 = iN (x / 256) from hr_1]
  refine n_i2l hx hb (by omega) (by omega) dX2_compare_4 ?_
  refine lv_lload_n hx hb dX2_compare_5 rfl (lv_at hl 1 rfl) ?_
  refine vp_callSi (W.runS (As := [.long (jN y)]) (rest := [.long (jN (x / 256))]) ⟨hx, hb, hml, hown, hts⟩ (c_X2_lower l y (by omega)) (va_cwS 1 hts gX2_compare_X2_lower rfl rfl rfl (by decide +kernel) ⟨Nat.le_of_ble_eq_true rfl, Nat.le_of_ble_eq_true rfl⟩) ⟨fun _ _ _ _ q => q, fun _ _ _ => rfl⟩ rfl rfl hl.1 rfl (lv_room (Nat.le_of_ble_eq_true rfl)) dX2_compare_6 ⟨Nat.zero_le _, Nat.zero_le _⟩) (fun r_2 hr_2 => ?_)
  rw [show r_2 = iN (y % 256) from hr_2]
  refine n_i2l hx hb (by omega) (by omega) dX2_compare_9 ?_
  refine n_lmul hx hb dX2_compare_10 ?_
  refine lv_lload_n hx hb dX2_compare_11 rfl (lv_at hl 1 rfl) ?_
  refine vp_callSi (W.runS (As := [.long (jN y)]) (rest := [.long (jN ((x / 256) * (y % 256)))]) ⟨hx, hb, hml, hown, hts⟩ (c_X2_upper l y (by omega)) (va_cwS 1 hts gX2_compare_X2_upper rfl rfl rfl (by decide +kernel) ⟨Nat.le_of_ble_eq_true rfl, Nat.le_of_ble_eq_true rfl⟩) ⟨fun _ _ _ _ q => q, fun _ _ _ => rfl⟩ rfl rfl hl.1 rfl (lv_room (Nat.le_of_ble_eq_true rfl)) dX2_compare_12 ⟨Nat.zero_le _, Nat.zero_le _⟩) (fun r_3 hr_3 => ?_)
  rw [show r_3 = iN (y / 256) from hr_3]
  refine n_i2l hx hb (by omega) (by omega) dX2_compare_15 ?_
  refine lv_lload_n hx hb dX2_compare_16 rfl (lv_at hl 0 rfl) ?_
  refine vp_callSi (W.runS (As := [.long (jN x)]) (rest := [.long (jN (y / 256)), .long (jN ((x / 256) * (y % 256)))]) ⟨hx, hb, hml, hown, hts⟩ (c_X2_lower l x (by omega)) (va_cwS 1 hts gX2_compare_X2_lower rfl rfl rfl (by decide +kernel) ⟨Nat.le_of_ble_eq_true rfl, Nat.le_of_ble_eq_true rfl⟩) ⟨fun _ _ _ _ q => q, fun _ _ _ => rfl⟩ rfl rfl hl.1 rfl (lv_room (Nat.le_of_ble_eq_true rfl)) dX2_compare_17 ⟨Nat.zero_le _, Nat.zero_le _⟩) (fun r_4 hr_4 => ?_)
  rw [show r_4 = iN (x % 256) from hr_4]
  refine n_i2l hx hb (by omega) (by omega) dX2_compare_20 ?_
  refine n_lmul hx hb dX2_compare_21 ?_
  refine vp_callSi (W.runS (As := [.long (jN ((x / 256) * (y % 256))), .long (jN ((y / 256) * (x % 256)))]) (rest := []) ⟨hx, hb, hml, hown, hts⟩ (c_J13_compare_74951 l ((x / 256) * (y % 256)) ((y / 256) * (x % 256)) (by omega) (by omega)) (va_cwS 2 hts gX2_compare_J13_compare_74951 rfl rfl rfl (by decide +kernel) ⟨Nat.le_of_ble_eq_true rfl, Nat.le_of_ble_eq_true rfl⟩) ⟨fun _ _ _ _ q => q, fun _ _ _ => rfl⟩ rfl rfl hl.1 rfl (lv_room (Nat.le_of_ble_eq_true rfl)) dX2_compare_22 ⟨Nat.zero_le _, Nat.zero_le _⟩) (fun r_5 hr_5 => ?_)
  rw [show r_5 = iN (cmpI ((x / 256) * (y % 256)) ((y / 256) * (x % 256))) from hr_5]
  exact r_si hx hb hr dX2_compare_25 hlocks (show iN (cmpI ((x / 256) * (y % 256)) ((y / 256) * (x % 256))) = iN (cmpI (x / 256 * (y % 256)) (y / 256 * (x % 256))) from congrArg iN (by first | rfl | omega))
