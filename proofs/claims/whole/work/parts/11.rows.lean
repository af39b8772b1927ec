/-! numbers of the machine as whole numbers: iN, jN; the instructions over them -/
def iN (z : Int) : Int32 := Int32.ofInt z
def jN (z : Int) : Int64 := Int64.ofInt z
def aN (g : Nat → Int) : Nat → Int32 := fun j => iN (g j)
def aJ (g : Nat → Int) : Nat → Int64 := fun j => jN (g j)
theorem iN_of (x : Int32) : iN x.toInt = x := Int32.ofInt_toInt x
theorem jN_of (x : Int64) : jN x.toInt = x := Int64.ofInt_toInt x
theorem aN_of (f : Nat → Int32) : aN (fun j => (f j).toInt) = f := funext fun j => iN_of (f j)
theorem aJ_of (f : Nat → Int64) : aJ (fun j => (f j).toInt) = f := funext fun j => jN_of (f j)
theorem iN_ti {z : Int} (h1 : -2147483648 ≤ z) (h2 : z < 2147483648) : (iN z).toInt = z := Int32.toInt_ofInt_of_le (by omega) (by omega)
theorem jN_ti {z : Int} (h1 : -9223372036854775808 ≤ z) (h2 : z < 9223372036854775808) : (jN z).toInt = z := Int64.toInt_ofInt_of_le (by omega) (by omega)
theorem iN_add (a b : Int) : iN a + iN b = iN (a + b) := (Int32.ofInt_add a b).symm
theorem iN_sub (a b : Int) : iN a - iN b = iN (a - b) := (Int32.ofInt_sub a b).symm
theorem iN_mul (a b : Int) : iN a * iN b = iN (a * b) := (Int32.ofInt_mul a b).symm
theorem iN_neg (a : Int) : -iN a = iN (-a) := (Int32.ofInt_neg a).symm
theorem jN_add (a b : Int) : jN a + jN b = jN (a + b) := (Int64.ofInt_add a b).symm
theorem jN_sub (a b : Int) : jN a - jN b = jN (a - b) := (Int64.ofInt_sub a b).symm
theorem jN_mul (a b : Int) : jN a * jN b = jN (a * b) := (Int64.ofInt_mul a b).symm
theorem jN_neg (a : Int) : -jN a = jN (-a) := (Int64.ofInt_neg a).symm
theorem iN_inc (a n : Int) : iN a + Int32.ofInt n = iN (a + n) := iN_add a n
theorem iN_nat (n : Nat) : iN (n : Int) = nI n := Int32.ofInt_eq_ofNat
theorem iN_lt {a b : Int} (a1 : -2147483648 ≤ a) (a2 : a < 2147483648) (b1 : -2147483648 ≤ b) (b2 : b < 2147483648) : iN a < iN b ↔ a < b := by
  rw [Int32.lt_iff_toInt_lt, iN_ti a1 a2, iN_ti b1 b2]
theorem iN_le {a b : Int} (a1 : -2147483648 ≤ a) (a2 : a < 2147483648) (b1 : -2147483648 ≤ b) (b2 : b < 2147483648) : iN a ≤ iN b ↔ a ≤ b := by
  rw [Int32.le_iff_toInt_le, iN_ti a1 a2, iN_ti b1 b2]
theorem iN_eq {a b : Int} (a1 : -2147483648 ≤ a) (a2 : a < 2147483648) (b1 : -2147483648 ≤ b) (b2 : b < 2147483648) : iN a = iN b ↔ a = b := by
  rw [← Int32.toInt_inj, iN_ti a1 a2, iN_ti b1 b2]
theorem iN_0 : (0 : Int32) = iN 0 := rfl
theorem iN_idx {n : Nat} {A : Int} {j : Nat} (hA : A = (j : Int)) (hj : j < n) (hn : n < 2147483648) : vp_in (iN A) n ∧ (iN A).toNatClampNeg = j := by
  subst hA
  rw [iN_nat]
  exact ⟨vp_in_nI hj (by omega), nI_clamp (by omega)⟩
theorem i2l_N {a : Int} (a1 : -2147483648 ≤ a) (a2 : a < 2147483648) : (iN a).toInt64 = jN a := Int64.toInt_inj.mp (by rw [Int32.toInt_toInt64, iN_ti a1 a2, jN_ti (by omega) (by omega)])
theorem l2i_N (a : Int) : (jN a).toInt32 = iN a := Int64.toInt32_ofInt
theorem idiv_N {a b : Int} (a1 : -2147483648 < a) (a2 : a < 2147483648) (b1 : -2147483648 ≤ b) (b2 : b < 2147483648) : iN a / iN b = iN (a.tdiv b) := by
  have h : iN a ≠ Int32.minValue := fun q => by
    have := congrArg Int32.toInt q
    rw [iN_ti (by omega) a2] at this
    have h2 : Int32.minValue.toInt = -2147483648 := by decide
    omega
  refine Int32.toInt_inj.mp ?_
  have hb : (a.tdiv b).natAbs ≤ a.natAbs := Int.natAbs_tdiv_le_natAbs a b
  rw [Int32.toInt_div_of_ne_left _ _ h, iN_ti (by omega) a2, iN_ti b1 b2, iN_ti (by omega) (by omega)]
theorem irem_N {a b : Int} (a1 : -2147483648 < a) (a2 : a < 2147483648) (b1 : -2147483648 ≤ b) (b2 : b < 2147483648) : iN a - iN a / iN b * iN b = iN (a.tmod b) := by
  rw [idiv_N a1 a2 b1 b2, iN_mul, iN_sub, Int.tmod_def, Int.mul_comm]
theorem ldiv_N {a b : Int} (a1 : -9223372036854775808 < a) (a2 : a < 9223372036854775808) (b1 : -9223372036854775808 ≤ b) (b2 : b < 9223372036854775808) : jN a / jN b = jN (a.tdiv b) := by
  have h : jN a ≠ Int64.minValue := fun q => by
    have := congrArg Int64.toInt q
    rw [jN_ti (by omega) a2] at this
    have h2 : Int64.minValue.toInt = -9223372036854775808 := by decide
    omega
  refine Int64.toInt_inj.mp ?_
  have hb : (a.tdiv b).natAbs ≤ a.natAbs := Int.natAbs_tdiv_le_natAbs a b
  rw [Int64.toInt_div_of_ne_left _ _ h, jN_ti (by omega) a2, jN_ti b1 b2, jN_ti (by omega) (by omega)]
theorem lrem_N {a b : Int} (a1 : -9223372036854775808 < a) (a2 : a < 9223372036854775808) (b1 : -9223372036854775808 ≤ b) (b2 : b < 9223372036854775808) : jN a - jN a / jN b * jN b = jN (a.tmod b) := by
  rw [ldiv_N a1 a2 b1 b2, jN_mul, jN_sub, Int.tmod_def, Int.mul_comm]
def cmpI (a b : Int) : Int := if b < a then 1 else if a = b then 0 else -1
theorem cmpI_rng (a b : Int) : -1 ≤ cmpI a b ∧ cmpI a b ≤ 1 := by
  unfold cmpI
  repeat' split
  all_goals omega
theorem lcmp_N {a b : Int} (a1 : -9223372036854775808 ≤ a) (a2 : a < 9223372036854775808) (b1 : -9223372036854775808 ≤ b) (b2 : b < 9223372036854775808) : lg_cmp (jN a) (jN b) = iN (cmpI a b) := by
  unfold lg_cmp cmpI
  simp only [gt_iff_lt, Int64.lt_iff_toInt_lt, ← Int64.toInt_inj, jN_ti a1 a2, jN_ti b1 b2]
  repeat' split
  all_goals rfl
theorem cmp_lt (a b : Int) : cmpI a b < 0 ↔ a < b := by
  unfold cmpI
  repeat' split
  all_goals omega
theorem cmp_le (a b : Int) : cmpI a b ≤ 0 ↔ a ≤ b := by
  unfold cmpI
  repeat' split
  all_goals omega
theorem cmp_eq (a b : Int) : cmpI a b = 0 ↔ a = b := by
  unfold cmpI
  repeat' split
  all_goals omega
theorem b01_rng (P : Prop) [Decidable P] : (0 : Int) ≤ (if P then (1 : Int) else 0) ∧ (if P then (1 : Int) else 0) ≤ 1 := by
  split <;> omega
theorem b01_eq (P : Prop) [Decidable P] : (if P then (1 : Int) else 0) = 0 ↔ ¬ P := by
  split <;> simp_all
theorem b01_nar (P : Prop) [Decidable P] : vp_nar .boolean (iN (if P then 1 else 0)) = iN (if P then 1 else 0) := by
  split <;> rfl
theorem b01_narrow (P : Prop) [Decidable P] : narrow .boolean (.int (iN (if P then 1 else 0))) = .int (iN (if P then 1 else 0)) := by
  split <;> rfl
theorem shp_c0 {G : GE} {i : Nat} (e : va_E) (hi : i < 10) : shp G (19 + 4 * i) e = .inr (0, [.ref (gad G (19 + 4 * i + 1)), .ref (gad G (19 + 4 * i + 2)), .ref (gad G (19 + 4 * i + 3)), .int (eF e 3), .int (eF e 4)]) := by
  unfold shp
  rw [if_neg (by omega), if_pos (by omega)]
  unfold shpB
  rw [show (19 + 4 * i) % 4 = 3 by omega]
  rfl
theorem shp_c1 {G : GE} {i j : Nat} (e : va_E) (hi : i < 10) (hj : j = 1 ∨ j = 2 ∨ j = 3) : shp G (19 + 4 * i + j) e = .inl (gI G, 8, .inl (eA e)) := by
  unfold shp
  rw [if_neg (by omega), if_pos (by omega)]
  unfold shpB
  rcases hj with rfl | rfl | rfl
  · rw [show (19 + 4 * i + 1) % 4 = 0 by omega]
    rfl
  · rw [show (19 + 4 * i + 2) % 4 = 1 by omega]
    rfl
  · rw [show (19 + 4 * i + 3) % 4 = 2 by omega]
    rfl
section FN
variable {p : Program} {l : Launch} {e : Env} {R : Room} {s : State} {m : MethodId} {args : Array Value} {below : List Frame} {meth : Method} {c : Code} {H : Heap} {locs : List Loc} {cells slots : Nat} {Q : State → Prop}
variable {pc : Nat} {ls : Array Slot} {rest : List Value} {A0 : Nat → Prop} {H0 : Heap} {G : GE} {w : WF} {cc : ByteArray}
theorem n_iconst (hx : p.tables.exec = Jvm.exec) (hb : c.code = cc) {n : Int} (hdg : decode cc pc = .ok (.iconst n, 1)) (k : W p l e R s m args below meth c H locs cells slots Q (F0 m (pc + 1) ls (.int (iN n) :: rest))) : W p l e R s m args below meth c H locs cells slots Q (F0 m pc ls rest) := lv_iconst hx hb hdg rfl k
theorem n_bipush (hx : p.tables.exec = Jvm.exec) (hb : c.code = cc) {n : Int} (hdg : decode cc pc = .ok (.bipush n, 2)) (hv : (Int8.ofInt n).toInt32 = iN n) (k : W p l e R s m args below meth c H locs cells slots Q (F0 m (pc + 2) ls (.int (iN n) :: rest))) : W p l e R s m args below meth c H locs cells slots Q (F0 m pc ls rest) := lv_bipush hx hb hdg hv k
theorem n_sipush (hx : p.tables.exec = Jvm.exec) (hb : c.code = cc) {n : Int} (hdg : decode cc pc = .ok (.sipush n, 3)) (hv : (Int16.ofInt n).toInt32 = iN n) (k : W p l e R s m args below meth c H locs cells slots Q (F0 m (pc + 3) ls (.int (iN n) :: rest))) : W p l e R s m args below meth c H locs cells slots Q (F0 m pc ls rest) := lv_sipush hx hb hdg hv k
theorem n_ldc (hx : p.tables.exec = Jvm.exec) (hb : c.code = cc) {own : String} {index : Nat} {v : Int32} {z : Int} (hown : s.vm.findClass own = some m.cls) (hc : (Jvm.Cond.constant own index v).before args s = true) (hv : v = iN z) (hdg : decode cc pc = .ok (.ldc index, 2)) (k : W p l e R s m args below meth c H locs cells slots Q (F0 m (pc + 2) ls (.int (iN z) :: rest))) : W p l e R s m args below meth c H locs cells slots Q (F0 m pc ls rest) := by
  subst hv
  exact lv_ldc hx hb hown hc hdg k
theorem n_ldc2 (hx : p.tables.exec = Jvm.exec) (hb : c.code = cc) {own : String} {index : Nat} {v : Int64} {z : Int} (hown : s.vm.findClass own = some m.cls) (hc : (Jvm.Cond.constantLong own index v).before args s = true) (hv : v = jN z) (hdg : decode cc pc = .ok (.ldc2_w index, 3)) (k : W p l e R s m args below meth c H locs cells slots Q (F0 m (pc + 3) ls (.long (jN z) :: rest))) : W p l e R s m args below meth c H locs cells slots Q (F0 m pc ls rest) := by
  subst hv
  exact lv_ldc2 hx hb hown hc hdg k
theorem n_lconst (hx : p.tables.exec = Jvm.exec) (hb : c.code = cc) {n : Fin 2} {z : Int} (hdg : decode cc pc = .ok (.lconst n, 1)) (hv : Int64.ofNat (n : Nat) = jN z) (k : W p l e R s m args below meth c H locs cells slots Q (F0 m (pc + 1) ls (.long (jN z) :: rest))) : W p l e R s m args below meth c H locs cells slots Q (F0 m pc ls rest) := lv_lconst hx hb hdg hv k
theorem n_iadd (hx : p.tables.exec = Jvm.exec) (hb : c.code = cc) {A B : Int} (hdg : decode cc pc = .ok (.iadd, 1)) (k : W p l e R s m args below meth c H locs cells slots Q (F0 m (pc + 1) ls (.int (iN (A + B)) :: rest))) : W p l e R s m args below meth c H locs cells slots Q (F0 m pc ls (.int (iN B) :: .int (iN A) :: rest)) := lv_iadd hx hb hdg (by rw [iN_add]; exact k)
theorem n_isub (hx : p.tables.exec = Jvm.exec) (hb : c.code = cc) {A B : Int} (hdg : decode cc pc = .ok (.isub, 1)) (k : W p l e R s m args below meth c H locs cells slots Q (F0 m (pc + 1) ls (.int (iN (A - B)) :: rest))) : W p l e R s m args below meth c H locs cells slots Q (F0 m pc ls (.int (iN B) :: .int (iN A) :: rest)) := lv_isub hx hb hdg (by rw [iN_sub]; exact k)
theorem n_imul (hx : p.tables.exec = Jvm.exec) (hb : c.code = cc) {A B : Int} (hdg : decode cc pc = .ok (.imul, 1)) (k : W p l e R s m args below meth c H locs cells slots Q (F0 m (pc + 1) ls (.int (iN (A * B)) :: rest))) : W p l e R s m args below meth c H locs cells slots Q (F0 m pc ls (.int (iN B) :: .int (iN A) :: rest)) := lv_imul hx hb hdg (by rw [iN_mul]; exact k)
theorem n_ineg (hx : p.tables.exec = Jvm.exec) (hb : c.code = cc) {A : Int} (hdg : decode cc pc = .ok (.ineg, 1)) (k : W p l e R s m args below meth c H locs cells slots Q (F0 m (pc + 1) ls (.int (iN (-A)) :: rest))) : W p l e R s m args below meth c H locs cells slots Q (F0 m pc ls (.int (iN A) :: rest)) := lv_ineg hx hb hdg (by rw [iN_neg]; exact k)
theorem n_idiv (hx : p.tables.exec = Jvm.exec) (hb : c.code = cc) {A B : Int} (a1 : -2147483648 < A) (a2 : A < 2147483648) (b1 : -2147483648 ≤ B) (b2 : B < 2147483648) (h0 : B ≠ 0) (hdg : decode cc pc = .ok (.idiv, 1)) (k : W p l e R s m args below meth c H locs cells slots Q (F0 m (pc + 1) ls (.int (iN (A.tdiv B)) :: rest))) : W p l e R s m args below meth c H locs cells slots Q (F0 m pc ls (.int (iN B) :: .int (iN A) :: rest)) := lv_idiv hx hb hdg (fun q => h0 ((iN_eq b1 b2 (by omega) (by omega)).mp (q.trans iN_0))) (by rw [idiv_N a1 a2 b1 b2]; exact k)
theorem n_irem (hx : p.tables.exec = Jvm.exec) (hb : c.code = cc) {A B : Int} (a1 : -2147483648 < A) (a2 : A < 2147483648) (b1 : -2147483648 ≤ B) (b2 : B < 2147483648) (h0 : B ≠ 0) (hdg : decode cc pc = .ok (.irem, 1)) (k : W p l e R s m args below meth c H locs cells slots Q (F0 m (pc + 1) ls (.int (iN (A.tmod B)) :: rest))) : W p l e R s m args below meth c H locs cells slots Q (F0 m pc ls (.int (iN B) :: .int (iN A) :: rest)) := lv_irem hx hb hdg (fun q => h0 ((iN_eq b1 b2 (by omega) (by omega)).mp (q.trans iN_0))) (by rw [irem_N a1 a2 b1 b2]; exact k)
theorem n_ladd (hx : p.tables.exec = Jvm.exec) (hb : c.code = cc) {A B : Int} (hdg : decode cc pc = .ok (.ladd, 1)) (k : W p l e R s m args below meth c H locs cells slots Q (F0 m (pc + 1) ls (.long (jN (A + B)) :: rest))) : W p l e R s m args below meth c H locs cells slots Q (F0 m pc ls (.long (jN B) :: .long (jN A) :: rest)) := lv_ladd hx hb hdg (by rw [jN_add]; exact k)
theorem n_lsub (hx : p.tables.exec = Jvm.exec) (hb : c.code = cc) {A B : Int} (hdg : decode cc pc = .ok (.lsub, 1)) (k : W p l e R s m args below meth c H locs cells slots Q (F0 m (pc + 1) ls (.long (jN (A - B)) :: rest))) : W p l e R s m args below meth c H locs cells slots Q (F0 m pc ls (.long (jN B) :: .long (jN A) :: rest)) := lv_lsub hx hb hdg (by rw [jN_sub]; exact k)
theorem n_lmul (hx : p.tables.exec = Jvm.exec) (hb : c.code = cc) {A B : Int} (hdg : decode cc pc = .ok (.lmul, 1)) (k : W p l e R s m args below meth c H locs cells slots Q (F0 m (pc + 1) ls (.long (jN (A * B)) :: rest))) : W p l e R s m args below meth c H locs cells slots Q (F0 m pc ls (.long (jN B) :: .long (jN A) :: rest)) := lv_lmul hx hb hdg (by rw [jN_mul]; exact k)
theorem n_lneg (hx : p.tables.exec = Jvm.exec) (hb : c.code = cc) {A : Int} (hdg : decode cc pc = .ok (.lneg, 1)) (k : W p l e R s m args below meth c H locs cells slots Q (F0 m (pc + 1) ls (.long (jN (-A)) :: rest))) : W p l e R s m args below meth c H locs cells slots Q (F0 m pc ls (.long (jN A) :: rest)) := lv_lneg hx hb hdg (by rw [jN_neg]; exact k)
theorem n_ldiv (hx : p.tables.exec = Jvm.exec) (hb : c.code = cc) {A B : Int} (a1 : -9223372036854775808 < A) (a2 : A < 9223372036854775808) (b1 : -9223372036854775808 ≤ B) (b2 : B < 9223372036854775808) (h0 : B ≠ 0) (hdg : decode cc pc = .ok (.ldiv, 1)) (k : W p l e R s m args below meth c H locs cells slots Q (F0 m (pc + 1) ls (.long (jN (A.tdiv B)) :: rest))) : W p l e R s m args below meth c H locs cells slots Q (F0 m pc ls (.long (jN B) :: .long (jN A) :: rest)) := lv_ldiv hx hb hdg (fun q => h0 (by have := congrArg Int64.toInt q; rw [jN_ti b1 b2] at this; exact this)) (by rw [ldiv_N a1 a2 b1 b2]; exact k)
theorem n_lrem (hx : p.tables.exec = Jvm.exec) (hb : c.code = cc) {A B : Int} (a1 : -9223372036854775808 < A) (a2 : A < 9223372036854775808) (b1 : -9223372036854775808 ≤ B) (b2 : B < 9223372036854775808) (h0 : B ≠ 0) (hdg : decode cc pc = .ok (.lrem, 1)) (k : W p l e R s m args below meth c H locs cells slots Q (F0 m (pc + 1) ls (.long (jN (A.tmod B)) :: rest))) : W p l e R s m args below meth c H locs cells slots Q (F0 m pc ls (.long (jN B) :: .long (jN A) :: rest)) := lv_lrem hx hb hdg (fun q => h0 (by have := congrArg Int64.toInt q; rw [jN_ti b1 b2] at this; exact this)) (by rw [lrem_N a1 a2 b1 b2]; exact k)
theorem n_i2l (hx : p.tables.exec = Jvm.exec) (hb : c.code = cc) {A : Int} (a1 : -2147483648 ≤ A) (a2 : A < 2147483648) (hdg : decode cc pc = .ok (.i2l, 1)) (k : W p l e R s m args below meth c H locs cells slots Q (F0 m (pc + 1) ls (.long (jN A) :: rest))) : W p l e R s m args below meth c H locs cells slots Q (F0 m pc ls (.int (iN A) :: rest)) := lv_i2l hx hb hdg (i2l_N a1 a2) k
theorem n_l2i (hx : p.tables.exec = Jvm.exec) (hb : c.code = cc) {A : Int} (hdg : decode cc pc = .ok (.l2i, 1)) (k : W p l e R s m args below meth c H locs cells slots Q (F0 m (pc + 1) ls (.int (iN A) :: rest))) : W p l e R s m args below meth c H locs cells slots Q (F0 m pc ls (.long (jN A) :: rest)) := lv_l2i hx hb hdg (l2i_N A) k
theorem n_lcmp (hx : p.tables.exec = Jvm.exec) (hb : c.code = cc) {A B : Int} (a1 : -9223372036854775808 ≤ A) (a2 : A < 9223372036854775808) (b1 : -9223372036854775808 ≤ B) (b2 : B < 9223372036854775808) (hdg : decode cc pc = .ok (.lcmp, 1)) (k : W p l e R s m args below meth c H locs cells slots Q (F0 m (pc + 1) ls (.int (iN (cmpI A B)) :: rest))) : W p l e R s m args below meth c H locs cells slots Q (F0 m pc ls (.long (jN B) :: .long (jN A) :: rest)) := W.lcmp hx hb hdg (by rw [lcmp_N a1 a2 b1 b2]; exact k)
theorem n_icmp_eq (hx : p.tables.exec = Jvm.exec) (hb : c.code = cc) {A B : Int} {off : Int} {tgt : Nat} (hdg : decode cc pc = .ok (.if_icmp .eq off, 3)) (ht : (pc : Int) + off = (tgt : Int)) (a1 : -2147483648 ≤ A) (a2 : A < 2147483648) (b1 : -2147483648 ≤ B) (b2 : B < 2147483648) (kt : A = B → W p l e R s m args below meth c H locs cells slots Q (F0 m tgt ls rest)) (kf : ¬ A = B → W p l e R s m args below meth c H locs cells slots Q (F0 m (pc + 3) ls rest)) : W p l e R s m args below meth c H locs cells slots Q (F0 m pc ls (.int (iN B) :: .int (iN A) :: rest)) := lv_icmp_eq hx hb hdg ht (fun q => kt ((iN_eq a1 a2 b1 b2).mp q)) (fun q => kf (fun z => q ((iN_eq a1 a2 b1 b2).mpr z)))
theorem n_if_eq (hx : p.tables.exec = Jvm.exec) (hb : c.code = cc) {A : Int} {off : Int} {tgt : Nat} (hdg : decode cc pc = .ok (.ifCond .eq off, 3)) (ht : (pc : Int) + off = (tgt : Int)) (a1 : -2147483648 ≤ A) (a2 : A < 2147483648) (kt : A = 0 → W p l e R s m args below meth c H locs cells slots Q (F0 m tgt ls rest)) (kf : ¬ A = 0 → W p l e R s m args below meth c H locs cells slots Q (F0 m (pc + 3) ls rest)) : W p l e R s m args below meth c H locs cells slots Q (F0 m pc ls (.int (iN A) :: rest)) := lv_if_eq hx hb hdg ht (fun q => kt ((iN_eq a1 a2 (by omega) (by omega)).mp q)) (fun q => kf (fun z => q ((iN_eq a1 a2 (by omega) (by omega)).mpr z)))
theorem n_ifc_eq (hx : p.tables.exec = Jvm.exec) (hb : c.code = cc) {A B : Int} {off : Int} {tgt : Nat} (hdg : decode cc pc = .ok (.ifCond .eq off, 3)) (ht : (pc : Int) + off = (tgt : Int)) (kt : A = B → W p l e R s m args below meth c H locs cells slots Q (F0 m tgt ls rest)) (kf : ¬ A = B → W p l e R s m args below meth c H locs cells slots Q (F0 m (pc + 3) ls rest)) : W p l e R s m args below meth c H locs cells slots Q (F0 m pc ls (.int (iN (cmpI A B)) :: rest)) := n_if_eq hx hb hdg ht (by have := cmpI_rng A B; omega) (by have := cmpI_rng A B; omega) (fun q => kt ((cmp_eq A B).mp q)) (fun q => kf (fun z => q ((cmp_eq A B).mpr z)))
theorem n_icmp_ne (hx : p.tables.exec = Jvm.exec) (hb : c.code = cc) {A B : Int} {off : Int} {tgt : Nat} (hdg : decode cc pc = .ok (.if_icmp .ne off, 3)) (ht : (pc : Int) + off = (tgt : Int)) (a1 : -2147483648 ≤ A) (a2 : A < 2147483648) (b1 : -2147483648 ≤ B) (b2 : B < 2147483648) (kt : ¬ A = B → W p l e R s m args below meth c H locs cells slots Q (F0 m tgt ls rest)) (kf : A = B → W p l e R s m args below meth c H locs cells slots Q (F0 m (pc + 3) ls rest)) : W p l e R s m args below meth c H locs cells slots Q (F0 m pc ls (.int (iN B) :: .int (iN A) :: rest)) := lv_icmp_ne hx hb hdg ht (fun q => kt (fun z => q ((iN_eq a1 a2 b1 b2).mpr z))) (fun q => kf ((iN_eq a1 a2 b1 b2).mp q))
theorem n_if_ne (hx : p.tables.exec = Jvm.exec) (hb : c.code = cc) {A : Int} {off : Int} {tgt : Nat} (hdg : decode cc pc = .ok (.ifCond .ne off, 3)) (ht : (pc : Int) + off = (tgt : Int)) (a1 : -2147483648 ≤ A) (a2 : A < 2147483648) (kt : ¬ A = 0 → W p l e R s m args below meth c H locs cells slots Q (F0 m tgt ls rest)) (kf : A = 0 → W p l e R s m args below meth c H locs cells slots Q (F0 m (pc + 3) ls rest)) : W p l e R s m args below meth c H locs cells slots Q (F0 m pc ls (.int (iN A) :: rest)) := lv_if_ne hx hb hdg ht (fun q => kt (fun z => q ((iN_eq a1 a2 (by omega) (by omega)).mpr z))) (fun q => kf ((iN_eq a1 a2 (by omega) (by omega)).mp q))
theorem n_ifc_ne (hx : p.tables.exec = Jvm.exec) (hb : c.code = cc) {A B : Int} {off : Int} {tgt : Nat} (hdg : decode cc pc = .ok (.ifCond .ne off, 3)) (ht : (pc : Int) + off = (tgt : Int)) (kt : ¬ A = B → W p l e R s m args below meth c H locs cells slots Q (F0 m tgt ls rest)) (kf : A = B → W p l e R s m args below meth c H locs cells slots Q (F0 m (pc + 3) ls rest)) : W p l e R s m args below meth c H locs cells slots Q (F0 m pc ls (.int (iN (cmpI A B)) :: rest)) := n_if_ne hx hb hdg ht (by have := cmpI_rng A B; omega) (by have := cmpI_rng A B; omega) (fun q => kt (fun z => q ((cmp_eq A B).mpr z))) (fun q => kf ((cmp_eq A B).mp q))
theorem n_icmp_lt (hx : p.tables.exec = Jvm.exec) (hb : c.code = cc) {A B : Int} {off : Int} {tgt : Nat} (hdg : decode cc pc = .ok (.if_icmp .lt off, 3)) (ht : (pc : Int) + off = (tgt : Int)) (a1 : -2147483648 ≤ A) (a2 : A < 2147483648) (b1 : -2147483648 ≤ B) (b2 : B < 2147483648) (kt : A < B → W p l e R s m args below meth c H locs cells slots Q (F0 m tgt ls rest)) (kf : ¬ A < B → W p l e R s m args below meth c H locs cells slots Q (F0 m (pc + 3) ls rest)) : W p l e R s m args below meth c H locs cells slots Q (F0 m pc ls (.int (iN B) :: .int (iN A) :: rest)) := lv_icmp_lt hx hb hdg ht (fun q => kt ((iN_lt a1 a2 b1 b2).mp q)) (fun q => kf (fun z => q ((iN_lt a1 a2 b1 b2).mpr z)))
theorem n_if_lt (hx : p.tables.exec = Jvm.exec) (hb : c.code = cc) {A : Int} {off : Int} {tgt : Nat} (hdg : decode cc pc = .ok (.ifCond .lt off, 3)) (ht : (pc : Int) + off = (tgt : Int)) (a1 : -2147483648 ≤ A) (a2 : A < 2147483648) (kt : A < 0 → W p l e R s m args below meth c H locs cells slots Q (F0 m tgt ls rest)) (kf : ¬ A < 0 → W p l e R s m args below meth c H locs cells slots Q (F0 m (pc + 3) ls rest)) : W p l e R s m args below meth c H locs cells slots Q (F0 m pc ls (.int (iN A) :: rest)) := lv_if_lt hx hb hdg ht (fun q => kt ((iN_lt a1 a2 (by omega) (by omega)).mp q)) (fun q => kf (fun z => q ((iN_lt a1 a2 (by omega) (by omega)).mpr z)))
theorem n_ifc_lt (hx : p.tables.exec = Jvm.exec) (hb : c.code = cc) {A B : Int} {off : Int} {tgt : Nat} (hdg : decode cc pc = .ok (.ifCond .lt off, 3)) (ht : (pc : Int) + off = (tgt : Int)) (kt : A < B → W p l e R s m args below meth c H locs cells slots Q (F0 m tgt ls rest)) (kf : ¬ A < B → W p l e R s m args below meth c H locs cells slots Q (F0 m (pc + 3) ls rest)) : W p l e R s m args below meth c H locs cells slots Q (F0 m pc ls (.int (iN (cmpI A B)) :: rest)) := n_if_lt hx hb hdg ht (by have := cmpI_rng A B; omega) (by have := cmpI_rng A B; omega) (fun q => kt ((cmp_lt A B).mp q)) (fun q => kf (fun z => q ((cmp_lt A B).mpr z)))
theorem n_icmp_ge (hx : p.tables.exec = Jvm.exec) (hb : c.code = cc) {A B : Int} {off : Int} {tgt : Nat} (hdg : decode cc pc = .ok (.if_icmp .ge off, 3)) (ht : (pc : Int) + off = (tgt : Int)) (a1 : -2147483648 ≤ A) (a2 : A < 2147483648) (b1 : -2147483648 ≤ B) (b2 : B < 2147483648) (kt : B ≤ A → W p l e R s m args below meth c H locs cells slots Q (F0 m tgt ls rest)) (kf : ¬ B ≤ A → W p l e R s m args below meth c H locs cells slots Q (F0 m (pc + 3) ls rest)) : W p l e R s m args below meth c H locs cells slots Q (F0 m pc ls (.int (iN B) :: .int (iN A) :: rest)) := lv_icmp_ge hx hb hdg ht (fun q => kt ((iN_le b1 b2 a1 a2).mp q)) (fun q => kf (fun z => q ((iN_le b1 b2 a1 a2).mpr z)))
theorem n_if_ge (hx : p.tables.exec = Jvm.exec) (hb : c.code = cc) {A : Int} {off : Int} {tgt : Nat} (hdg : decode cc pc = .ok (.ifCond .ge off, 3)) (ht : (pc : Int) + off = (tgt : Int)) (a1 : -2147483648 ≤ A) (a2 : A < 2147483648) (kt : 0 ≤ A → W p l e R s m args below meth c H locs cells slots Q (F0 m tgt ls rest)) (kf : ¬ 0 ≤ A → W p l e R s m args below meth c H locs cells slots Q (F0 m (pc + 3) ls rest)) : W p l e R s m args below meth c H locs cells slots Q (F0 m pc ls (.int (iN A) :: rest)) := lv_if_ge hx hb hdg ht (fun q => kt ((iN_le (by omega) (by omega) a1 a2).mp q)) (fun q => kf (fun z => q ((iN_le (by omega) (by omega) a1 a2).mpr z)))
theorem n_ifc_ge (hx : p.tables.exec = Jvm.exec) (hb : c.code = cc) {A B : Int} {off : Int} {tgt : Nat} (hdg : decode cc pc = .ok (.ifCond .ge off, 3)) (ht : (pc : Int) + off = (tgt : Int)) (kt : B ≤ A → W p l e R s m args below meth c H locs cells slots Q (F0 m tgt ls rest)) (kf : ¬ B ≤ A → W p l e R s m args below meth c H locs cells slots Q (F0 m (pc + 3) ls rest)) : W p l e R s m args below meth c H locs cells slots Q (F0 m pc ls (.int (iN (cmpI A B)) :: rest)) := n_if_ge hx hb hdg ht (by have := cmpI_rng A B; omega) (by have := cmpI_rng A B; omega) (fun q => kt (Int.not_lt.mp fun z => absurd ((cmp_lt A B).mpr z) (Int.not_lt.mpr q))) (fun q => kf (fun z => absurd ((cmp_lt A B).mp (Int.not_le.mp q)) (Int.not_lt.mpr z)))
theorem n_icmp_gt (hx : p.tables.exec = Jvm.exec) (hb : c.code = cc) {A B : Int} {off : Int} {tgt : Nat} (hdg : decode cc pc = .ok (.if_icmp .gt off, 3)) (ht : (pc : Int) + off = (tgt : Int)) (a1 : -2147483648 ≤ A) (a2 : A < 2147483648) (b1 : -2147483648 ≤ B) (b2 : B < 2147483648) (kt : B < A → W p l e R s m args below meth c H locs cells slots Q (F0 m tgt ls rest)) (kf : ¬ B < A → W p l e R s m args below meth c H locs cells slots Q (F0 m (pc + 3) ls rest)) : W p l e R s m args below meth c H locs cells slots Q (F0 m pc ls (.int (iN B) :: .int (iN A) :: rest)) := lv_icmp_gt hx hb hdg ht (fun q => kt ((iN_lt b1 b2 a1 a2).mp q)) (fun q => kf (fun z => q ((iN_lt b1 b2 a1 a2).mpr z)))
theorem n_if_gt (hx : p.tables.exec = Jvm.exec) (hb : c.code = cc) {A : Int} {off : Int} {tgt : Nat} (hdg : decode cc pc = .ok (.ifCond .gt off, 3)) (ht : (pc : Int) + off = (tgt : Int)) (a1 : -2147483648 ≤ A) (a2 : A < 2147483648) (kt : 0 < A → W p l e R s m args below meth c H locs cells slots Q (F0 m tgt ls rest)) (kf : ¬ 0 < A → W p l e R s m args below meth c H locs cells slots Q (F0 m (pc + 3) ls rest)) : W p l e R s m args below meth c H locs cells slots Q (F0 m pc ls (.int (iN A) :: rest)) := lv_if_gt hx hb hdg ht (fun q => kt ((iN_lt (by omega) (by omega) a1 a2).mp q)) (fun q => kf (fun z => q ((iN_lt (by omega) (by omega) a1 a2).mpr z)))
theorem n_ifc_gt (hx : p.tables.exec = Jvm.exec) (hb : c.code = cc) {A B : Int} {off : Int} {tgt : Nat} (hdg : decode cc pc = .ok (.ifCond .gt off, 3)) (ht : (pc : Int) + off = (tgt : Int)) (kt : B < A → W p l e R s m args below meth c H locs cells slots Q (F0 m tgt ls rest)) (kf : ¬ B < A → W p l e R s m args below meth c H locs cells slots Q (F0 m (pc + 3) ls rest)) : W p l e R s m args below meth c H locs cells slots Q (F0 m pc ls (.int (iN (cmpI A B)) :: rest)) := n_if_gt hx hb hdg ht (by have := cmpI_rng A B; omega) (by have := cmpI_rng A B; omega) (fun q => kt (Int.not_le.mp fun z => absurd ((cmp_le A B).mpr z) (Int.not_le.mpr q))) (fun q => kf (fun z => absurd ((cmp_le A B).mp (Int.not_lt.mp q)) (Int.not_le.mpr z)))
theorem n_icmp_le (hx : p.tables.exec = Jvm.exec) (hb : c.code = cc) {A B : Int} {off : Int} {tgt : Nat} (hdg : decode cc pc = .ok (.if_icmp .le off, 3)) (ht : (pc : Int) + off = (tgt : Int)) (a1 : -2147483648 ≤ A) (a2 : A < 2147483648) (b1 : -2147483648 ≤ B) (b2 : B < 2147483648) (kt : A ≤ B → W p l e R s m args below meth c H locs cells slots Q (F0 m tgt ls rest)) (kf : ¬ A ≤ B → W p l e R s m args below meth c H locs cells slots Q (F0 m (pc + 3) ls rest)) : W p l e R s m args below meth c H locs cells slots Q (F0 m pc ls (.int (iN B) :: .int (iN A) :: rest)) := lv_icmp_le hx hb hdg ht (fun q => kt ((iN_le a1 a2 b1 b2).mp q)) (fun q => kf (fun z => q ((iN_le a1 a2 b1 b2).mpr z)))
theorem n_if_le (hx : p.tables.exec = Jvm.exec) (hb : c.code = cc) {A : Int} {off : Int} {tgt : Nat} (hdg : decode cc pc = .ok (.ifCond .le off, 3)) (ht : (pc : Int) + off = (tgt : Int)) (a1 : -2147483648 ≤ A) (a2 : A < 2147483648) (kt : A ≤ 0 → W p l e R s m args below meth c H locs cells slots Q (F0 m tgt ls rest)) (kf : ¬ A ≤ 0 → W p l e R s m args below meth c H locs cells slots Q (F0 m (pc + 3) ls rest)) : W p l e R s m args below meth c H locs cells slots Q (F0 m pc ls (.int (iN A) :: rest)) := lv_if_le hx hb hdg ht (fun q => kt ((iN_le a1 a2 (by omega) (by omega)).mp q)) (fun q => kf (fun z => q ((iN_le a1 a2 (by omega) (by omega)).mpr z)))
theorem n_ifc_le (hx : p.tables.exec = Jvm.exec) (hb : c.code = cc) {A B : Int} {off : Int} {tgt : Nat} (hdg : decode cc pc = .ok (.ifCond .le off, 3)) (ht : (pc : Int) + off = (tgt : Int)) (kt : A ≤ B → W p l e R s m args below meth c H locs cells slots Q (F0 m tgt ls rest)) (kf : ¬ A ≤ B → W p l e R s m args below meth c H locs cells slots Q (F0 m (pc + 3) ls rest)) : W p l e R s m args below meth c H locs cells slots Q (F0 m pc ls (.int (iN (cmpI A B)) :: rest)) := n_if_le hx hb hdg ht (by have := cmpI_rng A B; omega) (by have := cmpI_rng A B; omega) (fun q => kt ((cmp_le A B).mp q)) (fun q => kf (fun z => q ((cmp_le A B).mpr z)))
theorem n_ifb_eq (hx : p.tables.exec = Jvm.exec) (hb : c.code = cc) {P : Prop} [Decidable P] {off : Int} {tgt : Nat} (hdg : decode cc pc = .ok (.ifCond .eq off, 3)) (ht : (pc : Int) + off = (tgt : Int)) (kt : ¬ P → W p l e R s m args below meth c H locs cells slots Q (F0 m tgt ls rest)) (kf : P → W p l e R s m args below meth c H locs cells slots Q (F0 m (pc + 3) ls rest)) : W p l e R s m args below meth c H locs cells slots Q (F0 m pc ls (.int (iN (if P then 1 else 0)) :: rest)) := n_if_eq hx hb hdg ht (by have := b01_rng P; omega) (by have := b01_rng P; omega) (fun q => kt ((b01_eq P).mp q)) (fun q => kf (Decidable.not_not.mp fun z => q ((b01_eq P).mpr z)))
theorem n_ifb_ne (hx : p.tables.exec = Jvm.exec) (hb : c.code = cc) {P : Prop} [Decidable P] {off : Int} {tgt : Nat} (hdg : decode cc pc = .ok (.ifCond .ne off, 3)) (ht : (pc : Int) + off = (tgt : Int)) (kt : P → W p l e R s m args below meth c H locs cells slots Q (F0 m tgt ls rest)) (kf : ¬ P → W p l e R s m args below meth c H locs cells slots Q (F0 m (pc + 3) ls rest)) : W p l e R s m args below meth c H locs cells slots Q (F0 m pc ls (.int (iN (if P then 1 else 0)) :: rest)) := n_if_ne hx hb hdg ht (by have := b01_rng P; omega) (by have := b01_rng P; omega) (fun q => kt (Decidable.not_not.mp fun z => q ((b01_eq P).mpr z))) (fun q => kf ((b01_eq P).mp q))
theorem n_iald (hx : p.tables.exec = Jvm.exec) (hb : c.code = cc) (hK : KK G s) (hP : PW G w H) (k : Nat) (hk : k < 75) {n : Nat} {g : Nat → Int} (he : w k = .inl (gI G, n, .inl (aN g))) {A : Int} (j : Nat) (hA : A = (j : Int)) (hj : j < n) (hn : n < 2147483648) (hdg : decode cc pc = .ok (.iaload, 1)) (kk : W p l e R s m args below meth c H locs cells slots Q (F0 m (pc + 1) ls (.int (iN (g j)) :: rest))) : W p l e R s m args below meth c H locs cells slots Q (F0 m pc ls (.int (iN A) :: .ref (gad G k) :: rest)) := by
  obtain ⟨h1, h2⟩ := iN_idx hA hj hn
  refine f_iald hx hb hK hP k hk he h1 hdg ?_
  rw [h2]
  exact kk
theorem n_zald (hx : p.tables.exec = Jvm.exec) (hb : c.code = cc) (hK : KK G s) (hP : PW G w H) (k : Nat) (hk : k < 75) {n : Nat} {g : Nat → Int} (he : w k = .inl (gZ G, n, .inl (aN g))) {A : Int} (j : Nat) (hA : A = (j : Int)) (hj : j < n) (hn : n < 2147483648) (hdg : decode cc pc = .ok (.baload, 1)) (kk : W p l e R s m args below meth c H locs cells slots Q (F0 m (pc + 1) ls (.int (iN (g j)) :: rest))) : W p l e R s m args below meth c H locs cells slots Q (F0 m pc ls (.int (iN A) :: .ref (gad G k) :: rest)) := by
  obtain ⟨h1, h2⟩ := iN_idx hA hj hn
  refine f_zald hx hb hK hP k hk he h1 hdg ?_
  rw [h2]
  exact kk
theorem n_lald (hx : p.tables.exec = Jvm.exec) (hb : c.code = cc) (hK : KK G s) (hP : PW G w H) (k : Nat) (hk : k < 75) {n : Nat} {g : Nat → Int} (he : w k = .inl (gJ G, n, .inr (.inl (aJ g)))) {A : Int} (j : Nat) (hA : A = (j : Int)) (hj : j < n) (hn : n < 2147483648) (hdg : decode cc pc = .ok (.laload, 1)) (kk : W p l e R s m args below meth c H locs cells slots Q (F0 m (pc + 1) ls (.long (jN (g j)) :: rest))) : W p l e R s m args below meth c H locs cells slots Q (F0 m pc ls (.int (iN A) :: .ref (gad G k) :: rest)) := by
  obtain ⟨h1, h2⟩ := iN_idx hA hj hn
  refine f_lald hx hb hK hP k hk he h1 hdg ?_
  rw [h2]
  exact kk
theorem n_aldq (hx : p.tables.exec = Jvm.exec) (hb : c.code = cc) (hK : KK G s) (hP : PW G w H) {A : Int} (j : Nat) (hA : A = (j : Int)) (hj : j < 10) (hdg : decode cc pc = .ok (.aaload, 1)) (kk : W p l e R s m args below meth c H locs cells slots Q (F0 m (pc + 1) ls (.ref (gad G (19 + 4 * j)) :: rest))) : W p l e R s m args below meth c H locs cells slots Q (F0 m pc ls (.int (iN A) :: .ref (gad G 1) :: rest)) := f_aldq hx hb hK hP hj (by rw [hA, iN_nat]) hdg kk
theorem upd_aN (g : Nat → Int) (j : Nat) (v : Int) : upd (aN g) j (iN v) = aN (va_up g j v) := funext fun q => by
  unfold upd aN va_up
  split <;> rfl
theorem upd_aJ (g : Nat → Int) (j : Nat) (v : Int) : vp_updL (aJ g) j (jN v) = aJ (va_up g j v) := funext fun q => by
  unfold vp_updL aJ va_up
  split <;> rfl
theorem n_iast (hx : p.tables.exec = Jvm.exec) (hb : c.code = cc) (hK : KK G s) (hP : PW G w H) (hS : va_S A0 s.heap H locs) (hA0 : ∀ q, AA G q → A0 q) (k : Nat) (hk : k < 75) {n : Nat} {g : Nat → Int} (he : w k = .inl (gI G, n, .inl (aN g))) (hsh : ∀ g : Nat → Int32, (.inl (gI G, n, .inl g) : va_E) = shp G k (.inl (gI G, n, .inl g))) {A V : Int} (j : Nat) (hA : A = (j : Int)) (hj : j < n) (hn : n < 2147483648) (hdg : decode cc pc = .ok (.iastore, 1)) (kk : ∀ (H1 : Heap) (locs1 : List Loc), PW G (va_up w k (.inl (gI G, n, .inl (aN (va_up g j V))))) H1 → va_S A0 s.heap H1 locs1 → W p l e R s m args below meth c H1 locs1 cells slots Q (F0 m (pc + 1) ls rest)) : W p l e R s m args below meth c H locs cells slots Q (F0 m pc ls (.int (iN V) :: .int (iN A) :: .ref (gad G k) :: rest)) := by
  obtain ⟨h1, h2⟩ := iN_idx hA hj hn
  refine f_iast hx hb hK hP hS hA0 k hk he hsh h1 hdg fun H1 L1 z1 z2 => kk H1 L1 ?_ z2
  rw [h2, upd_aN] at z1
  exact z1
theorem n_zast (hx : p.tables.exec = Jvm.exec) (hb : c.code = cc) (hK : KK G s) (hP : PW G w H) (hS : va_S A0 s.heap H locs) (hA0 : ∀ q, AA G q → A0 q) (k : Nat) (hk : k < 75) {n : Nat} {g : Nat → Int} (he : w k = .inl (gZ G, n, .inl (aN g))) (hsh : ∀ g : Nat → Int32, (.inl (gZ G, n, .inl g) : va_E) = shp G k (.inl (gZ G, n, .inl g))) {A : Int} {P : Prop} [Decidable P] (j : Nat) (hA : A = (j : Int)) (hj : j < n) (hn : n < 2147483648) (hdg : decode cc pc = .ok (.bastore, 1)) (kk : ∀ (H1 : Heap) (locs1 : List Loc), PW G (va_up w k (.inl (gZ G, n, .inl (aN (va_up g j (if P then 1 else 0)))))) H1 → va_S A0 s.heap H1 locs1 → W p l e R s m args below meth c H1 locs1 cells slots Q (F0 m (pc + 1) ls rest)) : W p l e R s m args below meth c H locs cells slots Q (F0 m pc ls (.int (iN (if P then 1 else 0)) :: .int (iN A) :: .ref (gad G k) :: rest)) := by
  obtain ⟨h1, h2⟩ := iN_idx hA hj hn
  refine f_zast hx hb hK hP hS hA0 k hk he hsh (b01_nar P) h1 hdg fun H1 L1 z1 z2 => kk H1 L1 ?_ z2
  rw [h2, upd_aN] at z1
  exact z1
theorem n_last (hx : p.tables.exec = Jvm.exec) (hb : c.code = cc) (hK : KK G s) (hP : PW G w H) (hS : va_S A0 s.heap H locs) (hA0 : ∀ q, AA G q → A0 q) (k : Nat) (hk : k < 75) {n : Nat} {g : Nat → Int} (he : w k = .inl (gJ G, n, .inr (.inl (aJ g)))) (hsh : ∀ g : Nat → Int64, (.inl (gJ G, n, .inr (.inl g)) : va_E) = shp G k (.inl (gJ G, n, .inr (.inl g)))) {A V : Int} (j : Nat) (hA : A = (j : Int)) (hj : j < n) (hn : n < 2147483648) (hdg : decode cc pc = .ok (.lastore, 1)) (kk : ∀ (H1 : Heap) (locs1 : List Loc), PW G (va_up w k (.inl (gJ G, n, .inr (.inl (aJ (va_up g j V)))))) H1 → va_S A0 s.heap H1 locs1 → W p l e R s m args below meth c H1 locs1 cells slots Q (F0 m (pc + 1) ls rest)) : W p l e R s m args below meth c H locs cells slots Q (F0 m pc ls (.long (jN V) :: .int (iN A) :: .ref (gad G k) :: rest)) := by
  obtain ⟨h1, h2⟩ := iN_idx hA hj hn
  refine f_last hx hb hK hP hS hA0 k hk he hsh h1 hdg fun H1 L1 z1 z2 => kk H1 L1 ?_ z2
  rw [h2, upd_aJ] at z1
  exact z1
theorem n_mmax (hx : p.tables.exec = Jvm.exec) (hb : c.code = cc) (hml : c.maxLocals = ls.size) {own : String} {index : Nat} (hown : s.vm.findClass own = some m.cls) (hlink : (Cond.methodLink own index Lib.Math.max.name).before args s = true) (hstat : (Cond.static Lib.Math.max.name).before args s = true) (hini : (Cond.initialized "java/lang/Math").before args s = true) (hcode : (Cond.code Lib.Math.max.name Lib.Math.max.code 2 (some .int)).before args s = true) (hframes : 1 ≤ R.frames) (hlocals : (rest.map fun v => v.category).sum + 13 ≤ R.locals) (hc : cells ≤ R.cells) (hs : slots ≤ R.slots) {A B : Int} (a1 : -2147483648 ≤ A) (a2 : A < 2147483648) (b1 : -2147483648 ≤ B) (b2 : B < 2147483648) (hdg : decode cc pc = .ok (.invokestatic index, 3)) (kk : W p l e R s m args below meth c H locs cells slots Q (F0 m (pc + 3) ls (.int (iN (max A B)) :: rest))) : W p l e R s m args below meth c H locs cells slots Q (F0 m pc ls (.int (iN B) :: .int (iN A) :: rest)) := by
  refine va_mmax hx hb hml hown hlink hstat hini hcode hframes hlocals hc hs hdg ?_
  rw [show (if iN A < iN B then iN B else iN A) = iN (max A B) by rw [show (if iN A < iN B then iN B else iN A) = (if A < B then iN B else iN A) from by simp only [iN_lt a1 a2 b1 b2]]; by_cases q : A < B <;> simp only [q, if_true, if_false] <;> congr 1 <;> omega]
  exact kk
theorem n_mmin (hx : p.tables.exec = Jvm.exec) (hb : c.code = cc) (hml : c.maxLocals = ls.size) {own : String} {index : Nat} (hown : s.vm.findClass own = some m.cls) (hlink : (Cond.methodLink own index Lib.Math.min.name).before args s = true) (hstat : (Cond.static Lib.Math.min.name).before args s = true) (hini : (Cond.initialized "java/lang/Math").before args s = true) (hcode : (Cond.code Lib.Math.min.name Lib.Math.min.code 2 (some .int)).before args s = true) (hframes : 1 ≤ R.frames) (hlocals : (rest.map fun v => v.category).sum + 13 ≤ R.locals) (hc : cells ≤ R.cells) (hs : slots ≤ R.slots) {A B : Int} (a1 : -2147483648 ≤ A) (a2 : A < 2147483648) (b1 : -2147483648 ≤ B) (b2 : B < 2147483648) (hdg : decode cc pc = .ok (.invokestatic index, 3)) (kk : W p l e R s m args below meth c H locs cells slots Q (F0 m (pc + 3) ls (.int (iN (min A B)) :: rest))) : W p l e R s m args below meth c H locs cells slots Q (F0 m pc ls (.int (iN B) :: .int (iN A) :: rest)) := by
  refine va_mmin hx hb hml hown hlink hstat hini hcode hframes hlocals hc hs hdg ?_
  rw [show (if iN B < iN A then iN B else iN A) = iN (min A B) by rw [show (if iN B < iN A then iN B else iN A) = (if B < A then iN B else iN A) from by simp only [iN_lt b1 b2 a1 a2]]; by_cases q : B < A <;> simp only [q, if_true, if_false] <;> congr 1 <;> omega]
  exact kk
theorem n_mabs (hx : p.tables.exec = Jvm.exec) (hb : c.code = cc) (hml : c.maxLocals = ls.size) {own : String} {index : Nat} (hown : s.vm.findClass own = some m.cls) (hlink : (Cond.methodLink own index Lib.Math.abs.name).before args s = true) (hstat : (Cond.static Lib.Math.abs.name).before args s = true) (hini : (Cond.initialized "java/lang/Math").before args s = true) (hcode : (Cond.code Lib.Math.abs.name Lib.Math.abs.code 1 (some .int)).before args s = true) (hframes : 1 ≤ R.frames) (hlocals : (rest.map fun v => v.category).sum + 13 ≤ R.locals) (hc : cells ≤ R.cells) (hs : slots ≤ R.slots) {A : Int} (a1 : -2147483648 ≤ A) (a2 : A < 2147483648) (hdg : decode cc pc = .ok (.invokestatic index, 3)) (kk : W p l e R s m args below meth c H locs cells slots Q (F0 m (pc + 3) ls (.int (iN (A.natAbs : Int)) :: rest))) : W p l e R s m args below meth c H locs cells slots Q (F0 m pc ls (.int (iN A) :: rest)) := by
  refine va_mabs hx hb hml hown hlink hstat hini hcode hframes hlocals hc hs hdg ?_
  rw [show (if 0 ≤ iN A then iN A else 0 - iN A) = iN (A.natAbs : Int) from ?_]
  · exact kk
  · have h0 : (0 ≤ iN A) ↔ 0 ≤ A := iN_le (a := 0) (by omega) (by omega) a1 a2
    simp only [h0]
    by_cases q : 0 ≤ A
    · rw [if_pos q]
      congr 1
      omega
    · rw [if_neg q, iN_0, iN_sub]
      congr 1
      omega
/-- ends: a method that only reads; a method that changes the world -/
theorem r_si {post : Int32 → Prop} {free : Addr → Prop} {A : Int} (hx : p.tables.exec = Jvm.exec) (hb : c.code = cc) (hr : meth.sig.returnType = some .int) (hdg : decode cc pc = .ok (.ireturn, 1)) (hlocks : meth.locks = false) (hp : post (iN A)) : W p l e R s m args below meth c s.heap [] cells slots (MQ below (vp_Si post) args s cells slots free) (F0 m pc ls [.int (iN A)]) := W.iret hx hb hr (fun _ ht _ => ⟨_, rfl, hp, ht⟩) (fun _ h => absurd h List.not_mem_nil) hdg hlocks
theorem r_sz {post : Int32 → Prop} {free : Addr → Prop} {P : Prop} [Decidable P] (hx : p.tables.exec = Jvm.exec) (hb : c.code = cc) (hr : meth.sig.returnType = some .boolean) (hdg : decode cc pc = .ok (.ireturn, 1)) (hlocks : meth.locks = false) (hp : post (iN (if P then 1 else 0))) : W p l e R s m args below meth c s.heap [] cells slots (MQ below (vp_Si post) args s cells slots free) (F0 m pc ls [.int (iN (if P then 1 else 0))]) := W.zret hx hb hr (b01_narrow P) (fun _ ht _ => ⟨_, rfl, hp, ht⟩) (fun _ h => absurd h List.not_mem_nil) hdg hlocks
theorem r_z1 {post : Int32 → Prop} {free : Addr → Prop} (hx : p.tables.exec = Jvm.exec) (hb : c.code = cc) (hr : meth.sig.returnType = some .boolean) (hdg : decode cc pc = .ok (.ireturn, 1)) (hlocks : meth.locks = false) (hp : post (iN 1)) : W p l e R s m args below meth c s.heap [] cells slots (MQ below (vp_Si post) args s cells slots free) (F0 m pc ls [.int (iN 1)]) := W.zret hx hb hr rfl (fun _ ht _ => ⟨_, rfl, hp, ht⟩) (fun _ h => absurd h List.not_mem_nil) hdg hlocks
theorem r_z0 {post : Int32 → Prop} {free : Addr → Prop} (hx : p.tables.exec = Jvm.exec) (hb : c.code = cc) (hr : meth.sig.returnType = some .boolean) (hdg : decode cc pc = .ok (.ireturn, 1)) (hlocks : meth.locks = false) (hp : post (iN 0)) : W p l e R s m args below meth c s.heap [] cells slots (MQ below (vp_Si post) args s cells slots free) (F0 m pc ls [.int (iN 0)]) := W.zret hx hb hr rfl (fun _ ht _ => ⟨_, rfl, hp, ht⟩) (fun _ h => absurd h List.not_mem_nil) hdg hlocks
theorem r_sl {post : Int64 → Prop} {free : Addr → Prop} {A : Int} (hx : p.tables.exec = Jvm.exec) (hb : c.code = cc) (hr : meth.sig.returnType = some .long) (hdg : decode cc pc = .ok (.lreturn, 1)) (hlocks : meth.locks = false) (hp : post (jN A)) : W p l e R s m args below meth c s.heap [] cells slots (MQ below (vp_Sl post) args s cells slots free) (F0 m pc ls [.long (jN A)]) := W.lret hx hb hr (fun _ ht _ => ⟨_, rfl, hp, ht⟩) (fun _ h => absurd h List.not_mem_nil) hdg hlocks
theorem r_v {post : WF → Prop} (hx : p.tables.exec = Jvm.exec) (hb : c.code = cc) (hr : meth.sig.returnType = none) (hdg : decode cc pc = .ok (.return_, 1)) (hlocks : meth.locks = false) (hP : PW G w H) (hS : va_S (AA G) s.heap H locs) (hp : post w) : W p l e R s m args below meth c H locs cells slots (MQ below (QV G post) args s cells slots (AA G)) (F0 m pc ls []) := W.vret hx hb hr (fun t ht _ => ⟨⟨rfl, w, hp, by rw [ht]; exact hP⟩, hS.F ht⟩) hS.2.2 hdg hlocks
theorem r_i {post : Int32 → WF → Prop} {A : Int} (hx : p.tables.exec = Jvm.exec) (hb : c.code = cc) (hr : meth.sig.returnType = some .int) (hdg : decode cc pc = .ok (.ireturn, 1)) (hlocks : meth.locks = false) (hP : PW G w H) (hS : va_S (AA G) s.heap H locs) (hp : post (iN A) w) : W p l e R s m args below meth c H locs cells slots (MQ below (QI G post) args s cells slots (AA G)) (F0 m pc ls [.int (iN A)]) := W.iret hx hb hr (fun t ht _ => ⟨⟨_, w, rfl, hp, by rw [ht]; exact hP⟩, hS.F ht⟩) hS.2.2 hdg hlocks
end FN
