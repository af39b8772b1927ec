theorem shp_kk {G : GE} {kk : Nat} (h : kk = 16 ∨ kk = 17) (g : Nat → Int64) : (.inl (gJ G, 10, .inr (.inl g)) : va_E) = shp G kk (.inl (gJ G, 10, .inr (.inl g))) := by
  rcases h with rfl | rfl <;> rfl
section FT
variable {p : Program} {l : Launch} {e : Env} {R : Room} {s : State} {m : MethodId} {args : Array Value} {below : List Frame} {meth : Method} {c : Code} {H : Heap} {locs : List Loc} {cells slots : Nat} {Q : State → Prop}
variable {pc : Nat} {ls : Array Slot} {rest : List Value} {cc : ByteArray}
theorem n_tabIn (hx : p.tables.exec = Jvm.exec) (hb : c.code = cc) {A v : Int} (hA : A = v) (a1 : -2147483648 ≤ v) (a2 : v < 2147483648) {dflt lo hi : Int} {offs : Array Int} {len : Nat} {off : Int} {tgt : Nat} (hdg : decode cc pc = .ok (.tableswitch dflt lo hi offs, len)) (h1 : ¬ v < lo) (h2 : ¬ hi < v) (ho : offs[(v - lo).toNat]? = some off) (ht : (pc : Int) + off = (tgt : Int)) (k : W p l e R s m args below meth c H locs cells slots Q (F0 m tgt ls rest)) : W p l e R s m args below meth c H locs cells slots Q (F0 m pc ls (.int (iN A) :: rest)) := by
  have e1 : (iN A).toInt = v := by rw [hA, iN_ti a1 a2]
  exact lv_tableIn hx hb hdg (by rw [e1]; exact h1) (by rw [e1]; exact h2) (by rw [e1]; exact ho) ht k
theorem n_tabOut (hx : p.tables.exec = Jvm.exec) (hb : c.code = cc) {A : Int} (a1 : -2147483648 ≤ A) (a2 : A < 2147483648) {dflt lo hi : Int} {offs : Array Int} {len : Nat} {tgt : Nat} (hdg : decode cc pc = .ok (.tableswitch dflt lo hi offs, len)) (h : A < lo ∨ hi < A) (ht : (pc : Int) + dflt = (tgt : Int)) (k : W p l e R s m args below meth c H locs cells slots Q (F0 m tgt ls rest)) : W p l e R s m args below meth c H locs cells slots Q (F0 m pc ls (.int (iN A) :: rest)) :=
  lv_tableOut hx hb hdg (by rw [iN_ti a1 a2]; exact h) ht k
end FT
/-- insertion: where (from n down), what is shifted, the row behind it -/
def spotP (p : Nat → Bool) : Nat → Nat
  | 0 => 0
  | k + 1 => if p k then spotP p k else k + 1
theorem spot_le (p : Nat → Bool) : ∀ n, spotP p n ≤ n
  | 0 => Nat.le_refl 0
  | k + 1 => by
    have := spot_le p k
    unfold spotP
    split <;> omega
theorem spot_step {p : Nat → Bool} {q : Nat} (h0 : 0 < q) (h : p (q - 1) = true) : spotP p q = spotP p (q - 1) := by
  obtain ⟨k, rfl⟩ : ∃ k, q = k + 1 := ⟨q - 1, by omega⟩
  exact if_pos h
theorem spot_end {p : Nat → Bool} {q : Nat} (h : q = 0 ∨ p (q - 1) = false) : spotP p q = q := by
  rcases h with rfl | h
  · rfl
  · rcases Nat.eq_zero_or_pos q with z | z
    · subst z
      rfl
    · obtain ⟨k, rfl⟩ : ∃ k, q = k + 1 := ⟨q - 1, by omega⟩
      exact if_neg (by rw [show p k = false from h]; decide)
def shF {α : Type} (a : Nat → α) (q n : Nat) : Nat → α := fun k => if q < k ∧ k ≤ n then a (k - 1) else a k
def insF {α : Type} (a : Nat → α) (j n : Nat) (x : α) : Nat → α := fun k => if k < j then a k else if k = j then x else if k ≤ n then a (k - 1) else a k
theorem shF_0 {α : Type} (a : Nat → α) (n : Nat) : shF a n n = a := funext fun k => if_neg (by omega)
theorem shF_lo {α : Type} {a : Nat → α} {q n k : Nat} (h : k ≤ q) : shF a q n k = a k := if_neg (by omega)
theorem shF_step {α : Type} {a : Nat → α} {q n : Nat} (h0 : 0 < q) (h : q ≤ n) : va_up (shF a q n) q (shF a q n (q - 1)) = shF a (q - 1) n := funext fun k => by
  unfold va_up
  rw [shF_lo (by omega)]
  unfold shF
  by_cases h1 : k = q
  · subst h1
    rw [if_pos rfl, if_pos (by omega)]
  · rw [if_neg h1]
    by_cases h2 : q < k ∧ k ≤ n
    · rw [if_pos h2, if_pos (by omega)]
    · rw [if_neg h2, if_neg (by omega)]
theorem shF_end {α : Type} {a : Nat → α} {q n : Nat} {x : α} (h : q ≤ n) : va_up (shF a q n) q x = insF a q n x := funext fun k => by
  unfold va_up shF insF
  by_cases h1 : k = q
  · subst h1
    rw [if_pos rfl, if_neg (by omega), if_pos rfl]
  · rw [if_neg h1]
    by_cases h2 : k < q
    · rw [if_pos h2, if_neg (by omega)]
    · rw [if_neg h2, if_neg h1]
      by_cases h3 : k ≤ n
      · rw [if_pos (by omega), if_pos h3]
      · rw [if_neg (by omega), if_neg h3]
/-- one fraction ahead of another -/
def ltF (x y : Int) : Prop := x / 256 * (y % 256) < y / 256 * (x % 256)

set_option maxHeartbeats 4000000 in
set_option maxRecDepth 100000 in
theorem c_X3_clear (l : Launch) (G : GE) (w : WF) (sz : Nat) (nums : Nat → Int) (upps : Nat → Int) (e0 : w 2 = .inr (2, [.ref (gad G 3), .ref (gad G 4), .int (iN ((sz : Nat) : Int))])) (e1 : w 3 = .inl (gI G, 10, .inl (aN nums))) (e2 : w 4 = .inl (gI G, 10, .inl (aN upps))) : Met l yX3_clear wsX3_clear ({ frames := 0, cells := 0, slots := 0, locals := 0 }) (PcG G w [.ref (gad G 2)]) (QV G (fun w1 => (∀ k : Nat, k ≠ 2 → w1 k = w k) ∧ w1 2 = .inr (2, [.ref (gad G 3), .ref (gad G 4), .int (iN 0)]))) 0 0 (AA G) := by
  refine Met.ofW (cc := cX3_clear) (maxL := 1) (ret := none) (by decide) rfl ?_
  intro p e s m args below meth c s₁ B hml hv
  obtain ⟨rfl, hP, hK⟩ := hv
  have hx := B.exec
  have hb := B.bytes
  have hr := B.returns
  have hts := atoms_spec (ws := wsX3_clear) B.pre
  have hown : s.vm.findClass RX3 = some m.cls := findClass_of_methodNamed B.named
  have hlocks := B.notSynchronized
  have hS : va_S (AA G) s.heap s.heap [] := va_S.rf
  have hAA : ∀ q, AA G q → AA G q := fun _ h => h
  have hl := lv_entry ([.ref (gad G 2)]) (n := 1) (Nat.le_of_ble_eq_true rfl)
  rw [lg_entry_eq]
  generalize (lg_sl ([.ref (gad G 2)]) ++ List.replicate (1 - (lg_sl ([.ref (gad G 2)])).length) Slot.unset).toArray = ls at hl ⊢
  have hl : lv_has ls 1 [(0, .ref (gad G 2))] := hl
  refine lv_aload_n hx hb dX3_clear_0 rfl (lv_at hl 0 rfl) ?_
  refine n_iconst hx hb dX3_clear_1 ?_
  refine f_put (v := .int (iN 0)) (ty := .int) (C := RX3) (T := TX3) (N := 3) hx hb hts (by decide +kernel) tyX3 tyX3_ok nmX3 hown hK hP hS hAA 2 (by omega) e0 rfl 2 (by decide) (hts (.fieldLink RX3 18 "KeptMoving$Line" "size" "I") (by decide +kernel)) (fun _ h9 => h9) rfl (by decide +kernel) (rfl) (rfl) (Nat.le_of_ble_eq_true rfl) (rfl) dX3_clear_2 (fun H locs hP hS => ?_)
  have hP : PW G (va_up w 2 (.inr (2, [.ref (gad G 3), .ref (gad G 4), .int (iN 0)]))) H := hP
  obtain ⟨w_1, hw_2⟩ : ∃ z : WF, z = va_up w 2 (.inr (2, [.ref (gad G 3), .ref (gad G 4), .int (iN 0)])) := ⟨_, rfl⟩
  rw [← hw_2] at hP
  have fr_3 : ∀ k : Nat, k ≠ 2 → w_1 k = w k := fun k h => by rw [hw_2]; exact va_up_ne _ _ h
  have e_4 : w_1 2 = .inr (2, [.ref (gad G 3), .ref (gad G 4), .int (iN 0)]) := by rw [hw_2]; exact va_up_self _ _ _
  have e_5 : w_1 3 = .inl (gI G, 10, .inl (aN nums)) := (fr_3 3 (by omega)).trans e1
  have e_6 : w_1 4 = .inl (gI G, 10, .inl (aN upps)) := (fr_3 4 (by omega)).trans e2
  exact r_v hx hb hr dX3_clear_5 hlocks hP hS (⟨(fun k h0 => fr_3 k (by omega)), e_4⟩)

set_option maxHeartbeats 4000000 in
set_option maxRecDepth 100000 in
theorem c_X3_insert (l : Launch) (G : GE) (w : WF) (sz : Nat) (nums : Nat → Int) (upps : Nat → Int) (num : Int) (x : Int) (e0 : w 2 = .inr (2, [.ref (gad G 3), .ref (gad G 4), .int (iN ((sz : Nat) : Int))])) (e1 : w 3 = .inl (gI G, 10, .inl (aN nums))) (e2 : w 4 = .inl (gI G, 10, .inl (aN upps))) (p0 : sz < 10) (p1 : ∀ k : Nat, k < sz → -100000000 ≤ upps k ∧ upps k ≤ 100000000) (p2 : -100000000 ≤ x ∧ x ≤ 100000000) : Met l yX3_insert wsX3_insert ({ frames := 0, cells := 0, slots := 0, locals := 0 }) (PcG G w [.ref (gad G 2), .int (iN num), .int (iN x)]) (QV G (fun w1 => (∀ k : Nat, k ≠ 2 → k ≠ 3 → k ≠ 4 → w1 k = w k) ∧ w1 2 = .inr (2, [.ref (gad G 3), .ref (gad G 4), .int (iN ((sz + 1 : Nat) : Int))]) ∧ w1 3 = .inl (gI G, 10, .inl (aN (insF nums (spotP (fun k => decide (x < upps k)) sz) sz num))) ∧ w1 4 = .inl (gI G, 10, .inl (aN (insF upps (spotP (fun k => decide (x < upps k)) sz) sz x))))) 0 0 (AA G) := by
  refine Met.ofW (cc := cX3_insert) (maxL := 4) (ret := none) (by decide) rfl ?_
  intro p e s m args below meth c s₁ B hml hv
  obtain ⟨rfl, hP, hK⟩ := hv
  have hx := B.exec
  have hb := B.bytes
  have hr := B.returns
  have hts := atoms_spec (ws := wsX3_insert) B.pre
  have hown : s.vm.findClass RX3 = some m.cls := findClass_of_methodNamed B.named
  have hlocks := B.notSynchronized
  have hS : va_S (AA G) s.heap s.heap [] := va_S.rf
  have hAA : ∀ q, AA G q → AA G q := fun _ h => h
  have hl := lv_entry ([.ref (gad G 2), .int (iN num), .int (iN x)]) (n := 4) (Nat.le_of_ble_eq_true rfl)
  rw [lg_entry_eq]
  generalize (lg_sl ([.ref (gad G 2), .int (iN num), .int (iN x)]) ++ List.replicate (4 - (lg_sl ([.ref (gad G 2), .int (iN num), .int (iN x)])).length) Slot.unset).toArray = ls at hl ⊢
  have hl : lv_has ls 4 [(0, .ref (gad G 2)), (1, .int (iN num)), (2, .int (iN x))] := hl
  refine lv_aload_n hx hb dX3_insert_0 rfl (lv_at hl 0 rfl) ?_
  refine f_get (C := RX3) (T := TX3) (N := 3) hx hb hts (by decide +kernel) hown hK hP 2 (by omega) e0 rfl 2 (by decide) (hts (.fieldLink RX3 18 "KeptMoving$Line" "size" "I") (by decide +kernel)) (fun _ h9 => h9) rfl dX3_insert_1 ?_
  refine n_bipush hx hb dX3_insert_4 (by decide) ?_
  refine n_icmp_lt (tgt := 10) hx hb dX3_insert_6 (by decide) (by omega) (by omega) (by omega) (by omega) (fun c_6 => ?_) (fun c_6 => ?_)
  · refine lv_aload_n hx hb dX3_insert_10 rfl (lv_at hl 0 rfl) ?_
    refine f_get (C := RX3) (T := TX3) (N := 3) hx hb hts (by decide +kernel) hown hK hP 2 (by omega) e0 rfl 2 (by decide) (hts (.fieldLink RX3 18 "KeptMoving$Line" "size" "I") (by decide +kernel)) (fun _ h9 => h9) rfl dX3_insert_11 ?_
    refine lv_istore_n (lv' := [(3, .int (iN ((sz : Nat) : Int))), (0, .ref (gad G 2)), (1, .int (iN num)), (2, .int (iN x))]) hx hb dX3_insert_14 rfl hl (by decide) rfl (fun ls hl => ?_)
    have K15 : ∀ (N : Nat) (q : Nat) (w2 : WF) (H : Heap) (locs : List Loc) (ls : Array Slot), (q ≤ sz) → (spotP (fun k => decide (x < upps k)) q = spotP (fun k => decide (x < upps k)) sz) → q < N → w2 3 = .inl (gI G, 10, .inl (aN (shF nums q sz))) → w2 4 = .inl (gI G, 10, .inl (aN (shF upps q sz))) → (∀ k : Nat, k ≠ 3 → k ≠ 4 → w2 k = w k) → PW G w2 H → va_S (AA G) s.heap H locs → lv_has ls 4 [(0, .ref (gad G 2)), (1, .int (iN num)), (2, .int (iN x)), (3, .int (iN ((q : Nat) : Int)))] → W p l e (headSpec wsX3_insert ({ frames := 0, cells := 0, slots := 0, locals := 0 })).room s m (([.ref (gad G 2), .int (iN num), .int (iN x)] : List Value).toArray) below meth c H locs 0 0 (MQ below (QV G (fun w1 => (∀ k : Nat, k ≠ 2 → k ≠ 3 → k ≠ 4 → w1 k = w k) ∧ w1 2 = .inr (2, [.ref (gad G 3), .ref (gad G 4), .int (iN ((sz + 1 : Nat) : Int))]) ∧ w1 3 = .inl (gI G, 10, .inl (aN (insF nums (spotP (fun k => decide (x < upps k)) sz) sz num))) ∧ w1 4 = .inl (gI G, 10, .inl (aN (insF upps (spotP (fun k => decide (x < upps k)) sz) sz x))))) (([.ref (gad G 2), .int (iN num), .int (iN x)] : List Value).toArray) s 0 0 (AA G)) (F0 m 15 ls []) := by
      intro N
      induction N with
      | zero =>
        intros
        exfalso
        omega
      | succ N ih15 =>
        intro q w2 H locs ls i15_0 i15_1 hN15 f15_0 f15_1 hfr15 hP hS hl
        have e_1 : w2 2 = .inr (2, [.ref (gad G 3), .ref (gad G 4), .int (iN ((sz : Nat) : Int))]) := by rw [hfr15 2 (by omega) (by omega)]; exact e0
        refine lv_iload_n hx hb dX3_insert_15 rfl (lv_at hl 3 rfl) ?_
        refine n_if_le (tgt := 65) hx hb dX3_insert_16 (by decide) (by omega) (by omega) (fun c_16 => ?_) (fun c_16 => ?_)
        · have hj : spotP (fun k => decide (x < upps k)) sz = q := by rw [← i15_1]; exact spot_end (by omega)
          refine lv_aload_n hx hb dX3_insert_65 rfl (lv_at hl 0 rfl) ?_
          refine f_get (C := RX3) (T := TX3) (N := 3) hx hb hts (by decide +kernel) hown hK hP 2 (by omega) e_1 rfl 0 (by decide) (hts (.fieldLink RX3 9 "KeptMoving$Line" "numbers" "[I") (by decide +kernel)) (fun _ h9 => h9) rfl dX3_insert_66 ?_
          refine lv_iload_n hx hb dX3_insert_69 rfl (lv_at hl 3 rfl) ?_
          refine lv_iload_n hx hb dX3_insert_70 rfl (lv_at hl 1 rfl) ?_
          refine n_iast hx hb hK hP hS hAA 3 (by omega) f15_0 (fun _ => rfl) q rfl (by omega) (by decide) dX3_insert_71 (fun H locs hP hS => ?_)
          obtain ⟨w_2, hw_3⟩ : ∃ z : WF, z = va_up w2 3 (.inl (gI G, 10, .inl (aN (va_up (shF nums q sz) q num)))) := ⟨_, rfl⟩
          rw [← hw_3] at hP
          have fr_4 : ∀ k : Nat, k ≠ 3 → w_2 k = w2 k := fun k h => by rw [hw_3]; exact va_up_ne _ _ h
          have e_5 : w_2 3 = .inl (gI G, 10, .inl (aN (va_up (shF nums q sz) q num))) := by rw [hw_3]; exact va_up_self _ _ _
          have e_6 : w_2 4 = .inl (gI G, 10, .inl (aN (shF upps q sz))) := (fr_4 4 (by omega)).trans f15_1
          have e_7 : w_2 2 = .inr (2, [.ref (gad G 3), .ref (gad G 4), .int (iN ((sz : Nat) : Int))]) := (fr_4 2 (by omega)).trans e_1
          refine lv_aload_n hx hb dX3_insert_72 rfl (lv_at hl 0 rfl) ?_
          refine f_get (C := RX3) (T := TX3) (N := 3) hx hb hts (by decide +kernel) hown hK hP 2 (by omega) e_7 rfl 1 (by decide) (hts (.fieldLink RX3 15 "KeptMoving$Line" "uppers" "[I") (by decide +kernel)) (fun _ h9 => h9) rfl dX3_insert_73 ?_
          refine lv_iload_n hx hb dX3_insert_76 rfl (lv_at hl 3 rfl) ?_
          refine lv_iload_n hx hb dX3_insert_77 rfl (lv_at hl 2 rfl) ?_
          refine n_iast hx hb hK hP hS hAA 4 (by omega) e_6 (fun _ => rfl) q rfl (by omega) (by decide) dX3_insert_78 (fun H locs hP hS => ?_)
          obtain ⟨w_8, hw_9⟩ : ∃ z : WF, z = va_up w_2 4 (.inl (gI G, 10, .inl (aN (va_up (shF upps q sz) q x)))) := ⟨_, rfl⟩
          rw [← hw_9] at hP
          have fr_10 : ∀ k : Nat, k ≠ 4 → w_8 k = w_2 k := fun k h => by rw [hw_9]; exact va_up_ne _ _ h
          have e_11 : w_8 3 = .inl (gI G, 10, .inl (aN (va_up (shF nums q sz) q num))) := (fr_10 3 (by omega)).trans e_5
          have e_12 : w_8 4 = .inl (gI G, 10, .inl (aN (va_up (shF upps q sz) q x))) := by rw [hw_9]; exact va_up_self _ _ _
          have e_13 : w_8 2 = .inr (2, [.ref (gad G 3), .ref (gad G 4), .int (iN ((sz : Nat) : Int))]) := (fr_10 2 (by omega)).trans e_7
          refine lv_aload_n hx hb dX3_insert_79 rfl (lv_at hl 0 rfl) ?_
          refine lv_dup hx hb dX3_insert_80 rfl ?_
          refine f_get (C := RX3) (T := TX3) (N := 3) hx hb hts (by decide +kernel) hown hK hP 2 (by omega) e_13 rfl 2 (by decide) (hts (.fieldLink RX3 18 "KeptMoving$Line" "size" "I") (by decide +kernel)) (fun _ h9 => h9) rfl dX3_insert_81 ?_
          refine n_iconst hx hb dX3_insert_84 ?_
          refine n_iadd hx hb dX3_insert_85 ?_
          rw [show ((sz : Nat) : Int) + 1 = ((sz + 1 : Nat) : Int) by omega]
          refine f_put (v := .int (iN ((sz + 1 : Nat) : Int))) (ty := .int) (C := RX3) (T := TX3) (N := 3) hx hb hts (by decide +kernel) tyX3 tyX3_ok nmX3 hown hK hP hS hAA 2 (by omega) e_13 rfl 2 (by decide) (hts (.fieldLink RX3 18 "KeptMoving$Line" "size" "I") (by decide +kernel)) (fun _ h9 => h9) rfl (by decide +kernel) (rfl) (rfl) (Nat.le_of_ble_eq_true rfl) (rfl) dX3_insert_86 (fun H locs hP hS => ?_)
          have hP : PW G (va_up w_8 2 (.inr (2, [.ref (gad G 3), .ref (gad G 4), .int (iN ((sz + 1 : Nat) : Int))]))) H := hP
          obtain ⟨w_14, hw_15⟩ : ∃ z : WF, z = va_up w_8 2 (.inr (2, [.ref (gad G 3), .ref (gad G 4), .int (iN ((sz + 1 : Nat) : Int))])) := ⟨_, rfl⟩
          rw [← hw_15] at hP
          have fr_16 : ∀ k : Nat, k ≠ 2 → w_14 k = w_8 k := fun k h => by rw [hw_15]; exact va_up_ne _ _ h
          have e_17 : w_14 3 = .inl (gI G, 10, .inl (aN (va_up (shF nums q sz) q num))) := (fr_16 3 (by omega)).trans e_11
          have e_18 : w_14 4 = .inl (gI G, 10, .inl (aN (va_up (shF upps q sz) q x))) := (fr_16 4 (by omega)).trans e_12
          have e_19 : w_14 2 = .inr (2, [.ref (gad G 3), .ref (gad G 4), .int (iN ((sz + 1 : Nat) : Int))]) := by rw [hw_15]; exact va_up_self _ _ _
          exact r_v hx hb hr dX3_insert_89 hlocks hP hS (⟨(fun k h0 h1 h2 => ((((((fr_16 k (by omega)).trans (fr_10 k (by omega)))).trans (fr_4 k (by omega)))).trans (hfr15 k (by omega) (by omega)))), (e_19), (by rw [hj]; exact e_17.trans (by rw [shF_end (by omega)])), (by rw [hj]; exact e_18.trans (by rw [shF_end (by omega)]))⟩)
        · have hu := p1 (q - 1) (by omega)
          have hsl : shF upps q sz (q - 1) = upps (q - 1) := shF_lo (by omega)
          refine lv_aload_n hx hb dX3_insert_19 rfl (lv_at hl 0 rfl) ?_
          refine f_get (C := RX3) (T := TX3) (N := 3) hx hb hts (by decide +kernel) hown hK hP 2 (by omega) e_1 rfl 1 (by decide) (hts (.fieldLink RX3 15 "KeptMoving$Line" "uppers" "[I") (by decide +kernel)) (fun _ h9 => h9) rfl dX3_insert_20 ?_
          refine lv_iload_n hx hb dX3_insert_23 rfl (lv_at hl 3 rfl) ?_
          refine n_iconst hx hb dX3_insert_24 ?_
          refine n_isub hx hb dX3_insert_25 ?_
          rw [show ((q : Nat) : Int) - 1 = ((q - 1 : Nat) : Int) by omega]
          refine n_iald hx hb hK hP 4 (by omega) f15_1 (q - 1) rfl (by omega) (by decide) dX3_insert_26 ?_
          refine lv_iload_n hx hb dX3_insert_27 rfl (lv_at hl 2 rfl) ?_
          refine n_icmp_le (tgt := 65) hx hb dX3_insert_28 (by decide) (by omega) (by omega) (by omega) (by omega) (fun c_28 => ?_) (fun c_28 => ?_)
          · have hj : spotP (fun k => decide (x < upps k)) sz = q := by rw [← i15_1]; exact spot_end (Or.inr (decide_eq_false (by omega)))
            refine lv_aload_n hx hb dX3_insert_65 rfl (lv_at hl 0 rfl) ?_
            refine f_get (C := RX3) (T := TX3) (N := 3) hx hb hts (by decide +kernel) hown hK hP 2 (by omega) e_1 rfl 0 (by decide) (hts (.fieldLink RX3 9 "KeptMoving$Line" "numbers" "[I") (by decide +kernel)) (fun _ h9 => h9) rfl dX3_insert_66 ?_
            refine lv_iload_n hx hb dX3_insert_69 rfl (lv_at hl 3 rfl) ?_
            refine lv_iload_n hx hb dX3_insert_70 rfl (lv_at hl 1 rfl) ?_
            refine n_iast hx hb hK hP hS hAA 3 (by omega) f15_0 (fun _ => rfl) q rfl (by omega) (by decide) dX3_insert_71 (fun H locs hP hS => ?_)
            obtain ⟨w_20, hw_21⟩ : ∃ z : WF, z = va_up w2 3 (.inl (gI G, 10, .inl (aN (va_up (shF nums q sz) q num)))) := ⟨_, rfl⟩
            rw [← hw_21] at hP
            have fr_22 : ∀ k : Nat, k ≠ 3 → w_20 k = w2 k := fun k h => by rw [hw_21]; exact va_up_ne _ _ h
            have e_23 : w_20 3 = .inl (gI G, 10, .inl (aN (va_up (shF nums q sz) q num))) := by rw [hw_21]; exact va_up_self _ _ _
            have e_24 : w_20 4 = .inl (gI G, 10, .inl (aN (shF upps q sz))) := (fr_22 4 (by omega)).trans f15_1
            have e_25 : w_20 2 = .inr (2, [.ref (gad G 3), .ref (gad G 4), .int (iN ((sz : Nat) : Int))]) := (fr_22 2 (by omega)).trans e_1
            refine lv_aload_n hx hb dX3_insert_72 rfl (lv_at hl 0 rfl) ?_
            refine f_get (C := RX3) (T := TX3) (N := 3) hx hb hts (by decide +kernel) hown hK hP 2 (by omega) e_25 rfl 1 (by decide) (hts (.fieldLink RX3 15 "KeptMoving$Line" "uppers" "[I") (by decide +kernel)) (fun _ h9 => h9) rfl dX3_insert_73 ?_
            refine lv_iload_n hx hb dX3_insert_76 rfl (lv_at hl 3 rfl) ?_
            refine lv_iload_n hx hb dX3_insert_77 rfl (lv_at hl 2 rfl) ?_
            refine n_iast hx hb hK hP hS hAA 4 (by omega) e_24 (fun _ => rfl) q rfl (by omega) (by decide) dX3_insert_78 (fun H locs hP hS => ?_)
            obtain ⟨w_26, hw_27⟩ : ∃ z : WF, z = va_up w_20 4 (.inl (gI G, 10, .inl (aN (va_up (shF upps q sz) q x)))) := ⟨_, rfl⟩
            rw [← hw_27] at hP
            have fr_28 : ∀ k : Nat, k ≠ 4 → w_26 k = w_20 k := fun k h => by rw [hw_27]; exact va_up_ne _ _ h
            have e_29 : w_26 3 = .inl (gI G, 10, .inl (aN (va_up (shF nums q sz) q num))) := (fr_28 3 (by omega)).trans e_23
            have e_30 : w_26 4 = .inl (gI G, 10, .inl (aN (va_up (shF upps q sz) q x))) := by rw [hw_27]; exact va_up_self _ _ _
            have e_31 : w_26 2 = .inr (2, [.ref (gad G 3), .ref (gad G 4), .int (iN ((sz : Nat) : Int))]) := (fr_28 2 (by omega)).trans e_25
            refine lv_aload_n hx hb dX3_insert_79 rfl (lv_at hl 0 rfl) ?_
            refine lv_dup hx hb dX3_insert_80 rfl ?_
            refine f_get (C := RX3) (T := TX3) (N := 3) hx hb hts (by decide +kernel) hown hK hP 2 (by omega) e_31 rfl 2 (by decide) (hts (.fieldLink RX3 18 "KeptMoving$Line" "size" "I") (by decide +kernel)) (fun _ h9 => h9) rfl dX3_insert_81 ?_
            refine n_iconst hx hb dX3_insert_84 ?_
            refine n_iadd hx hb dX3_insert_85 ?_
            rw [show ((sz : Nat) : Int) + 1 = ((sz + 1 : Nat) : Int) by omega]
            refine f_put (v := .int (iN ((sz + 1 : Nat) : Int))) (ty := .int) (C := RX3) (T := TX3) (N := 3) hx hb hts (by decide +kernel) tyX3 tyX3_ok nmX3 hown hK hP hS hAA 2 (by omega) e_31 rfl 2 (by decide) (hts (.fieldLink RX3 18 "KeptMoving$Line" "size" "I") (by decide +kernel)) (fun _ h9 => h9) rfl (by decide +kernel) (rfl) (rfl) (Nat.le_of_ble_eq_true rfl) (rfl) dX3_insert_86 (fun H locs hP hS => ?_)
            have hP : PW G (va_up w_26 2 (.inr (2, [.ref (gad G 3), .ref (gad G 4), .int (iN ((sz + 1 : Nat) : Int))]))) H := hP
            obtain ⟨w_32, hw_33⟩ : ∃ z : WF, z = va_up w_26 2 (.inr (2, [.ref (gad G 3), .ref (gad G 4), .int (iN ((sz + 1 : Nat) : Int))])) := ⟨_, rfl⟩
            rw [← hw_33] at hP
            have fr_34 : ∀ k : Nat, k ≠ 2 → w_32 k = w_26 k := fun k h => by rw [hw_33]; exact va_up_ne _ _ h
            have e_35 : w_32 3 = .inl (gI G, 10, .inl (aN (va_up (shF nums q sz) q num))) := (fr_34 3 (by omega)).trans e_29
            have e_36 : w_32 4 = .inl (gI G, 10, .inl (aN (va_up (shF upps q sz) q x))) := (fr_34 4 (by omega)).trans e_30
            have e_37 : w_32 2 = .inr (2, [.ref (gad G 3), .ref (gad G 4), .int (iN ((sz + 1 : Nat) : Int))]) := by rw [hw_33]; exact va_up_self _ _ _
            exact r_v hx hb hr dX3_insert_89 hlocks hP hS (⟨(fun k h0 h1 h2 => ((((((fr_34 k (by omega)).trans (fr_28 k (by omega)))).trans (fr_22 k (by omega)))).trans (hfr15 k (by omega) (by omega)))), (e_37), (by rw [hj]; exact e_35.trans (by rw [shF_end (by omega)])), (by rw [hj]; exact e_36.trans (by rw [shF_end (by omega)]))⟩)
          · refine lv_aload_n hx hb dX3_insert_31 rfl (lv_at hl 0 rfl) ?_
            refine f_get (C := RX3) (T := TX3) (N := 3) hx hb hts (by decide +kernel) hown hK hP 2 (by omega) e_1 rfl 0 (by decide) (hts (.fieldLink RX3 9 "KeptMoving$Line" "numbers" "[I") (by decide +kernel)) (fun _ h9 => h9) rfl dX3_insert_32 ?_
            refine lv_iload_n hx hb dX3_insert_35 rfl (lv_at hl 3 rfl) ?_
            refine lv_aload_n hx hb dX3_insert_36 rfl (lv_at hl 0 rfl) ?_
            refine f_get (C := RX3) (T := TX3) (N := 3) hx hb hts (by decide +kernel) hown hK hP 2 (by omega) e_1 rfl 0 (by decide) (hts (.fieldLink RX3 9 "KeptMoving$Line" "numbers" "[I") (by decide +kernel)) (fun _ h9 => h9) rfl dX3_insert_37 ?_
            refine lv_iload_n hx hb dX3_insert_40 rfl (lv_at hl 3 rfl) ?_
            refine n_iconst hx hb dX3_insert_41 ?_
            refine n_isub hx hb dX3_insert_42 ?_
            rw [show ((q : Nat) : Int) - 1 = ((q - 1 : Nat) : Int) by omega]
            refine n_iald hx hb hK hP 3 (by omega) f15_0 (q - 1) rfl (by omega) (by decide) dX3_insert_43 ?_
            refine n_iast hx hb hK hP hS hAA 3 (by omega) f15_0 (fun _ => rfl) q rfl (by omega) (by decide) dX3_insert_44 (fun H locs hP hS => ?_)
            obtain ⟨w_38, hw_39⟩ : ∃ z : WF, z = va_up w2 3 (.inl (gI G, 10, .inl (aN (va_up (shF nums q sz) q ((shF nums q sz) (q - 1)))))) := ⟨_, rfl⟩
            rw [← hw_39] at hP
            have fr_40 : ∀ k : Nat, k ≠ 3 → w_38 k = w2 k := fun k h => by rw [hw_39]; exact va_up_ne _ _ h
            have e_41 : w_38 3 = .inl (gI G, 10, .inl (aN (va_up (shF nums q sz) q ((shF nums q sz) (q - 1))))) := by rw [hw_39]; exact va_up_self _ _ _
            have e_42 : w_38 4 = .inl (gI G, 10, .inl (aN (shF upps q sz))) := (fr_40 4 (by omega)).trans f15_1
            have e_43 : w_38 2 = .inr (2, [.ref (gad G 3), .ref (gad G 4), .int (iN ((sz : Nat) : Int))]) := (fr_40 2 (by omega)).trans e_1
            refine lv_aload_n hx hb dX3_insert_45 rfl (lv_at hl 0 rfl) ?_
            refine f_get (C := RX3) (T := TX3) (N := 3) hx hb hts (by decide +kernel) hown hK hP 2 (by omega) e_43 rfl 1 (by decide) (hts (.fieldLink RX3 15 "KeptMoving$Line" "uppers" "[I") (by decide +kernel)) (fun _ h9 => h9) rfl dX3_insert_46 ?_
            refine lv_iload_n hx hb dX3_insert_49 rfl (lv_at hl 3 rfl) ?_
            refine lv_aload_n hx hb dX3_insert_50 rfl (lv_at hl 0 rfl) ?_
            refine f_get (C := RX3) (T := TX3) (N := 3) hx hb hts (by decide +kernel) hown hK hP 2 (by omega) e_43 rfl 1 (by decide) (hts (.fieldLink RX3 15 "KeptMoving$Line" "uppers" "[I") (by decide +kernel)) (fun _ h9 => h9) rfl dX3_insert_51 ?_
            refine lv_iload_n hx hb dX3_insert_54 rfl (lv_at hl 3 rfl) ?_
            refine n_iconst hx hb dX3_insert_55 ?_
            refine n_isub hx hb dX3_insert_56 ?_
            rw [show ((q : Nat) : Int) - 1 = ((q - 1 : Nat) : Int) by omega]
            refine n_iald hx hb hK hP 4 (by omega) e_42 (q - 1) rfl (by omega) (by decide) dX3_insert_57 ?_
            refine n_iast hx hb hK hP hS hAA 4 (by omega) e_42 (fun _ => rfl) q rfl (by omega) (by decide) dX3_insert_58 (fun H locs hP hS => ?_)
            obtain ⟨w_44, hw_45⟩ : ∃ z : WF, z = va_up w_38 4 (.inl (gI G, 10, .inl (aN (va_up (shF upps q sz) q ((shF upps q sz) (q - 1)))))) := ⟨_, rfl⟩
            rw [← hw_45] at hP
            have fr_46 : ∀ k : Nat, k ≠ 4 → w_44 k = w_38 k := fun k h => by rw [hw_45]; exact va_up_ne _ _ h
            have e_47 : w_44 3 = .inl (gI G, 10, .inl (aN (va_up (shF nums q sz) q ((shF nums q sz) (q - 1))))) := (fr_46 3 (by omega)).trans e_41
            have e_48 : w_44 4 = .inl (gI G, 10, .inl (aN (va_up (shF upps q sz) q ((shF upps q sz) (q - 1))))) := by rw [hw_45]; exact va_up_self _ _ _
            have e_49 : w_44 2 = .inr (2, [.ref (gad G 3), .ref (gad G 4), .int (iN ((sz : Nat) : Int))]) := (fr_46 2 (by omega)).trans e_43
            refine lv_iinc (v := iN ((q - 1 : Nat) : Int)) (lv' := [(3, .int (iN ((q - 1 : Nat) : Int))), (0, .ref (gad G 2)), (1, .int (iN num)), (2, .int (iN x))]) hx hb dX3_insert_59 hl (k := 3) rfl (iN_decN (by omega)) (by decide) rfl (fun ls hl => ?_)
            refine lv_goto (tgt := 15) hx hb dX3_insert_62 (by decide) ?_
            exact ih15 (q - 1) w_44 _ _ _ (by omega) (by rw [← i15_1]; exact (spot_step (by omega) (decide_eq_true (by omega))).symm) (by omega) (e_47.trans (by rw [shF_step (by omega) (by omega)])) (e_48.trans (by rw [shF_step (by omega) (by omega)])) (fun k h0 h1 => ((((fr_46 k (by omega)).trans (fr_40 k (by omega)))).trans (hfr15 k (by omega) (by omega)))) hP hS (lv_sub hl [1, 2, 3, 0] rfl)
    exact K15 (sz + 1) (sz) w _ _ _ (by omega) (rfl) (by omega) (e1.trans (by rw [shF_0])) (e2.trans (by rw [shF_0])) (fun k _ _ => rfl) hP hS (lv_sub hl [1, 2, 3, 0] rfl)
  · exact absurd p0 (by omega)

set_option maxHeartbeats 4000000 in
set_option maxRecDepth 100000 in
theorem c_X3_tell (l : Launch) (G : GE) (w : WF) (sz : Nat) (nums : Nat → Int) (upps : Nat → Int) (k : Int) (e0 : w 2 = .inr (2, [.ref (gad G 3), .ref (gad G 4), .int (iN ((sz : Nat) : Int))])) (e1 : w 3 = .inl (gI G, 10, .inl (aN nums))) (e2 : w 4 = .inl (gI G, 10, .inl (aN upps))) (p0 : sz ≤ 10) (p1 : -2147483648 ≤ k ∧ k < 2147483648) : Met l yX3_tell wsX3_tell ({ frames := 0, cells := 0, slots := 0, locals := 0 }) (PcG G w [.ref (gad G 2), .int (iN k)]) (vp_Si (fun r => r = iN (if 0 ≤ k ∧ k < (sz : Int) then nums k.toNat else -1))) 0 0 (fun _ => False) := by
  refine Met.ofW (cc := cX3_tell) (maxL := 2) (ret := (some .int)) (by decide) rfl ?_
  intro p e s m args below meth c s₁ B hml hv
  obtain ⟨rfl, hP, hK⟩ := hv
  have hx := B.exec
  have hb := B.bytes
  have hr := B.returns
  have hts := atoms_spec (ws := wsX3_tell) B.pre
  have hown : s.vm.findClass RX3 = some m.cls := findClass_of_methodNamed B.named
  have hlocks := B.notSynchronized
  have hl := lv_entry ([.ref (gad G 2), .int (iN k)]) (n := 2) (Nat.le_of_ble_eq_true rfl)
  rw [lg_entry_eq]
  generalize (lg_sl ([.ref (gad G 2), .int (iN k)]) ++ List.replicate (2 - (lg_sl ([.ref (gad G 2), .int (iN k)])).length) Slot.unset).toArray = ls at hl ⊢
  have hl : lv_has ls 2 [(0, .ref (gad G 2)), (1, .int (iN k))] := hl
  refine lv_iload_n hx hb dX3_tell_0 rfl (lv_at hl 1 rfl) ?_
  refine n_if_lt (tgt := 21) hx hb dX3_tell_1 (by decide) (by omega) (by omega) (fun c_1 => ?_) (fun c_1 => ?_)
  · refine n_iconst hx hb dX3_tell_21 ?_
    exact r_si hx hb hr dX3_tell_22 hlocks (show _ = iN (if 0 ≤ k ∧ k < (sz : Int) then nums k.toNat else -1) by rw [if_neg (by omega)])
  · refine lv_iload_n hx hb dX3_tell_4 rfl (lv_at hl 1 rfl) ?_
    refine lv_aload_n hx hb dX3_tell_5 rfl (lv_at hl 0 rfl) ?_
    refine f_get (C := RX3) (T := TX3) (N := 3) hx hb hts (by decide +kernel) hown hK hP 2 (by omega) e0 rfl 2 (by decide) (hts (.fieldLink RX3 18 "KeptMoving$Line" "size" "I") (by decide +kernel)) (fun _ h9 => h9) rfl dX3_tell_6 ?_
    refine n_icmp_ge (tgt := 21) hx hb dX3_tell_9 (by decide) (by omega) (by omega) (by omega) (by omega) (fun c_9 => ?_) (fun c_9 => ?_)
    · refine n_iconst hx hb dX3_tell_21 ?_
      exact r_si hx hb hr dX3_tell_22 hlocks (show _ = iN (if 0 ≤ k ∧ k < (sz : Int) then nums k.toNat else -1) by rw [if_neg (by omega)])
    · refine lv_aload_n hx hb dX3_tell_12 rfl (lv_at hl 0 rfl) ?_
      refine f_get (C := RX3) (T := TX3) (N := 3) hx hb hts (by decide +kernel) hown hK hP 2 (by omega) e0 rfl 0 (by decide) (hts (.fieldLink RX3 9 "KeptMoving$Line" "numbers" "[I") (by decide +kernel)) (fun _ h9 => h9) rfl dX3_tell_13 ?_
      refine lv_iload_n hx hb dX3_tell_16 rfl (lv_at hl 1 rfl) ?_
      refine n_iald hx hb hK hP 3 (by omega) e1 k.toNat (by omega) (by omega) (by decide) dX3_tell_17 ?_
      refine lv_goto (tgt := 22) hx hb dX3_tell_18 (by decide) ?_
      exact r_si hx hb hr dX3_tell_22 hlocks (show _ = iN (if 0 ≤ k ∧ k < (sz : Int) then nums k.toNat else -1) by rw [if_pos (by omega)])

def clP (u : Nat → Int) : Nat → Int × Int
  | 0 => (-1, 0)
  | 1 => (-1, 0)
  | k + 2 => if (clP u (k + 1)).1 = -1 ∨ u (k + 1) - u k < (clP u (k + 1)).2 then (((k + 1 : Nat) : Int), u (k + 1) - u k) else clP u (k + 1)
theorem clP_rng (u : Nat → Int) : ∀ n, (∀ k : Nat, k < n → -100000000 ≤ u k ∧ u k ≤ 100000000) → -1 ≤ (clP u n).1 ∧ (clP u n).1 ≤ n ∧ -200000000 ≤ (clP u n).2 ∧ (clP u n).2 ≤ 200000000
  | 0, _ => by simp [clP]
  | 1, _ => by simp [clP]
  | k + 2, h => by
    have h1 := clP_rng u (k + 1) (fun j hj => h j (by omega))
    have h2 := h k (by omega)
    have h3 := h (k + 1) (by omega)
    unfold clP
    split
    · dsimp only
      omega
    · omega
def hpC (u : Nat → Int) (wd : Int) : Nat → Int
  | 0 => 0
  | 1 => 0
  | k + 2 => hpC u wd (k + 1) + (if wd < u (k + 1) - u k then 1 else 0)
theorem clP_pos {u : Nat → Int} {q : Nat} (h0 : 1 ≤ q) (h : (clP u q).1 = -1 ∨ u q - u (q - 1) < (clP u q).2) : clP u (q + 1) = ((q : Int), u q - u (q - 1)) := by
  obtain ⟨k, rfl⟩ : ∃ k, q = k + 1 := ⟨q - 1, by omega⟩
  exact if_pos h
theorem clP_neg {u : Nat → Int} {q : Nat} (h0 : 1 ≤ q) (h : ¬ ((clP u q).1 = -1 ∨ u q - u (q - 1) < (clP u q).2)) : clP u (q + 1) = clP u q := by
  obtain ⟨k, rfl⟩ : ∃ k, q = k + 1 := ⟨q - 1, by omega⟩
  exact if_neg h
theorem clP_eq {u : Nat → Int} {q sz : Nat} (h : 1 ≤ q ∧ (q ≤ sz ∨ q = 1)) (h2 : (sz : Int) ≤ (q : Int)) : (clP u q).1 = (clP u sz).1 := by
  rcases Nat.lt_or_ge sz 1 with z | z
  · obtain rfl : q = 1 := by omega
    obtain rfl : sz = 0 := by omega
    rfl
  · obtain rfl : q = sz := by omega
    rfl
theorem hpC_eq {u : Nat → Int} {wd : Int} {q sz : Nat} (h : 1 ≤ q ∧ (q ≤ sz ∨ q = 1)) (h2 : (sz : Int) ≤ (q : Int)) : hpC u wd q = hpC u wd sz := by
  rcases Nat.lt_or_ge sz 1 with z | z
  · obtain rfl : q = 1 := by omega
    obtain rfl : sz = 0 := by omega
    rfl
  · obtain rfl : q = sz := by omega
    rfl
theorem hpC_s {u : Nat → Int} {wd : Int} {q : Nat} (h0 : 1 ≤ q) : hpC u wd (q + 1) = hpC u wd q + (if wd < u q - u (q - 1) then 1 else 0) := by
  obtain ⟨k, rfl⟩ : ∃ k, q = k + 1 := ⟨q - 1, by omega⟩
  rfl

set_option maxHeartbeats 4000000 in
set_option maxRecDepth 100000 in
theorem c_X3_closestUpper (l : Launch) (G : GE) (w : WF) (sz : Nat) (nums : Nat → Int) (upps : Nat → Int) (e0 : w 2 = .inr (2, [.ref (gad G 3), .ref (gad G 4), .int (iN ((sz : Nat) : Int))])) (e1 : w 3 = .inl (gI G, 10, .inl (aN nums))) (e2 : w 4 = .inl (gI G, 10, .inl (aN upps))) (p0 : sz ≤ 10) (p1 : ∀ k : Nat, k < sz → -100000000 ≤ upps k ∧ upps k ≤ 100000000) : Met l yX3_closestUpper wsX3_closestUpper ({ frames := 0, cells := 0, slots := 0, locals := 0 }) (PcG G w [.ref (gad G 2)]) (vp_Si (fun r => r = iN ((clP upps sz).1))) 0 0 (fun _ => False) := by
  refine Met.ofW (cc := cX3_closestUpper) (maxL := 5) (ret := (some .int)) (by decide) rfl ?_
  intro p e s m args below meth c s₁ B hml hv
  obtain ⟨rfl, hP, hK⟩ := hv
  have hx := B.exec
  have hb := B.bytes
  have hr := B.returns
  have hts := atoms_spec (ws := wsX3_closestUpper) B.pre
  have hown : s.vm.findClass RX3 = some m.cls := findClass_of_methodNamed B.named
  have hlocks := B.notSynchronized
  have hl := lv_entry ([.ref (gad G 2)]) (n := 5) (Nat.le_of_ble_eq_true rfl)
  rw [lg_entry_eq]
  generalize (lg_sl ([.ref (gad G 2)]) ++ List.replicate (5 - (lg_sl ([.ref (gad G 2)])).length) Slot.unset).toArray = ls at hl ⊢
  have hl : lv_has ls 5 [(0, .ref (gad G 2))] := hl
  refine n_iconst hx hb dX3_closestUpper_0 ?_
  refine lv_istore_n (lv' := [(1, .int (iN (-1))), (0, .ref (gad G 2))]) hx hb dX3_closestUpper_1 rfl hl (by decide) rfl (fun ls hl => ?_)
  refine n_iconst hx hb dX3_closestUpper_2 ?_
  refine lv_istore_n (lv' := [(2, .int (iN 0)), (1, .int (iN (-1))), (0, .ref (gad G 2))]) hx hb dX3_closestUpper_3 rfl hl (by decide) rfl (fun ls hl => ?_)
  refine n_iconst hx hb dX3_closestUpper_4 ?_
  have hz_1 : (-1) = (clP upps 1).1 := by rfl
  have hl : lv_has ls 5 [(2, .int (iN 0)), (1, .int (iN ((clP upps 1).1))), (0, .ref (gad G 2))] := by rw [← hz_1]; exact hl
  have hz_2 : 0 = (clP upps 1).2 := by rfl
  have hl : lv_has ls 5 [(2, .int (iN ((clP upps 1).2))), (1, .int (iN ((clP upps 1).1))), (0, .ref (gad G 2))] := by rw [← hz_2]; exact hl
  refine lv_istore_n (lv' := [(3, .int (iN 1)), (2, .int (iN ((clP upps 1).2))), (1, .int (iN ((clP upps 1).1))), (0, .ref (gad G 2))]) hx hb dX3_closestUpper_5 rfl hl (by decide) rfl (fun ls hl => ?_)
  have K6 : ∀ (N : Nat) (q : Nat) (ls : Array Slot), (1 ≤ q ∧ (q ≤ sz ∨ q = 1)) → 11 - q < N → lv_has ls 5 [(0, .ref (gad G 2)), (1, .int (iN ((clP upps q).1))), (2, .int (iN ((clP upps q).2))), (3, .int (iN ((q : Nat) : Int)))] → W p l e (headSpec wsX3_closestUpper ({ frames := 0, cells := 0, slots := 0, locals := 0 })).room s m (([.ref (gad G 2)] : List Value).toArray) below meth c s.heap [] 0 0 (MQ below (vp_Si (fun r => r = iN ((clP upps sz).1))) (([.ref (gad G 2)] : List Value).toArray) s 0 0 (fun _ => False)) (F0 m 6 ls []) := by
    intro N
    induction N with
    | zero =>
      intros
      exfalso
      omega
    | succ N ih6 =>
      intro q ls i6_0 hN6 hl
      refine lv_iload_n hx hb dX3_closestUpper_6 rfl (lv_at hl 3 rfl) ?_
      refine lv_aload_n hx hb dX3_closestUpper_7 rfl (lv_at hl 0 rfl) ?_
      refine f_get (C := RX3) (T := TX3) (N := 3) hx hb hts (by decide +kernel) hown hK hP 2 (by omega) e0 rfl 2 (by decide) (hts (.fieldLink RX3 18 "KeptMoving$Line" "size" "I") (by decide +kernel)) (fun _ h9 => h9) rfl dX3_closestUpper_8 ?_
      refine n_icmp_ge (tgt := 53) hx hb dX3_closestUpper_11 (by decide) (by omega) (by omega) (by omega) (by omega) (fun c_11 => ?_) (fun c_11 => ?_)
      · refine lv_iload_n hx hb dX3_closestUpper_53 rfl (lv_at hl 1 rfl) ?_
        exact r_si hx hb hr dX3_closestUpper_54 hlocks (congrArg iN (clP_eq i6_0 c_11))
      · have hu := p1 q (by omega)
        have hu2 := p1 (q - 1) (by omega)
        have hc1 := clP_rng upps q (fun k hk => p1 k (by omega))
        refine lv_aload_n hx hb dX3_closestUpper_14 rfl (lv_at hl 0 rfl) ?_
        refine f_get (C := RX3) (T := TX3) (N := 3) hx hb hts (by decide +kernel) hown hK hP 2 (by omega) e0 rfl 1 (by decide) (hts (.fieldLink RX3 15 "KeptMoving$Line" "uppers" "[I") (by decide +kernel)) (fun _ h9 => h9) rfl dX3_closestUpper_15 ?_
        refine lv_iload_n hx hb dX3_closestUpper_18 rfl (lv_at hl 3 rfl) ?_
        refine n_iald hx hb hK hP 4 (by omega) e2 q rfl (by omega) (by decide) dX3_closestUpper_19 ?_
        refine lv_aload_n hx hb dX3_closestUpper_20 rfl (lv_at hl 0 rfl) ?_
        refine f_get (C := RX3) (T := TX3) (N := 3) hx hb hts (by decide +kernel) hown hK hP 2 (by omega) e0 rfl 1 (by decide) (hts (.fieldLink RX3 15 "KeptMoving$Line" "uppers" "[I") (by decide +kernel)) (fun _ h9 => h9) rfl dX3_closestUpper_21 ?_
        refine lv_iload_n hx hb dX3_closestUpper_24 rfl (lv_at hl 3 rfl) ?_
        refine n_iconst hx hb dX3_closestUpper_25 ?_
        refine n_isub hx hb dX3_closestUpper_26 ?_
        rw [show ((q : Nat) : Int) - 1 = ((q - 1 : Nat) : Int) by omega]
        refine n_iald hx hb hK hP 4 (by omega) e2 (q - 1) rfl (by omega) (by decide) dX3_closestUpper_27 ?_
        refine n_isub hx hb dX3_closestUpper_28 ?_
        refine lv_istore (lv' := [(4, .int (iN ((upps q) - (upps (q - 1))))), (0, .ref (gad G 2)), (1, .int (iN ((clP upps q).1))), (2, .int (iN ((clP upps q).2))), (3, .int (iN ((q : Nat) : Int)))]) hx hb dX3_closestUpper_29 hl (by decide) rfl (fun ls hl => ?_)
        refine lv_iload_n hx hb dX3_closestUpper_31 rfl (lv_at hl 2 rfl) ?_
        refine n_iconst hx hb dX3_closestUpper_32 ?_
        refine n_icmp_eq (tgt := 42) hx hb dX3_closestUpper_33 (by decide) (by omega) (by omega) (by omega) (by omega) (fun c_33 => ?_) (fun c_33 => ?_)
        · refine lv_iload_n hx hb dX3_closestUpper_42 rfl (lv_at hl 4 rfl) ?_
          refine lv_istore_n (lv' := [(1, .int (iN ((q : Nat) : Int))), (4, .int (iN ((upps q) - (upps (q - 1))))), (0, .ref (gad G 2)), (2, .int (iN ((clP upps q).2))), (3, .int (iN ((q : Nat) : Int)))]) hx hb dX3_closestUpper_43 rfl hl (by decide) rfl (fun ls hl => ?_)
          refine lv_iload hx hb dX3_closestUpper_44 (lv_at hl 1 rfl) ?_
          refine lv_istore_n (lv' := [(2, .int (iN ((upps q) - (upps (q - 1))))), (1, .int (iN ((q : Nat) : Int))), (4, .int (iN ((upps q) - (upps (q - 1))))), (0, .ref (gad G 2)), (3, .int (iN ((q : Nat) : Int)))]) hx hb dX3_closestUpper_46 rfl hl (by decide) rfl (fun ls hl => ?_)
          have hcq := clP_pos (u := upps) (q := q) (by omega) (by omega)
          have hz_3 : ((q : Nat) : Int) = (clP upps (q + 1)).1 := by rw [hcq]
          have hl : lv_has ls 5 [(2, .int (iN ((upps q) - (upps (q - 1))))), (1, .int (iN ((clP upps (q + 1)).1))), (4, .int (iN ((upps q) - (upps (q - 1))))), (0, .ref (gad G 2)), (3, .int (iN ((q : Nat) : Int)))] := by rw [← hz_3]; exact hl
          have hz_4 : (upps q) - (upps (q - 1)) = (clP upps (q + 1)).2 := by rw [hcq]
          have hl : lv_has ls 5 [(2, .int (iN ((clP upps (q + 1)).2))), (1, .int (iN ((clP upps (q + 1)).1))), (4, .int (iN ((upps q) - (upps (q - 1))))), (0, .ref (gad G 2)), (3, .int (iN ((q : Nat) : Int)))] := by rw [← hz_4]; exact hl
          refine lv_iinc (v := iN ((q + 1 : Nat) : Int)) (lv' := [(3, .int (iN ((q + 1 : Nat) : Int))), (2, .int (iN ((clP upps (q + 1)).2))), (1, .int (iN ((clP upps (q + 1)).1))), (4, .int (iN ((upps q) - (upps (q - 1))))), (0, .ref (gad G 2))]) hx hb dX3_closestUpper_47 hl (k := 4) rfl (iN_incN _) (by decide) rfl (fun ls hl => ?_)
          refine lv_goto (tgt := 6) hx hb dX3_closestUpper_50 (by decide) ?_
          exact ih6 (q + 1) _ (by omega) (by omega) (lv_sub hl [4, 2, 1, 0] rfl)
        · refine lv_iload hx hb dX3_closestUpper_36 (lv_at hl 0 rfl) ?_
          refine lv_iload_n hx hb dX3_closestUpper_38 rfl (lv_at hl 3 rfl) ?_
          refine n_icmp_ge (tgt := 47) hx hb dX3_closestUpper_39 (by decide) (by omega) (by omega) (by omega) (by omega) (fun c_39 => ?_) (fun c_39 => ?_)
          · have hcq := clP_neg (u := upps) (q := q) (by omega) (by omega)
            have hz_5 : (clP upps q).1 = (clP upps (q + 1)).1 := by rw [hcq]
            have hl : lv_has ls 5 [(4, .int (iN ((upps q) - (upps (q - 1))))), (0, .ref (gad G 2)), (1, .int (iN ((clP upps (q + 1)).1))), (2, .int (iN ((clP upps q).2))), (3, .int (iN ((q : Nat) : Int)))] := by rw [← hz_5]; exact hl
            have hz_6 : (clP upps q).2 = (clP upps (q + 1)).2 := by rw [hcq]
            have hl : lv_has ls 5 [(4, .int (iN ((upps q) - (upps (q - 1))))), (0, .ref (gad G 2)), (1, .int (iN ((clP upps (q + 1)).1))), (2, .int (iN ((clP upps (q + 1)).2))), (3, .int (iN ((q : Nat) : Int)))] := by rw [← hz_6]; exact hl
            refine lv_iinc (v := iN ((q + 1 : Nat) : Int)) (lv' := [(3, .int (iN ((q + 1 : Nat) : Int))), (4, .int (iN ((upps q) - (upps (q - 1))))), (0, .ref (gad G 2)), (1, .int (iN ((clP upps (q + 1)).1))), (2, .int (iN ((clP upps (q + 1)).2)))]) hx hb dX3_closestUpper_47 hl (k := 4) rfl (iN_incN _) (by decide) rfl (fun ls hl => ?_)
            refine lv_goto (tgt := 6) hx hb dX3_closestUpper_50 (by decide) ?_
            exact ih6 (q + 1) _ (by omega) (by omega) (lv_sub hl [2, 3, 4, 0] rfl)
          · refine lv_iload_n hx hb dX3_closestUpper_42 rfl (lv_at hl 4 rfl) ?_
            refine lv_istore_n (lv' := [(1, .int (iN ((q : Nat) : Int))), (4, .int (iN ((upps q) - (upps (q - 1))))), (0, .ref (gad G 2)), (2, .int (iN ((clP upps q).2))), (3, .int (iN ((q : Nat) : Int)))]) hx hb dX3_closestUpper_43 rfl hl (by decide) rfl (fun ls hl => ?_)
            refine lv_iload hx hb dX3_closestUpper_44 (lv_at hl 1 rfl) ?_
            refine lv_istore_n (lv' := [(2, .int (iN ((upps q) - (upps (q - 1))))), (1, .int (iN ((q : Nat) : Int))), (4, .int (iN ((upps q) - (upps (q - 1))))), (0, .ref (gad G 2)), (3, .int (iN ((q : Nat) : Int)))]) hx hb dX3_closestUpper_46 rfl hl (by decide) rfl (fun ls hl => ?_)
            have hcq := clP_pos (u := upps) (q := q) (by omega) (by omega)
            have hz_7 : ((q : Nat) : Int) = (clP upps (q + 1)).1 := by rw [hcq]
            have hl : lv_has ls 5 [(2, .int (iN ((upps q) - (upps (q - 1))))), (1, .int (iN ((clP upps (q + 1)).1))), (4, .int (iN ((upps q) - (upps (q - 1))))), (0, .ref (gad G 2)), (3, .int (iN ((q : Nat) : Int)))] := by rw [← hz_7]; exact hl
            have hz_8 : (upps q) - (upps (q - 1)) = (clP upps (q + 1)).2 := by rw [hcq]
            have hl : lv_has ls 5 [(2, .int (iN ((clP upps (q + 1)).2))), (1, .int (iN ((clP upps (q + 1)).1))), (4, .int (iN ((upps q) - (upps (q - 1))))), (0, .ref (gad G 2)), (3, .int (iN ((q : Nat) : Int)))] := by rw [← hz_8]; exact hl
            refine lv_iinc (v := iN ((q + 1 : Nat) : Int)) (lv' := [(3, .int (iN ((q + 1 : Nat) : Int))), (2, .int (iN ((clP upps (q + 1)).2))), (1, .int (iN ((clP upps (q + 1)).1))), (4, .int (iN ((upps q) - (upps (q - 1))))), (0, .ref (gad G 2))]) hx hb dX3_closestUpper_47 hl (k := 4) rfl (iN_incN _) (by decide) rfl (fun ls hl => ?_)
            refine lv_goto (tgt := 6) hx hb dX3_closestUpper_50 (by decide) ?_
            exact ih6 (q + 1) _ (by omega) (by omega) (lv_sub hl [4, 2, 1, 0] rfl)
  exact K6 ((11 - 1) + 1) (1) _ (by omega) (by omega) (lv_sub hl [3, 2, 1, 0] rfl)

set_option maxHeartbeats 4000000 in
set_option maxRecDepth 100000 in
theorem c_X3_heaps (l : Launch) (G : GE) (w : WF) (sz : Nat) (nums : Nat → Int) (upps : Nat → Int) (wd : Int) (e0 : w 2 = .inr (2, [.ref (gad G 3), .ref (gad G 4), .int (iN ((sz : Nat) : Int))])) (e1 : w 3 = .inl (gI G, 10, .inl (aN nums))) (e2 : w 4 = .inl (gI G, 10, .inl (aN upps))) (p0 : sz ≤ 10) (p1 : ∀ k : Nat, k < sz → -100000000 ≤ upps k ∧ upps k ≤ 100000000) (p2 : 0 ≤ wd ∧ wd ≤ 100000000) : Met l yX3_heaps wsX3_heaps ({ frames := 1, cells := 0, slots := 0, locals := 21 }) (PcG G w [.ref (gad G 2), .int (iN wd)]) (vp_Si (fun r => r = iN (min (sz : Int) 1 + hpC upps wd sz))) 0 0 (fun _ => False) := by
  refine Met.ofW (cc := cX3_heaps) (maxL := 4) (ret := (some .int)) (by decide) rfl ?_
  intro p e s m args below meth c s₁ B hml hv
  obtain ⟨rfl, hP, hK⟩ := hv
  have hx := B.exec
  have hb := B.bytes
  have hr := B.returns
  have hts := atoms_spec (ws := wsX3_heaps) B.pre
  have hown : s.vm.findClass RX3 = some m.cls := findClass_of_methodNamed B.named
  have hlocks := B.notSynchronized
  have hl := lv_entry ([.ref (gad G 2), .int (iN wd)]) (n := 4) (Nat.le_of_ble_eq_true rfl)
  rw [lg_entry_eq]
  generalize (lg_sl ([.ref (gad G 2), .int (iN wd)]) ++ List.replicate (4 - (lg_sl ([.ref (gad G 2), .int (iN wd)])).length) Slot.unset).toArray = ls at hl ⊢
  have hl : lv_has ls 4 [(0, .ref (gad G 2)), (1, .int (iN wd))] := hl
  refine lv_aload_n hx hb dX3_heaps_0 rfl (lv_at hl 0 rfl) ?_
  refine f_get (C := RX3) (T := TX3) (N := 3) hx hb hts (by decide +kernel) hown hK hP 2 (by omega) e0 rfl 2 (by decide) (hts (.fieldLink RX3 18 "KeptMoving$Line" "size" "I") (by decide +kernel)) (fun _ h9 => h9) rfl dX3_heaps_1 ?_
  refine n_iconst hx hb dX3_heaps_4 ?_
  refine n_mmin hx hb (by rw [hml]; exact hl.1.symm) hown (hts (.methodLink RX3 22 Lib.Math.min.name) (by decide +kernel)) (hts (.static Lib.Math.min.name) (by decide +kernel)) (hts (.initialized "java/lang/Math") (by decide +kernel)) (hts (.code Lib.Math.min.name Lib.Math.min.code 2 (some .int)) (by decide +kernel)) (Nat.le_of_ble_eq_true rfl) (Nat.le_of_ble_eq_true rfl) (Nat.zero_le _) (Nat.zero_le _) (by omega) (by omega) (by omega) (by omega) dX3_heaps_5 ?_
  refine lv_istore_n (lv' := [(2, .int (iN (min ((sz : Nat) : Int) 1))), (0, .ref (gad G 2)), (1, .int (iN wd))]) hx hb dX3_heaps_8 rfl hl (by decide) rfl (fun ls hl => ?_)
  refine n_iconst hx hb dX3_heaps_9 ?_
  have hz_1 : min ((sz : Nat) : Int) 1 = min (sz : Int) 1 + hpC upps wd 1 := by show _ = _ + (0 : Int); omega
  have hl : lv_has ls 4 [(2, .int (iN (min (sz : Int) 1 + hpC upps wd 1))), (0, .ref (gad G 2)), (1, .int (iN wd))] := by rw [← hz_1]; exact hl
  refine lv_istore_n (lv' := [(3, .int (iN 1)), (2, .int (iN (min (sz : Int) 1 + hpC upps wd 1))), (0, .ref (gad G 2)), (1, .int (iN wd))]) hx hb dX3_heaps_10 rfl hl (by decide) rfl (fun ls hl => ?_)
  have K11 : ∀ (N : Nat) (q : Nat) (ls : Array Slot), (1 ≤ q ∧ (q ≤ sz ∨ q = 1)) → 11 - q < N → lv_has ls 4 [(0, .ref (gad G 2)), (1, .int (iN wd)), (2, .int (iN (min (sz : Int) 1 + hpC upps wd q))), (3, .int (iN ((q : Nat) : Int)))] → W p l e (headSpec wsX3_heaps ({ frames := 1, cells := 0, slots := 0, locals := 21 })).room s m (([.ref (gad G 2), .int (iN wd)] : List Value).toArray) below meth c s.heap [] 0 0 (MQ below (vp_Si (fun r => r = iN (min (sz : Int) 1 + hpC upps wd sz))) (([.ref (gad G 2), .int (iN wd)] : List Value).toArray) s 0 0 (fun _ => False)) (F0 m 11 ls []) := by
    intro N
    induction N with
    | zero =>
      intros
      exfalso
      omega
    | succ N ih11 =>
      intro q ls i11_0 hN11 hl
      refine lv_iload_n hx hb dX3_heaps_11 rfl (lv_at hl 3 rfl) ?_
      refine lv_aload_n hx hb dX3_heaps_12 rfl (lv_at hl 0 rfl) ?_
      refine f_get (C := RX3) (T := TX3) (N := 3) hx hb hts (by decide +kernel) hown hK hP 2 (by omega) e0 rfl 2 (by decide) (hts (.fieldLink RX3 18 "KeptMoving$Line" "size" "I") (by decide +kernel)) (fun _ h9 => h9) rfl dX3_heaps_13 ?_
      refine n_icmp_ge (tgt := 47) hx hb dX3_heaps_16 (by decide) (by omega) (by omega) (by omega) (by omega) (fun c_16 => ?_) (fun c_16 => ?_)
      · refine lv_iload_n hx hb dX3_heaps_47 rfl (lv_at hl 2 rfl) ?_
        exact r_si hx hb hr dX3_heaps_48 hlocks (congrArg iN (congrArg (min (sz : Int) 1 + ·) (hpC_eq i11_0 c_16)))
      · have hu := p1 q (by omega)
        have hu2 := p1 (q - 1) (by omega)
        refine lv_aload_n hx hb dX3_heaps_19 rfl (lv_at hl 0 rfl) ?_
        refine f_get (C := RX3) (T := TX3) (N := 3) hx hb hts (by decide +kernel) hown hK hP 2 (by omega) e0 rfl 1 (by decide) (hts (.fieldLink RX3 15 "KeptMoving$Line" "uppers" "[I") (by decide +kernel)) (fun _ h9 => h9) rfl dX3_heaps_20 ?_
        refine lv_iload_n hx hb dX3_heaps_23 rfl (lv_at hl 3 rfl) ?_
        refine n_iald hx hb hK hP 4 (by omega) e2 q rfl (by omega) (by decide) dX3_heaps_24 ?_
        refine lv_aload_n hx hb dX3_heaps_25 rfl (lv_at hl 0 rfl) ?_
        refine f_get (C := RX3) (T := TX3) (N := 3) hx hb hts (by decide +kernel) hown hK hP 2 (by omega) e0 rfl 1 (by decide) (hts (.fieldLink RX3 15 "KeptMoving$Line" "uppers" "[I") (by decide +kernel)) (fun _ h9 => h9) rfl dX3_heaps_26 ?_
        refine lv_iload_n hx hb dX3_heaps_29 rfl (lv_at hl 3 rfl) ?_
        refine n_iconst hx hb dX3_heaps_30 ?_
        refine n_isub hx hb dX3_heaps_31 ?_
        refine n_iald hx hb hK hP 4 (by omega) e2 (q - 1) (by omega) (by omega) (by decide) dX3_heaps_32 ?_
        refine n_isub hx hb dX3_heaps_33 ?_
        refine lv_iload_n hx hb dX3_heaps_34 rfl (lv_at hl 1 rfl) ?_
        refine n_icmp_le (tgt := 41) hx hb dX3_heaps_35 (by decide) (by omega) (by omega) (by omega) (by omega) (fun c_35 => ?_) (fun c_35 => ?_)
        · have hz_2 : min (sz : Int) 1 + hpC upps wd q = min (sz : Int) 1 + hpC upps wd (q + 1) := by rw [hpC_s (by omega), if_neg (by omega)]; omega
          have hl : lv_has ls 4 [(0, .ref (gad G 2)), (1, .int (iN wd)), (2, .int (iN (min (sz : Int) 1 + hpC upps wd (q + 1)))), (3, .int (iN ((q : Nat) : Int)))] := by rw [← hz_2]; exact hl
          refine lv_iinc (v := iN ((q + 1 : Nat) : Int)) (lv' := [(3, .int (iN ((q + 1 : Nat) : Int))), (0, .ref (gad G 2)), (1, .int (iN wd)), (2, .int (iN (min (sz : Int) 1 + hpC upps wd (q + 1))))]) hx hb dX3_heaps_41 hl (k := 3) rfl (iN_incN _) (by decide) rfl (fun ls hl => ?_)
          refine lv_goto (tgt := 11) hx hb dX3_heaps_44 (by decide) ?_
          exact ih11 (q + 1) _ (by omega) (by omega) (lv_sub hl [1, 2, 3, 0] rfl)
        · refine lv_iinc (v := iN ((min (sz : Int) 1 + hpC upps wd q) + (1))) (lv' := [(2, .int (iN ((min (sz : Int) 1 + hpC upps wd q) + (1)))), (0, .ref (gad G 2)), (1, .int (iN wd)), (3, .int (iN ((q : Nat) : Int)))]) hx hb dX3_heaps_38 hl (k := 2) rfl (iN_inc _ _) (by decide) rfl (fun ls hl => ?_)
          have hz_3 : (min (sz : Int) 1 + hpC upps wd q) + (1) = min (sz : Int) 1 + hpC upps wd (q + 1) := by rw [hpC_s (by omega), if_pos (by omega)]; omega
          have hl : lv_has ls 4 [(2, .int (iN (min (sz : Int) 1 + hpC upps wd (q + 1)))), (0, .ref (gad G 2)), (1, .int (iN wd)), (3, .int (iN ((q : Nat) : Int)))] := by rw [← hz_3]; exact hl
          refine lv_iinc (v := iN ((q + 1 : Nat) : Int)) (lv' := [(3, .int (iN ((q + 1 : Nat) : Int))), (2, .int (iN (min (sz : Int) 1 + hpC upps wd (q + 1)))), (0, .ref (gad G 2)), (1, .int (iN wd))]) hx hb dX3_heaps_41 hl (k := 3) rfl (iN_incN _) (by decide) rfl (fun ls hl => ?_)
          refine lv_goto (tgt := 11) hx hb dX3_heaps_44 (by decide) ?_
          exact ih11 (q + 1) _ (by omega) (by omega) (lv_sub hl [2, 3, 1, 0] rfl)
  exact K11 ((11 - 1) + 1) (1) _ (by omega) (by omega) (lv_sub hl [2, 3, 1, 0] rfl)

set_option maxHeartbeats 4000000 in
set_option maxRecDepth 100000 in
theorem c_X5_clear (l : Launch) (G : GE) (w : WF) (sz : Nat) (th : Nat → Int) (ps : Nat → Int) (vs : Nat → Int) (e0 : w 6 = .inr (4, [.ref (gad G 7), .ref (gad G 8), .ref (gad G 9), .int (iN ((sz : Nat) : Int))])) (e1 : w 7 = .inl (gZ G, 10, .inl (aN th))) (e2 : w 8 = .inl (gI G, 10, .inl (aN ps))) (e3 : w 9 = .inl (gI G, 10, .inl (aN vs))) : Met l yX5_clear wsX5_clear ({ frames := 0, cells := 0, slots := 0, locals := 0 }) (PcG G w [.ref (gad G 6)]) (QV G (fun w1 => (∀ k : Nat, k ≠ 6 → w1 k = w k) ∧ w1 6 = .inr (4, [.ref (gad G 7), .ref (gad G 8), .ref (gad G 9), .int (iN 0)]))) 0 0 (AA G) := by
  refine Met.ofW (cc := cX5_clear) (maxL := 1) (ret := none) (by decide) rfl ?_
  intro p e s m args below meth c s₁ B hml hv
  obtain ⟨rfl, hP, hK⟩ := hv
  have hx := B.exec
  have hb := B.bytes
  have hr := B.returns
  have hts := atoms_spec (ws := wsX5_clear) B.pre
  have hown : s.vm.findClass RX5 = some m.cls := findClass_of_methodNamed B.named
  have hlocks := B.notSynchronized
  have hS : va_S (AA G) s.heap s.heap [] := va_S.rf
  have hAA : ∀ q, AA G q → AA G q := fun _ h => h
  have hl := lv_entry ([.ref (gad G 6)]) (n := 1) (Nat.le_of_ble_eq_true rfl)
  rw [lg_entry_eq]
  generalize (lg_sl ([.ref (gad G 6)]) ++ List.replicate (1 - (lg_sl ([.ref (gad G 6)])).length) Slot.unset).toArray = ls at hl ⊢
  have hl : lv_has ls 1 [(0, .ref (gad G 6))] := hl
  refine lv_aload_n hx hb dX5_clear_0 rfl (lv_at hl 0 rfl) ?_
  refine n_iconst hx hb dX5_clear_1 ?_
  refine f_put (v := .int (iN 0)) (ty := .int) (C := RX5) (T := TX5) (N := 4) hx hb hts (by decide +kernel) tyX5 tyX5_ok nmX5 hown hK hP hS hAA 6 (by omega) e0 rfl 3 (by decide) (hts (.fieldLink RX5 22 "KeptMoving$Scene" "size" "I") (by decide +kernel)) (fun _ h9 => h9) rfl (by decide +kernel) (rfl) (rfl) (Nat.le_of_ble_eq_true rfl) (rfl) dX5_clear_2 (fun H locs hP hS => ?_)
  have hP : PW G (va_up w 6 (.inr (4, [.ref (gad G 7), .ref (gad G 8), .ref (gad G 9), .int (iN 0)]))) H := hP
  obtain ⟨w_1, hw_2⟩ : ∃ z : WF, z = va_up w 6 (.inr (4, [.ref (gad G 7), .ref (gad G 8), .ref (gad G 9), .int (iN 0)])) := ⟨_, rfl⟩
  rw [← hw_2] at hP
  have fr_3 : ∀ k : Nat, k ≠ 6 → w_1 k = w k := fun k h => by rw [hw_2]; exact va_up_ne _ _ h
  have e_4 : w_1 6 = .inr (4, [.ref (gad G 7), .ref (gad G 8), .ref (gad G 9), .int (iN 0)]) := by rw [hw_2]; exact va_up_self _ _ _
  have e_5 : w_1 7 = .inl (gZ G, 10, .inl (aN th)) := (fr_3 7 (by omega)).trans e1
  have e_6 : w_1 8 = .inl (gI G, 10, .inl (aN ps)) := (fr_3 8 (by omega)).trans e2
  have e_7 : w_1 9 = .inl (gI G, 10, .inl (aN vs)) := (fr_3 9 (by omega)).trans e3
  exact r_v hx hb hr dX5_clear_5 hlocks hP hS (⟨(fun k h0 => fr_3 k (by omega)), e_4⟩)

set_option maxHeartbeats 4000000 in
set_option maxRecDepth 100000 in
theorem c_X5_add (l : Launch) (G : GE) (w : WF) (sz : Nat) (th : Nat → Int) (ps : Nat → Int) (vs : Nat → Int) (i : Nat) (st : Nat → Int) (pl : Nat → Int) (sp : Nat → Int) (np : Nat) (stop : Int) (t : Int) (e0 : w 6 = .inr (4, [.ref (gad G 7), .ref (gad G 8), .ref (gad G 9), .int (iN ((sz : Nat) : Int))])) (e1 : w 7 = .inl (gZ G, 10, .inl (aN th))) (e2 : w 8 = .inl (gI G, 10, .inl (aN ps))) (e3 : w 9 = .inl (gI G, 10, .inl (aN vs))) (e4 : w (19 + 4 * i) = .inr (0, [.ref (gad G (19 + 4 * i + 1)), .ref (gad G (19 + 4 * i + 2)), .ref (gad G (19 + 4 * i + 3)), .int (iN ((np : Nat) : Int)), .int (iN stop)])) (e5 : w (19 + 4 * i + 1) = .inl (gI G, 8, .inl (aN st))) (e6 : w (19 + 4 * i + 2) = .inl (gI G, 8, .inl (aN pl))) (e7 : w (19 + 4 * i + 3) = .inl (gI G, 8, .inl (aN sp))) (p0 : i < 10) (p1 : 1 ≤ np ∧ np ≤ 8) (p2 : ∀ p : Nat, p < np → 0 ≤ st p ∧ st p ≤ 400) (p3 : -1 ≤ stop ∧ stop ≤ 400) (p4 : 0 ≤ t ∧ t ≤ 120000) (p5 : sz < 10) : Met l yX5_add wsX5_add ({ frames := 3, cells := 0, slots := 0, locals := 68 }) (PcG G w [.ref (gad G 6), .ref (gad G (19 + 4 * i)), .int (iN t)]) (QV G (fun w1 => (∀ k : Nat, k ≠ 6 → k ≠ 7 → k ≠ 8 → k ≠ 9 → w1 k = w k) ∧ w1 6 = .inr (4, [.ref (gad G 7), .ref (gad G 8), .ref (gad G 9), .int (iN ((sz + 1 : Nat) : Int))]) ∧ w1 7 = .inl (gZ G, 10, .inl (aN (va_up th sz (if (st 0 * 1 ≤ t ∧ (stop = -1 ∨ t < stop * 1)) then 1 else 0)))) ∧ w1 8 = .inl (gI G, 10, .inl (aN (va_up ps sz (upAt st pl sp np t 1)))) ∧ w1 9 = .inl (gI G, 10, .inl (aN (va_up vs sz (spAt st sp np t)))))) 0 0 (AA G) := by
  refine Met.ofW (cc := cX5_add) (maxL := 3) (ret := none) (by decide) rfl ?_
  intro p e s m args below meth c s₁ B hml hv
  obtain ⟨rfl, hP, hK⟩ := hv
  have hx := B.exec
  have hb := B.bytes
  have hr := B.returns
  have hts := atoms_spec (ws := wsX5_add) B.pre
  have hown : s.vm.findClass RX5 = some m.cls := findClass_of_methodNamed B.named
  have hlocks := B.notSynchronized
  have hS : va_S (AA G) s.heap s.heap [] := va_S.rf
  have hAA : ∀ q, AA G q → AA G q := fun _ h => h
  have hl := lv_entry ([.ref (gad G 6), .ref (gad G (19 + 4 * i)), .int (iN t)]) (n := 3) (Nat.le_of_ble_eq_true rfl)
  rw [lg_entry_eq]
  generalize (lg_sl ([.ref (gad G 6), .ref (gad G (19 + 4 * i)), .int (iN t)]) ++ List.replicate (3 - (lg_sl ([.ref (gad G 6), .ref (gad G (19 + 4 * i)), .int (iN t)])).length) Slot.unset).toArray = ls at hl ⊢
  have hl : lv_has ls 3 [(0, .ref (gad G 6)), (1, .ref (gad G (19 + 4 * i))), (2, .int (iN t))] := hl
  refine lv_aload_n hx hb dX5_add_0 rfl (lv_at hl 0 rfl) ?_
  refine f_get (C := RX5) (T := TX5) (N := 4) hx hb hts (by decide +kernel) hown hK hP 6 (by omega) e0 rfl 3 (by decide) (hts (.fieldLink RX5 22 "KeptMoving$Scene" "size" "I") (by decide +kernel)) (fun _ h9 => h9) rfl dX5_add_1 ?_
  refine n_bipush hx hb dX5_add_4 (by decide) ?_
  refine n_icmp_lt (tgt := 10) hx hb dX5_add_6 (by decide) (by omega) (by omega) (by omega) (by omega) (fun c_6 => ?_) (fun c_6 => ?_)
  · refine lv_aload_n hx hb dX5_add_10 rfl (lv_at hl 0 rfl) ?_
    refine f_get (C := RX5) (T := TX5) (N := 4) hx hb hts (by decide +kernel) hown hK hP 6 (by omega) e0 rfl 0 (by decide) (hts (.fieldLink RX5 9 "KeptMoving$Scene" "isThere" "[Z") (by decide +kernel)) (fun _ h9 => h9) rfl dX5_add_11 ?_
    refine lv_aload_n hx hb dX5_add_14 rfl (lv_at hl 0 rfl) ?_
    refine f_get (C := RX5) (T := TX5) (N := 4) hx hb hts (by decide +kernel) hown hK hP 6 (by omega) e0 rfl 3 (by decide) (hts (.fieldLink RX5 22 "KeptMoving$Scene" "size" "I") (by decide +kernel)) (fun _ h9 => h9) rfl dX5_add_15 ?_
    refine lv_aload_n hx hb dX5_add_18 rfl (lv_at hl 1 rfl) ?_
    refine lv_iload_n hx hb dX5_add_19 rfl (lv_at hl 2 rfl) ?_
    refine n_iconst hx hb dX5_add_20 ?_
    refine vp_callSi (va_Run.run (va_runVN (As := [.int (iN t), .int (iN 1)]) (rest := [.int (iN ((sz : Nat) : Int)), .ref (gad G 7)]) ⟨hx, hb, hml, hown, hts⟩ (c_X0_isThere l G w i st pl sp np stop t 1 e4 e5 e6 e7 (p0) (p2 0 (by omega)) (p3) (p4) (by omega)) ⟨va_cnB 2 hts gX5_add_X0_isThere_n26 rfl rfl rfl (hK.nm 23 rfl) (hts (.initialized RX0) (by decide +kernel)) (by decide +kernel) ⟨Nat.le_of_ble_eq_true rfl, Nat.le_of_ble_eq_true rfl⟩, hts (.instanceMethod yX0_isThere) (by decide +kernel), hts (.selects RX0 yX0_isThere yX0_isThere) (by decide +kernel)⟩ (f_preV hP hK (19 + 4 * i) (by omega) 0 e4 rfl) rfl rfl hl.1 rfl (lv_room (Nat.le_of_ble_eq_true rfl)) dX5_add_21 ⟨Nat.zero_le _, Nat.zero_le _⟩)) (fun r_1 hr_1 => ?_)
    rw [show r_1 = iN (if (st 0 * 1 ≤ t ∧ (stop = -1 ∨ t < stop * 1)) then 1 else 0) from hr_1]
    refine n_zast hx hb hK hP hS hAA 7 (by omega) e1 (fun _ => rfl) sz rfl (by omega) (by decide) dX5_add_24 (fun H locs hP hS => ?_)
    obtain ⟨w_2, hw_3⟩ : ∃ z : WF, z = va_up w 7 (.inl (gZ G, 10, .inl (aN (va_up th sz (if (st 0 * 1 ≤ t ∧ (stop = -1 ∨ t < stop * 1)) then 1 else 0))))) := ⟨_, rfl⟩
    rw [← hw_3] at hP
    have fr_4 : ∀ k : Nat, k ≠ 7 → w_2 k = w k := fun k h => by rw [hw_3]; exact va_up_ne _ _ h
    have e_5 : w_2 6 = .inr (4, [.ref (gad G 7), .ref (gad G 8), .ref (gad G 9), .int (iN ((sz : Nat) : Int))]) := (fr_4 6 (by omega)).trans e0
    have e_6 : w_2 7 = .inl (gZ G, 10, .inl (aN (va_up th sz (if (st 0 * 1 ≤ t ∧ (stop = -1 ∨ t < stop * 1)) then 1 else 0)))) := by rw [hw_3]; exact va_up_self _ _ _
    have e_7 : w_2 8 = .inl (gI G, 10, .inl (aN ps)) := (fr_4 8 (by omega)).trans e2
    have e_8 : w_2 9 = .inl (gI G, 10, .inl (aN vs)) := (fr_4 9 (by omega)).trans e3
    have e_9 : w_2 (19 + 4 * i) = .inr (0, [.ref (gad G (19 + 4 * i + 1)), .ref (gad G (19 + 4 * i + 2)), .ref (gad G (19 + 4 * i + 3)), .int (iN ((np : Nat) : Int)), .int (iN stop)]) := (fr_4 (19 + 4 * i) (by omega)).trans e4
    have e_10 : w_2 (19 + 4 * i + 1) = .inl (gI G, 8, .inl (aN st)) := (fr_4 (19 + 4 * i + 1) (by omega)).trans e5
    have e_11 : w_2 (19 + 4 * i + 2) = .inl (gI G, 8, .inl (aN pl)) := (fr_4 (19 + 4 * i + 2) (by omega)).trans e6
    have e_12 : w_2 (19 + 4 * i + 3) = .inl (gI G, 8, .inl (aN sp)) := (fr_4 (19 + 4 * i + 3) (by omega)).trans e7
    refine lv_aload_n hx hb dX5_add_25 rfl (lv_at hl 0 rfl) ?_
    refine f_get (C := RX5) (T := TX5) (N := 4) hx hb hts (by decide +kernel) hown hK hP 6 (by omega) e_5 rfl 1 (by decide) (hts (.fieldLink RX5 15 "KeptMoving$Scene" "places" "[I") (by decide +kernel)) (fun _ h9 => h9) rfl dX5_add_26 ?_
    refine lv_aload_n hx hb dX5_add_29 rfl (lv_at hl 0 rfl) ?_
    refine f_get (C := RX5) (T := TX5) (N := 4) hx hb hts (by decide +kernel) hown hK hP 6 (by omega) e_5 rfl 3 (by decide) (hts (.fieldLink RX5 22 "KeptMoving$Scene" "size" "I") (by decide +kernel)) (fun _ h9 => h9) rfl dX5_add_30 ?_
    refine lv_aload_n hx hb dX5_add_33 rfl (lv_at hl 1 rfl) ?_
    refine lv_iload_n hx hb dX5_add_34 rfl (lv_at hl 2 rfl) ?_
    refine vp_callSi (va_Run.run (va_runVN (As := [.int (iN t)]) (rest := [.int (iN ((sz : Nat) : Int)), .ref (gad G 8)]) ⟨hx, hb, hml, hown, hts⟩ (c_X0_placeAt l G w_2 i st pl sp np stop t e_9 e_10 e_11 e_12 (p0) (p1) (p2) (p4)) ⟨va_cnB 1 hts gX5_add_X0_placeAt_n31 rfl rfl rfl (hK.nm 24 rfl) (hts (.initialized RX0) (by decide +kernel)) (by decide +kernel) ⟨Nat.le_of_ble_eq_true rfl, Nat.le_of_ble_eq_true rfl⟩, hts (.instanceMethod yX0_placeAt) (by decide +kernel), hts (.selects RX0 yX0_placeAt yX0_placeAt) (by decide +kernel)⟩ (f_preV hP hK (19 + 4 * i) (by omega) 0 e_9 rfl) rfl rfl hl.1 rfl (lv_room (Nat.le_of_ble_eq_true rfl)) dX5_add_35 ⟨Nat.zero_le _, Nat.zero_le _⟩)) (fun r_13 hr_13 => ?_)
    rw [show r_13 = iN (upAt st pl sp np t 1) from hr_13]
    refine n_iast hx hb hK hP hS hAA 8 (by omega) e_7 (fun _ => rfl) sz rfl (by omega) (by decide) dX5_add_38 (fun H locs hP hS => ?_)
    obtain ⟨w_14, hw_15⟩ : ∃ z : WF, z = va_up w_2 8 (.inl (gI G, 10, .inl (aN (va_up ps sz (upAt st pl sp np t 1))))) := ⟨_, rfl⟩
    rw [← hw_15] at hP
    have fr_16 : ∀ k : Nat, k ≠ 8 → w_14 k = w_2 k := fun k h => by rw [hw_15]; exact va_up_ne _ _ h
    have e_17 : w_14 6 = .inr (4, [.ref (gad G 7), .ref (gad G 8), .ref (gad G 9), .int (iN ((sz : Nat) : Int))]) := (fr_16 6 (by omega)).trans e_5
    have e_18 : w_14 7 = .inl (gZ G, 10, .inl (aN (va_up th sz (if (st 0 * 1 ≤ t ∧ (stop = -1 ∨ t < stop * 1)) then 1 else 0)))) := (fr_16 7 (by omega)).trans e_6
    have e_19 : w_14 8 = .inl (gI G, 10, .inl (aN (va_up ps sz (upAt st pl sp np t 1)))) := by rw [hw_15]; exact va_up_self _ _ _
    have e_20 : w_14 9 = .inl (gI G, 10, .inl (aN vs)) := (fr_16 9 (by omega)).trans e_8
    have e_21 : w_14 (19 + 4 * i) = .inr (0, [.ref (gad G (19 + 4 * i + 1)), .ref (gad G (19 + 4 * i + 2)), .ref (gad G (19 + 4 * i + 3)), .int (iN ((np : Nat) : Int)), .int (iN stop)]) := (fr_16 (19 + 4 * i) (by omega)).trans e_9
    have e_22 : w_14 (19 + 4 * i + 1) = .inl (gI G, 8, .inl (aN st)) := (fr_16 (19 + 4 * i + 1) (by omega)).trans e_10
    have e_23 : w_14 (19 + 4 * i + 2) = .inl (gI G, 8, .inl (aN pl)) := (fr_16 (19 + 4 * i + 2) (by omega)).trans e_11
    have e_24 : w_14 (19 + 4 * i + 3) = .inl (gI G, 8, .inl (aN sp)) := (fr_16 (19 + 4 * i + 3) (by omega)).trans e_12
    refine lv_aload_n hx hb dX5_add_39 rfl (lv_at hl 0 rfl) ?_
    refine f_get (C := RX5) (T := TX5) (N := 4) hx hb hts (by decide +kernel) hown hK hP 6 (by omega) e_17 rfl 2 (by decide) (hts (.fieldLink RX5 19 "KeptMoving$Scene" "speeds" "[I") (by decide +kernel)) (fun _ h9 => h9) rfl dX5_add_40 ?_
    refine lv_aload_n hx hb dX5_add_43 rfl (lv_at hl 0 rfl) ?_
    refine f_get (C := RX5) (T := TX5) (N := 4) hx hb hts (by decide +kernel) hown hK hP 6 (by omega) e_17 rfl 3 (by decide) (hts (.fieldLink RX5 22 "KeptMoving$Scene" "size" "I") (by decide +kernel)) (fun _ h9 => h9) rfl dX5_add_44 ?_
    refine lv_aload_n hx hb dX5_add_47 rfl (lv_at hl 1 rfl) ?_
    refine lv_iload_n hx hb dX5_add_48 rfl (lv_at hl 2 rfl) ?_
    refine vp_callSi (va_Run.run (va_runVN (As := [.int (iN t)]) (rest := [.int (iN ((sz : Nat) : Int)), .ref (gad G 9)]) ⟨hx, hb, hml, hown, hts⟩ (c_X0_speedAt l G w_14 i st pl sp np stop t e_21 e_22 e_23 e_24 (p0) (p1) (p2) (p4)) ⟨va_cnB 1 hts gX5_add_X0_speedAt_n35 rfl rfl rfl (hK.nm 25 rfl) (hts (.initialized RX0) (by decide +kernel)) (by decide +kernel) ⟨Nat.le_of_ble_eq_true rfl, Nat.le_of_ble_eq_true rfl⟩, hts (.instanceMethod yX0_speedAt) (by decide +kernel), hts (.selects RX0 yX0_speedAt yX0_speedAt) (by decide +kernel)⟩ (f_preV hP hK (19 + 4 * i) (by omega) 0 e_21 rfl) rfl rfl hl.1 rfl (lv_room (Nat.le_of_ble_eq_true rfl)) dX5_add_49 ⟨Nat.zero_le _, Nat.zero_le _⟩)) (fun r_25 hr_25 => ?_)
    rw [show r_25 = iN (spAt st sp np t) from hr_25]
    refine n_iast hx hb hK hP hS hAA 9 (by omega) e_20 (fun _ => rfl) sz rfl (by omega) (by decide) dX5_add_52 (fun H locs hP hS => ?_)
    obtain ⟨w_26, hw_27⟩ : ∃ z : WF, z = va_up w_14 9 (.inl (gI G, 10, .inl (aN (va_up vs sz (spAt st sp np t))))) := ⟨_, rfl⟩
    rw [← hw_27] at hP
    have fr_28 : ∀ k : Nat, k ≠ 9 → w_26 k = w_14 k := fun k h => by rw [hw_27]; exact va_up_ne _ _ h
    have e_29 : w_26 6 = .inr (4, [.ref (gad G 7), .ref (gad G 8), .ref (gad G 9), .int (iN ((sz : Nat) : Int))]) := (fr_28 6 (by omega)).trans e_17
    have e_30 : w_26 7 = .inl (gZ G, 10, .inl (aN (va_up th sz (if (st 0 * 1 ≤ t ∧ (stop = -1 ∨ t < stop * 1)) then 1 else 0)))) := (fr_28 7 (by omega)).trans e_18
    have e_31 : w_26 8 = .inl (gI G, 10, .inl (aN (va_up ps sz (upAt st pl sp np t 1)))) := (fr_28 8 (by omega)).trans e_19
    have e_32 : w_26 9 = .inl (gI G, 10, .inl (aN (va_up vs sz (spAt st sp np t)))) := by rw [hw_27]; exact va_up_self _ _ _
    have e_33 : w_26 (19 + 4 * i) = .inr (0, [.ref (gad G (19 + 4 * i + 1)), .ref (gad G (19 + 4 * i + 2)), .ref (gad G (19 + 4 * i + 3)), .int (iN ((np : Nat) : Int)), .int (iN stop)]) := (fr_28 (19 + 4 * i) (by omega)).trans e_21
    have e_34 : w_26 (19 + 4 * i + 1) = .inl (gI G, 8, .inl (aN st)) := (fr_28 (19 + 4 * i + 1) (by omega)).trans e_22
    have e_35 : w_26 (19 + 4 * i + 2) = .inl (gI G, 8, .inl (aN pl)) := (fr_28 (19 + 4 * i + 2) (by omega)).trans e_23
    have e_36 : w_26 (19 + 4 * i + 3) = .inl (gI G, 8, .inl (aN sp)) := (fr_28 (19 + 4 * i + 3) (by omega)).trans e_24
    refine lv_aload_n hx hb dX5_add_53 rfl (lv_at hl 0 rfl) ?_
    refine lv_dup hx hb dX5_add_54 rfl ?_
    refine f_get (C := RX5) (T := TX5) (N := 4) hx hb hts (by decide +kernel) hown hK hP 6 (by omega) e_29 rfl 3 (by decide) (hts (.fieldLink RX5 22 "KeptMoving$Scene" "size" "I") (by decide +kernel)) (fun _ h9 => h9) rfl dX5_add_55 ?_
    refine n_iconst hx hb dX5_add_58 ?_
    refine n_iadd hx hb dX5_add_59 ?_
    rw [show ((sz : Nat) : Int) + 1 = ((sz + 1 : Nat) : Int) by omega]
    refine f_put (v := .int (iN ((sz + 1 : Nat) : Int))) (ty := .int) (C := RX5) (T := TX5) (N := 4) hx hb hts (by decide +kernel) tyX5 tyX5_ok nmX5 hown hK hP hS hAA 6 (by omega) e_29 rfl 3 (by decide) (hts (.fieldLink RX5 22 "KeptMoving$Scene" "size" "I") (by decide +kernel)) (fun _ h9 => h9) rfl (by decide +kernel) (rfl) (rfl) (Nat.le_of_ble_eq_true rfl) (rfl) dX5_add_60 (fun H locs hP hS => ?_)
    have hP : PW G (va_up w_26 6 (.inr (4, [.ref (gad G 7), .ref (gad G 8), .ref (gad G 9), .int (iN ((sz + 1 : Nat) : Int))]))) H := hP
    obtain ⟨w_37, hw_38⟩ : ∃ z : WF, z = va_up w_26 6 (.inr (4, [.ref (gad G 7), .ref (gad G 8), .ref (gad G 9), .int (iN ((sz + 1 : Nat) : Int))])) := ⟨_, rfl⟩
    rw [← hw_38] at hP
    have fr_39 : ∀ k : Nat, k ≠ 6 → w_37 k = w_26 k := fun k h => by rw [hw_38]; exact va_up_ne _ _ h
    have e_40 : w_37 6 = .inr (4, [.ref (gad G 7), .ref (gad G 8), .ref (gad G 9), .int (iN ((sz + 1 : Nat) : Int))]) := by rw [hw_38]; exact va_up_self _ _ _
    have e_41 : w_37 7 = .inl (gZ G, 10, .inl (aN (va_up th sz (if (st 0 * 1 ≤ t ∧ (stop = -1 ∨ t < stop * 1)) then 1 else 0)))) := (fr_39 7 (by omega)).trans e_30
    have e_42 : w_37 8 = .inl (gI G, 10, .inl (aN (va_up ps sz (upAt st pl sp np t 1)))) := (fr_39 8 (by omega)).trans e_31
    have e_43 : w_37 9 = .inl (gI G, 10, .inl (aN (va_up vs sz (spAt st sp np t)))) := (fr_39 9 (by omega)).trans e_32
    have e_44 : w_37 (19 + 4 * i) = .inr (0, [.ref (gad G (19 + 4 * i + 1)), .ref (gad G (19 + 4 * i + 2)), .ref (gad G (19 + 4 * i + 3)), .int (iN ((np : Nat) : Int)), .int (iN stop)]) := (fr_39 (19 + 4 * i) (by omega)).trans e_33
    have e_45 : w_37 (19 + 4 * i + 1) = .inl (gI G, 8, .inl (aN st)) := (fr_39 (19 + 4 * i + 1) (by omega)).trans e_34
    have e_46 : w_37 (19 + 4 * i + 2) = .inl (gI G, 8, .inl (aN pl)) := (fr_39 (19 + 4 * i + 2) (by omega)).trans e_35
    have e_47 : w_37 (19 + 4 * i + 3) = .inl (gI G, 8, .inl (aN sp)) := (fr_39 (19 + 4 * i + 3) (by omega)).trans e_36
    exact r_v hx hb hr dX5_add_63 hlocks hP hS (⟨(fun k h0 h1 h2 h3 => ((((((fr_39 k (by omega)).trans (fr_28 k (by omega)))).trans (fr_16 k (by omega)))).trans (fr_4 k (by omega)))), e_40, e_41, e_42, e_43⟩)
  · exact absurd p5 (by omega)

set_option maxHeartbeats 4000000 in
set_option maxRecDepth 100000 in
theorem c_X5_has (l : Launch) (G : GE) (w : WF) (sz : Nat) (th : Nat → Int) (ps : Nat → Int) (vs : Nat → Int) (j : Nat) (e0 : w 6 = .inr (4, [.ref (gad G 7), .ref (gad G 8), .ref (gad G 9), .int (iN ((sz : Nat) : Int))])) (e1 : w 7 = .inl (gZ G, 10, .inl (aN th))) (e2 : w 8 = .inl (gI G, 10, .inl (aN ps))) (e3 : w 9 = .inl (gI G, 10, .inl (aN vs))) (p0 : j < sz) (p1 : sz ≤ 10) (p2 : th j = 0 ∨ th j = 1) : Met l yX5_has wsX5_has ({ frames := 0, cells := 0, slots := 0, locals := 0 }) (PcG G w [.ref (gad G 6), .int (iN ((j : Nat) : Int))]) (vp_Si (fun r => r = iN (if (th j ≠ 0) then 1 else 0))) 0 0 (fun _ => False) := by
  refine Met.ofW (cc := cX5_has) (maxL := 2) (ret := (some .boolean)) (by decide) rfl ?_
  intro p e s m args below meth c s₁ B hml hv
  obtain ⟨rfl, hP, hK⟩ := hv
  have hx := B.exec
  have hb := B.bytes
  have hr := B.returns
  have hts := atoms_spec (ws := wsX5_has) B.pre
  have hown : s.vm.findClass RX5 = some m.cls := findClass_of_methodNamed B.named
  have hlocks := B.notSynchronized
  have hl := lv_entry ([.ref (gad G 6), .int (iN ((j : Nat) : Int))]) (n := 2) (Nat.le_of_ble_eq_true rfl)
  rw [lg_entry_eq]
  generalize (lg_sl ([.ref (gad G 6), .int (iN ((j : Nat) : Int))]) ++ List.replicate (2 - (lg_sl ([.ref (gad G 6), .int (iN ((j : Nat) : Int))])).length) Slot.unset).toArray = ls at hl ⊢
  have hl : lv_has ls 2 [(0, .ref (gad G 6)), (1, .int (iN ((j : Nat) : Int)))] := hl
  refine lv_iload_n hx hb dX5_has_0 rfl (lv_at hl 1 rfl) ?_
  refine n_if_lt (tgt := 25) hx hb dX5_has_1 (by decide) (by omega) (by omega) (fun c_1 => ?_) (fun c_1 => ?_)
  · refine n_iconst hx hb dX5_has_25 ?_
    exact r_z0 hx hb hr dX5_has_26 hlocks (show iN 0 = iN (if (th j ≠ 0) then 1 else 0) by rw [if_neg (by omega)])
  · refine lv_iload_n hx hb dX5_has_4 rfl (lv_at hl 1 rfl) ?_
    refine lv_aload_n hx hb dX5_has_5 rfl (lv_at hl 0 rfl) ?_
    refine f_get (C := RX5) (T := TX5) (N := 4) hx hb hts (by decide +kernel) hown hK hP 6 (by omega) e0 rfl 3 (by decide) (hts (.fieldLink RX5 22 "KeptMoving$Scene" "size" "I") (by decide +kernel)) (fun _ h9 => h9) rfl dX5_has_6 ?_
    refine n_icmp_ge (tgt := 25) hx hb dX5_has_9 (by decide) (by omega) (by omega) (by omega) (by omega) (fun c_9 => ?_) (fun c_9 => ?_)
    · refine n_iconst hx hb dX5_has_25 ?_
      exact r_z0 hx hb hr dX5_has_26 hlocks (show iN 0 = iN (if (th j ≠ 0) then 1 else 0) by rw [if_neg (by omega)])
    · refine lv_aload_n hx hb dX5_has_12 rfl (lv_at hl 0 rfl) ?_
      refine f_get (C := RX5) (T := TX5) (N := 4) hx hb hts (by decide +kernel) hown hK hP 6 (by omega) e0 rfl 0 (by decide) (hts (.fieldLink RX5 9 "KeptMoving$Scene" "isThere" "[Z") (by decide +kernel)) (fun _ h9 => h9) rfl dX5_has_13 ?_
      refine lv_iload_n hx hb dX5_has_16 rfl (lv_at hl 1 rfl) ?_
      refine n_zald hx hb hK hP 7 (by omega) e1 j rfl (by omega) (by decide) dX5_has_17 ?_
      refine n_if_eq (tgt := 25) hx hb dX5_has_18 (by decide) (by omega) (by omega) (fun c_18 => ?_) (fun c_18 => ?_)
      · refine n_iconst hx hb dX5_has_25 ?_
        exact r_z0 hx hb hr dX5_has_26 hlocks (show iN 0 = iN (if (th j ≠ 0) then 1 else 0) by rw [if_neg (by omega)])
      · refine n_iconst hx hb dX5_has_21 ?_
        refine lv_goto (tgt := 26) hx hb dX5_has_22 (by decide) ?_
        exact r_z1 hx hb hr dX5_has_26 hlocks (show iN 1 = iN (if (th j ≠ 0) then 1 else 0) by rw [if_pos (by omega)])

set_option maxHeartbeats 4000000 in
set_option maxRecDepth 100000 in
theorem c_X5_gap (l : Launch) (G : GE) (w : WF) (sz : Nat) (th : Nat → Int) (ps : Nat → Int) (vs : Nat → Int) (j : Nat) (k : Nat) (e0 : w 6 = .inr (4, [.ref (gad G 7), .ref (gad G 8), .ref (gad G 9), .int (iN ((sz : Nat) : Int))])) (e1 : w 7 = .inl (gZ G, 10, .inl (aN th))) (e2 : w 8 = .inl (gI G, 10, .inl (aN ps))) (e3 : w 9 = .inl (gI G, 10, .inl (aN vs))) (p0 : j < 10) (p1 : k < 10) : Met l yX5_gap wsX5_gap ({ frames := 0, cells := 0, slots := 0, locals := 0 }) (PcG G w [.ref (gad G 6), .int (iN ((j : Nat) : Int)), .int (iN ((k : Nat) : Int))]) (vp_Si (fun r => r = iN (ps k - ps j))) 0 0 (fun _ => False) := by
  refine Met.ofW (cc := cX5_gap) (maxL := 3) (ret := (some .int)) (by decide) rfl ?_
  intro p e s m args below meth c s₁ B hml hv
  obtain ⟨rfl, hP, hK⟩ := hv
  have hx := B.exec
  have hb := B.bytes
  have hr := B.returns
  have hts := atoms_spec (ws := wsX5_gap) B.pre
  have hown : s.vm.findClass RX5 = some m.cls := findClass_of_methodNamed B.named
  have hlocks := B.notSynchronized
  have hl := lv_entry ([.ref (gad G 6), .int (iN ((j : Nat) : Int)), .int (iN ((k : Nat) : Int))]) (n := 3) (Nat.le_of_ble_eq_true rfl)
  rw [lg_entry_eq]
  generalize (lg_sl ([.ref (gad G 6), .int (iN ((j : Nat) : Int)), .int (iN ((k : Nat) : Int))]) ++ List.replicate (3 - (lg_sl ([.ref (gad G 6), .int (iN ((j : Nat) : Int)), .int (iN ((k : Nat) : Int))])).length) Slot.unset).toArray = ls at hl ⊢
  have hl : lv_has ls 3 [(0, .ref (gad G 6)), (1, .int (iN ((j : Nat) : Int))), (2, .int (iN ((k : Nat) : Int)))] := hl
  refine lv_aload_n hx hb dX5_gap_0 rfl (lv_at hl 0 rfl) ?_
  refine f_get (C := RX5) (T := TX5) (N := 4) hx hb hts (by decide +kernel) hown hK hP 6 (by omega) e0 rfl 1 (by decide) (hts (.fieldLink RX5 15 "KeptMoving$Scene" "places" "[I") (by decide +kernel)) (fun _ h9 => h9) rfl dX5_gap_1 ?_
  refine lv_iload_n hx hb dX5_gap_4 rfl (lv_at hl 2 rfl) ?_
  refine n_iald hx hb hK hP 8 (by omega) e2 k rfl (by omega) (by decide) dX5_gap_5 ?_
  refine lv_aload_n hx hb dX5_gap_6 rfl (lv_at hl 0 rfl) ?_
  refine f_get (C := RX5) (T := TX5) (N := 4) hx hb hts (by decide +kernel) hown hK hP 6 (by omega) e0 rfl 1 (by decide) (hts (.fieldLink RX5 15 "KeptMoving$Scene" "places" "[I") (by decide +kernel)) (fun _ h9 => h9) rfl dX5_gap_7 ?_
  refine lv_iload_n hx hb dX5_gap_10 rfl (lv_at hl 1 rfl) ?_
  refine n_iald hx hb hK hP 8 (by omega) e2 j rfl (by omega) (by decide) dX5_gap_11 ?_
  refine n_isub hx hb dX5_gap_12 ?_
  exact r_si hx hb hr dX5_gap_13 hlocks (show iN ((ps k) - (ps j)) = iN (ps k - ps j) from congrArg iN (by first | rfl | omega))

set_option maxHeartbeats 4000000 in
set_option maxRecDepth 100000 in
theorem c_X5_growth (l : Launch) (G : GE) (w : WF) (sz : Nat) (th : Nat → Int) (ps : Nat → Int) (vs : Nat → Int) (j : Nat) (k : Nat) (e0 : w 6 = .inr (4, [.ref (gad G 7), .ref (gad G 8), .ref (gad G 9), .int (iN ((sz : Nat) : Int))])) (e1 : w 7 = .inl (gZ G, 10, .inl (aN th))) (e2 : w 8 = .inl (gI G, 10, .inl (aN ps))) (e3 : w 9 = .inl (gI G, 10, .inl (aN vs))) (p0 : j < 10) (p1 : k < 10) : Met l yX5_growth wsX5_growth ({ frames := 0, cells := 0, slots := 0, locals := 0 }) (PcG G w [.ref (gad G 6), .int (iN ((j : Nat) : Int)), .int (iN ((k : Nat) : Int))]) (vp_Si (fun r => r = iN (vs k - vs j))) 0 0 (fun _ => False) := by
  refine Met.ofW (cc := cX5_growth) (maxL := 3) (ret := (some .int)) (by decide) rfl ?_
  intro p e s m args below meth c s₁ B hml hv
  obtain ⟨rfl, hP, hK⟩ := hv
  have hx := B.exec
  have hb := B.bytes
  have hr := B.returns
  have hts := atoms_spec (ws := wsX5_growth) B.pre
  have hown : s.vm.findClass RX5 = some m.cls := findClass_of_methodNamed B.named
  have hlocks := B.notSynchronized
  have hl := lv_entry ([.ref (gad G 6), .int (iN ((j : Nat) : Int)), .int (iN ((k : Nat) : Int))]) (n := 3) (Nat.le_of_ble_eq_true rfl)
  rw [lg_entry_eq]
  generalize (lg_sl ([.ref (gad G 6), .int (iN ((j : Nat) : Int)), .int (iN ((k : Nat) : Int))]) ++ List.replicate (3 - (lg_sl ([.ref (gad G 6), .int (iN ((j : Nat) : Int)), .int (iN ((k : Nat) : Int))])).length) Slot.unset).toArray = ls at hl ⊢
  have hl : lv_has ls 3 [(0, .ref (gad G 6)), (1, .int (iN ((j : Nat) : Int))), (2, .int (iN ((k : Nat) : Int)))] := hl
  refine lv_aload_n hx hb dX5_growth_0 rfl (lv_at hl 0 rfl) ?_
  refine f_get (C := RX5) (T := TX5) (N := 4) hx hb hts (by decide +kernel) hown hK hP 6 (by omega) e0 rfl 2 (by decide) (hts (.fieldLink RX5 19 "KeptMoving$Scene" "speeds" "[I") (by decide +kernel)) (fun _ h9 => h9) rfl dX5_growth_1 ?_
  refine lv_iload_n hx hb dX5_growth_4 rfl (lv_at hl 2 rfl) ?_
  refine n_iald hx hb hK hP 9 (by omega) e3 k rfl (by omega) (by decide) dX5_growth_5 ?_
  refine lv_aload_n hx hb dX5_growth_6 rfl (lv_at hl 0 rfl) ?_
  refine f_get (C := RX5) (T := TX5) (N := 4) hx hb hts (by decide +kernel) hown hK hP 6 (by omega) e0 rfl 2 (by decide) (hts (.fieldLink RX5 19 "KeptMoving$Scene" "speeds" "[I") (by decide +kernel)) (fun _ h9 => h9) rfl dX5_growth_7 ?_
  refine lv_iload_n hx hb dX5_growth_10 rfl (lv_at hl 1 rfl) ?_
  refine n_iald hx hb hK hP 9 (by omega) e3 j rfl (by omega) (by decide) dX5_growth_11 ?_
  refine n_isub hx hb dX5_growth_12 ?_
  exact r_si hx hb hr dX5_growth_13 hlocks (show iN ((vs k) - (vs j)) = iN (vs k - vs j) from congrArg iN (by first | rfl | omega))
