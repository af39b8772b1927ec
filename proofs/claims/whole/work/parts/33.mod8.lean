theorem upAt_rngB {st pl sp : Nat → Int} {np : Nat} {stop n d : Int} (h : OKC st pl sp np stop) (hd : 1 ≤ d ∧ d ≤ 20000) (hn : 0 ≤ n ∧ n ≤ 600 * d) : -2000000000 ≤ upAt st pl sp np n d ∧ upAt st pl sp np n d ≤ 2000000000 := by
  obtain ⟨h1, h2, -, h3⟩ := h
  have hq := pcAt_lt st n d np h1.1
  unfold upAt
  generalize pcAt st n d np = q at hq
  have h4 := h2 q hq
  obtain ⟨h5, h6⟩ := h3 q hq
  have m1 := mb3 (a := st q) (b := d) (A := 400) (B := 20000) (by omega) (by omega)
  have m0 : 0 ≤ st q * d := Int.mul_nonneg h4.1 (by omega)
  have m2 : -(21000 * 20000) ≤ pl q * d ∧ pl q * d ≤ 21000 * 20000 := mb3 (by omega) (by omega)
  have m3 : -(50 * 20000000) ≤ sp q * (n - st q * d) ∧ sp q * (n - st q * d) ≤ 50 * 20000000 := mb3 (by omega) (by omega)
  omega
def upX (S : FS) (n d : Int) (i : Nat) : Int := upF S.1 S.2.1 S.2.2.1 S.2.2.2.1 n d i
def thX (S : FS) (n d : Int) (i : Nat) : Bool := thF S.1 S.2.2.2.2 n d i
/-- whether it is so at a moment -/
def soN (S : FS) (o o2 : Nat) (hg n d : Int) : Bool := decide ((thX S n d o = true ∧ thX S n d o2 = true) ∧ upX S n d o - upX S n d o2 ≤ hg * d ∧ -hg * d ≤ upX S n d o - upX S n d o2)
def fiR (S : FS) (o : Nat) (n d : Int) : Nat → Bool
  | 0 => thX S n d o
  | k + 1 => if thX S n d k = true then fiR S o n d k && decide (upX S n d k ≤ upX S n d o) else fiR S o n d k
def mnR (S : FS) (lw hg n d : Int) : Nat → Nat
  | 0 => 0
  | k + 1 => mnR S lw hg n d k + (if thX S n d k = true ∧ lw * d ≤ upX S n d k ∧ upX S n d k ≤ hg * d then 1 else 0)
def soX (S : FS) (came : Nat) (thg onn two lw hg n d : Int) : Bool := if thg = 0 then soN S onn.toNat two.toNat hg n d else if thg = 1 then fiR S onn.toNat n d came else decide (onn ≤ ((mnR S lw hg n d came : Nat) : Int))
theorem mnR_le (S : FS) (lw hg n d : Int) : ∀ k, mnR S lw hg n d k ≤ k
  | 0 => Nat.le_refl 0
  | k + 1 => by
    have := mnR_le S lw hg n d k
    unfold mnR
    split <;> omega
theorem mnR_y {S : FS} {lw hg n d : Int} {k : Nat} (h : thX S n d k = true ∧ lw * d ≤ upX S n d k ∧ upX S n d k ≤ hg * d) : mnR S lw hg n d k + 1 = mnR S lw hg n d (k + 1) := by
  show _ = mnR S lw hg n d k + (if _ then 1 else 0)
  rw [if_pos h]
theorem mnR_n {S : FS} {lw hg n d : Int} {k : Nat} (h : ¬ (thX S n d k = true ∧ lw * d ≤ upX S n d k ∧ upX S n d k ≤ hg * d)) : mnR S lw hg n d k + 0 = mnR S lw hg n d (k + 1) := by
  show _ = mnR S lw hg n d k + (if _ then 1 else 0)
  rw [if_neg h]
theorem fiR_y {S : FS} {o : Nat} {n d : Int} {k : Nat} (h : thX S n d k = true) : fiR S o n d (k + 1) = (fiR S o n d k && decide (upX S n d k ≤ upX S n d o)) := if_pos h
theorem fiR_n {S : FS} {o : Nat} {n d : Int} {k : Nat} (h : ¬ thX S n d k = true) : fiR S o n d (k + 1) = fiR S o n d k := if_neg h
theorem fi_1 {S : FS} {o : Nat} {n d : Int} {k : Nat} {P : Prop} (h : thX S n d k = true) (h1 : P ∨ fiR S o n d k = true) (h2 : P ∨ upX S n d k ≤ upX S n d o) : P ∨ fiR S o n d (k + 1) = true := by
  rcases h1 with h1 | h1
  · exact Or.inl h1
  · rcases h2 with h2 | h2
    · exact Or.inl h2
    · exact Or.inr (by rw [fiR_y h, h1, decide_eq_true h2]; rfl)
theorem fi_0 {S : FS} {o : Nat} {n d : Int} {k : Nat} {P : Prop} (h : thX S n d k = true) (h1 : ¬ (P ∨ fiR S o n d k = true) ∨ (¬ P ∧ ¬ upX S n d k ≤ upX S n d o)) : ¬ (P ∨ fiR S o n d (k + 1) = true) := by
  rw [fiR_y h, Bool.and_eq_true]
  rintro (z | z)
  · rcases h1 with h1 | h1
    · exact h1 (Or.inl z)
    · exact h1.1 z
  · rcases h1 with h1 | h1
    · exact h1 (Or.inr z.1)
    · exact h1.2 (of_decide_eq_true z.2)
theorem if_iff {P Q : Prop} [Decidable P] [Decidable Q] (h : P ↔ Q) : (if P then (1 : Int) else 0) = (if Q then 1 else 0) := by
  by_cases hp : P
  · rw [if_pos hp, if_pos (h.mp hp)]
  · rw [if_neg hp, if_neg (fun q => hp (h.mpr q))]

set_option maxHeartbeats 4000000 in
set_option maxRecDepth 100000 in
theorem c_X9_isSo (l : Launch) (G : GE) (w : WF) (now : Nat) (came : Nat) (rm : Nat) (mt : Nat) (tm : Nat) (thg : Int) (onn : Int) (two : Int) (lw : Int) (hg : Int) (sq : Nat) (ga : Nat → Int) (pn : Nat → Nat) (mbe : Nat → Int) (mpl : Nat → Int) (msp : Nat → Int) (n : Int) (d : Int) (e0 : w 59 = .inr (8, [.int (iN ((now : Nat) : Int)), .int (iN ((came : Nat) : Int)), .ref (gad G 60), .ref (gad G 61), .ref (gad G 62), .ref (gad G 63), .ref (gad G 64), .ref (gad G 65), .int (iN ((rm : Nat) : Int)), .int (iN ((mt : Nat) : Int)), .ref (gad G 66), .ref (gad G 67), .ref (gad G 68), .ref (gad G 69), .ref (gad G 70), .int (iN ((tm : Nat) : Int)), .ref (gad G 71), .ref (gad G 72), .int (iN thg), .int (iN onn), .int (iN two), .long (jN lw), .long (jN hg), .int (iN ((sq : Nat) : Int)), .ref (gad G 73), .ref (gad G 74)])) (e1 : w 60 = .inl (gI G, 10, .inl (aN ga))) (e2 : w 61 = .inl (gI G, 10, .inl (aN (pnI pn)))) (e3 : w 62 = .inl (gI G, 80, .inl (aN mbe))) (e4 : w 63 = .inl (gI G, 80, .inl (aN mpl))) (e5 : w 64 = .inl (gI G, 80, .inl (aN msp))) (p0 : OKS came (rw8 mbe) (rw8 mpl) (rw8 msp) pn ga) (p1 : thg = 0 ∨ thg = 1 ∨ thg = 2) (p2 : thg = 0 → (0 ≤ onn ∧ onn < (came : Int)) ∧ (0 ≤ two ∧ two < (came : Int))) (p3 : thg = 1 → 0 ≤ onn ∧ onn < (came : Int)) (p4 : 0 ≤ onn ∧ onn ≤ 10) (p5 : -60000 ≤ lw ∧ lw ≤ 60000) (p6 : -60000 ≤ hg ∧ hg ≤ 60000) (p7 : 1 ≤ d ∧ d ≤ 20000) (p8 : 0 ≤ n ∧ n ≤ 600 * d) : Met l yX9_isSo wsX9_isSo ({ frames := 2, cells := 0, slots := 0, locals := 51 }) (PcG G w [.ref (gad G 59), .long (jN n), .long (jN d)]) (vp_Si (fun r => r = iN (if soX (rw8 mbe, rw8 mpl, rw8 msp, pn, ga) came thg onn two lw hg n d = true then 1 else 0))) 0 0 (fun _ => False) := by
  refine Met.ofW (cc := cX9_isSo) (maxL := 10) (ret := (some .boolean)) (by decide) rfl ?_
  intro p e s m args below meth c s₁ B hml hv
  obtain ⟨rfl, hP, hK⟩ := hv
  have hx := B.exec
  have hb := B.bytes
  have hr := B.returns
  have hts := atoms_spec (ws := wsX9_isSo) B.pre
  have hown : s.vm.findClass RX9 = some m.cls := findClass_of_methodNamed B.named
  have hlocks := B.notSynchronized
  have hl := lv_entry ([.ref (gad G 59), .long (jN n), .long (jN d)]) (n := 10) (Nat.le_of_ble_eq_true rfl)
  rw [lg_entry_eq]
  generalize (lg_sl ([.ref (gad G 59), .long (jN n), .long (jN d)]) ++ List.replicate (10 - (lg_sl ([.ref (gad G 59), .long (jN n), .long (jN d)])).length) Slot.unset).toArray = ls at hl ⊢
  have hl : lv_has ls 10 [(0, .ref (gad G 59)), (1, .long (jN n)), (3, .long (jN d))] := hl
  have hc10 : came ≤ 10 := p0.1
  have hml1 := mb3 (a := lw) (b := d) (A := 60000) (B := 20000) (by omega) (by omega)
  have hml2 := mb3 (a := hg) (b := d) (A := 60000) (B := 20000) (by omega) (by omega)
  have hml3 := mb3 (a := -hg) (b := d) (A := 60000) (B := 20000) (by omega) (by omega)
  refine lv_aload_n hx hb dX9_isSo_0 rfl (lv_at hl 0 rfl) ?_
  refine f_get (C := RX9) (T := TX9) (N := 26) hx hb hts (by decide +kernel) hown hK hP 59 (by omega) e0 rfl 18 (by decide) (hts (.fieldLink RX9 182 "KeptMovingModel" "thing" "I") (by decide +kernel)) (fun _ h9 => h9) rfl dX9_isSo_1 ?_
  refine n_if_ne (tgt := 78) hx hb dX9_isSo_4 (by decide) (by omega) (by omega) (fun c_4 => ?_) (fun c_4 => ?_)
  · have K112 : ∀ (N : Nat) (k : Nat) (ls : Array Slot), (k ≤ came) → 11 - k < N → lv_has ls 10 [(0, .ref (gad G 59)), (1, .long (jN n)), (3, .long (jN d)), (5, .int (iN ((mnR (rw8 mbe, rw8 mpl, rw8 msp, pn, ga) lw hg n d k : Nat) : Int))), (6, .int (iN (if thg = 2 ∨ fiR (rw8 mbe, rw8 mpl, rw8 msp, pn, ga) onn.toNat n d k = true then 1 else 0))), (7, .int (iN ((k : Nat) : Int)))] → W p l e (headSpec wsX9_isSo ({ frames := 2, cells := 0, slots := 0, locals := 51 })).room s m (([.ref (gad G 59), .long (jN n), .long (jN d)] : List Value).toArray) below meth c s.heap [] 0 0 (MQ below (vp_Si (fun r => r = iN (if soX (rw8 mbe, rw8 mpl, rw8 msp, pn, ga) came thg onn two lw hg n d = true then 1 else 0))) (([.ref (gad G 59), .long (jN n), .long (jN d)] : List Value).toArray) s 0 0 (fun _ => False)) (F0 m 112 ls []) := by
      intro N
      induction N with
      | zero =>
        intros
        exfalso
        omega
      | succ N ih112 =>
        intro k ls i112_0 hN112 hl
        refine lv_iload hx hb dX9_isSo_112 (lv_at hl 5 rfl) ?_
        refine lv_aload_n hx hb dX9_isSo_114 rfl (lv_at hl 0 rfl) ?_
        refine f_get (C := RX9) (T := TX9) (N := 26) hx hb hts (by decide +kernel) hown hK hP 59 (by omega) e0 rfl 1 (by decide) (hts (.fieldLink RX9 57 "KeptMovingModel" "points" "I") (by decide +kernel)) (fun _ h9 => h9) rfl dX9_isSo_115 ?_
        refine n_icmp_ge (tgt := 218) hx hb dX9_isSo_118 (by decide) (by omega) (by omega) (by omega) (by omega) (fun c_118 => ?_) (fun c_118 => ?_)
        · have hmn := mnR_le (rw8 mbe, rw8 mpl, rw8 msp, pn, ga) lw hg n d k
          refine lv_aload_n hx hb dX9_isSo_218 rfl (lv_at hl 0 rfl) ?_
          refine f_get (C := RX9) (T := TX9) (N := 26) hx hb hts (by decide +kernel) hown hK hP 59 (by omega) e0 rfl 18 (by decide) (hts (.fieldLink RX9 182 "KeptMovingModel" "thing" "I") (by decide +kernel)) (fun _ h9 => h9) rfl dX9_isSo_219 ?_
          refine n_iconst hx hb dX9_isSo_222 ?_
          refine n_icmp_ne (tgt := 231) hx hb dX9_isSo_223 (by decide) (by omega) (by omega) (by omega) (by omega) (fun c_223 => ?_) (fun c_223 => ?_)
          · refine lv_iload hx hb dX9_isSo_231 (lv_at hl 3 rfl) ?_
            refine lv_aload_n hx hb dX9_isSo_233 rfl (lv_at hl 0 rfl) ?_
            refine f_get (C := RX9) (T := TX9) (N := 26) hx hb hts (by decide +kernel) hown hK hP 59 (by omega) e0 rfl 19 (by decide) (hts (.fieldLink RX9 185 "KeptMovingModel" "one" "I") (by decide +kernel)) (fun _ h9 => h9) rfl dX9_isSo_234 ?_
            refine n_icmp_lt (tgt := 244) hx hb dX9_isSo_237 (by decide) (by omega) (by omega) (by omega) (by omega) (fun c_237 => ?_) (fun c_237 => ?_)
            · refine n_iconst hx hb dX9_isSo_244 ?_
              exact r_z0 hx hb hr dX9_isSo_245 hlocks (show iN 0 = iN (if soX (rw8 mbe, rw8 mpl, rw8 msp, pn, ga) came thg onn two lw hg n d = true then 1 else 0) by rw [if_neg (fun z : soX (rw8 mbe, rw8 mpl, rw8 msp, pn, ga) came thg onn two lw hg n d = true => by unfold soX at z; rw [if_neg (show ¬ thg = 0 by omega), if_neg (show ¬ thg = 1 by omega), show came = k by omega] at z; have z0 := of_decide_eq_true z; omega)])
            · refine n_iconst hx hb dX9_isSo_240 ?_
              refine lv_goto (tgt := 245) hx hb dX9_isSo_241 (by decide) ?_
              exact r_z1 hx hb hr dX9_isSo_245 hlocks (show iN 1 = iN (if soX (rw8 mbe, rw8 mpl, rw8 msp, pn, ga) came thg onn two lw hg n d = true then 1 else 0) by rw [if_pos (show soX (rw8 mbe, rw8 mpl, rw8 msp, pn, ga) came thg onn two lw hg n d = true by unfold soX; rw [if_neg (show ¬ thg = 0 by omega), if_neg (show ¬ thg = 1 by omega), show came = k by omega]; exact decide_eq_true (by omega))])
          · refine lv_iload hx hb dX9_isSo_226 (lv_at hl 4 rfl) ?_
            refine lv_goto (tgt := 245) hx hb dX9_isSo_228 (by decide) ?_
            exact r_sz hx hb hr dX9_isSo_245 hlocks (congrArg iN (if_iff (show (thg = 2 ∨ fiR (rw8 mbe, rw8 mpl, rw8 msp, pn, ga) onn.toNat n d k = true) ↔ soX (rw8 mbe, rw8 mpl, rw8 msp, pn, ga) came thg onn two lw hg n d = true by unfold soX; rw [if_neg (show ¬ thg = 0 by omega), if_pos (show thg = 1 by omega), show came = k by omega]; exact ⟨fun z => z.resolve_left (by omega), Or.inr⟩)))
        · have hOg : OKC (rw8 mbe k) (rw8 mpl k) (rw8 msp k) (pn k) (ga k) := p0.2 k (by omega)
          obtain ⟨gv1, gv2, gv3, gv4⟩ := id hOg
          have gv20 := gv2 0 (by omega)
          have gu : -2000000000 ≤ upX (rw8 mbe, rw8 mpl, rw8 msp, pn, ga) n d k ∧ upX (rw8 mbe, rw8 mpl, rw8 msp, pn, ga) n d k ≤ 2000000000 := upAt_rngB hOg p7 p8
          refine lv_aload_n hx hb dX9_isSo_121 rfl (lv_at hl 0 rfl) ?_
          refine lv_iload hx hb dX9_isSo_122 (lv_at hl 5 rfl) ?_
          refine lv_lload_n hx hb dX9_isSo_124 rfl (lv_at hl 1 rfl) ?_
          refine lv_lload_n hx hb dX9_isSo_125 rfl (lv_at hl 2 rfl) ?_
          refine vp_callSi (W.runV (As := [.int (iN ((k : Nat) : Int)), .long (jN n), .long (jN d)]) (rest := []) ⟨hx, hb, hml, hown, hts⟩ (c_X9_isThere l G w now came rm mt tm thg onn two lw hg sq ga pn mbe mpl msp k n d e0 e1 e2 e3 e4 e5 (by omega) (gv20) (gv3) (by omega) (by omega)) (cwV 3 hts gX9_isSo_X9_isThere rfl rfl rfl (by decide +kernel) ⟨Nat.le_of_ble_eq_true rfl, Nat.le_of_ble_eq_true rfl⟩) (f_preV hP hK 59 (by omega) 8 e0 rfl) rfl rfl hl.1 rfl (lv_room (Nat.le_of_ble_eq_true rfl)) dX9_isSo_126 ⟨Nat.zero_le _, Nat.zero_le _⟩) (fun r_1 hr_1 => ?_)
          rw [show r_1 = iN (if (rw8 mbe k 0 * d ≤ n ∧ (ga k = -1 ∨ n < ga k * d)) then 1 else 0) from hr_1]
          refine n_ifb_eq (tgt := 212) hx hb dX9_isSo_129 (by decide) (fun c_129 => ?_) (fun c_129 => ?_)
          · have hth : ¬ thX (rw8 mbe, rw8 mpl, rw8 msp, pn, ga) n d k = true := fun z => c_129 (of_decide_eq_true z)
            have hz_2 : ((if thg = 2 ∨ fiR (rw8 mbe, rw8 mpl, rw8 msp, pn, ga) onn.toNat n d k = true then 1 else 0) : Int) = (if thg = 2 ∨ fiR (rw8 mbe, rw8 mpl, rw8 msp, pn, ga) onn.toNat n d (k + 1) = true then 1 else 0) := by rw [fiR_n hth]
            have hl : lv_has ls 10 [(0, .ref (gad G 59)), (1, .long (jN n)), (3, .long (jN d)), (5, .int (iN ((mnR (rw8 mbe, rw8 mpl, rw8 msp, pn, ga) lw hg n d k : Nat) : Int))), (6, .int (iN (if thg = 2 ∨ fiR (rw8 mbe, rw8 mpl, rw8 msp, pn, ga) onn.toNat n d (k + 1) = true then 1 else 0))), (7, .int (iN ((k : Nat) : Int)))] := by rw [← hz_2]; exact hl
            have hz_3 : mnR (rw8 mbe, rw8 mpl, rw8 msp, pn, ga) lw hg n d k = mnR (rw8 mbe, rw8 mpl, rw8 msp, pn, ga) lw hg n d (k + 1) := by have hz := mnR_n (S := (rw8 mbe, rw8 mpl, rw8 msp, pn, ga)) (lw := lw) (hg := hg) (n := n) (d := d) (k := k) (fun z => hth z.1); omega
            have hl : lv_has ls 10 [(0, .ref (gad G 59)), (1, .long (jN n)), (3, .long (jN d)), (5, .int (iN ((mnR (rw8 mbe, rw8 mpl, rw8 msp, pn, ga) lw hg n d (k + 1) : Nat) : Int))), (6, .int (iN (if thg = 2 ∨ fiR (rw8 mbe, rw8 mpl, rw8 msp, pn, ga) onn.toNat n d (k + 1) = true then 1 else 0))), (7, .int (iN ((k : Nat) : Int)))] := by rw [← hz_3]; exact hl
            refine lv_iinc (v := iN ((k + 1 : Nat) : Int)) (lv' := [(7, .int (iN ((k + 1 : Nat) : Int))), (0, .ref (gad G 59)), (1, .long (jN n)), (3, .long (jN d)), (5, .int (iN ((mnR (rw8 mbe, rw8 mpl, rw8 msp, pn, ga) lw hg n d (k + 1) : Nat) : Int))), (6, .int (iN (if thg = 2 ∨ fiR (rw8 mbe, rw8 mpl, rw8 msp, pn, ga) onn.toNat n d (k + 1) = true then 1 else 0)))]) hx hb dX9_isSo_212 hl (k := 5) rfl (iN_incN _) (by decide) rfl (fun ls hl => ?_)
            refine lv_goto (tgt := 112) hx hb dX9_isSo_215 (by decide) ?_
            exact ih112 (k + 1) _ (by omega) (by omega) (lv_sub hl [1, 2, 3, 4, 5, 0] rfl)
          · refine lv_aload_n hx hb dX9_isSo_132 rfl (lv_at hl 0 rfl) ?_
            refine lv_iload hx hb dX9_isSo_133 (lv_at hl 5 rfl) ?_
            refine lv_lload_n hx hb dX9_isSo_135 rfl (lv_at hl 1 rfl) ?_
            refine lv_lload_n hx hb dX9_isSo_136 rfl (lv_at hl 2 rfl) ?_
            refine vp_callSl (W.runV (As := [.int (iN ((k : Nat) : Int)), .long (jN n), .long (jN d)]) (rest := []) ⟨hx, hb, hml, hown, hts⟩ (c_X9_placeAt l G w now came rm mt tm thg onn two lw hg sq ga pn mbe mpl msp k n d e0 e1 e2 e3 e4 e5 (by omega) (gv1) (gv2) (gv4) (by omega) (by omega)) (cwV 3 hts gX9_isSo_X9_placeAt rfl rfl rfl (by decide +kernel) ⟨Nat.le_of_ble_eq_true rfl, Nat.le_of_ble_eq_true rfl⟩) (f_preV hP hK 59 (by omega) 8 e0 rfl) rfl rfl hl.1 rfl (lv_room (Nat.le_of_ble_eq_true rfl)) dX9_isSo_137 ⟨Nat.zero_le _, Nat.zero_le _⟩) (fun r_4 hr_4 => ?_)
            rw [show r_4 = jN (upAt (rw8 mbe k) (rw8 mpl k) (rw8 msp k) (pn k) n d) from hr_4]
            refine n_topL (A := upAt (rw8 mbe k) (rw8 mpl k) (rw8 msp k) (pn k) n d) (B := upX (rw8 mbe, rw8 mpl, rw8 msp, pn, ga) n d k) (by exact rfl) ?_
            refine lv_lstore (lv' := [(8, .long (jN (upX (rw8 mbe, rw8 mpl, rw8 msp, pn, ga) n d k))), (0, .ref (gad G 59)), (1, .long (jN n)), (3, .long (jN d)), (5, .int (iN ((mnR (rw8 mbe, rw8 mpl, rw8 msp, pn, ga) lw hg n d k : Nat) : Int))), (6, .int (iN (if thg = 2 ∨ fiR (rw8 mbe, rw8 mpl, rw8 msp, pn, ga) onn.toNat n d k = true then 1 else 0))), (7, .int (iN ((k : Nat) : Int)))]) hx hb dX9_isSo_140 hl (by decide) rfl (fun ls hl => ?_)
            refine lv_iload hx hb dX9_isSo_142 (lv_at hl 5 rfl) ?_
            refine n_ifb_eq (tgt := 175) hx hb dX9_isSo_144 (by decide) (fun c_144 => ?_) (fun c_144 => ?_)
            · refine n_iconst hx hb dX9_isSo_175 ?_
              refine lv_istore (lv' := [(6, .int (iN 0)), (8, .long (jN (upX (rw8 mbe, rw8 mpl, rw8 msp, pn, ga) n d k))), (0, .ref (gad G 59)), (1, .long (jN n)), (3, .long (jN d)), (5, .int (iN ((mnR (rw8 mbe, rw8 mpl, rw8 msp, pn, ga) lw hg n d k : Nat) : Int))), (7, .int (iN ((k : Nat) : Int)))]) hx hb dX9_isSo_176 hl (by decide) rfl (fun ls hl => ?_)
              refine lv_iload hx hb dX9_isSo_178 (lv_at hl 5 rfl) ?_
              refine lv_lload hx hb dX9_isSo_180 (lv_at hl 1 rfl) ?_
              refine lv_aload_n hx hb dX9_isSo_182 rfl (lv_at hl 2 rfl) ?_
              refine f_get (C := RX9) (T := TX9) (N := 26) hx hb hts (by decide +kernel) hown hK hP 59 (by omega) e0 rfl 21 (by decide) (hts (.fieldLink RX9 195 "KeptMovingModel" "low" "J") (by decide +kernel)) (fun _ h9 => h9) rfl dX9_isSo_183 ?_
              refine lv_lload_n hx hb dX9_isSo_186 rfl (lv_at hl 4 rfl) ?_
              refine n_lmul hx hb dX9_isSo_187 ?_
              refine n_lcmp hx hb (by omega) (by omega) (by omega) (by omega) dX9_isSo_188 ?_
              refine n_ifc_lt (tgt := 208) hx hb dX9_isSo_189 (by decide) (fun c_189 => ?_) (fun c_189 => ?_)
              · refine n_iconst hx hb dX9_isSo_208 ?_
                refine n_iadd hx hb dX9_isSo_209 ?_
                refine n_top (A := ((mnR (rw8 mbe, rw8 mpl, rw8 msp, pn, ga) lw hg n d k : Nat) : Int) + 0) (B := (((mnR (rw8 mbe, rw8 mpl, rw8 msp, pn, ga) lw hg n d k) + 0 : Nat) : Int)) (by omega) ?_
                refine lv_istore (lv' := [(5, .int (iN (((mnR (rw8 mbe, rw8 mpl, rw8 msp, pn, ga) lw hg n d k) + 0 : Nat) : Int))), (6, .int (iN 0)), (8, .long (jN (upX (rw8 mbe, rw8 mpl, rw8 msp, pn, ga) n d k))), (0, .ref (gad G 59)), (1, .long (jN n)), (3, .long (jN d)), (7, .int (iN ((k : Nat) : Int)))]) hx hb dX9_isSo_210 hl (by decide) rfl (fun ls hl => ?_)
                have hth : thX (rw8 mbe, rw8 mpl, rw8 msp, pn, ga) n d k = true := decide_eq_true c_129
                have hz_5 : (0 : Int) = (if thg = 2 ∨ fiR (rw8 mbe, rw8 mpl, rw8 msp, pn, ga) onn.toNat n d (k + 1) = true then 1 else 0) := by exact (if_neg (fi_0 hth (by first | exact Or.inl c_144 | exact Or.inr ⟨by omega, by omega⟩))).symm
                have hl : lv_has ls 10 [(5, .int (iN (((mnR (rw8 mbe, rw8 mpl, rw8 msp, pn, ga) lw hg n d k) + 0 : Nat) : Int))), (6, .int (iN (if thg = 2 ∨ fiR (rw8 mbe, rw8 mpl, rw8 msp, pn, ga) onn.toNat n d (k + 1) = true then 1 else 0))), (8, .long (jN (upX (rw8 mbe, rw8 mpl, rw8 msp, pn, ga) n d k))), (0, .ref (gad G 59)), (1, .long (jN n)), (3, .long (jN d)), (7, .int (iN ((k : Nat) : Int)))] := by rw [← hz_5]; exact hl
                have hz_6 : (mnR (rw8 mbe, rw8 mpl, rw8 msp, pn, ga) lw hg n d k) + 0 = mnR (rw8 mbe, rw8 mpl, rw8 msp, pn, ga) lw hg n d (k + 1) := by exact mnR_n (fun z => by have z1 := z.2.1; have z2 := z.2.2; omega)
                have hl : lv_has ls 10 [(5, .int (iN ((mnR (rw8 mbe, rw8 mpl, rw8 msp, pn, ga) lw hg n d (k + 1) : Nat) : Int))), (6, .int (iN (if thg = 2 ∨ fiR (rw8 mbe, rw8 mpl, rw8 msp, pn, ga) onn.toNat n d (k + 1) = true then 1 else 0))), (8, .long (jN (upX (rw8 mbe, rw8 mpl, rw8 msp, pn, ga) n d k))), (0, .ref (gad G 59)), (1, .long (jN n)), (3, .long (jN d)), (7, .int (iN ((k : Nat) : Int)))] := by rw [← hz_6]; exact hl
                refine lv_iinc (v := iN ((k + 1 : Nat) : Int)) (lv' := [(7, .int (iN ((k + 1 : Nat) : Int))), (5, .int (iN ((mnR (rw8 mbe, rw8 mpl, rw8 msp, pn, ga) lw hg n d (k + 1) : Nat) : Int))), (6, .int (iN (if thg = 2 ∨ fiR (rw8 mbe, rw8 mpl, rw8 msp, pn, ga) onn.toNat n d (k + 1) = true then 1 else 0))), (8, .long (jN (upX (rw8 mbe, rw8 mpl, rw8 msp, pn, ga) n d k))), (0, .ref (gad G 59)), (1, .long (jN n)), (3, .long (jN d))]) hx hb dX9_isSo_212 hl (k := 6) rfl (iN_incN _) (by decide) rfl (fun ls hl => ?_)
                refine lv_goto (tgt := 112) hx hb dX9_isSo_215 (by decide) ?_
                exact ih112 (k + 1) _ (by omega) (by omega) (lv_sub hl [4, 5, 6, 1, 2, 0] rfl)
              · refine lv_lload hx hb dX9_isSo_192 (lv_at hl 1 rfl) ?_
                refine lv_aload_n hx hb dX9_isSo_194 rfl (lv_at hl 2 rfl) ?_
                refine f_get (C := RX9) (T := TX9) (N := 26) hx hb hts (by decide +kernel) hown hK hP 59 (by omega) e0 rfl 22 (by decide) (hts (.fieldLink RX9 191 "KeptMovingModel" "high" "J") (by decide +kernel)) (fun _ h9 => h9) rfl dX9_isSo_195 ?_
                refine lv_lload_n hx hb dX9_isSo_198 rfl (lv_at hl 4 rfl) ?_
                refine n_lmul hx hb dX9_isSo_199 ?_
                refine n_lcmp hx hb (by omega) (by omega) (by omega) (by omega) dX9_isSo_200 ?_
                refine n_ifc_gt (tgt := 208) hx hb dX9_isSo_201 (by decide) (fun c_201 => ?_) (fun c_201 => ?_)
                · refine n_iconst hx hb dX9_isSo_208 ?_
                  refine n_iadd hx hb dX9_isSo_209 ?_
                  refine n_top (A := ((mnR (rw8 mbe, rw8 mpl, rw8 msp, pn, ga) lw hg n d k : Nat) : Int) + 0) (B := (((mnR (rw8 mbe, rw8 mpl, rw8 msp, pn, ga) lw hg n d k) + 0 : Nat) : Int)) (by omega) ?_
                  refine lv_istore (lv' := [(5, .int (iN (((mnR (rw8 mbe, rw8 mpl, rw8 msp, pn, ga) lw hg n d k) + 0 : Nat) : Int))), (6, .int (iN 0)), (8, .long (jN (upX (rw8 mbe, rw8 mpl, rw8 msp, pn, ga) n d k))), (0, .ref (gad G 59)), (1, .long (jN n)), (3, .long (jN d)), (7, .int (iN ((k : Nat) : Int)))]) hx hb dX9_isSo_210 hl (by decide) rfl (fun ls hl => ?_)
                  have hth : thX (rw8 mbe, rw8 mpl, rw8 msp, pn, ga) n d k = true := decide_eq_true c_129
                  have hz_7 : (0 : Int) = (if thg = 2 ∨ fiR (rw8 mbe, rw8 mpl, rw8 msp, pn, ga) onn.toNat n d (k + 1) = true then 1 else 0) := by exact (if_neg (fi_0 hth (by first | exact Or.inl c_144 | exact Or.inr ⟨by omega, by omega⟩))).symm
                  have hl : lv_has ls 10 [(5, .int (iN (((mnR (rw8 mbe, rw8 mpl, rw8 msp, pn, ga) lw hg n d k) + 0 : Nat) : Int))), (6, .int (iN (if thg = 2 ∨ fiR (rw8 mbe, rw8 mpl, rw8 msp, pn, ga) onn.toNat n d (k + 1) = true then 1 else 0))), (8, .long (jN (upX (rw8 mbe, rw8 mpl, rw8 msp, pn, ga) n d k))), (0, .ref (gad G 59)), (1, .long (jN n)), (3, .long (jN d)), (7, .int (iN ((k : Nat) : Int)))] := by rw [← hz_7]; exact hl
                  have hz_8 : (mnR (rw8 mbe, rw8 mpl, rw8 msp, pn, ga) lw hg n d k) + 0 = mnR (rw8 mbe, rw8 mpl, rw8 msp, pn, ga) lw hg n d (k + 1) := by exact mnR_n (fun z => by have z1 := z.2.1; have z2 := z.2.2; omega)
                  have hl : lv_has ls 10 [(5, .int (iN ((mnR (rw8 mbe, rw8 mpl, rw8 msp, pn, ga) lw hg n d (k + 1) : Nat) : Int))), (6, .int (iN (if thg = 2 ∨ fiR (rw8 mbe, rw8 mpl, rw8 msp, pn, ga) onn.toNat n d (k + 1) = true then 1 else 0))), (8, .long (jN (upX (rw8 mbe, rw8 mpl, rw8 msp, pn, ga) n d k))), (0, .ref (gad G 59)), (1, .long (jN n)), (3, .long (jN d)), (7, .int (iN ((k : Nat) : Int)))] := by rw [← hz_8]; exact hl
                  refine lv_iinc (v := iN ((k + 1 : Nat) : Int)) (lv' := [(7, .int (iN ((k + 1 : Nat) : Int))), (5, .int (iN ((mnR (rw8 mbe, rw8 mpl, rw8 msp, pn, ga) lw hg n d (k + 1) : Nat) : Int))), (6, .int (iN (if thg = 2 ∨ fiR (rw8 mbe, rw8 mpl, rw8 msp, pn, ga) onn.toNat n d (k + 1) = true then 1 else 0))), (8, .long (jN (upX (rw8 mbe, rw8 mpl, rw8 msp, pn, ga) n d k))), (0, .ref (gad G 59)), (1, .long (jN n)), (3, .long (jN d))]) hx hb dX9_isSo_212 hl (k := 6) rfl (iN_incN _) (by decide) rfl (fun ls hl => ?_)
                  refine lv_goto (tgt := 112) hx hb dX9_isSo_215 (by decide) ?_
                  exact ih112 (k + 1) _ (by omega) (by omega) (lv_sub hl [4, 5, 6, 1, 2, 0] rfl)
                · refine n_iconst hx hb dX9_isSo_204 ?_
                  refine lv_goto (tgt := 209) hx hb dX9_isSo_205 (by decide) ?_
                  refine n_iadd hx hb dX9_isSo_209 ?_
                  refine n_top (A := ((mnR (rw8 mbe, rw8 mpl, rw8 msp, pn, ga) lw hg n d k : Nat) : Int) + 1) (B := (((mnR (rw8 mbe, rw8 mpl, rw8 msp, pn, ga) lw hg n d k) + 1 : Nat) : Int)) (by omega) ?_
                  refine lv_istore (lv' := [(5, .int (iN (((mnR (rw8 mbe, rw8 mpl, rw8 msp, pn, ga) lw hg n d k) + 1 : Nat) : Int))), (6, .int (iN 0)), (8, .long (jN (upX (rw8 mbe, rw8 mpl, rw8 msp, pn, ga) n d k))), (0, .ref (gad G 59)), (1, .long (jN n)), (3, .long (jN d)), (7, .int (iN ((k : Nat) : Int)))]) hx hb dX9_isSo_210 hl (by decide) rfl (fun ls hl => ?_)
                  have hth : thX (rw8 mbe, rw8 mpl, rw8 msp, pn, ga) n d k = true := decide_eq_true c_129
                  have hz_9 : (0 : Int) = (if thg = 2 ∨ fiR (rw8 mbe, rw8 mpl, rw8 msp, pn, ga) onn.toNat n d (k + 1) = true then 1 else 0) := by exact (if_neg (fi_0 hth (by first | exact Or.inl c_144 | exact Or.inr ⟨by omega, by omega⟩))).symm
                  have hl : lv_has ls 10 [(5, .int (iN (((mnR (rw8 mbe, rw8 mpl, rw8 msp, pn, ga) lw hg n d k) + 1 : Nat) : Int))), (6, .int (iN (if thg = 2 ∨ fiR (rw8 mbe, rw8 mpl, rw8 msp, pn, ga) onn.toNat n d (k + 1) = true then 1 else 0))), (8, .long (jN (upX (rw8 mbe, rw8 mpl, rw8 msp, pn, ga) n d k))), (0, .ref (gad G 59)), (1, .long (jN n)), (3, .long (jN d)), (7, .int (iN ((k : Nat) : Int)))] := by rw [← hz_9]; exact hl
                  have hz_10 : (mnR (rw8 mbe, rw8 mpl, rw8 msp, pn, ga) lw hg n d k) + 1 = mnR (rw8 mbe, rw8 mpl, rw8 msp, pn, ga) lw hg n d (k + 1) := by exact mnR_y ⟨hth, by omega, by omega⟩
                  have hl : lv_has ls 10 [(5, .int (iN ((mnR (rw8 mbe, rw8 mpl, rw8 msp, pn, ga) lw hg n d (k + 1) : Nat) : Int))), (6, .int (iN (if thg = 2 ∨ fiR (rw8 mbe, rw8 mpl, rw8 msp, pn, ga) onn.toNat n d (k + 1) = true then 1 else 0))), (8, .long (jN (upX (rw8 mbe, rw8 mpl, rw8 msp, pn, ga) n d k))), (0, .ref (gad G 59)), (1, .long (jN n)), (3, .long (jN d)), (7, .int (iN ((k : Nat) : Int)))] := by rw [← hz_10]; exact hl
                  refine lv_iinc (v := iN ((k + 1 : Nat) : Int)) (lv' := [(7, .int (iN ((k + 1 : Nat) : Int))), (5, .int (iN ((mnR (rw8 mbe, rw8 mpl, rw8 msp, pn, ga) lw hg n d (k + 1) : Nat) : Int))), (6, .int (iN (if thg = 2 ∨ fiR (rw8 mbe, rw8 mpl, rw8 msp, pn, ga) onn.toNat n d (k + 1) = true then 1 else 0))), (8, .long (jN (upX (rw8 mbe, rw8 mpl, rw8 msp, pn, ga) n d k))), (0, .ref (gad G 59)), (1, .long (jN n)), (3, .long (jN d))]) hx hb dX9_isSo_212 hl (k := 6) rfl (iN_incN _) (by decide) rfl (fun ls hl => ?_)
                  refine lv_goto (tgt := 112) hx hb dX9_isSo_215 (by decide) ?_
                  exact ih112 (k + 1) _ (by omega) (by omega) (lv_sub hl [4, 5, 6, 1, 2, 0] rfl)
            · refine lv_aload_n hx hb dX9_isSo_147 rfl (lv_at hl 1 rfl) ?_
              refine f_get (C := RX9) (T := TX9) (N := 26) hx hb hts (by decide +kernel) hown hK hP 59 (by omega) e0 rfl 18 (by decide) (hts (.fieldLink RX9 182 "KeptMovingModel" "thing" "I") (by decide +kernel)) (fun _ h9 => h9) rfl dX9_isSo_148 ?_
              refine n_iconst hx hb dX9_isSo_151 ?_
              refine n_icmp_eq (tgt := 171) hx hb dX9_isSo_152 (by decide) (by omega) (by omega) (by omega) (by omega) (fun c_152 => ?_) (fun c_152 => ?_)
              · refine n_iconst hx hb dX9_isSo_171 ?_
                refine lv_goto (tgt := 176) hx hb dX9_isSo_172 (by decide) ?_
                refine lv_istore (lv' := [(6, .int (iN 1)), (8, .long (jN (upX (rw8 mbe, rw8 mpl, rw8 msp, pn, ga) n d k))), (0, .ref (gad G 59)), (1, .long (jN n)), (3, .long (jN d)), (5, .int (iN ((mnR (rw8 mbe, rw8 mpl, rw8 msp, pn, ga) lw hg n d k : Nat) : Int))), (7, .int (iN ((k : Nat) : Int)))]) hx hb dX9_isSo_176 hl (by decide) rfl (fun ls hl => ?_)
                refine lv_iload hx hb dX9_isSo_178 (lv_at hl 5 rfl) ?_
                refine lv_lload hx hb dX9_isSo_180 (lv_at hl 1 rfl) ?_
                refine lv_aload_n hx hb dX9_isSo_182 rfl (lv_at hl 2 rfl) ?_
                refine f_get (C := RX9) (T := TX9) (N := 26) hx hb hts (by decide +kernel) hown hK hP 59 (by omega) e0 rfl 21 (by decide) (hts (.fieldLink RX9 195 "KeptMovingModel" "low" "J") (by decide +kernel)) (fun _ h9 => h9) rfl dX9_isSo_183 ?_
                refine lv_lload_n hx hb dX9_isSo_186 rfl (lv_at hl 4 rfl) ?_
                refine n_lmul hx hb dX9_isSo_187 ?_
                refine n_lcmp hx hb (by omega) (by omega) (by omega) (by omega) dX9_isSo_188 ?_
                refine n_ifc_lt (tgt := 208) hx hb dX9_isSo_189 (by decide) (fun c_189 => ?_) (fun c_189 => ?_)
                · refine n_iconst hx hb dX9_isSo_208 ?_
                  refine n_iadd hx hb dX9_isSo_209 ?_
                  refine n_top (A := ((mnR (rw8 mbe, rw8 mpl, rw8 msp, pn, ga) lw hg n d k : Nat) : Int) + 0) (B := (((mnR (rw8 mbe, rw8 mpl, rw8 msp, pn, ga) lw hg n d k) + 0 : Nat) : Int)) (by omega) ?_
                  refine lv_istore (lv' := [(5, .int (iN (((mnR (rw8 mbe, rw8 mpl, rw8 msp, pn, ga) lw hg n d k) + 0 : Nat) : Int))), (6, .int (iN 1)), (8, .long (jN (upX (rw8 mbe, rw8 mpl, rw8 msp, pn, ga) n d k))), (0, .ref (gad G 59)), (1, .long (jN n)), (3, .long (jN d)), (7, .int (iN ((k : Nat) : Int)))]) hx hb dX9_isSo_210 hl (by decide) rfl (fun ls hl => ?_)
                  have hth : thX (rw8 mbe, rw8 mpl, rw8 msp, pn, ga) n d k = true := decide_eq_true c_129
                  have hz_11 : (1 : Int) = (if thg = 2 ∨ fiR (rw8 mbe, rw8 mpl, rw8 msp, pn, ga) onn.toNat n d (k + 1) = true then 1 else 0) := by exact (if_pos (fi_1 hth c_144 (by first | exact Or.inl (by omega) | exact Or.inr (by omega)))).symm
                  have hl : lv_has ls 10 [(5, .int (iN (((mnR (rw8 mbe, rw8 mpl, rw8 msp, pn, ga) lw hg n d k) + 0 : Nat) : Int))), (6, .int (iN (if thg = 2 ∨ fiR (rw8 mbe, rw8 mpl, rw8 msp, pn, ga) onn.toNat n d (k + 1) = true then 1 else 0))), (8, .long (jN (upX (rw8 mbe, rw8 mpl, rw8 msp, pn, ga) n d k))), (0, .ref (gad G 59)), (1, .long (jN n)), (3, .long (jN d)), (7, .int (iN ((k : Nat) : Int)))] := by rw [← hz_11]; exact hl
                  have hz_12 : (mnR (rw8 mbe, rw8 mpl, rw8 msp, pn, ga) lw hg n d k) + 0 = mnR (rw8 mbe, rw8 mpl, rw8 msp, pn, ga) lw hg n d (k + 1) := by exact mnR_n (fun z => by have z1 := z.2.1; have z2 := z.2.2; omega)
                  have hl : lv_has ls 10 [(5, .int (iN ((mnR (rw8 mbe, rw8 mpl, rw8 msp, pn, ga) lw hg n d (k + 1) : Nat) : Int))), (6, .int (iN (if thg = 2 ∨ fiR (rw8 mbe, rw8 mpl, rw8 msp, pn, ga) onn.toNat n d (k + 1) = true then 1 else 0))), (8, .long (jN (upX (rw8 mbe, rw8 mpl, rw8 msp, pn, ga) n d k))), (0, .ref (gad G 59)), (1, .long (jN n)), (3, .long (jN d)), (7, .int (iN ((k : Nat) : Int)))] := by rw [← hz_12]; exact hl
                  refine lv_iinc (v := iN ((k + 1 : Nat) : Int)) (lv' := [(7, .int (iN ((k + 1 : Nat) : Int))), (5, .int (iN ((mnR (rw8 mbe, rw8 mpl, rw8 msp, pn, ga) lw hg n d (k + 1) : Nat) : Int))), (6, .int (iN (if thg = 2 ∨ fiR (rw8 mbe, rw8 mpl, rw8 msp, pn, ga) onn.toNat n d (k + 1) = true then 1 else 0))), (8, .long (jN (upX (rw8 mbe, rw8 mpl, rw8 msp, pn, ga) n d k))), (0, .ref (gad G 59)), (1, .long (jN n)), (3, .long (jN d))]) hx hb dX9_isSo_212 hl (k := 6) rfl (iN_incN _) (by decide) rfl (fun ls hl => ?_)
                  refine lv_goto (tgt := 112) hx hb dX9_isSo_215 (by decide) ?_
                  exact ih112 (k + 1) _ (by omega) (by omega) (lv_sub hl [4, 5, 6, 1, 2, 0] rfl)
                · refine lv_lload hx hb dX9_isSo_192 (lv_at hl 1 rfl) ?_
                  refine lv_aload_n hx hb dX9_isSo_194 rfl (lv_at hl 2 rfl) ?_
                  refine f_get (C := RX9) (T := TX9) (N := 26) hx hb hts (by decide +kernel) hown hK hP 59 (by omega) e0 rfl 22 (by decide) (hts (.fieldLink RX9 191 "KeptMovingModel" "high" "J") (by decide +kernel)) (fun _ h9 => h9) rfl dX9_isSo_195 ?_
                  refine lv_lload_n hx hb dX9_isSo_198 rfl (lv_at hl 4 rfl) ?_
                  refine n_lmul hx hb dX9_isSo_199 ?_
                  refine n_lcmp hx hb (by omega) (by omega) (by omega) (by omega) dX9_isSo_200 ?_
                  refine n_ifc_gt (tgt := 208) hx hb dX9_isSo_201 (by decide) (fun c_201 => ?_) (fun c_201 => ?_)
                  · refine n_iconst hx hb dX9_isSo_208 ?_
                    refine n_iadd hx hb dX9_isSo_209 ?_
                    refine n_top (A := ((mnR (rw8 mbe, rw8 mpl, rw8 msp, pn, ga) lw hg n d k : Nat) : Int) + 0) (B := (((mnR (rw8 mbe, rw8 mpl, rw8 msp, pn, ga) lw hg n d k) + 0 : Nat) : Int)) (by omega) ?_
                    refine lv_istore (lv' := [(5, .int (iN (((mnR (rw8 mbe, rw8 mpl, rw8 msp, pn, ga) lw hg n d k) + 0 : Nat) : Int))), (6, .int (iN 1)), (8, .long (jN (upX (rw8 mbe, rw8 mpl, rw8 msp, pn, ga) n d k))), (0, .ref (gad G 59)), (1, .long (jN n)), (3, .long (jN d)), (7, .int (iN ((k : Nat) : Int)))]) hx hb dX9_isSo_210 hl (by decide) rfl (fun ls hl => ?_)
                    have hth : thX (rw8 mbe, rw8 mpl, rw8 msp, pn, ga) n d k = true := decide_eq_true c_129
                    have hz_13 : (1 : Int) = (if thg = 2 ∨ fiR (rw8 mbe, rw8 mpl, rw8 msp, pn, ga) onn.toNat n d (k + 1) = true then 1 else 0) := by exact (if_pos (fi_1 hth c_144 (by first | exact Or.inl (by omega) | exact Or.inr (by omega)))).symm
                    have hl : lv_has ls 10 [(5, .int (iN (((mnR (rw8 mbe, rw8 mpl, rw8 msp, pn, ga) lw hg n d k) + 0 : Nat) : Int))), (6, .int (iN (if thg = 2 ∨ fiR (rw8 mbe, rw8 mpl, rw8 msp, pn, ga) onn.toNat n d (k + 1) = true then 1 else 0))), (8, .long (jN (upX (rw8 mbe, rw8 mpl, rw8 msp, pn, ga) n d k))), (0, .ref (gad G 59)), (1, .long (jN n)), (3, .long (jN d)), (7, .int (iN ((k : Nat) : Int)))] := by rw [← hz_13]; exact hl
                    have hz_14 : (mnR (rw8 mbe, rw8 mpl, rw8 msp, pn, ga) lw hg n d k) + 0 = mnR (rw8 mbe, rw8 mpl, rw8 msp, pn, ga) lw hg n d (k + 1) := by exact mnR_n (fun z => by have z1 := z.2.1; have z2 := z.2.2; omega)
                    have hl : lv_has ls 10 [(5, .int (iN ((mnR (rw8 mbe, rw8 mpl, rw8 msp, pn, ga) lw hg n d (k + 1) : Nat) : Int))), (6, .int (iN (if thg = 2 ∨ fiR (rw8 mbe, rw8 mpl, rw8 msp, pn, ga) onn.toNat n d (k + 1) = true then 1 else 0))), (8, .long (jN (upX (rw8 mbe, rw8 mpl, rw8 msp, pn, ga) n d k))), (0, .ref (gad G 59)), (1, .long (jN n)), (3, .long (jN d)), (7, .int (iN ((k : Nat) : Int)))] := by rw [← hz_14]; exact hl
                    refine lv_iinc (v := iN ((k + 1 : Nat) : Int)) (lv' := [(7, .int (iN ((k + 1 : Nat) : Int))), (5, .int (iN ((mnR (rw8 mbe, rw8 mpl, rw8 msp, pn, ga) lw hg n d (k + 1) : Nat) : Int))), (6, .int (iN (if thg = 2 ∨ fiR (rw8 mbe, rw8 mpl, rw8 msp, pn, ga) onn.toNat n d (k + 1) = true then 1 else 0))), (8, .long (jN (upX (rw8 mbe, rw8 mpl, rw8 msp, pn, ga) n d k))), (0, .ref (gad G 59)), (1, .long (jN n)), (3, .long (jN d))]) hx hb dX9_isSo_212 hl (k := 6) rfl (iN_incN _) (by decide) rfl (fun ls hl => ?_)
                    refine lv_goto (tgt := 112) hx hb dX9_isSo_215 (by decide) ?_
                    exact ih112 (k + 1) _ (by omega) (by omega) (lv_sub hl [4, 5, 6, 1, 2, 0] rfl)
                  · refine n_iconst hx hb dX9_isSo_204 ?_
                    refine lv_goto (tgt := 209) hx hb dX9_isSo_205 (by decide) ?_
                    refine n_iadd hx hb dX9_isSo_209 ?_
                    refine n_top (A := ((mnR (rw8 mbe, rw8 mpl, rw8 msp, pn, ga) lw hg n d k : Nat) : Int) + 1) (B := (((mnR (rw8 mbe, rw8 mpl, rw8 msp, pn, ga) lw hg n d k) + 1 : Nat) : Int)) (by omega) ?_
                    refine lv_istore (lv' := [(5, .int (iN (((mnR (rw8 mbe, rw8 mpl, rw8 msp, pn, ga) lw hg n d k) + 1 : Nat) : Int))), (6, .int (iN 1)), (8, .long (jN (upX (rw8 mbe, rw8 mpl, rw8 msp, pn, ga) n d k))), (0, .ref (gad G 59)), (1, .long (jN n)), (3, .long (jN d)), (7, .int (iN ((k : Nat) : Int)))]) hx hb dX9_isSo_210 hl (by decide) rfl (fun ls hl => ?_)
                    have hth : thX (rw8 mbe, rw8 mpl, rw8 msp, pn, ga) n d k = true := decide_eq_true c_129
                    have hz_15 : (1 : Int) = (if thg = 2 ∨ fiR (rw8 mbe, rw8 mpl, rw8 msp, pn, ga) onn.toNat n d (k + 1) = true then 1 else 0) := by exact (if_pos (fi_1 hth c_144 (by first | exact Or.inl (by omega) | exact Or.inr (by omega)))).symm
                    have hl : lv_has ls 10 [(5, .int (iN (((mnR (rw8 mbe, rw8 mpl, rw8 msp, pn, ga) lw hg n d k) + 1 : Nat) : Int))), (6, .int (iN (if thg = 2 ∨ fiR (rw8 mbe, rw8 mpl, rw8 msp, pn, ga) onn.toNat n d (k + 1) = true then 1 else 0))), (8, .long (jN (upX (rw8 mbe, rw8 mpl, rw8 msp, pn, ga) n d k))), (0, .ref (gad G 59)), (1, .long (jN n)), (3, .long (jN d)), (7, .int (iN ((k : Nat) : Int)))] := by rw [← hz_15]; exact hl
                    have hz_16 : (mnR (rw8 mbe, rw8 mpl, rw8 msp, pn, ga) lw hg n d k) + 1 = mnR (rw8 mbe, rw8 mpl, rw8 msp, pn, ga) lw hg n d (k + 1) := by exact mnR_y ⟨hth, by omega, by omega⟩
                    have hl : lv_has ls 10 [(5, .int (iN ((mnR (rw8 mbe, rw8 mpl, rw8 msp, pn, ga) lw hg n d (k + 1) : Nat) : Int))), (6, .int (iN (if thg = 2 ∨ fiR (rw8 mbe, rw8 mpl, rw8 msp, pn, ga) onn.toNat n d (k + 1) = true then 1 else 0))), (8, .long (jN (upX (rw8 mbe, rw8 mpl, rw8 msp, pn, ga) n d k))), (0, .ref (gad G 59)), (1, .long (jN n)), (3, .long (jN d)), (7, .int (iN ((k : Nat) : Int)))] := by rw [← hz_16]; exact hl
                    refine lv_iinc (v := iN ((k + 1 : Nat) : Int)) (lv' := [(7, .int (iN ((k + 1 : Nat) : Int))), (5, .int (iN ((mnR (rw8 mbe, rw8 mpl, rw8 msp, pn, ga) lw hg n d (k + 1) : Nat) : Int))), (6, .int (iN (if thg = 2 ∨ fiR (rw8 mbe, rw8 mpl, rw8 msp, pn, ga) onn.toNat n d (k + 1) = true then 1 else 0))), (8, .long (jN (upX (rw8 mbe, rw8 mpl, rw8 msp, pn, ga) n d k))), (0, .ref (gad G 59)), (1, .long (jN n)), (3, .long (jN d))]) hx hb dX9_isSo_212 hl (k := 6) rfl (iN_incN _) (by decide) rfl (fun ls hl => ?_)
                    refine lv_goto (tgt := 112) hx hb dX9_isSo_215 (by decide) ?_
                    exact ih112 (k + 1) _ (by omega) (by omega) (lv_sub hl [4, 5, 6, 1, 2, 0] rfl)
              · refine lv_lload hx hb dX9_isSo_155 (lv_at hl 0 rfl) ?_
                have hOa : OKC (rw8 mbe onn.toNat) (rw8 mpl onn.toNat) (rw8 msp onn.toNat) (pn onn.toNat) (ga onn.toNat) := p0.2 onn.toNat (by omega)
                obtain ⟨av1, av2, av3, av4⟩ := id hOa
                have av20 := av2 0 (by omega)
                have au : -2000000000 ≤ upX (rw8 mbe, rw8 mpl, rw8 msp, pn, ga) n d onn.toNat ∧ upX (rw8 mbe, rw8 mpl, rw8 msp, pn, ga) n d onn.toNat ≤ 2000000000 := upAt_rngB hOa p7 p8
                refine lv_aload_n hx hb dX9_isSo_157 rfl (lv_at hl 1 rfl) ?_
                refine lv_aload_n hx hb dX9_isSo_158 rfl (lv_at hl 1 rfl) ?_
                refine f_get (C := RX9) (T := TX9) (N := 26) hx hb hts (by decide +kernel) hown hK hP 59 (by omega) e0 rfl 19 (by decide) (hts (.fieldLink RX9 185 "KeptMovingModel" "one" "I") (by decide +kernel)) (fun _ h9 => h9) rfl dX9_isSo_159 ?_
                refine n_top (A := onn) (B := ((onn.toNat : Nat) : Int)) (by omega) ?_
                refine lv_lload_n hx hb dX9_isSo_162 rfl (lv_at hl 2 rfl) ?_
                refine lv_lload_n hx hb dX9_isSo_163 rfl (lv_at hl 3 rfl) ?_
                refine vp_callSl (W.runV (As := [.int (iN ((onn.toNat : Nat) : Int)), .long (jN n), .long (jN d)]) (rest := [.long (jN (upX (rw8 mbe, rw8 mpl, rw8 msp, pn, ga) n d k))]) ⟨hx, hb, hml, hown, hts⟩ (c_X9_placeAt l G w now came rm mt tm thg onn two lw hg sq ga pn mbe mpl msp onn.toNat n d e0 e1 e2 e3 e4 e5 (by omega) (av1) (av2) (av4) (by omega) (by omega)) (cwV 3 hts gX9_isSo_X9_placeAt rfl rfl rfl (by decide +kernel) ⟨Nat.le_of_ble_eq_true rfl, Nat.le_of_ble_eq_true rfl⟩) (f_preV hP hK 59 (by omega) 8 e0 rfl) rfl rfl hl.1 rfl (lv_room (Nat.le_of_ble_eq_true rfl)) dX9_isSo_164 ⟨Nat.zero_le _, Nat.zero_le _⟩) (fun r_17 hr_17 => ?_)
                rw [show r_17 = jN (upAt (rw8 mbe onn.toNat) (rw8 mpl onn.toNat) (rw8 msp onn.toNat) (pn onn.toNat) n d) from hr_17]
                refine n_topL (A := upAt (rw8 mbe onn.toNat) (rw8 mpl onn.toNat) (rw8 msp onn.toNat) (pn onn.toNat) n d) (B := upX (rw8 mbe, rw8 mpl, rw8 msp, pn, ga) n d onn.toNat) (by exact rfl) ?_
                refine n_lcmp hx hb (by omega) (by omega) (by omega) (by omega) dX9_isSo_167 ?_
                refine n_ifc_gt (tgt := 175) hx hb dX9_isSo_168 (by decide) (fun c_168 => ?_) (fun c_168 => ?_)
                · refine n_iconst hx hb dX9_isSo_175 ?_
                  refine lv_istore (lv' := [(6, .int (iN 0)), (8, .long (jN (upX (rw8 mbe, rw8 mpl, rw8 msp, pn, ga) n d k))), (0, .ref (gad G 59)), (1, .long (jN n)), (3, .long (jN d)), (5, .int (iN ((mnR (rw8 mbe, rw8 mpl, rw8 msp, pn, ga) lw hg n d k : Nat) : Int))), (7, .int (iN ((k : Nat) : Int)))]) hx hb dX9_isSo_176 hl (by decide) rfl (fun ls hl => ?_)
                  refine lv_iload hx hb dX9_isSo_178 (lv_at hl 5 rfl) ?_
                  refine lv_lload hx hb dX9_isSo_180 (lv_at hl 1 rfl) ?_
                  refine lv_aload_n hx hb dX9_isSo_182 rfl (lv_at hl 2 rfl) ?_
                  refine f_get (C := RX9) (T := TX9) (N := 26) hx hb hts (by decide +kernel) hown hK hP 59 (by omega) e0 rfl 21 (by decide) (hts (.fieldLink RX9 195 "KeptMovingModel" "low" "J") (by decide +kernel)) (fun _ h9 => h9) rfl dX9_isSo_183 ?_
                  refine lv_lload_n hx hb dX9_isSo_186 rfl (lv_at hl 4 rfl) ?_
                  refine n_lmul hx hb dX9_isSo_187 ?_
                  refine n_lcmp hx hb (by omega) (by omega) (by omega) (by omega) dX9_isSo_188 ?_
                  refine n_ifc_lt (tgt := 208) hx hb dX9_isSo_189 (by decide) (fun c_189 => ?_) (fun c_189 => ?_)
                  · refine n_iconst hx hb dX9_isSo_208 ?_
                    refine n_iadd hx hb dX9_isSo_209 ?_
                    refine n_top (A := ((mnR (rw8 mbe, rw8 mpl, rw8 msp, pn, ga) lw hg n d k : Nat) : Int) + 0) (B := (((mnR (rw8 mbe, rw8 mpl, rw8 msp, pn, ga) lw hg n d k) + 0 : Nat) : Int)) (by omega) ?_
                    refine lv_istore (lv' := [(5, .int (iN (((mnR (rw8 mbe, rw8 mpl, rw8 msp, pn, ga) lw hg n d k) + 0 : Nat) : Int))), (6, .int (iN 0)), (8, .long (jN (upX (rw8 mbe, rw8 mpl, rw8 msp, pn, ga) n d k))), (0, .ref (gad G 59)), (1, .long (jN n)), (3, .long (jN d)), (7, .int (iN ((k : Nat) : Int)))]) hx hb dX9_isSo_210 hl (by decide) rfl (fun ls hl => ?_)
                    have hth : thX (rw8 mbe, rw8 mpl, rw8 msp, pn, ga) n d k = true := decide_eq_true c_129
                    have hz_18 : (0 : Int) = (if thg = 2 ∨ fiR (rw8 mbe, rw8 mpl, rw8 msp, pn, ga) onn.toNat n d (k + 1) = true then 1 else 0) := by exact (if_neg (fi_0 hth (by first | exact Or.inl c_144 | exact Or.inr ⟨by omega, by omega⟩))).symm
                    have hl : lv_has ls 10 [(5, .int (iN (((mnR (rw8 mbe, rw8 mpl, rw8 msp, pn, ga) lw hg n d k) + 0 : Nat) : Int))), (6, .int (iN (if thg = 2 ∨ fiR (rw8 mbe, rw8 mpl, rw8 msp, pn, ga) onn.toNat n d (k + 1) = true then 1 else 0))), (8, .long (jN (upX (rw8 mbe, rw8 mpl, rw8 msp, pn, ga) n d k))), (0, .ref (gad G 59)), (1, .long (jN n)), (3, .long (jN d)), (7, .int (iN ((k : Nat) : Int)))] := by rw [← hz_18]; exact hl
                    have hz_19 : (mnR (rw8 mbe, rw8 mpl, rw8 msp, pn, ga) lw hg n d k) + 0 = mnR (rw8 mbe, rw8 mpl, rw8 msp, pn, ga) lw hg n d (k + 1) := by exact mnR_n (fun z => by have z1 := z.2.1; have z2 := z.2.2; omega)
                    have hl : lv_has ls 10 [(5, .int (iN ((mnR (rw8 mbe, rw8 mpl, rw8 msp, pn, ga) lw hg n d (k + 1) : Nat) : Int))), (6, .int (iN (if thg = 2 ∨ fiR (rw8 mbe, rw8 mpl, rw8 msp, pn, ga) onn.toNat n d (k + 1) = true then 1 else 0))), (8, .long (jN (upX (rw8 mbe, rw8 mpl, rw8 msp, pn, ga) n d k))), (0, .ref (gad G 59)), (1, .long (jN n)), (3, .long (jN d)), (7, .int (iN ((k : Nat) : Int)))] := by rw [← hz_19]; exact hl
                    refine lv_iinc (v := iN ((k + 1 : Nat) : Int)) (lv' := [(7, .int (iN ((k + 1 : Nat) : Int))), (5, .int (iN ((mnR (rw8 mbe, rw8 mpl, rw8 msp, pn, ga) lw hg n d (k + 1) : Nat) : Int))), (6, .int (iN (if thg = 2 ∨ fiR (rw8 mbe, rw8 mpl, rw8 msp, pn, ga) onn.toNat n d (k + 1) = true then 1 else 0))), (8, .long (jN (upX (rw8 mbe, rw8 mpl, rw8 msp, pn, ga) n d k))), (0, .ref (gad G 59)), (1, .long (jN n)), (3, .long (jN d))]) hx hb dX9_isSo_212 hl (k := 6) rfl (iN_incN _) (by decide) rfl (fun ls hl => ?_)
                    refine lv_goto (tgt := 112) hx hb dX9_isSo_215 (by decide) ?_
                    exact ih112 (k + 1) _ (by omega) (by omega) (lv_sub hl [4, 5, 6, 1, 2, 0] rfl)
                  · refine lv_lload hx hb dX9_isSo_192 (lv_at hl 1 rfl) ?_
                    refine lv_aload_n hx hb dX9_isSo_194 rfl (lv_at hl 2 rfl) ?_
                    refine f_get (C := RX9) (T := TX9) (N := 26) hx hb hts (by decide +kernel) hown hK hP 59 (by omega) e0 rfl 22 (by decide) (hts (.fieldLink RX9 191 "KeptMovingModel" "high" "J") (by decide +kernel)) (fun _ h9 => h9) rfl dX9_isSo_195 ?_
                    refine lv_lload_n hx hb dX9_isSo_198 rfl (lv_at hl 4 rfl) ?_
                    refine n_lmul hx hb dX9_isSo_199 ?_
                    refine n_lcmp hx hb (by omega) (by omega) (by omega) (by omega) dX9_isSo_200 ?_
                    refine n_ifc_gt (tgt := 208) hx hb dX9_isSo_201 (by decide) (fun c_201 => ?_) (fun c_201 => ?_)
                    · refine n_iconst hx hb dX9_isSo_208 ?_
                      refine n_iadd hx hb dX9_isSo_209 ?_
                      refine n_top (A := ((mnR (rw8 mbe, rw8 mpl, rw8 msp, pn, ga) lw hg n d k : Nat) : Int) + 0) (B := (((mnR (rw8 mbe, rw8 mpl, rw8 msp, pn, ga) lw hg n d k) + 0 : Nat) : Int)) (by omega) ?_
                      refine lv_istore (lv' := [(5, .int (iN (((mnR (rw8 mbe, rw8 mpl, rw8 msp, pn, ga) lw hg n d k) + 0 : Nat) : Int))), (6, .int (iN 0)), (8, .long (jN (upX (rw8 mbe, rw8 mpl, rw8 msp, pn, ga) n d k))), (0, .ref (gad G 59)), (1, .long (jN n)), (3, .long (jN d)), (7, .int (iN ((k : Nat) : Int)))]) hx hb dX9_isSo_210 hl (by decide) rfl (fun ls hl => ?_)
                      have hth : thX (rw8 mbe, rw8 mpl, rw8 msp, pn, ga) n d k = true := decide_eq_true c_129
                      have hz_20 : (0 : Int) = (if thg = 2 ∨ fiR (rw8 mbe, rw8 mpl, rw8 msp, pn, ga) onn.toNat n d (k + 1) = true then 1 else 0) := by exact (if_neg (fi_0 hth (by first | exact Or.inl c_144 | exact Or.inr ⟨by omega, by omega⟩))).symm
                      have hl : lv_has ls 10 [(5, .int (iN (((mnR (rw8 mbe, rw8 mpl, rw8 msp, pn, ga) lw hg n d k) + 0 : Nat) : Int))), (6, .int (iN (if thg = 2 ∨ fiR (rw8 mbe, rw8 mpl, rw8 msp, pn, ga) onn.toNat n d (k + 1) = true then 1 else 0))), (8, .long (jN (upX (rw8 mbe, rw8 mpl, rw8 msp, pn, ga) n d k))), (0, .ref (gad G 59)), (1, .long (jN n)), (3, .long (jN d)), (7, .int (iN ((k : Nat) : Int)))] := by rw [← hz_20]; exact hl
                      have hz_21 : (mnR (rw8 mbe, rw8 mpl, rw8 msp, pn, ga) lw hg n d k) + 0 = mnR (rw8 mbe, rw8 mpl, rw8 msp, pn, ga) lw hg n d (k + 1) := by exact mnR_n (fun z => by have z1 := z.2.1; have z2 := z.2.2; omega)
                      have hl : lv_has ls 10 [(5, .int (iN ((mnR (rw8 mbe, rw8 mpl, rw8 msp, pn, ga) lw hg n d (k + 1) : Nat) : Int))), (6, .int (iN (if thg = 2 ∨ fiR (rw8 mbe, rw8 mpl, rw8 msp, pn, ga) onn.toNat n d (k + 1) = true then 1 else 0))), (8, .long (jN (upX (rw8 mbe, rw8 mpl, rw8 msp, pn, ga) n d k))), (0, .ref (gad G 59)), (1, .long (jN n)), (3, .long (jN d)), (7, .int (iN ((k : Nat) : Int)))] := by rw [← hz_21]; exact hl
                      refine lv_iinc (v := iN ((k + 1 : Nat) : Int)) (lv' := [(7, .int (iN ((k + 1 : Nat) : Int))), (5, .int (iN ((mnR (rw8 mbe, rw8 mpl, rw8 msp, pn, ga) lw hg n d (k + 1) : Nat) : Int))), (6, .int (iN (if thg = 2 ∨ fiR (rw8 mbe, rw8 mpl, rw8 msp, pn, ga) onn.toNat n d (k + 1) = true then 1 else 0))), (8, .long (jN (upX (rw8 mbe, rw8 mpl, rw8 msp, pn, ga) n d k))), (0, .ref (gad G 59)), (1, .long (jN n)), (3, .long (jN d))]) hx hb dX9_isSo_212 hl (k := 6) rfl (iN_incN _) (by decide) rfl (fun ls hl => ?_)
                      refine lv_goto (tgt := 112) hx hb dX9_isSo_215 (by decide) ?_
                      exact ih112 (k + 1) _ (by omega) (by omega) (lv_sub hl [4, 5, 6, 1, 2, 0] rfl)
                    · refine n_iconst hx hb dX9_isSo_204 ?_
                      refine lv_goto (tgt := 209) hx hb dX9_isSo_205 (by decide) ?_
                      refine n_iadd hx hb dX9_isSo_209 ?_
                      refine n_top (A := ((mnR (rw8 mbe, rw8 mpl, rw8 msp, pn, ga) lw hg n d k : Nat) : Int) + 1) (B := (((mnR (rw8 mbe, rw8 mpl, rw8 msp, pn, ga) lw hg n d k) + 1 : Nat) : Int)) (by omega) ?_
                      refine lv_istore (lv' := [(5, .int (iN (((mnR (rw8 mbe, rw8 mpl, rw8 msp, pn, ga) lw hg n d k) + 1 : Nat) : Int))), (6, .int (iN 0)), (8, .long (jN (upX (rw8 mbe, rw8 mpl, rw8 msp, pn, ga) n d k))), (0, .ref (gad G 59)), (1, .long (jN n)), (3, .long (jN d)), (7, .int (iN ((k : Nat) : Int)))]) hx hb dX9_isSo_210 hl (by decide) rfl (fun ls hl => ?_)
                      have hth : thX (rw8 mbe, rw8 mpl, rw8 msp, pn, ga) n d k = true := decide_eq_true c_129
                      have hz_22 : (0 : Int) = (if thg = 2 ∨ fiR (rw8 mbe, rw8 mpl, rw8 msp, pn, ga) onn.toNat n d (k + 1) = true then 1 else 0) := by exact (if_neg (fi_0 hth (by first | exact Or.inl c_144 | exact Or.inr ⟨by omega, by omega⟩))).symm
                      have hl : lv_has ls 10 [(5, .int (iN (((mnR (rw8 mbe, rw8 mpl, rw8 msp, pn, ga) lw hg n d k) + 1 : Nat) : Int))), (6, .int (iN (if thg = 2 ∨ fiR (rw8 mbe, rw8 mpl, rw8 msp, pn, ga) onn.toNat n d (k + 1) = true then 1 else 0))), (8, .long (jN (upX (rw8 mbe, rw8 mpl, rw8 msp, pn, ga) n d k))), (0, .ref (gad G 59)), (1, .long (jN n)), (3, .long (jN d)), (7, .int (iN ((k : Nat) : Int)))] := by rw [← hz_22]; exact hl
                      have hz_23 : (mnR (rw8 mbe, rw8 mpl, rw8 msp, pn, ga) lw hg n d k) + 1 = mnR (rw8 mbe, rw8 mpl, rw8 msp, pn, ga) lw hg n d (k + 1) := by exact mnR_y ⟨hth, by omega, by omega⟩
                      have hl : lv_has ls 10 [(5, .int (iN ((mnR (rw8 mbe, rw8 mpl, rw8 msp, pn, ga) lw hg n d (k + 1) : Nat) : Int))), (6, .int (iN (if thg = 2 ∨ fiR (rw8 mbe, rw8 mpl, rw8 msp, pn, ga) onn.toNat n d (k + 1) = true then 1 else 0))), (8, .long (jN (upX (rw8 mbe, rw8 mpl, rw8 msp, pn, ga) n d k))), (0, .ref (gad G 59)), (1, .long (jN n)), (3, .long (jN d)), (7, .int (iN ((k : Nat) : Int)))] := by rw [← hz_23]; exact hl
                      refine lv_iinc (v := iN ((k + 1 : Nat) : Int)) (lv' := [(7, .int (iN ((k + 1 : Nat) : Int))), (5, .int (iN ((mnR (rw8 mbe, rw8 mpl, rw8 msp, pn, ga) lw hg n d (k + 1) : Nat) : Int))), (6, .int (iN (if thg = 2 ∨ fiR (rw8 mbe, rw8 mpl, rw8 msp, pn, ga) onn.toNat n d (k + 1) = true then 1 else 0))), (8, .long (jN (upX (rw8 mbe, rw8 mpl, rw8 msp, pn, ga) n d k))), (0, .ref (gad G 59)), (1, .long (jN n)), (3, .long (jN d))]) hx hb dX9_isSo_212 hl (k := 6) rfl (iN_incN _) (by decide) rfl (fun ls hl => ?_)
                      refine lv_goto (tgt := 112) hx hb dX9_isSo_215 (by decide) ?_
                      exact ih112 (k + 1) _ (by omega) (by omega) (lv_sub hl [4, 5, 6, 1, 2, 0] rfl)
                · refine n_iconst hx hb dX9_isSo_171 ?_
                  refine lv_goto (tgt := 176) hx hb dX9_isSo_172 (by decide) ?_
                  refine lv_istore (lv' := [(6, .int (iN 1)), (8, .long (jN (upX (rw8 mbe, rw8 mpl, rw8 msp, pn, ga) n d k))), (0, .ref (gad G 59)), (1, .long (jN n)), (3, .long (jN d)), (5, .int (iN ((mnR (rw8 mbe, rw8 mpl, rw8 msp, pn, ga) lw hg n d k : Nat) : Int))), (7, .int (iN ((k : Nat) : Int)))]) hx hb dX9_isSo_176 hl (by decide) rfl (fun ls hl => ?_)
                  refine lv_iload hx hb dX9_isSo_178 (lv_at hl 5 rfl) ?_
                  refine lv_lload hx hb dX9_isSo_180 (lv_at hl 1 rfl) ?_
                  refine lv_aload_n hx hb dX9_isSo_182 rfl (lv_at hl 2 rfl) ?_
                  refine f_get (C := RX9) (T := TX9) (N := 26) hx hb hts (by decide +kernel) hown hK hP 59 (by omega) e0 rfl 21 (by decide) (hts (.fieldLink RX9 195 "KeptMovingModel" "low" "J") (by decide +kernel)) (fun _ h9 => h9) rfl dX9_isSo_183 ?_
                  refine lv_lload_n hx hb dX9_isSo_186 rfl (lv_at hl 4 rfl) ?_
                  refine n_lmul hx hb dX9_isSo_187 ?_
                  refine n_lcmp hx hb (by omega) (by omega) (by omega) (by omega) dX9_isSo_188 ?_
                  refine n_ifc_lt (tgt := 208) hx hb dX9_isSo_189 (by decide) (fun c_189 => ?_) (fun c_189 => ?_)
                  · refine n_iconst hx hb dX9_isSo_208 ?_
                    refine n_iadd hx hb dX9_isSo_209 ?_
                    refine n_top (A := ((mnR (rw8 mbe, rw8 mpl, rw8 msp, pn, ga) lw hg n d k : Nat) : Int) + 0) (B := (((mnR (rw8 mbe, rw8 mpl, rw8 msp, pn, ga) lw hg n d k) + 0 : Nat) : Int)) (by omega) ?_
                    refine lv_istore (lv' := [(5, .int (iN (((mnR (rw8 mbe, rw8 mpl, rw8 msp, pn, ga) lw hg n d k) + 0 : Nat) : Int))), (6, .int (iN 1)), (8, .long (jN (upX (rw8 mbe, rw8 mpl, rw8 msp, pn, ga) n d k))), (0, .ref (gad G 59)), (1, .long (jN n)), (3, .long (jN d)), (7, .int (iN ((k : Nat) : Int)))]) hx hb dX9_isSo_210 hl (by decide) rfl (fun ls hl => ?_)
                    have hth : thX (rw8 mbe, rw8 mpl, rw8 msp, pn, ga) n d k = true := decide_eq_true c_129
                    have hz_24 : (1 : Int) = (if thg = 2 ∨ fiR (rw8 mbe, rw8 mpl, rw8 msp, pn, ga) onn.toNat n d (k + 1) = true then 1 else 0) := by exact (if_pos (fi_1 hth c_144 (by first | exact Or.inl (by omega) | exact Or.inr (by omega)))).symm
                    have hl : lv_has ls 10 [(5, .int (iN (((mnR (rw8 mbe, rw8 mpl, rw8 msp, pn, ga) lw hg n d k) + 0 : Nat) : Int))), (6, .int (iN (if thg = 2 ∨ fiR (rw8 mbe, rw8 mpl, rw8 msp, pn, ga) onn.toNat n d (k + 1) = true then 1 else 0))), (8, .long (jN (upX (rw8 mbe, rw8 mpl, rw8 msp, pn, ga) n d k))), (0, .ref (gad G 59)), (1, .long (jN n)), (3, .long (jN d)), (7, .int (iN ((k : Nat) : Int)))] := by rw [← hz_24]; exact hl
                    have hz_25 : (mnR (rw8 mbe, rw8 mpl, rw8 msp, pn, ga) lw hg n d k) + 0 = mnR (rw8 mbe, rw8 mpl, rw8 msp, pn, ga) lw hg n d (k + 1) := by exact mnR_n (fun z => by have z1 := z.2.1; have z2 := z.2.2; omega)
                    have hl : lv_has ls 10 [(5, .int (iN ((mnR (rw8 mbe, rw8 mpl, rw8 msp, pn, ga) lw hg n d (k + 1) : Nat) : Int))), (6, .int (iN (if thg = 2 ∨ fiR (rw8 mbe, rw8 mpl, rw8 msp, pn, ga) onn.toNat n d (k + 1) = true then 1 else 0))), (8, .long (jN (upX (rw8 mbe, rw8 mpl, rw8 msp, pn, ga) n d k))), (0, .ref (gad G 59)), (1, .long (jN n)), (3, .long (jN d)), (7, .int (iN ((k : Nat) : Int)))] := by rw [← hz_25]; exact hl
                    refine lv_iinc (v := iN ((k + 1 : Nat) : Int)) (lv' := [(7, .int (iN ((k + 1 : Nat) : Int))), (5, .int (iN ((mnR (rw8 mbe, rw8 mpl, rw8 msp, pn, ga) lw hg n d (k + 1) : Nat) : Int))), (6, .int (iN (if thg = 2 ∨ fiR (rw8 mbe, rw8 mpl, rw8 msp, pn, ga) onn.toNat n d (k + 1) = true then 1 else 0))), (8, .long (jN (upX (rw8 mbe, rw8 mpl, rw8 msp, pn, ga) n d k))), (0, .ref (gad G 59)), (1, .long (jN n)), (3, .long (jN d))]) hx hb dX9_isSo_212 hl (k := 6) rfl (iN_incN _) (by decide) rfl (fun ls hl => ?_)
                    refine lv_goto (tgt := 112) hx hb dX9_isSo_215 (by decide) ?_
                    exact ih112 (k + 1) _ (by omega) (by omega) (lv_sub hl [4, 5, 6, 1, 2, 0] rfl)
                  · refine lv_lload hx hb dX9_isSo_192 (lv_at hl 1 rfl) ?_
                    refine lv_aload_n hx hb dX9_isSo_194 rfl (lv_at hl 2 rfl) ?_
                    refine f_get (C := RX9) (T := TX9) (N := 26) hx hb hts (by decide +kernel) hown hK hP 59 (by omega) e0 rfl 22 (by decide) (hts (.fieldLink RX9 191 "KeptMovingModel" "high" "J") (by decide +kernel)) (fun _ h9 => h9) rfl dX9_isSo_195 ?_
                    refine lv_lload_n hx hb dX9_isSo_198 rfl (lv_at hl 4 rfl) ?_
                    refine n_lmul hx hb dX9_isSo_199 ?_
                    refine n_lcmp hx hb (by omega) (by omega) (by omega) (by omega) dX9_isSo_200 ?_
                    refine n_ifc_gt (tgt := 208) hx hb dX9_isSo_201 (by decide) (fun c_201 => ?_) (fun c_201 => ?_)
                    · refine n_iconst hx hb dX9_isSo_208 ?_
                      refine n_iadd hx hb dX9_isSo_209 ?_
                      refine n_top (A := ((mnR (rw8 mbe, rw8 mpl, rw8 msp, pn, ga) lw hg n d k : Nat) : Int) + 0) (B := (((mnR (rw8 mbe, rw8 mpl, rw8 msp, pn, ga) lw hg n d k) + 0 : Nat) : Int)) (by omega) ?_
                      refine lv_istore (lv' := [(5, .int (iN (((mnR (rw8 mbe, rw8 mpl, rw8 msp, pn, ga) lw hg n d k) + 0 : Nat) : Int))), (6, .int (iN 1)), (8, .long (jN (upX (rw8 mbe, rw8 mpl, rw8 msp, pn, ga) n d k))), (0, .ref (gad G 59)), (1, .long (jN n)), (3, .long (jN d)), (7, .int (iN ((k : Nat) : Int)))]) hx hb dX9_isSo_210 hl (by decide) rfl (fun ls hl => ?_)
                      have hth : thX (rw8 mbe, rw8 mpl, rw8 msp, pn, ga) n d k = true := decide_eq_true c_129
                      have hz_26 : (1 : Int) = (if thg = 2 ∨ fiR (rw8 mbe, rw8 mpl, rw8 msp, pn, ga) onn.toNat n d (k + 1) = true then 1 else 0) := by exact (if_pos (fi_1 hth c_144 (by first | exact Or.inl (by omega) | exact Or.inr (by omega)))).symm
                      have hl : lv_has ls 10 [(5, .int (iN (((mnR (rw8 mbe, rw8 mpl, rw8 msp, pn, ga) lw hg n d k) + 0 : Nat) : Int))), (6, .int (iN (if thg = 2 ∨ fiR (rw8 mbe, rw8 mpl, rw8 msp, pn, ga) onn.toNat n d (k + 1) = true then 1 else 0))), (8, .long (jN (upX (rw8 mbe, rw8 mpl, rw8 msp, pn, ga) n d k))), (0, .ref (gad G 59)), (1, .long (jN n)), (3, .long (jN d)), (7, .int (iN ((k : Nat) : Int)))] := by rw [← hz_26]; exact hl
                      have hz_27 : (mnR (rw8 mbe, rw8 mpl, rw8 msp, pn, ga) lw hg n d k) + 0 = mnR (rw8 mbe, rw8 mpl, rw8 msp, pn, ga) lw hg n d (k + 1) := by exact mnR_n (fun z => by have z1 := z.2.1; have z2 := z.2.2; omega)
                      have hl : lv_has ls 10 [(5, .int (iN ((mnR (rw8 mbe, rw8 mpl, rw8 msp, pn, ga) lw hg n d (k + 1) : Nat) : Int))), (6, .int (iN (if thg = 2 ∨ fiR (rw8 mbe, rw8 mpl, rw8 msp, pn, ga) onn.toNat n d (k + 1) = true then 1 else 0))), (8, .long (jN (upX (rw8 mbe, rw8 mpl, rw8 msp, pn, ga) n d k))), (0, .ref (gad G 59)), (1, .long (jN n)), (3, .long (jN d)), (7, .int (iN ((k : Nat) : Int)))] := by rw [← hz_27]; exact hl
                      refine lv_iinc (v := iN ((k + 1 : Nat) : Int)) (lv' := [(7, .int (iN ((k + 1 : Nat) : Int))), (5, .int (iN ((mnR (rw8 mbe, rw8 mpl, rw8 msp, pn, ga) lw hg n d (k + 1) : Nat) : Int))), (6, .int (iN (if thg = 2 ∨ fiR (rw8 mbe, rw8 mpl, rw8 msp, pn, ga) onn.toNat n d (k + 1) = true then 1 else 0))), (8, .long (jN (upX (rw8 mbe, rw8 mpl, rw8 msp, pn, ga) n d k))), (0, .ref (gad G 59)), (1, .long (jN n)), (3, .long (jN d))]) hx hb dX9_isSo_212 hl (k := 6) rfl (iN_incN _) (by decide) rfl (fun ls hl => ?_)
                      refine lv_goto (tgt := 112) hx hb dX9_isSo_215 (by decide) ?_
                      exact ih112 (k + 1) _ (by omega) (by omega) (lv_sub hl [4, 5, 6, 1, 2, 0] rfl)
                    · refine n_iconst hx hb dX9_isSo_204 ?_
                      refine lv_goto (tgt := 209) hx hb dX9_isSo_205 (by decide) ?_
                      refine n_iadd hx hb dX9_isSo_209 ?_
                      refine n_top (A := ((mnR (rw8 mbe, rw8 mpl, rw8 msp, pn, ga) lw hg n d k : Nat) : Int) + 1) (B := (((mnR (rw8 mbe, rw8 mpl, rw8 msp, pn, ga) lw hg n d k) + 1 : Nat) : Int)) (by omega) ?_
                      refine lv_istore (lv' := [(5, .int (iN (((mnR (rw8 mbe, rw8 mpl, rw8 msp, pn, ga) lw hg n d k) + 1 : Nat) : Int))), (6, .int (iN 1)), (8, .long (jN (upX (rw8 mbe, rw8 mpl, rw8 msp, pn, ga) n d k))), (0, .ref (gad G 59)), (1, .long (jN n)), (3, .long (jN d)), (7, .int (iN ((k : Nat) : Int)))]) hx hb dX9_isSo_210 hl (by decide) rfl (fun ls hl => ?_)
                      have hth : thX (rw8 mbe, rw8 mpl, rw8 msp, pn, ga) n d k = true := decide_eq_true c_129
                      have hz_28 : (1 : Int) = (if thg = 2 ∨ fiR (rw8 mbe, rw8 mpl, rw8 msp, pn, ga) onn.toNat n d (k + 1) = true then 1 else 0) := by exact (if_pos (fi_1 hth c_144 (by first | exact Or.inl (by omega) | exact Or.inr (by omega)))).symm
                      have hl : lv_has ls 10 [(5, .int (iN (((mnR (rw8 mbe, rw8 mpl, rw8 msp, pn, ga) lw hg n d k) + 1 : Nat) : Int))), (6, .int (iN (if thg = 2 ∨ fiR (rw8 mbe, rw8 mpl, rw8 msp, pn, ga) onn.toNat n d (k + 1) = true then 1 else 0))), (8, .long (jN (upX (rw8 mbe, rw8 mpl, rw8 msp, pn, ga) n d k))), (0, .ref (gad G 59)), (1, .long (jN n)), (3, .long (jN d)), (7, .int (iN ((k : Nat) : Int)))] := by rw [← hz_28]; exact hl
                      have hz_29 : (mnR (rw8 mbe, rw8 mpl, rw8 msp, pn, ga) lw hg n d k) + 1 = mnR (rw8 mbe, rw8 mpl, rw8 msp, pn, ga) lw hg n d (k + 1) := by exact mnR_y ⟨hth, by omega, by omega⟩
                      have hl : lv_has ls 10 [(5, .int (iN ((mnR (rw8 mbe, rw8 mpl, rw8 msp, pn, ga) lw hg n d (k + 1) : Nat) : Int))), (6, .int (iN (if thg = 2 ∨ fiR (rw8 mbe, rw8 mpl, rw8 msp, pn, ga) onn.toNat n d (k + 1) = true then 1 else 0))), (8, .long (jN (upX (rw8 mbe, rw8 mpl, rw8 msp, pn, ga) n d k))), (0, .ref (gad G 59)), (1, .long (jN n)), (3, .long (jN d)), (7, .int (iN ((k : Nat) : Int)))] := by rw [← hz_29]; exact hl
                      refine lv_iinc (v := iN ((k + 1 : Nat) : Int)) (lv' := [(7, .int (iN ((k + 1 : Nat) : Int))), (5, .int (iN ((mnR (rw8 mbe, rw8 mpl, rw8 msp, pn, ga) lw hg n d (k + 1) : Nat) : Int))), (6, .int (iN (if thg = 2 ∨ fiR (rw8 mbe, rw8 mpl, rw8 msp, pn, ga) onn.toNat n d (k + 1) = true then 1 else 0))), (8, .long (jN (upX (rw8 mbe, rw8 mpl, rw8 msp, pn, ga) n d k))), (0, .ref (gad G 59)), (1, .long (jN n)), (3, .long (jN d))]) hx hb dX9_isSo_212 hl (k := 6) rfl (iN_incN _) (by decide) rfl (fun ls hl => ?_)
                      refine lv_goto (tgt := 112) hx hb dX9_isSo_215 (by decide) ?_
                      exact ih112 (k + 1) _ (by omega) (by omega) (lv_sub hl [4, 5, 6, 1, 2, 0] rfl)
    refine n_iconst hx hb dX9_isSo_78 ?_
    refine lv_istore (lv' := [(5, .int (iN 0)), (0, .ref (gad G 59)), (1, .long (jN n)), (3, .long (jN d))]) hx hb dX9_isSo_79 hl (by decide) rfl (fun ls hl => ?_)
    refine lv_aload_n hx hb dX9_isSo_81 rfl (lv_at hl 1 rfl) ?_
    refine f_get (C := RX9) (T := TX9) (N := 26) hx hb hts (by decide +kernel) hown hK hP 59 (by omega) e0 rfl 18 (by decide) (hts (.fieldLink RX9 182 "KeptMovingModel" "thing" "I") (by decide +kernel)) (fun _ h9 => h9) rfl dX9_isSo_82 ?_
    refine n_iconst hx hb dX9_isSo_85 ?_
    refine n_icmp_eq (tgt := 102) hx hb dX9_isSo_86 (by decide) (by omega) (by omega) (by omega) (by omega) (fun c_86 => ?_) (fun c_86 => ?_)
    · refine n_iconst hx hb dX9_isSo_102 ?_
      refine lv_goto (tgt := 107) hx hb dX9_isSo_103 (by decide) ?_
      refine lv_istore (lv' := [(6, .int (iN 1)), (5, .int (iN 0)), (0, .ref (gad G 59)), (1, .long (jN n)), (3, .long (jN d))]) hx hb dX9_isSo_107 hl (by decide) rfl (fun ls hl => ?_)
      refine n_iconst hx hb dX9_isSo_109 ?_
      refine lv_istore (lv' := [(7, .int (iN 0)), (6, .int (iN 1)), (5, .int (iN 0)), (0, .ref (gad G 59)), (1, .long (jN n)), (3, .long (jN d))]) hx hb dX9_isSo_110 hl (by decide) rfl (fun ls hl => ?_)
      have hz_30 : (1 : Int) = (if thg = 2 ∨ fiR (rw8 mbe, rw8 mpl, rw8 msp, pn, ga) onn.toNat n d 0 = true then 1 else 0) := by exact (if_pos (show thg = 2 ∨ fiR (rw8 mbe, rw8 mpl, rw8 msp, pn, ga) onn.toNat n d 0 = true by first | exact Or.inl (by omega) | exact Or.inr (decide_eq_true c_99))).symm
      have hl : lv_has ls 10 [(7, .int (iN 0)), (6, .int (iN (if thg = 2 ∨ fiR (rw8 mbe, rw8 mpl, rw8 msp, pn, ga) onn.toNat n d 0 = true then 1 else 0))), (5, .int (iN 0)), (0, .ref (gad G 59)), (1, .long (jN n)), (3, .long (jN d))] := by rw [← hz_30]; exact hl
      have hz_31 : 0 = mnR (rw8 mbe, rw8 mpl, rw8 msp, pn, ga) lw hg n d 0 := by exact rfl
      have hl : lv_has ls 10 [(7, .int (iN 0)), (6, .int (iN (if thg = 2 ∨ fiR (rw8 mbe, rw8 mpl, rw8 msp, pn, ga) onn.toNat n d 0 = true then 1 else 0))), (5, .int (iN ((mnR (rw8 mbe, rw8 mpl, rw8 msp, pn, ga) lw hg n d 0 : Nat) : Int))), (0, .ref (gad G 59)), (1, .long (jN n)), (3, .long (jN d))] := by rw [← hz_31]; exact hl
      exact K112 ((11 - 0) + 1) (0) _ (by omega) (by omega) (lv_sub hl [3, 4, 5, 2, 1, 0] rfl)
    · have hOa : OKC (rw8 mbe onn.toNat) (rw8 mpl onn.toNat) (rw8 msp onn.toNat) (pn onn.toNat) (ga onn.toNat) := p0.2 onn.toNat (by omega)
      obtain ⟨av1, av2, av3, av4⟩ := id hOa
      have av20 := av2 0 (by omega)
      have au : -2000000000 ≤ upX (rw8 mbe, rw8 mpl, rw8 msp, pn, ga) n d onn.toNat ∧ upX (rw8 mbe, rw8 mpl, rw8 msp, pn, ga) n d onn.toNat ≤ 2000000000 := upAt_rngB hOa p7 p8
      refine lv_aload_n hx hb dX9_isSo_89 rfl (lv_at hl 1 rfl) ?_
      refine lv_aload_n hx hb dX9_isSo_90 rfl (lv_at hl 1 rfl) ?_
      refine f_get (C := RX9) (T := TX9) (N := 26) hx hb hts (by decide +kernel) hown hK hP 59 (by omega) e0 rfl 19 (by decide) (hts (.fieldLink RX9 185 "KeptMovingModel" "one" "I") (by decide +kernel)) (fun _ h9 => h9) rfl dX9_isSo_91 ?_
      refine n_top (A := onn) (B := ((onn.toNat : Nat) : Int)) (by omega) ?_
      refine lv_lload_n hx hb dX9_isSo_94 rfl (lv_at hl 2 rfl) ?_
      refine lv_lload_n hx hb dX9_isSo_95 rfl (lv_at hl 3 rfl) ?_
      refine vp_callSi (W.runV (As := [.int (iN ((onn.toNat : Nat) : Int)), .long (jN n), .long (jN d)]) (rest := []) ⟨hx, hb, hml, hown, hts⟩ (c_X9_isThere l G w now came rm mt tm thg onn two lw hg sq ga pn mbe mpl msp onn.toNat n d e0 e1 e2 e3 e4 e5 (by omega) (av20) (av3) (by omega) (by omega)) (cwV 3 hts gX9_isSo_X9_isThere rfl rfl rfl (by decide +kernel) ⟨Nat.le_of_ble_eq_true rfl, Nat.le_of_ble_eq_true rfl⟩) (f_preV hP hK 59 (by omega) 8 e0 rfl) rfl rfl hl.1 rfl (lv_room (Nat.le_of_ble_eq_true rfl)) dX9_isSo_96 ⟨Nat.zero_le _, Nat.zero_le _⟩) (fun r_32 hr_32 => ?_)
      rw [show r_32 = iN (if (rw8 mbe onn.toNat 0 * d ≤ n ∧ (ga onn.toNat = -1 ∨ n < ga onn.toNat * d)) then 1 else 0) from hr_32]
      refine n_ifb_eq (tgt := 106) hx hb dX9_isSo_99 (by decide) (fun c_99 => ?_) (fun c_99 => ?_)
      · refine n_iconst hx hb dX9_isSo_106 ?_
        refine lv_istore (lv' := [(6, .int (iN 0)), (5, .int (iN 0)), (0, .ref (gad G 59)), (1, .long (jN n)), (3, .long (jN d))]) hx hb dX9_isSo_107 hl (by decide) rfl (fun ls hl => ?_)
        refine n_iconst hx hb dX9_isSo_109 ?_
        refine lv_istore (lv' := [(7, .int (iN 0)), (6, .int (iN 0)), (5, .int (iN 0)), (0, .ref (gad G 59)), (1, .long (jN n)), (3, .long (jN d))]) hx hb dX9_isSo_110 hl (by decide) rfl (fun ls hl => ?_)
        have hz_33 : (0 : Int) = (if thg = 2 ∨ fiR (rw8 mbe, rw8 mpl, rw8 msp, pn, ga) onn.toNat n d 0 = true then 1 else 0) := by exact (if_neg (show ¬ (thg = 2 ∨ fiR (rw8 mbe, rw8 mpl, rw8 msp, pn, ga) onn.toNat n d 0 = true) from fun z => z.elim (fun y => by omega) (fun y => c_99 (of_decide_eq_true y)))).symm
        have hl : lv_has ls 10 [(7, .int (iN 0)), (6, .int (iN (if thg = 2 ∨ fiR (rw8 mbe, rw8 mpl, rw8 msp, pn, ga) onn.toNat n d 0 = true then 1 else 0))), (5, .int (iN 0)), (0, .ref (gad G 59)), (1, .long (jN n)), (3, .long (jN d))] := by rw [← hz_33]; exact hl
        have hz_34 : 0 = mnR (rw8 mbe, rw8 mpl, rw8 msp, pn, ga) lw hg n d 0 := by exact rfl
        have hl : lv_has ls 10 [(7, .int (iN 0)), (6, .int (iN (if thg = 2 ∨ fiR (rw8 mbe, rw8 mpl, rw8 msp, pn, ga) onn.toNat n d 0 = true then 1 else 0))), (5, .int (iN ((mnR (rw8 mbe, rw8 mpl, rw8 msp, pn, ga) lw hg n d 0 : Nat) : Int))), (0, .ref (gad G 59)), (1, .long (jN n)), (3, .long (jN d))] := by rw [← hz_34]; exact hl
        exact K112 ((11 - 0) + 1) (0) _ (by omega) (by omega) (lv_sub hl [3, 4, 5, 2, 1, 0] rfl)
      · refine n_iconst hx hb dX9_isSo_102 ?_
        refine lv_goto (tgt := 107) hx hb dX9_isSo_103 (by decide) ?_
        refine lv_istore (lv' := [(6, .int (iN 1)), (5, .int (iN 0)), (0, .ref (gad G 59)), (1, .long (jN n)), (3, .long (jN d))]) hx hb dX9_isSo_107 hl (by decide) rfl (fun ls hl => ?_)
        refine n_iconst hx hb dX9_isSo_109 ?_
        refine lv_istore (lv' := [(7, .int (iN 0)), (6, .int (iN 1)), (5, .int (iN 0)), (0, .ref (gad G 59)), (1, .long (jN n)), (3, .long (jN d))]) hx hb dX9_isSo_110 hl (by decide) rfl (fun ls hl => ?_)
        have hz_35 : (1 : Int) = (if thg = 2 ∨ fiR (rw8 mbe, rw8 mpl, rw8 msp, pn, ga) onn.toNat n d 0 = true then 1 else 0) := by exact (if_pos (show thg = 2 ∨ fiR (rw8 mbe, rw8 mpl, rw8 msp, pn, ga) onn.toNat n d 0 = true by first | exact Or.inl (by omega) | exact Or.inr (decide_eq_true c_99))).symm
        have hl : lv_has ls 10 [(7, .int (iN 0)), (6, .int (iN (if thg = 2 ∨ fiR (rw8 mbe, rw8 mpl, rw8 msp, pn, ga) onn.toNat n d 0 = true then 1 else 0))), (5, .int (iN 0)), (0, .ref (gad G 59)), (1, .long (jN n)), (3, .long (jN d))] := by rw [← hz_35]; exact hl
        have hz_36 : 0 = mnR (rw8 mbe, rw8 mpl, rw8 msp, pn, ga) lw hg n d 0 := by exact rfl
        have hl : lv_has ls 10 [(7, .int (iN 0)), (6, .int (iN (if thg = 2 ∨ fiR (rw8 mbe, rw8 mpl, rw8 msp, pn, ga) onn.toNat n d 0 = true then 1 else 0))), (5, .int (iN ((mnR (rw8 mbe, rw8 mpl, rw8 msp, pn, ga) lw hg n d 0 : Nat) : Int))), (0, .ref (gad G 59)), (1, .long (jN n)), (3, .long (jN d))] := by rw [← hz_36]; exact hl
        exact K112 ((11 - 0) + 1) (0) _ (by omega) (by omega) (lv_sub hl [3, 4, 5, 2, 1, 0] rfl)
  · have hOa : OKC (rw8 mbe onn.toNat) (rw8 mpl onn.toNat) (rw8 msp onn.toNat) (pn onn.toNat) (ga onn.toNat) := p0.2 onn.toNat (by omega)
    obtain ⟨av1, av2, av3, av4⟩ := id hOa
    have av20 := av2 0 (by omega)
    have au : -2000000000 ≤ upX (rw8 mbe, rw8 mpl, rw8 msp, pn, ga) n d onn.toNat ∧ upX (rw8 mbe, rw8 mpl, rw8 msp, pn, ga) n d onn.toNat ≤ 2000000000 := upAt_rngB hOa p7 p8
    have hOb : OKC (rw8 mbe two.toNat) (rw8 mpl two.toNat) (rw8 msp two.toNat) (pn two.toNat) (ga two.toNat) := p0.2 two.toNat (by omega)
    obtain ⟨bv1, bv2, bv3, bv4⟩ := id hOb
    have bv20 := bv2 0 (by omega)
    have bu : -2000000000 ≤ upX (rw8 mbe, rw8 mpl, rw8 msp, pn, ga) n d two.toNat ∧ upX (rw8 mbe, rw8 mpl, rw8 msp, pn, ga) n d two.toNat ≤ 2000000000 := upAt_rngB hOb p7 p8
    refine lv_aload_n hx hb dX9_isSo_7 rfl (lv_at hl 0 rfl) ?_
    refine lv_aload_n hx hb dX9_isSo_8 rfl (lv_at hl 0 rfl) ?_
    refine f_get (C := RX9) (T := TX9) (N := 26) hx hb hts (by decide +kernel) hown hK hP 59 (by omega) e0 rfl 19 (by decide) (hts (.fieldLink RX9 185 "KeptMovingModel" "one" "I") (by decide +kernel)) (fun _ h9 => h9) rfl dX9_isSo_9 ?_
    refine n_top (A := onn) (B := ((onn.toNat : Nat) : Int)) (by omega) ?_
    refine lv_lload_n hx hb dX9_isSo_12 rfl (lv_at hl 1 rfl) ?_
    refine lv_lload_n hx hb dX9_isSo_13 rfl (lv_at hl 2 rfl) ?_
    refine vp_callSl (W.runV (As := [.int (iN ((onn.toNat : Nat) : Int)), .long (jN n), .long (jN d)]) (rest := []) ⟨hx, hb, hml, hown, hts⟩ (c_X9_placeAt l G w now came rm mt tm thg onn two lw hg sq ga pn mbe mpl msp onn.toNat n d e0 e1 e2 e3 e4 e5 (by omega) (av1) (av2) (av4) (by omega) (by omega)) (cwV 3 hts gX9_isSo_X9_placeAt rfl rfl rfl (by decide +kernel) ⟨Nat.le_of_ble_eq_true rfl, Nat.le_of_ble_eq_true rfl⟩) (f_preV hP hK 59 (by omega) 8 e0 rfl) rfl rfl hl.1 rfl (lv_room (Nat.le_of_ble_eq_true rfl)) dX9_isSo_14 ⟨Nat.zero_le _, Nat.zero_le _⟩) (fun r_37 hr_37 => ?_)
    rw [show r_37 = jN (upAt (rw8 mbe onn.toNat) (rw8 mpl onn.toNat) (rw8 msp onn.toNat) (pn onn.toNat) n d) from hr_37]
    refine lv_aload_n hx hb dX9_isSo_17 rfl (lv_at hl 0 rfl) ?_
    refine lv_aload_n hx hb dX9_isSo_18 rfl (lv_at hl 0 rfl) ?_
    refine f_get (C := RX9) (T := TX9) (N := 26) hx hb hts (by decide +kernel) hown hK hP 59 (by omega) e0 rfl 20 (by decide) (hts (.fieldLink RX9 188 "KeptMovingModel" "two" "I") (by decide +kernel)) (fun _ h9 => h9) rfl dX9_isSo_19 ?_
    refine n_top (A := two) (B := ((two.toNat : Nat) : Int)) (by omega) ?_
    refine lv_lload_n hx hb dX9_isSo_22 rfl (lv_at hl 1 rfl) ?_
    refine lv_lload_n hx hb dX9_isSo_23 rfl (lv_at hl 2 rfl) ?_
    refine vp_callSl (W.runV (As := [.int (iN ((two.toNat : Nat) : Int)), .long (jN n), .long (jN d)]) (rest := [.long (jN (upAt (rw8 mbe onn.toNat) (rw8 mpl onn.toNat) (rw8 msp onn.toNat) (pn onn.toNat) n d))]) ⟨hx, hb, hml, hown, hts⟩ (c_X9_placeAt l G w now came rm mt tm thg onn two lw hg sq ga pn mbe mpl msp two.toNat n d e0 e1 e2 e3 e4 e5 (by omega) (bv1) (bv2) (bv4) (by omega) (by omega)) (cwV 3 hts gX9_isSo_X9_placeAt rfl rfl rfl (by decide +kernel) ⟨Nat.le_of_ble_eq_true rfl, Nat.le_of_ble_eq_true rfl⟩) (f_preV hP hK 59 (by omega) 8 e0 rfl) rfl rfl hl.1 rfl (lv_room (Nat.le_of_ble_eq_true rfl)) dX9_isSo_24 ⟨Nat.zero_le _, Nat.zero_le _⟩) (fun r_38 hr_38 => ?_)
    rw [show r_38 = jN (upAt (rw8 mbe two.toNat) (rw8 mpl two.toNat) (rw8 msp two.toNat) (pn two.toNat) n d) from hr_38]
    refine n_lsub hx hb dX9_isSo_27 ?_
    refine n_topL (A := (upAt (rw8 mbe onn.toNat) (rw8 mpl onn.toNat) (rw8 msp onn.toNat) (pn onn.toNat) n d) - (upAt (rw8 mbe two.toNat) (rw8 mpl two.toNat) (rw8 msp two.toNat) (pn two.toNat) n d)) (B := upX (rw8 mbe, rw8 mpl, rw8 msp, pn, ga) n d onn.toNat - upX (rw8 mbe, rw8 mpl, rw8 msp, pn, ga) n d two.toNat) (by exact rfl) ?_
    refine lv_lstore (lv' := [(5, .long (jN (upX (rw8 mbe, rw8 mpl, rw8 msp, pn, ga) n d onn.toNat - upX (rw8 mbe, rw8 mpl, rw8 msp, pn, ga) n d two.toNat))), (0, .ref (gad G 59)), (1, .long (jN n)), (3, .long (jN d))]) hx hb dX9_isSo_28 hl (by decide) rfl (fun ls hl => ?_)
    refine lv_aload_n hx hb dX9_isSo_30 rfl (lv_at hl 1 rfl) ?_
    refine lv_aload_n hx hb dX9_isSo_31 rfl (lv_at hl 1 rfl) ?_
    refine f_get (C := RX9) (T := TX9) (N := 26) hx hb hts (by decide +kernel) hown hK hP 59 (by omega) e0 rfl 19 (by decide) (hts (.fieldLink RX9 185 "KeptMovingModel" "one" "I") (by decide +kernel)) (fun _ h9 => h9) rfl dX9_isSo_32 ?_
    refine n_top (A := onn) (B := ((onn.toNat : Nat) : Int)) (by omega) ?_
    refine lv_aload_n hx hb dX9_isSo_35 rfl (lv_at hl 1 rfl) ?_
    refine f_get (C := RX9) (T := TX9) (N := 26) hx hb hts (by decide +kernel) hown hK hP 59 (by omega) e0 rfl 20 (by decide) (hts (.fieldLink RX9 188 "KeptMovingModel" "two" "I") (by decide +kernel)) (fun _ h9 => h9) rfl dX9_isSo_36 ?_
    refine n_top (A := two) (B := ((two.toNat : Nat) : Int)) (by omega) ?_
    refine lv_lload_n hx hb dX9_isSo_39 rfl (lv_at hl 2 rfl) ?_
    refine lv_lload_n hx hb dX9_isSo_40 rfl (lv_at hl 3 rfl) ?_
    refine vp_callSi (W.runV (As := [.int (iN ((onn.toNat : Nat) : Int)), .int (iN ((two.toNat : Nat) : Int)), .long (jN n), .long (jN d)]) (rest := []) ⟨hx, hb, hml, hown, hts⟩ (c_X9_isThereBoth l G w now came rm mt tm thg onn two lw hg sq ga pn mbe mpl msp onn.toNat two.toNat n d e0 e1 e2 e3 e4 e5 (by omega) (by omega) (av20) (av3) (bv20) (bv3) (by omega) (by omega)) (cwV 4 hts gX9_isSo_X9_isThereBoth rfl rfl rfl (by decide +kernel) ⟨Nat.le_of_ble_eq_true rfl, Nat.le_of_ble_eq_true rfl⟩) (f_preV hP hK 59 (by omega) 8 e0 rfl) rfl rfl hl.1 rfl (lv_room (Nat.le_of_ble_eq_true rfl)) dX9_isSo_41 ⟨Nat.zero_le _, Nat.zero_le _⟩) (fun r_39 hr_39 => ?_)
    rw [show r_39 = iN (if (rw8 mbe onn.toNat 0 * d ≤ n ∧ (ga onn.toNat = -1 ∨ n < ga onn.toNat * d)) ∧ (rw8 mbe two.toNat 0 * d ≤ n ∧ (ga two.toNat = -1 ∨ n < ga two.toNat * d)) then 1 else 0) from hr_39]
    refine n_ifb_eq (tgt := 76) hx hb dX9_isSo_44 (by decide) (fun c_44 => ?_) (fun c_44 => ?_)
    · refine n_iconst hx hb dX9_isSo_76 ?_
      exact r_z0 hx hb hr dX9_isSo_77 hlocks (show iN 0 = iN (if soX (rw8 mbe, rw8 mpl, rw8 msp, pn, ga) came thg onn two lw hg n d = true then 1 else 0) by rw [if_neg (fun z : soX (rw8 mbe, rw8 mpl, rw8 msp, pn, ga) came thg onn two lw hg n d = true => by unfold soX at z; rw [if_pos (show thg = 0 by omega)] at z; have z0 := of_decide_eq_true z; first | exact c_44 ⟨of_decide_eq_true z0.1.1, of_decide_eq_true z0.1.2⟩ | (have z1 := z0.2.1; have z2 := z0.2.2; omega))])
    · refine lv_lload hx hb dX9_isSo_47 (lv_at hl 0 rfl) ?_
      refine lv_aload_n hx hb dX9_isSo_49 rfl (lv_at hl 1 rfl) ?_
      refine f_get (C := RX9) (T := TX9) (N := 26) hx hb hts (by decide +kernel) hown hK hP 59 (by omega) e0 rfl 22 (by decide) (hts (.fieldLink RX9 191 "KeptMovingModel" "high" "J") (by decide +kernel)) (fun _ h9 => h9) rfl dX9_isSo_50 ?_
      refine lv_lload_n hx hb dX9_isSo_53 rfl (lv_at hl 3 rfl) ?_
      refine n_lmul hx hb dX9_isSo_54 ?_
      refine n_lcmp hx hb (by omega) (by omega) (by omega) (by omega) dX9_isSo_55 ?_
      refine n_ifc_gt (tgt := 76) hx hb dX9_isSo_56 (by decide) (fun c_56 => ?_) (fun c_56 => ?_)
      · refine n_iconst hx hb dX9_isSo_76 ?_
        exact r_z0 hx hb hr dX9_isSo_77 hlocks (show iN 0 = iN (if soX (rw8 mbe, rw8 mpl, rw8 msp, pn, ga) came thg onn two lw hg n d = true then 1 else 0) by rw [if_neg (fun z : soX (rw8 mbe, rw8 mpl, rw8 msp, pn, ga) came thg onn two lw hg n d = true => by unfold soX at z; rw [if_pos (show thg = 0 by omega)] at z; have z0 := of_decide_eq_true z; first | exact c_44 ⟨of_decide_eq_true z0.1.1, of_decide_eq_true z0.1.2⟩ | (have z1 := z0.2.1; have z2 := z0.2.2; omega))])
      · refine lv_lload hx hb dX9_isSo_59 (lv_at hl 0 rfl) ?_
        refine lv_aload_n hx hb dX9_isSo_61 rfl (lv_at hl 1 rfl) ?_
        refine f_get (C := RX9) (T := TX9) (N := 26) hx hb hts (by decide +kernel) hown hK hP 59 (by omega) e0 rfl 22 (by decide) (hts (.fieldLink RX9 191 "KeptMovingModel" "high" "J") (by decide +kernel)) (fun _ h9 => h9) rfl dX9_isSo_62 ?_
        refine n_lneg hx hb dX9_isSo_65 ?_
        refine lv_lload_n hx hb dX9_isSo_66 rfl (lv_at hl 3 rfl) ?_
        refine n_lmul hx hb dX9_isSo_67 ?_
        refine n_lcmp hx hb (by omega) (by omega) (by omega) (by omega) dX9_isSo_68 ?_
        refine n_ifc_lt (tgt := 76) hx hb dX9_isSo_69 (by decide) (fun c_69 => ?_) (fun c_69 => ?_)
        · refine n_iconst hx hb dX9_isSo_76 ?_
          exact r_z0 hx hb hr dX9_isSo_77 hlocks (show iN 0 = iN (if soX (rw8 mbe, rw8 mpl, rw8 msp, pn, ga) came thg onn two lw hg n d = true then 1 else 0) by rw [if_neg (fun z : soX (rw8 mbe, rw8 mpl, rw8 msp, pn, ga) came thg onn two lw hg n d = true => by unfold soX at z; rw [if_pos (show thg = 0 by omega)] at z; have z0 := of_decide_eq_true z; first | exact c_44 ⟨of_decide_eq_true z0.1.1, of_decide_eq_true z0.1.2⟩ | (have z1 := z0.2.1; have z2 := z0.2.2; omega))])
        · refine n_iconst hx hb dX9_isSo_72 ?_
          refine lv_goto (tgt := 77) hx hb dX9_isSo_73 (by decide) ?_
          exact r_z1 hx hb hr dX9_isSo_77 hlocks (show iN 1 = iN (if soX (rw8 mbe, rw8 mpl, rw8 msp, pn, ga) came thg onn two lw hg n d = true then 1 else 0) by rw [if_pos (show soX (rw8 mbe, rw8 mpl, rw8 msp, pn, ga) came thg onn two lw hg n d = true by unfold soX; rw [if_pos (show thg = 0 by omega)]; exact decide_eq_true ⟨⟨decide_eq_true c_44.1, decide_eq_true c_44.2⟩, by omega, by omega⟩)])

abbrev SPN : Type := TM × TM
def addS (a b : TM) (L : List SPN) : List SPN := match L.getLast? with
  | some q => if q.2.1 * a.2 = a.1 * q.2.2 then L.dropLast ++ [(q.1, b)] else L ++ [(a, b)]
  | none => [(a, b)]
def isQ (L : List SPN) (sq : Nat) (sN sD : Nat → Int) : Prop := sq = L.length ∧ ∀ (k : Nat) (q : SPN), L[k]? = some q → (sN (2 * k) = q.1.1 ∧ sD (2 * k) = q.1.2 ∧ sN (2 * k + 1) = q.2.1 ∧ sD (2 * k + 1) = q.2.2) ∧ okT q.1 ∧ okT q.2
theorem isQ_0 (sN sD : Nat → Int) : isQ [] 0 sN sD := ⟨rfl, fun k q h => by simp at h⟩
theorem isQ_bd {L : List SPN} {sq : Nat} {sN sD : Nat → Int} (h : isQ L sq sN sD) : ∀ k : Nat, k < 2 * sq → (0 ≤ sN k ∧ sN k ≤ 60000) ∧ (1 ≤ sD k ∧ sD k ≤ 100) := fun k hk => by
  obtain ⟨rfl, h3⟩ := h
  obtain ⟨h4, h5, h6⟩ := h3 (k / 2) L[k / 2] (List.getElem?_eq_getElem (by omega))
  unfold okT at h5 h6
  rcases Nat.mod_two_eq_zero_or_one k with z | z
  · rw [show 2 * (k / 2) = k by omega] at h4
    rw [h4.1, h4.2.1]
    omega
  · rw [show 2 * (k / 2) + 1 = k by omega] at h4
    rw [h4.2.2.1, h4.2.2.2]
    omega
theorem isQ_last {L0 : List SPN} {z : SPN} {sq : Nat} {sN sD : Nat → Int} (h : isQ (L0 ++ [z]) sq sN sD) : sq = L0.length + 1 ∧ sN (2 * sq - 1) = z.2.1 ∧ sD (2 * sq - 1) = z.2.2 := by
  obtain ⟨rfl, h3⟩ := h
  obtain ⟨h4, -⟩ := h3 L0.length z (by rw [List.getElem?_append_right (Nat.le_refl _), Nat.sub_self]; rfl)
  rw [List.length_append, List.length_singleton]
  rw [show 2 * (L0.length + 1) - 1 = 2 * L0.length + 1 by omega]
  exact ⟨rfl, h4.2.2⟩
theorem addS_c (a b : TM) (L0 : List SPN) (z : SPN) : addS a b (L0 ++ [z]) = if z.2.1 * a.2 = a.1 * z.2.2 then L0 ++ [(z.1, b)] else L0 ++ [z] ++ [(a, b)] := by
  unfold addS
  rw [List.getLast?_append]
  show (if _ then _ else _) = _
  rw [List.dropLast_concat]
  rfl
theorem isQ_t {L : List SPN} {sq : Nat} {sN sD : Nat → Int} (h : isQ L sq sN sD) {a b : TM} (hb : okT b) (h0 : 0 < sq) (he : sN (2 * sq - 1) * a.2 = a.1 * sD (2 * sq - 1)) : isQ (addS a b L) sq (va_up sN (2 * sq - 1) b.1) (va_up sD (2 * sq - 1) b.2) := by
  rcases List.eq_nil_or_concat L with hL | ⟨L0, z, hL⟩
  · subst hL
    exact absurd h.1 (by simp; omega)
  · rw [List.concat_eq_append] at hL
    subst hL
    obtain ⟨h1, h2, h3⟩ := isQ_last h
    rw [addS_c, if_pos (by rw [← h2, ← h3]; exact he)]
    obtain ⟨-, h5⟩ := h
    refine ⟨by rw [h1, List.length_append]; rfl, fun k q hq => ?_⟩
    rcases Nat.lt_or_ge k L0.length with g | g
    · rw [List.getElem?_append_left g] at hq
      have := h5 k q (by rw [List.getElem?_append_left g]; exact hq)
      rw [va_up_ne _ _ (by omega), va_up_ne _ _ (by omega), va_up_ne _ _ (by omega), va_up_ne _ _ (by omega)]
      exact this
    · have hk0 : k = L0.length := by
        have := (List.getElem?_eq_some_iff.mp hq).1
        rw [List.length_append, List.length_singleton] at this
        omega
      subst hk0
      rw [List.getElem?_append_right g, Nat.sub_self] at hq
      cases hq
      have := h5 L0.length z (by rw [List.getElem?_append_right g, Nat.sub_self]; rfl)
      rw [va_up_ne _ _ (by omega), va_up_ne _ _ (by omega), show 2 * L0.length + 1 = 2 * sq - 1 by omega, va_up_self, va_up_self]
      exact ⟨⟨this.1.1, this.1.2.1, rfl, rfl⟩, this.2.1, hb⟩
theorem addS_new {L : List SPN} {sq : Nat} {sN sD : Nat → Int} (h : isQ L sq sN sD) {a b : TM} (he : ¬ (0 < sq ∧ sN (2 * sq - 1) * a.2 = a.1 * sD (2 * sq - 1))) : addS a b L = L ++ [(a, b)] := by
  rcases List.eq_nil_or_concat L with hL | ⟨L0, z, hL⟩
  · subst hL
    rfl
  · rw [List.concat_eq_append] at hL
    subst hL
    obtain ⟨h1, h2, h3⟩ := isQ_last h
    rw [addS_c, if_neg]
    intro g
    rw [← h2, ← h3] at g
    exact he ⟨by omega, g⟩
theorem isQ_n {L : List SPN} {sq : Nat} {sN sD : Nat → Int} (h : isQ L sq sN sD) {a b : TM} (ha : okT a) (hb : okT b) (he : ¬ (0 < sq ∧ sN (2 * sq - 1) * a.2 = a.1 * sD (2 * sq - 1))) : isQ (addS a b L) (sq + 1) (va_up (va_up sN (2 * sq) a.1) (2 * (sq + 1) - 1) b.1) (va_up (va_up sD (2 * sq) a.2) (2 * (sq + 1) - 1) b.2) := by
  rw [addS_new h he]
  obtain ⟨h1, h5⟩ := h
  refine ⟨by rw [h1, List.length_append]; rfl, fun k q hq => ?_⟩
  rcases Nat.lt_or_ge k L.length with g | g
  · rw [List.getElem?_append_left g] at hq
    have := h5 k q hq
    rw [va_up_ne _ _ (by omega), va_up_ne _ _ (by omega), va_up_ne _ _ (by omega), va_up_ne _ _ (by omega), va_up_ne _ _ (by omega), va_up_ne _ _ (by omega), va_up_ne _ _ (by omega), va_up_ne _ _ (by omega)]
    exact this
  · have hk0 : k = L.length := by
      have := (List.getElem?_eq_some_iff.mp hq).1
      rw [List.length_append, List.length_singleton] at this
      omega
    subst hk0
    rw [List.getElem?_append_right g, Nat.sub_self] at hq
    cases hq
    rw [show 2 * L.length = 2 * sq by omega, va_up_ne _ _ (show 2 * sq ≠ 2 * (sq + 1) - 1 by omega), va_up_ne _ _ (show 2 * sq ≠ 2 * (sq + 1) - 1 by omega), show 2 * sq + 1 = 2 * (sq + 1) - 1 by omega, va_up_self, va_up_self, va_up_self, va_up_self]
    exact ⟨⟨rfl, rfl, rfl, rfl⟩, ha, hb⟩
theorem isT_ok {L : List TM} {tm : Nat} {tN tD : Nat → Int} (h : isT L tm tN tD) {k : Nat} (hk : k < tm) : okT (tN k, tD k) := by
  obtain ⟨rfl, h3⟩ := h
  obtain ⟨h4, h5⟩ := h3 k L[k] (List.getElem?_eq_getElem hk)
  unfold okT at *
  rw [h4.1, h4.2]
  exact h5
theorem mb7 {a b : Int} (ha : 0 ≤ a ∧ a ≤ 60000) (hb : 1 ≤ b ∧ b ≤ 100) : 0 ≤ a * b ∧ a * b ≤ 6000000 := by
  have h := mb3 (a := a) (b := b) (A := 60000) (B := 100) (by omega) (by omega)
  have h2 : 0 ≤ a * b := Int.mul_nonneg ha.1 (by omega)
  omega

set_option maxHeartbeats 4000000 in
set_option maxRecDepth 100000 in
theorem c_X9_addSpan (l : Launch) (G : GE) (w : WF) (U : List TM) (V : List SPN) (now : Nat) (came : Nat) (rm : Nat) (mt : Nat) (tm : Nat) (thg : Int) (onn : Int) (two : Int) (lw : Int) (hg : Int) (sq : Nat) (tN : Nat → Int) (tD : Nat → Int) (sN : Nat → Int) (sD : Nat → Int) (fi : Nat) (to : Nat) (e0 : w 59 = .inr (8, [.int (iN ((now : Nat) : Int)), .int (iN ((came : Nat) : Int)), .ref (gad G 60), .ref (gad G 61), .ref (gad G 62), .ref (gad G 63), .ref (gad G 64), .ref (gad G 65), .int (iN ((rm : Nat) : Int)), .int (iN ((mt : Nat) : Int)), .ref (gad G 66), .ref (gad G 67), .ref (gad G 68), .ref (gad G 69), .ref (gad G 70), .int (iN ((tm : Nat) : Int)), .ref (gad G 71), .ref (gad G 72), .int (iN thg), .int (iN onn), .int (iN two), .long (jN lw), .long (jN hg), .int (iN ((sq : Nat) : Int)), .ref (gad G 73), .ref (gad G 74)])) (e1 : w 71 = .inl (gJ G, 700, .inr (.inl (aJ tN)))) (e2 : w 72 = .inl (gJ G, 700, .inr (.inl (aJ tD)))) (e3 : w 73 = .inl (gJ G, 1400, .inr (.inl (aJ sN)))) (e4 : w 74 = .inl (gJ G, 1400, .inr (.inl (aJ sD)))) (p0 : isT U tm tN tD) (p1 : isQ V sq sN sD) (p2 : V.length < 700) (p3 : fi < tm) (p4 : to < tm) (p5 : U.length ≤ 700) : Met l yX9_addSpan wsX9_addSpan ({ frames := 0, cells := 0, slots := 0, locals := 0 }) (PcG G w [.ref (gad G 59), .int (iN ((fi : Nat) : Int)), .int (iN ((to : Nat) : Int))]) (QV G (fun w1 => ∃ (sq2 : Nat) (sN2 : Nat → Int) (sD2 : Nat → Int), (∀ k : Nat, k ≠ 59 → k ≠ 73 → k ≠ 74 → w1 k = w k) ∧ w1 59 = .inr (8, [.int (iN ((now : Nat) : Int)), .int (iN ((came : Nat) : Int)), .ref (gad G 60), .ref (gad G 61), .ref (gad G 62), .ref (gad G 63), .ref (gad G 64), .ref (gad G 65), .int (iN ((rm : Nat) : Int)), .int (iN ((mt : Nat) : Int)), .ref (gad G 66), .ref (gad G 67), .ref (gad G 68), .ref (gad G 69), .ref (gad G 70), .int (iN ((tm : Nat) : Int)), .ref (gad G 71), .ref (gad G 72), .int (iN thg), .int (iN onn), .int (iN two), .long (jN lw), .long (jN hg), .int (iN ((sq2 : Nat) : Int)), .ref (gad G 73), .ref (gad G 74)]) ∧ w1 73 = .inl (gJ G, 1400, .inr (.inl (aJ sN2))) ∧ w1 74 = .inl (gJ G, 1400, .inr (.inl (aJ sD2))) ∧ (isQ (addS (tN fi, tD fi) (tN to, tD to) V) sq2 sN2 sD2))) 0 0 (AA G) := by
  refine Met.ofW (cc := cX9_addSpan) (maxL := 4) (ret := none) (by decide) rfl ?_
  intro p e s m args below meth c s₁ B hml hv
  obtain ⟨rfl, hP, hK⟩ := hv
  have hx := B.exec
  have hb := B.bytes
  have hr := B.returns
  have hts := atoms_spec (ws := wsX9_addSpan) B.pre
  have hown : s.vm.findClass RX9 = some m.cls := findClass_of_methodNamed B.named
  have hlocks := B.notSynchronized
  have hS : va_S (AA G) s.heap s.heap [] := va_S.rf
  have hAA : ∀ q, AA G q → AA G q := fun _ h => h
  have hl := lv_entry ([.ref (gad G 59), .int (iN ((fi : Nat) : Int)), .int (iN ((to : Nat) : Int))]) (n := 4) (Nat.le_of_ble_eq_true rfl)
  rw [lg_entry_eq]
  generalize (lg_sl ([.ref (gad G 59), .int (iN ((fi : Nat) : Int)), .int (iN ((to : Nat) : Int))]) ++ List.replicate (4 - (lg_sl ([.ref (gad G 59), .int (iN ((fi : Nat) : Int)), .int (iN ((to : Nat) : Int))])).length) Slot.unset).toArray = ls at hl ⊢
  have hl : lv_has ls 4 [(0, .ref (gad G 59)), (1, .int (iN ((fi : Nat) : Int))), (2, .int (iN ((to : Nat) : Int)))] := hl
  have hq0 : sq < 700 := by rw [p1.1]; exact p2
  have ht0 : tm ≤ 700 := by rw [p0.1]; exact p5
  have hbf := isT_bd p0 fi p3
  refine lv_aload_n hx hb dX9_addSpan_0 rfl (lv_at hl 0 rfl) ?_
  refine f_get (C := RX9) (T := TX9) (N := 26) hx hb hts (by decide +kernel) hown hK hP 59 (by omega) e0 rfl 23 (by decide) (hts (.fieldLink RX9 198 "KeptMovingModel" "spans" "I") (by decide +kernel)) (fun _ h9 => h9) rfl dX9_addSpan_1 ?_
  refine n_if_le (tgt := 55) hx hb dX9_addSpan_4 (by decide) (by omega) (by omega) (fun c_4 => ?_) (fun c_4 => ?_)
  · refine n_iconst hx hb dX9_addSpan_55 ?_
    refine lv_istore_n (lv' := [(3, .int (iN 0)), (0, .ref (gad G 59)), (1, .int (iN ((fi : Nat) : Int))), (2, .int (iN ((to : Nat) : Int)))]) hx hb dX9_addSpan_56 rfl hl (by decide) rfl (fun ls hl => ?_)
    refine lv_iload_n hx hb dX9_addSpan_57 rfl (lv_at hl 0 rfl) ?_
    refine n_if_ne (tgt := 105) hx hb dX9_addSpan_58 (by decide) (by omega) (by omega) (fun c_58 => ?_) (fun c_58 => ?_)
    · exact absurd c_58 (by decide)
    · refine lv_aload_n hx hb dX9_addSpan_61 rfl (lv_at hl 1 rfl) ?_
      refine f_get (C := RX9) (T := TX9) (N := 26) hx hb hts (by decide +kernel) hown hK hP 59 (by omega) e0 rfl 24 (by decide) (hts (.fieldLink RX9 51 "KeptMovingModel" "spanN" "[J") (by decide +kernel)) (fun _ h9 => h9) rfl dX9_addSpan_62 ?_
      refine n_iconst hx hb dX9_addSpan_65 ?_
      refine lv_aload_n hx hb dX9_addSpan_66 rfl (lv_at hl 1 rfl) ?_
      refine f_get (C := RX9) (T := TX9) (N := 26) hx hb hts (by decide +kernel) hown hK hP 59 (by omega) e0 rfl 23 (by decide) (hts (.fieldLink RX9 198 "KeptMovingModel" "spans" "I") (by decide +kernel)) (fun _ h9 => h9) rfl dX9_addSpan_67 ?_
      refine n_imul hx hb dX9_addSpan_70 ?_
      refine n_top (A := 2 * ((sq : Nat) : Int)) (B := ((2 * sq : Nat) : Int)) (by omega) ?_
      refine lv_aload_n hx hb dX9_addSpan_71 rfl (lv_at hl 1 rfl) ?_
      refine f_get (C := RX9) (T := TX9) (N := 26) hx hb hts (by decide +kernel) hown hK hP 59 (by omega) e0 rfl 16 (by decide) (hts (.fieldLink RX9 45 "KeptMovingModel" "timeN" "[J") (by decide +kernel)) (fun _ h9 => h9) rfl dX9_addSpan_72 ?_
      refine lv_iload_n hx hb dX9_addSpan_75 rfl (lv_at hl 2 rfl) ?_
      refine n_lald hx hb hK hP 71 (by omega) e1 fi rfl (by omega) (by decide) dX9_addSpan_76 ?_
      refine n_last hx hb hK hP hS hAA 73 (by omega) e3 (fun _ => rfl) (2 * sq) rfl (by omega) (by decide) dX9_addSpan_77 (fun H locs hP hS => ?_)
      obtain ⟨w_1, hw_2⟩ : ∃ z : WF, z = va_up w 73 (.inl (gJ G, 1400, .inr (.inl (aJ (va_up sN (2 * sq) (tN fi)))))) := ⟨_, rfl⟩
      rw [← hw_2] at hP
      have fr_3 : ∀ k : Nat, k ≠ 73 → w_1 k = w k := fun k h => by rw [hw_2]; exact va_up_ne _ _ h
      have e_4 : w_1 59 = .inr (8, [.int (iN ((now : Nat) : Int)), .int (iN ((came : Nat) : Int)), .ref (gad G 60), .ref (gad G 61), .ref (gad G 62), .ref (gad G 63), .ref (gad G 64), .ref (gad G 65), .int (iN ((rm : Nat) : Int)), .int (iN ((mt : Nat) : Int)), .ref (gad G 66), .ref (gad G 67), .ref (gad G 68), .ref (gad G 69), .ref (gad G 70), .int (iN ((tm : Nat) : Int)), .ref (gad G 71), .ref (gad G 72), .int (iN thg), .int (iN onn), .int (iN two), .long (jN lw), .long (jN hg), .int (iN ((sq : Nat) : Int)), .ref (gad G 73), .ref (gad G 74)]) := (fr_3 59 (by omega)).trans e0
      have e_5 : w_1 71 = .inl (gJ G, 700, .inr (.inl (aJ tN))) := (fr_3 71 (by omega)).trans e1
      have e_6 : w_1 72 = .inl (gJ G, 700, .inr (.inl (aJ tD))) := (fr_3 72 (by omega)).trans e2
      have e_7 : w_1 73 = .inl (gJ G, 1400, .inr (.inl (aJ (va_up sN (2 * sq) (tN fi))))) := by rw [hw_2]; exact va_up_self _ _ _
      have e_8 : w_1 74 = .inl (gJ G, 1400, .inr (.inl (aJ sD))) := (fr_3 74 (by omega)).trans e4
      refine lv_aload_n hx hb dX9_addSpan_78 rfl (lv_at hl 1 rfl) ?_
      refine f_get (C := RX9) (T := TX9) (N := 26) hx hb hts (by decide +kernel) hown hK hP 59 (by omega) e_4 rfl 25 (by decide) (hts (.fieldLink RX9 54 "KeptMovingModel" "spanD" "[J") (by decide +kernel)) (fun _ h9 => h9) rfl dX9_addSpan_79 ?_
      refine n_iconst hx hb dX9_addSpan_82 ?_
      refine lv_aload_n hx hb dX9_addSpan_83 rfl (lv_at hl 1 rfl) ?_
      refine f_get (C := RX9) (T := TX9) (N := 26) hx hb hts (by decide +kernel) hown hK hP 59 (by omega) e_4 rfl 23 (by decide) (hts (.fieldLink RX9 198 "KeptMovingModel" "spans" "I") (by decide +kernel)) (fun _ h9 => h9) rfl dX9_addSpan_84 ?_
      refine n_imul hx hb dX9_addSpan_87 ?_
      refine n_top (A := 2 * ((sq : Nat) : Int)) (B := ((2 * sq : Nat) : Int)) (by omega) ?_
      refine lv_aload_n hx hb dX9_addSpan_88 rfl (lv_at hl 1 rfl) ?_
      refine f_get (C := RX9) (T := TX9) (N := 26) hx hb hts (by decide +kernel) hown hK hP 59 (by omega) e_4 rfl 17 (by decide) (hts (.fieldLink RX9 48 "KeptMovingModel" "timeD" "[J") (by decide +kernel)) (fun _ h9 => h9) rfl dX9_addSpan_89 ?_
      refine lv_iload_n hx hb dX9_addSpan_92 rfl (lv_at hl 2 rfl) ?_
      refine n_lald hx hb hK hP 72 (by omega) e_6 fi rfl (by omega) (by decide) dX9_addSpan_93 ?_
      refine n_last hx hb hK hP hS hAA 74 (by omega) e_8 (fun _ => rfl) (2 * sq) rfl (by omega) (by decide) dX9_addSpan_94 (fun H locs hP hS => ?_)
      obtain ⟨w_9, hw_10⟩ : ∃ z : WF, z = va_up w_1 74 (.inl (gJ G, 1400, .inr (.inl (aJ (va_up sD (2 * sq) (tD fi)))))) := ⟨_, rfl⟩
      rw [← hw_10] at hP
      have fr_11 : ∀ k : Nat, k ≠ 74 → w_9 k = w_1 k := fun k h => by rw [hw_10]; exact va_up_ne _ _ h
      have e_12 : w_9 59 = .inr (8, [.int (iN ((now : Nat) : Int)), .int (iN ((came : Nat) : Int)), .ref (gad G 60), .ref (gad G 61), .ref (gad G 62), .ref (gad G 63), .ref (gad G 64), .ref (gad G 65), .int (iN ((rm : Nat) : Int)), .int (iN ((mt : Nat) : Int)), .ref (gad G 66), .ref (gad G 67), .ref (gad G 68), .ref (gad G 69), .ref (gad G 70), .int (iN ((tm : Nat) : Int)), .ref (gad G 71), .ref (gad G 72), .int (iN thg), .int (iN onn), .int (iN two), .long (jN lw), .long (jN hg), .int (iN ((sq : Nat) : Int)), .ref (gad G 73), .ref (gad G 74)]) := (fr_11 59 (by omega)).trans e_4
      have e_13 : w_9 71 = .inl (gJ G, 700, .inr (.inl (aJ tN))) := (fr_11 71 (by omega)).trans e_5
      have e_14 : w_9 72 = .inl (gJ G, 700, .inr (.inl (aJ tD))) := (fr_11 72 (by omega)).trans e_6
      have e_15 : w_9 73 = .inl (gJ G, 1400, .inr (.inl (aJ (va_up sN (2 * sq) (tN fi))))) := (fr_11 73 (by omega)).trans e_7
      have e_16 : w_9 74 = .inl (gJ G, 1400, .inr (.inl (aJ (va_up sD (2 * sq) (tD fi))))) := by rw [hw_10]; exact va_up_self _ _ _
      refine lv_aload_n hx hb dX9_addSpan_95 rfl (lv_at hl 1 rfl) ?_
      refine lv_dup hx hb dX9_addSpan_96 rfl ?_
      refine f_get (C := RX9) (T := TX9) (N := 26) hx hb hts (by decide +kernel) hown hK hP 59 (by omega) e_12 rfl 23 (by decide) (hts (.fieldLink RX9 198 "KeptMovingModel" "spans" "I") (by decide +kernel)) (fun _ h9 => h9) rfl dX9_addSpan_97 ?_
      refine n_iconst hx hb dX9_addSpan_100 ?_
      refine n_iadd hx hb dX9_addSpan_101 ?_
      refine n_top (A := ((sq : Nat) : Int) + 1) (B := ((sq + 1 : Nat) : Int)) (by omega) ?_
      refine f_put (v := .int (iN ((sq + 1 : Nat) : Int))) (ty := .int) (C := RX9) (T := TX9) (N := 26) hx hb hts (by decide +kernel) tyX9 tyX9_ok nmX9 hown hK hP hS hAA 59 (by omega) e_12 rfl 23 (by decide) (hts (.fieldLink RX9 198 "KeptMovingModel" "spans" "I") (by decide +kernel)) (fun _ h9 => h9) rfl (by decide +kernel) (rfl) (rfl) (Nat.le_of_ble_eq_true rfl) (rfl) dX9_addSpan_102 (fun H locs hP hS => ?_)
      have hP : PW G (va_up w_9 59 (.inr (8, [.int (iN ((now : Nat) : Int)), .int (iN ((came : Nat) : Int)), .ref (gad G 60), .ref (gad G 61), .ref (gad G 62), .ref (gad G 63), .ref (gad G 64), .ref (gad G 65), .int (iN ((rm : Nat) : Int)), .int (iN ((mt : Nat) : Int)), .ref (gad G 66), .ref (gad G 67), .ref (gad G 68), .ref (gad G 69), .ref (gad G 70), .int (iN ((tm : Nat) : Int)), .ref (gad G 71), .ref (gad G 72), .int (iN thg), .int (iN onn), .int (iN two), .long (jN lw), .long (jN hg), .int (iN ((sq + 1 : Nat) : Int)), .ref (gad G 73), .ref (gad G 74)]))) H := hP
      obtain ⟨w_17, hw_18⟩ : ∃ z : WF, z = va_up w_9 59 (.inr (8, [.int (iN ((now : Nat) : Int)), .int (iN ((came : Nat) : Int)), .ref (gad G 60), .ref (gad G 61), .ref (gad G 62), .ref (gad G 63), .ref (gad G 64), .ref (gad G 65), .int (iN ((rm : Nat) : Int)), .int (iN ((mt : Nat) : Int)), .ref (gad G 66), .ref (gad G 67), .ref (gad G 68), .ref (gad G 69), .ref (gad G 70), .int (iN ((tm : Nat) : Int)), .ref (gad G 71), .ref (gad G 72), .int (iN thg), .int (iN onn), .int (iN two), .long (jN lw), .long (jN hg), .int (iN ((sq + 1 : Nat) : Int)), .ref (gad G 73), .ref (gad G 74)])) := ⟨_, rfl⟩
      rw [← hw_18] at hP
      have fr_19 : ∀ k : Nat, k ≠ 59 → w_17 k = w_9 k := fun k h => by rw [hw_18]; exact va_up_ne _ _ h
      have e_20 : w_17 59 = .inr (8, [.int (iN ((now : Nat) : Int)), .int (iN ((came : Nat) : Int)), .ref (gad G 60), .ref (gad G 61), .ref (gad G 62), .ref (gad G 63), .ref (gad G 64), .ref (gad G 65), .int (iN ((rm : Nat) : Int)), .int (iN ((mt : Nat) : Int)), .ref (gad G 66), .ref (gad G 67), .ref (gad G 68), .ref (gad G 69), .ref (gad G 70), .int (iN ((tm : Nat) : Int)), .ref (gad G 71), .ref (gad G 72), .int (iN thg), .int (iN onn), .int (iN two), .long (jN lw), .long (jN hg), .int (iN ((sq + 1 : Nat) : Int)), .ref (gad G 73), .ref (gad G 74)]) := by rw [hw_18]; exact va_up_self _ _ _
      have e_21 : w_17 71 = .inl (gJ G, 700, .inr (.inl (aJ tN))) := (fr_19 71 (by omega)).trans e_13
      have e_22 : w_17 72 = .inl (gJ G, 700, .inr (.inl (aJ tD))) := (fr_19 72 (by omega)).trans e_14
      have e_23 : w_17 73 = .inl (gJ G, 1400, .inr (.inl (aJ (va_up sN (2 * sq) (tN fi))))) := (fr_19 73 (by omega)).trans e_15
      have e_24 : w_17 74 = .inl (gJ G, 1400, .inr (.inl (aJ (va_up sD (2 * sq) (tD fi))))) := (fr_19 74 (by omega)).trans e_16
      refine lv_aload_n hx hb dX9_addSpan_105 rfl (lv_at hl 1 rfl) ?_
      refine f_get (C := RX9) (T := TX9) (N := 26) hx hb hts (by decide +kernel) hown hK hP 59 (by omega) e_20 rfl 24 (by decide) (hts (.fieldLink RX9 51 "KeptMovingModel" "spanN" "[J") (by decide +kernel)) (fun _ h9 => h9) rfl dX9_addSpan_106 ?_
      refine n_iconst hx hb dX9_addSpan_109 ?_
      refine lv_aload_n hx hb dX9_addSpan_110 rfl (lv_at hl 1 rfl) ?_
      refine f_get (C := RX9) (T := TX9) (N := 26) hx hb hts (by decide +kernel) hown hK hP 59 (by omega) e_20 rfl 23 (by decide) (hts (.fieldLink RX9 198 "KeptMovingModel" "spans" "I") (by decide +kernel)) (fun _ h9 => h9) rfl dX9_addSpan_111 ?_
      refine n_imul hx hb dX9_addSpan_114 ?_
      refine n_top (A := 2 * ((sq + 1 : Nat) : Int)) (B := ((2 * (sq + 1) : Nat) : Int)) (by omega) ?_
      refine n_iconst hx hb dX9_addSpan_115 ?_
      refine n_isub hx hb dX9_addSpan_116 ?_
      refine n_top (A := ((2 * (sq + 1) : Nat) : Int) - 1) (B := (((2 * (sq + 1)) - 1 : Nat) : Int)) (by omega) ?_
      refine lv_aload_n hx hb dX9_addSpan_117 rfl (lv_at hl 1 rfl) ?_
      refine f_get (C := RX9) (T := TX9) (N := 26) hx hb hts (by decide +kernel) hown hK hP 59 (by omega) e_20 rfl 16 (by decide) (hts (.fieldLink RX9 45 "KeptMovingModel" "timeN" "[J") (by decide +kernel)) (fun _ h9 => h9) rfl dX9_addSpan_118 ?_
      refine lv_iload_n hx hb dX9_addSpan_121 rfl (lv_at hl 3 rfl) ?_
      refine n_lald hx hb hK hP 71 (by omega) e_21 to rfl (by omega) (by decide) dX9_addSpan_122 ?_
      refine n_last hx hb hK hP hS hAA 73 (by omega) e_23 (fun _ => rfl) ((2 * (sq + 1)) - 1) rfl (by omega) (by decide) dX9_addSpan_123 (fun H locs hP hS => ?_)
      obtain ⟨w_25, hw_26⟩ : ∃ z : WF, z = va_up w_17 73 (.inl (gJ G, 1400, .inr (.inl (aJ (va_up (va_up sN (2 * sq) (tN fi)) ((2 * (sq + 1)) - 1) (tN to)))))) := ⟨_, rfl⟩
      rw [← hw_26] at hP
      have fr_27 : ∀ k : Nat, k ≠ 73 → w_25 k = w_17 k := fun k h => by rw [hw_26]; exact va_up_ne _ _ h
      have e_28 : w_25 59 = .inr (8, [.int (iN ((now : Nat) : Int)), .int (iN ((came : Nat) : Int)), .ref (gad G 60), .ref (gad G 61), .ref (gad G 62), .ref (gad G 63), .ref (gad G 64), .ref (gad G 65), .int (iN ((rm : Nat) : Int)), .int (iN ((mt : Nat) : Int)), .ref (gad G 66), .ref (gad G 67), .ref (gad G 68), .ref (gad G 69), .ref (gad G 70), .int (iN ((tm : Nat) : Int)), .ref (gad G 71), .ref (gad G 72), .int (iN thg), .int (iN onn), .int (iN two), .long (jN lw), .long (jN hg), .int (iN ((sq + 1 : Nat) : Int)), .ref (gad G 73), .ref (gad G 74)]) := (fr_27 59 (by omega)).trans e_20
      have e_29 : w_25 71 = .inl (gJ G, 700, .inr (.inl (aJ tN))) := (fr_27 71 (by omega)).trans e_21
      have e_30 : w_25 72 = .inl (gJ G, 700, .inr (.inl (aJ tD))) := (fr_27 72 (by omega)).trans e_22
      have e_31 : w_25 73 = .inl (gJ G, 1400, .inr (.inl (aJ (va_up (va_up sN (2 * sq) (tN fi)) ((2 * (sq + 1)) - 1) (tN to))))) := by rw [hw_26]; exact va_up_self _ _ _
      have e_32 : w_25 74 = .inl (gJ G, 1400, .inr (.inl (aJ (va_up sD (2 * sq) (tD fi))))) := (fr_27 74 (by omega)).trans e_24
      refine lv_aload_n hx hb dX9_addSpan_124 rfl (lv_at hl 1 rfl) ?_
      refine f_get (C := RX9) (T := TX9) (N := 26) hx hb hts (by decide +kernel) hown hK hP 59 (by omega) e_28 rfl 25 (by decide) (hts (.fieldLink RX9 54 "KeptMovingModel" "spanD" "[J") (by decide +kernel)) (fun _ h9 => h9) rfl dX9_addSpan_125 ?_
      refine n_iconst hx hb dX9_addSpan_128 ?_
      refine lv_aload_n hx hb dX9_addSpan_129 rfl (lv_at hl 1 rfl) ?_
      refine f_get (C := RX9) (T := TX9) (N := 26) hx hb hts (by decide +kernel) hown hK hP 59 (by omega) e_28 rfl 23 (by decide) (hts (.fieldLink RX9 198 "KeptMovingModel" "spans" "I") (by decide +kernel)) (fun _ h9 => h9) rfl dX9_addSpan_130 ?_
      refine n_imul hx hb dX9_addSpan_133 ?_
      refine n_top (A := 2 * ((sq + 1 : Nat) : Int)) (B := ((2 * (sq + 1) : Nat) : Int)) (by omega) ?_
      refine n_iconst hx hb dX9_addSpan_134 ?_
      refine n_isub hx hb dX9_addSpan_135 ?_
      refine n_top (A := ((2 * (sq + 1) : Nat) : Int) - 1) (B := (((2 * (sq + 1)) - 1 : Nat) : Int)) (by omega) ?_
      refine lv_aload_n hx hb dX9_addSpan_136 rfl (lv_at hl 1 rfl) ?_
      refine f_get (C := RX9) (T := TX9) (N := 26) hx hb hts (by decide +kernel) hown hK hP 59 (by omega) e_28 rfl 17 (by decide) (hts (.fieldLink RX9 48 "KeptMovingModel" "timeD" "[J") (by decide +kernel)) (fun _ h9 => h9) rfl dX9_addSpan_137 ?_
      refine lv_iload_n hx hb dX9_addSpan_140 rfl (lv_at hl 3 rfl) ?_
      refine n_lald hx hb hK hP 72 (by omega) e_30 to rfl (by omega) (by decide) dX9_addSpan_141 ?_
      refine n_last hx hb hK hP hS hAA 74 (by omega) e_32 (fun _ => rfl) ((2 * (sq + 1)) - 1) rfl (by omega) (by decide) dX9_addSpan_142 (fun H locs hP hS => ?_)
      obtain ⟨w_33, hw_34⟩ : ∃ z : WF, z = va_up w_25 74 (.inl (gJ G, 1400, .inr (.inl (aJ (va_up (va_up sD (2 * sq) (tD fi)) ((2 * (sq + 1)) - 1) (tD to)))))) := ⟨_, rfl⟩
      rw [← hw_34] at hP
      have fr_35 : ∀ k : Nat, k ≠ 74 → w_33 k = w_25 k := fun k h => by rw [hw_34]; exact va_up_ne _ _ h
      have e_36 : w_33 59 = .inr (8, [.int (iN ((now : Nat) : Int)), .int (iN ((came : Nat) : Int)), .ref (gad G 60), .ref (gad G 61), .ref (gad G 62), .ref (gad G 63), .ref (gad G 64), .ref (gad G 65), .int (iN ((rm : Nat) : Int)), .int (iN ((mt : Nat) : Int)), .ref (gad G 66), .ref (gad G 67), .ref (gad G 68), .ref (gad G 69), .ref (gad G 70), .int (iN ((tm : Nat) : Int)), .ref (gad G 71), .ref (gad G 72), .int (iN thg), .int (iN onn), .int (iN two), .long (jN lw), .long (jN hg), .int (iN ((sq + 1 : Nat) : Int)), .ref (gad G 73), .ref (gad G 74)]) := (fr_35 59 (by omega)).trans e_28
      have e_37 : w_33 71 = .inl (gJ G, 700, .inr (.inl (aJ tN))) := (fr_35 71 (by omega)).trans e_29
      have e_38 : w_33 72 = .inl (gJ G, 700, .inr (.inl (aJ tD))) := (fr_35 72 (by omega)).trans e_30
      have e_39 : w_33 73 = .inl (gJ G, 1400, .inr (.inl (aJ (va_up (va_up sN (2 * sq) (tN fi)) ((2 * (sq + 1)) - 1) (tN to))))) := (fr_35 73 (by omega)).trans e_31
      have e_40 : w_33 74 = .inl (gJ G, 1400, .inr (.inl (aJ (va_up (va_up sD (2 * sq) (tD fi)) ((2 * (sq + 1)) - 1) (tD to))))) := by rw [hw_34]; exact va_up_self _ _ _
      exact r_v hx hb hr dX9_addSpan_143 hlocks hP hS (⟨sq + 1, va_up (va_up sN (2 * sq) (tN fi)) ((2 * (sq + 1)) - 1) (tN to), va_up (va_up sD (2 * sq) (tD fi)) ((2 * (sq + 1)) - 1) (tD to), (fun k h0 h1 h2 => ((((((((fr_35 k (by omega)).trans (fr_27 k (by omega)))).trans (fr_19 k (by omega)))).trans (fr_11 k (by omega)))).trans (fr_3 k (by omega)))), e_36, e_39, e_40, (isQ_n p1 (isT_ok p0 p3) (isT_ok p0 p4) (fun z => by first | exact absurd z.1 (by omega) | exact c_48 z.2))⟩)
  · have hqb := isQ_bd p1 (2 * sq - 1) (by omega)
    have hm1 := mb7 (a := sN (2 * sq - 1)) (b := tD fi) hqb.1 hbf.2.1
    have hm2 := mb7 (a := tN fi) (b := sD (2 * sq - 1)) hbf.1 hqb.2
    refine lv_aload_n hx hb dX9_addSpan_7 rfl (lv_at hl 0 rfl) ?_
    refine f_get (C := RX9) (T := TX9) (N := 26) hx hb hts (by decide +kernel) hown hK hP 59 (by omega) e0 rfl 24 (by decide) (hts (.fieldLink RX9 51 "KeptMovingModel" "spanN" "[J") (by decide +kernel)) (fun _ h9 => h9) rfl dX9_addSpan_8 ?_
    refine n_iconst hx hb dX9_addSpan_11 ?_
    refine lv_aload_n hx hb dX9_addSpan_12 rfl (lv_at hl 0 rfl) ?_
    refine f_get (C := RX9) (T := TX9) (N := 26) hx hb hts (by decide +kernel) hown hK hP 59 (by omega) e0 rfl 23 (by decide) (hts (.fieldLink RX9 198 "KeptMovingModel" "spans" "I") (by decide +kernel)) (fun _ h9 => h9) rfl dX9_addSpan_13 ?_
    refine n_imul hx hb dX9_addSpan_16 ?_
    refine n_top (A := 2 * ((sq : Nat) : Int)) (B := ((2 * sq : Nat) : Int)) (by omega) ?_
    refine n_iconst hx hb dX9_addSpan_17 ?_
    refine n_isub hx hb dX9_addSpan_18 ?_
    refine n_top (A := ((2 * sq : Nat) : Int) - 1) (B := (((2 * sq) - 1 : Nat) : Int)) (by omega) ?_
    refine n_lald hx hb hK hP 73 (by omega) e3 ((2 * sq) - 1) rfl (by omega) (by decide) dX9_addSpan_19 ?_
    refine lv_aload_n hx hb dX9_addSpan_20 rfl (lv_at hl 0 rfl) ?_
    refine f_get (C := RX9) (T := TX9) (N := 26) hx hb hts (by decide +kernel) hown hK hP 59 (by omega) e0 rfl 17 (by decide) (hts (.fieldLink RX9 48 "KeptMovingModel" "timeD" "[J") (by decide +kernel)) (fun _ h9 => h9) rfl dX9_addSpan_21 ?_
    refine lv_iload_n hx hb dX9_addSpan_24 rfl (lv_at hl 1 rfl) ?_
    refine n_lald hx hb hK hP 72 (by omega) e2 fi rfl (by omega) (by decide) dX9_addSpan_25 ?_
    refine n_lmul hx hb dX9_addSpan_26 ?_
    refine lv_aload_n hx hb dX9_addSpan_27 rfl (lv_at hl 0 rfl) ?_
    refine f_get (C := RX9) (T := TX9) (N := 26) hx hb hts (by decide +kernel) hown hK hP 59 (by omega) e0 rfl 16 (by decide) (hts (.fieldLink RX9 45 "KeptMovingModel" "timeN" "[J") (by decide +kernel)) (fun _ h9 => h9) rfl dX9_addSpan_28 ?_
    refine lv_iload_n hx hb dX9_addSpan_31 rfl (lv_at hl 1 rfl) ?_
    refine n_lald hx hb hK hP 71 (by omega) e1 fi rfl (by omega) (by decide) dX9_addSpan_32 ?_
    refine lv_aload_n hx hb dX9_addSpan_33 rfl (lv_at hl 0 rfl) ?_
    refine f_get (C := RX9) (T := TX9) (N := 26) hx hb hts (by decide +kernel) hown hK hP 59 (by omega) e0 rfl 25 (by decide) (hts (.fieldLink RX9 54 "KeptMovingModel" "spanD" "[J") (by decide +kernel)) (fun _ h9 => h9) rfl dX9_addSpan_34 ?_
    refine n_iconst hx hb dX9_addSpan_37 ?_
    refine lv_aload_n hx hb dX9_addSpan_38 rfl (lv_at hl 0 rfl) ?_
    refine f_get (C := RX9) (T := TX9) (N := 26) hx hb hts (by decide +kernel) hown hK hP 59 (by omega) e0 rfl 23 (by decide) (hts (.fieldLink RX9 198 "KeptMovingModel" "spans" "I") (by decide +kernel)) (fun _ h9 => h9) rfl dX9_addSpan_39 ?_
    refine n_imul hx hb dX9_addSpan_42 ?_
    refine n_top (A := 2 * ((sq : Nat) : Int)) (B := ((2 * sq : Nat) : Int)) (by omega) ?_
    refine n_iconst hx hb dX9_addSpan_43 ?_
    refine n_isub hx hb dX9_addSpan_44 ?_
    refine n_top (A := ((2 * sq : Nat) : Int) - 1) (B := (((2 * sq) - 1 : Nat) : Int)) (by omega) ?_
    refine n_lald hx hb hK hP 74 (by omega) e4 ((2 * sq) - 1) rfl (by omega) (by decide) dX9_addSpan_45 ?_
    refine n_lmul hx hb dX9_addSpan_46 ?_
    refine n_lcmp hx hb (by omega) (by omega) (by omega) (by omega) dX9_addSpan_47 ?_
    refine n_ifc_ne (tgt := 55) hx hb dX9_addSpan_48 (by decide) (fun c_48 => ?_) (fun c_48 => ?_)
    · refine n_iconst hx hb dX9_addSpan_55 ?_
      refine lv_istore_n (lv' := [(3, .int (iN 0)), (0, .ref (gad G 59)), (1, .int (iN ((fi : Nat) : Int))), (2, .int (iN ((to : Nat) : Int)))]) hx hb dX9_addSpan_56 rfl hl (by decide) rfl (fun ls hl => ?_)
      refine lv_iload_n hx hb dX9_addSpan_57 rfl (lv_at hl 0 rfl) ?_
      refine n_if_ne (tgt := 105) hx hb dX9_addSpan_58 (by decide) (by omega) (by omega) (fun c_58 => ?_) (fun c_58 => ?_)
      · exact absurd c_58 (by decide)
      · refine lv_aload_n hx hb dX9_addSpan_61 rfl (lv_at hl 1 rfl) ?_
        refine f_get (C := RX9) (T := TX9) (N := 26) hx hb hts (by decide +kernel) hown hK hP 59 (by omega) e0 rfl 24 (by decide) (hts (.fieldLink RX9 51 "KeptMovingModel" "spanN" "[J") (by decide +kernel)) (fun _ h9 => h9) rfl dX9_addSpan_62 ?_
        refine n_iconst hx hb dX9_addSpan_65 ?_
        refine lv_aload_n hx hb dX9_addSpan_66 rfl (lv_at hl 1 rfl) ?_
        refine f_get (C := RX9) (T := TX9) (N := 26) hx hb hts (by decide +kernel) hown hK hP 59 (by omega) e0 rfl 23 (by decide) (hts (.fieldLink RX9 198 "KeptMovingModel" "spans" "I") (by decide +kernel)) (fun _ h9 => h9) rfl dX9_addSpan_67 ?_
        refine n_imul hx hb dX9_addSpan_70 ?_
        refine n_top (A := 2 * ((sq : Nat) : Int)) (B := ((2 * sq : Nat) : Int)) (by omega) ?_
        refine lv_aload_n hx hb dX9_addSpan_71 rfl (lv_at hl 1 rfl) ?_
        refine f_get (C := RX9) (T := TX9) (N := 26) hx hb hts (by decide +kernel) hown hK hP 59 (by omega) e0 rfl 16 (by decide) (hts (.fieldLink RX9 45 "KeptMovingModel" "timeN" "[J") (by decide +kernel)) (fun _ h9 => h9) rfl dX9_addSpan_72 ?_
        refine lv_iload_n hx hb dX9_addSpan_75 rfl (lv_at hl 2 rfl) ?_
        refine n_lald hx hb hK hP 71 (by omega) e1 fi rfl (by omega) (by decide) dX9_addSpan_76 ?_
        refine n_last hx hb hK hP hS hAA 73 (by omega) e3 (fun _ => rfl) (2 * sq) rfl (by omega) (by decide) dX9_addSpan_77 (fun H locs hP hS => ?_)
        obtain ⟨w_41, hw_42⟩ : ∃ z : WF, z = va_up w 73 (.inl (gJ G, 1400, .inr (.inl (aJ (va_up sN (2 * sq) (tN fi)))))) := ⟨_, rfl⟩
        rw [← hw_42] at hP
        have fr_43 : ∀ k : Nat, k ≠ 73 → w_41 k = w k := fun k h => by rw [hw_42]; exact va_up_ne _ _ h
        have e_44 : w_41 59 = .inr (8, [.int (iN ((now : Nat) : Int)), .int (iN ((came : Nat) : Int)), .ref (gad G 60), .ref (gad G 61), .ref (gad G 62), .ref (gad G 63), .ref (gad G 64), .ref (gad G 65), .int (iN ((rm : Nat) : Int)), .int (iN ((mt : Nat) : Int)), .ref (gad G 66), .ref (gad G 67), .ref (gad G 68), .ref (gad G 69), .ref (gad G 70), .int (iN ((tm : Nat) : Int)), .ref (gad G 71), .ref (gad G 72), .int (iN thg), .int (iN onn), .int (iN two), .long (jN lw), .long (jN hg), .int (iN ((sq : Nat) : Int)), .ref (gad G 73), .ref (gad G 74)]) := (fr_43 59 (by omega)).trans e0
        have e_45 : w_41 71 = .inl (gJ G, 700, .inr (.inl (aJ tN))) := (fr_43 71 (by omega)).trans e1
        have e_46 : w_41 72 = .inl (gJ G, 700, .inr (.inl (aJ tD))) := (fr_43 72 (by omega)).trans e2
        have e_47 : w_41 73 = .inl (gJ G, 1400, .inr (.inl (aJ (va_up sN (2 * sq) (tN fi))))) := by rw [hw_42]; exact va_up_self _ _ _
        have e_48 : w_41 74 = .inl (gJ G, 1400, .inr (.inl (aJ sD))) := (fr_43 74 (by omega)).trans e4
        refine lv_aload_n hx hb dX9_addSpan_78 rfl (lv_at hl 1 rfl) ?_
        refine f_get (C := RX9) (T := TX9) (N := 26) hx hb hts (by decide +kernel) hown hK hP 59 (by omega) e_44 rfl 25 (by decide) (hts (.fieldLink RX9 54 "KeptMovingModel" "spanD" "[J") (by decide +kernel)) (fun _ h9 => h9) rfl dX9_addSpan_79 ?_
        refine n_iconst hx hb dX9_addSpan_82 ?_
        refine lv_aload_n hx hb dX9_addSpan_83 rfl (lv_at hl 1 rfl) ?_
        refine f_get (C := RX9) (T := TX9) (N := 26) hx hb hts (by decide +kernel) hown hK hP 59 (by omega) e_44 rfl 23 (by decide) (hts (.fieldLink RX9 198 "KeptMovingModel" "spans" "I") (by decide +kernel)) (fun _ h9 => h9) rfl dX9_addSpan_84 ?_
        refine n_imul hx hb dX9_addSpan_87 ?_
        refine n_top (A := 2 * ((sq : Nat) : Int)) (B := ((2 * sq : Nat) : Int)) (by omega) ?_
        refine lv_aload_n hx hb dX9_addSpan_88 rfl (lv_at hl 1 rfl) ?_
        refine f_get (C := RX9) (T := TX9) (N := 26) hx hb hts (by decide +kernel) hown hK hP 59 (by omega) e_44 rfl 17 (by decide) (hts (.fieldLink RX9 48 "KeptMovingModel" "timeD" "[J") (by decide +kernel)) (fun _ h9 => h9) rfl dX9_addSpan_89 ?_
        refine lv_iload_n hx hb dX9_addSpan_92 rfl (lv_at hl 2 rfl) ?_
        refine n_lald hx hb hK hP 72 (by omega) e_46 fi rfl (by omega) (by decide) dX9_addSpan_93 ?_
        refine n_last hx hb hK hP hS hAA 74 (by omega) e_48 (fun _ => rfl) (2 * sq) rfl (by omega) (by decide) dX9_addSpan_94 (fun H locs hP hS => ?_)
        obtain ⟨w_49, hw_50⟩ : ∃ z : WF, z = va_up w_41 74 (.inl (gJ G, 1400, .inr (.inl (aJ (va_up sD (2 * sq) (tD fi)))))) := ⟨_, rfl⟩
        rw [← hw_50] at hP
        have fr_51 : ∀ k : Nat, k ≠ 74 → w_49 k = w_41 k := fun k h => by rw [hw_50]; exact va_up_ne _ _ h
        have e_52 : w_49 59 = .inr (8, [.int (iN ((now : Nat) : Int)), .int (iN ((came : Nat) : Int)), .ref (gad G 60), .ref (gad G 61), .ref (gad G 62), .ref (gad G 63), .ref (gad G 64), .ref (gad G 65), .int (iN ((rm : Nat) : Int)), .int (iN ((mt : Nat) : Int)), .ref (gad G 66), .ref (gad G 67), .ref (gad G 68), .ref (gad G 69), .ref (gad G 70), .int (iN ((tm : Nat) : Int)), .ref (gad G 71), .ref (gad G 72), .int (iN thg), .int (iN onn), .int (iN two), .long (jN lw), .long (jN hg), .int (iN ((sq : Nat) : Int)), .ref (gad G 73), .ref (gad G 74)]) := (fr_51 59 (by omega)).trans e_44
        have e_53 : w_49 71 = .inl (gJ G, 700, .inr (.inl (aJ tN))) := (fr_51 71 (by omega)).trans e_45
        have e_54 : w_49 72 = .inl (gJ G, 700, .inr (.inl (aJ tD))) := (fr_51 72 (by omega)).trans e_46
        have e_55 : w_49 73 = .inl (gJ G, 1400, .inr (.inl (aJ (va_up sN (2 * sq) (tN fi))))) := (fr_51 73 (by omega)).trans e_47
        have e_56 : w_49 74 = .inl (gJ G, 1400, .inr (.inl (aJ (va_up sD (2 * sq) (tD fi))))) := by rw [hw_50]; exact va_up_self _ _ _
        refine lv_aload_n hx hb dX9_addSpan_95 rfl (lv_at hl 1 rfl) ?_
        refine lv_dup hx hb dX9_addSpan_96 rfl ?_
        refine f_get (C := RX9) (T := TX9) (N := 26) hx hb hts (by decide +kernel) hown hK hP 59 (by omega) e_52 rfl 23 (by decide) (hts (.fieldLink RX9 198 "KeptMovingModel" "spans" "I") (by decide +kernel)) (fun _ h9 => h9) rfl dX9_addSpan_97 ?_
        refine n_iconst hx hb dX9_addSpan_100 ?_
        refine n_iadd hx hb dX9_addSpan_101 ?_
        refine n_top (A := ((sq : Nat) : Int) + 1) (B := ((sq + 1 : Nat) : Int)) (by omega) ?_
        refine f_put (v := .int (iN ((sq + 1 : Nat) : Int))) (ty := .int) (C := RX9) (T := TX9) (N := 26) hx hb hts (by decide +kernel) tyX9 tyX9_ok nmX9 hown hK hP hS hAA 59 (by omega) e_52 rfl 23 (by decide) (hts (.fieldLink RX9 198 "KeptMovingModel" "spans" "I") (by decide +kernel)) (fun _ h9 => h9) rfl (by decide +kernel) (rfl) (rfl) (Nat.le_of_ble_eq_true rfl) (rfl) dX9_addSpan_102 (fun H locs hP hS => ?_)
        have hP : PW G (va_up w_49 59 (.inr (8, [.int (iN ((now : Nat) : Int)), .int (iN ((came : Nat) : Int)), .ref (gad G 60), .ref (gad G 61), .ref (gad G 62), .ref (gad G 63), .ref (gad G 64), .ref (gad G 65), .int (iN ((rm : Nat) : Int)), .int (iN ((mt : Nat) : Int)), .ref (gad G 66), .ref (gad G 67), .ref (gad G 68), .ref (gad G 69), .ref (gad G 70), .int (iN ((tm : Nat) : Int)), .ref (gad G 71), .ref (gad G 72), .int (iN thg), .int (iN onn), .int (iN two), .long (jN lw), .long (jN hg), .int (iN ((sq + 1 : Nat) : Int)), .ref (gad G 73), .ref (gad G 74)]))) H := hP
        obtain ⟨w_57, hw_58⟩ : ∃ z : WF, z = va_up w_49 59 (.inr (8, [.int (iN ((now : Nat) : Int)), .int (iN ((came : Nat) : Int)), .ref (gad G 60), .ref (gad G 61), .ref (gad G 62), .ref (gad G 63), .ref (gad G 64), .ref (gad G 65), .int (iN ((rm : Nat) : Int)), .int (iN ((mt : Nat) : Int)), .ref (gad G 66), .ref (gad G 67), .ref (gad G 68), .ref (gad G 69), .ref (gad G 70), .int (iN ((tm : Nat) : Int)), .ref (gad G 71), .ref (gad G 72), .int (iN thg), .int (iN onn), .int (iN two), .long (jN lw), .long (jN hg), .int (iN ((sq + 1 : Nat) : Int)), .ref (gad G 73), .ref (gad G 74)])) := ⟨_, rfl⟩
        rw [← hw_58] at hP
        have fr_59 : ∀ k : Nat, k ≠ 59 → w_57 k = w_49 k := fun k h => by rw [hw_58]; exact va_up_ne _ _ h
        have e_60 : w_57 59 = .inr (8, [.int (iN ((now : Nat) : Int)), .int (iN ((came : Nat) : Int)), .ref (gad G 60), .ref (gad G 61), .ref (gad G 62), .ref (gad G 63), .ref (gad G 64), .ref (gad G 65), .int (iN ((rm : Nat) : Int)), .int (iN ((mt : Nat) : Int)), .ref (gad G 66), .ref (gad G 67), .ref (gad G 68), .ref (gad G 69), .ref (gad G 70), .int (iN ((tm : Nat) : Int)), .ref (gad G 71), .ref (gad G 72), .int (iN thg), .int (iN onn), .int (iN two), .long (jN lw), .long (jN hg), .int (iN ((sq + 1 : Nat) : Int)), .ref (gad G 73), .ref (gad G 74)]) := by rw [hw_58]; exact va_up_self _ _ _
        have e_61 : w_57 71 = .inl (gJ G, 700, .inr (.inl (aJ tN))) := (fr_59 71 (by omega)).trans e_53
        have e_62 : w_57 72 = .inl (gJ G, 700, .inr (.inl (aJ tD))) := (fr_59 72 (by omega)).trans e_54
        have e_63 : w_57 73 = .inl (gJ G, 1400, .inr (.inl (aJ (va_up sN (2 * sq) (tN fi))))) := (fr_59 73 (by omega)).trans e_55
        have e_64 : w_57 74 = .inl (gJ G, 1400, .inr (.inl (aJ (va_up sD (2 * sq) (tD fi))))) := (fr_59 74 (by omega)).trans e_56
        refine lv_aload_n hx hb dX9_addSpan_105 rfl (lv_at hl 1 rfl) ?_
        refine f_get (C := RX9) (T := TX9) (N := 26) hx hb hts (by decide +kernel) hown hK hP 59 (by omega) e_60 rfl 24 (by decide) (hts (.fieldLink RX9 51 "KeptMovingModel" "spanN" "[J") (by decide +kernel)) (fun _ h9 => h9) rfl dX9_addSpan_106 ?_
        refine n_iconst hx hb dX9_addSpan_109 ?_
        refine lv_aload_n hx hb dX9_addSpan_110 rfl (lv_at hl 1 rfl) ?_
        refine f_get (C := RX9) (T := TX9) (N := 26) hx hb hts (by decide +kernel) hown hK hP 59 (by omega) e_60 rfl 23 (by decide) (hts (.fieldLink RX9 198 "KeptMovingModel" "spans" "I") (by decide +kernel)) (fun _ h9 => h9) rfl dX9_addSpan_111 ?_
        refine n_imul hx hb dX9_addSpan_114 ?_
        refine n_top (A := 2 * ((sq + 1 : Nat) : Int)) (B := ((2 * (sq + 1) : Nat) : Int)) (by omega) ?_
        refine n_iconst hx hb dX9_addSpan_115 ?_
        refine n_isub hx hb dX9_addSpan_116 ?_
        refine n_top (A := ((2 * (sq + 1) : Nat) : Int) - 1) (B := (((2 * (sq + 1)) - 1 : Nat) : Int)) (by omega) ?_
        refine lv_aload_n hx hb dX9_addSpan_117 rfl (lv_at hl 1 rfl) ?_
        refine f_get (C := RX9) (T := TX9) (N := 26) hx hb hts (by decide +kernel) hown hK hP 59 (by omega) e_60 rfl 16 (by decide) (hts (.fieldLink RX9 45 "KeptMovingModel" "timeN" "[J") (by decide +kernel)) (fun _ h9 => h9) rfl dX9_addSpan_118 ?_
        refine lv_iload_n hx hb dX9_addSpan_121 rfl (lv_at hl 3 rfl) ?_
        refine n_lald hx hb hK hP 71 (by omega) e_61 to rfl (by omega) (by decide) dX9_addSpan_122 ?_
        refine n_last hx hb hK hP hS hAA 73 (by omega) e_63 (fun _ => rfl) ((2 * (sq + 1)) - 1) rfl (by omega) (by decide) dX9_addSpan_123 (fun H locs hP hS => ?_)
        obtain ⟨w_65, hw_66⟩ : ∃ z : WF, z = va_up w_57 73 (.inl (gJ G, 1400, .inr (.inl (aJ (va_up (va_up sN (2 * sq) (tN fi)) ((2 * (sq + 1)) - 1) (tN to)))))) := ⟨_, rfl⟩
        rw [← hw_66] at hP
        have fr_67 : ∀ k : Nat, k ≠ 73 → w_65 k = w_57 k := fun k h => by rw [hw_66]; exact va_up_ne _ _ h
        have e_68 : w_65 59 = .inr (8, [.int (iN ((now : Nat) : Int)), .int (iN ((came : Nat) : Int)), .ref (gad G 60), .ref (gad G 61), .ref (gad G 62), .ref (gad G 63), .ref (gad G 64), .ref (gad G 65), .int (iN ((rm : Nat) : Int)), .int (iN ((mt : Nat) : Int)), .ref (gad G 66), .ref (gad G 67), .ref (gad G 68), .ref (gad G 69), .ref (gad G 70), .int (iN ((tm : Nat) : Int)), .ref (gad G 71), .ref (gad G 72), .int (iN thg), .int (iN onn), .int (iN two), .long (jN lw), .long (jN hg), .int (iN ((sq + 1 : Nat) : Int)), .ref (gad G 73), .ref (gad G 74)]) := (fr_67 59 (by omega)).trans e_60
        have e_69 : w_65 71 = .inl (gJ G, 700, .inr (.inl (aJ tN))) := (fr_67 71 (by omega)).trans e_61
        have e_70 : w_65 72 = .inl (gJ G, 700, .inr (.inl (aJ tD))) := (fr_67 72 (by omega)).trans e_62
        have e_71 : w_65 73 = .inl (gJ G, 1400, .inr (.inl (aJ (va_up (va_up sN (2 * sq) (tN fi)) ((2 * (sq + 1)) - 1) (tN to))))) := by rw [hw_66]; exact va_up_self _ _ _
        have e_72 : w_65 74 = .inl (gJ G, 1400, .inr (.inl (aJ (va_up sD (2 * sq) (tD fi))))) := (fr_67 74 (by omega)).trans e_64
        refine lv_aload_n hx hb dX9_addSpan_124 rfl (lv_at hl 1 rfl) ?_
        refine f_get (C := RX9) (T := TX9) (N := 26) hx hb hts (by decide +kernel) hown hK hP 59 (by omega) e_68 rfl 25 (by decide) (hts (.fieldLink RX9 54 "KeptMovingModel" "spanD" "[J") (by decide +kernel)) (fun _ h9 => h9) rfl dX9_addSpan_125 ?_
        refine n_iconst hx hb dX9_addSpan_128 ?_
        refine lv_aload_n hx hb dX9_addSpan_129 rfl (lv_at hl 1 rfl) ?_
        refine f_get (C := RX9) (T := TX9) (N := 26) hx hb hts (by decide +kernel) hown hK hP 59 (by omega) e_68 rfl 23 (by decide) (hts (.fieldLink RX9 198 "KeptMovingModel" "spans" "I") (by decide +kernel)) (fun _ h9 => h9) rfl dX9_addSpan_130 ?_
        refine n_imul hx hb dX9_addSpan_133 ?_
        refine n_top (A := 2 * ((sq + 1 : Nat) : Int)) (B := ((2 * (sq + 1) : Nat) : Int)) (by omega) ?_
        refine n_iconst hx hb dX9_addSpan_134 ?_
        refine n_isub hx hb dX9_addSpan_135 ?_
        refine n_top (A := ((2 * (sq + 1) : Nat) : Int) - 1) (B := (((2 * (sq + 1)) - 1 : Nat) : Int)) (by omega) ?_
        refine lv_aload_n hx hb dX9_addSpan_136 rfl (lv_at hl 1 rfl) ?_
        refine f_get (C := RX9) (T := TX9) (N := 26) hx hb hts (by decide +kernel) hown hK hP 59 (by omega) e_68 rfl 17 (by decide) (hts (.fieldLink RX9 48 "KeptMovingModel" "timeD" "[J") (by decide +kernel)) (fun _ h9 => h9) rfl dX9_addSpan_137 ?_
        refine lv_iload_n hx hb dX9_addSpan_140 rfl (lv_at hl 3 rfl) ?_
        refine n_lald hx hb hK hP 72 (by omega) e_70 to rfl (by omega) (by decide) dX9_addSpan_141 ?_
        refine n_last hx hb hK hP hS hAA 74 (by omega) e_72 (fun _ => rfl) ((2 * (sq + 1)) - 1) rfl (by omega) (by decide) dX9_addSpan_142 (fun H locs hP hS => ?_)
        obtain ⟨w_73, hw_74⟩ : ∃ z : WF, z = va_up w_65 74 (.inl (gJ G, 1400, .inr (.inl (aJ (va_up (va_up sD (2 * sq) (tD fi)) ((2 * (sq + 1)) - 1) (tD to)))))) := ⟨_, rfl⟩
        rw [← hw_74] at hP
        have fr_75 : ∀ k : Nat, k ≠ 74 → w_73 k = w_65 k := fun k h => by rw [hw_74]; exact va_up_ne _ _ h
        have e_76 : w_73 59 = .inr (8, [.int (iN ((now : Nat) : Int)), .int (iN ((came : Nat) : Int)), .ref (gad G 60), .ref (gad G 61), .ref (gad G 62), .ref (gad G 63), .ref (gad G 64), .ref (gad G 65), .int (iN ((rm : Nat) : Int)), .int (iN ((mt : Nat) : Int)), .ref (gad G 66), .ref (gad G 67), .ref (gad G 68), .ref (gad G 69), .ref (gad G 70), .int (iN ((tm : Nat) : Int)), .ref (gad G 71), .ref (gad G 72), .int (iN thg), .int (iN onn), .int (iN two), .long (jN lw), .long (jN hg), .int (iN ((sq + 1 : Nat) : Int)), .ref (gad G 73), .ref (gad G 74)]) := (fr_75 59 (by omega)).trans e_68
        have e_77 : w_73 71 = .inl (gJ G, 700, .inr (.inl (aJ tN))) := (fr_75 71 (by omega)).trans e_69
        have e_78 : w_73 72 = .inl (gJ G, 700, .inr (.inl (aJ tD))) := (fr_75 72 (by omega)).trans e_70
        have e_79 : w_73 73 = .inl (gJ G, 1400, .inr (.inl (aJ (va_up (va_up sN (2 * sq) (tN fi)) ((2 * (sq + 1)) - 1) (tN to))))) := (fr_75 73 (by omega)).trans e_71
        have e_80 : w_73 74 = .inl (gJ G, 1400, .inr (.inl (aJ (va_up (va_up sD (2 * sq) (tD fi)) ((2 * (sq + 1)) - 1) (tD to))))) := by rw [hw_74]; exact va_up_self _ _ _
        exact r_v hx hb hr dX9_addSpan_143 hlocks hP hS (⟨sq + 1, va_up (va_up sN (2 * sq) (tN fi)) ((2 * (sq + 1)) - 1) (tN to), va_up (va_up sD (2 * sq) (tD fi)) ((2 * (sq + 1)) - 1) (tD to), (fun k h0 h1 h2 => ((((((((fr_75 k (by omega)).trans (fr_67 k (by omega)))).trans (fr_59 k (by omega)))).trans (fr_51 k (by omega)))).trans (fr_43 k (by omega)))), e_76, e_79, e_80, (isQ_n p1 (isT_ok p0 p3) (isT_ok p0 p4) (fun z => by first | exact absurd z.1 (by omega) | exact c_48 z.2))⟩)
    · refine n_iconst hx hb dX9_addSpan_51 ?_
      refine lv_goto (tgt := 56) hx hb dX9_addSpan_52 (by decide) ?_
      refine lv_istore_n (lv' := [(3, .int (iN 1)), (0, .ref (gad G 59)), (1, .int (iN ((fi : Nat) : Int))), (2, .int (iN ((to : Nat) : Int)))]) hx hb dX9_addSpan_56 rfl hl (by decide) rfl (fun ls hl => ?_)
      refine lv_iload_n hx hb dX9_addSpan_57 rfl (lv_at hl 0 rfl) ?_
      refine n_if_ne (tgt := 105) hx hb dX9_addSpan_58 (by decide) (by omega) (by omega) (fun c_58 => ?_) (fun c_58 => ?_)
      · refine lv_aload_n hx hb dX9_addSpan_105 rfl (lv_at hl 1 rfl) ?_
        refine f_get (C := RX9) (T := TX9) (N := 26) hx hb hts (by decide +kernel) hown hK hP 59 (by omega) e0 rfl 24 (by decide) (hts (.fieldLink RX9 51 "KeptMovingModel" "spanN" "[J") (by decide +kernel)) (fun _ h9 => h9) rfl dX9_addSpan_106 ?_
        refine n_iconst hx hb dX9_addSpan_109 ?_
        refine lv_aload_n hx hb dX9_addSpan_110 rfl (lv_at hl 1 rfl) ?_
        refine f_get (C := RX9) (T := TX9) (N := 26) hx hb hts (by decide +kernel) hown hK hP 59 (by omega) e0 rfl 23 (by decide) (hts (.fieldLink RX9 198 "KeptMovingModel" "spans" "I") (by decide +kernel)) (fun _ h9 => h9) rfl dX9_addSpan_111 ?_
        refine n_imul hx hb dX9_addSpan_114 ?_
        refine n_top (A := 2 * ((sq : Nat) : Int)) (B := ((2 * sq : Nat) : Int)) (by omega) ?_
        refine n_iconst hx hb dX9_addSpan_115 ?_
        refine n_isub hx hb dX9_addSpan_116 ?_
        refine n_top (A := ((2 * sq : Nat) : Int) - 1) (B := (((2 * sq) - 1 : Nat) : Int)) (by omega) ?_
        refine lv_aload_n hx hb dX9_addSpan_117 rfl (lv_at hl 1 rfl) ?_
        refine f_get (C := RX9) (T := TX9) (N := 26) hx hb hts (by decide +kernel) hown hK hP 59 (by omega) e0 rfl 16 (by decide) (hts (.fieldLink RX9 45 "KeptMovingModel" "timeN" "[J") (by decide +kernel)) (fun _ h9 => h9) rfl dX9_addSpan_118 ?_
        refine lv_iload_n hx hb dX9_addSpan_121 rfl (lv_at hl 3 rfl) ?_
        refine n_lald hx hb hK hP 71 (by omega) e1 to rfl (by omega) (by decide) dX9_addSpan_122 ?_
        refine n_last hx hb hK hP hS hAA 73 (by omega) e3 (fun _ => rfl) ((2 * sq) - 1) rfl (by omega) (by decide) dX9_addSpan_123 (fun H locs hP hS => ?_)
        obtain ⟨w_81, hw_82⟩ : ∃ z : WF, z = va_up w 73 (.inl (gJ G, 1400, .inr (.inl (aJ (va_up sN ((2 * sq) - 1) (tN to)))))) := ⟨_, rfl⟩
        rw [← hw_82] at hP
        have fr_83 : ∀ k : Nat, k ≠ 73 → w_81 k = w k := fun k h => by rw [hw_82]; exact va_up_ne _ _ h
        have e_84 : w_81 59 = .inr (8, [.int (iN ((now : Nat) : Int)), .int (iN ((came : Nat) : Int)), .ref (gad G 60), .ref (gad G 61), .ref (gad G 62), .ref (gad G 63), .ref (gad G 64), .ref (gad G 65), .int (iN ((rm : Nat) : Int)), .int (iN ((mt : Nat) : Int)), .ref (gad G 66), .ref (gad G 67), .ref (gad G 68), .ref (gad G 69), .ref (gad G 70), .int (iN ((tm : Nat) : Int)), .ref (gad G 71), .ref (gad G 72), .int (iN thg), .int (iN onn), .int (iN two), .long (jN lw), .long (jN hg), .int (iN ((sq : Nat) : Int)), .ref (gad G 73), .ref (gad G 74)]) := (fr_83 59 (by omega)).trans e0
        have e_85 : w_81 71 = .inl (gJ G, 700, .inr (.inl (aJ tN))) := (fr_83 71 (by omega)).trans e1
        have e_86 : w_81 72 = .inl (gJ G, 700, .inr (.inl (aJ tD))) := (fr_83 72 (by omega)).trans e2
        have e_87 : w_81 73 = .inl (gJ G, 1400, .inr (.inl (aJ (va_up sN ((2 * sq) - 1) (tN to))))) := by rw [hw_82]; exact va_up_self _ _ _
        have e_88 : w_81 74 = .inl (gJ G, 1400, .inr (.inl (aJ sD))) := (fr_83 74 (by omega)).trans e4
        refine lv_aload_n hx hb dX9_addSpan_124 rfl (lv_at hl 1 rfl) ?_
        refine f_get (C := RX9) (T := TX9) (N := 26) hx hb hts (by decide +kernel) hown hK hP 59 (by omega) e_84 rfl 25 (by decide) (hts (.fieldLink RX9 54 "KeptMovingModel" "spanD" "[J") (by decide +kernel)) (fun _ h9 => h9) rfl dX9_addSpan_125 ?_
        refine n_iconst hx hb dX9_addSpan_128 ?_
        refine lv_aload_n hx hb dX9_addSpan_129 rfl (lv_at hl 1 rfl) ?_
        refine f_get (C := RX9) (T := TX9) (N := 26) hx hb hts (by decide +kernel) hown hK hP 59 (by omega) e_84 rfl 23 (by decide) (hts (.fieldLink RX9 198 "KeptMovingModel" "spans" "I") (by decide +kernel)) (fun _ h9 => h9) rfl dX9_addSpan_130 ?_
        refine n_imul hx hb dX9_addSpan_133 ?_
        refine n_top (A := 2 * ((sq : Nat) : Int)) (B := ((2 * sq : Nat) : Int)) (by omega) ?_
        refine n_iconst hx hb dX9_addSpan_134 ?_
        refine n_isub hx hb dX9_addSpan_135 ?_
        refine n_top (A := ((2 * sq : Nat) : Int) - 1) (B := (((2 * sq) - 1 : Nat) : Int)) (by omega) ?_
        refine lv_aload_n hx hb dX9_addSpan_136 rfl (lv_at hl 1 rfl) ?_
        refine f_get (C := RX9) (T := TX9) (N := 26) hx hb hts (by decide +kernel) hown hK hP 59 (by omega) e_84 rfl 17 (by decide) (hts (.fieldLink RX9 48 "KeptMovingModel" "timeD" "[J") (by decide +kernel)) (fun _ h9 => h9) rfl dX9_addSpan_137 ?_
        refine lv_iload_n hx hb dX9_addSpan_140 rfl (lv_at hl 3 rfl) ?_
        refine n_lald hx hb hK hP 72 (by omega) e_86 to rfl (by omega) (by decide) dX9_addSpan_141 ?_
        refine n_last hx hb hK hP hS hAA 74 (by omega) e_88 (fun _ => rfl) ((2 * sq) - 1) rfl (by omega) (by decide) dX9_addSpan_142 (fun H locs hP hS => ?_)
        obtain ⟨w_89, hw_90⟩ : ∃ z : WF, z = va_up w_81 74 (.inl (gJ G, 1400, .inr (.inl (aJ (va_up sD ((2 * sq) - 1) (tD to)))))) := ⟨_, rfl⟩
        rw [← hw_90] at hP
        have fr_91 : ∀ k : Nat, k ≠ 74 → w_89 k = w_81 k := fun k h => by rw [hw_90]; exact va_up_ne _ _ h
        have e_92 : w_89 59 = .inr (8, [.int (iN ((now : Nat) : Int)), .int (iN ((came : Nat) : Int)), .ref (gad G 60), .ref (gad G 61), .ref (gad G 62), .ref (gad G 63), .ref (gad G 64), .ref (gad G 65), .int (iN ((rm : Nat) : Int)), .int (iN ((mt : Nat) : Int)), .ref (gad G 66), .ref (gad G 67), .ref (gad G 68), .ref (gad G 69), .ref (gad G 70), .int (iN ((tm : Nat) : Int)), .ref (gad G 71), .ref (gad G 72), .int (iN thg), .int (iN onn), .int (iN two), .long (jN lw), .long (jN hg), .int (iN ((sq : Nat) : Int)), .ref (gad G 73), .ref (gad G 74)]) := (fr_91 59 (by omega)).trans e_84
        have e_93 : w_89 71 = .inl (gJ G, 700, .inr (.inl (aJ tN))) := (fr_91 71 (by omega)).trans e_85
        have e_94 : w_89 72 = .inl (gJ G, 700, .inr (.inl (aJ tD))) := (fr_91 72 (by omega)).trans e_86
        have e_95 : w_89 73 = .inl (gJ G, 1400, .inr (.inl (aJ (va_up sN ((2 * sq) - 1) (tN to))))) := (fr_91 73 (by omega)).trans e_87
        have e_96 : w_89 74 = .inl (gJ G, 1400, .inr (.inl (aJ (va_up sD ((2 * sq) - 1) (tD to))))) := by rw [hw_90]; exact va_up_self _ _ _
        exact r_v hx hb hr dX9_addSpan_143 hlocks hP hS (⟨sq, va_up sN ((2 * sq) - 1) (tN to), va_up sD ((2 * sq) - 1) (tD to), (fun k h0 h1 h2 => ((fr_91 k (by omega)).trans (fr_83 k (by omega)))), e_92, e_95, e_96, (isQ_t p1 (isT_ok p0 p4) (by omega) c_48)⟩)
      · exact absurd c_58 (by decide)
