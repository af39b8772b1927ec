section FL
variable {p : Program} {l : Launch} {e : Env} {R : Room} {s : State} {m : MethodId} {args : Array Value} {below : List Frame} {meth : Method} {c : Code} {H : Heap} {locs : List Loc} {cells slots : Nat} {Q : State → Prop}
variable {pc : Nat} {ls : Array Slot} {rest : List Value} {G : GE} {w : WF} {cc : ByteArray}
theorem n_alenI (hx : p.tables.exec = Jvm.exec) (hb : c.code = cc) (hK : KK G s) (hP : PW G w H) (k : Nat) (hk : k < 75) {n : Nat} {f : Nat → Int32} (he : w k = .inl (gI G, n, .inl f)) {z : Int} (hz : Int32.ofNat n = iN z) (hdg : decode cc pc = .ok (.arraylength, 1)) (kk : W p l e R s m args below meth c H locs cells slots Q (F0 m (pc + 1) ls (.int (iN z) :: rest))) : W p l e R s m args below meth c H locs cells slots Q (F0 m pc ls (.ref (gad G k) :: rest)) :=
  va_alen (D := gD G) hx hb hK.1 (pw_one hP hk) 0 0 (by rw [he]; rfl) rfl hz hdg kk
end FL
abbrev FS : Type := (Nat → Nat → Int) × (Nat → Nat → Int) × (Nat → Nat → Int) × (Nat → Nat) × (Nat → Int)
def thB (S : FS) (t : Int) (j : Nat) : Bool := thF S.1 S.2.2.2.2 t 1 j
def poS (S : FS) (t : Int) (j : Nat) : Int := upAt (S.1 j) (S.2.1 j) (S.2.2.1 j) (S.2.2.2.1 j) t 1
def spS (S : FS) (t : Int) (j : Nat) : Int := spAt (S.1 j) (S.2.2.1 j) (S.2.2.2.1 j) t
/-- the bends -/
def nbS (S : FS) (after : Int) : Nat → Int → Int
  | 0, last => last
  | i + 1, last => nbC (S.1 i) (S.2.2.2.1 i) (S.2.2.2.2 i) after (nbS S after i last)
def bndF (S : FS) (came : Nat) (last : Int) : Nat → Int
  | 0 => 0
  | k + 1 => nbS S (bndF S came last k) came last
theorem nbC_rng {st : Nat → Int} {np : Nat} {stop after last : Int} (h : 0 ≤ last ∧ last ≤ 1000) (hs : ∀ p : Nat, p < np → 0 ≤ st p ∧ st p ≤ 400) (ha : 0 ≤ after) : 0 ≤ nbC st np stop after last ∧ nbC st np stop after last ≤ last := by
  have h1 := nbP_rng st after np last h.1 h.2 hs
  unfold nbC
  split <;> omega
theorem nbS_rng {came : Nat} {cst cpl csp : Nat → Nat → Int} {cnp : Nat → Nat} {cstop : Nat → Int} (hV : OKS came cst cpl csp cnp cstop) {after last : Int} (h : 0 ≤ last ∧ last ≤ 1000) (ha : 0 ≤ after) : ∀ i, i ≤ came → 0 ≤ nbS (cst, cpl, csp, cnp, cstop) after i last ∧ nbS (cst, cpl, csp, cnp, cstop) after i last ≤ last
  | 0, _ => ⟨h.1, Int.le_refl _⟩
  | i + 1, hi => by
    have ih := nbS_rng hV h ha i (by omega)
    have h1 := nbC_rng (st := cst i) (np := cnp i) (stop := cstop i) (after := after) (last := nbS (cst, cpl, csp, cnp, cstop) after i last) (by omega) (hV.2 i (by omega)).2.1 ha
    show 0 ≤ nbC (cst i) (cnp i) (cstop i) after (nbS (cst, cpl, csp, cnp, cstop) after i last) ∧ nbC (cst i) (cnp i) (cstop i) after (nbS (cst, cpl, csp, cnp, cstop) after i last) ≤ last
    omega
theorem bndF_rng {came : Nat} {cst cpl csp : Nat → Nat → Int} {cnp : Nat → Nat} {cstop : Nat → Int} (hV : OKS came cst cpl csp cnp cstop) {last : Int} (h : 0 ≤ last ∧ last ≤ 1000) : ∀ k, 0 ≤ bndF (cst, cpl, csp, cnp, cstop) came last k ∧ bndF (cst, cpl, csp, cnp, cstop) came last k ≤ last
  | 0 => ⟨Int.le_refl _, h.1⟩
  | k + 1 => nbS_rng hV h (bndF_rng hV h k).1 came (Nat.le_refl _)
def isB (S : FS) (came : Nat) (last : Int) (bc : Nat) (bs : Nat → Int) : Prop := (1 ≤ bc ∧ bc ≤ 92) ∧ (∀ k : Nat, k < bc → bs k = bndF S came last k) ∧ (∀ k : Nat, k + 1 < bc → bndF S came last k < last) ∧ (bc = 92 ∨ last ≤ bndF S came last (bc - 1))
/-- the scene -/
def isSc (S : FS) (t : Int) (q : Nat) (th ps vs : Nat → Int) : Prop := ∀ j : Nat, j < q → th j = (if thB S t j = true then 1 else 0) ∧ ps j = poS S t j ∧ vs j = spS S t j
theorem isSc_in {S : FS} {t : Int} {q : Nat} {th ps vs : Nat → Int} {x y z : Int} (h : isSc S t q th ps vs) (hx : x = (if thB S t q = true then 1 else 0)) (hy : y = poS S t q) (hz : z = spS S t q) : isSc S t (q + 1) (va_up th q x) (va_up ps q y) (va_up vs q z) := fun j hj => by
  by_cases hjq : j = q
  · subst hjq
    rw [va_up_self, va_up_self, va_up_self]
    exact ⟨hx, hy, hz⟩
  · rw [va_up_ne _ _ hjq, va_up_ne _ _ hjq, va_up_ne _ _ hjq]
    exact h j (by omega)
/-- meetings: time (packed), i, j, whether a pass -/
abbrev EV : Type := Int × Nat × Nat × Bool
def insAt {α : Type} (L : List α) (j : Nat) (x : α) : List α := L.take j ++ x :: L.drop j
theorem insAt_get {α : Type} {L : List α} {j : Nat} {x : α} (hj : j ≤ L.length) (k : Nat) : (insAt L j x)[k]? = if k < j then L[k]? else if k = j then some x else L[k - 1]? := by
  unfold insAt
  rw [List.getElem?_append, List.length_take, Nat.min_eq_left hj]
  by_cases h1 : k < j
  · rw [if_pos h1, if_pos h1, List.getElem?_take, if_pos h1]
  · rw [if_neg h1, if_neg h1]
    by_cases h2 : k = j
    · subst h2
      rw [if_pos rfl, Nat.sub_self]
      rfl
    · rw [if_neg h2]
      obtain ⟨d, rfl⟩ : ∃ d, k = j + d + 1 := ⟨k - j - 1, by omega⟩
      rw [show j + d + 1 - j = d + 1 by omega, List.getElem?_cons_succ, List.getElem?_drop, show j + d + 1 - 1 = j + d by omega]
theorem insAt_len {α : Type} {L : List α} {j : Nat} {x : α} (hj : j ≤ L.length) : (insAt L j x).length = L.length + 1 := by
  unfold insAt
  rw [List.length_append, List.length_take, List.length_cons, List.length_drop]
  omega
def gtE (t : Int) (L : List EV) (k : Nat) : Bool := match L[k]? with
  | some q => decide (t / 256 * (q.1 % 256) < q.1 / 256 * (t % 256))
  | none => false
def insM (x : EV) (L : List EV) : List EV := insAt L (spotP (gtE x.1 L) L.length) x
def stepM (o : Option EV) (L : List EV) : List EV := match o with
  | some x => insM x L
  | none => L
def npass (L : List EV) : Int := ((L.filter (fun q => q.2.2.2)).length : Int)
def isM (L : List EV) (sz : Nat) (pa : Int) (ts os rs : Nat → Int) : Prop := sz = L.length ∧ pa = npass L ∧ ∀ (k : Nat) (q : EV), L[k]? = some q → (ts k = q.1 ∧ os k = (q.2.1 : Int) ∧ rs k = (q.2.2.1 : Int)) ∧ (-30000000000 ≤ q.1 ∧ q.1 ≤ 30000000000)
theorem isM_0 (ts os rs : Nat → Int) : isM [] 0 0 ts os rs := ⟨rfl, rfl, fun k q h => by simp at h⟩
theorem isM_bd {L : List EV} {sz : Nat} {pa : Int} {ts os rs : Nat → Int} (h : isM L sz pa ts os rs) : ∀ k : Nat, k < sz → -30000000000 ≤ ts k ∧ ts k ≤ 30000000000 := fun k hk => by
  obtain ⟨rfl, -, h3⟩ := h
  obtain ⟨h4, h5⟩ := h3 k L[k] (List.getElem?_eq_getElem hk)
  rw [h4.1]
  exact h5
theorem isM_ins {L : List EV} {sz : Nat} {pa : Int} {ts os rs : Nat → Int} (h : isM L sz pa ts os rs) (q : EV) (hr : -30000000000 ≤ q.1 ∧ q.1 ≤ 30000000000) {x i j b : Int} (hx : x = q.1) (hi : i = (q.2.1 : Int)) (hj : j = (q.2.2.1 : Int)) (hb : b = if q.2.2.2 = true then 1 else 0) :
    isM (insM q L) (sz + 1) (pa + b) (insF ts (spotP (fun k => decide (x / 256 * (ts k % 256) < ts k / 256 * (x % 256))) sz) sz x) (insF os (spotP (fun k => decide (x / 256 * (ts k % 256) < ts k / 256 * (x % 256))) sz) sz i) (insF rs (spotP (fun k => decide (x / 256 * (ts k % 256) < ts k / 256 * (x % 256))) sz) sz j) := by
  obtain ⟨rfl, h2, h3⟩ := h
  subst hx
  have hsp : spotP (fun k => decide (q.1 / 256 * (ts k % 256) < ts k / 256 * (q.1 % 256))) L.length = spotP (gtE q.1 L) L.length := spot_cong fun k hk => by
    unfold gtE
    rw [List.getElem?_eq_getElem hk, (h3 k _ (List.getElem?_eq_getElem hk)).1.1]
  rw [hsp]
  have hle := spot_le (gtE q.1 L) L.length
  refine ⟨(insAt_len hle).symm, ?_, fun k z hz => ?_⟩
  · rw [h2, hb]
    unfold npass insM insAt
    rw [List.filter_append, List.filter_cons, List.length_append]
    have hsplit : (L.filter (fun q => q.2.2.2)).length = ((L.take (spotP (gtE q.1 L) L.length)).filter (fun q => q.2.2.2)).length + ((L.drop (spotP (gtE q.1 L) L.length)).filter (fun q => q.2.2.2)).length := by
      rw [← List.length_append, ← List.filter_append, List.take_append_drop]
    rw [hsplit]
    by_cases hb2 : q.2.2.2 = true
    · rw [if_pos hb2, if_pos hb2, List.length_cons]
      omega
    · rw [if_neg hb2, if_neg hb2]
      omega
  · unfold insM at hz
    rw [insAt_get hle] at hz
    generalize spotP (gtE q.1 L) L.length = d at hz hle
    unfold insF
    by_cases h4 : k < d
    · rw [if_pos h4] at hz
      rw [if_pos h4, if_pos h4, if_pos h4]
      exact h3 k z hz
    · rw [if_neg h4] at hz
      rw [if_neg h4, if_neg h4, if_neg h4]
      by_cases h5 : k = d
      · rw [if_pos h5] at hz
        cases hz
        rw [if_pos h5, if_pos h5, if_pos h5]
        exact ⟨⟨rfl, hi, hj⟩, hr⟩
      · rw [if_neg h5] at hz
        have h6 : k - 1 < L.length := (List.getElem?_eq_some_iff.mp hz).1
        rw [if_neg h5, if_neg h5, if_neg h5, if_pos (by omega), if_pos (by omega), if_pos (by omega)]
        exact h3 (k - 1) z hz
/-- the meeting of two at a bend; of two between two bends -/
def abE (S : FS) (u : Int) (i j : Nat) (ga : Int) : Option EV := if thB S u i = true ∧ thB S u j = true then some (u * 256 + 1, i, j, decide (0 < ga * (spS S u j - spS S u i))) else none
def evC (S : FS) (f u : Int) (i j : Nat) (gap gr : Int) : Option EV :=
  if gap < 0 ∧ 0 < gr ∨ 0 < gap ∧ gr < 0 then
    (if frac (f * (gr.natAbs : Int) + (gap.natAbs : Int)) (gr.natAbs : Int) / 256 * ((u * 256 + 1) % 256) < (u * 256 + 1) / 256 * (frac (f * (gr.natAbs : Int) + (gap.natAbs : Int)) (gr.natAbs : Int) % 256) then some (frac (f * (gr.natAbs : Int) + (gap.natAbs : Int)) (gr.natAbs : Int), i, j, true)
    else if frac (f * (gr.natAbs : Int) + (gap.natAbs : Int)) (gr.natAbs : Int) / 256 * ((u * 256 + 1) % 256) = (u * 256 + 1) / 256 * (frac (f * (gr.natAbs : Int) + (gap.natAbs : Int)) (gr.natAbs : Int) % 256) then abE S u i j gr
    else none)
  else none
def evOf (S : FS) (f u : Int) (i j : Nat) : Option EV := if thB S f i = true ∧ thB S f j = true then evC S f u i j (poS S f j - poS S f i) (spS S f j - spS S f i) else none
def gmI (S : FS) (f u : Int) (i : Nat) : Nat → List EV → List EV
  | 0, L => L
  | k + 1, L => stepM (evOf S f u i (i + 1 + k)) (gmI S f u i k L)
def gmO (S : FS) (f u : Int) (came : Nat) : Nat → List EV
  | 0 => []
  | i + 1 => gmI S f u i (came - (i + 1)) (gmO S f u came i)
/-- the meetings above f up to u, no law changing between -/
def gmL (S : FS) (f u : Int) (came : Nat) : List EV := gmO S f u came came
theorem stepM_len (o : Option EV) (L : List EV) : (stepM o L).length ≤ L.length + 1 := by
  cases o with
  | none => exact Nat.le_succ _
  | some x => exact Nat.le_of_eq (insAt_len (spot_le _ _))
theorem gmI_len (S : FS) (f u : Int) (i : Nat) (L : List EV) : ∀ k, (gmI S f u i k L).length ≤ L.length + k
  | 0 => Nat.le_refl _
  | k + 1 => by
    have := gmI_len S f u i L k
    have h2 := stepM_len (evOf S f u i (i + 1 + k)) (gmI S f u i k L)
    unfold gmI
    omega
def prs (came : Nat) : Nat → Nat
  | 0 => 0
  | i + 1 => prs came i + (came - (i + 1))
theorem gmO_len (S : FS) (f u : Int) (came : Nat) : ∀ i, (gmO S f u came i).length ≤ prs came i
  | 0 => Nat.le_refl _
  | i + 1 => by
    have := gmO_len S f u came i
    have h2 := gmI_len S f u i (gmO S f u came i) (came - (i + 1))
    unfold gmO prs
    omega
theorem prs_bd : ∀ came : Nat, came < 11 → ∀ i : Nat, i < came → prs came i + (came - (i + 1)) ≤ 45 := by decide

set_option maxHeartbeats 4000000 in
set_option maxRecDepth 100000 in
theorem c_X8_nextBend (l : Launch) (G : GE) (w : WF) (came : Nat) (now : Nat) (bc : Nat) (af : Int) (la : Int) (cst : Nat → Nat → Int) (cpl : Nat → Nat → Int) (csp : Nat → Nat → Int) (cnp : Nat → Nat) (cstop : Nat → Int) (e0 : w 0 = .inr (7, [.ref (gad G 1), .int (iN ((came : Nat) : Int)), .int (iN ((now : Nat) : Int)), .ref (gad G 2), .ref (gad G 5), .int (iN ((bc : Nat) : Int)), .ref (gad G 6), .ref (gad G 10), .ref (gad G 14), .ref (gad G 15), .ref (gad G 18)])) (hC : FAM G w cst cpl csp cnp cstop) (p0 : OKS came cst cpl csp cnp cstop) (p1 : 0 ≤ af ∧ af ≤ 1000) (p2 : 0 ≤ la ∧ la ≤ 1000) : Met l yX8_nextBend wsX8_nextBend ({ frames := 2, cells := 0, slots := 0, locals := 45 }) (PcG G w [.ref (gad G 0), .int (iN af), .int (iN la)]) (vp_Si (fun r => r = iN (nbS (cst, cpl, csp, cnp, cstop) af came la))) 0 0 (fun _ => False) := by
  refine Met.ofW (cc := cX8_nextBend) (maxL := 5) (ret := (some .int)) (by decide) rfl ?_
  intro p e s m args below meth c s₁ B hml hv
  obtain ⟨rfl, hP, hK⟩ := hv
  have hx := B.exec
  have hb := B.bytes
  have hr := B.returns
  have hts := atoms_spec (ws := wsX8_nextBend) B.pre
  have hown : s.vm.findClass RX8 = some m.cls := findClass_of_methodNamed B.named
  have hlocks := B.notSynchronized
  have hl := lv_entry ([.ref (gad G 0), .int (iN af), .int (iN la)]) (n := 5) (Nat.le_of_ble_eq_true rfl)
  rw [lg_entry_eq]
  generalize (lg_sl ([.ref (gad G 0), .int (iN af), .int (iN la)]) ++ List.replicate (5 - (lg_sl ([.ref (gad G 0), .int (iN af), .int (iN la)])).length) Slot.unset).toArray = ls at hl ⊢
  have hl : lv_has ls 5 [(0, .ref (gad G 0)), (1, .int (iN af)), (2, .int (iN la))] := hl
  have hc10 : came ≤ 10 := p0.1
  refine lv_iload_n hx hb dX8_nextBend_0 rfl (lv_at hl 2 rfl) ?_
  refine lv_istore_n (lv' := [(3, .int (iN la)), (0, .ref (gad G 0)), (1, .int (iN af)), (2, .int (iN la))]) hx hb dX8_nextBend_1 rfl hl (by decide) rfl (fun ls hl => ?_)
  refine n_iconst hx hb dX8_nextBend_2 ?_
  refine lv_istore (lv' := [(4, .int (iN 0)), (3, .int (iN la)), (0, .ref (gad G 0)), (1, .int (iN af)), (2, .int (iN la))]) hx hb dX8_nextBend_3 hl (by decide) rfl (fun ls hl => ?_)
  have K5 : ∀ (N : Nat) (q : Nat) (ls : Array Slot), (q ≤ came) → 11 - q < N → lv_has ls 5 [(0, .ref (gad G 0)), (1, .int (iN af)), (2, .int (iN la)), (3, .int (iN (nbS (cst, cpl, csp, cnp, cstop) af q la))), (4, .int (iN ((q : Nat) : Int)))] → W p l e (headSpec wsX8_nextBend ({ frames := 2, cells := 0, slots := 0, locals := 45 })).room s m (([.ref (gad G 0), .int (iN af), .int (iN la)] : List Value).toArray) below meth c s.heap [] 0 0 (MQ below (vp_Si (fun r => r = iN (nbS (cst, cpl, csp, cnp, cstop) af came la))) (([.ref (gad G 0), .int (iN af), .int (iN la)] : List Value).toArray) s 0 0 (fun _ => False)) (F0 m 5 ls []) := by
    intro N
    induction N with
    | zero =>
      intros
      exfalso
      omega
    | succ N ih5 =>
      intro q ls i5_0 hN5 hl
      refine lv_iload hx hb dX8_nextBend_5 (lv_at hl 4 rfl) ?_
      refine lv_aload_n hx hb dX8_nextBend_7 rfl (lv_at hl 0 rfl) ?_
      refine f_get (C := RX8) (T := TX8) (N := 11) hx hb hts (by decide +kernel) hown hK hP 0 (by omega) e0 rfl 1 (by decide) (hts (.fieldLink RX8 67 "KeptMoving" "came" "I") (by decide +kernel)) (fun _ h9 => h9) rfl dX8_nextBend_8 ?_
      refine n_icmp_ge (tgt := 33) hx hb dX8_nextBend_11 (by decide) (by omega) (by omega) (by omega) (by omega) (fun c_11 => ?_) (fun c_11 => ?_)
      · refine lv_iload_n hx hb dX8_nextBend_33 rfl (lv_at hl 3 rfl) ?_
        exact r_si hx hb hr dX8_nextBend_34 hlocks (show iN _ = iN (nbS (cst, cpl, csp, cnp, cstop) af came la) by rw [show q = came by omega])
      · have hVi := p0.2 q (by omega)
        obtain ⟨hv1, hv2, hv3, hv4⟩ := id hVi
        have hnb := nbS_rng p0 p2 p1.1 q (by omega)
        refine lv_aload_n hx hb dX8_nextBend_14 rfl (lv_at hl 0 rfl) ?_
        refine f_get (C := RX8) (T := TX8) (N := 11) hx hb hts (by decide +kernel) hown hK hP 0 (by omega) e0 rfl 0 (by decide) (hts (.fieldLink RX8 11 "KeptMoving" "courses" "[LKeptMoving$Course;") (by decide +kernel)) (fun _ h9 => h9) rfl dX8_nextBend_15 ?_
        refine lv_iload hx hb dX8_nextBend_18 (lv_at hl 4 rfl) ?_
        refine n_aldq hx hb hK hP q (rfl) (by omega) dX8_nextBend_20 ?_
        refine lv_iload_n hx hb dX8_nextBend_21 rfl (lv_at hl 1 rfl) ?_
        refine lv_iload_n hx hb dX8_nextBend_22 rfl (lv_at hl 3 rfl) ?_
        obtain ⟨x_1, x_2, x_3, x_4⟩ := hC q (by omega)
        refine vp_callSi (va_Run.run (va_runVN (As := [.int (iN af), .int (iN (nbS (cst, cpl, csp, cnp, cstop) af q la))]) (rest := []) ⟨hx, hb, hml, hown, hts⟩ (c_X0_nextBend l G w q (cst q) (cpl q) (csp q) (cnp q) (cstop q) af (nbS (cst, cpl, csp, cnp, cstop) af q la) x_1 x_2 x_3 x_4 (by omega) (hv1) (hv2) (hv3) (p1) (by omega)) ⟨va_cnB 2 hts gX8_nextBend_X0_nextBend_n229 rfl rfl rfl (hK.nm 19 rfl) (hts (.initialized RX0) (by decide +kernel)) (by decide +kernel) ⟨Nat.le_of_ble_eq_true rfl, Nat.le_of_ble_eq_true rfl⟩, hts (.instanceMethod yX0_nextBend) (by decide +kernel), hts (.selects RX0 yX0_nextBend yX0_nextBend) (by decide +kernel)⟩ (f_preV hP hK (19 + 4 * q) (by omega) 0 x_1 rfl) rfl rfl hl.1 rfl (lv_room (Nat.le_of_ble_eq_true rfl)) dX8_nextBend_23 ⟨Nat.zero_le _, Nat.zero_le _⟩)) (fun r_5 hr_5 => ?_)
        rw [show r_5 = iN (nbC (cst q) (cnp q) (cstop q) af (nbS (cst, cpl, csp, cnp, cstop) af q la)) from hr_5]
        refine lv_istore_n (lv' := [(3, .int (iN (nbC (cst q) (cnp q) (cstop q) af (nbS (cst, cpl, csp, cnp, cstop) af q la)))), (0, .ref (gad G 0)), (1, .int (iN af)), (2, .int (iN la)), (4, .int (iN ((q : Nat) : Int)))]) hx hb dX8_nextBend_26 rfl hl (by decide) rfl (fun ls hl => ?_)
        refine lv_iinc (v := iN ((q + 1 : Nat) : Int)) (lv' := [(4, .int (iN ((q + 1 : Nat) : Int))), (3, .int (iN (nbC (cst q) (cnp q) (cstop q) af (nbS (cst, cpl, csp, cnp, cstop) af q la)))), (0, .ref (gad G 0)), (1, .int (iN af)), (2, .int (iN la))]) hx hb dX8_nextBend_27 hl (k := 4) rfl (iN_incN _) (by decide) rfl (fun ls hl => ?_)
        refine lv_goto (tgt := 5) hx hb dX8_nextBend_30 (by decide) ?_
        exact ih5 (q + 1) _ (by omega) (by omega) (lv_sub hl [2, 3, 4, 1, 0] rfl)
  exact K5 ((11 - 0) + 1) (0) _ (by omega) (by omega) (lv_sub hl [2, 3, 4, 1, 0] rfl)

theorem isB_in {S : FS} {came : Nat} {la : Int} {q : Nat} {bs : Nat → Int} (h : ∀ k : Nat, k < q → bs k = bndF S came la k) (hq : 1 ≤ q) : ∀ k : Nat, k < q + 1 → va_up bs q (nbS S (bs (q - 1)) came la) k = bndF S came la k := fun k hk => by
  by_cases h1 : k = q
  · subst h1
    rw [va_up_self, h (k - 1) (by omega)]
    obtain ⟨d, rfl⟩ : ∃ d, k = d + 1 := ⟨k - 1, by omega⟩
    rfl
  · rw [va_up_ne _ _ h1]
    exact h k (by omega)

set_option maxHeartbeats 4000000 in
set_option maxRecDepth 100000 in
theorem c_X8_gatherBends (l : Launch) (G : GE) (w : WF) (came : Nat) (now : Nat) (bc : Nat) (bs : Nat → Int) (la : Int) (cst : Nat → Nat → Int) (cpl : Nat → Nat → Int) (csp : Nat → Nat → Int) (cnp : Nat → Nat) (cstop : Nat → Int) (e0 : w 0 = .inr (7, [.ref (gad G 1), .int (iN ((came : Nat) : Int)), .int (iN ((now : Nat) : Int)), .ref (gad G 2), .ref (gad G 5), .int (iN ((bc : Nat) : Int)), .ref (gad G 6), .ref (gad G 10), .ref (gad G 14), .ref (gad G 15), .ref (gad G 18)])) (e1 : w 5 = .inl (gI G, 92, .inl (aN bs))) (hC : FAM G w cst cpl csp cnp cstop) (p0 : OKS came cst cpl csp cnp cstop) (p1 : 0 ≤ la ∧ la ≤ 600) : Met l yX8_gatherBends wsX8_gatherBends ({ frames := 3, cells := 0, slots := 0, locals := 69 }) (PcG G w [.ref (gad G 0), .int (iN la)]) (QV G (fun w1 => ∃ (bc2 : Nat) (bs2 : Nat → Int), (∀ k : Nat, k ≠ 0 → k ≠ 5 → w1 k = w k) ∧ w1 0 = .inr (7, [.ref (gad G 1), .int (iN ((came : Nat) : Int)), .int (iN ((now : Nat) : Int)), .ref (gad G 2), .ref (gad G 5), .int (iN ((bc2 : Nat) : Int)), .ref (gad G 6), .ref (gad G 10), .ref (gad G 14), .ref (gad G 15), .ref (gad G 18)]) ∧ w1 5 = .inl (gI G, 92, .inl (aN bs2)) ∧ (isB (cst, cpl, csp, cnp, cstop) came la bc2 bs2))) 0 0 (AA G) := by
  refine Met.ofW (cc := cX8_gatherBends) (maxL := 2) (ret := none) (by decide) rfl ?_
  intro p e s m args below meth c s₁ B hml hv
  obtain ⟨rfl, hP, hK⟩ := hv
  have hx := B.exec
  have hb := B.bytes
  have hr := B.returns
  have hts := atoms_spec (ws := wsX8_gatherBends) B.pre
  have hown : s.vm.findClass RX8 = some m.cls := findClass_of_methodNamed B.named
  have hlocks := B.notSynchronized
  have hS : va_S (AA G) s.heap s.heap [] := va_S.rf
  have hAA : ∀ q, AA G q → AA G q := fun _ h => h
  have hl := lv_entry ([.ref (gad G 0), .int (iN la)]) (n := 2) (Nat.le_of_ble_eq_true rfl)
  rw [lg_entry_eq]
  generalize (lg_sl ([.ref (gad G 0), .int (iN la)]) ++ List.replicate (2 - (lg_sl ([.ref (gad G 0), .int (iN la)])).length) Slot.unset).toArray = ls at hl ⊢
  have hl : lv_has ls 2 [(0, .ref (gad G 0)), (1, .int (iN la))] := hl
  have hc10 : came ≤ 10 := p0.1
  refine lv_aload_n hx hb dX8_gatherBends_0 rfl (lv_at hl 0 rfl) ?_
  refine f_get (C := RX8) (T := TX8) (N := 11) hx hb hts (by decide +kernel) hown hK hP 0 (by omega) e0 rfl 4 (by decide) (hts (.fieldLink RX8 23 "KeptMoving" "bends" "[I") (by decide +kernel)) (fun _ h9 => h9) rfl dX8_gatherBends_1 ?_
  refine n_iconst hx hb dX8_gatherBends_4 ?_
  refine n_iconst hx hb dX8_gatherBends_5 ?_
  refine n_iast hx hb hK hP hS hAA 5 (by omega) e1 (fun _ => rfl) 0 rfl (by omega) (by decide) dX8_gatherBends_6 (fun H locs hP hS => ?_)
  obtain ⟨w_1, hw_2⟩ : ∃ z : WF, z = va_up w 5 (.inl (gI G, 92, .inl (aN (va_up bs 0 0)))) := ⟨_, rfl⟩
  rw [← hw_2] at hP
  have fr_3 : ∀ k : Nat, k ≠ 5 → w_1 k = w k := fun k h => by rw [hw_2]; exact va_up_ne _ _ h
  have hC_4 : FAM G w_1 cst cpl csp cnp cstop := hC.keep (fun k h1 h2 => fr_3 k (by omega))
  have e_5 : w_1 0 = .inr (7, [.ref (gad G 1), .int (iN ((came : Nat) : Int)), .int (iN ((now : Nat) : Int)), .ref (gad G 2), .ref (gad G 5), .int (iN ((bc : Nat) : Int)), .ref (gad G 6), .ref (gad G 10), .ref (gad G 14), .ref (gad G 15), .ref (gad G 18)]) := (fr_3 0 (by omega)).trans e0
  have e_6 : w_1 5 = .inl (gI G, 92, .inl (aN (va_up bs 0 0))) := by rw [hw_2]; exact va_up_self _ _ _
  refine lv_aload_n hx hb dX8_gatherBends_7 rfl (lv_at hl 0 rfl) ?_
  refine n_iconst hx hb dX8_gatherBends_8 ?_
  refine f_put (v := .int (iN 1)) (ty := .int) (C := RX8) (T := TX8) (N := 11) hx hb hts (by decide +kernel) tyX8 tyX8_ok nmX8 hown hK hP hS hAA 0 (by omega) e_5 rfl 5 (by decide) (hts (.fieldLink RX8 189 "KeptMoving" "bendCount" "I") (by decide +kernel)) (fun _ h9 => h9) rfl (by decide +kernel) (rfl) (rfl) (Nat.le_of_ble_eq_true rfl) (rfl) dX8_gatherBends_9 (fun H locs hP hS => ?_)
  have hP : PW G (va_up w_1 0 (.inr (7, [.ref (gad G 1), .int (iN ((came : Nat) : Int)), .int (iN ((now : Nat) : Int)), .ref (gad G 2), .ref (gad G 5), .int (iN 1), .ref (gad G 6), .ref (gad G 10), .ref (gad G 14), .ref (gad G 15), .ref (gad G 18)]))) H := hP
  obtain ⟨w_7, hw_8⟩ : ∃ z : WF, z = va_up w_1 0 (.inr (7, [.ref (gad G 1), .int (iN ((came : Nat) : Int)), .int (iN ((now : Nat) : Int)), .ref (gad G 2), .ref (gad G 5), .int (iN 1), .ref (gad G 6), .ref (gad G 10), .ref (gad G 14), .ref (gad G 15), .ref (gad G 18)])) := ⟨_, rfl⟩
  rw [← hw_8] at hP
  have fr_9 : ∀ k : Nat, k ≠ 0 → w_7 k = w_1 k := fun k h => by rw [hw_8]; exact va_up_ne _ _ h
  have hC_10 : FAM G w_7 cst cpl csp cnp cstop := hC_4.keep (fun k h1 h2 => fr_9 k (by omega))
  have e_11 : w_7 0 = .inr (7, [.ref (gad G 1), .int (iN ((came : Nat) : Int)), .int (iN ((now : Nat) : Int)), .ref (gad G 2), .ref (gad G 5), .int (iN 1), .ref (gad G 6), .ref (gad G 10), .ref (gad G 14), .ref (gad G 15), .ref (gad G 18)]) := by rw [hw_8]; exact va_up_self _ _ _
  have e_12 : w_7 5 = .inl (gI G, 92, .inl (aN (va_up bs 0 0))) := (fr_9 5 (by omega)).trans e_6
  have K12 : ∀ (N : Nat) (q : Nat) (bs2 : Nat → Int) (w2 : WF) (H : Heap) (locs : List Loc) (ls : Array Slot), (1 ≤ q ∧ q ≤ 92) → (∀ k : Nat, k < q → bs2 k = bndF (cst, cpl, csp, cnp, cstop) came la k) → (∀ k : Nat, k + 1 < q → bndF (cst, cpl, csp, cnp, cstop) came la k < la) → 93 - q < N → w2 0 = .inr (7, [.ref (gad G 1), .int (iN ((came : Nat) : Int)), .int (iN ((now : Nat) : Int)), .ref (gad G 2), .ref (gad G 5), .int (iN ((q : Nat) : Int)), .ref (gad G 6), .ref (gad G 10), .ref (gad G 14), .ref (gad G 15), .ref (gad G 18)]) → w2 5 = .inl (gI G, 92, .inl (aN bs2)) → (∀ k : Nat, k ≠ 0 → k ≠ 5 → w2 k = w k) → PW G w2 H → va_S (AA G) s.heap H locs → lv_has ls 2 [(0, .ref (gad G 0)), (1, .int (iN la))] → W p l e (headSpec wsX8_gatherBends ({ frames := 3, cells := 0, slots := 0, locals := 69 })).room s m (([.ref (gad G 0), .int (iN la)] : List Value).toArray) below meth c H locs 0 0 (MQ below (QV G (fun w1 => ∃ (bc2 : Nat) (bs2 : Nat → Int), (∀ k : Nat, k ≠ 0 → k ≠ 5 → w1 k = w k) ∧ w1 0 = .inr (7, [.ref (gad G 1), .int (iN ((came : Nat) : Int)), .int (iN ((now : Nat) : Int)), .ref (gad G 2), .ref (gad G 5), .int (iN ((bc2 : Nat) : Int)), .ref (gad G 6), .ref (gad G 10), .ref (gad G 14), .ref (gad G 15), .ref (gad G 18)]) ∧ w1 5 = .inl (gI G, 92, .inl (aN bs2)) ∧ (isB (cst, cpl, csp, cnp, cstop) came la bc2 bs2))) (([.ref (gad G 0), .int (iN la)] : List Value).toArray) s 0 0 (AA G)) (F0 m 12 ls []) := by
    intro N
    induction N with
    | zero =>
      intros
      exfalso
      omega
    | succ N ih12 =>
      intro q bs2 w2 H locs ls i12_0 i12_1 i12_2 hN12 f12_0 f12_1 hfr12 hP hS hl
      have hC12 : FAM G w2 cst cpl csp cnp cstop := hC.keep (fun k h1 h2 => hfr12 k (by omega) (by omega))
      refine lv_aload_n hx hb dX8_gatherBends_12 rfl (lv_at hl 0 rfl) ?_
      refine f_get (C := RX8) (T := TX8) (N := 11) hx hb hts (by decide +kernel) hown hK hP 0 (by omega) f12_0 rfl 5 (by decide) (hts (.fieldLink RX8 189 "KeptMoving" "bendCount" "I") (by decide +kernel)) (fun _ h9 => h9) rfl dX8_gatherBends_13 ?_
      refine lv_aload_n hx hb dX8_gatherBends_16 rfl (lv_at hl 0 rfl) ?_
      refine f_get (C := RX8) (T := TX8) (N := 11) hx hb hts (by decide +kernel) hown hK hP 0 (by omega) f12_0 rfl 4 (by decide) (hts (.fieldLink RX8 23 "KeptMoving" "bends" "[I") (by decide +kernel)) (fun _ h9 => h9) rfl dX8_gatherBends_17 ?_
      refine n_alenI (z := 92) hx hb hK hP 5 (by omega) f12_1 (by decide) dX8_gatherBends_20 ?_
      refine n_icmp_ge (tgt := 77) hx hb dX8_gatherBends_21 (by decide) (by omega) (by omega) (by omega) (by omega) (fun c_21 => ?_) (fun c_21 => ?_)
      · exact r_v hx hb hr dX8_gatherBends_77 hlocks hP hS (⟨q, bs2, (fun k h0 h1 => hfr12 k (by omega) (by omega)), f12_0, f12_1, ⟨i12_0, i12_1, i12_2, Or.inl (by omega)⟩⟩)
      · have hbn := i12_1 (q - 1) (by omega)
        have hbr := bndF_rng p0 (last := la) (by omega) (q - 1)
        refine lv_aload_n hx hb dX8_gatherBends_24 rfl (lv_at hl 0 rfl) ?_
        refine f_get (C := RX8) (T := TX8) (N := 11) hx hb hts (by decide +kernel) hown hK hP 0 (by omega) f12_0 rfl 4 (by decide) (hts (.fieldLink RX8 23 "KeptMoving" "bends" "[I") (by decide +kernel)) (fun _ h9 => h9) rfl dX8_gatherBends_25 ?_
        refine lv_aload_n hx hb dX8_gatherBends_28 rfl (lv_at hl 0 rfl) ?_
        refine f_get (C := RX8) (T := TX8) (N := 11) hx hb hts (by decide +kernel) hown hK hP 0 (by omega) f12_0 rfl 5 (by decide) (hts (.fieldLink RX8 189 "KeptMoving" "bendCount" "I") (by decide +kernel)) (fun _ h9 => h9) rfl dX8_gatherBends_29 ?_
        refine n_iconst hx hb dX8_gatherBends_32 ?_
        refine n_isub hx hb dX8_gatherBends_33 ?_
        refine n_top (A := ((q : Nat) : Int) - 1) (B := ((q - 1 : Nat) : Int)) (by omega) ?_
        refine n_iald hx hb hK hP 5 (by omega) f12_1 (q - 1) rfl (by omega) (by decide) dX8_gatherBends_34 ?_
        refine lv_iload_n hx hb dX8_gatherBends_35 rfl (lv_at hl 1 rfl) ?_
        refine n_icmp_ge (tgt := 77) hx hb dX8_gatherBends_36 (by decide) (by omega) (by omega) (by omega) (by omega) (fun c_36 => ?_) (fun c_36 => ?_)
        · exact r_v hx hb hr dX8_gatherBends_77 hlocks hP hS (⟨q, bs2, (fun k h0 h1 => hfr12 k (by omega) (by omega)), f12_0, f12_1, ⟨i12_0, i12_1, i12_2, Or.inr (by rw [← i12_1 (q - 1) (by omega)]; omega)⟩⟩)
        · refine lv_aload_n hx hb dX8_gatherBends_39 rfl (lv_at hl 0 rfl) ?_
          refine f_get (C := RX8) (T := TX8) (N := 11) hx hb hts (by decide +kernel) hown hK hP 0 (by omega) f12_0 rfl 4 (by decide) (hts (.fieldLink RX8 23 "KeptMoving" "bends" "[I") (by decide +kernel)) (fun _ h9 => h9) rfl dX8_gatherBends_40 ?_
          refine lv_aload_n hx hb dX8_gatherBends_43 rfl (lv_at hl 0 rfl) ?_
          refine f_get (C := RX8) (T := TX8) (N := 11) hx hb hts (by decide +kernel) hown hK hP 0 (by omega) f12_0 rfl 5 (by decide) (hts (.fieldLink RX8 189 "KeptMoving" "bendCount" "I") (by decide +kernel)) (fun _ h9 => h9) rfl dX8_gatherBends_44 ?_
          refine lv_aload_n hx hb dX8_gatherBends_47 rfl (lv_at hl 0 rfl) ?_
          refine lv_aload_n hx hb dX8_gatherBends_48 rfl (lv_at hl 0 rfl) ?_
          refine f_get (C := RX8) (T := TX8) (N := 11) hx hb hts (by decide +kernel) hown hK hP 0 (by omega) f12_0 rfl 4 (by decide) (hts (.fieldLink RX8 23 "KeptMoving" "bends" "[I") (by decide +kernel)) (fun _ h9 => h9) rfl dX8_gatherBends_49 ?_
          refine lv_aload_n hx hb dX8_gatherBends_52 rfl (lv_at hl 0 rfl) ?_
          refine f_get (C := RX8) (T := TX8) (N := 11) hx hb hts (by decide +kernel) hown hK hP 0 (by omega) f12_0 rfl 5 (by decide) (hts (.fieldLink RX8 189 "KeptMoving" "bendCount" "I") (by decide +kernel)) (fun _ h9 => h9) rfl dX8_gatherBends_53 ?_
          refine n_iconst hx hb dX8_gatherBends_56 ?_
          refine n_isub hx hb dX8_gatherBends_57 ?_
          refine n_top (A := ((q : Nat) : Int) - 1) (B := ((q - 1 : Nat) : Int)) (by omega) ?_
          refine n_iald hx hb hK hP 5 (by omega) f12_1 (q - 1) rfl (by omega) (by decide) dX8_gatherBends_58 ?_
          refine lv_iload_n hx hb dX8_gatherBends_59 rfl (lv_at hl 1 rfl) ?_
          refine vp_callSi (W.runV (As := [.int (iN (bs2 (q - 1))), .int (iN la)]) (rest := [.int (iN ((q : Nat) : Int)), .ref (gad G 5)]) ⟨hx, hb, hml, hown, hts⟩ (c_X8_nextBend l G w2 came now q (bs2 (q - 1)) la cst cpl csp cnp cstop f12_0 hC12 (p0) (by omega) (by omega)) (cwV 2 hts gX8_gatherBends_X8_nextBend rfl rfl rfl (by decide +kernel) ⟨Nat.le_of_ble_eq_true rfl, Nat.le_of_ble_eq_true rfl⟩) (f_preV hP hK 0 (by omega) 7 f12_0 rfl) rfl rfl hl.1 rfl (lv_room (Nat.le_of_ble_eq_true rfl)) dX8_gatherBends_60 ⟨Nat.zero_le _, Nat.zero_le _⟩) (fun r_13 hr_13 => ?_)
          rw [show r_13 = iN (nbS (cst, cpl, csp, cnp, cstop) (bs2 (q - 1)) came la) from hr_13]
          refine n_iast hx hb hK hP hS hAA 5 (by omega) f12_1 (fun _ => rfl) q rfl (by omega) (by decide) dX8_gatherBends_63 (fun H locs hP hS => ?_)
          obtain ⟨w_14, hw_15⟩ : ∃ z : WF, z = va_up w2 5 (.inl (gI G, 92, .inl (aN (va_up bs2 q (nbS (cst, cpl, csp, cnp, cstop) (bs2 (q - 1)) came la))))) := ⟨_, rfl⟩
          rw [← hw_15] at hP
          have fr_16 : ∀ k : Nat, k ≠ 5 → w_14 k = w2 k := fun k h => by rw [hw_15]; exact va_up_ne _ _ h
          have hC_17 : FAM G w_14 cst cpl csp cnp cstop := hC12.keep (fun k h1 h2 => fr_16 k (by omega))
          have e_18 : w_14 0 = .inr (7, [.ref (gad G 1), .int (iN ((came : Nat) : Int)), .int (iN ((now : Nat) : Int)), .ref (gad G 2), .ref (gad G 5), .int (iN ((q : Nat) : Int)), .ref (gad G 6), .ref (gad G 10), .ref (gad G 14), .ref (gad G 15), .ref (gad G 18)]) := (fr_16 0 (by omega)).trans f12_0
          have e_19 : w_14 5 = .inl (gI G, 92, .inl (aN (va_up bs2 q (nbS (cst, cpl, csp, cnp, cstop) (bs2 (q - 1)) came la)))) := by rw [hw_15]; exact va_up_self _ _ _
          refine lv_aload_n hx hb dX8_gatherBends_64 rfl (lv_at hl 0 rfl) ?_
          refine lv_dup hx hb dX8_gatherBends_65 rfl ?_
          refine f_get (C := RX8) (T := TX8) (N := 11) hx hb hts (by decide +kernel) hown hK hP 0 (by omega) e_18 rfl 5 (by decide) (hts (.fieldLink RX8 189 "KeptMoving" "bendCount" "I") (by decide +kernel)) (fun _ h9 => h9) rfl dX8_gatherBends_66 ?_
          refine n_iconst hx hb dX8_gatherBends_69 ?_
          refine n_iadd hx hb dX8_gatherBends_70 ?_
          refine n_top (A := ((q : Nat) : Int) + 1) (B := ((q + 1 : Nat) : Int)) (by omega) ?_
          refine f_put (v := .int (iN ((q + 1 : Nat) : Int))) (ty := .int) (C := RX8) (T := TX8) (N := 11) hx hb hts (by decide +kernel) tyX8 tyX8_ok nmX8 hown hK hP hS hAA 0 (by omega) e_18 rfl 5 (by decide) (hts (.fieldLink RX8 189 "KeptMoving" "bendCount" "I") (by decide +kernel)) (fun _ h9 => h9) rfl (by decide +kernel) (rfl) (rfl) (Nat.le_of_ble_eq_true rfl) (rfl) dX8_gatherBends_71 (fun H locs hP hS => ?_)
          have hP : PW G (va_up w_14 0 (.inr (7, [.ref (gad G 1), .int (iN ((came : Nat) : Int)), .int (iN ((now : Nat) : Int)), .ref (gad G 2), .ref (gad G 5), .int (iN ((q + 1 : Nat) : Int)), .ref (gad G 6), .ref (gad G 10), .ref (gad G 14), .ref (gad G 15), .ref (gad G 18)]))) H := hP
          obtain ⟨w_20, hw_21⟩ : ∃ z : WF, z = va_up w_14 0 (.inr (7, [.ref (gad G 1), .int (iN ((came : Nat) : Int)), .int (iN ((now : Nat) : Int)), .ref (gad G 2), .ref (gad G 5), .int (iN ((q + 1 : Nat) : Int)), .ref (gad G 6), .ref (gad G 10), .ref (gad G 14), .ref (gad G 15), .ref (gad G 18)])) := ⟨_, rfl⟩
          rw [← hw_21] at hP
          have fr_22 : ∀ k : Nat, k ≠ 0 → w_20 k = w_14 k := fun k h => by rw [hw_21]; exact va_up_ne _ _ h
          have hC_23 : FAM G w_20 cst cpl csp cnp cstop := hC_17.keep (fun k h1 h2 => fr_22 k (by omega))
          have e_24 : w_20 0 = .inr (7, [.ref (gad G 1), .int (iN ((came : Nat) : Int)), .int (iN ((now : Nat) : Int)), .ref (gad G 2), .ref (gad G 5), .int (iN ((q + 1 : Nat) : Int)), .ref (gad G 6), .ref (gad G 10), .ref (gad G 14), .ref (gad G 15), .ref (gad G 18)]) := by rw [hw_21]; exact va_up_self _ _ _
          have e_25 : w_20 5 = .inl (gI G, 92, .inl (aN (va_up bs2 q (nbS (cst, cpl, csp, cnp, cstop) (bs2 (q - 1)) came la)))) := (fr_22 5 (by omega)).trans e_19
          refine lv_goto (tgt := 12) hx hb dX8_gatherBends_74 (by decide) ?_
          exact ih12 (q + 1) (va_up bs2 q (nbS (cst, cpl, csp, cnp, cstop) (bs2 (q - 1)) came la)) w_20 _ _ _ (by omega) (isB_in i12_1 (by omega)) (fun k hk => by rcases Nat.lt_or_ge (k + 1) q with z | z; exact i12_2 k z; rw [show k = q - 1 by omega, ← i12_1 (q - 1) (by omega)]; omega) (by omega) (e_24) (e_25) (fun k h0 h1 => ((((fr_22 k (by omega)).trans (fr_16 k (by omega)))).trans (hfr12 k (by omega) (by omega)))) hP hS (lv_sub hl [0, 1] rfl)
  exact K12 ((93 - 1) + 1) (1) (va_up bs 0 0) w_7 _ _ _ (by omega) (fun k hk => by rw [show k = 0 by omega, va_up_self]; rfl) (fun k hk => absurd hk (by omega)) (by omega) (e_11) (e_12) (fun k h0 h1 => ((fr_9 k (by omega)).trans (fr_3 k (by omega)))) hP hS (lv_sub hl [0, 1] rfl)

theorem thB_if (cst cpl csp : Nat → Nat → Int) (cnp : Nat → Nat) (cstop : Nat → Int) (t : Int) {q : Nat} : (if cst q 0 * 1 ≤ t ∧ (cstop q = -1 ∨ t < cstop q * 1) then (1 : Int) else 0) = (if thB (cst, cpl, csp, cnp, cstop) t q = true then 1 else 0) := by
  by_cases h : cst q 0 * 1 ≤ t ∧ (cstop q = -1 ∨ t < cstop q * 1)
  · rw [if_pos h, if_pos (show thB (cst, cpl, csp, cnp, cstop) t q = true from decide_eq_true h)]
  · rw [if_neg h, if_neg (fun z : thB (cst, cpl, csp, cnp, cstop) t q = true => h (of_decide_eq_true z))]

set_option maxHeartbeats 4000000 in
set_option maxRecDepth 100000 in
theorem c_X8_look (l : Launch) (G : GE) (w : WF) (came : Nat) (now : Nat) (bc : Nat) (sz0 : Nat) (th : Nat → Int) (ps : Nat → Int) (vs : Nat → Int) (t : Int) (cst : Nat → Nat → Int) (cpl : Nat → Nat → Int) (csp : Nat → Nat → Int) (cnp : Nat → Nat) (cstop : Nat → Int) (e0 : w 0 = .inr (7, [.ref (gad G 1), .int (iN ((came : Nat) : Int)), .int (iN ((now : Nat) : Int)), .ref (gad G 2), .ref (gad G 5), .int (iN ((bc : Nat) : Int)), .ref (gad G 6), .ref (gad G 10), .ref (gad G 14), .ref (gad G 15), .ref (gad G 18)])) (e1 : w 6 = .inr (4, [.ref (gad G 7), .ref (gad G 8), .ref (gad G 9), .int (iN ((sz0 : Nat) : Int))])) (e2 : w 7 = .inl (gZ G, 10, .inl (aN th))) (e3 : w 8 = .inl (gI G, 10, .inl (aN ps))) (e4 : w 9 = .inl (gI G, 10, .inl (aN vs))) (hC : FAM G w cst cpl csp cnp cstop) (p0 : OKS came cst cpl csp cnp cstop) (p1 : 0 ≤ t ∧ t ≤ 120000) : Met l yX8_look wsX8_look ({ frames := 4, cells := 0, slots := 0, locals := 90 }) (PcG G w [.ref (gad G 0), .int (iN t)]) (QV G (fun w1 => ∃ (th2 : Nat → Int) (ps2 : Nat → Int) (vs2 : Nat → Int), (∀ k : Nat, k ≠ 6 → k ≠ 7 → k ≠ 8 → k ≠ 9 → w1 k = w k) ∧ w1 6 = .inr (4, [.ref (gad G 7), .ref (gad G 8), .ref (gad G 9), .int (iN ((came : Nat) : Int))]) ∧ w1 7 = .inl (gZ G, 10, .inl (aN th2)) ∧ w1 8 = .inl (gI G, 10, .inl (aN ps2)) ∧ w1 9 = .inl (gI G, 10, .inl (aN vs2)) ∧ (isSc (cst, cpl, csp, cnp, cstop) t came th2 ps2 vs2))) 0 0 (AA G) := by
  refine Met.ofW (cc := cX8_look) (maxL := 3) (ret := none) (by decide) rfl ?_
  intro p e s m args below meth c s₁ B hml hv
  obtain ⟨rfl, hP, hK⟩ := hv
  have hx := B.exec
  have hb := B.bytes
  have hr := B.returns
  have hts := atoms_spec (ws := wsX8_look) B.pre
  have hown : s.vm.findClass RX8 = some m.cls := findClass_of_methodNamed B.named
  have hlocks := B.notSynchronized
  have hS : va_S (AA G) s.heap s.heap [] := va_S.rf
  have hAA : ∀ q, AA G q → AA G q := fun _ h => h
  have hl := lv_entry ([.ref (gad G 0), .int (iN t)]) (n := 3) (Nat.le_of_ble_eq_true rfl)
  rw [lg_entry_eq]
  generalize (lg_sl ([.ref (gad G 0), .int (iN t)]) ++ List.replicate (3 - (lg_sl ([.ref (gad G 0), .int (iN t)])).length) Slot.unset).toArray = ls at hl ⊢
  have hl : lv_has ls 3 [(0, .ref (gad G 0)), (1, .int (iN t))] := hl
  have hc10 : came ≤ 10 := p0.1
  refine lv_aload_n hx hb dX8_look_0 rfl (lv_at hl 0 rfl) ?_
  refine f_get (C := RX8) (T := TX8) (N := 11) hx hb hts (by decide +kernel) hown hK hP 0 (by omega) e0 rfl 6 (by decide) (hts (.fieldLink RX8 30 "KeptMoving" "scene" "LKeptMoving$Scene;") (by decide +kernel)) (fun _ h9 => h9) rfl dX8_look_1 ?_
  refine f_callv (va_Run.run (va_runVN (As := []) (rest := []) ⟨hx, hb, hml, hown, hts⟩ (c_X5_clear l G w sz0 th ps vs e1 e2 e3 e4) ⟨va_cnB 0 hts gX8_look_X5_clear_n234 rfl rfl rfl (hK.nm 21 rfl) (hts (.initialized RX5) (by decide +kernel)) (by decide +kernel) ⟨Nat.le_of_ble_eq_true rfl, Nat.le_of_ble_eq_true rfl⟩, hts (.instanceMethod yX5_clear) (by decide +kernel), hts (.selects RX5 yX5_clear yX5_clear) (by decide +kernel)⟩ (f_preV hP hK 6 (by omega) 4 e1 rfl) rfl rfl hl.1 rfl (lv_room (Nat.le_of_ble_eq_true rfl)) dX8_look_4 ⟨Nat.zero_le _, Nat.zero_le _⟩)) hS hAA (fun w_1 H locs q_2 hP hS => ?_)
  obtain ⟨fr_3, e_4⟩ := q_2
  have e_5 : w_1 0 = .inr (7, [.ref (gad G 1), .int (iN ((came : Nat) : Int)), .int (iN ((now : Nat) : Int)), .ref (gad G 2), .ref (gad G 5), .int (iN ((bc : Nat) : Int)), .ref (gad G 6), .ref (gad G 10), .ref (gad G 14), .ref (gad G 15), .ref (gad G 18)]) := (fr_3 0 (by omega)).trans e0
  have e_6 : w_1 7 = .inl (gZ G, 10, .inl (aN th)) := (fr_3 7 (by omega)).trans e2
  have e_7 : w_1 8 = .inl (gI G, 10, .inl (aN ps)) := (fr_3 8 (by omega)).trans e3
  have e_8 : w_1 9 = .inl (gI G, 10, .inl (aN vs)) := (fr_3 9 (by omega)).trans e4
  have e_9 : w_1 6 = .inr (4, [.ref (gad G 7), .ref (gad G 8), .ref (gad G 9), .int (iN 0)]) := e_4
  have hC_10 : FAM G w_1 cst cpl csp cnp cstop := hC.keep (fun k h1 h2 => fr_3 k (by omega))
  refine n_iconst hx hb dX8_look_7 ?_
  refine lv_istore_n (lv' := [(2, .int (iN 0)), (0, .ref (gad G 0)), (1, .int (iN t))]) hx hb dX8_look_8 rfl hl (by decide) rfl (fun ls hl => ?_)
  have K9 : ∀ (N : Nat) (q : Nat) (th2 : Nat → Int) (ps2 : Nat → Int) (vs2 : Nat → Int) (w2 : WF) (H : Heap) (locs : List Loc) (ls : Array Slot), (q ≤ came) → (isSc (cst, cpl, csp, cnp, cstop) t q th2 ps2 vs2) → 11 - q < N → w2 6 = .inr (4, [.ref (gad G 7), .ref (gad G 8), .ref (gad G 9), .int (iN ((q : Nat) : Int))]) → w2 7 = .inl (gZ G, 10, .inl (aN th2)) → w2 8 = .inl (gI G, 10, .inl (aN ps2)) → w2 9 = .inl (gI G, 10, .inl (aN vs2)) → (∀ k : Nat, k ≠ 6 → k ≠ 7 → k ≠ 8 → k ≠ 9 → w2 k = w k) → PW G w2 H → va_S (AA G) s.heap H locs → lv_has ls 3 [(0, .ref (gad G 0)), (1, .int (iN t)), (2, .int (iN ((q : Nat) : Int)))] → W p l e (headSpec wsX8_look ({ frames := 4, cells := 0, slots := 0, locals := 90 })).room s m (([.ref (gad G 0), .int (iN t)] : List Value).toArray) below meth c H locs 0 0 (MQ below (QV G (fun w1 => ∃ (th2 : Nat → Int) (ps2 : Nat → Int) (vs2 : Nat → Int), (∀ k : Nat, k ≠ 6 → k ≠ 7 → k ≠ 8 → k ≠ 9 → w1 k = w k) ∧ w1 6 = .inr (4, [.ref (gad G 7), .ref (gad G 8), .ref (gad G 9), .int (iN ((came : Nat) : Int))]) ∧ w1 7 = .inl (gZ G, 10, .inl (aN th2)) ∧ w1 8 = .inl (gI G, 10, .inl (aN ps2)) ∧ w1 9 = .inl (gI G, 10, .inl (aN vs2)) ∧ (isSc (cst, cpl, csp, cnp, cstop) t came th2 ps2 vs2))) (([.ref (gad G 0), .int (iN t)] : List Value).toArray) s 0 0 (AA G)) (F0 m 9 ls []) := by
    intro N
    induction N with
    | zero =>
      intros
      exfalso
      omega
    | succ N ih9 =>
      intro q th2 ps2 vs2 w2 H locs ls i9_0 i9_1 hN9 f9_0 f9_1 f9_2 f9_3 hfr9 hP hS hl
      have e_11 : w2 0 = .inr (7, [.ref (gad G 1), .int (iN ((came : Nat) : Int)), .int (iN ((now : Nat) : Int)), .ref (gad G 2), .ref (gad G 5), .int (iN ((bc : Nat) : Int)), .ref (gad G 6), .ref (gad G 10), .ref (gad G 14), .ref (gad G 15), .ref (gad G 18)]) := by rw [hfr9 0 (by omega) (by omega) (by omega) (by omega)]; exact e0
      have hC9 : FAM G w2 cst cpl csp cnp cstop := hC.keep (fun k h1 h2 => hfr9 k (by omega) (by omega) (by omega) (by omega))
      refine lv_iload_n hx hb dX8_look_9 rfl (lv_at hl 2 rfl) ?_
      refine lv_aload_n hx hb dX8_look_10 rfl (lv_at hl 0 rfl) ?_
      refine f_get (C := RX8) (T := TX8) (N := 11) hx hb hts (by decide +kernel) hown hK hP 0 (by omega) e_11 rfl 1 (by decide) (hts (.fieldLink RX8 67 "KeptMoving" "came" "I") (by decide +kernel)) (fun _ h9 => h9) rfl dX8_look_11 ?_
      refine n_icmp_ge (tgt := 37) hx hb dX8_look_14 (by decide) (by omega) (by omega) (by omega) (by omega) (fun c_14 => ?_) (fun c_14 => ?_)
      · exact r_v hx hb hr dX8_look_37 hlocks hP hS (⟨th2, ps2, vs2, (fun k h0 h1 h2 h3 => hfr9 k (by omega) (by omega) (by omega) (by omega)), (by rw [show came = q by omega]; exact f9_0), f9_1, f9_2, f9_3, (by rw [show came = q by omega]; exact i9_1)⟩)
      · have hVi := p0.2 q (by omega)
        obtain ⟨hv1, hv2, hv3, hv4⟩ := id hVi
        refine lv_aload_n hx hb dX8_look_17 rfl (lv_at hl 0 rfl) ?_
        refine f_get (C := RX8) (T := TX8) (N := 11) hx hb hts (by decide +kernel) hown hK hP 0 (by omega) e_11 rfl 6 (by decide) (hts (.fieldLink RX8 30 "KeptMoving" "scene" "LKeptMoving$Scene;") (by decide +kernel)) (fun _ h9 => h9) rfl dX8_look_18 ?_
        refine lv_aload_n hx hb dX8_look_21 rfl (lv_at hl 0 rfl) ?_
        refine f_get (C := RX8) (T := TX8) (N := 11) hx hb hts (by decide +kernel) hown hK hP 0 (by omega) e_11 rfl 0 (by decide) (hts (.fieldLink RX8 11 "KeptMoving" "courses" "[LKeptMoving$Course;") (by decide +kernel)) (fun _ h9 => h9) rfl dX8_look_22 ?_
        refine lv_iload_n hx hb dX8_look_25 rfl (lv_at hl 2 rfl) ?_
        refine n_aldq hx hb hK hP q (rfl) (by omega) dX8_look_26 ?_
        refine lv_iload_n hx hb dX8_look_27 rfl (lv_at hl 1 rfl) ?_
        obtain ⟨x_12, x_13, x_14, x_15⟩ := hC9 q (by omega)
        refine f_callv (va_Run.run (va_runVN (As := [.ref (gad G (19 + 4 * q)), .int (iN t)]) (rest := []) ⟨hx, hb, hml, hown, hts⟩ (c_X5_add l G w2 q th2 ps2 vs2 q (cst q) (cpl q) (csp q) (cnp q) (cstop q) t f9_0 f9_1 f9_2 f9_3 x_12 x_13 x_14 x_15 (by omega) (hv1) (hv2) (hv3) (p1) (by omega)) ⟨va_cnB 2 hts gX8_look_X5_add_n235 rfl rfl rfl (hK.nm 22 rfl) (hts (.initialized RX5) (by decide +kernel)) (by decide +kernel) ⟨Nat.le_of_ble_eq_true rfl, Nat.le_of_ble_eq_true rfl⟩, hts (.instanceMethod yX5_add) (by decide +kernel), hts (.selects RX5 yX5_add yX5_add) (by decide +kernel)⟩ (f_preV hP hK 6 (by omega) 4 f9_0 rfl) rfl rfl hl.1 rfl (lv_room (Nat.le_of_ble_eq_true rfl)) dX8_look_28 ⟨Nat.zero_le _, Nat.zero_le _⟩)) hS hAA (fun w_16 H locs q_17 hP hS => ?_)
        obtain ⟨fr_18, e_19, e_20, e_21, e_22⟩ := q_17
        have e_23 : w_16 0 = .inr (7, [.ref (gad G 1), .int (iN ((came : Nat) : Int)), .int (iN ((now : Nat) : Int)), .ref (gad G 2), .ref (gad G 5), .int (iN ((bc : Nat) : Int)), .ref (gad G 6), .ref (gad G 10), .ref (gad G 14), .ref (gad G 15), .ref (gad G 18)]) := (fr_18 0 (by omega) (by omega) (by omega) (by omega)).trans e_11
        have e_24 : w_16 6 = .inr (4, [.ref (gad G 7), .ref (gad G 8), .ref (gad G 9), .int (iN ((q + 1 : Nat) : Int))]) := e_19
        have e_25 : w_16 7 = .inl (gZ G, 10, .inl (aN (va_up th2 q (if ((cst q) 0 * 1 ≤ t ∧ ((cstop q) = -1 ∨ t < (cstop q) * 1)) then 1 else 0)))) := e_20
        have e_26 : w_16 8 = .inl (gI G, 10, .inl (aN (va_up ps2 q (upAt (cst q) (cpl q) (csp q) (cnp q) t 1)))) := e_21
        have e_27 : w_16 9 = .inl (gI G, 10, .inl (aN (va_up vs2 q (spAt (cst q) (csp q) (cnp q) t)))) := e_22
        have hC_28 : FAM G w_16 cst cpl csp cnp cstop := hC9.keep (fun k h1 h2 => fr_18 k (by omega) (by omega) (by omega) (by omega))
        refine lv_iinc (v := iN ((q + 1 : Nat) : Int)) (lv' := [(2, .int (iN ((q + 1 : Nat) : Int))), (0, .ref (gad G 0)), (1, .int (iN t))]) hx hb dX8_look_31 hl (k := 2) rfl (iN_incN _) (by decide) rfl (fun ls hl => ?_)
        refine lv_goto (tgt := 9) hx hb dX8_look_34 (by decide) ?_
        exact ih9 (q + 1) (va_up th2 q (if ((cst q) 0 * 1 ≤ t ∧ ((cstop q) = -1 ∨ t < (cstop q) * 1)) then 1 else 0)) (va_up ps2 q (upAt (cst q) (cpl q) (csp q) (cnp q) t 1)) (va_up vs2 q (spAt (cst q) (csp q) (cnp q) t)) w_16 _ _ _ (by omega) (isSc_in i9_1 (thB_if _ _ _ _ _ _) rfl rfl) (by omega) (e_24) (e_25) (e_26) (e_27) (fun k h0 h1 h2 h3 => ((fr_18 k (by omega) (by omega) (by omega) (by omega)).trans (hfr9 k (by omega) (by omega) (by omega) (by omega)))) hP hS (lv_sub hl [1, 2, 0] rfl)
  exact K9 ((11 - 0) + 1) (0) (th) (ps) (vs) w_1 _ _ _ (by omega) (fun j hj => absurd hj (Nat.not_lt_zero j)) (by omega) (e_9) (e_6) (e_7) (e_8) (fun k h0 h1 h2 h3 => fr_3 k (by omega)) hP hS (lv_sub hl [1, 2, 0] rfl)
