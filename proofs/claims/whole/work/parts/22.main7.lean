/-- a stretch: begin, end, whether it is nothing -/
abbrev ST : Type := Int × Int × Int
def kaL (f va gr bd : Int) : Int := frac (f * gr + (bd - va)) gr
def kaA (f va gr bd : Int) : Int := frac (f * -gr + (va - bd)) (-gr)
def ka (f va gr bd : Int) (q : ST) : ST :=
  (if gr < 0 ∧ q.1 / 256 * (frac (f * -gr + (va - bd)) (-gr) % 256) < frac (f * -gr + (va - bd)) (-gr) / 256 * (q.1 % 256) then frac (f * -gr + (va - bd)) (-gr) else q.1,
   if 0 < gr ∧ frac (f * gr + (bd - va)) gr / 256 * (q.2.1 % 256) < q.2.1 / 256 * (frac (f * gr + (bd - va)) gr % 256) then frac (f * gr + (bd - va)) gr else q.2.1,
   if gr = 0 ∧ bd < va then 1 else q.2.2)
def okQ (q : ST) : Prop := (-30000000000 ≤ q.1 ∧ q.1 ≤ 30000000000) ∧ (-30000000000 ≤ q.2.1 ∧ q.2.1 ≤ 30000000000) ∧ (q.2.2 = 0 ∨ q.2.2 = 1)
theorem ka_ok {f va gr bd : Int} {q : ST} (h : okQ q) (hf : 0 ≤ f ∧ f ≤ 600) (hv : -200000 ≤ va ∧ va ≤ 200000) (hb : -200000 ≤ bd ∧ bd ≤ 200000) (hg : -200 ≤ gr ∧ gr ≤ 200) : okQ (ka f va gr bd q) := by
  have hm := mb3 (a := f) (b := gr) (A := 600) (B := 200) (by omega) (by omega)
  have hm2 := mb3 (a := f) (b := -gr) (A := 600) (B := 200) (by omega) (by omega)
  obtain ⟨h1, h2, h3⟩ := h
  have f1 : gr < 0 → -30000000000 ≤ frac (f * -gr + (va - bd)) (-gr) ∧ frac (f * -gr + (va - bd)) (-gr) ≤ 30000000000 := fun z => frac_rng (by omega) (by omega)
  have f2 : 0 < gr → -30000000000 ≤ frac (f * gr + (bd - va)) gr ∧ frac (f * gr + (bd - va)) gr ≤ 30000000000 := fun z => frac_rng (by omega) (by omega)
  refine ⟨?_, ?_, ?_⟩
  · unfold ka
    dsimp only
    split
    · rename_i z
      exact f1 z.1
    · exact h1
  · unfold ka
    dsimp only
    split
    · rename_i z
      exact f2 z.1
    · exact h2
  · unfold ka
    dsimp only
    split
    · exact Or.inr rfl
    · exact h3
theorem ka_p1 {f va gr bd : Int} (hf : 0 ≤ f ∧ f ≤ 600) (hv : -200000 ≤ va ∧ va ≤ 200000) (hb : -200000 ≤ bd ∧ bd ≤ 200000) (hg : -200 ≤ gr ∧ gr ≤ 200) : 0 < gr → -100000000 ≤ f * gr + (bd - va) ∧ f * gr + (bd - va) ≤ 100000000 := fun _ => by
  have hm := mb3 (a := f) (b := gr) (A := 600) (B := 200) (by omega) (by omega)
  omega
theorem ka_p2 {f va gr bd : Int} (hf : 0 ≤ f ∧ f ≤ 600) (hv : -200000 ≤ va ∧ va ≤ 200000) (hb : -200000 ≤ bd ∧ bd ≤ 200000) (hg : -200 ≤ gr ∧ gr ≤ 200) : gr < 0 → -100000000 ≤ f * -gr + (va - bd) ∧ f * -gr + (va - bd) ≤ 100000000 := fun _ => by
  have hm2 := mb3 (a := f) (b := -gr) (A := 600) (B := 200) (by omega) (by omega)
  omega
def nrS (S : FS) (t : Int) (i j : Nat) (wd : Int) (q : ST) : ST := if thB S t i = true ∧ thB S t j = true then ka t (poS S t i - poS S t j) (spS S t i - spS S t j) wd (ka t (poS S t j - poS S t i) (spS S t j - spS S t i) wd q) else (q.1, q.2.1, 1)
def frI (S : FS) (t : Int) (i : Nat) : Nat → ST → ST
  | 0, q => q
  | j + 1, q => if thB S t j = true then ka t (poS S t j - poS S t i) (spS S t j - spS S t i) 0 (frI S t i j q) else frI S t i j q
def frS (S : FS) (t : Int) (i came : Nat) (q : ST) : ST := if thB S t i = true then frI S t i came q else (q.1, q.2.1, 1)
def soB (f un : Int) (q : ST) : Bool := decide (q.2.2 = 0 ∧ ¬ (q.1 = un ∧ f ≠ un / 256) ∧ q.1 / 256 * (q.2.1 % 256) ≤ q.2.1 / 256 * (q.1 % 256))
/-- spans: one more; those that touch are one -/
def addP (x : Int × Int) (L : List (Int × Int)) : List (Int × Int) := match L.getLast? with
  | some z => if x.1 / 256 * (z.2 % 256) ≤ z.2 / 256 * (x.1 % 256) then L.dropLast ++ [(z.1, x.2)] else L ++ [x]
  | none => [x]
def okP (x : Int × Int) : Prop := (-30000000000 ≤ x.1 ∧ x.1 ≤ 30000000000) ∧ (-30000000000 ≤ x.2 ∧ x.2 ≤ 30000000000)
def isP (L : List (Int × Int)) (so : Int) (sz : Nat) (le fb fe : Int) : Prop := sz = L.length ∧ (∀ z, L.getLast? = some z → le = z.2) ∧ (∀ (k : Nat) (z : Int × Int), so = (k : Int) → L[k]? = some z → fb = z.1 ∧ fe = z.2) ∧ (-30000000000 ≤ le ∧ le ≤ 30000000000) ∧ (-30000000000 ≤ fb ∧ fb ≤ 30000000000) ∧ (-30000000000 ≤ fe ∧ fe ≤ 30000000000)
theorem addP_len (x : Int × Int) (L : List (Int × Int)) : (addP x L).length ≤ L.length + 1 := by
  unfold addP
  split
  · rename_i z hz
    split
    · rw [List.length_append, List.length_dropLast]
      show L.length - 1 + 1 ≤ _
      omega
    · rw [List.length_append]
      exact Nat.le_refl _
  · exact Nat.le_add_left _ _
theorem isP_add {L : List (Int × Int)} {so : Int} {sz : Nat} {le fb fe : Int} (h : isP L so sz le fb fe) (x : Int × Int) (hx : okP x) :
    isP (addP x L) so (if 0 < sz ∧ x.1 / 256 * (le % 256) ≤ le / 256 * (x.1 % 256) then sz else sz + 1) x.2 (if ¬ (0 < sz ∧ x.1 / 256 * (le % 256) ≤ le / 256 * (x.1 % 256)) ∧ (sz : Int) = so then x.1 else fb) (if (if 0 < sz ∧ x.1 / 256 * (le % 256) ≤ le / 256 * (x.1 % 256) then (sz : Int) - 1 else (sz : Int)) = so then x.2 else fe) := by
  obtain ⟨rfl, h2, h3, h4, h5, h6⟩ := h
  have r1 : ∀ c : Prop, ∀ _ : Decidable c, -30000000000 ≤ (if c then x.1 else fb) ∧ (if c then x.1 else fb) ≤ 30000000000 := fun c _ => by
    split
    · exact hx.1
    · exact h5
  have r2 : ∀ c : Prop, ∀ _ : Decidable c, -30000000000 ≤ (if c then x.2 else fe) ∧ (if c then x.2 else fe) ≤ 30000000000 := fun c _ => by
    split
    · exact hx.2
    · exact h6
  rcases List.eq_nil_or_concat L with hL | ⟨L0, z, hL⟩
  · subst hL
    have hc : ¬ (0 < ([] : List (Int × Int)).length ∧ x.1 / 256 * (le % 256) ≤ le / 256 * (x.1 % 256)) := fun q => absurd q.1 (Nat.lt_irrefl 0)
    refine ⟨?_, ?_, ?_, hx.2, r1 _ _, r2 _ _⟩
    · rw [if_neg hc]
      rfl
    · intro z hz
      cases hz
      rfl
    · intro k z hk hz
      rw [if_neg hc]
      cases k with
      | zero =>
        cases hz
        rw [if_pos ⟨hc, hk.symm⟩]
        exact ⟨rfl, if_pos (show ((([] : List (Int × Int)).length : Nat) : Int) = so from hk.symm)⟩
      | succ k => simp [addP] at hz
  · rw [List.concat_eq_append] at hL
    subst hL
    have hle : le = z.2 := h2 z (by rw [List.getLast?_append]; rfl)
    have hlen : (L0 ++ [z]).length = L0.length + 1 := by rw [List.length_append]; rfl
    have hadd : addP x (L0 ++ [z]) = if x.1 / 256 * (z.2 % 256) ≤ z.2 / 256 * (x.1 % 256) then L0 ++ [(z.1, x.2)] else L0 ++ [z] ++ [x] := by
      unfold addP
      rw [List.getLast?_append]
      show (if _ then _ else _) = _
      rw [List.dropLast_concat]
      rfl
    rw [hadd, hlen]
    by_cases hc : x.1 / 256 * (z.2 % 256) ≤ z.2 / 256 * (x.1 % 256)
    · have hc2 : 0 < L0.length + 1 ∧ x.1 / 256 * (le % 256) ≤ le / 256 * (x.1 % 256) := ⟨Nat.succ_pos _, by rw [hle]; exact hc⟩
      rw [if_pos hc]
      refine ⟨?_, ?_, ?_, hx.2, r1 _ _, r2 _ _⟩
      · rw [if_pos hc2, List.length_append]
        rfl
      · intro y hy
        rw [List.getLast?_append] at hy
        cases hy
        rfl
      · intro k y hk hy
        rw [if_neg (fun q => q.1 hc2), if_pos hc2]
        rcases Nat.lt_or_ge k L0.length with g | g
        · rw [List.getElem?_append_left g] at hy
          have := h3 k y hk (by rw [List.getElem?_append_left g]; exact hy)
          rw [if_neg (by omega)]
          exact this
        · rw [List.getElem?_append_right g] at hy
          have hk0 : k - L0.length = 0 := by
            have := (List.getElem?_eq_some_iff.mp hy).1
            simp at this
            omega
          rw [hk0] at hy
          cases hy
          have := h3 k z hk (by rw [List.getElem?_append_right g, hk0]; rfl)
          rw [if_pos (by omega)]
          exact ⟨this.1, rfl⟩
    · have hc2 : ¬ (0 < L0.length + 1 ∧ x.1 / 256 * (le % 256) ≤ le / 256 * (x.1 % 256)) := fun q => hc (by have := q.2; rw [hle] at this; exact this)
      rw [if_neg hc]
      refine ⟨?_, ?_, ?_, hx.2, r1 _ _, r2 _ _⟩
      · rw [if_neg hc2, List.length_append, hlen]
        rfl
      · intro y hy
        rw [List.getLast?_append] at hy
        cases hy
        rfl
      · intro k y hk hy
        rw [if_neg hc2]
        rcases Nat.lt_or_ge k (L0.length + 1) with g | g
        · rw [List.getElem?_append_left (by omega)] at hy
          have := h3 k y hk hy
          rw [if_neg (fun q => by have := q.2; omega), if_neg (by omega)]
          exact this
        · rw [List.getElem?_append_right (by omega)] at hy
          have hk0 : k - (L0 ++ [z]).length = 0 := by
            have := (List.getElem?_eq_some_iff.mp hy).1
            simp at this
            omega
          rw [hk0] at hy
          cases hy
          rw [if_pos ⟨hc2, by omega⟩, if_pos (by omega)]
          exact ⟨rfl, rfl⟩
def lkq (L : List (Int × Int)) (k : Int) : Option (Int × Int) := if 0 ≤ k then L[k.toNat]? else none
def spT (L : List (Int × Int)) (k wh : Int) : Int := if k = -1 then (L.length : Int) else match lkq L k with
  | none => -1
  | some z => if wh = 0 then z.1 / 256 else if wh = 1 then z.1 % 256 else if wh = 2 then z.2 / 256 else z.2 % 256
theorem isP_tell {L : List (Int × Int)} {so : Int} {sz : Nat} {le fb fe : Int} (h : isP L so sz le fb fe) (wh : Int) : (if so = -1 then (sz : Int) else if so < 0 ∨ (sz : Int) ≤ so then -1 else if wh = 0 then fb / 256 else if wh = 1 then fb % 256 else if wh = 2 then fe / 256 else fe % 256) = spT L so wh := by
  obtain ⟨rfl, -, h3, -⟩ := h
  unfold spT lkq
  by_cases h1 : so = -1
  · rw [if_pos h1, if_pos h1]
  · rw [if_neg h1, if_neg h1]
    by_cases h2 : so < 0 ∨ (L.length : Int) ≤ so
    · rw [if_pos h2]
      by_cases h4 : 0 ≤ so
      · rw [if_pos h4, List.getElem?_eq_none (by omega)]
      · rw [if_neg h4]
    · rw [if_neg h2, if_pos (show 0 ≤ so by omega), List.getElem?_eq_getElem (show so.toNat < L.length by omega)]
      obtain ⟨a, b⟩ := h3 so.toNat _ (by omega) (List.getElem?_eq_getElem (by omega))
      rw [a, b]
/-- the spans of a thing that is easy on each stretch -/
def nxB (S : FS) (came : Nat) (la : Int) (b : Nat) : Int := if b + 1 < bcF S came la then bndF S came la (b + 1) else bndF S came la b
def spL (S : FS) (came : Nat) (la : Int) (qf : Int → ST → ST) : Nat → List (Int × Int)
  | 0 => []
  | b + 1 => if soB (bndF S came la b) (nxB S came la b * 256 + 1) (qf (bndF S came la b) (bndF S came la b * 256 + 1, nxB S came la b * 256 + 1, 0)) = true then addP ((qf (bndF S came la b) (bndF S came la b * 256 + 1, nxB S came la b * 256 + 1, 0)).1, (qf (bndF S came la b) (bndF S came la b * 256 + 1, nxB S came la b * 256 + 1, 0)).2.1) (spL S came la qf b) else spL S came la qf b
theorem spL_len (S : FS) (came : Nat) (la : Int) (qf : Int → ST → ST) : ∀ b, (spL S came la qf b).length ≤ b
  | 0 => Nat.le_refl 0
  | b + 1 => by
    have ih := spL_len S came la qf b
    unfold spL
    split
    · have := addP_len ((qf (bndF S came la b) (bndF S came la b * 256 + 1, nxB S came la b * 256 + 1, 0)).1, (qf (bndF S came la b) (bndF S came la b * 256 + 1, nxB S came la b * 256 + 1, 0)).2.1) (spL S came la qf b)
      omega
    · omega

set_option maxHeartbeats 4000000 in
set_option maxRecDepth 100000 in
theorem c_X8_openStretch (l : Launch) (G : GE) (w : WF) (came : Nat) (now : Nat) (bc : Nat) (bs : Nat → Int) (sz0 : Nat) (th : Nat → Int) (ps : Nat → Int) (vs : Nat → Int) (f0 : Int) (un0 : Int) (q0 : ST) (b : Nat) (cst : Nat → Nat → Int) (cpl : Nat → Nat → Int) (csp : Nat → Nat → Int) (cnp : Nat → Nat) (cstop : Nat → Int) (e0 : w 0 = .inr (7, [.ref (gad G 1), .int (iN ((came : Nat) : Int)), .int (iN ((now : Nat) : Int)), .ref (gad G 2), .ref (gad G 5), .int (iN ((bc : Nat) : Int)), .ref (gad G 6), .ref (gad G 10), .ref (gad G 14), .ref (gad G 15), .ref (gad G 18)])) (e1 : w 5 = .inl (gI G, 92, .inl (aN bs))) (e2 : w 6 = .inr (4, [.ref (gad G 7), .ref (gad G 8), .ref (gad G 9), .int (iN ((sz0 : Nat) : Int))])) (e3 : w 7 = .inl (gZ G, 10, .inl (aN th))) (e4 : w 8 = .inl (gI G, 10, .inl (aN ps))) (e5 : w 9 = .inl (gI G, 10, .inl (aN vs))) (e6 : w 14 = .inr (6, [.int (iN f0), .long (jN un0), .long (jN q0.1), .long (jN q0.2.1), .int (iN q0.2.2)])) (hC : FAM G w cst cpl csp cnp cstop) (p0 : OKS came cst cpl csp cnp cstop) (p1 : b < bc ∧ bc ≤ 92) (p2 : ∀ k : Nat, k < bc → 0 ≤ bs k ∧ bs k ≤ 600) : Met l yX8_openStretch wsX8_openStretch ({ frames := 5, cells := 0, slots := 0, locals := 112 }) (PcG G w [.ref (gad G 0), .int (iN ((b : Nat) : Int))]) (QV G (fun w1 => ∃ (th2 : Nat → Int) (ps2 : Nat → Int) (vs2 : Nat → Int), (∀ k : Nat, k ≠ 6 → k ≠ 7 → k ≠ 8 → k ≠ 9 → k ≠ 14 → w1 k = w k) ∧ w1 6 = .inr (4, [.ref (gad G 7), .ref (gad G 8), .ref (gad G 9), .int (iN ((came : Nat) : Int))]) ∧ w1 7 = .inl (gZ G, 10, .inl (aN th2)) ∧ w1 8 = .inl (gI G, 10, .inl (aN ps2)) ∧ w1 9 = .inl (gI G, 10, .inl (aN vs2)) ∧ w1 14 = .inr (6, [.int (iN (bs b)), .long (jN ((if b + 1 < bc then bs (b + 1) else bs b) * 256 + 1)), .long (jN (bs b * 256 + 1)), .long (jN ((if b + 1 < bc then bs (b + 1) else bs b) * 256 + 1)), .int (iN 0)]) ∧ (isSc (cst, cpl, csp, cnp, cstop) (bs b) came th2 ps2 vs2))) 0 0 (AA G) := by
  refine Met.ofW (cc := cX8_openStretch) (maxL := 2) (ret := none) (by decide) rfl ?_
  intro p e s m args below meth c s₁ B hml hv
  obtain ⟨rfl, hP, hK⟩ := hv
  have hx := B.exec
  have hb := B.bytes
  have hr := B.returns
  have hts := atoms_spec (ws := wsX8_openStretch) B.pre
  have hown : s.vm.findClass RX8 = some m.cls := findClass_of_methodNamed B.named
  have hlocks := B.notSynchronized
  have hS : va_S (AA G) s.heap s.heap [] := va_S.rf
  have hAA : ∀ q, AA G q → AA G q := fun _ h => h
  have hl := lv_entry ([.ref (gad G 0), .int (iN ((b : Nat) : Int))]) (n := 2) (Nat.le_of_ble_eq_true rfl)
  rw [lg_entry_eq]
  generalize (lg_sl ([.ref (gad G 0), .int (iN ((b : Nat) : Int))]) ++ List.replicate (2 - (lg_sl ([.ref (gad G 0), .int (iN ((b : Nat) : Int))])).length) Slot.unset).toArray = ls at hl ⊢
  have hl : lv_has ls 2 [(0, .ref (gad G 0)), (1, .int (iN ((b : Nat) : Int)))] := hl
  have hc10 : came ≤ 10 := p0.1
  have hb1 := p2 b (by omega)
  refine lv_aload_n hx hb dX8_openStretch_0 rfl (lv_at hl 0 rfl) ?_
  refine lv_aload_n hx hb dX8_openStretch_1 rfl (lv_at hl 0 rfl) ?_
  refine f_get (C := RX8) (T := TX8) (N := 11) hx hb hts (by decide +kernel) hown hK hP 0 (by omega) e0 rfl 4 (by decide) (hts (.fieldLink RX8 23 "KeptMoving" "bends" "[I") (by decide +kernel)) (fun _ h9 => h9) rfl dX8_openStretch_2 ?_
  refine lv_iload_n hx hb dX8_openStretch_5 rfl (lv_at hl 1 rfl) ?_
  refine n_iald hx hb hK hP 5 (by omega) e1 b rfl (by omega) (by decide) dX8_openStretch_6 ?_
  refine f_callv (W.runV (As := [.int (iN (bs b))]) (rest := []) ⟨hx, hb, hml, hown, hts⟩ (c_X8_look l G w came now bc sz0 th ps vs (bs b) cst cpl csp cnp cstop e0 e2 e3 e4 e5 hC (p0) (by omega)) (cwV 1 hts gX8_openStretch_X8_look rfl rfl rfl (by decide +kernel) ⟨Nat.le_of_ble_eq_true rfl, Nat.le_of_ble_eq_true rfl⟩) (f_preV hP hK 0 (by omega) 7 e0 rfl) rfl rfl hl.1 rfl (lv_room (Nat.le_of_ble_eq_true rfl)) dX8_openStretch_7 ⟨Nat.zero_le _, Nat.zero_le _⟩) hS hAA (fun w_1 H locs q_2 hP hS => ?_)
  obtain ⟨th2_3, ps2_4, vs2_5, fr_6, e_7, e_8, e_9, e_10, q_11⟩ := q_2
  have e_12 : w_1 0 = .inr (7, [.ref (gad G 1), .int (iN ((came : Nat) : Int)), .int (iN ((now : Nat) : Int)), .ref (gad G 2), .ref (gad G 5), .int (iN ((bc : Nat) : Int)), .ref (gad G 6), .ref (gad G 10), .ref (gad G 14), .ref (gad G 15), .ref (gad G 18)]) := (fr_6 0 (by omega) (by omega) (by omega) (by omega)).trans e0
  have e_13 : w_1 5 = .inl (gI G, 92, .inl (aN bs)) := (fr_6 5 (by omega) (by omega) (by omega) (by omega)).trans e1
  have e_14 : w_1 14 = .inr (6, [.int (iN f0), .long (jN un0), .long (jN q0.1), .long (jN q0.2.1), .int (iN q0.2.2)]) := (fr_6 14 (by omega) (by omega) (by omega) (by omega)).trans e6
  have e_15 : w_1 6 = .inr (4, [.ref (gad G 7), .ref (gad G 8), .ref (gad G 9), .int (iN ((came : Nat) : Int))]) := e_7
  have e_16 : w_1 7 = .inl (gZ G, 10, .inl (aN th2_3)) := e_8
  have e_17 : w_1 8 = .inl (gI G, 10, .inl (aN ps2_4)) := e_9
  have e_18 : w_1 9 = .inl (gI G, 10, .inl (aN vs2_5)) := e_10
  have hC_19 : FAM G w_1 cst cpl csp cnp cstop := hC.keep (fun k h1 h2 => fr_6 k (by omega) (by omega) (by omega) (by omega))
  refine lv_aload_n hx hb dX8_openStretch_10 rfl (lv_at hl 0 rfl) ?_
  refine f_get (C := RX8) (T := TX8) (N := 11) hx hb hts (by decide +kernel) hown hK hP 0 (by omega) e_12 rfl 8 (by decide) (hts (.fieldLink RX8 44 "KeptMoving" "stretch" "LKeptMoving$Stretch;") (by decide +kernel)) (fun _ h9 => h9) rfl dX8_openStretch_11 ?_
  refine lv_aload_n hx hb dX8_openStretch_14 rfl (lv_at hl 0 rfl) ?_
  refine f_get (C := RX8) (T := TX8) (N := 11) hx hb hts (by decide +kernel) hown hK hP 0 (by omega) e_12 rfl 4 (by decide) (hts (.fieldLink RX8 23 "KeptMoving" "bends" "[I") (by decide +kernel)) (fun _ h9 => h9) rfl dX8_openStretch_15 ?_
  refine lv_iload_n hx hb dX8_openStretch_18 rfl (lv_at hl 1 rfl) ?_
  refine n_iald hx hb hK hP 5 (by omega) e_13 b rfl (by omega) (by decide) dX8_openStretch_19 ?_
  refine lv_iload_n hx hb dX8_openStretch_20 rfl (lv_at hl 1 rfl) ?_
  refine n_iconst hx hb dX8_openStretch_21 ?_
  refine n_iadd hx hb dX8_openStretch_22 ?_
  refine n_top (A := ((b : Nat) : Int) + 1) (B := ((b + 1 : Nat) : Int)) (by omega) ?_
  refine lv_aload_n hx hb dX8_openStretch_23 rfl (lv_at hl 0 rfl) ?_
  refine f_get (C := RX8) (T := TX8) (N := 11) hx hb hts (by decide +kernel) hown hK hP 0 (by omega) e_12 rfl 5 (by decide) (hts (.fieldLink RX8 189 "KeptMoving" "bendCount" "I") (by decide +kernel)) (fun _ h9 => h9) rfl dX8_openStretch_24 ?_
  refine n_icmp_ge (tgt := 41) hx hb dX8_openStretch_27 (by decide) (by omega) (by omega) (by omega) (by omega) (fun c_27 => ?_) (fun c_27 => ?_)
  · refine lv_aload_n hx hb dX8_openStretch_41 rfl (lv_at hl 0 rfl) ?_
    refine f_get (C := RX8) (T := TX8) (N := 11) hx hb hts (by decide +kernel) hown hK hP 0 (by omega) e_12 rfl 4 (by decide) (hts (.fieldLink RX8 23 "KeptMoving" "bends" "[I") (by decide +kernel)) (fun _ h9 => h9) rfl dX8_openStretch_42 ?_
    refine lv_iload_n hx hb dX8_openStretch_45 rfl (lv_at hl 1 rfl) ?_
    refine n_iald hx hb hK hP 5 (by omega) e_13 b rfl (by omega) (by decide) dX8_openStretch_46 ?_
    refine f_callv (va_Run.run (va_runVN (As := [.int (iN (bs b)), .int (iN (bs b))]) (rest := []) ⟨hx, hb, hml, hown, hts⟩ (c_X7_open l G w_1 f0 un0 q0.1 q0.2.1 q0.2.2 (bs b) (bs b) e_14 (by omega) (by omega)) ⟨va_cnB 2 hts gX8_openStretch_X7_open_n280 rfl rfl rfl (hK.nm 45 rfl) (hts (.initialized RX7) (by decide +kernel)) (by decide +kernel) ⟨Nat.le_of_ble_eq_true rfl, Nat.le_of_ble_eq_true rfl⟩, hts (.instanceMethod yX7_open) (by decide +kernel), hts (.selects RX7 yX7_open yX7_open) (by decide +kernel)⟩ (f_preV hP hK 14 (by omega) 6 e_14 rfl) rfl rfl hl.1 rfl (lv_room (Nat.le_of_ble_eq_true rfl)) dX8_openStretch_47 ⟨Nat.zero_le _, Nat.zero_le _⟩)) hS hAA (fun w_20 H locs q_21 hP hS => ?_)
    obtain ⟨fr_22, e_23⟩ := q_21
    have e_24 : w_20 0 = .inr (7, [.ref (gad G 1), .int (iN ((came : Nat) : Int)), .int (iN ((now : Nat) : Int)), .ref (gad G 2), .ref (gad G 5), .int (iN ((bc : Nat) : Int)), .ref (gad G 6), .ref (gad G 10), .ref (gad G 14), .ref (gad G 15), .ref (gad G 18)]) := (fr_22 0 (by omega)).trans e_12
    have e_25 : w_20 5 = .inl (gI G, 92, .inl (aN bs)) := (fr_22 5 (by omega)).trans e_13
    have e_26 : w_20 6 = .inr (4, [.ref (gad G 7), .ref (gad G 8), .ref (gad G 9), .int (iN ((came : Nat) : Int))]) := (fr_22 6 (by omega)).trans e_15
    have e_27 : w_20 7 = .inl (gZ G, 10, .inl (aN th2_3)) := (fr_22 7 (by omega)).trans e_16
    have e_28 : w_20 8 = .inl (gI G, 10, .inl (aN ps2_4)) := (fr_22 8 (by omega)).trans e_17
    have e_29 : w_20 9 = .inl (gI G, 10, .inl (aN vs2_5)) := (fr_22 9 (by omega)).trans e_18
    have e_30 : w_20 14 = .inr (6, [.int (iN (bs b)), .long (jN ((bs b) * 256 + 1)), .long (jN ((bs b) * 256 + 1)), .long (jN ((bs b) * 256 + 1)), .int (iN 0)]) := e_23
    have hC_31 : FAM G w_20 cst cpl csp cnp cstop := hC_19.keep (fun k h1 h2 => fr_22 k (by omega))
    exact r_v hx hb hr dX8_openStretch_50 hlocks hP hS (⟨th2_3, ps2_4, vs2_5, (fun k h0 h1 h2 h3 h4 => ((fr_22 k (by omega)).trans (fr_6 k (by omega) (by omega) (by omega) (by omega)))), e_26, e_27, e_28, e_29, (by rw [if_neg (show ¬ b + 1 < bc by omega)]; exact e_30), q_11⟩)
  · have hb2 := p2 (b + 1) (by omega)
    refine lv_aload_n hx hb dX8_openStretch_30 rfl (lv_at hl 0 rfl) ?_
    refine f_get (C := RX8) (T := TX8) (N := 11) hx hb hts (by decide +kernel) hown hK hP 0 (by omega) e_12 rfl 4 (by decide) (hts (.fieldLink RX8 23 "KeptMoving" "bends" "[I") (by decide +kernel)) (fun _ h9 => h9) rfl dX8_openStretch_31 ?_
    refine lv_iload_n hx hb dX8_openStretch_34 rfl (lv_at hl 1 rfl) ?_
    refine n_iconst hx hb dX8_openStretch_35 ?_
    refine n_iadd hx hb dX8_openStretch_36 ?_
    refine n_top (A := ((b : Nat) : Int) + 1) (B := ((b + 1 : Nat) : Int)) (by omega) ?_
    refine n_iald hx hb hK hP 5 (by omega) e_13 (b + 1) rfl (by omega) (by decide) dX8_openStretch_37 ?_
    refine lv_goto (tgt := 47) hx hb dX8_openStretch_38 (by decide) ?_
    refine f_callv (va_Run.run (va_runVN (As := [.int (iN (bs b)), .int (iN (bs (b + 1)))]) (rest := []) ⟨hx, hb, hml, hown, hts⟩ (c_X7_open l G w_1 f0 un0 q0.1 q0.2.1 q0.2.2 (bs b) (bs (b + 1)) e_14 (by omega) (by omega)) ⟨va_cnB 2 hts gX8_openStretch_X7_open_n280 rfl rfl rfl (hK.nm 45 rfl) (hts (.initialized RX7) (by decide +kernel)) (by decide +kernel) ⟨Nat.le_of_ble_eq_true rfl, Nat.le_of_ble_eq_true rfl⟩, hts (.instanceMethod yX7_open) (by decide +kernel), hts (.selects RX7 yX7_open yX7_open) (by decide +kernel)⟩ (f_preV hP hK 14 (by omega) 6 e_14 rfl) rfl rfl hl.1 rfl (lv_room (Nat.le_of_ble_eq_true rfl)) dX8_openStretch_47 ⟨Nat.zero_le _, Nat.zero_le _⟩)) hS hAA (fun w_32 H locs q_33 hP hS => ?_)
    obtain ⟨fr_34, e_35⟩ := q_33
    have e_36 : w_32 0 = .inr (7, [.ref (gad G 1), .int (iN ((came : Nat) : Int)), .int (iN ((now : Nat) : Int)), .ref (gad G 2), .ref (gad G 5), .int (iN ((bc : Nat) : Int)), .ref (gad G 6), .ref (gad G 10), .ref (gad G 14), .ref (gad G 15), .ref (gad G 18)]) := (fr_34 0 (by omega)).trans e_12
    have e_37 : w_32 5 = .inl (gI G, 92, .inl (aN bs)) := (fr_34 5 (by omega)).trans e_13
    have e_38 : w_32 6 = .inr (4, [.ref (gad G 7), .ref (gad G 8), .ref (gad G 9), .int (iN ((came : Nat) : Int))]) := (fr_34 6 (by omega)).trans e_15
    have e_39 : w_32 7 = .inl (gZ G, 10, .inl (aN th2_3)) := (fr_34 7 (by omega)).trans e_16
    have e_40 : w_32 8 = .inl (gI G, 10, .inl (aN ps2_4)) := (fr_34 8 (by omega)).trans e_17
    have e_41 : w_32 9 = .inl (gI G, 10, .inl (aN vs2_5)) := (fr_34 9 (by omega)).trans e_18
    have e_42 : w_32 14 = .inr (6, [.int (iN (bs b)), .long (jN ((bs (b + 1)) * 256 + 1)), .long (jN ((bs b) * 256 + 1)), .long (jN ((bs (b + 1)) * 256 + 1)), .int (iN 0)]) := e_35
    have hC_43 : FAM G w_32 cst cpl csp cnp cstop := hC_19.keep (fun k h1 h2 => fr_34 k (by omega))
    exact r_v hx hb hr dX8_openStretch_50 hlocks hP hS (⟨th2_3, ps2_4, vs2_5, (fun k h0 h1 h2 h3 h4 => ((fr_34 k (by omega)).trans (fr_6 k (by omega) (by omega) (by omega) (by omega)))), e_38, e_39, e_40, e_41, (by rw [if_pos (show b + 1 < bc by omega)]; exact e_42), q_11⟩)

set_option maxHeartbeats 4000000 in
set_option maxRecDepth 100000 in
theorem c_X8_keepNear (l : Launch) (G : GE) (w : WF) (S : FS) (came : Nat) (now : Nat) (bc : Nat) (th : Nat → Int) (ps : Nat → Int) (vs : Nat → Int) (f : Int) (un : Int) (q : ST) (i : Nat) (j : Nat) (wd : Int) (e0 : w 0 = .inr (7, [.ref (gad G 1), .int (iN ((came : Nat) : Int)), .int (iN ((now : Nat) : Int)), .ref (gad G 2), .ref (gad G 5), .int (iN ((bc : Nat) : Int)), .ref (gad G 6), .ref (gad G 10), .ref (gad G 14), .ref (gad G 15), .ref (gad G 18)])) (e1 : w 6 = .inr (4, [.ref (gad G 7), .ref (gad G 8), .ref (gad G 9), .int (iN ((came : Nat) : Int))])) (e2 : w 7 = .inl (gZ G, 10, .inl (aN th))) (e3 : w 8 = .inl (gI G, 10, .inl (aN ps))) (e4 : w 9 = .inl (gI G, 10, .inl (aN vs))) (e5 : w 14 = .inr (6, [.int (iN f), .long (jN un), .long (jN q.1), .long (jN q.2.1), .int (iN q.2.2)])) (p0 : i < came) (p1 : j < came) (p2 : came ≤ 10) (p3 : 0 ≤ f ∧ f ≤ 600) (p4 : 0 ≤ wd ∧ wd ≤ 2000) (p5 : isSc S f came th ps vs) (p6 : okQ q) (p7 : ∀ k : Nat, k < came → (-51000 ≤ ps k ∧ ps k ≤ 51000) ∧ (-50 ≤ vs k ∧ vs k ≤ 50)) : Met l yX8_keepNear wsX8_keepNear ({ frames := 4, cells := 0, slots := 0, locals := 94 }) (PcG G w [.ref (gad G 0), .int (iN ((i : Nat) : Int)), .int (iN ((j : Nat) : Int)), .int (iN wd)]) (QV G (fun w1 => (∀ k : Nat, k ≠ 14 → w1 k = w k) ∧ w1 14 = .inr (6, [.int (iN f), .long (jN un), .long (jN ((nrS S f i j wd q).1)), .long (jN ((nrS S f i j wd q).2.1)), .int (iN ((nrS S f i j wd q).2.2))]))) 0 0 (AA G) := by
  refine Met.ofW (cc := cX8_keepNear) (maxL := 4) (ret := none) (by decide) rfl ?_
  intro p e s m args below meth c s₁ B hml hv
  obtain ⟨rfl, hP, hK⟩ := hv
  have hx := B.exec
  have hb := B.bytes
  have hr := B.returns
  have hts := atoms_spec (ws := wsX8_keepNear) B.pre
  have hown : s.vm.findClass RX8 = some m.cls := findClass_of_methodNamed B.named
  have hlocks := B.notSynchronized
  have hS : va_S (AA G) s.heap s.heap [] := va_S.rf
  have hAA : ∀ q, AA G q → AA G q := fun _ h => h
  have hl := lv_entry ([.ref (gad G 0), .int (iN ((i : Nat) : Int)), .int (iN ((j : Nat) : Int)), .int (iN wd)]) (n := 4) (Nat.le_of_ble_eq_true rfl)
  rw [lg_entry_eq]
  generalize (lg_sl ([.ref (gad G 0), .int (iN ((i : Nat) : Int)), .int (iN ((j : Nat) : Int)), .int (iN wd)]) ++ List.replicate (4 - (lg_sl ([.ref (gad G 0), .int (iN ((i : Nat) : Int)), .int (iN ((j : Nat) : Int)), .int (iN wd)])).length) Slot.unset).toArray = ls at hl ⊢
  have hl : lv_has ls 4 [(0, .ref (gad G 0)), (1, .int (iN ((i : Nat) : Int))), (2, .int (iN ((j : Nat) : Int))), (3, .int (iN wd))] := hl
  have r1 := p7 i p0
  have r2 := p7 j p1
  refine lv_aload_n hx hb dX8_keepNear_0 rfl (lv_at hl 0 rfl) ?_
  refine f_get (C := RX8) (T := TX8) (N := 11) hx hb hts (by decide +kernel) hown hK hP 0 (by omega) e0 rfl 6 (by decide) (hts (.fieldLink RX8 30 "KeptMoving" "scene" "LKeptMoving$Scene;") (by decide +kernel)) (fun _ h9 => h9) rfl dX8_keepNear_1 ?_
  refine lv_iload_n hx hb dX8_keepNear_4 rfl (lv_at hl 1 rfl) ?_
  refine vp_callSi (va_Run.run (va_runVN (As := [.int (iN ((i : Nat) : Int))]) (rest := []) ⟨hx, hb, hml, hown, hts⟩ (c_X5_has l G w came th ps vs i e1 e2 e3 e4 (by omega) (by omega) (sc_01 p5 p0)) ⟨va_cnB 1 hts gX8_keepNear_X5_has_n243 rfl rfl rfl (hK.nm 26 rfl) (hts (.initialized RX5) (by decide +kernel)) (by decide +kernel) ⟨Nat.le_of_ble_eq_true rfl, Nat.le_of_ble_eq_true rfl⟩, hts (.instanceMethod yX5_has) (by decide +kernel), hts (.selects RX5 yX5_has yX5_has) (by decide +kernel)⟩ (f_preV hP hK 6 (by omega) 4 e1 rfl) rfl rfl hl.1 rfl (lv_room (Nat.le_of_ble_eq_true rfl)) dX8_keepNear_5 ⟨Nat.zero_le _, Nat.zero_le _⟩)) (fun r_1 hr_1 => ?_)
  rw [show r_1 = iN (if (th i ≠ 0) then 1 else 0) from hr_1]
  refine n_ifb_eq (tgt := 22) hx hb dX8_keepNear_8 (by decide) (fun c_8 => ?_) (fun c_8 => ?_)
  · refine lv_aload_n hx hb dX8_keepNear_22 rfl (lv_at hl 0 rfl) ?_
    refine f_get (C := RX8) (T := TX8) (N := 11) hx hb hts (by decide +kernel) hown hK hP 0 (by omega) e0 rfl 8 (by decide) (hts (.fieldLink RX8 44 "KeptMoving" "stretch" "LKeptMoving$Stretch;") (by decide +kernel)) (fun _ h9 => h9) rfl dX8_keepNear_23 ?_
    refine f_callv (va_Run.run (va_runVN (As := []) (rest := []) ⟨hx, hb, hml, hown, hts⟩ (c_X7_keepNothing l G w f un q.1 q.2.1 q.2.2 e5) ⟨va_cnB 0 hts gX8_keepNear_X7_keepNothing_n283 rfl rfl rfl (hK.nm 47 rfl) (hts (.initialized RX7) (by decide +kernel)) (by decide +kernel) ⟨Nat.le_of_ble_eq_true rfl, Nat.le_of_ble_eq_true rfl⟩, hts (.instanceMethod yX7_keepNothing) (by decide +kernel), hts (.selects RX7 yX7_keepNothing yX7_keepNothing) (by decide +kernel)⟩ (f_preV hP hK 14 (by omega) 6 e5 rfl) rfl rfl hl.1 rfl (lv_room (Nat.le_of_ble_eq_true rfl)) dX8_keepNear_26 ⟨Nat.zero_le _, Nat.zero_le _⟩)) hS hAA (fun w_2 H locs q_3 hP hS => ?_)
    obtain ⟨fr_4, e_5⟩ := q_3
    have e_6 : w_2 0 = .inr (7, [.ref (gad G 1), .int (iN ((came : Nat) : Int)), .int (iN ((now : Nat) : Int)), .ref (gad G 2), .ref (gad G 5), .int (iN ((bc : Nat) : Int)), .ref (gad G 6), .ref (gad G 10), .ref (gad G 14), .ref (gad G 15), .ref (gad G 18)]) := (fr_4 0 (by omega)).trans e0
    have e_7 : w_2 6 = .inr (4, [.ref (gad G 7), .ref (gad G 8), .ref (gad G 9), .int (iN ((came : Nat) : Int))]) := (fr_4 6 (by omega)).trans e1
    have e_8 : w_2 7 = .inl (gZ G, 10, .inl (aN th)) := (fr_4 7 (by omega)).trans e2
    have e_9 : w_2 8 = .inl (gI G, 10, .inl (aN ps)) := (fr_4 8 (by omega)).trans e3
    have e_10 : w_2 9 = .inl (gI G, 10, .inl (aN vs)) := (fr_4 9 (by omega)).trans e4
    have e_11 : w_2 14 = .inr (6, [.int (iN f), .long (jN un), .long (jN q.1), .long (jN q.2.1), .int (iN 1)]) := e_5
    exact r_v hx hb hr dX8_keepNear_29 hlocks hP hS (⟨(fun k h0 => fr_4 k (by omega)), (by unfold nrS; rw [if_neg (fun z => sc_no p5 p0 c_8 z.1)]; exact e_11)⟩)
  · refine lv_aload_n hx hb dX8_keepNear_11 rfl (lv_at hl 0 rfl) ?_
    refine f_get (C := RX8) (T := TX8) (N := 11) hx hb hts (by decide +kernel) hown hK hP 0 (by omega) e0 rfl 6 (by decide) (hts (.fieldLink RX8 30 "KeptMoving" "scene" "LKeptMoving$Scene;") (by decide +kernel)) (fun _ h9 => h9) rfl dX8_keepNear_12 ?_
    refine lv_iload_n hx hb dX8_keepNear_15 rfl (lv_at hl 2 rfl) ?_
    refine vp_callSi (va_Run.run (va_runVN (As := [.int (iN ((j : Nat) : Int))]) (rest := []) ⟨hx, hb, hml, hown, hts⟩ (c_X5_has l G w came th ps vs j e1 e2 e3 e4 (by omega) (by omega) (sc_01 p5 p1)) ⟨va_cnB 1 hts gX8_keepNear_X5_has_n243 rfl rfl rfl (hK.nm 26 rfl) (hts (.initialized RX5) (by decide +kernel)) (by decide +kernel) ⟨Nat.le_of_ble_eq_true rfl, Nat.le_of_ble_eq_true rfl⟩, hts (.instanceMethod yX5_has) (by decide +kernel), hts (.selects RX5 yX5_has yX5_has) (by decide +kernel)⟩ (f_preV hP hK 6 (by omega) 4 e1 rfl) rfl rfl hl.1 rfl (lv_room (Nat.le_of_ble_eq_true rfl)) dX8_keepNear_16 ⟨Nat.zero_le _, Nat.zero_le _⟩)) (fun r_12 hr_12 => ?_)
    rw [show r_12 = iN (if (th j ≠ 0) then 1 else 0) from hr_12]
    refine n_ifb_ne (tgt := 30) hx hb dX8_keepNear_19 (by decide) (fun c_19 => ?_) (fun c_19 => ?_)
    · refine lv_aload_n hx hb dX8_keepNear_30 rfl (lv_at hl 0 rfl) ?_
      refine f_get (C := RX8) (T := TX8) (N := 11) hx hb hts (by decide +kernel) hown hK hP 0 (by omega) e0 rfl 8 (by decide) (hts (.fieldLink RX8 44 "KeptMoving" "stretch" "LKeptMoving$Stretch;") (by decide +kernel)) (fun _ h9 => h9) rfl dX8_keepNear_31 ?_
      refine lv_aload_n hx hb dX8_keepNear_34 rfl (lv_at hl 0 rfl) ?_
      refine f_get (C := RX8) (T := TX8) (N := 11) hx hb hts (by decide +kernel) hown hK hP 0 (by omega) e0 rfl 6 (by decide) (hts (.fieldLink RX8 30 "KeptMoving" "scene" "LKeptMoving$Scene;") (by decide +kernel)) (fun _ h9 => h9) rfl dX8_keepNear_35 ?_
      refine lv_iload_n hx hb dX8_keepNear_38 rfl (lv_at hl 1 rfl) ?_
      refine lv_iload_n hx hb dX8_keepNear_39 rfl (lv_at hl 2 rfl) ?_
      refine vp_callSi (va_Run.run (va_runVN (As := [.int (iN ((i : Nat) : Int)), .int (iN ((j : Nat) : Int))]) (rest := [.ref (gad G 14)]) ⟨hx, hb, hml, hown, hts⟩ (c_X5_gap l G w came th ps vs i j e1 e2 e3 e4 (by omega) (by omega)) ⟨va_cnB 2 hts gX8_keepNear_X5_gap_n250 rfl rfl rfl (hK.nm 27 rfl) (hts (.initialized RX5) (by decide +kernel)) (by decide +kernel) ⟨Nat.le_of_ble_eq_true rfl, Nat.le_of_ble_eq_true rfl⟩, hts (.instanceMethod yX5_gap) (by decide +kernel), hts (.selects RX5 yX5_gap yX5_gap) (by decide +kernel)⟩ (f_preV hP hK 6 (by omega) 4 e1 rfl) rfl rfl hl.1 rfl (lv_room (Nat.le_of_ble_eq_true rfl)) dX8_keepNear_40 ⟨Nat.zero_le _, Nat.zero_le _⟩)) (fun r_13 hr_13 => ?_)
      rw [show r_13 = iN (ps j - ps i) from hr_13]
      refine lv_aload_n hx hb dX8_keepNear_43 rfl (lv_at hl 0 rfl) ?_
      refine f_get (C := RX8) (T := TX8) (N := 11) hx hb hts (by decide +kernel) hown hK hP 0 (by omega) e0 rfl 6 (by decide) (hts (.fieldLink RX8 30 "KeptMoving" "scene" "LKeptMoving$Scene;") (by decide +kernel)) (fun _ h9 => h9) rfl dX8_keepNear_44 ?_
      refine lv_iload_n hx hb dX8_keepNear_47 rfl (lv_at hl 1 rfl) ?_
      refine lv_iload_n hx hb dX8_keepNear_48 rfl (lv_at hl 2 rfl) ?_
      refine vp_callSi (va_Run.run (va_runVN (As := [.int (iN ((i : Nat) : Int)), .int (iN ((j : Nat) : Int))]) (rest := [.int (iN (ps j - ps i)), .ref (gad G 14)]) ⟨hx, hb, hml, hown, hts⟩ (c_X5_growth l G w came th ps vs i j e1 e2 e3 e4 (by omega) (by omega)) ⟨va_cnB 2 hts gX8_keepNear_X5_growth_n253 rfl rfl rfl (hK.nm 28 rfl) (hts (.initialized RX5) (by decide +kernel)) (by decide +kernel) ⟨Nat.le_of_ble_eq_true rfl, Nat.le_of_ble_eq_true rfl⟩, hts (.instanceMethod yX5_growth) (by decide +kernel), hts (.selects RX5 yX5_growth yX5_growth) (by decide +kernel)⟩ (f_preV hP hK 6 (by omega) 4 e1 rfl) rfl rfl hl.1 rfl (lv_room (Nat.le_of_ble_eq_true rfl)) dX8_keepNear_49 ⟨Nat.zero_le _, Nat.zero_le _⟩)) (fun r_14 hr_14 => ?_)
      rw [show r_14 = iN (vs j - vs i) from hr_14]
      refine lv_iload_n hx hb dX8_keepNear_52 rfl (lv_at hl 3 rfl) ?_
      refine f_callv (va_Run.run (va_runVN (As := [.int (iN (ps j - ps i)), .int (iN (vs j - vs i)), .int (iN wd)]) (rest := []) ⟨hx, hb, hml, hown, hts⟩ (c_X7_keepAtMost l G w f un q.1 q.2.1 q.2.2 (ps j - ps i) (vs j - vs i) wd e5 (by omega) (ka_p1 p3 (by omega) (by omega) (by omega)) (ka_p2 p3 (by omega) (by omega) (by omega)) (p6.1) (p6.2.1) (by omega) (by omega)) ⟨va_cnB 3 hts gX8_keepNear_X7_keepAtMost_n286 rfl rfl rfl (hK.nm 48 rfl) (hts (.initialized RX7) (by decide +kernel)) (by decide +kernel) ⟨Nat.le_of_ble_eq_true rfl, Nat.le_of_ble_eq_true rfl⟩, hts (.instanceMethod yX7_keepAtMost) (by decide +kernel), hts (.selects RX7 yX7_keepAtMost yX7_keepAtMost) (by decide +kernel)⟩ (f_preV hP hK 14 (by omega) 6 e5 rfl) rfl rfl hl.1 rfl (lv_room (Nat.le_of_ble_eq_true rfl)) dX8_keepNear_53 ⟨Nat.zero_le _, Nat.zero_le _⟩)) hS hAA (fun w_15 H locs q_16 hP hS => ?_)
      obtain ⟨fr_17, e_18⟩ := q_16
      have e_19 : w_15 0 = .inr (7, [.ref (gad G 1), .int (iN ((came : Nat) : Int)), .int (iN ((now : Nat) : Int)), .ref (gad G 2), .ref (gad G 5), .int (iN ((bc : Nat) : Int)), .ref (gad G 6), .ref (gad G 10), .ref (gad G 14), .ref (gad G 15), .ref (gad G 18)]) := (fr_17 0 (by omega)).trans e0
      have e_20 : w_15 6 = .inr (4, [.ref (gad G 7), .ref (gad G 8), .ref (gad G 9), .int (iN ((came : Nat) : Int))]) := (fr_17 6 (by omega)).trans e1
      have e_21 : w_15 7 = .inl (gZ G, 10, .inl (aN th)) := (fr_17 7 (by omega)).trans e2
      have e_22 : w_15 8 = .inl (gI G, 10, .inl (aN ps)) := (fr_17 8 (by omega)).trans e3
      have e_23 : w_15 9 = .inl (gI G, 10, .inl (aN vs)) := (fr_17 9 (by omega)).trans e4
      have e_24 : w_15 14 = .inr (6, [.int (iN f), .long (jN un), .long (jN ((ka f (ps j - ps i) (vs j - vs i) wd (q.1, q.2.1, q.2.2)).1)), .long (jN ((ka f (ps j - ps i) (vs j - vs i) wd (q.1, q.2.1, q.2.2)).2.1)), .int (iN ((ka f (ps j - ps i) (vs j - vs i) wd (q.1, q.2.1, q.2.2)).2.2))]) := e_18
      have hq2 := ka_ok (f := f) (va := ps j - ps i) (gr := vs j - vs i) (bd := wd) p6 p3 (by omega) (by omega) (by omega)
      refine lv_aload_n hx hb dX8_keepNear_56 rfl (lv_at hl 0 rfl) ?_
      refine f_get (C := RX8) (T := TX8) (N := 11) hx hb hts (by decide +kernel) hown hK hP 0 (by omega) e_19 rfl 8 (by decide) (hts (.fieldLink RX8 44 "KeptMoving" "stretch" "LKeptMoving$Stretch;") (by decide +kernel)) (fun _ h9 => h9) rfl dX8_keepNear_57 ?_
      refine lv_aload_n hx hb dX8_keepNear_60 rfl (lv_at hl 0 rfl) ?_
      refine f_get (C := RX8) (T := TX8) (N := 11) hx hb hts (by decide +kernel) hown hK hP 0 (by omega) e_19 rfl 6 (by decide) (hts (.fieldLink RX8 30 "KeptMoving" "scene" "LKeptMoving$Scene;") (by decide +kernel)) (fun _ h9 => h9) rfl dX8_keepNear_61 ?_
      refine lv_iload_n hx hb dX8_keepNear_64 rfl (lv_at hl 2 rfl) ?_
      refine lv_iload_n hx hb dX8_keepNear_65 rfl (lv_at hl 1 rfl) ?_
      refine vp_callSi (va_Run.run (va_runVN (As := [.int (iN ((j : Nat) : Int)), .int (iN ((i : Nat) : Int))]) (rest := [.ref (gad G 14)]) ⟨hx, hb, hml, hown, hts⟩ (c_X5_gap l G w_15 came th ps vs j i e_20 e_21 e_22 e_23 (by omega) (by omega)) ⟨va_cnB 2 hts gX8_keepNear_X5_gap_n250 rfl rfl rfl (hK.nm 27 rfl) (hts (.initialized RX5) (by decide +kernel)) (by decide +kernel) ⟨Nat.le_of_ble_eq_true rfl, Nat.le_of_ble_eq_true rfl⟩, hts (.instanceMethod yX5_gap) (by decide +kernel), hts (.selects RX5 yX5_gap yX5_gap) (by decide +kernel)⟩ (f_preV hP hK 6 (by omega) 4 e_20 rfl) rfl rfl hl.1 rfl (lv_room (Nat.le_of_ble_eq_true rfl)) dX8_keepNear_66 ⟨Nat.zero_le _, Nat.zero_le _⟩)) (fun r_25 hr_25 => ?_)
      rw [show r_25 = iN (ps i - ps j) from hr_25]
      refine lv_aload_n hx hb dX8_keepNear_69 rfl (lv_at hl 0 rfl) ?_
      refine f_get (C := RX8) (T := TX8) (N := 11) hx hb hts (by decide +kernel) hown hK hP 0 (by omega) e_19 rfl 6 (by decide) (hts (.fieldLink RX8 30 "KeptMoving" "scene" "LKeptMoving$Scene;") (by decide +kernel)) (fun _ h9 => h9) rfl dX8_keepNear_70 ?_
      refine lv_iload_n hx hb dX8_keepNear_73 rfl (lv_at hl 2 rfl) ?_
      refine lv_iload_n hx hb dX8_keepNear_74 rfl (lv_at hl 1 rfl) ?_
      refine vp_callSi (va_Run.run (va_runVN (As := [.int (iN ((j : Nat) : Int)), .int (iN ((i : Nat) : Int))]) (rest := [.int (iN (ps i - ps j)), .ref (gad G 14)]) ⟨hx, hb, hml, hown, hts⟩ (c_X5_growth l G w_15 came th ps vs j i e_20 e_21 e_22 e_23 (by omega) (by omega)) ⟨va_cnB 2 hts gX8_keepNear_X5_growth_n253 rfl rfl rfl (hK.nm 28 rfl) (hts (.initialized RX5) (by decide +kernel)) (by decide +kernel) ⟨Nat.le_of_ble_eq_true rfl, Nat.le_of_ble_eq_true rfl⟩, hts (.instanceMethod yX5_growth) (by decide +kernel), hts (.selects RX5 yX5_growth yX5_growth) (by decide +kernel)⟩ (f_preV hP hK 6 (by omega) 4 e_20 rfl) rfl rfl hl.1 rfl (lv_room (Nat.le_of_ble_eq_true rfl)) dX8_keepNear_75 ⟨Nat.zero_le _, Nat.zero_le _⟩)) (fun r_26 hr_26 => ?_)
      rw [show r_26 = iN (vs i - vs j) from hr_26]
      refine lv_iload_n hx hb dX8_keepNear_78 rfl (lv_at hl 3 rfl) ?_
      refine f_callv (va_Run.run (va_runVN (As := [.int (iN (ps i - ps j)), .int (iN (vs i - vs j)), .int (iN wd)]) (rest := []) ⟨hx, hb, hml, hown, hts⟩ (c_X7_keepAtMost l G w_15 f un ((ka f (ps j - ps i) (vs j - vs i) wd (q.1, q.2.1, q.2.2)).1) ((ka f (ps j - ps i) (vs j - vs i) wd (q.1, q.2.1, q.2.2)).2.1) ((ka f (ps j - ps i) (vs j - vs i) wd (q.1, q.2.1, q.2.2)).2.2) (ps i - ps j) (vs i - vs j) wd e_24 (by omega) (ka_p1 p3 (by omega) (by omega) (by omega)) (ka_p2 p3 (by omega) (by omega) (by omega)) (hq2.1) (hq2.2.1) (by omega) (by omega)) ⟨va_cnB 3 hts gX8_keepNear_X7_keepAtMost_n286 rfl rfl rfl (hK.nm 48 rfl) (hts (.initialized RX7) (by decide +kernel)) (by decide +kernel) ⟨Nat.le_of_ble_eq_true rfl, Nat.le_of_ble_eq_true rfl⟩, hts (.instanceMethod yX7_keepAtMost) (by decide +kernel), hts (.selects RX7 yX7_keepAtMost yX7_keepAtMost) (by decide +kernel)⟩ (f_preV hP hK 14 (by omega) 6 e_24 rfl) rfl rfl hl.1 rfl (lv_room (Nat.le_of_ble_eq_true rfl)) dX8_keepNear_79 ⟨Nat.zero_le _, Nat.zero_le _⟩)) hS hAA (fun w_27 H locs q_28 hP hS => ?_)
      obtain ⟨fr_29, e_30⟩ := q_28
      have e_31 : w_27 0 = .inr (7, [.ref (gad G 1), .int (iN ((came : Nat) : Int)), .int (iN ((now : Nat) : Int)), .ref (gad G 2), .ref (gad G 5), .int (iN ((bc : Nat) : Int)), .ref (gad G 6), .ref (gad G 10), .ref (gad G 14), .ref (gad G 15), .ref (gad G 18)]) := (fr_29 0 (by omega)).trans e_19
      have e_32 : w_27 6 = .inr (4, [.ref (gad G 7), .ref (gad G 8), .ref (gad G 9), .int (iN ((came : Nat) : Int))]) := (fr_29 6 (by omega)).trans e_20
      have e_33 : w_27 7 = .inl (gZ G, 10, .inl (aN th)) := (fr_29 7 (by omega)).trans e_21
      have e_34 : w_27 8 = .inl (gI G, 10, .inl (aN ps)) := (fr_29 8 (by omega)).trans e_22
      have e_35 : w_27 9 = .inl (gI G, 10, .inl (aN vs)) := (fr_29 9 (by omega)).trans e_23
      have e_36 : w_27 14 = .inr (6, [.int (iN f), .long (jN un), .long (jN ((ka f (ps i - ps j) (vs i - vs j) wd (((ka f (ps j - ps i) (vs j - vs i) wd (q.1, q.2.1, q.2.2)).1), ((ka f (ps j - ps i) (vs j - vs i) wd (q.1, q.2.1, q.2.2)).2.1), ((ka f (ps j - ps i) (vs j - vs i) wd (q.1, q.2.1, q.2.2)).2.2))).1)), .long (jN ((ka f (ps i - ps j) (vs i - vs j) wd (((ka f (ps j - ps i) (vs j - vs i) wd (q.1, q.2.1, q.2.2)).1), ((ka f (ps j - ps i) (vs j - vs i) wd (q.1, q.2.1, q.2.2)).2.1), ((ka f (ps j - ps i) (vs j - vs i) wd (q.1, q.2.1, q.2.2)).2.2))).2.1)), .int (iN ((ka f (ps i - ps j) (vs i - vs j) wd (((ka f (ps j - ps i) (vs j - vs i) wd (q.1, q.2.1, q.2.2)).1), ((ka f (ps j - ps i) (vs j - vs i) wd (q.1, q.2.1, q.2.2)).2.1), ((ka f (ps j - ps i) (vs j - vs i) wd (q.1, q.2.1, q.2.2)).2.2))).2.2))]) := e_30
      exact r_v hx hb hr dX8_keepNear_82 hlocks hP hS (⟨(fun k h0 => ((fr_29 k (by omega)).trans (fr_17 k (by omega)))), (by unfold nrS; rw [if_pos ⟨sc_yes p5 p0 c_8, sc_yes p5 p1 c_19⟩, ← (p5 i p0).2.1, ← (p5 j p1).2.1, ← (p5 i p0).2.2, ← (p5 j p1).2.2]; exact e_36)⟩)
    · refine lv_aload_n hx hb dX8_keepNear_22 rfl (lv_at hl 0 rfl) ?_
      refine f_get (C := RX8) (T := TX8) (N := 11) hx hb hts (by decide +kernel) hown hK hP 0 (by omega) e0 rfl 8 (by decide) (hts (.fieldLink RX8 44 "KeptMoving" "stretch" "LKeptMoving$Stretch;") (by decide +kernel)) (fun _ h9 => h9) rfl dX8_keepNear_23 ?_
      refine f_callv (va_Run.run (va_runVN (As := []) (rest := []) ⟨hx, hb, hml, hown, hts⟩ (c_X7_keepNothing l G w f un q.1 q.2.1 q.2.2 e5) ⟨va_cnB 0 hts gX8_keepNear_X7_keepNothing_n283 rfl rfl rfl (hK.nm 47 rfl) (hts (.initialized RX7) (by decide +kernel)) (by decide +kernel) ⟨Nat.le_of_ble_eq_true rfl, Nat.le_of_ble_eq_true rfl⟩, hts (.instanceMethod yX7_keepNothing) (by decide +kernel), hts (.selects RX7 yX7_keepNothing yX7_keepNothing) (by decide +kernel)⟩ (f_preV hP hK 14 (by omega) 6 e5 rfl) rfl rfl hl.1 rfl (lv_room (Nat.le_of_ble_eq_true rfl)) dX8_keepNear_26 ⟨Nat.zero_le _, Nat.zero_le _⟩)) hS hAA (fun w_37 H locs q_38 hP hS => ?_)
      obtain ⟨fr_39, e_40⟩ := q_38
      have e_41 : w_37 0 = .inr (7, [.ref (gad G 1), .int (iN ((came : Nat) : Int)), .int (iN ((now : Nat) : Int)), .ref (gad G 2), .ref (gad G 5), .int (iN ((bc : Nat) : Int)), .ref (gad G 6), .ref (gad G 10), .ref (gad G 14), .ref (gad G 15), .ref (gad G 18)]) := (fr_39 0 (by omega)).trans e0
      have e_42 : w_37 6 = .inr (4, [.ref (gad G 7), .ref (gad G 8), .ref (gad G 9), .int (iN ((came : Nat) : Int))]) := (fr_39 6 (by omega)).trans e1
      have e_43 : w_37 7 = .inl (gZ G, 10, .inl (aN th)) := (fr_39 7 (by omega)).trans e2
      have e_44 : w_37 8 = .inl (gI G, 10, .inl (aN ps)) := (fr_39 8 (by omega)).trans e3
      have e_45 : w_37 9 = .inl (gI G, 10, .inl (aN vs)) := (fr_39 9 (by omega)).trans e4
      have e_46 : w_37 14 = .inr (6, [.int (iN f), .long (jN un), .long (jN q.1), .long (jN q.2.1), .int (iN 1)]) := e_40
      exact r_v hx hb hr dX8_keepNear_29 hlocks hP hS (⟨(fun k h0 => fr_39 k (by omega)), (by unfold nrS; rw [if_neg (fun z => sc_no p5 p1 c_19 z.2)]; exact e_46)⟩)

theorem frI_yes {S : FS} {t : Int} {i j : Nat} {q : ST} (h : thB S t j = true) : frI S t i (j + 1) q = ka t (poS S t j - poS S t i) (spS S t j - spS S t i) 0 (frI S t i j q) := if_pos h
theorem frI_no {S : FS} {t : Int} {i j : Nat} {q : ST} (h : ¬ thB S t j = true) : frI S t i (j + 1) q = frI S t i j q := if_neg h

set_option maxHeartbeats 4000000 in
set_option maxRecDepth 100000 in
theorem c_X8_keepFirst (l : Launch) (G : GE) (w : WF) (S : FS) (came : Nat) (now : Nat) (bc : Nat) (th : Nat → Int) (ps : Nat → Int) (vs : Nat → Int) (f : Int) (un : Int) (q : ST) (i : Nat) (e0 : w 0 = .inr (7, [.ref (gad G 1), .int (iN ((came : Nat) : Int)), .int (iN ((now : Nat) : Int)), .ref (gad G 2), .ref (gad G 5), .int (iN ((bc : Nat) : Int)), .ref (gad G 6), .ref (gad G 10), .ref (gad G 14), .ref (gad G 15), .ref (gad G 18)])) (e1 : w 6 = .inr (4, [.ref (gad G 7), .ref (gad G 8), .ref (gad G 9), .int (iN ((came : Nat) : Int))])) (e2 : w 7 = .inl (gZ G, 10, .inl (aN th))) (e3 : w 8 = .inl (gI G, 10, .inl (aN ps))) (e4 : w 9 = .inl (gI G, 10, .inl (aN vs))) (e5 : w 14 = .inr (6, [.int (iN f), .long (jN un), .long (jN q.1), .long (jN q.2.1), .int (iN q.2.2)])) (p0 : i < came) (p1 : came ≤ 10) (p2 : 0 ≤ f ∧ f ≤ 600) (p3 : isSc S f came th ps vs) (p4 : okQ q) (p5 : ∀ k : Nat, k < came → (-51000 ≤ ps k ∧ ps k ≤ 51000) ∧ (-50 ≤ vs k ∧ vs k ≤ 50)) : Met l yX8_keepFirst wsX8_keepFirst ({ frames := 4, cells := 0, slots := 0, locals := 94 }) (PcG G w [.ref (gad G 0), .int (iN ((i : Nat) : Int))]) (QV G (fun w1 => (∀ k : Nat, k ≠ 14 → w1 k = w k) ∧ w1 14 = .inr (6, [.int (iN f), .long (jN un), .long (jN ((frS S f i came q).1)), .long (jN ((frS S f i came q).2.1)), .int (iN ((frS S f i came q).2.2))]))) 0 0 (AA G) := by
  refine Met.ofW (cc := cX8_keepFirst) (maxL := 3) (ret := none) (by decide) rfl ?_
  intro p e s m args below meth c s₁ B hml hv
  obtain ⟨rfl, hP, hK⟩ := hv
  have hx := B.exec
  have hb := B.bytes
  have hr := B.returns
  have hts := atoms_spec (ws := wsX8_keepFirst) B.pre
  have hown : s.vm.findClass RX8 = some m.cls := findClass_of_methodNamed B.named
  have hlocks := B.notSynchronized
  have hS : va_S (AA G) s.heap s.heap [] := va_S.rf
  have hAA : ∀ q, AA G q → AA G q := fun _ h => h
  have hl := lv_entry ([.ref (gad G 0), .int (iN ((i : Nat) : Int))]) (n := 3) (Nat.le_of_ble_eq_true rfl)
  rw [lg_entry_eq]
  generalize (lg_sl ([.ref (gad G 0), .int (iN ((i : Nat) : Int))]) ++ List.replicate (3 - (lg_sl ([.ref (gad G 0), .int (iN ((i : Nat) : Int))])).length) Slot.unset).toArray = ls at hl ⊢
  have hl : lv_has ls 3 [(0, .ref (gad G 0)), (1, .int (iN ((i : Nat) : Int)))] := hl
  have r1 := p5 i p0
  refine lv_aload_n hx hb dX8_keepFirst_0 rfl (lv_at hl 0 rfl) ?_
  refine f_get (C := RX8) (T := TX8) (N := 11) hx hb hts (by decide +kernel) hown hK hP 0 (by omega) e0 rfl 6 (by decide) (hts (.fieldLink RX8 30 "KeptMoving" "scene" "LKeptMoving$Scene;") (by decide +kernel)) (fun _ h9 => h9) rfl dX8_keepFirst_1 ?_
  refine lv_iload_n hx hb dX8_keepFirst_4 rfl (lv_at hl 1 rfl) ?_
  refine vp_callSi (va_Run.run (va_runVN (As := [.int (iN ((i : Nat) : Int))]) (rest := []) ⟨hx, hb, hml, hown, hts⟩ (c_X5_has l G w came th ps vs i e1 e2 e3 e4 (by omega) (by omega) (sc_01 p3 p0)) ⟨va_cnB 1 hts gX8_keepFirst_X5_has_n243 rfl rfl rfl (hK.nm 26 rfl) (hts (.initialized RX5) (by decide +kernel)) (by decide +kernel) ⟨Nat.le_of_ble_eq_true rfl, Nat.le_of_ble_eq_true rfl⟩, hts (.instanceMethod yX5_has) (by decide +kernel), hts (.selects RX5 yX5_has yX5_has) (by decide +kernel)⟩ (f_preV hP hK 6 (by omega) 4 e1 rfl) rfl rfl hl.1 rfl (lv_room (Nat.le_of_ble_eq_true rfl)) dX8_keepFirst_5 ⟨Nat.zero_le _, Nat.zero_le _⟩)) (fun r_1 hr_1 => ?_)
  rw [show r_1 = iN (if (th i ≠ 0) then 1 else 0) from hr_1]
  refine n_ifb_ne (tgt := 19) hx hb dX8_keepFirst_8 (by decide) (fun c_8 => ?_) (fun c_8 => ?_)
  · refine n_iconst hx hb dX8_keepFirst_19 ?_
    refine lv_istore_n (lv' := [(2, .int (iN 0)), (0, .ref (gad G 0)), (1, .int (iN ((i : Nat) : Int)))]) hx hb dX8_keepFirst_20 rfl hl (by decide) rfl (fun ls hl => ?_)
    have K21 : ∀ (N : Nat) (j : Nat) (w2 : WF) (H : Heap) (locs : List Loc) (ls : Array Slot), (j ≤ came) → (okQ (frI S f i j q)) → 11 - j < N → w2 14 = .inr (6, [.int (iN f), .long (jN un), .long (jN ((frI S f i j q).1)), .long (jN ((frI S f i j q).2.1)), .int (iN ((frI S f i j q).2.2))]) → (∀ k : Nat, k ≠ 14 → w2 k = w k) → PW G w2 H → va_S (AA G) s.heap H locs → lv_has ls 3 [(0, .ref (gad G 0)), (1, .int (iN ((i : Nat) : Int))), (2, .int (iN ((j : Nat) : Int)))] → W p l e (headSpec wsX8_keepFirst ({ frames := 4, cells := 0, slots := 0, locals := 94 })).room s m (([.ref (gad G 0), .int (iN ((i : Nat) : Int))] : List Value).toArray) below meth c H locs 0 0 (MQ below (QV G (fun w1 => (∀ k : Nat, k ≠ 14 → w1 k = w k) ∧ w1 14 = .inr (6, [.int (iN f), .long (jN un), .long (jN ((frS S f i came q).1)), .long (jN ((frS S f i came q).2.1)), .int (iN ((frS S f i came q).2.2))]))) (([.ref (gad G 0), .int (iN ((i : Nat) : Int))] : List Value).toArray) s 0 0 (AA G)) (F0 m 21 ls []) := by
      intro N
      induction N with
      | zero =>
        intros
        exfalso
        omega
      | succ N ih21 =>
        intro j w2 H locs ls i21_0 i21_1 hN21 f21_0 hfr21 hP hS hl
        have e_2 : w2 0 = .inr (7, [.ref (gad G 1), .int (iN ((came : Nat) : Int)), .int (iN ((now : Nat) : Int)), .ref (gad G 2), .ref (gad G 5), .int (iN ((bc : Nat) : Int)), .ref (gad G 6), .ref (gad G 10), .ref (gad G 14), .ref (gad G 15), .ref (gad G 18)]) := by rw [hfr21 0 (by omega)]; exact e0
        have e_3 : w2 6 = .inr (4, [.ref (gad G 7), .ref (gad G 8), .ref (gad G 9), .int (iN ((came : Nat) : Int))]) := by rw [hfr21 6 (by omega)]; exact e1
        have e_4 : w2 7 = .inl (gZ G, 10, .inl (aN th)) := by rw [hfr21 7 (by omega)]; exact e2
        have e_5 : w2 8 = .inl (gI G, 10, .inl (aN ps)) := by rw [hfr21 8 (by omega)]; exact e3
        have e_6 : w2 9 = .inl (gI G, 10, .inl (aN vs)) := by rw [hfr21 9 (by omega)]; exact e4
        refine lv_iload_n hx hb dX8_keepFirst_21 rfl (lv_at hl 2 rfl) ?_
        refine lv_aload_n hx hb dX8_keepFirst_22 rfl (lv_at hl 0 rfl) ?_
        refine f_get (C := RX8) (T := TX8) (N := 11) hx hb hts (by decide +kernel) hown hK hP 0 (by omega) e_2 rfl 1 (by decide) (hts (.fieldLink RX8 67 "KeptMoving" "came" "I") (by decide +kernel)) (fun _ h9 => h9) rfl dX8_keepFirst_23 ?_
        refine n_icmp_ge (tgt := 72) hx hb dX8_keepFirst_26 (by decide) (by omega) (by omega) (by omega) (by omega) (fun c_26 => ?_) (fun c_26 => ?_)
        · exact r_v hx hb hr dX8_keepFirst_72 hlocks hP hS (⟨(fun k h0 => hfr21 k (by omega)), (by unfold frS; rw [if_pos (sc_yes p3 p0 c_8), show came = j by omega]; exact f21_0)⟩)
        · have r2 := p5 j (by omega)
          refine lv_aload_n hx hb dX8_keepFirst_29 rfl (lv_at hl 0 rfl) ?_
          refine f_get (C := RX8) (T := TX8) (N := 11) hx hb hts (by decide +kernel) hown hK hP 0 (by omega) e_2 rfl 6 (by decide) (hts (.fieldLink RX8 30 "KeptMoving" "scene" "LKeptMoving$Scene;") (by decide +kernel)) (fun _ h9 => h9) rfl dX8_keepFirst_30 ?_
          refine lv_iload_n hx hb dX8_keepFirst_33 rfl (lv_at hl 2 rfl) ?_
          refine vp_callSi (va_Run.run (va_runVN (As := [.int (iN ((j : Nat) : Int))]) (rest := []) ⟨hx, hb, hml, hown, hts⟩ (c_X5_has l G w2 came th ps vs j e_3 e_4 e_5 e_6 (by omega) (by omega) (sc_01 p3 (by omega))) ⟨va_cnB 1 hts gX8_keepFirst_X5_has_n243 rfl rfl rfl (hK.nm 26 rfl) (hts (.initialized RX5) (by decide +kernel)) (by decide +kernel) ⟨Nat.le_of_ble_eq_true rfl, Nat.le_of_ble_eq_true rfl⟩, hts (.instanceMethod yX5_has) (by decide +kernel), hts (.selects RX5 yX5_has yX5_has) (by decide +kernel)⟩ (f_preV hP hK 6 (by omega) 4 e_3 rfl) rfl rfl hl.1 rfl (lv_room (Nat.le_of_ble_eq_true rfl)) dX8_keepFirst_34 ⟨Nat.zero_le _, Nat.zero_le _⟩)) (fun r_7 hr_7 => ?_)
          rw [show r_7 = iN (if (th j ≠ 0) then 1 else 0) from hr_7]
          refine n_ifb_eq (tgt := 66) hx hb dX8_keepFirst_37 (by decide) (fun c_37 => ?_) (fun c_37 => ?_)
          · refine lv_iinc (v := iN ((j + 1 : Nat) : Int)) (lv' := [(2, .int (iN ((j + 1 : Nat) : Int))), (0, .ref (gad G 0)), (1, .int (iN ((i : Nat) : Int)))]) hx hb dX8_keepFirst_66 hl (k := 2) rfl (iN_incN _) (by decide) rfl (fun ls hl => ?_)
            refine lv_goto (tgt := 21) hx hb dX8_keepFirst_69 (by decide) ?_
            exact ih21 (j + 1) w2 _ _ _ (by omega) (by show okQ (if _ then _ else _); rw [if_neg (sc_no p3 (by omega) c_37)]; exact i21_1) (by omega) (by rw [frI_no (sc_no p3 (by omega) c_37)]; exact f21_0) (fun k h0 => hfr21 k (by omega)) hP hS (lv_sub hl [1, 2, 0] rfl)
          · refine lv_aload_n hx hb dX8_keepFirst_40 rfl (lv_at hl 0 rfl) ?_
            refine f_get (C := RX8) (T := TX8) (N := 11) hx hb hts (by decide +kernel) hown hK hP 0 (by omega) e_2 rfl 8 (by decide) (hts (.fieldLink RX8 44 "KeptMoving" "stretch" "LKeptMoving$Stretch;") (by decide +kernel)) (fun _ h9 => h9) rfl dX8_keepFirst_41 ?_
            refine lv_aload_n hx hb dX8_keepFirst_44 rfl (lv_at hl 0 rfl) ?_
            refine f_get (C := RX8) (T := TX8) (N := 11) hx hb hts (by decide +kernel) hown hK hP 0 (by omega) e_2 rfl 6 (by decide) (hts (.fieldLink RX8 30 "KeptMoving" "scene" "LKeptMoving$Scene;") (by decide +kernel)) (fun _ h9 => h9) rfl dX8_keepFirst_45 ?_
            refine lv_iload_n hx hb dX8_keepFirst_48 rfl (lv_at hl 1 rfl) ?_
            refine lv_iload_n hx hb dX8_keepFirst_49 rfl (lv_at hl 2 rfl) ?_
            refine vp_callSi (va_Run.run (va_runVN (As := [.int (iN ((i : Nat) : Int)), .int (iN ((j : Nat) : Int))]) (rest := [.ref (gad G 14)]) ⟨hx, hb, hml, hown, hts⟩ (c_X5_gap l G w2 came th ps vs i j e_3 e_4 e_5 e_6 (by omega) (by omega)) ⟨va_cnB 2 hts gX8_keepFirst_X5_gap_n250 rfl rfl rfl (hK.nm 27 rfl) (hts (.initialized RX5) (by decide +kernel)) (by decide +kernel) ⟨Nat.le_of_ble_eq_true rfl, Nat.le_of_ble_eq_true rfl⟩, hts (.instanceMethod yX5_gap) (by decide +kernel), hts (.selects RX5 yX5_gap yX5_gap) (by decide +kernel)⟩ (f_preV hP hK 6 (by omega) 4 e_3 rfl) rfl rfl hl.1 rfl (lv_room (Nat.le_of_ble_eq_true rfl)) dX8_keepFirst_50 ⟨Nat.zero_le _, Nat.zero_le _⟩)) (fun r_8 hr_8 => ?_)
            rw [show r_8 = iN (ps j - ps i) from hr_8]
            refine lv_aload_n hx hb dX8_keepFirst_53 rfl (lv_at hl 0 rfl) ?_
            refine f_get (C := RX8) (T := TX8) (N := 11) hx hb hts (by decide +kernel) hown hK hP 0 (by omega) e_2 rfl 6 (by decide) (hts (.fieldLink RX8 30 "KeptMoving" "scene" "LKeptMoving$Scene;") (by decide +kernel)) (fun _ h9 => h9) rfl dX8_keepFirst_54 ?_
            refine lv_iload_n hx hb dX8_keepFirst_57 rfl (lv_at hl 1 rfl) ?_
            refine lv_iload_n hx hb dX8_keepFirst_58 rfl (lv_at hl 2 rfl) ?_
            refine vp_callSi (va_Run.run (va_runVN (As := [.int (iN ((i : Nat) : Int)), .int (iN ((j : Nat) : Int))]) (rest := [.int (iN (ps j - ps i)), .ref (gad G 14)]) ⟨hx, hb, hml, hown, hts⟩ (c_X5_growth l G w2 came th ps vs i j e_3 e_4 e_5 e_6 (by omega) (by omega)) ⟨va_cnB 2 hts gX8_keepFirst_X5_growth_n253 rfl rfl rfl (hK.nm 28 rfl) (hts (.initialized RX5) (by decide +kernel)) (by decide +kernel) ⟨Nat.le_of_ble_eq_true rfl, Nat.le_of_ble_eq_true rfl⟩, hts (.instanceMethod yX5_growth) (by decide +kernel), hts (.selects RX5 yX5_growth yX5_growth) (by decide +kernel)⟩ (f_preV hP hK 6 (by omega) 4 e_3 rfl) rfl rfl hl.1 rfl (lv_room (Nat.le_of_ble_eq_true rfl)) dX8_keepFirst_59 ⟨Nat.zero_le _, Nat.zero_le _⟩)) (fun r_9 hr_9 => ?_)
            rw [show r_9 = iN (vs j - vs i) from hr_9]
            refine n_iconst hx hb dX8_keepFirst_62 ?_
            refine f_callv (va_Run.run (va_runVN (As := [.int (iN (ps j - ps i)), .int (iN (vs j - vs i)), .int (iN 0)]) (rest := []) ⟨hx, hb, hml, hown, hts⟩ (c_X7_keepAtMost l G w2 f un ((frI S f i j q).1) ((frI S f i j q).2.1) ((frI S f i j q).2.2) (ps j - ps i) (vs j - vs i) (0 : Int) f21_0 (by omega) (ka_p1 p2 (by omega) (by omega) (by omega)) (ka_p2 p2 (by omega) (by omega) (by omega)) (i21_1.1) (i21_1.2.1) (by omega) (by omega)) ⟨va_cnB 3 hts gX8_keepFirst_X7_keepAtMost_n286 rfl rfl rfl (hK.nm 48 rfl) (hts (.initialized RX7) (by decide +kernel)) (by decide +kernel) ⟨Nat.le_of_ble_eq_true rfl, Nat.le_of_ble_eq_true rfl⟩, hts (.instanceMethod yX7_keepAtMost) (by decide +kernel), hts (.selects RX7 yX7_keepAtMost yX7_keepAtMost) (by decide +kernel)⟩ (f_preV hP hK 14 (by omega) 6 f21_0 rfl) rfl rfl hl.1 rfl (lv_room (Nat.le_of_ble_eq_true rfl)) dX8_keepFirst_63 ⟨Nat.zero_le _, Nat.zero_le _⟩)) hS hAA (fun w_10 H locs q_11 hP hS => ?_)
            obtain ⟨fr_12, e_13⟩ := q_11
            have e_14 : w_10 0 = .inr (7, [.ref (gad G 1), .int (iN ((came : Nat) : Int)), .int (iN ((now : Nat) : Int)), .ref (gad G 2), .ref (gad G 5), .int (iN ((bc : Nat) : Int)), .ref (gad G 6), .ref (gad G 10), .ref (gad G 14), .ref (gad G 15), .ref (gad G 18)]) := (fr_12 0 (by omega)).trans e_2
            have e_15 : w_10 6 = .inr (4, [.ref (gad G 7), .ref (gad G 8), .ref (gad G 9), .int (iN ((came : Nat) : Int))]) := (fr_12 6 (by omega)).trans e_3
            have e_16 : w_10 7 = .inl (gZ G, 10, .inl (aN th)) := (fr_12 7 (by omega)).trans e_4
            have e_17 : w_10 8 = .inl (gI G, 10, .inl (aN ps)) := (fr_12 8 (by omega)).trans e_5
            have e_18 : w_10 9 = .inl (gI G, 10, .inl (aN vs)) := (fr_12 9 (by omega)).trans e_6
            have e_19 : w_10 14 = .inr (6, [.int (iN f), .long (jN un), .long (jN ((ka f (ps j - ps i) (vs j - vs i) (0 : Int) (((frI S f i j q).1), ((frI S f i j q).2.1), ((frI S f i j q).2.2))).1)), .long (jN ((ka f (ps j - ps i) (vs j - vs i) (0 : Int) (((frI S f i j q).1), ((frI S f i j q).2.1), ((frI S f i j q).2.2))).2.1)), .int (iN ((ka f (ps j - ps i) (vs j - vs i) (0 : Int) (((frI S f i j q).1), ((frI S f i j q).2.1), ((frI S f i j q).2.2))).2.2))]) := e_13
            refine lv_iinc (v := iN ((j + 1 : Nat) : Int)) (lv' := [(2, .int (iN ((j + 1 : Nat) : Int))), (0, .ref (gad G 0)), (1, .int (iN ((i : Nat) : Int)))]) hx hb dX8_keepFirst_66 hl (k := 2) rfl (iN_incN _) (by decide) rfl (fun ls hl => ?_)
            refine lv_goto (tgt := 21) hx hb dX8_keepFirst_69 (by decide) ?_
            exact ih21 (j + 1) w_10 _ _ _ (by omega) (by show okQ (if _ then _ else _); rw [if_pos (sc_yes p3 (by omega) c_37), ← (p3 i p0).2.1, ← (p3 j (by omega)).2.1, ← (p3 i p0).2.2, ← (p3 j (by omega)).2.2]; exact ka_ok i21_1 p2 (by omega) (by omega) (by omega)) (by omega) (by rw [frI_yes (sc_yes p3 (by omega) c_37), ← (p3 i p0).2.1, ← (p3 j (by omega)).2.1, ← (p3 i p0).2.2, ← (p3 j (by omega)).2.2]; exact e_19) (fun k h0 => ((fr_12 k (by omega)).trans (hfr21 k (by omega)))) hP hS (lv_sub hl [1, 2, 0] rfl)
    exact K21 ((11 - 0) + 1) (0) w _ _ _ (by omega) (p4) (by omega) (e5) (fun k _ => rfl) hP hS (lv_sub hl [1, 2, 0] rfl)
  · refine lv_aload_n hx hb dX8_keepFirst_11 rfl (lv_at hl 0 rfl) ?_
    refine f_get (C := RX8) (T := TX8) (N := 11) hx hb hts (by decide +kernel) hown hK hP 0 (by omega) e0 rfl 8 (by decide) (hts (.fieldLink RX8 44 "KeptMoving" "stretch" "LKeptMoving$Stretch;") (by decide +kernel)) (fun _ h9 => h9) rfl dX8_keepFirst_12 ?_
    refine f_callv (va_Run.run (va_runVN (As := []) (rest := []) ⟨hx, hb, hml, hown, hts⟩ (c_X7_keepNothing l G w f un q.1 q.2.1 q.2.2 e5) ⟨va_cnB 0 hts gX8_keepFirst_X7_keepNothing_n283 rfl rfl rfl (hK.nm 47 rfl) (hts (.initialized RX7) (by decide +kernel)) (by decide +kernel) ⟨Nat.le_of_ble_eq_true rfl, Nat.le_of_ble_eq_true rfl⟩, hts (.instanceMethod yX7_keepNothing) (by decide +kernel), hts (.selects RX7 yX7_keepNothing yX7_keepNothing) (by decide +kernel)⟩ (f_preV hP hK 14 (by omega) 6 e5 rfl) rfl rfl hl.1 rfl (lv_room (Nat.le_of_ble_eq_true rfl)) dX8_keepFirst_15 ⟨Nat.zero_le _, Nat.zero_le _⟩)) hS hAA (fun w_20 H locs q_21 hP hS => ?_)
    obtain ⟨fr_22, e_23⟩ := q_21
    have e_24 : w_20 0 = .inr (7, [.ref (gad G 1), .int (iN ((came : Nat) : Int)), .int (iN ((now : Nat) : Int)), .ref (gad G 2), .ref (gad G 5), .int (iN ((bc : Nat) : Int)), .ref (gad G 6), .ref (gad G 10), .ref (gad G 14), .ref (gad G 15), .ref (gad G 18)]) := (fr_22 0 (by omega)).trans e0
    have e_25 : w_20 6 = .inr (4, [.ref (gad G 7), .ref (gad G 8), .ref (gad G 9), .int (iN ((came : Nat) : Int))]) := (fr_22 6 (by omega)).trans e1
    have e_26 : w_20 7 = .inl (gZ G, 10, .inl (aN th)) := (fr_22 7 (by omega)).trans e2
    have e_27 : w_20 8 = .inl (gI G, 10, .inl (aN ps)) := (fr_22 8 (by omega)).trans e3
    have e_28 : w_20 9 = .inl (gI G, 10, .inl (aN vs)) := (fr_22 9 (by omega)).trans e4
    have e_29 : w_20 14 = .inr (6, [.int (iN f), .long (jN un), .long (jN q.1), .long (jN q.2.1), .int (iN 1)]) := e_23
    exact r_v hx hb hr dX8_keepFirst_18 hlocks hP hS (⟨(fun k h0 => fr_22 k (by omega)), (by unfold frS; rw [if_neg (sc_no p3 p0 c_8)]; exact e_29)⟩)
