/-! class and model side by side: what holds of the courses, and goes on holding -/
def IVC (st pl sp : Nat → Int) (np : Nat) (stop now : Int) : Prop := (1 ≤ np ∧ np ≤ 8) ∧ (-1 ≤ stop ∧ stop ≤ now) ∧ (∀ p : Nat, p < np → (0 ≤ st p ∧ st p ≤ now) ∧ (-50 ≤ sp p ∧ sp p ≤ 50) ∧ (-(1000 + 50 * st p) ≤ pl p ∧ pl p ≤ 1000 + 50 * st p)) ∧ ∀ p : Nat, p + 1 < np → st p < st (p + 1)
def IVS (S : FS) (came : Nat) (now : Nat) : Prop := came ≤ 10 ∧ now ≤ 400 ∧ (∀ i : Nat, i < came → IVC (S.1 i) (S.2.1 i) (S.2.2.1 i) (S.2.2.2.1 i) (S.2.2.2.2 i) (now : Int)) ∧ ∀ i j : Nat, i ≤ j → j < came → S.1 i 0 ≤ S.1 j 0
def AGC (st pl sp : Nat → Int) (np : Nat) (stop : Int) (su pm sq : Nat → Int) (nq : Nat) (stoq : Int) : Prop := (np = nq ∧ stop = stoq) ∧ ∀ p : Nat, p < np → st p = su p ∧ pl p = pm p ∧ sp p = sq p
def REL (S T : FS) (came now : Nat) : Prop := IVS S came now ∧ ∀ i : Nat, i < came → AGC (S.1 i) (S.2.1 i) (S.2.2.1 i) (S.2.2.2.1 i) (S.2.2.2.2 i) (T.1 i) (T.2.1 i) (T.2.2.1 i) (T.2.2.2.1 i) (T.2.2.2.2 i)
theorem IVC.ok {st pl sp : Nat → Int} {np : Nat} {stop now : Int} (h : IVC st pl sp np stop now) (hn : now ≤ 400) : OKC st pl sp np stop := by
  obtain ⟨h1, h2, h3, -⟩ := h
  refine ⟨h1, fun p hp => ?_, by omega, fun p hp => ?_⟩
  · have := h3 p hp
    omega
  · have := h3 p hp
    omega
theorem IVS.okm {S : FS} {came now : Nat} (h : IVS S came now) : OKM9 S came := ⟨h.1, fun i hi => (h.2.2.1 i hi).ok (by have := h.2.1; omega), fun i p hi hp => (h.2.2.1 i hi).2.2.2 p hp⟩
theorem IVS.oks {cst cpl csp : Nat → Nat → Int} {cnp : Nat → Nat} {cstop : Nat → Int} {came now : Nat} (h : IVS (cst, cpl, csp, cnp, cstop) came now) : OKS came cst cpl csp cnp cstop := ⟨h.1, fun i hi => (h.2.2.1 i hi).ok (by have := h.2.1; omega)⟩
theorem IVS.inv {S : FS} {came now : Nat} (h : IVS S came now) : INVt S came (now : Int) := fun i hi => ⟨fun p hp => ((h.2.2.1 i hi).2.2.1 p hp).1.2, (h.2.2.1 i hi).2.1.2⟩
theorem IVC.agc {st pl sp : Nat → Int} {np : Nat} {stop : Int} {su pm sq : Nat → Int} {nq : Nat} {stoq : Int} {now : Int} (h : IVC st pl sp np stop now) (a : AGC st pl sp np stop su pm sq nq stoq) : IVC su pm sq nq stoq now := by
  obtain ⟨h1, h2, h3, h4⟩ := h
  obtain ⟨⟨rfl, rfl⟩, a3⟩ := a
  refine ⟨h1, h2, fun p hp => ?_, fun p hp => ?_⟩
  · obtain ⟨e1, e2, e3⟩ := a3 p hp
    rw [← e1, ← e2, ← e3]
    exact h3 p hp
  · rw [← (a3 p (by omega)).1, ← (a3 (p + 1) hp).1]
    exact h4 p hp
theorem REL.agr {S T : FS} {came now : Nat} (h : REL S T came now) : AGR came S T := fun i hi => ⟨⟨(h.2 i hi).1.1, (h.2 i hi).1.2, (h.1.2.2.1 i hi).1.1⟩, (h.2 i hi).2⟩
theorem REL.ivt {S T : FS} {came now : Nat} (h : REL S T came now) : IVS T came now := ⟨h.1.1, h.1.2.1, fun i hi => (h.1.2.2.1 i hi).agc (h.2 i hi), fun i j hij hj => by
  rw [← ((h.2 i (by omega)).2 0 (h.1.2.2.1 i (by omega)).1.1).1, ← ((h.2 j hj).2 0 (h.1.2.2.1 j hj).1.1).1]
  exact h.1.2.2.2 i j hij hj⟩
theorem rw8_up {a : Nat → Int} {i q : Nat} {x : Int} {j p : Nat} (hq : q < 8) (hp : p < 8) : rw8 (va_up a (8 * i + q) x) j p = if j = i ∧ p = q then x else rw8 a j p := by
  unfold rw8 va_up
  by_cases h : j = i ∧ p = q
  · rw [if_pos h, if_pos (by omega)]
  · rw [if_neg h, if_neg (by omega)]
theorem rel_mono {S T : FS} {came now n : Nat} (h : REL S T came now) (hn : now + n ≤ 400) : REL S T came (now + n) := ⟨⟨h.1.1, hn, fun i hi => by
  obtain ⟨h1, h2, h3, h4⟩ := h.1.2.2.1 i hi
  exact ⟨h1, by omega, fun p hp => by have := h3 p hp; omega, h4⟩, h.1.2.2.2⟩, h.2⟩
section RL
variable {cst cpl csp : Nat → Nat → Int} {cnp : Nat → Nat} {cstop : Nat → Int} {mbe mpl msp : Nat → Int} {pn : Nat → Nat} {ga : Nat → Int} {came now : Nat}
theorem rel_point (h : REL (cst, cpl, csp, cnp, cstop) (rw8 mbe, rw8 mpl, rw8 msp, pn, ga) came now) {x v : Int} (hc : came < 10) (hx : -1000 ≤ x ∧ x ≤ 1000) (hv : -50 ≤ v ∧ v ≤ 50) :
    REL (va_up cst came (va_up (cst came) 0 (now : Int)), va_up cpl came (va_up (cpl came) 0 x), va_up csp came (va_up (csp came) 0 v), va_up cnp came 1, va_up cstop came (-1))
      (rw8 (va_up mbe (8 * came) (now : Int)), rw8 (va_up mpl (8 * came) x), rw8 (va_up msp (8 * came) v), va_up pn came 1, va_up ga came (-1)) (came + 1) now := by
  obtain ⟨⟨h1, h2, h3, h4⟩, h5⟩ := h
  have z : ∀ {α : Type} (f : Nat → α) (y : α), va_up f came y came = y := fun f y => va_up_self _ _ _
  have n : ∀ {α : Type} (f : Nat → α) (y : α) {j : Nat}, j < came → va_up f came y j = f j := fun f y j hj => va_up_ne _ _ (by omega)
  refine ⟨⟨by omega, h2, fun i hi => ?_, fun i j hij hj => ?_⟩, fun i hi => ?_⟩
  · by_cases e : i = came
    · subst e
      dsimp only
      rw [z, z, z, z, z]
      refine ⟨by omega, by omega, fun p hp => ?_, fun p hp => by omega⟩
      obtain rfl : p = 0 := by omega
      rw [va_up_self, va_up_self, va_up_self]
      omega
    · have hi2 : i < came := by omega
      dsimp only
      rw [n _ _ hi2, n _ _ hi2, n _ _ hi2, n _ _ hi2, n _ _ hi2]
      exact h3 i hi2
  · dsimp only
    by_cases e : j = came
    · subst e
      rw [z, va_up_self]
      by_cases e2 : i = j
      · subst e2
        rw [z, va_up_self]
        exact Int.le_refl _
      · rw [n _ _ (show i < j by omega)]
        obtain ⟨⟨c1, c2⟩, -, c3, -⟩ := h3 i (by omega)
        exact (c3 0 c1).1.2
    · rw [n _ _ (show i < came by omega), n _ _ (show j < came by omega)]
      exact h4 i j hij (by omega)
  · by_cases e : i = came
    · subst e
      dsimp only
      rw [z, z, z, z, z, z, z]
      refine ⟨⟨rfl, rfl⟩, fun p hp => ?_⟩
      obtain rfl : p = 0 := by omega
      rw [va_up_self, va_up_self, va_up_self]
      have e1 : ∀ (a : Nat → Int) (y : Int), rw8 (va_up a (8 * i) y) i 0 = y := fun a y => (rw8_up (a := a) (i := i) (q := 0) (x := y) (j := i) (p := 0) (by omega) (by omega)).trans (if_pos ⟨rfl, rfl⟩)
      exact ⟨(e1 _ _).symm, (e1 _ _).symm, (e1 _ _).symm⟩
    · have hi2 : i < came := by omega
      dsimp only
      rw [n _ _ hi2, n _ _ hi2, n _ _ hi2, n _ _ hi2, n _ _ hi2, n _ _ hi2, n _ _ hi2]
      obtain ⟨a1, a2⟩ := h5 i hi2
      obtain ⟨⟨c1, c2⟩, -⟩ := h3 i hi2
      refine ⟨a1, fun p hp => ?_⟩
      have e1 : ∀ (a : Nat → Int) (y : Int), rw8 (va_up a (8 * came) y) i p = rw8 a i p := fun a y => (rw8_up (a := a) (i := came) (q := 0) (x := y) (j := i) (p := p) (by omega) (by dsimp only at c2 hp; omega)).trans (if_neg (by omega))
      rw [e1, e1, e1]
      exact a2 p hp
/-- one course changed in both -/
theorem rel_one (h : REL (cst, cpl, csp, cnp, cstop) (rw8 mbe, rw8 mpl, rw8 msp, pn, ga) came now) {i : Nat} (hi : i < came) {st pl sp : Nat → Int} {np : Nat} {stop : Int} {nbe nms npl : Nat → Int} {pm : Nat → Nat} {gb : Nat → Int}
    (hV : IVC st pl sp np stop (now : Int)) (h0 : st 0 = cst i 0) (hA : AGC st pl sp np stop (rw8 nbe i) (rw8 npl i) (rw8 nms i) (pm i) (gb i))
    (hO : ∀ j, j ≠ i → (pm j = pn j ∧ gb j = ga j) ∧ ∀ p, p < 8 → rw8 nbe j p = rw8 mbe j p ∧ rw8 npl j p = rw8 mpl j p ∧ rw8 nms j p = rw8 msp j p) :
    REL (va_up cst i st, va_up cpl i pl, va_up csp i sp, va_up cnp i np, va_up cstop i stop) (rw8 nbe, rw8 npl, rw8 nms, pm, gb) came now := by
  obtain ⟨⟨h1, h2, h3, h4⟩, h5⟩ := h
  refine ⟨⟨h1, h2, fun j hj => ?_, fun a b hab hb => ?_⟩, fun j hj => ?_⟩
  · by_cases e : j = i
    · subst e
      dsimp only
      rw [va_up_self, va_up_self, va_up_self, va_up_self, va_up_self]
      exact hV
    · dsimp only
      rw [va_up_ne _ _ e, va_up_ne _ _ e, va_up_ne _ _ e, va_up_ne _ _ e, va_up_ne _ _ e]
      exact h3 j hj
  · have g : ∀ a, va_up cst i st a 0 = cst a 0 := fun a => by
      by_cases e : a = i
      · subst e
        rw [va_up_self]
        exact h0
      · rw [va_up_ne _ _ e]
    dsimp only
    rw [g, g]
    exact h4 a b hab hb
  · by_cases e : j = i
    · subst e
      dsimp only
      rw [va_up_self, va_up_self, va_up_self, va_up_self, va_up_self]
      exact hA
    · obtain ⟨⟨o1, o2⟩, o3⟩ := hO j e
      obtain ⟨⟨a1, a2⟩, a3⟩ := h5 j hj
      obtain ⟨⟨c1, c2⟩, -⟩ := h3 j hj
      dsimp only at a1 a2 a3 c1 c2 ⊢
      rw [va_up_ne _ _ e, va_up_ne _ _ e, va_up_ne _ _ e, va_up_ne _ _ e, va_up_ne _ _ e]
      refine ⟨⟨by rw [o1]; exact a1, by rw [o2]; exact a2⟩, fun p hp => ?_⟩
      obtain ⟨x1, x2, x3⟩ := o3 p (by omega)
      rw [x1, x2, x3]
      exact a3 p hp
theorem rel_gone (h : REL (cst, cpl, csp, cnp, cstop) (rw8 mbe, rw8 mpl, rw8 msp, pn, ga) came now) {i : Nat} (hi : i < came) :
    REL (va_up cst i (cst i), va_up cpl i (cpl i), va_up csp i (csp i), va_up cnp i (cnp i), va_up cstop i (now : Int)) (rw8 mbe, rw8 mpl, rw8 msp, pn, va_up ga i (now : Int)) came now := by
  obtain ⟨c1, c2, c3, c4⟩ := h.1.2.2.1 i hi
  obtain ⟨⟨a1, a2⟩, a3⟩ := h.2 i hi
  refine rel_one h hi ⟨c1, by omega, c3, c4⟩ rfl ⟨⟨a1, (va_up_self _ _ _).symm⟩, a3⟩ fun j hj => ⟨⟨rfl, va_up_ne _ _ hj⟩, fun p _ => ⟨rfl, rfl, rfl⟩⟩
theorem rel_turn_a (h : REL (cst, cpl, csp, cnp, cstop) (rw8 mbe, rw8 mpl, rw8 msp, pn, ga) came now) {i : Nat} (hi : i < came) {v : Int} (hv : -50 ≤ v ∧ v ≤ 50) (hl : cst i (cnp i - 1) = (now : Int)) :
    REL (va_up cst i (cst i), va_up cpl i (cpl i), va_up csp i (va_up (csp i) (cnp i - 1) v), va_up cnp i (cnp i), va_up cstop i (cstop i)) (rw8 mbe, rw8 mpl, rw8 (va_up msp (8 * i + (pn i - 1)) v), pn, ga) came now := by
  obtain ⟨c1, c2, c3, c4⟩ := h.1.2.2.1 i hi
  obtain ⟨⟨a1, a2⟩, a3⟩ := h.2 i hi
  dsimp only at c1 c2 c3 c4 a1 a2 a3
  refine rel_one h hi ⟨c1, c2, fun p hp => ?_, c4⟩ rfl ⟨⟨a1, a2⟩, fun p hp => ?_⟩ fun j hj => ⟨⟨rfl, rfl⟩, fun p hp => ⟨rfl, rfl, ?_⟩⟩
  · obtain ⟨d1, d2, d3⟩ := c3 p hp
    refine ⟨d1, ?_, d3⟩
    unfold va_up
    split
    · exact hv
    · exact d2
  · obtain ⟨d1, d2, d3⟩ := a3 p hp
    refine ⟨d1, d2, ?_⟩
    rw [rw8_up (by omega) (by omega), ← a1, ← d3]
    unfold va_up
    by_cases e : p = cnp i - 1
    · rw [if_pos e, if_pos ⟨rfl, e⟩]
    · rw [if_neg e, if_neg (fun z => e z.2)]
  · rw [rw8_up (by omega) hp, if_neg (fun z => hj z.1)]
theorem pc_last {st : Nat → Int} {np : Nat} {now : Int} (h1 : 1 ≤ np) (h : ∀ p, p < np → st p ≤ now) : pcAt st now 1 np = np - 1 := by
  obtain ⟨k, rfl⟩ : ∃ k, np = k + 1 := ⟨np - 1, by omega⟩
  unfold pcAt
  have := h k (by omega)
  rcases Nat.eq_zero_or_pos k with z | z
  · subst z
    rw [if_neg (by omega)]
    rfl
  · rw [if_pos ⟨z, by omega⟩]
    rfl
theorem rel_turn_b (h : REL (cst, cpl, csp, cnp, cstop) (rw8 mbe, rw8 mpl, rw8 msp, pn, ga) came now) {i : Nat} (hi : i < came) {v : Int} (hv : -50 ≤ v ∧ v ≤ 50) (hl : cst i (cnp i - 1) ≠ (now : Int)) (h8 : cnp i < 8) :
    REL (va_up cst i (va_up (cst i) (cnp i) (now : Int)), va_up cpl i (va_up (cpl i) (cnp i) (upAt (va_up (cst i) (cnp i) (now : Int)) (cpl i) (csp i) (cnp i) (now : Int) 1)), va_up csp i (va_up (csp i) (cnp i) v), va_up cnp i (cnp i + 1), va_up cstop i (cstop i))
      (rw8 (va_up mbe (8 * i + pn i) (now : Int)), rw8 (va_up mpl (8 * i + pn i) (mpl (8 * i + (pn i - 1)) + msp (8 * i + (pn i - 1)) * ((now : Int) - mbe (8 * i + (pn i - 1))))), rw8 (va_up msp (8 * i + pn i) v), va_up pn i (pn i + 1), ga) came now := by
  obtain ⟨c1, c2, c3, c4⟩ := h.1.2.2.1 i hi
  have hn := h.1.2.1
  obtain ⟨⟨a1, a2⟩, a3⟩ := h.2 i hi
  dsimp only at c1 c2 c3 c4 a1 a2 a3
  obtain ⟨l1, l2, l3⟩ := c3 (cnp i - 1) (by omega)
  obtain ⟨b1, b2, b3⟩ := a3 (cnp i - 1) (by omega)
  have hup : upAt (va_up (cst i) (cnp i) (now : Int)) (cpl i) (csp i) (cnp i) (now : Int) 1 = cpl i (cnp i - 1) + csp i (cnp i - 1) * ((now : Int) - cst i (cnp i - 1)) := by
    have e1 : pcAt (va_up (cst i) (cnp i) (now : Int)) (now : Int) 1 (cnp i) = cnp i - 1 := pc_last c1.1 fun p hp => by
      rw [va_up_ne _ _ (by omega)]
      exact (c3 p hp).1.2
    unfold upAt
    rw [e1, va_up_ne _ _ (by omega), Int.mul_one, Int.mul_one]
  have hm := mb3 (a := csp i (cnp i - 1)) (b := (now : Int) - cst i (cnp i - 1)) (A := 50) (B := (now : Int) - cst i (cnp i - 1)) (by omega) (by omega)
  refine rel_one h hi ⟨by omega, c2, fun p hp => ?_, fun p hp => ?_⟩ (va_up_ne _ _ (by omega)) ⟨⟨by rw [va_up_self, a1], a2⟩, fun p hp => ?_⟩ fun j hj => ⟨⟨va_up_ne _ _ hj, rfl⟩, fun p hp => ?_⟩
  · by_cases e : p = cnp i
    · subst e
      rw [va_up_self, va_up_self, va_up_self, hup]
      omega
    · rw [va_up_ne _ _ e, va_up_ne _ _ e, va_up_ne _ _ e]
      exact c3 p (by omega)
  · by_cases e : p + 1 = cnp i
    · rw [e, va_up_self, va_up_ne _ _ (by omega), show p = cnp i - 1 by omega]
      omega
    · rw [va_up_ne _ _ (by omega), va_up_ne _ _ e]
      exact c4 p (by omega)
  · rw [rw8_up (by omega) (by omega), rw8_up (by omega) (by omega), rw8_up (by omega) (by omega), ← a1]
    by_cases e : p = cnp i
    · subst e
      rw [va_up_self, va_up_self, va_up_self, if_pos ⟨rfl, rfl⟩, if_pos ⟨rfl, rfl⟩, if_pos ⟨rfl, rfl⟩, hup, b1, b2, b3]
      exact ⟨rfl, rfl, rfl⟩
    · rw [va_up_ne _ _ e, va_up_ne _ _ e, va_up_ne _ _ e, if_neg (fun z => e z.2), if_neg (fun z => e z.2), if_neg (fun z => e z.2)]
      exact a3 p (by omega)
  · rw [rw8_up (by omega) hp, rw8_up (by omega) hp, rw8_up (by omega) hp, if_neg (fun z => hj z.1), if_neg (fun z => hj z.1), if_neg (fun z => hj z.1)]
    exact ⟨rfl, rfl, rfl⟩
theorem cutP_spec {st : Nat → Int} {t : Int} : ∀ {np : Nat}, 1 ≤ np → (1 ≤ cutP st t np ∧ cutP st t np ≤ np) ∧ (cutP st t np = 1 ∨ st (cutP st t np - 1) < t)
  | 0, h => absurd h (by decide)
  | 1, _ => ⟨⟨Nat.le_refl 1, Nat.le_refl 1⟩, Or.inl rfl⟩
  | k + 2, _ => by
    obtain ⟨h1, h2⟩ := cutP_spec (st := st) (t := t) (np := k + 1) (by omega)
    unfold cutP
    split
    · exact ⟨by omega, h2⟩
    · rename_i h
      exact ⟨by omega, Or.inr (by show st (k + 1) < t; omega)⟩
theorem cutP_cg {st su : Nat → Int} {t : Int} : ∀ {np : Nat}, (∀ p, p < np → st p = su p) → cutP st t np = cutP su t np
  | 0, _ => rfl
  | 1, _ => rfl
  | k + 2, h => by
    have ih := cutP_cg (t := t) (np := k + 1) (fun p hp => h p (by omega))
    unfold cutP
    rw [ih, h (k + 1) (by omega)]
theorem cutC_spec (cst : Nat → Nat → Int) (t : Int) : ∀ k, cutC cst t k = 0 ∨ (1 ≤ cutC cst t k ∧ cst (cutC cst t k - 1) 0 < t)
  | 0 => Or.inl rfl
  | k + 1 => by
    have ih := cutC_spec cst t k
    unfold cutC
    split
    · exact ih
    · rename_i h
      exact Or.inr ⟨by omega, by show cst k 0 < t; omega⟩
theorem cutC_cg {cst csu : Nat → Nat → Int} {t : Int} : ∀ {k : Nat}, (∀ i, i < k → cst i 0 = csu i 0) → cutC cst t k = cutC csu t k
  | 0, _ => rfl
  | k + 1, h => by
    have ih := cutC_cg (t := t) (k := k) (fun i hi => h i (by omega))
    unfold cutC
    rw [ih, h k (by omega)]
theorem ivc_cut {st pl sp : Nat → Int} {np : Nat} {stop now t : Int} (h : IVC st pl sp np stop now) (h0 : st 0 < t) : IVC st pl sp (cutP st t np) (if t ≤ stop then -1 else stop) t := by
  obtain ⟨h1, h2, h3, h4⟩ := h
  obtain ⟨k1, k2⟩ := cutP_spec (st := st) (t := t) h1.1
  have hz := (h3 0 (by omega)).1
  have hle : ∀ b a : Nat, a ≤ b → b < np → st a ≤ st b := by
    intro b
    induction b with
    | zero => intro a ha _; rw [show a = 0 by omega]; exact Int.le_refl _
    | succ b ih =>
      intro a ha hb
      rcases Nat.lt_or_ge a (b + 1) with z | z
      · have := ih a (by omega) (by omega)
        have := h4 b hb
        omega
      · rw [show a = b + 1 by omega]
        exact Int.le_refl _
  refine ⟨by omega, by split <;> omega, fun p hp => ?_, fun p hp => h4 p (by omega)⟩
  obtain ⟨d1, d2, d3⟩ := h3 p (by omega)
  refine ⟨⟨d1.1, ?_⟩, d2, d3⟩
  rcases k2 with k2 | k2
  · rw [show p = 0 by omega]
    omega
  · have := hle (cutP st t np - 1) p (by omega) (by omega)
    omega
theorem rel_back (h : REL (cst, cpl, csp, cnp, cstop) (rw8 mbe, rw8 mpl, rw8 msp, pn, ga) came now) {n : Nat} (hn : n ≤ now) :
    cutC (rw8 mbe) ((now - n : Nat) : Int) came = cutC cst ((now - n : Nat) : Int) came ∧
    REL (cst, cpl, csp, ufN cst ((now - n : Nat) : Int) cnp (cutC cst ((now - n : Nat) : Int) came), ufS ((now - n : Nat) : Int) cstop (cutC cst ((now - n : Nat) : Int) came))
      (rw8 mbe, rw8 mpl, rw8 msp, ufN (rw8 mbe) ((now - n : Nat) : Int) pn (cutC cst ((now - n : Nat) : Int) came), ufS ((now - n : Nat) : Int) ga (cutC cst ((now - n : Nat) : Int) came)) (cutC cst ((now - n : Nat) : Int) came) (now - n) := by
  obtain ⟨⟨h1, h2, h3, h4⟩, h5⟩ := h
  generalize ht : ((now - n : Nat) : Int) = t
  have hle := cutC_le cst t came
  have hsp := cutC_spec cst t came
  have hcc : cutC (rw8 mbe) t came = cutC cst t came := (cutC_cg fun i hi => ((h5 i hi).2 0 (h3 i hi).1.1).1).symm
  refine ⟨hcc, ⟨by omega, by omega, fun i hi => ?_, fun i j hij hj => h4 i j hij (by omega)⟩, fun i hi => ?_⟩
  · have h0 : cst i 0 < t := by
      rcases hsp with z | ⟨z, y⟩
      · omega
      · have := h4 i (cutC cst t came - 1) (by omega) (by omega)
        dsimp only at this
        omega
    have := ivc_cut (h3 i (by omega)) h0
    rw [ht]
    unfold ufN ufS
    dsimp only
    rw [if_pos hi, if_pos hi]
    exact this
  · obtain ⟨⟨a1, a2⟩, a3⟩ := h5 i (by omega)
    dsimp only at a1 a2 a3
    have hk := (cutP_spec (st := cst i) (t := t) (h3 i (by omega)).1.1).1
    unfold ufN ufS
    dsimp only
    rw [if_pos hi, if_pos hi, if_pos hi, if_pos hi]
    refine ⟨⟨by rw [← a1]; exact cutP_cg fun p hp => (a3 p hp).1, by rw [a2]⟩, fun p hp => a3 p (by dsimp only at hk; omega)⟩
end RL
