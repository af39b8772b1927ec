/-! lists of intervals on the grid -/
abbrev IL : Type := List (Int × Int)
def memI (L : IL) (t : Int) : Prop := ∃ q, q ∈ L ∧ q.1 ≤ t ∧ t ≤ q.2
def SEPL (L : IL) : Prop := L.Pairwise (fun a b => a.2 < b.1) ∧ ∀ q, q ∈ L → q.1 ≤ q.2 ∧ q.1 % 2 = 0 ∧ q.2 % 2 = 0
def SEPX (L : IL) (X : Int) : Prop := SEPL L ∧ ∀ q, q ∈ L → q.2 ≤ X
def addI (x : Int × Int) (L : IL) : IL := match L.getLast? with
  | some z => if x.1 ≤ z.2 then L.dropLast ++ [(z.1, x.2)] else L ++ [x]
  | none => [x]
theorem addI_c (x : Int × Int) (L0 : IL) (z : Int × Int) : addI x (L0 ++ [z]) = if x.1 ≤ z.2 then L0 ++ [(z.1, x.2)] else L0 ++ [z] ++ [x] := by
  unfold addI
  rw [List.getLast?_append]
  show (if _ then _ else _) = _
  rw [List.dropLast_concat]
  rfl
theorem memI_app (L R : IL) (t : Int) : memI (L ++ R) t ↔ memI L t ∨ memI R t := by
  unfold memI
  constructor
  · rintro ⟨q, hq, h⟩
    rcases List.mem_append.mp hq with g | g
    · exact Or.inl ⟨q, g, h⟩
    · exact Or.inr ⟨q, g, h⟩
  · rintro (⟨q, hq, h⟩ | ⟨q, hq, h⟩)
    · exact ⟨q, List.mem_append.mpr (Or.inl hq), h⟩
    · exact ⟨q, List.mem_append.mpr (Or.inr hq), h⟩
theorem memI_one (z : Int × Int) (t : Int) : memI [z] t ↔ z.1 ≤ t ∧ t ≤ z.2 := by
  unfold memI
  constructor
  · rintro ⟨q, hq, h⟩
    rw [List.mem_singleton.mp hq] at h
    exact h
  · intro h
    exact ⟨z, List.mem_singleton.mpr rfl, h⟩
theorem memI_nil (t : Int) : ¬ memI [] t := by
  rintro ⟨q, hq, -⟩
  exact absurd hq List.not_mem_nil
theorem memI_cons (z : Int × Int) (L : IL) (t : Int) : memI (z :: L) t ↔ (z.1 ≤ t ∧ t ≤ z.2) ∨ memI L t := by
  rw [show z :: L = [z] ++ L from rfl, memI_app, memI_one]
theorem addI_spec {L : IL} {X X1 : Int} {x : Int × Int} (h : SEPX L X) (h0 : X ≤ x.1) (h1 : x.1 ≤ x.2) (h2 : x.2 ≤ X1) (e1 : x.1 % 2 = 0) (e2 : x.2 % 2 = 0) : SEPX (addI x L) X1 ∧ ∀ t, memI (addI x L) t ↔ memI L t ∨ (x.1 ≤ t ∧ t ≤ x.2) := by
  rcases List.eq_nil_or_concat L with hL | ⟨L0, z, hL⟩
  · subst hL
    refine ⟨⟨⟨List.pairwise_singleton _ _, fun q hq => ?_⟩, fun q hq => ?_⟩, fun t => ?_⟩
    · rw [List.mem_singleton.mp hq]
      exact ⟨h1, e1, e2⟩
    · rw [List.mem_singleton.mp hq]
      exact h2
    · show memI [x] t ↔ _
      rw [memI_one]
      exact ⟨Or.inr, fun g => g.elim (fun g => absurd g (memI_nil t)) id⟩
  · rw [List.concat_eq_append] at hL
    subst hL
    obtain ⟨⟨hp, hq⟩, hX⟩ := h
    have hz := hq z (List.mem_append.mpr (Or.inr (List.mem_singleton.mpr rfl)))
    have hzX := hX z (List.mem_append.mpr (Or.inr (List.mem_singleton.mpr rfl)))
    rw [List.pairwise_append] at hp
    obtain ⟨p1, -, p3⟩ := hp
    rw [addI_c]
    by_cases hc : x.1 ≤ z.2
    · rw [if_pos hc]
      refine ⟨⟨⟨List.pairwise_append.mpr ⟨p1, List.pairwise_singleton _ _, fun a ha b hb => ?_⟩, fun q hqm => ?_⟩, fun q hqm => ?_⟩, fun t => ?_⟩
      · rw [List.mem_singleton.mp hb]
        exact p3 a ha z (List.mem_singleton.mpr rfl)
      · rcases List.mem_append.mp hqm with g | g
        · exact hq q (List.mem_append.mpr (Or.inl g))
        · rw [List.mem_singleton.mp g]
          exact ⟨by dsimp only; omega, hz.2.1, e2⟩
      · rcases List.mem_append.mp hqm with g | g
        · have := hX q (List.mem_append.mpr (Or.inl g))
          omega
        · rw [List.mem_singleton.mp g]
          exact h2
      · rw [memI_app, memI_app, memI_one, memI_one]
        dsimp only
        constructor
        · rintro (g | g)
          · exact Or.inl (Or.inl g)
          · by_cases g2 : t ≤ z.2
            · exact Or.inl (Or.inr ⟨g.1, g2⟩)
            · exact Or.inr ⟨by omega, g.2⟩
        · rintro ((g | g) | g)
          · exact Or.inl g
          · exact Or.inr ⟨g.1, by omega⟩
          · exact Or.inr ⟨by omega, g.2⟩
    · rw [if_neg hc]
      refine ⟨⟨⟨List.pairwise_append.mpr ⟨List.pairwise_append.mpr ⟨p1, List.pairwise_singleton _ _, p3⟩, List.pairwise_singleton _ _, fun a ha b hb => ?_⟩, fun q hqm => ?_⟩, fun q hqm => ?_⟩, fun t => ?_⟩
      · rw [List.mem_singleton.mp hb]
        rcases List.mem_append.mp ha with g | g
        · have g1 := p3 a g z (List.mem_singleton.mpr rfl)
          omega
        · rw [List.mem_singleton.mp g]
          omega
      · rcases List.mem_append.mp hqm with g | g
        · exact hq q g
        · rw [List.mem_singleton.mp g]
          exact ⟨h1, e1, e2⟩
      · rcases List.mem_append.mp hqm with g | g
        · have := hX q g
          omega
        · rw [List.mem_singleton.mp g]
          exact h2
      · rw [memI_app, memI_one]
theorem il_le {a : Int × Int} {R : IL} (h : SEPL (a :: R)) {t : Int} (ht : memI (a :: R) t) : a.1 ≤ t := by
  obtain ⟨hp, hq⟩ := h
  rw [memI_cons] at ht
  rcases ht with g | ⟨q, hqm, g⟩
  · exact g.1
  · have g1 := (List.pairwise_cons.mp hp).1 q hqm
    have g2 := hq a List.mem_cons_self
    omega
theorem il_tail {a : Int × Int} {R : IL} (h : SEPL (a :: R)) (t : Int) : memI R t ↔ memI (a :: R) t ∧ a.2 < t := by
  obtain ⟨hp, hq⟩ := h
  constructor
  · intro g
    refine ⟨(memI_cons _ _ _).mpr (Or.inr g), ?_⟩
    obtain ⟨q, hqm, g⟩ := g
    have g1 := (List.pairwise_cons.mp hp).1 q hqm
    omega
  · rintro ⟨g, g2⟩
    rcases (memI_cons _ _ _).mp g with g3 | g3
    · omega
    · exact g3
theorem SEPL.tail {a : Int × Int} {R : IL} (h : SEPL (a :: R)) : SEPL R := ⟨(List.pairwise_cons.mp h.1).2, fun q hq => h.2 q (List.mem_cons_of_mem _ hq)⟩
theorem il_end {a c : Int × Int} {R Q : IL} (h : SEPL (a :: R)) (g : SEPL (c :: Q)) (hm : ∀ t, memI (a :: R) t ↔ memI (c :: Q) t) (e : a.1 = c.1) : ¬ a.2 < c.2 := fun z => by
  have ha := h.2 a List.mem_cons_self
  have hc := g.2 c List.mem_cons_self
  have h1 : memI (c :: Q) (a.2 + 1) := (memI_cons _ _ _).mpr (Or.inl ⟨by omega, by omega⟩)
  rw [← hm, memI_cons] at h1
  rcases h1 with h1 | ⟨q, hq, h1⟩
  · omega
  · have h2 := (List.pairwise_cons.mp h.1).1 q hq
    have h3 := h.2 q (List.mem_cons_of_mem _ hq)
    omega
theorem il_uniq : ∀ {L Q : IL}, SEPL L → SEPL Q → (∀ t, memI L t ↔ memI Q t) → L = Q
  | [], [], _, _, _ => rfl
  | [], c :: Q, _, g, hm => by
    exfalso
    have hc := g.2 c List.mem_cons_self
    exact memI_nil c.1 ((hm c.1).mpr ((memI_cons _ _ _).mpr (Or.inl ⟨Int.le_refl _, hc.1⟩)))
  | a :: R, [], h, _, hm => by
    exfalso
    have ha := h.2 a List.mem_cons_self
    exact memI_nil a.1 ((hm a.1).mp ((memI_cons _ _ _).mpr (Or.inl ⟨Int.le_refl _, ha.1⟩)))
  | a :: R, c :: Q, h, g, hm => by
    have ha := h.2 a List.mem_cons_self
    have hc := g.2 c List.mem_cons_self
    have e1 : a.1 = c.1 := by
      have z1 := il_le g ((hm a.1).mp ((memI_cons _ _ _).mpr (Or.inl ⟨Int.le_refl _, ha.1⟩)))
      have z2 := il_le h ((hm c.1).mpr ((memI_cons _ _ _).mpr (Or.inl ⟨Int.le_refl _, hc.1⟩)))
      omega
    have e2 : a.2 = c.2 := by
      have z1 := il_end h g hm e1
      have z2 := il_end g h (fun t => (hm t).symm) e1.symm
      omega
    have e3 : a = c := Prod.ext e1 e2
    subst e3
    rw [il_uniq h.tail g.tail (fun t => by rw [il_tail h, il_tail g, hm])]
/-- the closure on the grid -/
def CL (so : Int → Bool) (t : Int) : Prop := so t = true ∨ (t % 2 = 0 ∧ so (t - 1) = true)
def INV (so : Int → Bool) (L : IL) (X : Int) : Prop := SEPX L X ∧ ∀ t, memI L t ↔ (0 ≤ t ∧ t < X ∧ CL so t) ∨ (t = X ∧ 0 < X ∧ so (X - 1) = true)
theorem inv_0 (so : Int → Bool) : INV so [] 0 := ⟨⟨⟨List.Pairwise.nil, fun q h => absurd h List.not_mem_nil⟩, fun q h => absurd h List.not_mem_nil⟩, fun t => ⟨fun h => absurd h (memI_nil t), fun h => by omega⟩⟩
/-- one stretch: what is so on it is a set A that is closed on the grid -/
theorem inv_step {so : Int → Bool} {L L1 : IL} {X X1 : Int} {A : Int → Prop} (h : INV so L X) (hX : 0 ≤ X) (hX1 : X < X1) (hs0 : so (-1) = false)
    (hA : ∀ t, X ≤ t → t < X1 → (so t = true ↔ A t)) (hAr : ∀ t, A t → X ≤ t ∧ t ≤ X1) (hup : ∀ t, t % 2 = 0 → X < t → t ≤ X1 → A (t - 1) → A t) (hdn : A X1 → A (X1 - 1))
    (hS : SEPX L1 X1) (hm : ∀ t, memI L1 t ↔ memI L t ∨ A t) (eX1 : X1 % 2 = 0) (eX : X % 2 = 0) : INV so L1 X1 := by
  refine ⟨hS, fun t => ?_⟩
  rw [hm, h.2]
  unfold CL
  constructor
  · rintro ((g | g) | g)
    · exact Or.inl ⟨g.1, by omega, g.2.2⟩
    · refine Or.inl ⟨by omega, by omega, Or.inr ⟨by omega, ?_⟩⟩
      rw [g.1]
      exact g.2.2
    · have g1 := hAr t g
      by_cases g2 : t = X1
      · subst g2
        exact Or.inr ⟨rfl, by omega, (hA _ (by omega) (by omega)).mpr (hdn g)⟩
      · exact Or.inl ⟨by omega, by omega, Or.inl ((hA t g1.1 (by omega)).mpr g)⟩
  · rintro (⟨g0, g1, g⟩ | ⟨g0, g1, g⟩)
    · by_cases g2 : t < X
      · exact Or.inl (Or.inl ⟨g0, g2, g⟩)
      · rcases g with g | ⟨g3, g⟩
        · exact Or.inr ((hA t (by omega) g1).mp g)
        · by_cases g4 : t = X
          · subst g4
            by_cases g5 : 0 < t
            · exact Or.inl (Or.inr ⟨rfl, g5, g⟩)
            · exfalso
              rw [show t - 1 = -1 by omega, hs0] at g
              cases g
          · exact Or.inr (hup t g3 (by omega) (by omega) ((hA (t - 1) (by omega) (by omega)).mp g))
    · subst g0
      exact Or.inr (hup t eX1 hX1 (Int.le_refl _) ((hA (t - 1) (by omega) (by omega)).mp g))
/-- the end -/
def FIN (so : Int → Bool) (L : IL) (X : Int) : Prop := SEPL L ∧ ∀ t, memI L t ↔ 0 ≤ t ∧ t ≤ X ∧ CL so t
theorem fin_step {so : Int → Bool} {L : IL} {X : Int} (h : INV so L X) (hX : 0 ≤ X) (eX : X % 2 = 0) (hs0 : so (-1) = false) : FIN so (if so X = true then addI (X, X) L else L) X := by
  by_cases hc : so X = true
  · rw [if_pos hc]
    obtain ⟨h1, h2⟩ := addI_spec (x := (X, X)) (X1 := X) h.1 (Int.le_refl _) (Int.le_refl _) (Int.le_refl _) eX eX
    refine ⟨h1.1, fun t => ?_⟩
    rw [h2, h.2]
    dsimp only
    unfold CL
    constructor
    · rintro ((g | g) | g)
      · exact ⟨g.1, by omega, g.2.2⟩
      · obtain ⟨rfl, g⟩ := g
        exact ⟨hX, Int.le_refl _, Or.inl hc⟩
      · have : t = X := by omega
        subst this
        exact ⟨hX, Int.le_refl _, Or.inl hc⟩
    · rintro ⟨g0, g1, g⟩
      by_cases g2 : t < X
      · exact Or.inl (Or.inl ⟨g0, g2, g⟩)
      · exact Or.inr (by omega)
  · rw [if_neg hc]
    refine ⟨h.1.1, fun t => ?_⟩
    rw [h.2]
    unfold CL
    constructor
    · rintro (g | g)
      · exact ⟨g.1, by omega, g.2.2⟩
      · obtain ⟨rfl, g, g2⟩ := g
        exact ⟨hX, Int.le_refl _, Or.inr ⟨eX, g2⟩⟩
    · rintro ⟨g0, g1, g⟩
      by_cases g2 : t < X
      · exact Or.inl ⟨g0, g2, g⟩
      · have : t = X := by omega
        subst this
        rcases g with g | ⟨-, g⟩
        · exact absurd g hc
        · by_cases g5 : 0 < t
          · exact Or.inr ⟨rfl, g5, g⟩
          · exfalso
            rw [show t - 1 = -1 by omega, hs0] at g
            cases g
theorem fin_uniq {so : Int → Bool} {L Q : IL} {X : Int} (h : FIN so L X) (g : FIN so Q X) : L = Q := il_uniq h.1 g.1 fun t => by rw [h.2, g.2]
