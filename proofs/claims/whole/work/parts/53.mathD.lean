/-! meetings: sorted by time, then by the two -/
def ec (x : EV) : Int := (x.2.1 : Int) * 10 + (x.2.2.1 : Int)
def ek (M : Int) (x : EV) : Int := gz M x.1 * 100 + ec x
def EOK (x : EV) : Prop := RED x.1 ∧ x.2.1 < 10 ∧ x.2.2.1 < 10
def SLM (M : Int) (L : List EV) : Prop := (∀ x, x ∈ L → EOK x) ∧ L.Pairwise (fun a b => ek M a < ek M b)
theorem ec_rng {x : EV} (h : EOK x) : 0 ≤ ec x ∧ ec x < 100 := by
  obtain ⟨-, h1, h2⟩ := h
  unfold ec
  omega
theorem slm_nil (M : Int) : SLM M [] := ⟨fun x h => absurd h List.not_mem_nil, List.Pairwise.nil⟩
theorem gtE_iff {M : Int} (hM : GM M) {x : EV} (hx : EOK x) {L : List EV} (hL : ∀ y, y ∈ L → EOK y) (k : Nat) (q : EV) (h : L[k]? = some q) : gtE x.1 L k = true ↔ gz M x.1 < gz M q.1 := by
  have hq := hL q (List.mem_of_getElem? h)
  unfold gtE
  rw [h]
  dsimp only
  rw [decide_eq_true_iff]
  exact gz_lt hM hx.1.1 hq.1.1
theorem insM_slm {M : Int} (hM : GM M) {L : List EV} (h : SLM M L) {x : EV} (hx : EOK x) (hc : ∀ a, a ∈ L → gz M a.1 = gz M x.1 → ec a < ec x) : SLM M (insM x L) ∧ ∀ y, y ∈ insM x L ↔ y = x ∨ y ∈ L := by
  obtain ⟨h1, h2⟩ := h
  have hs : L.Pairwise (fun a b => gz M a.1 ≤ gz M b.1) := by
    refine h2.imp_of_mem (fun {a b} ha hb hab => ?_)
    have e1 := ec_rng (h1 a ha)
    have e2 := ec_rng (h1 b hb)
    unfold ek at hab
    omega
  obtain ⟨A, B, e, hA, hB, hsp⟩ := ins_split (fun q : EV => gz M q.1) (gz M x.1) (gtE x.1 L) (fun k q hk => gtE_iff hM hx h1 k q hk) hs
  have hi : insM x L = A ++ x :: B := by
    unfold insM
    rw [hsp, e, insAt_app]
  have hm : ∀ y, y ∈ insM x L ↔ y = x ∨ y ∈ L := fun y => by
    rw [hi, e, List.mem_append, List.mem_cons, List.mem_append]
    constructor
    · rintro (z | z | z)
      · exact Or.inr (Or.inl z)
      · exact Or.inl z
      · exact Or.inr (Or.inr z)
    · rintro (z | z | z)
      · exact Or.inr (Or.inl z)
      · exact Or.inl z
      · exact Or.inr (Or.inr z)
  refine ⟨⟨fun y hy => ?_, ?_⟩, hm⟩
  · rcases (hm y).mp hy with z | z
    · rw [z]; exact hx
    · exact h1 y z
  · rw [hi]
    rw [e] at h2
    obtain ⟨p1, p2, p3⟩ := List.pairwise_append.mp h2
    have ex := ec_rng hx
    refine List.pairwise_append.mpr ⟨p1, List.pairwise_cons.mpr ⟨fun b hb => ?_, p2⟩, fun a ha b hb => ?_⟩
    · have e1 := ec_rng (h1 b (by rw [e]; exact List.mem_append_right _ hb))
      have e2 := hB b hb
      unfold ek
      omega
    · rcases List.mem_cons.mp hb with z | z
      · rw [z]
        have ma : a ∈ L := by rw [e]; exact List.mem_append_left _ ha
        have e1 := ec_rng (h1 a ma)
        have e2 := hA a ha
        have e3 := hc a ma
        unfold ek
        omega
      · exact p3 a ha b z
theorem stepM_slm {M : Int} (hM : GM M) {L : List EV} (h : SLM M L) {o : Option EV} (hx : ∀ x, o = some x → EOK x ∧ ∀ a, a ∈ L → gz M a.1 = gz M x.1 → ec a < ec x) : SLM M (stepM o L) ∧ ∀ y, y ∈ stepM o L ↔ o = some y ∨ y ∈ L := by
  cases o with
  | none => exact ⟨h, fun y => ⟨fun z => Or.inr z, fun z => z.elim (fun c => nomatch c) (fun c => c)⟩⟩
  | some x =>
    obtain ⟨a, b⟩ := hx x rfl
    obtain ⟨c, d⟩ := insM_slm hM h a b
    refine ⟨c, fun y => ?_⟩
    show y ∈ insM x L ↔ _
    rw [d y]
    constructor
    · rintro (z | z)
      · exact Or.inl (by rw [z])
      · exact Or.inr z
    · rintro (z | z)
      · exact Or.inl (Option.some.inj z).symm
      · exact Or.inr z
theorem slm_uniq {M : Int} : ∀ {L Q : List EV}, L.Pairwise (fun a b => ek M a < ek M b) → Q.Pairwise (fun a b => ek M a < ek M b) → (∀ x, x ∈ L ↔ x ∈ Q) → L = Q
  | [], [], _, _, _ => rfl
  | [], c :: Q, _, _, h => absurd ((h c).mpr List.mem_cons_self) List.not_mem_nil
  | a :: L, [], _, _, h => absurd ((h a).mp List.mem_cons_self) List.not_mem_nil
  | a :: L, c :: Q, h1, h2, h => by
    obtain ⟨a1, a2⟩ := List.pairwise_cons.mp h1
    obtain ⟨c1, c2⟩ := List.pairwise_cons.mp h2
    have hac : a = c := by
      rcases List.mem_cons.mp ((h a).mp List.mem_cons_self) with z | z
      · exact z
      · rcases List.mem_cons.mp ((h c).mpr List.mem_cons_self) with y | y
        · exact y.symm
        · have u := a1 c y
          have v := c1 a z
          omega
    subst hac
    have : L = Q := slm_uniq a2 c2 fun x => by
      have hx := h x
      rw [List.mem_cons, List.mem_cons] at hx
      constructor
      · intro y
        rcases hx.mp (Or.inr y) with z | z
        · subst z
          have := a1 x y
          omega
        · exact z
      · intro y
        rcases hx.mpr (Or.inr y) with z | z
        · subst z
          have := c1 x y
          omega
        · exact z
    rw [this]
theorem slm_app {M : Int} {L Q : List EV} {X : Int} (h1 : SLM M L) (h2 : SLM M Q) (h3 : ∀ a, a ∈ L → gz M a.1 ≤ X) (h4 : ∀ a, a ∈ Q → X < gz M a.1) : SLM M (L ++ Q) := by
  refine ⟨fun x hx => ?_, List.pairwise_append.mpr ⟨h1.2, h2.2, fun a ha b hb => ?_⟩⟩
  · rcases List.mem_append.mp hx with z | z
    · exact h1.1 x z
    · exact h2.1 x z
  · have e1 := ec_rng (h1.1 a ha)
    have e2 := ec_rng (h2.1 b hb)
    have e3 := h3 a ha
    have e4 := h4 b hb
    unfold ek
    omega
