/-! sorted lists, and where an insertion goes -/
theorem spotP_eq {p : Nat → Bool} {q : Nat} : ∀ {n : Nat}, q ≤ n → (∀ k, q ≤ k → k < n → p k = true) → (q = 0 ∨ p (q - 1) = false) → spotP p n = q
  | 0, h, _, _ => by
    have : q = 0 := by omega
    subst this
    exact spot_end (Or.inl rfl)
  | n + 1, h, h1, h2 => by
    by_cases z : q = n + 1
    · subst z
      exact spot_end h2
    · rw [spot_step (Nat.succ_pos n) (h1 n (by omega) (Nat.lt_succ_self n))]
      exact spotP_eq (n := n) (by omega) (fun k a b => h1 k a (by omega)) h2
theorem split_sorted {α : Type} (key : α → Int) (x : Int) : ∀ {L : List α}, L.Pairwise (fun a b => key a ≤ key b) → ∃ A B, L = A ++ B ∧ (∀ a, a ∈ A → key a ≤ x) ∧ (∀ b, b ∈ B → x < key b)
  | [], _ => ⟨[], [], rfl, fun a h => absurd h List.not_mem_nil, fun a h => absurd h List.not_mem_nil⟩
  | c :: L, h => by
    obtain ⟨h1, h2⟩ := List.pairwise_cons.mp h
    by_cases z : key c ≤ x
    · obtain ⟨A, B, e, hA, hB⟩ := split_sorted key x h2
      refine ⟨c :: A, B, by rw [e]; rfl, fun a ha => ?_, hB⟩
      rcases List.mem_cons.mp ha with g | g
      · rw [g]; exact z
      · exact hA a g
    · refine ⟨[], c :: L, rfl, fun a h => absurd h List.not_mem_nil, fun b hb => ?_⟩
      rcases List.mem_cons.mp hb with g | g
      · rw [g]; omega
      · have := h1 b g
        omega
theorem ins_split {α : Type} (key : α → Int) (kx : Int) (p : Nat → Bool) {L : List α} (hp : ∀ (k : Nat) (q : α), L[k]? = some q → (p k = true ↔ kx < key q)) (hs : L.Pairwise (fun a b => key a ≤ key b)) : ∃ A B, L = A ++ B ∧ (∀ a, a ∈ A → key a ≤ kx) ∧ (∀ b, b ∈ B → kx < key b) ∧ spotP p L.length = A.length := by
  obtain ⟨A, B, e, hA, hB⟩ := split_sorted key kx hs
  refine ⟨A, B, e, hA, hB, spotP_eq (by rw [e, List.length_append]; omega) (fun k h1 h2 => ?_) ?_⟩
  · have h3 : L[k]? = some L[k] := List.getElem?_eq_getElem h2
    refine (hp k _ h3).mpr (hB _ ?_)
    subst e
    rw [List.getElem_append_right h1]
    exact List.getElem_mem _
  · rcases Nat.eq_zero_or_pos A.length with z | z
    · exact Or.inl z
    · refine Or.inr ?_
      have h2 : A.length - 1 < L.length := by rw [e, List.length_append]; omega
      have h3 : L[A.length - 1]? = some L[A.length - 1] := List.getElem?_eq_getElem h2
      have h4 : L[A.length - 1] ∈ A := by
        subst e
        rw [List.getElem_append_left (by omega)]
        exact List.getElem_mem _
      have h5 := hA _ h4
      cases hc : p (A.length - 1) with
      | false => rfl
      | true =>
        have := (hp _ _ h3).mp hc
        omega
theorem insAt_app {α : Type} (A B : List α) (x : α) : insAt (A ++ B) A.length x = A ++ x :: B := by
  unfold insAt
  rw [List.take_left, List.drop_left]
/-- the model's times: sorted, each once -/
def TSM (M en : Int) (U : List TM) : Prop := (∀ y, y ∈ U → okT y ∧ y.1 ≤ en * y.2) ∧ U.Pairwise (fun a b => gT M a < gT M b)
def HAS (M : Int) (U : List TM) (v : Int) : Prop := ∃ y, y ∈ U ∧ gT M y = v
theorem gtX_iff {M : Int} (hM : GM M) {x : TM} (hx : 1 ≤ x.2 ∧ x.2 ≤ 100) {U : List TM} (hU : ∀ y, y ∈ U → okT y) (k : Nat) (q : TM) (h : U[k]? = some q) : gtX x U k = true ↔ gT M x < gT M q := by
  have hq := hU q (List.mem_of_getElem? h)
  unfold gtX
  rw [h]
  rw [decide_eq_true_iff]
  exact gT_lt hM (by omega) (okT_d hq)
theorem ins_ts {M en : Int} (hM : GM M) (hen : en ≤ 600) {U : List TM} (h : TSM M en U) {x : TM} (hx : 1 ≤ x.2 ∧ x.2 ≤ 100) : TSM M en (insX en x U) ∧ (∀ v, HAS M U v → HAS M (insX en x U) v) ∧ (0 ≤ x.1 → x.1 ≤ en * x.2 → HAS M (insX en x U) (gT M x)) := by
  by_cases hr : x.1 < 0 ∨ en * x.2 < x.1
  · rw [show insX en x U = U from if_pos hr]
    exact ⟨h, fun v g => g, fun g1 g2 => by omega⟩
  · have hok : okT x := by
      have hb : en * x.2 ≤ 600 * x.2 := Int.mul_le_mul_of_nonneg_right hen (by omega)
      exact ⟨by omega, hx⟩
    obtain ⟨A, B, e, hA, hB, hsp⟩ := ins_split (gT M) (gT M x) (gtX x U) (gtX_iff hM hx (fun y hy => (h.1 y hy).1)) (h.2.imp (fun g => Int.le_of_lt g))
    have hu : insX en x U = if 0 < A.length ∧ eqX x U (A.length - 1) = true then U else insAt U A.length x := by
      unfold insX
      rw [if_neg hr, hsp]
    rw [hu]
    by_cases hc : 0 < A.length ∧ eqX x U (A.length - 1) = true
    · rw [if_pos hc]
      refine ⟨h, fun v g => g, fun _ _ => ?_⟩
      have h2 : A.length - 1 < U.length := by rw [e, List.length_append]; omega
      have h3 : U[A.length - 1]? = some U[A.length - 1] := List.getElem?_eq_getElem h2
      have h4 := hc.2
      unfold eqX at h4
      rw [h3] at h4
      have h5 := of_decide_eq_true h4
      have hm : U[A.length - 1] ∈ U := List.getElem_mem _
      exact ⟨_, hm, ((gT_eq hM (okT_d hok) (okT_d (h.1 _ hm).1)).mp h5).symm⟩
    · rw [if_neg hc]
      subst e
      rw [insAt_app]
      have hlt : ∀ a, a ∈ A → gT M a < gT M x := fun a ha => by
        have h1 := hA a ha
        by_cases z : gT M a = gT M x
        · exfalso
          have hpos : 0 < A.length := List.length_pos_of_mem ha
          obtain ⟨A0, l, hl⟩ : ∃ A0 l, A = A0 ++ [l] := by
            rcases List.eq_nil_or_concat A with g | ⟨A0, l, g⟩
            · rw [g] at hpos
              exact absurd hpos (Nat.lt_irrefl 0)
            · exact ⟨A0, l, by rw [g, List.concat_eq_append]⟩
          subst hl
          have hlm : l ∈ A0 ++ [l] := List.mem_append.mpr (Or.inr (List.mem_singleton.mpr rfl))
          have h3 := hA l hlm
          have hal : gT M a ≤ gT M l := by
            rcases List.mem_append.mp ha with g | g
            · have hp := (List.pairwise_append.mp (List.pairwise_append.mp h.2).1).2.2 a g l (List.mem_singleton.mpr rfl)
              omega
            · rw [List.mem_singleton.mp g]
              exact Int.le_refl _
          have hget : ((A0 ++ [l]) ++ B)[(A0 ++ [l]).length - 1]? = some l := by
            rw [List.length_append, List.length_singleton, Nat.add_sub_cancel, List.append_assoc, List.getElem?_append_right (Nat.le_refl _), Nat.sub_self]
            rfl
          refine hc ⟨hpos, ?_⟩
          unfold eqX
          rw [hget]
          exact decide_eq_true ((gT_eq hM (okT_d hok) (okT_d (h.1 l (List.mem_append.mpr (Or.inl hlm))).1)).mpr (by omega))
        · omega
      obtain ⟨p1, p2, p3⟩ := List.pairwise_append.mp h.2
      refine ⟨⟨fun y hy => ?_, ?_⟩, fun v g => ?_, fun _ _ => ⟨x, List.mem_append.mpr (Or.inr List.mem_cons_self), rfl⟩⟩
      · rcases List.mem_append.mp hy with g | g
        · exact h.1 y (List.mem_append.mpr (Or.inl g))
        · rcases List.mem_cons.mp g with g | g
          · rw [g]
            exact ⟨hok, by omega⟩
          · exact h.1 y (List.mem_append.mpr (Or.inr g))
      · refine List.pairwise_append.mpr ⟨p1, List.pairwise_cons.mpr ⟨hB, p2⟩, fun a ha b hb => ?_⟩
        rcases List.mem_cons.mp hb with g | g
        · rw [g]
          exact hlt a ha
        · exact p3 a ha b g
      · obtain ⟨y, hy, g⟩ := g
        refine ⟨y, ?_, g⟩
        rcases List.mem_append.mp hy with g | g
        · exact List.mem_append.mpr (Or.inl g)
        · exact List.mem_append.mpr (Or.inr (List.mem_cons_of_mem _ g))
/-- a list of times as TLP wants it -/
theorem ts_tlp {M en : Int} (hM : GM M) {so : Int → Bool} {U : List TM} (h : TSM M en U) (h0 : HAS M U 0) (hE : HAS M U (en * M))
    (hg : ∀ X Y : Int, X % 2 = 0 → Y % 2 = 0 → 0 ≤ X → X < Y → Y ≤ en * M → (∀ v, HAS M U v → ¬ (X < v ∧ v < Y)) → (∀ s s', X < s → s < Y → X < s' → s' < Y → so s = so s') ∧ (so (X + 1) = true → so X = true)) :
    TLP M so (en * M) U.length (fun t => (U.getD t (0, 1)).1) (fun t => (U.getD t (0, 1)).2) := by
  have hget : ∀ t (ht : t < U.length), ((U.getD t (0, 1)).1, (U.getD t (0, 1)).2) = U[t] := fun t ht => by
    rw [List.getD_eq_getElem?_getD, List.getElem?_eq_getElem ht]
    rfl
  have hlt : ∀ i j (hi : i < U.length) (hj : j < U.length), i < j → gT M U[i] < gT M U[j] := fun i j hi hj hij => List.pairwise_iff_getElem.mp h.2 i j hi hj hij
  have hnn : ∀ y, y ∈ U → 0 ≤ gT M y ∧ gT M y ≤ en * M := fun y hy => by
    obtain ⟨h1, h2⟩ := h.1 y hy
    obtain ⟨k, hk, e1, e2⟩ := gT_spec hM (okT_d h1)
    rw [e2]
    refine ⟨Int.mul_nonneg h1.1.1 (by omega), ?_⟩
    have h3 := Int.mul_le_mul_of_nonneg_right h2 (show 0 ≤ 2 * k by omega)
    rw [Int.mul_assoc, ← e1] at h3
    exact h3
  obtain ⟨y0, hy0, e0⟩ := h0
  obtain ⟨i0, hi0, g0⟩ := List.getElem_of_mem hy0
  obtain ⟨yE, hyE, eE⟩ := hE
  obtain ⟨iE, hiE, gE⟩ := List.getElem_of_mem hyE
  have hpos : 1 ≤ U.length := by omega
  refine ⟨hpos, fun t ht => by dsimp only; rw [hget t ht]; exact (h.1 _ (List.getElem_mem _)).1, ?_, ?_, fun t ht => ?_⟩
  · dsimp only
    rw [hget 0 (by omega)]
    have h1 := hnn U[0] (List.getElem_mem _)
    rcases Nat.eq_zero_or_pos i0 with z | z
    · subst z
      rw [g0]
      exact e0
    · have h2 := hlt 0 i0 (by omega) hi0 z
      rw [g0] at h2
      omega
  · dsimp only
    rw [hget (U.length - 1) (by omega)]
    have h1 := hnn U[U.length - 1] (List.getElem_mem _)
    by_cases z : iE = U.length - 1
    · subst z
      rw [gE]
      exact eE
    · have h2 := hlt iE (U.length - 1) hiE (by omega) (by omega)
      rw [gE] at h2
      omega
  · dsimp only
    rw [hget t (by omega), hget (t + 1) ht]
    have h1 := hlt t (t + 1) (by omega) ht (Nat.lt_succ_self t)
    have h2 := hnn U[t] (List.getElem_mem _)
    have h3 := hnn U[t + 1] (List.getElem_mem _)
    refine ⟨h1, hg _ _ (gT_even hM (okT_d (h.1 _ (List.getElem_mem _)).1)) (gT_even hM (okT_d (h.1 _ (List.getElem_mem _)).1)) h2.1 h1 h3.2 (fun v hv z => ?_)⟩
    obtain ⟨y, hy, e⟩ := hv
    obtain ⟨i, hi, g⟩ := List.getElem_of_mem hy
    rw [← e, ← g] at z
    by_cases c : i ≤ t
    · rcases Nat.lt_or_ge i t with c2 | c2
      · have := hlt i t hi (by omega) c2
        omega
      · have : i = t := by omega
        subst this
        omega
    · rcases Nat.lt_or_ge (t + 1) i with c2 | c2
      · have := hlt (t + 1) i ht hi c2
        omega
      · have : i = t + 1 := by omega
        subst this
        omega
