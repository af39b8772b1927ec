/-- how many of the crowd hold a time, by their kept stretches -/
def mnA (S : FS) (f u lo hi M t : Int) : Nat → Nat
  | 0 => 0
  | i + 1 => mnA S f u lo hi M t i + (if (thB S f i = true ∧ soB f (u * 256 + 1) (cwQ S f (u * 256 + 1) lo hi i) = true) ∧ gz M (cwQ S f (u * 256 + 1) lo hi i).1 ≤ t ∧ t ≤ gz M (cwQ S f (u * 256 + 1) lo hi i).2.1 then 1 else 0)
theorem cwQ_sp {M : Int} (hM : GM M) {S : FS} {came : Nat} (hO : OKM9 S came) {f u lo hi : Int} {i : Nat} (hi1 : i < came) : OKD (cwQ S f (u * 256 + 1) lo hi i) ∧ f * M ≤ gz M (cwQ S f (u * 256 + 1) lo hi i).1 ∧ gz M (cwQ S f (u * 256 + 1) lo hi i).2.1 ≤ u * M ∧ ∀ t, inQ M (cwQ S f (u * 256 + 1) lo hi i) t ↔ (f * M ≤ t ∧ t ≤ u * M) ∧ lo * M ≤ poS S f i * M + spS S f i * (t - f * M) ∧ poS S f i * M + spS S f i * (t - f * M) ≤ hi * M := by
  have s1 := hO.sp f i hi1
  obtain ⟨a1, a2, a3, a4⟩ := ka_sp hM (f := f) (va := poS S f i) (gr := spS S f i) (bd := hi) (q0_okd f u) (by omega)
  obtain ⟨b1, b2, b3, b4⟩ := ka_sp hM (f := f) (va := -(poS S f i)) (gr := -(spS S f i)) (bd := -lo) a1 (by omega)
  dsimp only at a2 a3
  rw [gz_int] at a2 a3
  unfold cwQ
  refine ⟨b1, by omega, by omega, fun t => ?_⟩
  rw [b4, a4, q0_in]
  have e1 : -(poS S f i) * M + -(spS S f i) * (t - f * M) = -(poS S f i * M + spS S f i * (t - f * M)) := by grind
  have e2 : -lo * M = -(lo * M) := Int.neg_mul _ _
  rw [e1, e2]
  constructor
  · rintro ⟨⟨h1, h2⟩, h3⟩
    exact ⟨h1, by omega, h2⟩
  · rintro ⟨h1, h2, h3⟩
    exact ⟨⟨h1, h3⟩, by omega⟩
theorem cw_spec {M : Int} (hM : GM M) {S : FS} {came : Nat} (hO : OKM9 S came) {f u lo hi : Int} : ∀ i, i ≤ came →
    (∀ z, z ∈ cwB S f (u * 256 + 1) lo hi i → RED z ∧ f * M ≤ gz M z ∧ gz M z ≤ u * M) ∧ (∀ z, z ∈ cwE S f (u * 256 + 1) lo hi i → RED z ∧ f * M ≤ gz M z ∧ gz M z ≤ u * M) ∧ (cwB S f (u * 256 + 1) lo hi i).Pairwise (fun a b => gz M a ≤ gz M b) ∧ (cwE S f (u * 256 + 1) lo hi i).Pairwise (fun a b => gz M a ≤ gz M b) ∧
    ∀ t, (cwB S f (u * 256 + 1) lo hi i).countP (fun z => decide (gz M z ≤ t)) = mnA S f u lo hi M t i + (cwE S f (u * 256 + 1) lo hi i).countP (fun z => decide (gz M z ≤ t - 1))
  | 0, _ => ⟨fun z h => absurd h List.not_mem_nil, fun z h => absurd h List.not_mem_nil, List.Pairwise.nil, List.Pairwise.nil, fun t => rfl⟩
  | i + 1, hi1 => by
    obtain ⟨h1, h2, h3, h4, h5⟩ := cw_spec hM hO (f := f) (u := u) (lo := lo) (hi := hi) i (by omega)
    obtain ⟨q1, q2, q3, q4⟩ := cwQ_sp hM hO (f := f) (u := u) (lo := lo) (hi := hi) (show i < came by omega)
    unfold cwB cwE mnA
    by_cases c : thB S f i = true ∧ soB f (u * 256 + 1) (cwQ S f (u * 256 + 1) lo hi i) = true
    · rw [if_pos c, if_pos c]
      have c2 := (soB_iff hM q1).mp c.2
      obtain ⟨A, B, e1, e2, e3⟩ := insT_spec hM q1.1 (fun z hz => (h1 z hz).1) h3
      obtain ⟨C, D, e4, e5, e6⟩ := insT_spec hM q1.2 (fun z hz => (h2 z hz).1) h4
      rw [e2, e5]
      refine ⟨fun z hz => ?_, fun z hz => ?_, e3, e6, fun t => ?_⟩
      · rcases List.mem_append.mp hz with g | g
        · exact h1 z (by rw [e1]; exact List.mem_append.mpr (Or.inl g))
        · rcases List.mem_cons.mp g with g | g
          · rw [g]
            exact ⟨q1.1, q2, by omega⟩
          · exact h1 z (by rw [e1]; exact List.mem_append.mpr (Or.inr g))
      · rcases List.mem_append.mp hz with g | g
        · exact h2 z (by rw [e4]; exact List.mem_append.mpr (Or.inl g))
        · rcases List.mem_cons.mp g with g | g
          · rw [g]
            exact ⟨q1.2, by omega, q3⟩
          · exact h2 z (by rw [e4]; exact List.mem_append.mpr (Or.inr g))
      · have h6 := h5 t
        rw [e1, e4, List.countP_append, List.countP_append] at h6
        rw [List.countP_append, List.countP_append, List.countP_cons, List.countP_cons]
        have hb1 : (if decide (gz M (cwQ S f (u * 256 + 1) lo hi i).1 ≤ t) = true then 1 else 0) = (if (thB S f i = true ∧ soB f (u * 256 + 1) (cwQ S f (u * 256 + 1) lo hi i) = true) ∧ gz M (cwQ S f (u * 256 + 1) lo hi i).1 ≤ t ∧ t ≤ gz M (cwQ S f (u * 256 + 1) lo hi i).2.1 then 1 else 0) + (if decide (gz M (cwQ S f (u * 256 + 1) lo hi i).2.1 ≤ t - 1) = true then 1 else 0) := by
          by_cases z1 : gz M (cwQ S f (u * 256 + 1) lo hi i).1 ≤ t
          · by_cases z2 : t ≤ gz M (cwQ S f (u * 256 + 1) lo hi i).2.1
            · rw [if_pos (decide_eq_true z1), if_pos ⟨c, z1, z2⟩, if_neg (fun y => by have := of_decide_eq_true y; omega)]
            · rw [if_pos (decide_eq_true z1), if_neg (fun y => z2 y.2.2), if_pos (decide_eq_true (by omega))]
          · rw [if_neg (fun y => z1 (of_decide_eq_true y)), if_neg (fun y => z1 y.2.1), if_neg (fun y => by have := of_decide_eq_true y; omega)]
        omega
    · rw [if_neg c, if_neg c]
      refine ⟨h1, h2, h3, h4, fun t => ?_⟩
      rw [h5 t, if_neg (fun y => c y.1)]
      rfl
theorem gd_get {L : List Int} {k : Nat} (h : k < L.length) : gd L k = L[k] := by
  unfold gd
  rw [List.getD_eq_getElem?_getD, List.getElem?_eq_getElem h]
  rfl
theorem Sg_iff {M : Int} {B E : List Int} {t : Int} {mm c : Nat} (hmm : 1 ≤ mm) (hBE : E.length = B.length) (hB : B.Pairwise (fun a b => gz M a ≤ gz M b)) (hE : E.Pairwise (fun a b => gz M a ≤ gz M b)) (hc : B.countP (fun z => decide (gz M z ≤ t)) = c + E.countP (fun z => decide (gz M z ≤ t - 1))) : (∃ x, x < B.length ∧ Sg M (gd B) (gd E) B.length mm x t) ↔ mm ≤ c := by
  have hb := cnt_sorted (gz M) hB t
  have he := cnt_sorted (gz M) hE (t - 1)
  have hbl : B.countP (fun z => decide (gz M z ≤ t)) ≤ B.length := List.countP_le_length
  constructor
  · rintro ⟨x, hx, h1, h2, h3, h4⟩
    rw [gd_get (by omega)] at h2
    rw [gd_get h3] at h4
    have e1 := (hb _ h3).mp h4
    have e2 := he x (by omega)
    omega
  · intro h
    refine ⟨E.countP (fun z => decide (gz M z ≤ t - 1)), by omega, ?_, ?_, by omega, ?_⟩
    · by_cases z : E.countP (fun z => decide (gz M z ≤ t - 1)) = 0
      · exact Or.inl z
      · refine Or.inr ?_
        have hlt : E.countP (fun z => decide (gz M z ≤ t - 1)) - 1 < E.length := by omega
        rw [gd_get hlt]
        have := (he _ hlt).mpr (by omega)
        omega
    · have hlt : E.countP (fun z => decide (gz M z ≤ t - 1)) < E.length := by omega
      rw [gd_get hlt]
      have := he _ hlt
      omega
    · have hlt : mm + E.countP (fun z => decide (gz M z ≤ t - 1)) - 1 < B.length := by omega
      rw [gd_get hlt]
      exact (hb _ hlt).mpr (by omega)
/-- what the sweep adds -/
theorem sw_all {M : Int} (hM : GM M) {S : FS} {came : Nat} (hO : OKM9 S came) {f u lo hi : Int} (hfu : f ≤ u) {mm : Nat} (hmm : 1 ≤ mm) {L : List (Int × Int)} (hR : REDL L) (hS : SEPX (gl M L) (f * M)) :
    REDL (swO (cwB S f (u * 256 + 1) lo hi came).length (gd (cwB S f (u * 256 + 1) lo hi came)) (gd (cwE S f (u * 256 + 1) lo hi came)) (mm : Int) L (cwB S f (u * 256 + 1) lo hi came).length).2.2 ∧ SEPX (gl M (swO (cwB S f (u * 256 + 1) lo hi came).length (gd (cwB S f (u * 256 + 1) lo hi came)) (gd (cwE S f (u * 256 + 1) lo hi came)) (mm : Int) L (cwB S f (u * 256 + 1) lo hi came).length).2.2) (u * M) ∧ ∀ t, memI (gl M (swO (cwB S f (u * 256 + 1) lo hi came).length (gd (cwB S f (u * 256 + 1) lo hi came)) (gd (cwE S f (u * 256 + 1) lo hi came)) (mm : Int) L (cwB S f (u * 256 + 1) lo hi came).length).2.2) t ↔ memI (gl M L) t ∨ mm ≤ mnA S f u lo hi M t came := by
  obtain ⟨h1, h2, h3, h4, h5⟩ := cw_spec hM hO (f := f) (u := u) (lo := lo) (hi := hi) came (Nat.le_refl _)
  have hBE := (cw_len S f (u * 256 + 1) lo hi came).2.symm
  generalize cwB S f (u * 256 + 1) lo hi came = B at *
  generalize cwE S f (u * 256 + 1) lo hi came = E at *
  have gB : ∀ k, k < B.length → gd B k ∈ B := fun k hk => by rw [gd_get hk]; exact List.getElem_mem hk
  have gE : ∀ k, k < B.length → gd E k ∈ E := fun k hk => by rw [gd_get (by omega)]; exact List.getElem_mem (by omega)
  have sB : ∀ i j, i ≤ j → j < B.length → gz M (gd B i) ≤ gz M (gd B j) := fun i j hij hj => by
    rcases Nat.lt_or_ge i j with z | z
    · rw [gd_get (by omega), gd_get hj]
      exact List.pairwise_iff_getElem.mp h3 i j (by omega) hj z
    · rw [show i = j by omega]
      exact Int.le_refl _
  have sE : ∀ i j, i ≤ j → j < B.length → gz M (gd E i) ≤ gz M (gd E j) := fun i j hij hj => by
    rcases Nat.lt_or_ge i j with z | z
    · rw [gd_get (by omega), gd_get (by omega)]
      exact List.pairwise_iff_getElem.mp h4 i j (by omega) (by omega) z
    · rw [show i = j by omega]
      exact Int.le_refl _
  have hle : f * M ≤ u * M := Int.mul_le_mul_of_nonneg_right hfu (by have := hM.1; omega)
  obtain ⟨g, bg, L2, Z, e0, hg, -, -, hR2, hS2, -, hcl, hmem⟩ := sw_inv hM (cb := gd B) (ce := gd E) (n := B.length) (X := f * M) (X1 := u * M) hmm (fun k hk => ⟨(h1 _ (gB k hk)).1, (h1 _ (gB k hk)).2.1⟩) (fun k hk => ⟨(h2 _ (gE k hk)).1, (h2 _ (gE k hk)).2.2⟩) sB sE hle (fun k hk => (h2 _ (gE k hk)).2.1) hR hS B.length (Nat.le_refl _)
  rw [e0]
  have hno : ¬ B.length + mm ≤ g := by omega
  have hZ := hcl hno
  refine ⟨hR2, ⟨hS2.1, fun q hq => ?_⟩, fun t => ?_⟩
  · have h6 := hS2.2 q hq
    by_cases z : B.length = 0
    · rw [if_pos z] at hZ
      omega
    · rw [if_neg z] at hZ
      have := (h2 _ (gE (B.length - 1) (by omega))).2.2
      omega
  · rw [← Sg_iff hmm hBE h3 h4 (h5 t), ← hmem]
    exact ⟨Or.inl, fun h => h.elim id (fun h => absurd h.1 hno)⟩
/-- the class counts as the model does -/
theorem mn_eq {M : Int} (hM : GM M) {S : FS} {came : Nat} (hO : OKM9 S came) {f u u1 lo hi t : Int} (hN : NOB S came f u1) (h1 : f * M ≤ t) (h2 : t < u1 * M) (h3 : t ≤ u * M) (h4 : f ≠ u → t < u * M) : ∀ i, i ≤ came → mnR S lo hi t M i = mnA S f u lo hi M t i
  | 0, _ => rfl
  | i + 1, hi1 => by
    have ih := mn_eq hM hO (lo := lo) (hi := hi) hN h1 h2 h3 h4 i (by omega)
    have hic : i < came := by omega
    obtain ⟨q1, q2, q3, q4⟩ := cwQ_sp hM hO (f := f) (u := u) (lo := lo) (hi := hi) hic
    unfold mnR mnA
    rw [ih, str_th hM.1 hN hic (hO.n1 i hic) h1 h2, str_up hM.1 hN hic h1 h2]
    have e : (thB S f i = true ∧ lo * M ≤ poS S f i * M + spS S f i * (t - f * M) ∧ poS S f i * M + spS S f i * (t - f * M) ≤ hi * M) ↔ ((thB S f i = true ∧ soB f (u * 256 + 1) (cwQ S f (u * 256 + 1) lo hi i) = true) ∧ gz M (cwQ S f (u * 256 + 1) lo hi i).1 ≤ t ∧ t ≤ gz M (cwQ S f (u * 256 + 1) lo hi i).2.1) := by
      constructor
      · rintro ⟨a, b⟩
        have h5 := (q4 t).mpr ⟨⟨h1, h3⟩, b⟩
        refine ⟨⟨a, (soB_iff hM q1).mpr ⟨h5.1, fun y => ?_, by have := h5.2; omega⟩⟩, h5.2⟩
        have := h4 y.2
        have := h5.2.1
        omega
      · rintro ⟨⟨a, b⟩, c⟩
        have h6 := (soB_iff hM q1).mp b
        exact ⟨a, ((q4 t).mp ⟨h6.1, c⟩).2⟩
    by_cases z : thB S f i = true ∧ lo * M ≤ poS S f i * M + spS S f i * (t - f * M) ∧ poS S f i * M + spS S f i * (t - f * M) ≤ hi * M
    · rw [if_pos z, if_pos (e.mp z)]
    · rw [if_neg z, if_neg (fun y => z (e.mpr y))]
theorem mnA_up {M : Int} (hM : GM M) {S : FS} {came : Nat} (hO : OKM9 S came) {f u lo hi t : Int} (ht : t % 2 = 0) : ∀ i, i ≤ came → mnA S f u lo hi M (t - 1) i ≤ mnA S f u lo hi M t i
  | 0, _ => Nat.le_refl 0
  | i + 1, hi1 => by
    have ih := mnA_up hM hO (f := f) (u := u) (lo := lo) (hi := hi) ht i (by omega)
    obtain ⟨q1, -⟩ := cwQ_sp hM hO (f := f) (u := u) (lo := lo) (hi := hi) (show i < came by omega)
    have e2 := gz_even hM q1.2.1
    unfold mnA
    by_cases z : (thB S f i = true ∧ soB f (u * 256 + 1) (cwQ S f (u * 256 + 1) lo hi i) = true) ∧ gz M (cwQ S f (u * 256 + 1) lo hi i).1 ≤ t - 1 ∧ t - 1 ≤ gz M (cwQ S f (u * 256 + 1) lo hi i).2.1
    · rw [if_pos z, if_pos ⟨z.1, by omega, by omega⟩]
      omega
    · rw [if_neg z]
      omega
theorem mnA_dn {M : Int} (hM : GM M) {S : FS} {came : Nat} (hO : OKM9 S came) {f u lo hi : Int} (hfu : f < u) : ∀ i, i ≤ came → mnA S f u lo hi M (u * M) i ≤ mnA S f u lo hi M (u * M - 1) i
  | 0, _ => Nat.le_refl 0
  | i + 1, hi1 => by
    have ih := mnA_dn hM hO (lo := lo) (hi := hi) hfu i (by omega)
    obtain ⟨q1, -⟩ := cwQ_sp hM hO (f := f) (u := u) (lo := lo) (hi := hi) (show i < came by omega)
    unfold mnA
    by_cases z : (thB S f i = true ∧ soB f (u * 256 + 1) (cwQ S f (u * 256 + 1) lo hi i) = true) ∧ gz M (cwQ S f (u * 256 + 1) lo hi i).1 ≤ u * M ∧ u * M ≤ gz M (cwQ S f (u * 256 + 1) lo hi i).2.1
    · have h6 := (soB_iff hM q1).mp z.1.2
      have h7 : gz M (cwQ S f (u * 256 + 1) lo hi i).1 ≠ u * M := fun y => h6.2.1 ⟨y, by omega⟩
      rw [if_pos z, if_pos ⟨z.1, by omega, by omega⟩]
      omega
    · rw [if_neg z]
      omega
theorem mnA_rng {M : Int} (hM : GM M) {S : FS} {came : Nat} (hO : OKM9 S came) {f u lo hi t : Int} : ∀ i, i ≤ came → 1 ≤ mnA S f u lo hi M t i → f * M ≤ t ∧ t ≤ u * M
  | 0, _, h => absurd h (show ¬ 1 ≤ 0 by decide)
  | i + 1, hi1, h => by
    obtain ⟨q1, q2, q3, -⟩ := cwQ_sp hM hO (f := f) (u := u) (lo := lo) (hi := hi) (show i < came by omega)
    unfold mnA at h
    by_cases z : (thB S f i = true ∧ soB f (u * 256 + 1) (cwQ S f (u * 256 + 1) lo hi i) = true) ∧ gz M (cwQ S f (u * 256 + 1) lo hi i).1 ≤ t ∧ t ≤ gz M (cwQ S f (u * 256 + 1) lo hi i).2.1
    · omega
    · rw [if_neg z] at h
      exact mnA_rng hM hO i (by omega) h
theorem fin_mem {so : Int → Bool} {L L1 : IL} {X : Int} (h : INV so L X) (hX : 0 ≤ X) (eX : X % 2 = 0) (hs0 : so (-1) = false) (hS : SEPL L1) (hm : ∀ t, memI L1 t ↔ memI L t ∨ (so X = true ∧ t = X)) : FIN so L1 X := by
  obtain ⟨-, h2⟩ := fin_step h hX eX hs0
  refine ⟨hS, fun t => ?_⟩
  rw [hm, ← h2]
  by_cases c : so X = true
  · rw [if_pos c, (addI_spec (x := (X, X)) (X1 := X) h.1 (Int.le_refl _) (Int.le_refl _) (Int.le_refl _) eX eX).2]
    dsimp only
    constructor
    · rintro (g | g)
      · exact Or.inl g
      · exact Or.inr (by omega)
    · rintro (g | g)
      · exact Or.inl g
      · exact Or.inr ⟨c, by omega⟩
  · rw [if_neg c]
    exact ⟨fun g => g.elim id (fun g => absurd g.1 c), Or.inl⟩
def soW (S : FS) (came : Nat) (lo hi mm : Int) (n d : Int) : Bool := decide (mm ≤ ((mnR S lo hi n d came : Nat) : Int))
theorem mnR_s0 {M : Int} (hM : GM M) {S : FS} {lo hi : Int} : ∀ i, (∀ j, j < i → 0 ≤ S.1 j 0) → mnR S lo hi (-1) M i = 0
  | 0, _ => rfl
  | i + 1, h => by
    unfold mnR
    rw [mnR_s0 hM i (fun j hj => h j (by omega)), th_neg hM.1 (h i (Nat.lt_succ_self i)), if_neg (fun z => by cases z.1)]
theorem wn_fin {M : Int} (hM : GM M) {S : FS} {came : Nat} (hO : OKM9 S came) {la lo hi : Int} {mm : Nat} (hmm : 1 ≤ mm) (hla : 0 ≤ la) : REDL (wnL S came la lo hi (mm : Int) (bcF S came la)) ∧ FIN (fun t => soW S came lo hi (mm : Int) t M) (gl M (wnL S came la lo hi (mm : Int) (bcF S came la))) (la * M) := by
  obtain ⟨b1, b2, b3⟩ := bc_spec (S := S) hla hO.1 hO.n8
  have hs0 : soW S came lo hi (mm : Int) (-1) M = false := by
    unfold soW
    rw [mnR_s0 hM came (fun j hj => hO.st j 0 hj (hO.n1 j hj))]
    exact decide_eq_false (by omega)
  have b0 : ∀ k, k < bcF S came la → 0 ≤ bndF S came la k := fun k => by
    induction k with
    | zero => exact fun _ => Int.le_refl _
    | succ k ih =>
      intro hk
      have h1 := ih (by omega)
      have h2 := bnd_s (b2 k hk)
      omega
  have hso : ∀ (t : Int) (c : Nat), mnR S lo hi t M came = c → (soW S came lo hi (mm : Int) t M = true ↔ mm ≤ c) := fun t c h => by
    unfold soW
    rw [decide_eq_true_iff, h]
    omega
  have key : ∀ b, b + 1 ≤ bcF S came la → REDL (wnL S came la lo hi (mm : Int) b) ∧ INV (fun t => soW S came lo hi (mm : Int) t M) (gl M (wnL S came la lo hi (mm : Int) b)) (bndF S came la b * M) := fun b => by
    induction b with
    | zero =>
      intro _
      refine ⟨fun z hz => absurd hz List.not_mem_nil, ?_⟩
      rw [show bndF S came la 0 * M = 0 from Int.zero_mul M]
      exact inv_0 _
    | succ b ih =>
      intro hb
      obtain ⟨h1, h2⟩ := ih (by omega)
      have h3 := b2 b (by omega)
      have h4 := bnd_s h3
      have hf := b0 b (by omega)
      have e : nxB S came la b = bndF S came la (b + 1) := if_pos (by omega)
      have hN := nbS_nob S (bndF S came la b) came la
      have hN2 : NOB S came (bndF S came la b) (bndF S came la (b + 1)) := hN
      unfold wnL
      rw [e]
      generalize bndF S came la b = f at *
      generalize bndF S came la (b + 1) = u at *
      have hlt : f * M < u * M := Int.mul_lt_mul_of_pos_right h4.1 hM.1
      obtain ⟨k1, k2, k3⟩ := sw_all hM hO (f := f) (u := u) (lo := lo) (hi := hi) (by omega) hmm h1 h2.1
      refine ⟨k1, ?_⟩
      refine inv_step (A := fun t => mm ≤ mnA S f u lo hi M t came) h2 (Int.mul_nonneg hf (by have := hM.1; omega)) hlt hs0 (fun t x1 x2 => hso t _ (mn_eq hM hO hN2 x1 x2 (by omega) (fun _ => x2) came (Nat.le_refl _))) (fun t h => mnA_rng hM hO came (Nat.le_refl _) (Nat.le_trans hmm h)) (fun t ev _ _ h => ?_) (fun h => ?_) k2 k3 (mulM_even hM u) (mulM_even hM f)
      · have := mnA_up hM hO (f := f) (u := u) (lo := lo) (hi := hi) ev came (Nat.le_refl _)
        omega
      · have := mnA_dn hM hO (lo := lo) (hi := hi) h4.1 came (Nat.le_refl _)
        omega
  obtain ⟨n, hn1⟩ : ∃ n, bcF S came la = n + 1 := ⟨bcF S came la - 1, by omega⟩
  obtain ⟨h1, h2⟩ := key n (by omega)
  rw [hn1] at b3 ⊢
  rw [show n + 1 - 1 = n by omega] at b3
  have e : nxB S came la n = bndF S came la n := if_neg (by omega)
  unfold wnL
  rw [e]
  rw [b3] at h2 ⊢
  obtain ⟨k1, k2, k3⟩ := sw_all hM hO (f := la) (u := la) (lo := lo) (hi := hi) (Int.le_refl _) hmm h1 h2.1
  refine ⟨k1, fin_mem h2 (Int.mul_nonneg hla (by have := hM.1; omega)) (mulM_even hM la) hs0 k2.1 (fun t => ?_)⟩
  rw [k3]
  have hN : NOB S came la (la + 1) := fun i hi => ⟨fun p hp z => by omega, fun z => by omega⟩
  have hlt : la * M < (la + 1) * M := Int.mul_lt_mul_of_pos_right (by omega) hM.1
  have h5 := hso (la * M) _ (mn_eq hM hO (u := la) (lo := lo) (hi := hi) hN (Int.le_refl _) hlt (Int.le_refl _) (fun y => absurd rfl y) came (Nat.le_refl _))
  constructor
  · rintro (g | g)
    · exact Or.inl g
    · have h6 := mnA_rng hM hO (f := la) (u := la) (lo := lo) (hi := hi) (t := t) came (Nat.le_refl _) (by omega)
      have h7 : t = la * M := by omega
      subst h7
      exact Or.inr ⟨h5.mpr g, rfl⟩
  · rintro (g | ⟨g1, g2⟩)
    · exact Or.inl g
    · subst g2
      exact Or.inr (h5.mp g1)
