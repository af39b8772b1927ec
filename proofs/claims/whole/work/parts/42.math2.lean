/-! stretches between bends -/
def NOB (S : FS) (came : Nat) (f u : Int) : Prop := ∀ i : Nat, i < came → (∀ p : Nat, p < S.2.2.2.1 i → ¬ (f < S.1 i p ∧ S.1 i p < u)) ∧ ¬ (f < S.2.2.2.2 i ∧ S.2.2.2.2 i < u)
theorem nbP_spec (st : Nat → Int) (a : Int) : ∀ (k : Nat) (last : Int), nbP st a k last ≤ last ∧ (∀ p : Nat, p < k → a < st p → nbP st a k last ≤ st p) ∧ (a < last → a < nbP st a k last) ∧ (nbP st a k last = last ∨ ∃ p : Nat, p < k ∧ st p = nbP st a k last ∧ a < st p)
  | 0, last => ⟨Int.le_refl _, fun p hp => absurd hp (Nat.not_lt_zero p), id, Or.inl rfl⟩
  | k + 1, last => by
    obtain ⟨h1, h2, h3, h4⟩ := nbP_spec st a k last
    unfold nbP
    split
    · rename_i hc
      refine ⟨by omega, fun p hp hq => ?_, fun z => by have := h3 z; omega, ?_⟩
      · by_cases z : p = k
        · subst z; omega
        · have := h2 p (by omega) hq
          omega
      · by_cases z : nbP st a k last ≤ st k
        · rw [Int.min_eq_left z]
          rcases h4 with h4 | ⟨p, hp, h5, h6⟩
          · exact Or.inl h4
          · exact Or.inr ⟨p, by omega, h5, h6⟩
        · rw [Int.min_eq_right (by omega)]
          exact Or.inr ⟨k, Nat.lt_succ_self k, rfl, hc⟩
    · rename_i hc
      refine ⟨h1, fun p hp hq => ?_, h3, ?_⟩
      · by_cases z : p = k
        · subst z; exact absurd hq hc
        · exact h2 p (by omega) hq
      · rcases h4 with h4 | ⟨p, hp, h5, h6⟩
        · exact Or.inl h4
        · exact Or.inr ⟨p, by omega, h5, h6⟩
theorem nbS_spec (S : FS) (a : Int) : ∀ (i : Nat) (last : Int), nbS S a i last ≤ last ∧ (∀ j : Nat, j < i → (∀ p : Nat, p < S.2.2.2.1 j → a < S.1 j p → nbS S a i last ≤ S.1 j p) ∧ (a < S.2.2.2.2 j → nbS S a i last ≤ S.2.2.2.2 j)) ∧ (a < last → a < nbS S a i last) ∧ (nbS S a i last = last ∨ ∃ j : Nat, j < i ∧ ((∃ p : Nat, p < S.2.2.2.1 j ∧ S.1 j p = nbS S a i last ∧ a < S.1 j p) ∨ (S.2.2.2.2 j = nbS S a i last ∧ a < S.2.2.2.2 j)))
  | 0, last => ⟨Int.le_refl _, fun j hj => absurd hj (Nat.not_lt_zero j), id, Or.inl rfl⟩
  | i + 1, last => by
    obtain ⟨h1, h2, h3, h4⟩ := nbS_spec S a i last
    obtain ⟨g1, g2, g3, g4⟩ := nbP_spec (S.1 i) a (S.2.2.2.1 i) (nbS S a i last)
    unfold nbS nbC
    split
    · rename_i hc
      refine ⟨by omega, fun j hj => ?_, fun z => by have := g3 (h3 z); omega, ?_⟩
      · by_cases z : j = i
        · subst z
          exact ⟨fun p hp hq => by have := g2 p hp hq; omega, fun _ => by omega⟩
        · obtain ⟨k1, k2⟩ := h2 j (by omega)
          exact ⟨fun p hp hq => by have := k1 p hp hq; omega, fun hq => by have := k2 hq; omega⟩
      · by_cases z : nbP (S.1 i) a (S.2.2.2.1 i) (nbS S a i last) ≤ S.2.2.2.2 i
        · rw [Int.min_eq_left z]
          rcases g4 with g4 | ⟨p, hp, h5, h6⟩
          · rw [g4]
            rcases h4 with h4 | ⟨j, hj, h5⟩
            · exact Or.inl h4
            · exact Or.inr ⟨j, by omega, h5⟩
          · exact Or.inr ⟨i, Nat.lt_succ_self i, Or.inl ⟨p, hp, h5, h6⟩⟩
        · rw [Int.min_eq_right (by omega)]
          exact Or.inr ⟨i, Nat.lt_succ_self i, Or.inr ⟨rfl, hc⟩⟩
    · rename_i hc
      refine ⟨by omega, fun j hj => ?_, fun z => g3 (h3 z), ?_⟩
      · by_cases z : j = i
        · subst z
          exact ⟨g2, fun hq => absurd hq hc⟩
        · obtain ⟨k1, k2⟩ := h2 j (by omega)
          exact ⟨fun p hp hq => by have := k1 p hp hq; omega, fun hq => by have := k2 hq; omega⟩
      · rcases g4 with g4 | ⟨p, hp, h5, h6⟩
        · rw [g4]
          rcases h4 with h4 | ⟨j, hj, h5⟩
          · exact Or.inl h4
          · exact Or.inr ⟨j, by omega, h5⟩
        · exact Or.inr ⟨i, Nat.lt_succ_self i, Or.inl ⟨p, hp, h5, h6⟩⟩
theorem nbS_nob (S : FS) (a : Int) (came : Nat) (last : Int) : NOB S came a (nbS S a came last) := fun j hj => by
  obtain ⟨-, h2, -, -⟩ := nbS_spec S a came last
  obtain ⟨k1, k2⟩ := h2 j hj
  exact ⟨fun p hp z => by have := k1 p hp z.1; omega, fun z => by have := k2 z.1; omega⟩
/-- how many begins and ends are not later -/
def cPc (st : Nat → Int) (x : Int) : Nat → Nat
  | 0 => 0
  | k + 1 => cPc st x k + (if st k ≤ x then 1 else 0)
def cBc (S : FS) (x : Int) : Nat → Nat
  | 0 => 0
  | i + 1 => cBc S x i + cPc (S.1 i) x (S.2.2.2.1 i) + (if S.2.2.2.2 i ≤ x then 1 else 0)
theorem cPc_le (st : Nat → Int) (x : Int) : ∀ k, cPc st x k ≤ k
  | 0 => Nat.le_refl 0
  | k + 1 => by
    have := cPc_le st x k
    unfold cPc
    split <;> omega
theorem cPc_mono (st : Nat → Int) {x y : Int} (h : x ≤ y) : ∀ k, cPc st x k ≤ cPc st y k
  | 0 => Nat.le_refl 0
  | k + 1 => by
    have := cPc_mono st h k
    unfold cPc
    split <;> split <;> omega
theorem cPc_hit (st : Nat → Int) {x y : Int} (h : x ≤ y) {p : Nat} (h1 : x < st p) (h2 : st p ≤ y) : ∀ k, p < k → cPc st x k + 1 ≤ cPc st y k
  | 0, hp => absurd hp (Nat.not_lt_zero p)
  | k + 1, hp => by
    have hm := cPc_mono st h k
    unfold cPc
    by_cases z : p = k
    · subst z
      rw [if_neg (by omega), if_pos h2]
      omega
    · have := cPc_hit st h h1 h2 k (by omega)
      split <;> split <;> omega
theorem cBc_le {S : FS} {x : Int} {came : Nat} (hn : ∀ i, i < came → S.2.2.2.1 i ≤ 8) : ∀ i, i ≤ came → cBc S x i ≤ 9 * i
  | 0, _ => Nat.le_refl 0
  | i + 1, hi => by
    have h1 := cBc_le (x := x) hn i (by omega)
    have h2 := cPc_le (S.1 i) x (S.2.2.2.1 i)
    have h3 := hn i (by omega)
    unfold cBc
    split <;> omega
theorem cBc_mono (S : FS) {x y : Int} (h : x ≤ y) : ∀ i, cBc S x i ≤ cBc S y i
  | 0 => Nat.le_refl 0
  | i + 1 => by
    have h1 := cBc_mono S h i
    have h2 := cPc_mono (S.1 i) h (S.2.2.2.1 i)
    unfold cBc
    split <;> split <;> omega
theorem cBc_hit (S : FS) {x y : Int} (h : x ≤ y) {j : Nat} (hj : (∃ p : Nat, p < S.2.2.2.1 j ∧ S.1 j p = y ∧ x < S.1 j p) ∨ (S.2.2.2.2 j = y ∧ x < S.2.2.2.2 j)) : ∀ i, j < i → cBc S x i + 1 ≤ cBc S y i
  | 0, hp => absurd hp (Nat.not_lt_zero j)
  | i + 1, hp => by
    have h1 := cBc_mono S h i
    have h2 := cPc_mono (S.1 i) h (S.2.2.2.1 i)
    unfold cBc
    by_cases z : j = i
    · subst z
      rcases hj with ⟨p, hp1, hp2, hp3⟩ | ⟨h5, h6⟩
      · have h3 := cPc_hit (S.1 j) h hp3 (by omega) (S.2.2.2.1 j) hp1
        split <;> split <;> omega
      · rw [if_neg (by omega), if_pos (by omega)]
        omega
    · have := cBc_hit S h hj i (by omega)
      split <;> split <;> omega
theorem bnd_s {S : FS} {came : Nat} {la : Int} {k : Nat} (h : bndF S came la k < la) : bndF S came la k < bndF S came la (k + 1) ∧ bndF S came la (k + 1) ≤ la := by
  obtain ⟨h1, -, h3, -⟩ := nbS_spec S (bndF S came la k) came la
  exact ⟨h3 h, h1⟩
theorem bnd_cnt {S : FS} {came : Nat} {la : Int} : ∀ k, (∀ j, j ≤ k → bndF S came la j < la) → k ≤ cBc S (bndF S came la k) came
  | 0, _ => Nat.zero_le _
  | k + 1, h => by
    have ih := bnd_cnt k (fun j hj => h j (by omega))
    have h1 := bnd_s (h k (by omega))
    obtain ⟨-, -, -, h4⟩ := nbS_spec S (bndF S came la k) came la
    have h5 := h (k + 1) (Nat.le_refl _)
    have h6 : bndF S came la (k + 1) = nbS S (bndF S came la k) came la := rfl
    rcases h4 with h4 | ⟨j, hj, h7⟩
    · omega
    · rw [← h6] at h7
      have := cBc_hit S (x := bndF S came la k) (y := bndF S came la (k + 1)) (by omega) h7 came hj
      omega
theorem bcG_spec {S : FS} {came : Nat} {la : Int} : ∀ n k : Nat, 1 ≤ k → (∀ j, j + 1 < k → bndF S came la j < la) → k ≤ bcG S came la n k ∧ bcG S came la n k ≤ k + n ∧ (∀ j, j + 1 < bcG S came la n k → bndF S came la j < la) ∧ (la ≤ bndF S came la (bcG S came la n k - 1) ∨ bcG S came la n k = k + n)
  | 0, k, _, h => ⟨Nat.le_refl _, Nat.le_refl _, h, Or.inr rfl⟩
  | n + 1, k, hk, h => by
    unfold bcG
    split
    · rename_i hc
      obtain ⟨h1, h2, h3, h4⟩ := bcG_spec n (k + 1) (by omega) (fun j hj => by
        by_cases z : j + 1 = k
        · rw [show j = k - 1 by omega]
          exact hc
        · exact h j (by omega))
      refine ⟨by omega, by omega, h3, ?_⟩
      rcases h4 with h4 | h4
      · exact Or.inl h4
      · exact Or.inr (by omega)
    · rename_i hc
      exact ⟨Nat.le_refl _, by omega, h, Or.inl (by omega)⟩
theorem bc_spec {S : FS} {came : Nat} {la : Int} (hla : 0 ≤ la) (hc : came ≤ 10) (hn : ∀ i, i < came → S.2.2.2.1 i ≤ 8) : 1 ≤ bcF S came la ∧ (∀ j, j + 1 < bcF S came la → bndF S came la j < la) ∧ bndF S came la (bcF S came la - 1) = la := by
  obtain ⟨h1, h2, h3, h4⟩ := bcG_spec (S := S) (came := came) (la := la) 91 1 (Nat.le_refl 1) (fun j hj => absurd hj (by omega))
  have hle : ∀ k, bndF S came la k ≤ la := fun k => by
    cases k with
    | zero => exact hla
    | succ k => exact (nbS_spec S (bndF S came la k) came la).1
  refine ⟨h1, h3, ?_⟩
  have hl := hle (bcF S came la - 1)
  rcases h4 with h4 | h4
  · have h5 : la ≤ bndF S came la (bcF S came la - 1) := h4
    omega
  · by_cases z : bndF S came la (bcF S came la - 1) < la
    · exfalso
      have h5 : bcF S came la = 92 := h4
      have h6 := bnd_cnt (S := S) (came := came) (la := la) 91 (fun j hj => by
        by_cases y : j = 91
        · subst y
          rw [h5] at z
          exact z
        · exact h3 j (by show j + 1 < bcF S came la; omega))
      have h7 := cBc_le (x := bndF S came la 91) hn came (Nat.le_refl _)
      omega
    · omega
/-- on a stretch: who is there, where, how fast -/
theorem str_le {M a f u t : Int} (hM : 0 < M) (h : ¬ (f < a ∧ a < u)) (h1 : f * M ≤ t) (h2 : t < u * M) : a * M ≤ t ↔ a ≤ f := by
  constructor
  · intro h3
    by_cases z : a ≤ f
    · exact z
    · exfalso
      have h4 : u ≤ a := by omega
      have h5 := Int.mul_le_mul_of_nonneg_right h4 (show 0 ≤ M by omega)
      omega
  · intro h3
    have h5 := Int.mul_le_mul_of_nonneg_right h3 (show 0 ≤ M by omega)
    omega
theorem str_pc {M f u t : Int} (hM : 0 < M) (st : Nat → Int) (h1 : f * M ≤ t) (h2 : t < u * M) : ∀ k, (∀ p, p < k → ¬ (f < st p ∧ st p < u)) → pcAt st t M k = pcAt st f 1 k
  | 0, _ => rfl
  | k + 1, h => by
    have ih := str_pc hM st h1 h2 k (fun p hp => h p (by omega))
    have h3 := str_le hM (h k (Nat.lt_succ_self k)) h1 h2
    unfold pcAt
    rw [ih]
    by_cases z : 0 < k ∧ st k * M ≤ t
    · rw [if_pos z, if_pos ⟨z.1, by rw [Int.mul_one]; exact h3.mp z.2⟩]
    · rw [if_neg z, if_neg (fun y => z ⟨y.1, h3.mpr (by have := y.2; rw [Int.mul_one] at this; exact this)⟩)]
theorem str_th {S : FS} {came : Nat} {M f u t : Int} (hM : 0 < M) (h : NOB S came f u) {i : Nat} (hi : i < came) (hn : 1 ≤ S.2.2.2.1 i) (h1 : f * M ≤ t) (h2 : t < u * M) : thX S t M i = thB S f i := by
  obtain ⟨h3, h4⟩ := h i hi
  have e1 := str_le hM (h3 0 (by omega)) h1 h2
  have e2 := str_le hM h4 h1 h2
  unfold thX thB thF
  rw [Int.mul_one, Int.mul_one]
  refine decide_eq_decide.mpr ⟨fun z => ⟨e1.mp z.1, ?_⟩, fun z => ⟨e1.mpr z.1, ?_⟩⟩
  · rcases z.2 with z2 | z2
    · exact Or.inl z2
    · exact Or.inr (by omega)
  · rcases z.2 with z2 | z2
    · exact Or.inl z2
    · exact Or.inr (by omega)
theorem str_up {S : FS} {came : Nat} {M f u t : Int} (hM : 0 < M) (h : NOB S came f u) {i : Nat} (hi : i < came) (h1 : f * M ≤ t) (h2 : t < u * M) : upX S t M i = poS S f i * M + spS S f i * (t - f * M) := by
  obtain ⟨h3, h4⟩ := h i hi
  unfold upX upF poS spS spAt upAt
  rw [str_pc hM (S.1 i) h1 h2 _ h3]
  generalize S.1 i (pcAt (S.1 i) f 1 (S.2.2.2.1 i)) = a
  generalize S.2.1 i (pcAt (S.1 i) f 1 (S.2.2.2.1 i)) = b
  generalize S.2.2.1 i (pcAt (S.1 i) f 1 (S.2.2.2.1 i)) = c
  grind
theorem th_neg {S : FS} {M : Int} (hM : 0 < M) {i : Nat} (h : 0 ≤ S.1 i 0) : thX S (-1) M i = false := by
  unfold thX thF
  refine decide_eq_false fun z => ?_
  have h5 := Int.mul_nonneg h (show 0 ≤ M by omega)
  have := z.1
  omega
