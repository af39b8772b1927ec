/-! near, first: the class keeps of a stretch when it is so -/
def SPD (S : FS) (came : Nat) : Prop := ∀ (t : Int) (i : Nat), i < came → -50 ≤ spS S t i ∧ spS S t i ≤ 50
def NP1 (S : FS) (came : Nat) : Prop := ∀ i : Nat, i < came → 1 ≤ S.2.2.2.1 i
theorem nr_qf {M : Int} (hM : GM M) {S : FS} {came : Nat} (hP : SPD S came) (hN1 : NP1 S came) {i j : Nat} (hi : i < came) (hj : j < came) (wd : Int) : QFP M S came (fun t => soN S i j wd t M) (fun t q => nrS S t i j wd q) := fun f u hf hfu hN q hq => by
  have p1 := hP f i hi
  have p2 := hP f j hj
  dsimp only
  unfold nrS
  by_cases c : thB S f i = true ∧ thB S f j = true
  · rw [if_pos c]
    obtain ⟨a1, a2, a3, a4⟩ := ka_sp hM (f := f) (va := poS S f j - poS S f i) (gr := spS S f j - spS S f i) (bd := wd) hq (by omega)
    obtain ⟨b1, b2, b3, b4⟩ := ka_sp hM (f := f) (va := poS S f i - poS S f j) (gr := spS S f i - spS S f j) (bd := wd) a1 (by omega)
    refine ⟨b1, by omega, by omega, fun t h1 h2 => ?_⟩
    rw [b4, a4, and_assoc]
    refine and_congr_right fun _ => ?_
    unfold soN
    rw [decide_eq_true_iff, str_th hM.1 hN hi (hN1 i hi) h1 h2, str_th hM.1 hN hj (hN1 j hj) h1 h2, str_up hM.1 hN hi h1 h2, str_up hM.1 hN hj h1 h2]
    have e1 : (poS S f i - poS S f j) * M + (spS S f i - spS S f j) * (t - f * M) = poS S f i * M + spS S f i * (t - f * M) - (poS S f j * M + spS S f j * (t - f * M)) := by grind
    have e2 : (poS S f j - poS S f i) * M + (spS S f j - spS S f i) * (t - f * M) = -(poS S f i * M + spS S f i * (t - f * M) - (poS S f j * M + spS S f j * (t - f * M))) := by grind
    have e3 : -wd * M = -(wd * M) := Int.neg_mul _ _
    rw [e1, e2, e3]
    constructor
    · intro z
      exact ⟨c, by omega, by omega⟩
    · rintro ⟨-, z1, z2⟩
      exact ⟨by omega, by omega⟩
  · rw [if_neg c]
    refine ⟨hq, Int.le_refl _, Int.le_refl _, fun t h1 h2 => ?_⟩
    unfold inQ soN
    rw [decide_eq_true_iff, str_th hM.1 hN hi (hN1 i hi) h1 h2, str_th hM.1 hN hj (hN1 j hj) h1 h2]
    constructor
    · intro z
      exact absurd z.1 (show ¬ (1 : Int) = 0 by decide)
    · rintro ⟨-, z1, -⟩
      exact absurd z1 c
theorem fiR_th {S : FS} {o : Nat} {n d : Int} : ∀ k, fiR S o n d k = true → thX S n d o = true
  | 0, h => h
  | k + 1, h => by
    unfold fiR at h
    split at h
    · rw [Bool.and_eq_true] at h
      exact fiR_th k h.1
    · exact fiR_th k h
theorem frI_in {M : Int} (hM : GM M) {S : FS} {came : Nat} (hP : SPD S came) (hN1 : NP1 S came) {o : Nat} (ho : o < came) {f u : Int} (hN : NOB S came f u) {q : ST} (hq : OKD q) (hth : thB S f o = true) : ∀ k, k ≤ came → OKD (frI S f o k q) ∧ gz M q.1 ≤ gz M (frI S f o k q).1 ∧ gz M (frI S f o k q).2.1 ≤ gz M q.2.1 ∧ ∀ t, f * M ≤ t → t < u * M → (inQ M (frI S f o k q) t ↔ inQ M q t ∧ fiR S o t M k = true)
  | 0, _ => ⟨hq, Int.le_refl _, Int.le_refl _, fun t h1 h2 => by
    have : fiR S o t M 0 = true := by
      show thX S t M o = true
      rw [str_th hM.1 hN ho (hN1 o ho) h1 h2]
      exact hth
    exact ⟨fun z => ⟨z, this⟩, fun z => z.1⟩⟩
  | k + 1, hk => by
    obtain ⟨a1, a2, a3, a4⟩ := frI_in hM hP hN1 ho hN hq hth k (by omega)
    have hk2 : k < came := by omega
    by_cases c : thB S f k = true
    · have p1 := hP f o ho
      have p2 := hP f k hk2
      obtain ⟨b1, b2, b3, b4⟩ := ka_sp hM (f := f) (va := poS S f k - poS S f o) (gr := spS S f k - spS S f o) (bd := 0) a1 (by omega)
      rw [frI_yes c]
      refine ⟨b1, by omega, by omega, fun t h1 h2 => ?_⟩
      have ht : thX S t M k = true := by rw [str_th hM.1 hN hk2 (hN1 k hk2) h1 h2]; exact c
      rw [b4, a4 t h1 h2, fiR_y ht, Bool.and_eq_true, decide_eq_true_iff, str_up hM.1 hN ho h1 h2, str_up hM.1 hN hk2 h1 h2, and_assoc]
      have e1 : (poS S f k - poS S f o) * M + (spS S f k - spS S f o) * (t - f * M) = poS S f k * M + spS S f k * (t - f * M) - (poS S f o * M + spS S f o * (t - f * M)) := by grind
      rw [e1, Int.zero_mul]
      refine and_congr_right fun _ => and_congr_right fun _ => ?_
      omega
    · rw [frI_no c]
      refine ⟨a1, a2, a3, fun t h1 h2 => ?_⟩
      have ht : ¬ thX S t M k = true := by rw [str_th hM.1 hN hk2 (hN1 k hk2) h1 h2]; exact c
      rw [a4 t h1 h2, fiR_n ht]
theorem fr_qf {M : Int} (hM : GM M) {S : FS} {came : Nat} (hP : SPD S came) (hN1 : NP1 S came) {o : Nat} (ho : o < came) : QFP M S came (fun t => fiR S o t M came) (fun t q => frS S t o came q) := fun f u hf hfu hN q hq => by
  dsimp only
  unfold frS
  by_cases c : thB S f o = true
  · rw [if_pos c]
    exact frI_in hM hP hN1 ho hN hq c came (Nat.le_refl _)
  · rw [if_neg c]
    refine ⟨hq, Int.le_refl _, Int.le_refl _, fun t h1 h2 => ?_⟩
    constructor
    · intro z
      exact absurd z.1 (show ¬ (1 : Int) = 0 by decide)
    · rintro ⟨-, z1⟩
      have z2 := fiR_th came z1
      rw [str_th hM.1 hN ho (hN1 o ho) h1 h2] at z2
      exact absurd z2 c
theorem nr_s0 {M : Int} (hM : GM M) {S : FS} {i j : Nat} {wd : Int} (h : 0 ≤ S.1 i 0) : soN S i j wd (-1) M = false := by
  unfold soN
  refine decide_eq_false fun z => ?_
  have := z.1.1
  rw [th_neg hM.1 h] at this
  cases this
theorem fr_s0 {M : Int} (hM : GM M) {S : FS} {o came : Nat} (h : 0 ≤ S.1 o 0) : fiR S o (-1) M came = false := by
  cases hc : fiR S o (-1) M came with
  | false => rfl
  | true =>
    have := fiR_th came hc
    rw [th_neg hM.1 h] at this
    cases this
