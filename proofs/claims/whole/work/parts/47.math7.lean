/-! which times the model gathers -/
theorem gT_one (M v : Int) : gT M (v, 1) = v * M := by
  unfold gT
  rw [Int.ediv_one]
theorem btP_ts {M en : Int} (hM : GM M) (hen : en ≤ 600) (S : FS) (i : Nat) {U : List TM} (h : TSM M en U) : ∀ k, TSM M en (btP S en i k U) ∧ (∀ v, HAS M U v → HAS M (btP S en i k U) v) ∧ ∀ p, p < k → 0 ≤ S.1 i p → S.1 i p ≤ en → HAS M (btP S en i k U) (S.1 i p * M)
  | 0 => ⟨h, fun v g => g, fun p hp => absurd hp (Nat.not_lt_zero p)⟩
  | k + 1 => by
    obtain ⟨h1, h2, h3⟩ := btP_ts hM hen S i h k
    obtain ⟨g1, g2, g3⟩ := ins_ts hM hen h1 (x := (S.1 i k, 1)) ⟨Int.le_refl _, (show (1 : Int) ≤ 100 by decide)⟩
    rw [gT_one] at g3
    refine ⟨g1, fun v g => g2 v (h2 v g), fun p hp a b => ?_⟩
    by_cases z : p = k
    · subst z
      exact g3 a (by dsimp only; omega)
    · exact g2 _ (h3 p (by omega) a b)
theorem bt_ts {M en : Int} (hM : GM M) (hen : 1 ≤ en ∧ en ≤ 600) (S : FS) : ∀ i, TSM M en (btI S en i) ∧ HAS M (btI S en i) 0 ∧ HAS M (btI S en i) (en * M) ∧ ∀ j, j < i → (∀ p, p < S.2.2.2.1 j → 0 ≤ S.1 j p → S.1 j p ≤ en → HAS M (btI S en i) (S.1 j p * M)) ∧ (0 ≤ S.2.2.2.2 j → S.2.2.2.2 j ≤ en → HAS M (btI S en i) (S.2.2.2.2 j * M))
  | 0 => by
    have h0 : TSM M en [] := ⟨fun y hy => absurd hy List.not_mem_nil, List.Pairwise.nil⟩
    obtain ⟨a1, a2, a3⟩ := ins_ts hM hen.2 h0 (x := (0, 1)) ⟨Int.le_refl _, (show (1 : Int) ≤ 100 by decide)⟩
    obtain ⟨b1, b2, b3⟩ := ins_ts hM hen.2 a1 (x := (en, 1)) ⟨Int.le_refl _, (show (1 : Int) ≤ 100 by decide)⟩
    rw [gT_one] at a3 b3
    have a4 := a3 (Int.le_refl _) (by dsimp only; omega)
    rw [Int.zero_mul] at a4
    exact ⟨b1, b2 _ a4, b3 (by dsimp only; omega) (by dsimp only; omega), fun j hj => absurd hj (Nat.not_lt_zero j)⟩
  | i + 1 => by
    obtain ⟨h1, h2, h3, h4⟩ := bt_ts hM hen S i
    obtain ⟨p1, p2, p3⟩ := btP_ts hM hen.2 S i h1 (S.2.2.2.1 i)
    unfold btI
    by_cases c : 0 ≤ S.2.2.2.2 i
    · rw [if_pos c]
      obtain ⟨g1, g2, g3⟩ := ins_ts hM hen.2 p1 (x := (S.2.2.2.2 i, 1)) ⟨Int.le_refl _, (show (1 : Int) ≤ 100 by decide)⟩
      rw [gT_one] at g3
      refine ⟨g1, g2 _ (p2 _ h2), g2 _ (p2 _ h3), fun j hj => ?_⟩
      by_cases z : j = i
      · subst z
        exact ⟨fun p hp a b => g2 _ (p3 p hp a b), fun a b => g3 a (by dsimp only; omega)⟩
      · obtain ⟨k1, k2⟩ := h4 j (by omega)
        exact ⟨fun p hp a b => g2 _ (p2 _ (k1 p hp a b)), fun a b => g2 _ (p2 _ (k2 a b))⟩
    · rw [if_neg c]
      refine ⟨p1, p2 _ h2, p2 _ h3, fun j hj => ?_⟩
      by_cases z : j = i
      · subst z
        exact ⟨p3, fun a => absurd a c⟩
      · obtain ⟨k1, k2⟩ := h4 j (by omega)
        exact ⟨fun p hp a b => p2 _ (k1 p hp a b), fun a b => p2 _ (k2 a b)⟩
/-- the crossing is among the times -/
def CRS (M en : Int) (U : List TM) (va sl fr to : Int) : Prop := sl ≠ 0 → fr * zD sl ≤ zN va sl fr → zN va sl fr ≤ to * zD sl → 0 ≤ zN va sl fr → zN va sl fr ≤ en * zD sl → HAS M U (gT M (zN va sl fr, zD sl))
theorem zD_rng {sl : Int} (h : -100 ≤ sl ∧ sl ≤ 100) (h0 : sl ≠ 0) : 1 ≤ zD sl ∧ zD sl ≤ 100 := by
  unfold zD
  split <;> omega
theorem az_ts {M en : Int} (hM : GM M) (hen : en ≤ 600) {va sl fr to : Int} (hs : -100 ≤ sl ∧ sl ≤ 100) {U : List TM} (h : TSM M en U) : TSM M en (azL en va sl fr to U) ∧ (∀ v, HAS M U v → HAS M (azL en va sl fr to U) v) ∧ CRS M en (azL en va sl fr to U) va sl fr to := by
  unfold azL
  by_cases c : sl ≠ 0 ∧ fr * zD sl ≤ zN va sl fr ∧ zN va sl fr ≤ to * zD sl
  · rw [if_pos c]
    obtain ⟨g1, g2, g3⟩ := ins_ts hM hen h (x := (zN va sl fr, zD sl)) (zD_rng hs c.1)
    exact ⟨g1, g2, fun _ _ _ a b => g3 a b⟩
  · rw [if_neg c]
    exact ⟨h, fun v g => g, fun a b d _ _ => absurd ⟨a, b, d⟩ c⟩
theorem CRS.mono {M en : Int} {U U1 : List TM} {va sl fr to : Int} (h : CRS M en U va sl fr to) (hm : ∀ v, HAS M U v → HAS M U1 v) : CRS M en U1 va sl fr to := fun a b c d e => hm _ (h a b c d e)
theorem apQ_ts {M en w0 : Int} (hM : GM M) (hen : en ≤ 600) (S : FS) (i j p : Nat) {U : List TM} (h : TSM M en U) : ∀ k, (∀ q, q < k → -100 ≤ meS S i j p q ∧ meS S i j p q ≤ 100) → TSM M en (apQ S en w0 i j p k U) ∧ (∀ v, HAS M U v → HAS M (apQ S en w0 i j p k U) v) ∧ ∀ q, q < k → meF S i j p q ≤ meE S i j p q → CRS M en (apQ S en w0 i j p k U) (meA S i j p q - w0) (meS S i j p q) (meF S i j p q) (meE S i j p q)
  | 0, _ => ⟨h, fun v g => g, fun q hq => absurd hq (Nat.not_lt_zero q)⟩
  | k + 1, hs => by
    obtain ⟨h1, h2, h3⟩ := apQ_ts hM hen S i j p h k (fun q hq => hs q (by omega))
    unfold apQ
    by_cases c : meF S i j p k ≤ meE S i j p k
    · rw [if_pos c]
      obtain ⟨g1, g2, g3⟩ := az_ts hM hen (va := meA S i j p k - w0) (sl := meS S i j p k) (fr := meF S i j p k) (to := meE S i j p k) (hs k (Nat.lt_succ_self k)) h1
      refine ⟨g1, fun v g => g2 v (h2 v g), fun q hq hq2 => ?_⟩
      by_cases z : q = k
      · subst z
        exact g3
      · exact (h3 q (by omega) hq2).mono g2
    · rw [if_neg c]
      refine ⟨h1, h2, fun q hq hq2 => ?_⟩
      by_cases z : q = k
      · subst z
        exact absurd hq2 c
      · exact h3 q (by omega) hq2
theorem apP_ts {M en w0 : Int} (hM : GM M) (hen : en ≤ 600) (S : FS) (i j : Nat) {U : List TM} (h : TSM M en U) : ∀ k, (∀ p q, p < k → q < S.2.2.2.1 j → -100 ≤ meS S i j p q ∧ meS S i j p q ≤ 100) → TSM M en (apP S en w0 i j k U) ∧ (∀ v, HAS M U v → HAS M (apP S en w0 i j k U) v) ∧ ∀ p q, p < k → q < S.2.2.2.1 j → meF S i j p q ≤ meE S i j p q → CRS M en (apP S en w0 i j k U) (meA S i j p q - w0) (meS S i j p q) (meF S i j p q) (meE S i j p q)
  | 0, _ => ⟨h, fun v g => g, fun p q hp => absurd hp (Nat.not_lt_zero p)⟩
  | k + 1, hs => by
    obtain ⟨h1, h2, h3⟩ := apP_ts hM hen S i j h k (fun p q hp hq => hs p q (by omega) hq)
    obtain ⟨g1, g2, g3⟩ := apQ_ts (w0 := w0) hM hen S i j k h1 (S.2.2.2.1 j) (fun q hq => hs k q (Nat.lt_succ_self k) hq)
    unfold apP
    refine ⟨g1, fun v g => g2 v (h2 v g), fun p q hp hq hle => ?_⟩
    by_cases z : p = k
    · subst z
      exact g3 q hq hle
    · exact (h3 p q (by omega) hq hle).mono g2
theorem atL_ts {M en x0 : Int} (hM : GM M) (hen : en ≤ 600) (S : FS) (i : Nat) {U : List TM} (h : TSM M en U) : ∀ k, (∀ p, p < k → -100 ≤ S.2.2.1 i p ∧ S.2.2.1 i p ≤ 100) → TSM M en (atL S en x0 i k U) ∧ (∀ v, HAS M U v → HAS M (atL S en x0 i k U) v) ∧ ∀ p, p < k → CRS M en (atL S en x0 i k U) (S.2.1 i p - x0) (S.2.2.1 i p) (S.1 i p) (enP (S.1 i) (S.2.2.2.1 i) (S.2.2.2.2 i) p)
  | 0, _ => ⟨h, fun v g => g, fun p hp => absurd hp (Nat.not_lt_zero p)⟩
  | k + 1, hs => by
    obtain ⟨h1, h2, h3⟩ := atL_ts (x0 := x0) hM hen S i h k (fun p hp => hs p (by omega))
    obtain ⟨g1, g2, g3⟩ := az_ts hM hen (va := S.2.1 i k - x0) (sl := S.2.2.1 i k) (fr := S.1 i k) (to := enP (S.1 i) (S.2.2.2.1 i) (S.2.2.2.2 i) k) (hs k (Nat.lt_succ_self k)) h1
    unfold atL
    refine ⟨g1, fun v g => g2 v (h2 v g), fun p hp => ?_⟩
    by_cases z : p = k
    · subst z
      exact g3
    · exact (h3 p (by omega)).mono g2
/-- a gap between two times: no bend in it; no crossing in it -/
theorem lin_gap {M f A B X Y : Int} (hM : GM M) (hB : -200 ≤ B ∧ B ≤ 200) (evX : X % 2 = 0) (evY : Y % 2 = 0) (hXY : X < Y) (hz : B ≠ 0 → ∀ e : Int, B * e = (f * B - A) * M → ¬ (X < e ∧ e < Y)) :
    (∀ t t', X < t → t < Y → X < t' → t' < Y → ((A * M + B * (t - f * M) ≤ 0 ↔ A * M + B * (t' - f * M) ≤ 0) ∧ (0 ≤ A * M + B * (t - f * M) ↔ 0 ≤ A * M + B * (t' - f * M)))) ∧ (A * M + B * (X + 1 - f * M) ≤ 0 → A * M + B * (X - f * M) ≤ 0) ∧ (0 ≤ A * M + B * (X + 1 - f * M) → 0 ≤ A * M + B * (X - f * M)) := by
  rcases Int.lt_trichotomy B 0 with z | z | z
  · obtain ⟨k, hk, e1⟩ := hM.2 (-B) (by omega) (by omega)
    obtain ⟨e, he⟩ : ∃ e, e = -((f * B - A) * (2 * k)) := ⟨_, rfl⟩
    have h1 : B * e = (f * B - A) * M := by rw [he, e1]; grind
    have h2 := hz (by omega) e h1
    have ev : e % 2 = 0 := by
      have : e = 2 * (-((f * B - A) * k)) := by rw [he]; grind
      rw [this]
      omega
    have key : ∀ t, (A * M + B * (t - f * M) ≤ 0 ↔ e ≤ t) ∧ (0 ≤ A * M + B * (t - f * M) ↔ t ≤ e) := fun t => by
      have e2 : A * M + B * (t - f * M) = -B * (e - t) := by
        have : -B * (e - t) = -(B * e) + B * t := by grind
        rw [this, h1]
        grind
      rw [e2]
      constructor
      · constructor
        · intro h
          by_cases c : e ≤ t
          · exact c
          · have := Int.mul_pos (show 0 < -B by omega) (show 0 < e - t by omega)
            omega
        · intro h
          have := Int.mul_nonneg (show 0 ≤ -B by omega) (show 0 ≤ t - e by omega)
          have h3 : -B * (e - t) = -(-B * (t - e)) := by grind
          omega
      · constructor
        · intro h
          by_cases c : t ≤ e
          · exact c
          · have := Int.mul_pos (show 0 < -B by omega) (show 0 < t - e by omega)
            have h3 : -B * (e - t) = -(-B * (t - e)) := by grind
            omega
        · intro h
          exact Int.mul_nonneg (by omega) (by omega)
    refine ⟨fun t t' a b a' b' => ?_, fun h => ?_, fun h => ?_⟩
    · rw [(key t).1, (key t').1, (key t).2, (key t').2]
      omega
    · rw [(key _).1] at h ⊢
      omega
    · rw [(key _).2] at h ⊢
      omega
  · subst z
    refine ⟨fun t t' _ _ _ _ => ?_, ?_, ?_⟩
    · rw [Int.zero_mul, Int.zero_mul]
      exact ⟨Iff.rfl, Iff.rfl⟩
    · rw [Int.zero_mul, Int.zero_mul]
      exact id
    · rw [Int.zero_mul, Int.zero_mul]
      exact id
  · obtain ⟨k, hk, e1⟩ := hM.2 B (by omega) (by omega)
    obtain ⟨e, he⟩ : ∃ e, e = (f * B - A) * (2 * k) := ⟨_, rfl⟩
    have h1 : B * e = (f * B - A) * M := by rw [he, e1]; grind
    have h2 := hz (by omega) e h1
    have ev : e % 2 = 0 := by
      have : e = 2 * ((f * B - A) * k) := by rw [he]; grind
      rw [this]
      omega
    have key : ∀ t, (A * M + B * (t - f * M) ≤ 0 ↔ t ≤ e) ∧ (0 ≤ A * M + B * (t - f * M) ↔ e ≤ t) := fun t => by
      have e2 : A * M + B * (t - f * M) = B * (t - e) := by
        have : B * (t - e) = B * t - B * e := by grind
        rw [this, h1]
        grind
      rw [e2]
      constructor
      · constructor
        · intro h
          by_cases c : t ≤ e
          · exact c
          · have := Int.mul_pos z (show 0 < t - e by omega)
            omega
        · intro h
          have := Int.mul_nonneg (show 0 ≤ B by omega) (show 0 ≤ e - t by omega)
          have h3 : B * (t - e) = -(B * (e - t)) := by grind
          omega
      · constructor
        · intro h
          by_cases c : e ≤ t
          · exact c
          · have := Int.mul_pos z (show 0 < e - t by omega)
            have h3 : B * (t - e) = -(B * (e - t)) := by grind
            omega
        · intro h
          exact Int.mul_nonneg (by omega) (by omega)
    refine ⟨fun t t' a b a' b' => ?_, fun h => ?_, fun h => ?_⟩
    · rw [(key t).1, (key t').1, (key t).2, (key t').2]
      omega
    · rw [(key _).1] at h ⊢
      omega
    · rw [(key _).2] at h ⊢
      omega
/-- the bends are among the times -/
def BTS (M en : Int) (S : FS) (came : Nat) (U : List TM) : Prop := ∀ j, j < came → (∀ p, p < S.2.2.2.1 j → 0 ≤ S.1 j p → S.1 j p ≤ en → HAS M U (S.1 j p * M)) ∧ (0 ≤ S.2.2.2.2 j → S.2.2.2.2 j ≤ en → HAS M U (S.2.2.2.2 j * M))
theorem BTS.mono {M en : Int} {S : FS} {came : Nat} {U U1 : List TM} (h : BTS M en S came U) (hm : ∀ v, HAS M U v → HAS M U1 v) : BTS M en S came U1 := fun j hj => ⟨fun p hp a b => hm _ ((h j hj).1 p hp a b), fun a b => hm _ ((h j hj).2 a b)⟩
theorem gap_nob {M en X Y : Int} (hM : GM M) {S : FS} {came : Nat} {U : List TM} (hB : BTS M en S came U) (hst : ∀ i p, i < came → p < S.2.2.2.1 i → 0 ≤ S.1 i p) (h0 : 0 ≤ X) (hXY : X < Y) (hY : Y ≤ en * M) (hg : ∀ v, HAS M U v → ¬ (X < v ∧ v < Y)) : ∃ f u : Int, 0 ≤ f ∧ f < u ∧ u ≤ en ∧ f * M ≤ X ∧ Y ≤ u * M ∧ NOB S came f u := by
  have hM0 := hM.1
  have a1 : X / M * M ≤ X := Int.ediv_mul_le X (by omega)
  have a2 : X < (X / M + 1) * M := Int.lt_ediv_add_one_mul_self X hM0
  have b1 : (Y - 1) / M * M ≤ Y - 1 := Int.ediv_mul_le (Y - 1) (by omega)
  have b2 : Y - 1 < ((Y - 1) / M + 1) * M := Int.lt_ediv_add_one_mul_self (Y - 1) hM0
  have hf0 : 0 ≤ X / M := Int.ediv_nonneg h0 (by omega)
  generalize X / M = f at *
  generalize (Y - 1) / M = g at *
  have hcmp : ∀ a b : Int, a * M < b * M → a < b := fun a b h => Int.lt_of_mul_lt_mul_right h (by omega)
  have hfg : f < g + 1 := hcmp _ _ (by omega)
  have hgen : g < en := hcmp _ _ (by omega)
  refine ⟨f, g + 1, hf0, hfg, by omega, a1, by omega, fun i hi => ⟨fun p hp z => ?_, fun z => ?_⟩⟩
  · have h1 := Int.mul_le_mul_of_nonneg_right (show f + 1 ≤ S.1 i p by omega) (show 0 ≤ M by omega)
    have h2 := Int.mul_le_mul_of_nonneg_right (show S.1 i p ≤ g by omega) (show 0 ≤ M by omega)
    exact hg _ ((hB i hi).1 p hp (hst i p hi hp) (by omega)) ⟨by omega, by omega⟩
  · have h1 := Int.mul_le_mul_of_nonneg_right (show f + 1 ≤ S.2.2.2.2 i by omega) (show 0 ≤ M by omega)
    have h2 := Int.mul_le_mul_of_nonneg_right (show S.2.2.2.2 i ≤ g by omega) (show 0 ≤ M by omega)
    exact hg _ ((hB i hi).2 (by omega) (by omega)) ⟨by omega, by omega⟩
theorem pc_le {st : Nat → Int} {n d : Int} (h0 : st 0 * d ≤ n) : ∀ k, st (pcAt st n d k) * d ≤ n
  | 0 => h0
  | k + 1 => by
    unfold pcAt
    split
    · rename_i h
      exact h.2
    · exact pc_le h0 k
theorem pc_gt {st : Nat → Int} {n d : Int} : ∀ k r, pcAt st n d k < r → r < k → n < st r * d
  | 0, r, _, h => absurd h (Nat.not_lt_zero r)
  | k + 1, r, h1, h2 => by
    unfold pcAt at h1
    split at h1
    · omega
    · rename_i h
      by_cases z : r = k
      · subst z
        by_cases c : 0 < r
        · by_cases y : st r * d ≤ n
          · exact absurd ⟨c, y⟩ h
          · omega
        · omega
      · exact pc_gt k r h1 (by omega)
theorem en_ge {S : FS} {came : Nat} {f u : Int} (hN : NOB S came f u) (hu : u ≤ 600) {i : Nat} (hi : i < came) (hn : 1 ≤ S.2.2.2.1 i) (hth : thB S f i = true) : S.1 i (pcAt (S.1 i) f 1 (S.2.2.2.1 i)) ≤ f ∧ u ≤ enP (S.1 i) (S.2.2.2.1 i) (S.2.2.2.2 i) (pcAt (S.1 i) f 1 (S.2.2.2.1 i)) := by
  have h1 := of_decide_eq_true hth
  have h2 := pc_le (st := S.1 i) (n := f) (d := 1) h1.1 (S.2.2.2.1 i)
  have h3 := pc_gt (st := S.1 i) (n := f) (d := 1) (S.2.2.2.1 i) (pcAt (S.1 i) f 1 (S.2.2.2.1 i) + 1) (Nat.lt_succ_self _)
  obtain ⟨n1, n2⟩ := hN i hi
  refine ⟨by omega, ?_⟩
  have h4 := h1.2
  unfold enP
  by_cases c : pcAt (S.1 i) f 1 (S.2.2.2.1 i) + 1 < S.2.2.2.1 i
  · rw [if_pos c]
    have h5 := h3 c
    have h6 := n1 _ c
    split <;> omega
  · rw [if_neg c]
    split <;> omega
theorem po_at (S : FS) (f : Int) (i : Nat) : poS S f i = S.2.1 i (pcAt (S.1 i) f 1 (S.2.2.2.1 i)) + S.2.2.1 i (pcAt (S.1 i) f 1 (S.2.2.2.1 i)) * (f - S.1 i (pcAt (S.1 i) f 1 (S.2.2.2.1 i))) := by
  unfold poS upAt
  rw [Int.mul_one, Int.mul_one]
theorem cr_core {M en X Y f u va sl fr to e : Int} (hM : GM M) {U : List TM} (hs : -100 ≤ sl ∧ sl ≤ 100) (hs0 : sl ≠ 0) (hC : CRS M en U va sl fr to) (he : sl * e = (fr * sl - va) * M) (h1 : fr ≤ f) (h2 : u ≤ to) (h3 : f * M ≤ X) (h4 : Y ≤ u * M) (h0 : 0 ≤ f) (hu : u ≤ en) (hX : X < e) (hY : e < Y) : HAS M U e := by
  have hM0 := hM.1
  have hd := zD_rng hs hs0
  have ez : zD sl * e = zN va sl fr * M := by
    unfold zD zN
    by_cases c : 0 < sl
    · rw [if_pos c, if_pos c]
      exact he
    · rw [if_neg c, if_neg c]
      have : -sl * e = -(sl * e) := Int.neg_mul _ _
      rw [this, he]
      grind
  obtain ⟨k, hk, e1, e2⟩ := gT_spec hM (q := (zN va sl fr, zD sl)) ⟨hd.1, by dsimp only; omega⟩
  have e3 : gT M (zN va sl fr, zD sl) = e := by
    rw [e2]
    have : zD sl * (zN va sl fr * (2 * k)) = zD sl * e := by
      rw [ez]
      dsimp only at e1
      rw [e1]
      grind
    exact Int.eq_of_mul_eq_mul_left (by omega) this
  have cmp : ∀ a : Int, a * M ≤ e → a * zD sl ≤ zN va sl fr := fun a ha => by
    have h5 := Int.mul_le_mul_of_nonneg_left ha (show 0 ≤ zD sl by omega)
    rw [ez] at h5
    have h6 : zD sl * (a * M) = a * zD sl * M := by grind
    rw [h6] at h5
    exact Int.le_of_mul_le_mul_right h5 hM0
  have cmp2 : ∀ a : Int, e ≤ a * M → zN va sl fr ≤ a * zD sl := fun a ha => by
    have h5 := Int.mul_le_mul_of_nonneg_left ha (show 0 ≤ zD sl by omega)
    rw [ez] at h5
    have h6 : zD sl * (a * M) = a * zD sl * M := by grind
    rw [h6] at h5
    exact Int.le_of_mul_le_mul_right h5 hM0
  have mono : ∀ a b : Int, a ≤ b → a * M ≤ b * M := fun a b h => Int.mul_le_mul_of_nonneg_right h (by omega)
  have m1 := mono _ _ h1
  have m2 := mono _ _ h2
  have m3 := mono _ _ hu
  have m4 := mono _ _ h0
  rw [← e3]
  refine hC hs0 (cmp fr (by omega)) (cmp2 to (by omega)) ?_ (cmp2 en (by omega))
  have := cmp 0 (by omega)
  omega
