/-! one stretch's meeting of two, in the class and in the model -/
theorem tm_cmp {M N D T : Int} (hM : 0 < M) (hD : 0 < D) (h : T * D = N * M) (a : Int) : (a * D < N ↔ a * M < T) ∧ (N < a * D ↔ T < a * M) ∧ (N = a * D ↔ T = a * M) := by
  have e1 : a * M * D = a * D * M := by rw [Int.mul_assoc, Int.mul_assoc, Int.mul_comm M D]
  have g1 : a * D < N ↔ a * M < T := by
    rw [← hk_lt hM, ← h, ← e1, hk_lt hD]
  have g2 : N < a * D ↔ T < a * M := by
    rw [← hk_lt hM, ← h, ← e1, hk_lt hD]
  refine ⟨g1, g2, ?_⟩
  constructor
  · intro z
    rcases Int.lt_trichotomy T (a * M) with y | y | y
    · have := g2.mpr y
      omega
    · exact y
    · have := g1.mpr y
      omega
  · intro z
    rcases Int.lt_trichotomy N (a * D) with y | y | y
    · have := g2.mp y
      omega
    · exact y
    · have := g1.mp y
      omega
theorem me_id (S : FS) (i j p q : Nat) (f gap gr : Int) (hg : gap = S.2.1 j q + S.2.2.1 j q * (f - S.1 j q) - (S.2.1 i p + S.2.2.1 i p * (f - S.1 i p))) (hr : gr = S.2.2.1 j q - S.2.2.1 i p) : meS S i j p q = -gr ∧ meD S i j p q = (gr.natAbs : Int) ∧ meN S i j p q = f * (gr.natAbs : Int) + (if 0 < gr then -gap else gap) := by
  have h1 : meS S i j p q = -gr := by
    unfold meS
    omega
  have h2 : meF S i j p q * meS S i j p q - meA S i j p q = gap - f * gr := by
    unfold meA meS
    rw [hg, hr]
    grind
  have h3 : meD S i j p q = (gr.natAbs : Int) := by
    unfold meD
    rw [h1]
    split <;> omega
  refine ⟨h1, h3, ?_⟩
  unfold meN
  rw [h1]
  rw [h1] at h2
  by_cases z : 0 < gr
  · rw [if_pos (by omega), if_pos z, h2, show (gr.natAbs : Int) = gr by omega]
    omega
  · rw [if_neg (by omega), if_neg z, h2, show (gr.natAbs : Int) = -gr by omega, Int.mul_neg]
    omega
theorem pcAt_is {st : Nat → Int} {np p : Nat} {f : Int} (h1 : p < np) (h0 : st 0 ≤ f) (h2 : st p ≤ f) (h3 : ∀ r, p < r → r < np → f < st r) : pcAt st f 1 np = p := by
  have a := pcAt_lt st f 1 np (by omega)
  have b := pc_le (st := st) (n := f) (d := 1) (by omega) np
  have c := pc_gt (st := st) (n := f) (d := 1) np
  rcases Nat.lt_trichotomy (pcAt st f 1 np) p with z | z | z
  · have := c p z h1
    omega
  · exact z
  · have := h3 _ z a
    omega
theorem en_geB {S : FS} {came : Nat} {f u : Int} (hN : NOB S came f u) (hu : u ≤ 1000000000) {i : Nat} (hi : i < came) (hth : thB S f i = true) : S.1 i (pcAt (S.1 i) f 1 (S.2.2.2.1 i)) ≤ f ∧ u ≤ enP (S.1 i) (S.2.2.2.1 i) (S.2.2.2.2 i) (pcAt (S.1 i) f 1 (S.2.2.2.1 i)) := by
  have h1 := of_decide_eq_true hth
  have h2 := pc_le (st := S.1 i) (n := f) (d := 1) h1.1 (S.2.2.2.1 i)
  have h3 := pc_gt (st := S.1 i) (n := f) (d := 1) (S.2.2.2.1 i) (pcAt (S.1 i) f 1 (S.2.2.2.1 i) + 1) (Nat.lt_succ_self _)
  obtain ⟨n1, n2⟩ := hN i hi
  refine ⟨by omega, ?_⟩
  have h4 := h1.2
  unfold enP
  by_cases c : pcAt (S.1 i) f 1 (S.2.2.2.1 i) + 1 < S.2.2.2.1 i
  · rw [if_pos c]
    have h5 := h3 c
    have h6 := n1 _ c
    split <;> omega
  · rw [if_neg c]
    split <;> omega
theorem sp_same {S : FS} {came : Nat} {f u t : Int} (hN : NOB S came f u) {i : Nat} (hi : i < came) (h1 : f ≤ t) (h2 : t < u) : spS S t i = spS S f i := by
  unfold spS spAt
  rw [str_pc (M := 1) (by decide) (S.1 i) (by omega : f * 1 ≤ t) (by omega : t < u * 1) (S.2.2.2.1 i) (hN i hi).1]
theorem pass_iff {a c : Int} : (0 < c ∧ 0 < a ∨ c < 0 ∧ a < 0) ↔ 0 < -a * -c := by
  rw [Int.neg_mul_neg]
  constructor
  · rintro (⟨x, y⟩ | ⟨x, y⟩)
    · exact Int.mul_pos y x
    · exact Int.mul_pos_of_neg_of_neg y x
  · intro h
    rcases Int.lt_trichotomy a 0 with x | x | x
    · rcases Int.lt_trichotomy c 0 with y | y | y
      · exact Or.inr ⟨y, x⟩
      · subst y; simp at h
      · have := Int.mul_neg_of_neg_of_pos x y
        omega
    · subst x; simp at h
    · rcases Int.lt_trichotomy c 0 with y | y | y
      · have := Int.mul_neg_of_pos_of_neg x y
        omega
      · subst y; simp at h
      · exact Or.inl ⟨y, x⟩
theorem thF_at {S : FS} {n d u : Int} (hd : 0 < d) (h : n = u * d) (i : Nat) : thF S.1 S.2.2.2.2 n d i = thB S u i := by
  subst h
  have := th_hom S (n := u) (d := 1) hd i
  rw [Int.one_mul] at this
  exact this
theorem thF_in {S : FS} {came : Nat} {f u n d : Int} (hN : NOB S came f u) (hd : 0 < d) {i : Nat} (hi : i < came) (ht : thB S f i = true) (h1 : f * d < n) (h2 : n < u * d) : thF S.1 S.2.2.2.2 n d i = true := by
  have g := of_decide_eq_true ht
  obtain ⟨-, n2⟩ := hN i hi
  refine decide_eq_true ⟨?_, ?_⟩
  · have : S.1 i 0 * d ≤ f * d := Int.mul_le_mul_of_nonneg_right (by omega) (by omega)
    omega
  · rcases g.2 with z | z
    · exact Or.inl z
    · refine Or.inr ?_
      have : u * d ≤ S.2.2.2.2 i * d := Int.mul_le_mul_of_nonneg_right (by omega) (by omega)
      omega
theorem meU_one {S : FS} {i j p q : Nat} (hd : 1 ≤ meD S i j p q ∧ meD S i j p q ≤ 100) (hn : 0 ≤ meN S i j p q) : meT S i j p q = frac (meN S i j p q) (meD S i j p q) / 256 ∧ meU S i j p q = frac (meN S i j p q) (meD S i j p q) % 256 := by
  obtain ⟨h1, -, -⟩ := tdiv_g hn hd.1
  unfold meT meU
  exact frac_dm ⟨by omega, by omega⟩
theorem meP_in {S : FS} {i j p q : Nat} (h0 : meS S i j p q ≠ 0) (h : meU S i j p q = 1 → spS S (meT S i j p q) i - spS S (meT S i j p q) j = meS S i j p q) : meP S i j p q = true := by
  have hB : meB S i j p q = meS S i j p q := by
    unfold meB
    split
    · rename_i z
      exact h z
    · rfl
  unfold meP
  rw [hB]
  exact decide_eq_true (by omega)
theorem ev_mid {M : Int} (hM : GM M) {S : FS} {came : Nat} (hO : OKM9 S came) {f u : Int} (hN : NOB S came f u) (h0 : 0 ≤ f) (hfu : f < u) (hu : u ≤ 100000) {i j : Nat} (hi : i < came) (hj : j < came) (t1 : thB S f i = true) (t2 : thB S f j = true) (x : EV) :
    evC S f u i j (poS S f j - poS S f i) (spS S f j - spS S f i) = some x ↔ evM S i j (pcAt (S.1 i) f 1 (S.2.2.2.1 i)) (pcAt (S.1 j) f 1 (S.2.2.2.1 j)) = some x ∧ f * M < gz M x.1 ∧ gz M x.1 ≤ u * M := by
  have hM0 := hM.1
  obtain ⟨a1, a2⟩ := en_geB hN (by omega) hi t1
  obtain ⟨b1, b2⟩ := en_geB hN (by omega) hj t2
  have hms := hO.ms hi hj (hO.pc f 1 hi) (hO.pc f 1 hj)
  generalize hp : pcAt (S.1 i) f 1 (S.2.2.2.1 i) = p at *
  generalize hq : pcAt (S.1 j) f 1 (S.2.2.2.1 j) = q at *
  have si : spS S f i = S.2.2.1 i p := by
    unfold spS spAt
    rw [hp]
  have sj : spS S f j = S.2.2.1 j q := by
    unfold spS spAt
    rw [hq]
  obtain ⟨m1, m2, m3⟩ := me_id S i j p q f (poS S f j - poS S f i) (spS S f j - spS S f i) (by rw [po_at, po_at, hp, hq]) (by rw [si, sj])
  have hF : meF S i j p q ≤ f := by
    unfold meF
    omega
  have hE : u ≤ meE S i j p q := by
    unfold meE
    omega
  generalize hgap : poS S f j - poS S f i = gap at *
  generalize hgr : spS S f j - spS S f i = gr at *
  by_cases hz : gr = 0
  · have hl : evC S f u i j gap gr = none := if_neg (by omega)
    have hr : evM S i j p q = none := if_neg fun c => c.2.1 (by omega)
    rw [hl, hr]
    exact ⟨fun c => (nomatch c), fun c => (nomatch c.1)⟩
  have hD : 1 ≤ meD S i j p q ∧ meD S i j p q ≤ 100 := by omega
  have hS0 : meS S i j p q ≠ 0 := by omega
  obtain ⟨g1, g2, g3, g4, hred⟩ := frac_parts (u := meN S i j p q) (lo := meD S i j p q) (by omega)
  have hT := gz_frac (u := meN S i j p q) (lo := meD S i j p q) hM (by omega)
  have cf := tm_cmp hM0 (by omega : 0 < meD S i j p q) hT f
  have cu := tm_cmp hM0 (by omega : 0 < meD S i j p q) hT u
  by_cases hop : gap < 0 ∧ 0 < gr ∨ 0 < gap ∧ gr < 0
  · have eN : f * (gr.natAbs : Int) + (gap.natAbs : Int) = meN S i j p q := by
      rw [m3]
      split <;> omega
    have hfN : f * meD S i j p q < meN S i j p q := by
      rw [← eN, m2]
      omega
    have hfT := cf.1.mp hfN
    have hm0 : 0 ≤ meN S i j p q := by
      have := Int.mul_nonneg h0 (show (0:Int) ≤ meD S i j p q by omega)
      omega
    have hFN : meF S i j p q * meD S i j p q < meN S i j p q := by
      have : meF S i j p q * meD S i j p q ≤ f * meD S i j p q := Int.mul_le_mul_of_nonneg_right hF (by omega)
      omega
    have hEN : u * meD S i j p q ≤ meE S i j p q * meD S i j p q := Int.mul_le_mul_of_nonneg_right hE (by omega)
    have hev : evC S f u i j gap gr = if gz M (frac (meN S i j p q) (meD S i j p q)) < u * M then some (frac (meN S i j p q) (meD S i j p q), i, j, true) else if gz M (frac (meN S i j p q) (meD S i j p q)) = u * M then abE S u i j gr else none := by
      unfold evC
      rw [if_pos hop, eN, ← m2]
      have l1 := gz_lt (s := frac (meN S i j p q) (meD S i j p q)) (t := u * 256 + 1) hM hred.1 (red_int u).1
      have l2 := gz_eq (s := frac (meN S i j p q) (meD S i j p q)) (t := u * 256 + 1) hM hred.1 (red_int u).1
      rw [gz_int] at l1 l2
      simp only [l1, l2]
    rw [hev]
    obtain ⟨mt, mu⟩ := meU_one hD hm0
    rcases Int.lt_trichotomy (gz M (frac (meN S i j p q) (meD S i j p q))) (u * M) with z | z | z
    · rw [if_pos z]
      have zN := cu.2.1.mpr z
      have hP : meP S i j p q = true := by
        refine meP_in hS0 fun hU => ?_
        rw [mu] at hU
        rw [hU] at g4
        have hx : meN S i j p q = meT S i j p q * meD S i j p q := by
          rw [mt]
          rw [Int.mul_one] at g4
          rw [← g4] at g3
          rw [Int.mul_comm]
          exact g3
        have k1 : f < meT S i j p q := by
          rw [hx] at hfN
          exact (hk_lt (by omega)).mp hfN
        have k2 : meT S i j p q < u := by
          rw [hx] at zN
          exact (hk_lt (by omega)).mp zN
        rw [sp_same hN hi (by omega) k2, sp_same hN hj (by omega) k2]
        omega
      have hC : meC S i j p q := ⟨by omega, hS0, hFN, by omega, thF_in hN (by omega) hi t1 hfN zN, thF_in hN (by omega) hj t2 hfN zN⟩
      rw [show evM S i j p q = some (frac (meN S i j p q) (meD S i j p q), i, j, meP S i j p q) from if_pos hC, hP]
      constructor
      · intro h
        cases h
        exact ⟨rfl, hfT, Int.le_of_lt z⟩
      · intro h
        exact h.1
    · rw [if_neg (by omega), if_pos z]
      have zN := cu.2.2.mpr z
      have hTu : frac (meN S i j p q) (meD S i j p q) = u * 256 + 1 := red_inj hM hred (red_int u) (by rw [z, gz_int])
      have th1 := thF_at (S := S) (by omega : 0 < meD S i j p q) zN i
      have th2 := thF_at (S := S) (by omega : 0 < meD S i j p q) zN j
      have hP : meP S i j p q = decide (0 < gr * (spS S u j - spS S u i)) := by
        have hB : meB S i j p q = spS S u i - spS S u j := by
          unfold meB
          rw [mu, mt, hTu, if_pos (by omega), show (u * 256 + 1) / 256 = u by omega]
        unfold meP
        rw [hB]
        have := pass_iff (a := meS S i j p q) (c := spS S u i - spS S u j)
        rw [m1, Int.neg_neg] at this
        rw [m1]
        rw [show spS S u j - spS S u i = -(spS S u i - spS S u j) by omega]
        exact decide_eq_decide.mpr this
      unfold abE
      by_cases ht : thB S u i = true ∧ thB S u j = true
      · rw [if_pos ht]
        have hC : meC S i j p q := ⟨by omega, hS0, hFN, by omega, by rw [th1]; exact ht.1, by rw [th2]; exact ht.2⟩
        rw [show evM S i j p q = some (frac (meN S i j p q) (meD S i j p q), i, j, meP S i j p q) from if_pos hC, hP, hTu]
        constructor
        · intro h
          cases h
          refine ⟨rfl, ?_, ?_⟩
          · show f * M < gz M (u * 256 + 1)
            rw [← hTu]; exact hfT
          · show gz M (u * 256 + 1) ≤ u * M
            rw [gz_int]
            exact Int.le_refl _
        · intro h
          exact h.1
      · rw [if_neg ht]
        have hr : evM S i j p q = none := if_neg fun c => ht ⟨by rw [← th1]; exact c.2.2.2.2.1, by rw [← th2]; exact c.2.2.2.2.2⟩
        rw [hr]
        exact ⟨fun c => (nomatch c), fun c => (nomatch c.1)⟩
    · rw [if_neg (by omega), if_neg (by omega)]
      refine ⟨fun c => (nomatch c), fun c => ?_⟩
      obtain ⟨c1, c2, c3⟩ := c
      unfold evM at c1
      split at c1
      · cases c1
        dsimp only at c3
        omega
      · exact (nomatch c1)
  · have hl : evC S f u i j gap gr = none := if_neg hop
    rw [hl]
    refine ⟨fun c => (nomatch c), fun c => ?_⟩
    obtain ⟨c1, c2, c3⟩ := c
    unfold evM at c1
    split at c1
    · cases c1
      dsimp only at c2
      have := cf.1.mpr c2
      rw [m3, m2] at this
      exfalso
      split at this <;> omega
    · exact (nomatch c1)
/-- a meeting within a stretch is of the pieces that hold there -/
theorem ev_only {M : Int} (hM : GM M) {S : FS} {came : Nat} (hO : OKM9 S came) {f u : Int} (hN : NOB S came f u) (hfu : f < u) {i j : Nat} (hi : i < came) (hj : j < came) {p q : Nat} (hp : p < S.2.2.2.1 i) (hq : q < S.2.2.2.1 j) {x : EV} (h : evM S i j p q = some x) (h1 : f * M < gz M x.1) (h2 : gz M x.1 ≤ u * M) :
    (thB S f i = true ∧ pcAt (S.1 i) f 1 (S.2.2.2.1 i) = p) ∧ thB S f j = true ∧ pcAt (S.1 j) f 1 (S.2.2.2.1 j) = q := by
  have hM0 := hM.1
  have hms := hO.ms hi hj hp hq
  unfold evM at h
  split at h
  · rename_i hC
    cases h
    dsimp only at h1 h2
    obtain ⟨c1, c2, c3, c4, -, -⟩ := hC
    have hD : 1 ≤ meD S i j p q ∧ meD S i j p q ≤ 100 := by
      unfold meD
      split <;> omega
    have hT := gz_frac (u := meN S i j p q) (lo := meD S i j p q) hM (by omega)
    have k1 := (tm_cmp hM0 (by omega : 0 < meD S i j p q) hT f).1.mpr h1
    have k2 := (tm_cmp hM0 (by omega : 0 < meD S i j p q) hT u).1
    have k3 : meN S i j p q ≤ u * meD S i j p q := by
      rcases Int.lt_or_le (u * meD S i j p q) (meN S i j p q) with y | y
      · have := k2.mp y
        omega
      · exact y
    have hFu : meF S i j p q < u := (hk_lt (by omega : 0 < meD S i j p q)).mp (by omega)
    have hfE : f < meE S i j p q := (hk_lt (by omega : 0 < meD S i j p q)).mp (by omega)
    have side : ∀ (r s : Nat), r < came → s < S.2.2.2.1 r → S.1 r s < u → f < enP (S.1 r) (S.2.2.2.1 r) (S.2.2.2.2 r) s → thB S f r = true ∧ pcAt (S.1 r) f 1 (S.2.2.2.1 r) = s := by
      intro r s hr hs g1 g2
      obtain ⟨n1, n2⟩ := hN r hr
      have e1 : S.1 r s ≤ f := by
        have := n1 s hs
        omega
      have e2 : S.1 r 0 ≤ f := by
        have := hO.2.2.le hr (a := 0) (b := s) (by omega) hs
        omega
      have e3 : ∀ z, s < z → z < S.2.2.2.1 r → f < S.1 r z := by
        intro z y1 y2
        have := hO.2.2.le hr (a := s + 1) (b := z) (by omega) y2
        have g3 := enP_le (S := S) (i := r) (p := s) (by omega)
        omega
      refine ⟨?_, pcAt_is hs e2 e1 e3⟩
      have hk := (hO.2.1 r hr).2.2.1
      refine decide_eq_true ⟨by omega, ?_⟩
      rcases Int.lt_or_le (S.2.2.2.2 r) 0 with z | z
      · exact Or.inl (by omega)
      · refine Or.inr ?_
        unfold enP at g2
        rw [if_pos z] at g2
        omega
    have f1 : S.1 i p < u ∧ S.1 j q < u := by
      unfold meF at hFu
      omega
    have f2 : f < enP (S.1 i) (S.2.2.2.1 i) (S.2.2.2.2 i) p ∧ f < enP (S.1 j) (S.2.2.2.1 j) (S.2.2.2.2 j) q := by
      unfold meE at hfE
      omega
    exact ⟨side i p hi hp f1.1 f2.1, side j q hj hq f1.2 f2.2⟩
  · exact (nomatch h)
theorem ev_spec {M : Int} (hM : GM M) {S : FS} {came : Nat} (hO : OKM9 S came) {f u : Int} (hN : NOB S came f u) (h0 : 0 ≤ f) (hfu : f < u) (hu : u ≤ 100000) {i j : Nat} (hi : i < came) (hj : j < came) (x : EV) :
    evOf S f u i j = some x ↔ ∃ p q, p < S.2.2.2.1 i ∧ q < S.2.2.2.1 j ∧ evM S i j p q = some x ∧ f * M < gz M x.1 ∧ gz M x.1 ≤ u * M := by
  constructor
  · intro h
    unfold evOf at h
    split at h
    · rename_i ht
      exact ⟨_, _, hO.pc f 1 hi, hO.pc f 1 hj, (ev_mid hM hO hN h0 hfu hu hi hj ht.1 ht.2 x).mp h⟩
    · exact (nomatch h)
  · rintro ⟨p, q, hp, hq, h1, h2, h3⟩
    obtain ⟨⟨t1, e1⟩, t2, e2⟩ := ev_only hM hO hN hfu hi hj hp hq h1 h2 h3
    unfold evOf
    rw [if_pos ⟨t1, t2⟩]
    refine (ev_mid hM hO hN h0 hfu hu hi hj t1 t2 x).mpr ?_
    rw [e1, e2]
    exact ⟨h1, h2, h3⟩
