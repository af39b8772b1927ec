/-- the crossings of a place are among the times -/
def CRO (M en x0 : Int) (S : FS) (i : Nat) (U : List TM) : Prop := ∀ p, p < S.2.2.2.1 i → CRS M en U (S.2.1 i p - x0) (S.2.2.1 i p) (S.1 i p) (enP (S.1 i) (S.2.2.2.1 i) (S.2.2.2.2 i) p)
theorem CRO.mono {M en x0 : Int} {S : FS} {i : Nat} {U U1 : List TM} (h : CRO M en x0 S i U) (hm : ∀ v, HAS M U v → HAS M U1 v) : CRO M en x0 S i U1 := fun p a => (h p a).mono hm
theorem OKM9.s1 {S : FS} {came : Nat} (h : OKM9 S came) {i p : Nat} (hi : i < came) (hp : p < S.2.2.2.1 i) : -100 ≤ S.2.2.1 i p ∧ S.2.2.1 i p ≤ 100 := by
  have h1 := ((h.2.1 i hi).2.2.2 p hp).2
  omega
theorem cr_one {M en x0 X Y f u e : Int} (hM : GM M) {S : FS} {came : Nat} (hO : OKM9 S came) {U : List TM} {i : Nat} (hi : i < came) (hC : CRO M en x0 S i U) (hN : NOB S came f u) (hu : u ≤ en) (hen : en ≤ 600) (h0 : 0 ≤ f) (h3 : f * M ≤ X) (h4 : Y ≤ u * M) (t1 : thB S f i = true) (hB : spS S f i ≠ 0) (he : spS S f i * e = (f * spS S f i - (poS S f i - x0)) * M) (hX : X < e) (hY : e < Y) : HAS M U e := by
  have g1 := en_ge hN (by omega) hi (hO.n1 i hi) t1
  have p1 := hO.pc f 1 hi
  rw [po_at] at he
  have es1 : spS S f i = S.2.2.1 i (pcAt (S.1 i) f 1 (S.2.2.2.1 i)) := rfl
  rw [es1] at he hB
  generalize pcAt (S.1 i) f 1 (S.2.2.2.1 i) = p at *
  refine cr_core hM (hO.s1 hi p1) hB (hC p p1) ?_ g1.1 g1.2 h3 h4 h0 hu hX hY
  rw [he]
  grind
theorem mn_gap {M en X Y f u lo hi : Int} (hM : GM M) {S : FS} {came : Nat} (hO : OKM9 S came) {U : List TM} (hC1 : ∀ i, i < came → CRO M en lo S i U) (hC2 : ∀ i, i < came → CRO M en hi S i U) (hen : en ≤ 600) (evX : X % 2 = 0) (evY : Y % 2 = 0) (hXY : X < Y) (hg : ∀ v, HAS M U v → ¬ (X < v ∧ v < Y)) (f0 : 0 ≤ f) (ue : u ≤ en) (fX : f * M ≤ X) (Yu : Y ≤ u * M) (hN : NOB S came f u) :
    ∀ k, k ≤ came → (∀ s s', X < s → s < Y → X < s' → s' < Y → mnR S lo hi s M k = mnR S lo hi s' M k) ∧ mnR S lo hi (X + 1) M k ≤ mnR S lo hi X M k
  | 0, _ => ⟨fun _ _ _ _ _ _ => rfl, Nat.le_refl 0⟩
  | k + 1, hk => by
    obtain ⟨h1, h2⟩ := mn_gap hM hO hC1 hC2 hen evX evY hXY hg f0 ue fX Yu hN k (by omega)
    have hk2 : k < came := by omega
    have s1 := hO.sp f k hk2
    have form : ∀ t, X ≤ t → t < Y → ((thX S t M k = true ∧ lo * M ≤ upX S t M k ∧ upX S t M k ≤ hi * M) ↔ (thB S f k = true ∧ 0 ≤ (poS S f k - lo) * M + spS S f k * (t - f * M) ∧ (poS S f k - hi) * M + spS S f k * (t - f * M) ≤ 0)) := fun t a b => by
      rw [str_th hM.1 hN hk2 (hO.n1 k hk2) (by omega) (by omega), str_up hM.1 hN hk2 (by omega) (by omega)]
      refine and_congr_right fun _ => ?_
      have e1 : (poS S f k - lo) * M + spS S f k * (t - f * M) = poS S f k * M + spS S f k * (t - f * M) - lo * M := by grind
      have e2 : (poS S f k - hi) * M + spS S f k * (t - f * M) = poS S f k * M + spS S f k * (t - f * M) - hi * M := by grind
      rw [e1, e2]
      omega
    by_cases c : thB S f k = true
    · obtain ⟨a1, -, a2⟩ := lin_gap (A := poS S f k - lo) (B := spS S f k) (f := f) hM (by omega) evX evY hXY (fun hB e he z => hg e (cr_one hM hO hk2 (hC1 k hk2) hN ue hen f0 fX Yu c hB he z.1 z.2) z)
      obtain ⟨b1, b2, -⟩ := lin_gap (A := poS S f k - hi) (B := spS S f k) (f := f) hM (by omega) evX evY hXY (fun hB e he z => hg e (cr_one hM hO hk2 (hC2 k hk2) hN ue hen f0 fX Yu c hB he z.1 z.2) z)
      refine ⟨fun s s' x1 x2 y1 y2 => ?_, ?_⟩
      · have hiff : (thX S s M k = true ∧ lo * M ≤ upX S s M k ∧ upX S s M k ≤ hi * M) ↔ (thX S s' M k = true ∧ lo * M ≤ upX S s' M k ∧ upX S s' M k ≤ hi * M) := by
          rw [form s (by omega) x2, form s' (by omega) y2, (a1 s s' x1 x2 y1 y2).2, (b1 s s' x1 x2 y1 y2).1]
        unfold mnR
        rw [h1 s s' x1 x2 y1 y2]
        by_cases z : thX S s M k = true ∧ lo * M ≤ upX S s M k ∧ upX S s M k ≤ hi * M
        · rw [if_pos z, if_pos (hiff.mp z)]
        · rw [if_neg z, if_neg (fun y => z (hiff.mpr y))]
      · unfold mnR
        by_cases z : thX S (X + 1) M k = true ∧ lo * M ≤ upX S (X + 1) M k ∧ upX S (X + 1) M k ≤ hi * M
        · have z2 := (form (X + 1) (by omega) (by omega)).mp z
          have z3 := (form X (by omega) hXY).mpr ⟨c, a2 z2.2.1, b2 z2.2.2⟩
          rw [if_pos z, if_pos z3]
          omega
        · rw [if_neg z]
          omega
    · refine ⟨fun s s' x1 x2 y1 y2 => ?_, ?_⟩
      · unfold mnR
        rw [h1 s s' x1 x2 y1 y2, if_neg (fun y => c ((form s (by omega) x2).mp y).1), if_neg (fun y => c ((form s' (by omega) y2).mp y).1)]
      · unfold mnR
        rw [if_neg (fun y => c ((form (X + 1) (by omega) (by omega)).mp y).1)]
        omega
theorem wi_ts {M en x0 x1 : Int} (hM : GM M) (hen : 1 ≤ en ∧ en ≤ 600) {S : FS} {came : Nat} (hO : OKM9 S came) : ∀ j, j ≤ came → TSM M en (wiT S en x0 x1 came j) ∧ (∀ v, HAS M (btI S en came) v → HAS M (wiT S en x0 x1 came j) v) ∧ ∀ k, k < j → CRO M en x0 S k (wiT S en x0 x1 came j) ∧ CRO M en x1 S k (wiT S en x0 x1 came j)
  | 0, _ => ⟨(bt_ts hM hen S came).1, fun v g => g, fun k hk => absurd hk (Nat.not_lt_zero k)⟩
  | j + 1, hj => by
    obtain ⟨h1, h2, h3⟩ := wi_ts hM hen hO (x0 := x0) (x1 := x1) j (by omega)
    obtain ⟨u1, u2, u3⟩ := atL_ts (x0 := x0) hM hen.2 S j h1 (S.2.2.2.1 j) (fun p hp => hO.s1 (by omega) hp)
    obtain ⟨v1, v2, v3⟩ := atL_ts (x0 := x1) hM hen.2 S j u1 (S.2.2.2.1 j) (fun p hp => hO.s1 (by omega) hp)
    unfold wiT
    refine ⟨v1, fun v g => v2 v (u2 v (h2 v g)), fun k hk => ?_⟩
    by_cases z : k = j
    · subst z
      have u3' : CRO M en x0 S k (atL S en x0 k (S.2.2.2.1 k) (wiT S en x0 x1 came k)) := u3
      exact ⟨u3'.mono v2, v3⟩
    · obtain ⟨k1, k2⟩ := h3 k (by omega)
      exact ⟨(k1.mono u2).mono v2, (k2.mono u2).mono v2⟩
theorem within_eq {S : FS} {came : Nat} (hO : OKM9 S came) {lo hi en k wh : Int} {mm : Nat} (hmm : 1 ≤ mm) (hen : 1 ≤ en ∧ en ≤ 600) (hw : 0 ≤ wh ∧ wh ≤ 3) :
    spT (wnL S came en lo hi (mm : Int) (bcF S came en)) k wh = ansW (fsG (soW S came lo hi (mm : Int)) (wiT S en lo hi came came)) k wh := by
  obtain ⟨M, hM⟩ := gm_ex
  obtain ⟨c1, c2⟩ := wn_fin hM hO (la := en) (lo := lo) (hi := hi) hmm (by omega)
  obtain ⟨t1, t2, t3, t4⟩ := bt_ts hM hen S came
  obtain ⟨v1, v2, v3⟩ := wi_ts (x0 := lo) (x1 := hi) hM hen hO came (Nat.le_refl _)
  have hB : BTS M en S came (btI S en came) := t4
  have hs0 : soW S came lo hi (mm : Int) (-1) M = false := by
    unfold soW
    rw [mnR_s0 hM came (fun j hj => hO.st j 0 hj (hO.n1 j hj))]
    exact decide_eq_false (by omega)
  have hT := ts_tlp hM (so := fun s => soW S came lo hi (mm : Int) s M) v1 (v2 _ t2) (v2 _ t3) (fun X Y a b c d e g => by
    obtain ⟨f, u, f0, fu, ue, fX, Yu, hN⟩ := gap_nob hM (hB.mono v2) hO.st c d e g
    obtain ⟨k1, k2⟩ := mn_gap hM hO (fun i hi => (v3 i hi).1) (fun i hi => (v3 i hi).2) hen.2 a b d g f0 ue fX Yu hN came (Nat.le_refl _)
    refine ⟨fun s s' x1 x2 y1 y2 => ?_, fun h => ?_⟩
    · unfold soW
      rw [k1 s s' x1 x2 y1 y2]
    · unfold soW at h ⊢
      rw [decide_eq_true_iff] at h ⊢
      omega)
  have hH : HOM (soW S came lo hi (mm : Int)) := fun n d k _ hk => by
    unfold soW
    rw [mnR_hom S lo hi hk]
  obtain ⟨d1, d2⟩ := fs_fin hM hH hT hs0
  exact tell_eq hM c1 d1 (fin_uniq c2 d2) hw
