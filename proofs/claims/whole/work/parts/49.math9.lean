theorem fi_gap {M en X Y f u : Int} (hM : GM M) {S : FS} {came : Nat} (hO : OKM9 S came) {U : List TM} {o : Nat} (ho : o < came) (hC : ∀ k, k < came → k ≠ o → CRP M en 0 S o k U) (hen : en ≤ 600) (evX : X % 2 = 0) (evY : Y % 2 = 0) (hXY : X < Y) (hg : ∀ v, HAS M U v → ¬ (X < v ∧ v < Y)) (f0 : 0 ≤ f) (fu : f < u) (ue : u ≤ en) (fX : f * M ≤ X) (Yu : Y ≤ u * M) (hN : NOB S came f u) (hth : thB S f o = true) :
    ∀ k, k ≤ came → (∀ s s', X < s → s < Y → X < s' → s' < Y → fiR S o s M k = fiR S o s' M k) ∧ (fiR S o (X + 1) M k = true → fiR S o X M k = true)
  | 0, _ => by
    have hb : ∀ t, X ≤ t → t < Y → thX S t M o = true := fun t a b => by
      rw [str_th hM.1 hN ho (hO.n1 o ho) (by omega) (by omega)]
      exact hth
    refine ⟨fun s s' x1 x2 y1 y2 => ?_, fun _ => hb X (by omega) hXY⟩
    show thX S s M o = thX S s' M o
    rw [hb s (by omega) x2, hb s' (by omega) y2]
  | k + 1, hk => by
    obtain ⟨h1, h2⟩ := fi_gap hM hO ho hC hen evX evY hXY hg f0 fu ue fX Yu hN hth k (by omega)
    have hk2 : k < came := by omega
    have ht : ∀ t, X ≤ t → t < Y → thX S t M k = thB S f k := fun t a b => str_th hM.1 hN hk2 (hO.n1 k hk2) (by omega) (by omega)
    have s1 := hO.sp f o ho
    have s2 := hO.sp f k hk2
    by_cases c : thB S f k = true
    · have hy : ∀ t, X ≤ t → t < Y → fiR S o t M (k + 1) = (fiR S o t M k && decide (upX S t M k ≤ upX S t M o)) := fun t a b => fiR_y (by rw [ht t a b]; exact c)
      have hl : ∀ t, X ≤ t → t < Y → (upX S t M k ≤ upX S t M o ↔ 0 ≤ (poS S f o - poS S f k - 0) * M + (spS S f o - spS S f k) * (t - f * M)) := fun t a b => by
        rw [str_up hM.1 hN ho (by omega) (by omega), str_up hM.1 hN hk2 (by omega) (by omega)]
        have e1 : (poS S f o - poS S f k - 0) * M + (spS S f o - spS S f k) * (t - f * M) = poS S f o * M + spS S f o * (t - f * M) - (poS S f k * M + spS S f k * (t - f * M)) := by grind
        rw [e1]
        omega
      obtain ⟨a1, -, a2⟩ := lin_gap (A := poS S f o - poS S f k - 0) (B := spS S f o - spS S f k) (f := f) hM (by omega) evX evY hXY (fun hB e he z => by
        by_cases q : k = o
        · subst q
          exact absurd (Int.sub_self _) hB
        · exact hg e (cr_pair hM hO ho hk2 (hC k hk2 q) hN fu ue hen f0 fX Yu hth c hB he z.1 z.2) z)
      refine ⟨fun s s' x1 x2 y1 y2 => ?_, fun h => ?_⟩
      · rw [hy s (by omega) x2, hy s' (by omega) y2, h1 s s' x1 x2 y1 y2]
        congr 1
        refine decide_eq_decide.mpr ?_
        rw [hl s (by omega) x2, hl s' (by omega) y2]
        exact (a1 s s' x1 x2 y1 y2).2
      · rw [hy (X + 1) (by omega) (by omega), Bool.and_eq_true, decide_eq_true_iff, hl (X + 1) (by omega) (by omega)] at h
        rw [hy X (by omega) hXY, Bool.and_eq_true, decide_eq_true_iff, hl X (by omega) hXY]
        exact ⟨h2 h.1, a2 h.2⟩
    · have hn : ∀ t, X ≤ t → t < Y → fiR S o t M (k + 1) = fiR S o t M k := fun t a b => fiR_n (by rw [ht t a b]; exact c)
      refine ⟨fun s s' x1 x2 y1 y2 => ?_, fun h => ?_⟩
      · rw [hn s (by omega) x2, hn s' (by omega) y2]
        exact h1 s s' x1 x2 y1 y2
      · rw [hn (X + 1) (by omega) (by omega)] at h
        rw [hn X (by omega) hXY]
        exact h2 h
theorem first_gap {M en X Y : Int} (hM : GM M) {S : FS} {came : Nat} (hO : OKM9 S came) {U : List TM} {o : Nat} (ho : o < came) (hB : BTS M en S came U) (hC : ∀ k, k < came → k ≠ o → CRP M en 0 S o k U) (hen : en ≤ 600) (evX : X % 2 = 0) (evY : Y % 2 = 0) (h0 : 0 ≤ X) (hXY : X < Y) (hY : Y ≤ en * M) (hg : ∀ v, HAS M U v → ¬ (X < v ∧ v < Y)) :
    (∀ s s', X < s → s < Y → X < s' → s' < Y → fiR S o s M came = fiR S o s' M came) ∧ (fiR S o (X + 1) M came = true → fiR S o X M came = true) := by
  obtain ⟨f, u, f0, fu, ue, fX, Yu, hN⟩ := gap_nob hM hB hO.st h0 hXY hY hg
  by_cases c : thB S f o = true
  · exact fi_gap hM hO ho hC hen evX evY hXY hg f0 fu ue fX Yu hN c came (Nat.le_refl _)
  · have hf : ∀ t, X ≤ t → t < Y → fiR S o t M came = false := fun t a b => by
      cases hc : fiR S o t M came with
      | false => rfl
      | true =>
        have h1 := fiR_th came hc
        rw [str_th hM.1 hN ho (hO.n1 o ho) (by omega) (by omega)] at h1
        exact absurd h1 c
    refine ⟨fun s s' x1 x2 y1 y2 => by rw [hf s (by omega) x2, hf s' (by omega) y2], fun h => ?_⟩
    rw [hf (X + 1) (by omega) (by omega)] at h
    cases h
theorem fp_ts {M en : Int} (hM : GM M) (hen : 1 ≤ en ∧ en ≤ 600) {S : FS} {came : Nat} (hO : OKM9 S came) {o : Nat} (ho : o < came) : ∀ j, j ≤ came → TSM M en (fpT S en o came j) ∧ (∀ v, HAS M (btI S en came) v → HAS M (fpT S en o came j) v) ∧ ∀ k, k < j → k ≠ o → CRP M en 0 S o k (fpT S en o came j)
  | 0, _ => ⟨(bt_ts hM hen S came).1, fun v g => g, fun k hk => absurd hk (Nat.not_lt_zero k)⟩
  | j + 1, hj => by
    obtain ⟨h1, h2, h3⟩ := fp_ts hM hen hO ho j (by omega)
    unfold fpT
    by_cases c : j = o
    · rw [if_pos c]
      refine ⟨h1, h2, fun k hk hko => ?_⟩
      exact h3 k (by omega) hko
    · rw [if_neg c]
      obtain ⟨u1, u2, u3⟩ := apP_ts (w0 := 0) hM hen.2 S o j h1 (S.2.2.2.1 o) (fun p q hp hq => hO.ms ho (by omega) hp hq)
      refine ⟨u1, fun v g => u2 v (h2 v g), fun k hk hko => ?_⟩
      by_cases z : k = j
      · subst z
        exact u3
      · exact (h3 k (by omega) hko).mono u2
theorem fiR_HOM (S : FS) (o came : Nat) : HOM (fun n d => fiR S o n d came) := fun n d k _ hk => fiR_hom S o hk came
theorem first_eq {S : FS} {came : Nat} (hO : OKM9 S came) {o : Nat} (ho : o < came) {en k wh : Int} (hen : 1 ≤ en ∧ en ≤ 600) (hw : 0 ≤ wh ∧ wh ≤ 3) :
    spT (spL S came en (fun t q => frS S t o came q) (bcF S came en)) k wh = ansW (fsG (fun n d => fiR S o n d came) (fpT S en o came came)) k wh := by
  obtain ⟨M, hM⟩ := gm_ex
  have hs0 : fiR S o (-1) M came = false := fr_s0 hM (hO.st o 0 ho (hO.n1 o ho))
  obtain ⟨c1, c2⟩ := sp_fin hM (fr_qf hM hO.sp hO.n1 ho) hs0 (la := en) (by omega) hO.1 hO.n8
  obtain ⟨t1, t2, t3, t4⟩ := bt_ts hM hen S came
  obtain ⟨v1, v2, v3⟩ := fp_ts hM hen hO ho came (Nat.le_refl _)
  have hB : BTS M en S came (btI S en came) := t4
  have hT := ts_tlp hM (so := fun s => fiR S o s M came) v1 (v2 _ t2) (v2 _ t3) (fun X Y a b c d e g => first_gap hM hO ho (hB.mono v2) v3 hen.2 a b c d e g)
  obtain ⟨d1, d2⟩ := fs_fin hM (fiR_HOM S o came) hT hs0
  exact tell_eq hM c1 d1 (fin_uniq c2 d2) hw
