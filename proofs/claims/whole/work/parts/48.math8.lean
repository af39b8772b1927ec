/-! near and first: class and model tell the same -/
theorem hk_le {a b k : Int} (hk : 0 < k) : a * k ≤ b * k ↔ a ≤ b := ⟨fun h => Int.le_of_mul_le_mul_right h hk, fun h => Int.mul_le_mul_of_nonneg_right h (by omega)⟩
theorem hk_lt {a b k : Int} (hk : 0 < k) : a * k < b * k ↔ a < b := ⟨fun h => Int.lt_of_mul_lt_mul_right h (by omega), fun h => Int.mul_lt_mul_of_pos_right h hk⟩
theorem th_hom (S : FS) {n d k : Int} (hk : 0 < k) (i : Nat) : thX S (n * k) (d * k) i = thX S n d i := by
  unfold thX thF
  rw [← Int.mul_assoc, ← Int.mul_assoc]
  refine decide_eq_decide.mpr ?_
  rw [hk_le hk, hk_lt hk]
theorem pc_hom (st : Nat → Int) {n d k : Int} (hk : 0 < k) : ∀ r, pcAt st (n * k) (d * k) r = pcAt st n d r
  | 0 => rfl
  | r + 1 => by
    unfold pcAt
    rw [pc_hom st hk r, ← Int.mul_assoc]
    by_cases h : 0 < r ∧ st r * d ≤ n
    · rw [if_pos h, if_pos ⟨h.1, (hk_le hk).mpr h.2⟩]
    · rw [if_neg h, if_neg (fun z => h ⟨z.1, (hk_le hk).mp z.2⟩)]
theorem up_hom (S : FS) {n d k : Int} (hk : 0 < k) (i : Nat) : upX S (n * k) (d * k) i = upX S n d i * k := by
  unfold upX upF upAt
  rw [pc_hom (S.1 i) hk]
  grind
theorem soN_hom (S : FS) (i j : Nat) (wd : Int) : HOM (soN S i j wd) := fun n d k _ hk => by
  unfold soN
  refine decide_eq_decide.mpr ?_
  rw [th_hom S hk, th_hom S hk, up_hom S hk, up_hom S hk]
  refine and_congr_right fun _ => ?_
  have e1 : upX S n d i * k - upX S n d j * k = (upX S n d i - upX S n d j) * k := by grind
  rw [e1, ← Int.mul_assoc, ← Int.mul_assoc, hk_le hk, hk_le hk]
theorem fiR_hom (S : FS) (o : Nat) {n d k : Int} (hk : 0 < k) : ∀ r, fiR S o (n * k) (d * k) r = fiR S o n d r
  | 0 => th_hom S hk o
  | r + 1 => by
    unfold fiR
    rw [fiR_hom S o hk r, th_hom S hk, up_hom S hk, up_hom S hk]
    rw [show decide (upX S n d r * k ≤ upX S n d o * k) = decide (upX S n d r ≤ upX S n d o) from decide_eq_decide.mpr (hk_le hk)]
theorem mnR_hom (S : FS) (lw hg : Int) {n d k : Int} (hk : 0 < k) : ∀ r, mnR S lw hg (n * k) (d * k) r = mnR S lw hg n d r
  | 0 => rfl
  | r + 1 => by
    unfold mnR
    rw [mnR_hom S lw hg hk r, th_hom S hk, up_hom S hk, ← Int.mul_assoc, ← Int.mul_assoc]
    have e : (thX S n d r = true ∧ lw * d * k ≤ upX S n d r * k ∧ upX S n d r * k ≤ hg * d * k) ↔ (thX S n d r = true ∧ lw * d ≤ upX S n d r ∧ upX S n d r ≤ hg * d) := by rw [hk_le hk, hk_le hk]
    by_cases z : thX S n d r = true ∧ lw * d ≤ upX S n d r ∧ upX S n d r ≤ hg * d
    · rw [if_pos z, if_pos (e.mpr z)]
    · rw [if_neg z, if_neg (fun y => z (e.mp y))]
theorem frac_gT {M : Int} (hM : GM M) {q : TM} (h : okT q) : RED (frac q.1 q.2) ∧ gz M (frac q.1 q.2) = gT M q ∧ frac q.1 q.2 / 256 = q.1.tdiv ((Nat.gcd q.1.natAbs q.2.natAbs : Nat) : Int) ∧ frac q.1 q.2 % 256 = q.2.tdiv ((Nat.gcd q.1.natAbs q.2.natAbs : Nat) : Int) := by
  have hd := h.2
  obtain ⟨g, hg, e1, e2, hr⟩ := frac_parts (u := q.1) (lo := q.2) (by omega)
  have hf := gz_frac (u := q.1) (lo := q.2) hM (by omega)
  obtain ⟨k, hk, e3, e4⟩ := gT_spec hM (okT_d h)
  have ht := tdiv_g (u := q.1) (lo := q.2) h.1.1 (by omega)
  have hdm := frac_dm (u := q.1) (lo := q.2) ⟨by omega, by omega⟩
  refine ⟨hr, ?_, hdm.1.symm, hdm.2.symm⟩
  have : q.2 * gz M (frac q.1 q.2) = q.2 * gT M q := by
    rw [Int.mul_comm, hf, e4, e3]
    grind
  exact Int.eq_of_mul_eq_mul_left (by omega) this
theorem tell_eq {M : Int} (hM : GM M) {L : List (Int × Int)} {V : List SPN} (hR : REDL L) (hV : OKV V) (h : gl M L = ml M V) {k wh : Int} (hw : 0 ≤ wh ∧ wh ≤ 3) : spT L k wh = ansW V k wh := by
  have hlen : L.length = V.length := by
    have := congrArg List.length h
    unfold gl ml at this
    rw [List.length_map, List.length_map] at this
    exact this
  unfold spT ansW lkq
  by_cases h1 : k = -1
  · rw [if_pos h1, if_pos h1, hlen]
  · rw [if_neg h1, if_neg h1]
    by_cases h2 : 0 ≤ k
    · rw [if_pos h2, if_neg (by omega)]
      by_cases h3 : k.toNat < L.length
      · have hv : k.toNat < V.length := by omega
        rw [List.getElem?_eq_getElem h3, List.getElem?_eq_getElem hv]
        have e0 : (gl M L)[k.toNat]? = (ml M V)[k.toNat]? := by rw [h]
        unfold gl ml at e0
        rw [List.getElem?_map, List.getElem?_map, List.getElem?_eq_getElem h3, List.getElem?_eq_getElem hv] at e0
        have e1 := Option.some.inj e0
        have r := hR _ (List.getElem_mem h3)
        have o := hV _ (List.getElem_mem hv)
        generalize L[k.toNat] = z at *
        generalize V[k.toNat] = q at *
        obtain ⟨a1, a2, a3, a4⟩ := frac_gT hM o.1
        obtain ⟨b1, b2, b3, b4⟩ := frac_gT hM o.2
        have f1 : z.1 = frac q.1.1 q.1.2 := red_inj hM r.1 a1 (by rw [a2]; exact congrArg Prod.fst e1)
        have f2 : z.2 = frac q.2.1 q.2.2 := red_inj hM r.2 b1 (by rw [b2]; exact congrArg Prod.snd e1)
        show (if wh = 0 then z.1 / 256 else if wh = 1 then z.1 % 256 else if wh = 2 then z.2 / 256 else z.2 % 256) = shX (if wh / 2 = 0 then q.1 else q.2) (wh % 2)
        rw [f1, f2, a3, a4, b3, b4]
        unfold shX
        have hcase : wh = 0 ∨ wh = 1 ∨ wh = 2 ∨ wh = 3 := by omega
        rcases hcase with rfl | rfl | rfl | rfl <;> rfl
      · rw [List.getElem?_eq_none (by omega), List.getElem?_eq_none (by omega)]
    · rw [if_neg h2, if_pos (by omega)]
/-- what is always true of pieces -/
def OKM9 (S : FS) (came : Nat) : Prop := came ≤ 10 ∧ (∀ i : Nat, i < came → OKC (S.1 i) (S.2.1 i) (S.2.2.1 i) (S.2.2.2.1 i) (S.2.2.2.2 i)) ∧ MONO S came
theorem OKM9.st {S : FS} {came : Nat} (h : OKM9 S came) (i p : Nat) (hi : i < came) (hp : p < S.2.2.2.1 i) : 0 ≤ S.1 i p := ((h.2.1 i hi).2.1 p hp).1
theorem OKM9.n8 {S : FS} {came : Nat} (h : OKM9 S came) : ∀ i, i < came → S.2.2.2.1 i ≤ 8 := fun i hi => (h.2.1 i hi).1.2
theorem OKM9.n1 {S : FS} {came : Nat} (h : OKM9 S came) : NP1 S came := fun i hi => (h.2.1 i hi).1.1
theorem OKM9.sp {S : FS} {came : Nat} (h : OKM9 S came) : SPD S came := fun t i hi => spAt_rng (h.2.1 i hi)
theorem OKM9.pc {S : FS} {came : Nat} (h : OKM9 S came) (n d : Int) {i : Nat} (hi : i < came) : pcAt (S.1 i) n d (S.2.2.2.1 i) < S.2.2.2.1 i := pcAt_lt (S.1 i) n d _ (h.n1 i hi)
theorem OKM9.ms {S : FS} {came : Nat} (h : OKM9 S came) {i j p q : Nat} (hi : i < came) (hj : j < came) (hp : p < S.2.2.2.1 i) (hq : q < S.2.2.2.1 j) : -100 ≤ meS S i j p q ∧ meS S i j p q ≤ 100 := by
  have h1 := ((h.2.1 i hi).2.2.2 p hp).2
  have h2 := ((h.2.1 j hj).2.2.2 q hq).2
  unfold meS
  omega
/-- the crossings of two points are among the times -/
def CRP (M en w0 : Int) (S : FS) (i j : Nat) (U : List TM) : Prop := ∀ p q, p < S.2.2.2.1 i → q < S.2.2.2.1 j → meF S i j p q ≤ meE S i j p q → CRS M en U (meA S i j p q - w0) (meS S i j p q) (meF S i j p q) (meE S i j p q)
theorem CRP.mono {M en w0 : Int} {S : FS} {i j : Nat} {U U1 : List TM} (h : CRP M en w0 S i j U) (hm : ∀ v, HAS M U v → HAS M U1 v) : CRP M en w0 S i j U1 := fun p q a b c => (h p q a b c).mono hm
theorem cr_pair {M en w0 X Y f u e : Int} (hM : GM M) {S : FS} {came : Nat} (hO : OKM9 S came) {U : List TM} {i j : Nat} (hi : i < came) (hj : j < came) (hC : CRP M en w0 S i j U) (hN : NOB S came f u) (hfu : f < u) (hu : u ≤ en) (hen : en ≤ 600) (h0 : 0 ≤ f) (h3 : f * M ≤ X) (h4 : Y ≤ u * M) (t1 : thB S f i = true) (t2 : thB S f j = true) (hB : spS S f i - spS S f j ≠ 0) (he : (spS S f i - spS S f j) * e = (f * (spS S f i - spS S f j) - (poS S f i - poS S f j - w0)) * M) (hX : X < e) (hY : e < Y) : HAS M U e := by
  have g1 := en_ge hN (by omega) hi (hO.n1 i hi) t1
  have g2 := en_ge hN (by omega) hj (hO.n1 j hj) t2
  have p1 := hO.pc f 1 hi
  have p2 := hO.pc f 1 hj
  rw [po_at, po_at] at he
  have es1 : spS S f i = S.2.2.1 i (pcAt (S.1 i) f 1 (S.2.2.2.1 i)) := rfl
  have es2 : spS S f j = S.2.2.1 j (pcAt (S.1 j) f 1 (S.2.2.2.1 j)) := rfl
  rw [es1, es2] at he hB
  generalize pcAt (S.1 i) f 1 (S.2.2.2.1 i) = p at *
  generalize pcAt (S.1 j) f 1 (S.2.2.2.1 j) = q at *
  have hF : meF S i j p q ≤ f := by
    unfold meF
    omega
  have hE : u ≤ meE S i j p q := by
    unfold meE
    omega
  refine cr_core hM (hO.ms hi hj p1 p2) hB (hC p q p1 p2 (by omega)) ?_ hF hE h3 h4 h0 hu hX hY
  show (S.2.2.1 i p - S.2.2.1 j q) * e = (meF S i j p q * (S.2.2.1 i p - S.2.2.1 j q) - (meA S i j p q - w0)) * M
  rw [he]
  unfold meA
  generalize meF S i j p q = F
  grind
/-- near: constant in a gap, closed to the right -/
theorem near_gap {M en X Y wd : Int} (hM : GM M) {S : FS} {came : Nat} (hO : OKM9 S came) {U : List TM} {i j : Nat} (hi : i < came) (hj : j < came) (hB : BTS M en S came U) (hC1 : CRP M en wd S i j U) (hC2 : CRP M en (-wd) S i j U) (hen : en ≤ 600) (evX : X % 2 = 0) (evY : Y % 2 = 0) (h0 : 0 ≤ X) (hXY : X < Y) (hY : Y ≤ en * M) (hg : ∀ v, HAS M U v → ¬ (X < v ∧ v < Y)) :
    (∀ s s', X < s → s < Y → X < s' → s' < Y → soN S i j wd s M = soN S i j wd s' M) ∧ (soN S i j wd (X + 1) M = true → soN S i j wd X M = true) := by
  obtain ⟨f, u, f0, fu, ue, fX, Yu, hN⟩ := gap_nob hM hB hO.st h0 hXY hY hg
  have n1 := hO.n1 i hi
  have n2 := hO.n1 j hj
  have s1 := hO.sp f i hi
  have s2 := hO.sp f j hj
  have form : ∀ t, f * M ≤ t → t < u * M → (soN S i j wd t M = true ↔ (thB S f i = true ∧ thB S f j = true) ∧ (poS S f i - poS S f j - wd) * M + (spS S f i - spS S f j) * (t - f * M) ≤ 0 ∧ 0 ≤ (poS S f i - poS S f j - -wd) * M + (spS S f i - spS S f j) * (t - f * M)) := fun t h1 h2 => by
    unfold soN
    rw [decide_eq_true_iff, str_th hM.1 hN hi n1 h1 h2, str_th hM.1 hN hj n2 h1 h2, str_up hM.1 hN hi h1 h2, str_up hM.1 hN hj h1 h2]
    refine and_congr_right fun _ => ?_
    have e1 : (poS S f i - poS S f j - wd) * M + (spS S f i - spS S f j) * (t - f * M) = poS S f i * M + spS S f i * (t - f * M) - (poS S f j * M + spS S f j * (t - f * M)) - wd * M := by grind
    have e2 : (poS S f i - poS S f j - -wd) * M + (spS S f i - spS S f j) * (t - f * M) = poS S f i * M + spS S f i * (t - f * M) - (poS S f j * M + spS S f j * (t - f * M)) - -wd * M := by grind
    rw [e1, e2]
    omega
  have hb : ∀ t, X ≤ t → t < Y → f * M ≤ t ∧ t < u * M := fun t a b => ⟨by omega, by omega⟩
  by_cases c : thB S f i = true ∧ thB S f j = true
  · obtain ⟨a1, a2, -⟩ := lin_gap (A := poS S f i - poS S f j - wd) (B := spS S f i - spS S f j) (f := f) hM (by omega) evX evY hXY (fun hB e he z => hg e (cr_pair hM hO hi hj hC1 hN fu ue hen f0 fX Yu c.1 c.2 hB he z.1 z.2) z)
    obtain ⟨b1, -, b2⟩ := lin_gap (A := poS S f i - poS S f j - -wd) (B := spS S f i - spS S f j) (f := f) hM (by omega) evX evY hXY (fun hB e he z => hg e (cr_pair hM hO hi hj hC2 hN fu ue hen f0 fX Yu c.1 c.2 hB he z.1 z.2) z)
    refine ⟨fun s s' x1 x2 y1 y2 => ?_, fun h => ?_⟩
    · rw [Bool.eq_iff_iff, form s (hb s (by omega) x2).1 (hb s (by omega) x2).2, form s' (hb s' (by omega) y2).1 (hb s' (by omega) y2).2, (a1 s s' x1 x2 y1 y2).1, (b1 s s' x1 x2 y1 y2).2]
    · rw [form _ (hb (X + 1) (by omega) (by omega)).1 (hb (X + 1) (by omega) (by omega)).2] at h
      rw [form _ (hb X (by omega) (by omega)).1 (hb X (by omega) (by omega)).2]
      exact ⟨c, a2 h.2.1, b2 h.2.2⟩
  · refine ⟨fun s s' x1 x2 y1 y2 => ?_, fun h => ?_⟩
    · rw [Bool.eq_iff_iff, form s (hb s (by omega) x2).1 (hb s (by omega) x2).2, form s' (hb s' (by omega) y2).1 (hb s' (by omega) y2).2]
      exact ⟨fun z => absurd z.1 c, fun z => absurd z.1 c⟩
    · rw [form _ (hb (X + 1) (by omega) (by omega)).1 (hb (X + 1) (by omega) (by omega)).2] at h
      exact absurd h.1 c
theorem near_eq {S : FS} {came : Nat} (hO : OKM9 S came) {i j : Nat} (hi : i < came) (hj : j < came) {wd en k wh : Int} (hen : 1 ≤ en ∧ en ≤ 600) (hw : 0 ≤ wh ∧ wh ≤ 3) :
    spT (spL S came en (fun t q => nrS S t i j wd q) (bcF S came en)) k wh = ansW (fsG (soN S i j wd) (apP S en (-wd) i j (S.2.2.2.1 i) (apP S en wd i j (S.2.2.2.1 i) (btI S en came)))) k wh := by
  obtain ⟨M, hM⟩ := gm_ex
  have hs0 : soN S i j wd (-1) M = false := nr_s0 hM (hO.st i 0 hi (hO.n1 i hi))
  obtain ⟨c1, c2⟩ := sp_fin hM (nr_qf hM hO.sp hO.n1 hi hj wd) hs0 (la := en) (by omega) hO.1 hO.n8
  obtain ⟨t1, t2, t3, t4⟩ := bt_ts hM hen S came
  obtain ⟨u1, u2, u3⟩ := apP_ts (w0 := wd) hM hen.2 S i j t1 (S.2.2.2.1 i) (fun p q hp hq => hO.ms hi hj hp hq)
  obtain ⟨v1, v2, v3⟩ := apP_ts (w0 := -wd) hM hen.2 S i j u1 (S.2.2.2.1 i) (fun p q hp hq => hO.ms hi hj hp hq)
  have hB : BTS M en S came (btI S en came) := t4
  have hT := ts_tlp hM (so := fun s => soN S i j wd s M) v1 (v2 _ (u2 _ t2)) (v2 _ (u2 _ t3)) (fun X Y a b c d e g => near_gap hM hO hi hj ((hB.mono u2).mono v2) (fun p q hp hq hle => (u3 p q hp hq hle).mono v2) v3 hen.2 a b c d e g)
  obtain ⟨d1, d2⟩ := fs_fin hM (soN_hom S i j wd) hT hs0
  exact tell_eq hM c1 d1 (fin_uniq c2 d2) hw
