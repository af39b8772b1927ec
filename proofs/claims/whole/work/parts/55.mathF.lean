/-! the lists of meetings: what they hold -/
def INVt (S : FS) (came : Nat) (now : Int) : Prop := ∀ i : Nat, i < came → (∀ p : Nat, p < S.2.2.2.1 i → S.1 i p ≤ now) ∧ S.2.2.2.2 i ≤ now
def EVX (S : FS) (came : Nat) (x : EV) : Prop := ∃ a b p q, a < b ∧ b < came ∧ p < S.2.2.2.1 a ∧ q < S.2.2.2.1 b ∧ evM S a b p q = some x
theorem evM_ok {M : Int} (hM : GM M) {S : FS} {came : Nat} (hO : OKM9 S came) {i j : Nat} (hi : i < came) (hj : j < came) {p q : Nat} (hp : p < S.2.2.2.1 i) (hq : q < S.2.2.2.1 j) {x : EV} (h : evM S i j p q = some x) :
    (x.2.1 = i ∧ x.2.2.1 = j) ∧ EOK x ∧ (0 < gz M x.1 ∧ gz M x.1 ≤ 100000 * M) ∧ meF S i j p q * M < gz M x.1 ∧ gz M x.1 ≤ meE S i j p q * M := by
  have hM0 := hM.1
  have hms := hO.ms hi hj hp hq
  have hc := hO.1
  obtain ⟨-, i2, -, i4⟩ := hO.2.1 i hi
  obtain ⟨-, j2, -, j4⟩ := hO.2.1 j hj
  have i5 := i2 p hp
  have i6 := i4 p hp
  have j5 := j2 q hq
  have j6 := j4 q hq
  unfold evM at h
  split at h
  · rename_i hC
    cases h
    obtain ⟨c1, c2, c3, c4, -, -⟩ := hC
    have hD : 1 ≤ meD S i j p q ∧ meD S i j p q ≤ 100 := by
      unfold meD
      split <;> omega
    obtain ⟨g1, g2, g3, g4, hred⟩ := frac_parts (u := meN S i j p q) (lo := meD S i j p q) (by omega)
    have hT := gz_frac (u := meN S i j p q) (lo := meD S i j p q) hM (by omega)
    have hF : 0 ≤ meF S i j p q ∧ meF S i j p q ≤ 400 ∧ S.1 i p ≤ meF S i j p q ∧ S.1 j q ≤ meF S i j p q := by
      unfold meF
      omega
    have k1 := (tm_cmp hM0 (by omega : 0 < meD S i j p q) hT (meF S i j p q)).1.mp c3
    have k2 : ∀ a : Int, meN S i j p q ≤ a * meD S i j p q → gz M (frac (meN S i j p q) (meD S i j p q)) ≤ a * M := by
      intro a ha
      have := tm_cmp hM0 (by omega : 0 < meD S i j p q) hT a
      rcases Int.lt_or_le (a * M) (gz M (frac (meN S i j p q) (meD S i j p q))) with y | y
      · have := this.1.mpr y
        omega
      · exact y
    have k3 : 0 ≤ meF S i j p q * M := Int.mul_nonneg hF.1 (by omega)
    have m1 := mb3 (a := S.2.2.1 i p) (b := meF S i j p q - S.1 i p) (A := 50) (B := 400) (by omega) (by omega)
    have m2 := mb3 (a := S.2.2.1 j q) (b := meF S i j p q - S.1 j q) (A := 50) (B := 400) (by omega) (by omega)
    have hA : -82000 ≤ meA S i j p q ∧ meA S i j p q ≤ 82000 := by
      unfold meA
      omega
    have hN : meN S i j p q ≤ 100000 * meD S i j p q := by
      have m3 : meF S i j p q * meD S i j p q ≤ 400 * meD S i j p q := Int.mul_le_mul_of_nonneg_right hF.2.1 (by omega)
      have : meN S i j p q ≤ meF S i j p q * meD S i j p q + 82000 := by
        unfold meN meD
        split
        · rw [Int.mul_neg]
          omega
        · omega
      omega
    refine ⟨⟨rfl, rfl⟩, ⟨hred, ?_, ?_⟩, ⟨?_, k2 _ hN⟩, k1, k2 _ c4⟩
    · show i < 10
      omega
    · show j < 10
      omega
    · dsimp only
      omega
  · exact (nomatch h)
theorem evM_disj {M : Int} (hM : GM M) {S : FS} {came : Nat} (hO : OKM9 S came) {i j : Nat} (hi : i < came) (hj : j < came) {p q r s : Nat} (hp : p < S.2.2.2.1 i) (hq : q < S.2.2.2.1 j) (hr : r < S.2.2.2.1 i) (hs : s < S.2.2.2.1 j) {x y : EV} (h : evM S i j p q = some x) (g : evM S i j r s = some y) (e : gz M x.1 = gz M y.1) : p = r ∧ q = s := by
  have hM0 := hM.1
  obtain ⟨-, -, -, a1, a2⟩ := evM_ok hM hO hi hj hp hq h
  obtain ⟨-, -, -, b1, b2⟩ := evM_ok hM hO hi hj hr hs g
  have o1 : meF S i j p q < meE S i j r s := (hk_lt hM0).mp (by omega)
  have o2 : meF S i j r s < meE S i j p q := (hk_lt hM0).mp (by omega)
  unfold meF meE at o1 o2
  have side : ∀ (k a b : Nat), k < came → a < S.2.2.2.1 k → b < S.2.2.2.1 k → S.1 k a < enP (S.1 k) (S.2.2.2.1 k) (S.2.2.2.2 k) b → S.1 k b < enP (S.1 k) (S.2.2.2.1 k) (S.2.2.2.2 k) a → a = b := by
    intro k a b hk ha hb z1 z2
    rcases Nat.lt_trichotomy a b with y | y | y
    · have := hO.2.2.le hk (a := a + 1) (b := b) (by omega) hb
      have := enP_le (S := S) (i := k) (p := a) (by omega)
      omega
    · exact y
    · have := hO.2.2.le hk (a := b + 1) (b := a) (by omega) ha
      have := enP_le (S := S) (i := k) (p := b) (by omega)
      omega
  exact ⟨side i p r hi hp hr (by omega) (by omega), side j q s hj hq hs (by omega) (by omega)⟩
theorem gmI_slm {M : Int} (hM : GM M) {S : FS} {came : Nat} (hc : came ≤ 10) {f u : Int} (hev : ∀ i j, i < j → j < came → ∀ x, evOf S f u i j = some x → (x.2.1 = i ∧ x.2.2.1 = j) ∧ EOK x) {i : Nat} {L : List EV} (hL : SLM M L) (hb : ∀ a, a ∈ L → a.2.1 < i) :
    ∀ k, i + 1 + k ≤ came → SLM M (gmI S f u i k L) ∧ ∀ x, x ∈ gmI S f u i k L ↔ x ∈ L ∨ ∃ j, (i + 1 ≤ j ∧ j < i + 1 + k) ∧ evOf S f u i j = some x
  | 0, _ => ⟨hL, fun x => ⟨fun h => Or.inl h, fun h => h.elim (fun c => c) (fun ⟨j, hj, _⟩ => by omega)⟩⟩
  | k + 1, hk => by
    obtain ⟨h1, h2⟩ := gmI_slm hM hc hev hL hb k (by omega)
    obtain ⟨h3, h4⟩ := stepM_slm hM h1 (o := evOf S f u i (i + 1 + k)) (fun x hx => by
      obtain ⟨⟨e1, e2⟩, e3⟩ := hev i (i + 1 + k) (by omega) (by omega) x hx
      refine ⟨e3, fun a ha _ => ?_⟩
      rcases (h2 a).mp ha with z | ⟨j, hj, z⟩
      · have := hb a z
        have e4 := (hL.1 a z).2
        unfold ec
        omega
      · obtain ⟨⟨e4, e5⟩, e6⟩ := hev i j (by omega) (by omega) a z
        unfold ec
        omega)
    refine ⟨h3, fun x => ?_⟩
    show x ∈ stepM (evOf S f u i (i + 1 + k)) (gmI S f u i k L) ↔ _
    rw [h4 x, h2 x]
    constructor
    · rintro (z | z | ⟨j, hj, z⟩)
      · exact Or.inr ⟨i + 1 + k, by omega, z⟩
      · exact Or.inl z
      · exact Or.inr ⟨j, by omega, z⟩
    · rintro (z | ⟨j, hj, z⟩)
      · exact Or.inr (Or.inl z)
      · rcases Nat.lt_or_ge j (i + 1 + k) with y | y
        · exact Or.inr (Or.inr ⟨j, by omega, z⟩)
        · have : j = i + 1 + k := by omega
          subst this
          exact Or.inl z
theorem gmO_slm {M : Int} (hM : GM M) {S : FS} {came : Nat} (hc : came ≤ 10) {f u : Int} (hev : ∀ i j, i < j → j < came → ∀ x, evOf S f u i j = some x → (x.2.1 = i ∧ x.2.2.1 = j) ∧ EOK x) :
    ∀ i, i ≤ came → SLM M (gmO S f u came i) ∧ ∀ x, x ∈ gmO S f u came i ↔ ∃ a b, a < i ∧ (a < b ∧ b < came) ∧ evOf S f u a b = some x
  | 0, _ => ⟨slm_nil M, fun x => ⟨fun h => absurd h List.not_mem_nil, fun ⟨a, b, h, _⟩ => by omega⟩⟩
  | i + 1, hi => by
    obtain ⟨h1, h2⟩ := gmO_slm hM hc hev i (by omega)
    obtain ⟨h3, h4⟩ := gmI_slm (i := i) hM hc hev h1 (fun a ha => by
      obtain ⟨r, s, hr, hs, z⟩ := (h2 a).mp ha
      have := (hev r s hs.1 hs.2 a z).1
      omega) (came - (i + 1)) (by omega)
    refine ⟨h3, fun x => ?_⟩
    show x ∈ gmI S f u i (came - (i + 1)) (gmO S f u came i) ↔ _
    rw [h4 x, h2 x]
    constructor
    · rintro (⟨a, b, h, hab, z⟩ | ⟨j, hj, z⟩)
      · exact ⟨a, b, by omega, hab, z⟩
      · exact ⟨i, j, by omega, by omega, z⟩
    · rintro ⟨a, b, h, hab, z⟩
      rcases Nat.lt_or_ge a i with y | y
      · exact Or.inl ⟨a, b, y, hab, z⟩
      · have : a = i := by omega
        subst this
        exact Or.inr ⟨b, by omega, z⟩
theorem gmL_slm {M : Int} (hM : GM M) {S : FS} {came : Nat} (hO : OKM9 S came) {f u : Int} (hN : NOB S came f u) (h0 : 0 ≤ f) (hfu : f < u) (hu : u ≤ 100000) :
    SLM M (gmL S f u came) ∧ ∀ x, x ∈ gmL S f u came ↔ EVX S came x ∧ f * M < gz M x.1 ∧ gz M x.1 ≤ u * M := by
  obtain ⟨h1, h2⟩ := gmO_slm hM hO.1 (f := f) (u := u) (S := S) (came := came) (fun i j hij hj x hx => by
    obtain ⟨p, q, hp, hq, z, -⟩ := (ev_spec hM hO hN h0 hfu hu (by omega) hj x).mp hx
    obtain ⟨a, b, -⟩ := evM_ok hM hO (by omega) hj hp hq z
    exact ⟨a, b⟩) came (Nat.le_refl _)
  refine ⟨h1, fun x => ?_⟩
  show x ∈ gmO S f u came came ↔ _
  rw [h2 x]
  constructor
  · rintro ⟨a, b, ha, hab, z⟩
    obtain ⟨p, q, hp, hq, z1, z2⟩ := (ev_spec hM hO hN h0 hfu hu ha hab.2 x).mp z
    exact ⟨⟨a, b, p, q, hab.1, hab.2, hp, hq, z1⟩, z2⟩
  · rintro ⟨⟨a, b, p, q, h3, h4, hp, hq, z1⟩, z2⟩
    exact ⟨a, b, by omega, ⟨h3, h4⟩, (ev_spec hM hO hN h0 hfu hu (by omega) h4 x).mpr ⟨p, q, hp, hq, z1, z2⟩⟩
theorem gwQ_slm {M : Int} (hM : GM M) {S : FS} {came : Nat} (hO : OKM9 S came) {i j : Nat} (hi : i < came) (hj : j < came) {p : Nat} (hp : p < S.2.2.2.1 i) {L : List EV} (hL : SLM M L) (hb : ∀ a, a ∈ L → ec a < (i : Int) * 10 + (j : Int) ∨ ∃ r s, r < p ∧ s < S.2.2.2.1 j ∧ evM S i j r s = some a) :
    ∀ q, q ≤ S.2.2.2.1 j → SLM M (gwQ S i j p q L) ∧ ∀ x, x ∈ gwQ S i j p q L ↔ x ∈ L ∨ ∃ s, s < q ∧ evM S i j p s = some x
  | 0, _ => ⟨hL, fun x => ⟨fun h => Or.inl h, fun h => h.elim (fun c => c) (fun ⟨s, hs, _⟩ => by omega)⟩⟩
  | q + 1, hq => by
    obtain ⟨h1, h2⟩ := gwQ_slm hM hO hi hj hp hL hb q (by omega)
    obtain ⟨h3, h4⟩ := stepM_slm hM h1 (o := evM S i j p q) (fun x hx => by
      obtain ⟨⟨e1, e2⟩, e3, -⟩ := evM_ok hM hO hi hj hp (by omega) hx
      refine ⟨e3, fun a ha eg => ?_⟩
      have ex : ec x = (i : Int) * 10 + (j : Int) := by
        unfold ec
        rw [e1, e2]
      rcases (h2 a).mp ha with z | ⟨s, hs, z⟩
      · rcases hb a z with y | ⟨r, s, hr, hs, y⟩
        · omega
        · have := evM_disj hM hO hi hj (by omega) hs hp (by omega) y hx eg
          omega
      · have := evM_disj hM hO hi hj hp (by omega) hp (by omega) z hx eg
        omega)
    refine ⟨h3, fun x => ?_⟩
    show x ∈ stepM (evM S i j p q) (gwQ S i j p q L) ↔ _
    rw [h4 x, h2 x]
    constructor
    · rintro (z | z | ⟨s, hs, z⟩)
      · exact Or.inr ⟨q, by omega, z⟩
      · exact Or.inl z
      · exact Or.inr ⟨s, by omega, z⟩
    · rintro (z | ⟨s, hs, z⟩)
      · exact Or.inr (Or.inl z)
      · rcases Nat.lt_or_ge s q with y | y
        · exact Or.inr (Or.inr ⟨s, by omega, z⟩)
        · have : s = q := by omega
          subst this
          exact Or.inl z
theorem gwP_slm {M : Int} (hM : GM M) {S : FS} {came : Nat} (hO : OKM9 S came) {i j : Nat} (hi : i < came) (hj : j < came) {L : List EV} (hL : SLM M L) (hb : ∀ a, a ∈ L → ec a < (i : Int) * 10 + (j : Int)) :
    ∀ p, p ≤ S.2.2.2.1 i → SLM M (gwP S i j p L) ∧ ∀ x, x ∈ gwP S i j p L ↔ x ∈ L ∨ ∃ r s, r < p ∧ s < S.2.2.2.1 j ∧ evM S i j r s = some x
  | 0, _ => ⟨hL, fun x => ⟨fun h => Or.inl h, fun h => h.elim (fun c => c) (fun ⟨r, s, hr, _⟩ => by omega)⟩⟩
  | p + 1, hp => by
    obtain ⟨h1, h2⟩ := gwP_slm hM hO hi hj hL hb p (by omega)
    obtain ⟨h3, h4⟩ := gwQ_slm hM hO hi hj (show p < S.2.2.2.1 i by omega) h1 (fun a ha => by
      rcases (h2 a).mp ha with z | z
      · exact Or.inl (hb a z)
      · exact Or.inr z) (S.2.2.2.1 j) (Nat.le_refl _)
    refine ⟨h3, fun x => ?_⟩
    show x ∈ gwQ S i j p (S.2.2.2.1 j) (gwP S i j p L) ↔ _
    rw [h4 x, h2 x]
    constructor
    · rintro ((z | ⟨r, s, hr, hs, z⟩) | ⟨s, hs, z⟩)
      · exact Or.inl z
      · exact Or.inr ⟨r, s, by omega, hs, z⟩
      · exact Or.inr ⟨p, s, by omega, hs, z⟩
    · rintro (z | ⟨r, s, hr, hs, z⟩)
      · exact Or.inl (Or.inl z)
      · rcases Nat.lt_or_ge r p with y | y
        · exact Or.inl (Or.inr ⟨r, s, y, hs, z⟩)
        · have : r = p := by omega
          subst this
          exact Or.inr ⟨s, hs, z⟩
theorem gwJ_slm {M : Int} (hM : GM M) {S : FS} {came : Nat} (hO : OKM9 S came) {i : Nat} {L : List EV} (hL : SLM M L) (hb : ∀ a, a ∈ L → a.2.1 < i) :
    ∀ k, i + 1 + k ≤ came → SLM M (gwJ S i k L) ∧ ∀ x, x ∈ gwJ S i k L ↔ x ∈ L ∨ ∃ j r s, (i + 1 ≤ j ∧ j < i + 1 + k) ∧ r < S.2.2.2.1 i ∧ s < S.2.2.2.1 j ∧ evM S i j r s = some x
  | 0, _ => ⟨hL, fun x => ⟨fun h => Or.inl h, fun h => h.elim (fun c => c) (fun ⟨j, _, _, hj, _⟩ => by omega)⟩⟩
  | k + 1, hk => by
    obtain ⟨h1, h2⟩ := gwJ_slm hM hO hL hb k (by omega)
    obtain ⟨h3, h4⟩ := gwP_slm hM hO (show i < came by omega) (show i + 1 + k < came by omega) h1 (fun a ha => by
      rcases (h2 a).mp ha with z | ⟨j, r, s, hj, hr, hs, z⟩
      · have := hb a z
        have e4 := (hL.1 a z).2
        unfold ec
        omega
      · obtain ⟨⟨e4, e5⟩, -⟩ := evM_ok hM hO (show i < came by omega) (show j < came by omega) hr hs z
        unfold ec
        omega) (S.2.2.2.1 i) (Nat.le_refl _)
    refine ⟨h3, fun x => ?_⟩
    show x ∈ gwP S i (i + 1 + k) (S.2.2.2.1 i) (gwJ S i k L) ↔ _
    rw [h4 x, h2 x]
    constructor
    · rintro ((z | ⟨j, r, s, hj, hr, hs, z⟩) | ⟨r, s, hr, hs, z⟩)
      · exact Or.inl z
      · exact Or.inr ⟨j, r, s, by omega, hr, hs, z⟩
      · exact Or.inr ⟨i + 1 + k, r, s, by omega, hr, hs, z⟩
    · rintro (z | ⟨j, r, s, hj, hr, hs, z⟩)
      · exact Or.inl (Or.inl z)
      · rcases Nat.lt_or_ge j (i + 1 + k) with y | y
        · exact Or.inl (Or.inr ⟨j, r, s, by omega, hr, hs, z⟩)
        · have : j = i + 1 + k := by omega
          subst this
          exact Or.inr ⟨r, s, hr, hs, z⟩
theorem gwI_slm {M : Int} (hM : GM M) {S : FS} {came : Nat} (hO : OKM9 S came) :
    ∀ i, i ≤ came → SLM M (gwI S came i) ∧ ∀ x, x ∈ gwI S came i ↔ ∃ a b p q, a < i ∧ (a < b ∧ b < came) ∧ p < S.2.2.2.1 a ∧ q < S.2.2.2.1 b ∧ evM S a b p q = some x
  | 0, _ => ⟨slm_nil M, fun x => ⟨fun h => absurd h List.not_mem_nil, fun ⟨a, b, p, q, h, _⟩ => by omega⟩⟩
  | i + 1, hi => by
    obtain ⟨h1, h2⟩ := gwI_slm hM hO i (by omega)
    obtain ⟨h3, h4⟩ := gwJ_slm (i := i) hM hO h1 (fun a ha => by
      obtain ⟨r, s, p, q, hr, hs, hp, hq, z⟩ := (h2 a).mp ha
      have := (evM_ok hM hO (show r < came by omega) hs.2 hp hq z).1
      omega) (came - (i + 1)) (by omega)
    refine ⟨h3, fun x => ?_⟩
    show x ∈ gwJ S i (came - (i + 1)) (gwI S came i) ↔ _
    rw [h4 x, h2 x]
    constructor
    · rintro (⟨a, b, p, q, h, hab, hp, hq, z⟩ | ⟨j, r, s, hj, hr, hs, z⟩)
      · exact ⟨a, b, p, q, by omega, hab, hp, hq, z⟩
      · exact ⟨i, j, r, s, by omega, by omega, hr, hs, z⟩
    · rintro ⟨a, b, p, q, h, hab, hp, hq, z⟩
      rcases Nat.lt_or_ge a i with y | y
      · exact Or.inl ⟨a, b, p, q, y, hab, hp, hq, z⟩
      · have : a = i := by omega
        subst this
        exact Or.inr ⟨b, p, q, by omega, hp, hq, z⟩
theorem gwL_slm {M : Int} (hM : GM M) {S : FS} {came : Nat} (hO : OKM9 S came) : SLM M (gwL S came) ∧ ∀ x, x ∈ gwL S came ↔ EVX S came x := by
  obtain ⟨h1, h2⟩ := gwI_slm hM hO came (Nat.le_refl _)
  refine ⟨h1, fun x => ?_⟩
  show x ∈ gwI S came came ↔ _
  rw [h2 x]
  constructor
  · rintro ⟨a, b, p, q, h, hab, hp, hq, z⟩
    exact ⟨a, b, p, q, hab.1, hab.2, hp, hq, z⟩
  · rintro ⟨a, b, p, q, h1, h2, hp, hq, z⟩
    exact ⟨a, b, p, q, by omega, ⟨h1, h2⟩, hp, hq, z⟩
theorem EVX.rng {M : Int} (hM : GM M) {S : FS} {came : Nat} (hO : OKM9 S came) {x : EV} (h : EVX S came x) : EOK x ∧ 0 < gz M x.1 ∧ gz M x.1 ≤ 100000 * M := by
  obtain ⟨a, b, p, q, h1, h2, hp, hq, z⟩ := h
  obtain ⟨-, c, d, -⟩ := evM_ok hM hO (show a < came by omega) h2 hp hq z
  exact ⟨c, d⟩
theorem mtB_slm {M : Int} (hM : GM M) {S : FS} {came : Nat} (hO : OKM9 S came) {now : Int} (h0 : 0 ≤ now) (hn : now ≤ 400) : ∀ b, b + 1 ≤ bcF S came now → SLM M (mtB S came now b) ∧ ∀ x, x ∈ mtB S came now b ↔ EVX S came x ∧ gz M x.1 ≤ bndF S came now b * M
  | 0, _ => ⟨slm_nil M, fun x => ⟨fun h => absurd h List.not_mem_nil, fun ⟨h, z⟩ => by
      have := (h.rng hM hO).2.1
      have e : bndF S came now 0 = 0 := rfl
      rw [e] at z
      omega⟩⟩
  | b + 1, hb => by
    obtain ⟨h1, h2⟩ := mtB_slm hM hO h0 hn b (by omega)
    obtain ⟨-, h3, -⟩ := bc_spec (S := S) (came := came) h0 hO.1 hO.n8
    obtain ⟨h4, h5⟩ := bnd_s (h3 b (by omega))
    have h6 := bndF_rng (cst := S.1) (cpl := S.2.1) (csp := S.2.2.1) (cnp := S.2.2.2.1) (cstop := S.2.2.2.2) ⟨hO.1, hO.2.1⟩ (show 0 ≤ now ∧ now ≤ 1000 by omega) b
    have h7 : 0 ≤ bndF S came now b := h6.1
    obtain ⟨g1, g2⟩ := gmL_slm hM hO (f := bndF S came now b) (u := bndF S came now (b + 1)) (nbS_nob S _ came now) h7 h4 (by omega)
    have hmul : bndF S came now b * M ≤ bndF S came now (b + 1) * M := Int.mul_le_mul_of_nonneg_right (by omega) (by have := hM.1; omega)
    refine ⟨slm_app h1 g1 (X := bndF S came now b * M) (fun a ha => ((h2 a).mp ha).2) (fun a ha => ((g2 a).mp ha).2.1), fun x => ?_⟩
    show x ∈ mtB S came now b ++ gmL S (bndF S came now b) (bndF S came now (b + 1)) came ↔ _
    rw [List.mem_append, h2 x, g2 x]
    constructor
    · rintro (⟨z, y⟩ | ⟨z, y1, y2⟩)
      · exact ⟨z, by omega⟩
      · exact ⟨z, y2⟩
    · rintro ⟨z, y⟩
      rcases Int.lt_or_le (bndF S came now b * M) (gz M x.1) with c | c
      · exact Or.inr ⟨z, c, y⟩
      · exact Or.inl ⟨z, c⟩
theorem INVt.nob {S : FS} {came : Nat} {now u : Int} (h : INVt S came now) : NOB S came now u := fun i hi => by
  obtain ⟨a, b⟩ := h i hi
  exact ⟨fun p hp => by have := a p hp; omega, by omega⟩
theorem gw_split {S : FS} {came : Nat} (hO : OKM9 S came) {now : Int} (h0 : 0 ≤ now) (hn : now ≤ 400) (hI : INVt S came now) :
    gwL S came = mtL S came now ++ gmL S now 100000 came ∧ (∀ x, x ∈ mtL S came now → isPa now x = true) ∧ ∀ x, x ∈ gmL S now 100000 came → isPa now x = false := by
  obtain ⟨M, hM⟩ := gm_ex
  obtain ⟨a1, a2⟩ := gwL_slm hM hO
  obtain ⟨h1, -, h3⟩ := bc_spec (S := S) (came := came) h0 hO.1 hO.n8
  obtain ⟨b1, b2⟩ := mtB_slm hM hO h0 hn (bcF S came now - 1) (by omega)
  rw [h3] at b2
  obtain ⟨c1, c2⟩ := gmL_slm hM hO (f := now) (u := 100000) hI.nob h0 (by omega) (by omega)
  have hpa : ∀ x, EVX S came x → (isPa now x = true ↔ gz M x.1 ≤ now * M) := fun x hx => by
    have e := (hx.rng hM hO).1.1
    have := gz_le (s := x.1) (t := now * 256 + 1) hM e.1 (red_int now).1
    rw [gz_int, show (now * 256 + 1) % 256 = 1 by omega, show (now * 256 + 1) / 256 = now by omega, Int.mul_one] at this
    unfold isPa
    rw [decide_eq_true_iff]
    exact this
  refine ⟨slm_uniq a1.2 (slm_app b1 c1 (X := now * M) (fun a ha => ((b2 a).mp ha).2) (fun a ha => ((c2 a).mp ha).2.1)).2 fun x => ?_, fun x hx => ?_, fun x hx => ?_⟩
  · rw [a2 x]
    show _ ↔ x ∈ mtB S came now (bcF S came now - 1) ++ gmL S now 100000 came
    rw [List.mem_append, b2 x, c2 x]
    constructor
    · intro z
      have := (z.rng hM hO).2.2
      rcases Int.lt_or_le (now * M) (gz M x.1) with y | y
      · exact Or.inr ⟨z, y, this⟩
      · exact Or.inl ⟨z, y⟩
    · rintro (z | z)
      · exact z.1
      · exact z.1
  · obtain ⟨z, y⟩ := (b2 x).mp hx
    exact (hpa x z).mpr y
  · obtain ⟨z, y, -⟩ := (c2 x).mp hx
    cases hc : isPa now x with
    | false => rfl
    | true =>
      have := (hpa x z).mp hc
      omega
theorem filter_split {α : Type} {p : α → Bool} {A B : List α} (hA : ∀ x, x ∈ A → p x = true) (hB : ∀ x, x ∈ B → p x = false) : (A ++ B).filter p = A ∧ (A ++ B).takeWhile p = A := by
  constructor
  · rw [List.filter_append, List.filter_eq_self.mpr hA, List.filter_eq_nil_iff.mpr (fun x hx => by rw [hB x hx]; decide), List.append_nil]
  · induction A with
    | nil =>
      cases B with
      | nil => rfl
      | cons b B => 
        rw [List.nil_append, List.takeWhile_cons, hB b List.mem_cons_self]
        rfl
    | cons a A ih =>
      rw [List.cons_append, List.takeWhile_cons, hA a List.mem_cons_self, if_pos rfl, ih (fun x hx => hA x (List.mem_cons_of_mem _ hx))]
theorem cntS_mt (S : FS) (came : Nat) (now : Int) : ∀ b, cntS S came now 0 b = ((mtB S came now b).length : Int) ∧ cntS S came now 1 b = npass (mtB S came now b)
  | 0 => ⟨rfl, rfl⟩
  | b + 1 => by
    obtain ⟨h1, h2⟩ := cntS_mt S came now b
    constructor
    · show cntS S came now 0 b + (if (0 : Int) = 0 then _ else _) = ((mtB S came now b ++ gmL S (bndF S came now b) (bndF S came now (b + 1)) came).length : Int)
      rw [if_pos rfl, List.length_append, h1]
      omega
    · show cntS S came now 1 b + (if (1 : Int) = 0 then _ else _) = npass (mtB S came now b ++ gmL S (bndF S came now b) (bndF S came now (b + 1)) came)
      rw [if_neg (by decide), h2]
      unfold npass
      rw [List.filter_append, List.length_append]
      omega
/-- what the counts and the tellings come to -/
theorem meet_eq {S : FS} {came : Nat} (hO : OKM9 S came) {now : Int} (h0 : 0 ≤ now) (hn : now ≤ 400) (hI : INVt S came now) :
    ((pastN now (gwL S came) : Nat) : Int) = cntS S came now 0 (bcF S came now - 1) ∧ ((passN now (gwL S came) : Nat) : Int) = cntS S came now 1 (bcF S came now - 1) ∧
    ∀ k wh : Int, (if k = -1 then fld ((gwL S came)[pfN now (gwL S came)]?) wh else if 0 ≤ k ∧ k < ((pfN now (gwL S came) : Nat) : Int) then fld ((gwL S came)[k.toNat]?) wh else -1) = (if k = -1 then fld (lkp (gmL S now 100000 came) 0) wh else fld (lkp (mtL S came now) k) wh) := by
  obtain ⟨h1, h2, h3⟩ := gw_split hO h0 hn hI
  obtain ⟨f1, f2⟩ := filter_split h2 h3
  obtain ⟨c1, c2⟩ := cntS_mt S came now (bcF S came now - 1)
  have hpf : pfN now (gwL S came) = (mtL S came now).length := by
    unfold pfN
    rw [h1, f2]
  refine ⟨?_, ?_, fun k wh => ?_⟩
  · rw [c1]
    unfold pastN
    rw [h1, f1]
    rfl
  · rw [c2]
    unfold passN npass
    have : (gwL S came).filter (fun q => isPa now q && q.2.2.2) = (mtL S came now).filter (fun q => q.2.2.2) := by
      rw [← f1, ← h1, List.filter_filter]
      refine List.filter_congr fun x _ => ?_
      exact Bool.and_comm _ _
    rw [this]
    rfl
  · rw [hpf]
    by_cases hk : k = -1
    · rw [if_pos hk, if_pos hk, h1, List.getElem?_append_right (Nat.le_refl _), Nat.sub_self]
      rfl
    · rw [if_neg hk, if_neg hk]
      unfold lkp
      by_cases z : 0 ≤ k ∧ k < ((mtL S came now).length : Int)
      · rw [if_pos z, if_pos z.1, h1, List.getElem?_append_left (by omega)]
      · rw [if_neg z]
        by_cases y : 0 ≤ k
        · rw [if_pos y, List.getElem?_eq_none (by omega)]
          rfl
        · rw [if_neg y]
          rfl
