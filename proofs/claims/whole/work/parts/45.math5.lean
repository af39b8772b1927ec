/-! the model's spans on the grid -/
def HOM (so2 : Int → Int → Bool) : Prop := ∀ n d k : Int, 0 < d → 0 < k → so2 (n * k) (d * k) = so2 n d
def gT (M : Int) (q : TM) : Int := q.1 * (M / q.2)
theorem gT_spec {M : Int} (hM : GM M) {q : TM} (h : 1 ≤ q.2 ∧ q.2 ≤ 20000) : ∃ k : Int, 0 < k ∧ M = q.2 * (2 * k) ∧ gT M q = q.1 * (2 * k) := by
  obtain ⟨k, hk, e⟩ := hM.2 q.2 h.1 h.2
  refine ⟨k, hk, e, ?_⟩
  unfold gT
  congr 1
  rw [e]
  exact Int.mul_ediv_cancel_left _ (by omega)
theorem gT_even {M : Int} (hM : GM M) {q : TM} (h : 1 ≤ q.2 ∧ q.2 ≤ 20000) : gT M q % 2 = 0 := by
  obtain ⟨k, -, -, e⟩ := gT_spec hM h
  rw [e, ← Int.mul_assoc, Int.mul_comm _ 2, Int.mul_assoc]
  omega
theorem so_gT {M : Int} (hM : GM M) {so2 : Int → Int → Bool} (hh : HOM so2) {q : TM} (h : 1 ≤ q.2 ∧ q.2 ≤ 20000) : so2 q.1 q.2 = so2 (gT M q) M := by
  obtain ⟨k, hk, e1, e2⟩ := gT_spec hM h
  rw [e2]
  have : so2 (q.1 * (2 * k)) M = so2 (q.1 * (2 * k)) (q.2 * (2 * k)) := congrArg _ e1
  rw [this]
  exact (hh _ _ _ (by omega) (by omega)).symm
theorem gT_lt {M : Int} (hM : GM M) {a b : TM} (ha : 1 ≤ a.2 ∧ a.2 ≤ 20000) (hb : 1 ≤ b.2 ∧ b.2 ≤ 20000) : a.1 * b.2 < b.1 * a.2 ↔ gT M a < gT M b := by
  obtain ⟨k, hk, e1, e2⟩ := gT_spec hM ha
  obtain ⟨j, hj, e3, e4⟩ := gT_spec hM hb
  rw [e2, e4]
  exact cross_lt (by omega) (by omega) hM.1 e1 e3
theorem gT_eq {M : Int} (hM : GM M) {a b : TM} (ha : 1 ≤ a.2 ∧ a.2 ≤ 20000) (hb : 1 ≤ b.2 ∧ b.2 ≤ 20000) : a.1 * b.2 = b.1 * a.2 ↔ gT M a = gT M b := by
  have h1 := gT_lt hM ha hb
  have h2 := gT_lt hM hb ha
  omega
theorem so_mid {M : Int} (hM : GM M) {so2 : Int → Int → Bool} (hh : HOM so2) {a b : TM} (ha : 1 ≤ a.2 ∧ a.2 ≤ 100) (hb : 1 ≤ b.2 ∧ b.2 ≤ 100) : ∃ m : Int, so2 (a.1 * b.2 + b.1 * a.2) (2 * a.2 * b.2) = so2 m M ∧ 2 * m = gT M a + gT M b := by
  obtain ⟨k, hk, e1, e2⟩ := gT_spec hM (q := a) (by omega)
  obtain ⟨j, hj, e3, e4⟩ := gT_spec hM (q := b) (by omega)
  have h1 := mb3 (a := a.2) (b := b.2) (A := 100) (B := 100) (by omega) (by omega)
  have h2 : 0 < a.2 * b.2 := Int.mul_pos (by omega) (by omega)
  obtain ⟨l, hl, e5⟩ := hM.2 (2 * a.2 * b.2) (by rw [Int.mul_assoc]; omega) (by rw [Int.mul_assoc]; omega)
  refine ⟨(a.1 * b.2 + b.1 * a.2) * (2 * l), ?_, ?_⟩
  · have : so2 ((a.1 * b.2 + b.1 * a.2) * (2 * l)) M = so2 ((a.1 * b.2 + b.1 * a.2) * (2 * l)) (2 * a.2 * b.2 * (2 * l)) := congrArg _ e5
    rw [this]
    exact (hh _ _ _ (by rw [Int.mul_assoc]; omega) (by omega)).symm
  · have f1 : 2 * k = 2 * b.2 * (2 * l) := by
      have : a.2 * (2 * k) = a.2 * (2 * b.2 * (2 * l)) := by rw [← e1, e5]; grind
      exact Int.eq_of_mul_eq_mul_left (by omega) this
    have f2 : 2 * j = 2 * a.2 * (2 * l) := by
      have : b.2 * (2 * j) = b.2 * (2 * a.2 * (2 * l)) := by rw [← e3, e5]; grind
      exact Int.eq_of_mul_eq_mul_left (by omega) this
    rw [e2, e4, f1, f2]
    grind
def ml (M : Int) (V : List SPN) : IL := V.map (fun q => (gT M q.1, gT M q.2))
def OKV (V : List SPN) : Prop := ∀ q, q ∈ V → okT q.1 ∧ okT q.2
theorem okT_d {q : TM} (h : okT q) : 1 ≤ q.2 ∧ q.2 ≤ 20000 := ⟨h.2.1, by have := h.2.2; omega⟩
theorem addS_ml {M : Int} (hM : GM M) {V : List SPN} {a b : TM} (hV : OKV V) (ha : okT a) (hb : okT b) {X : Int} (hS : SEPX (ml M V) X) (hX : X ≤ gT M a) : ml M (addS a b V) = addI (gT M a, gT M b) (ml M V) ∧ OKV (addS a b V) := by
  rcases List.eq_nil_or_concat V with hL | ⟨L0, z, hL⟩
  · subst hL
    refine ⟨rfl, fun z hz => ?_⟩
    rw [show z = (a, b) from List.mem_singleton.mp hz]
    exact ⟨ha, hb⟩
  · rw [List.concat_eq_append] at hL
    subst hL
    have hz := hV z (List.mem_append.mpr (Or.inr (List.mem_singleton.mpr rfl)))
    have e : ml M (L0 ++ [z]) = ml M L0 ++ [(gT M z.1, gT M z.2)] := List.map_append
    have hzX : gT M z.2 ≤ X := hS.2 (gT M z.1, gT M z.2) (by rw [e]; exact List.mem_append.mpr (Or.inr (List.mem_singleton.mpr rfl)))
    have he := gT_eq hM (okT_d hz.2) (okT_d ha)
    rw [addS_c, e, addI_c]
    dsimp only
    by_cases c : gT M a ≤ gT M z.2
    · rw [if_pos (he.mpr (by omega)), if_pos c]
      refine ⟨List.map_append, fun y hy => ?_⟩
      rcases List.mem_append.mp hy with g | g
      · exact hV y (List.mem_append.mpr (Or.inl g))
      · rw [List.mem_singleton.mp g]
        exact ⟨hz.1, hb⟩
    · rw [if_neg (fun y => c (by have := he.mp y; omega)), if_neg c]
      refine ⟨by unfold ml; rw [List.map_append, List.map_append]; rfl, fun y hy => ?_⟩
      rcases List.mem_append.mp hy with g | g
      · exact hV y g
      · rw [List.mem_singleton.mp g]
        exact ⟨ha, hb⟩
theorem fs1_stage {M : Int} (hM : GM M) {so2 : Int → Int → Bool} (hh : HOM so2) {tN tD : Nat → Int} {t : Nat} (ha : okT (tN t, tD t)) {V : List SPN} (hV : OKV V) {X : Int} (hX : X = gT M (tN t, tD t)) (hS : SEPX (ml M V) X) :
    ml M (fs1 so2 tN tD t V) = (if so2 X M = true then addI (X, X) (ml M V) else ml M V) ∧ OKV (fs1 so2 tN tD t V) ∧ SEPX (ml M (fs1 so2 tN tD t V)) X ∧ ∀ s, memI (ml M (fs1 so2 tN tD t V)) s ↔ memI (ml M V) s ∨ (so2 X M = true ∧ s = X) := by
  have hs := so_gT hM hh (okT_d ha)
  dsimp only at hs
  rw [← hX] at hs
  unfold fs1
  by_cases c : so2 X M = true
  · rw [if_pos (by rw [hs]; exact c), if_pos c]
    obtain ⟨b1, b2⟩ := addS_ml hM hV ha ha hS (by rw [hX]; exact Int.le_refl _)
    have ev := gT_even hM (okT_d ha)
    rw [← hX] at ev b1
    obtain ⟨d1, d2⟩ := addI_spec (x := (X, X)) (X1 := X) hS (Int.le_refl _) (Int.le_refl _) (Int.le_refl _) ev ev
    rw [b1]
    refine ⟨rfl, b2, d1, fun s => ?_⟩
    rw [d2]
    dsimp only
    constructor
    · rintro (g | g)
      · exact Or.inl g
      · exact Or.inr ⟨c, by omega⟩
    · rintro (g | g)
      · exact Or.inl g
      · exact Or.inr (by omega)
  · rw [if_neg (by rw [hs]; exact c), if_neg c]
    exact ⟨rfl, hV, hS, fun s => ⟨Or.inl, fun g => g.elim id (fun g => absurd g.1 c)⟩⟩
theorem fs_stage {M : Int} (hM : GM M) {so2 : Int → Int → Bool} (hh : HOM so2) {tm : Nat} {tN tD : Nat → Int} {t : Nat} (ht : t + 1 < tm) (ha : okT (tN t, tD t)) (hb : okT (tN (t + 1), tD (t + 1))) {V : List SPN} (hV : OKV V) (hI : INV (fun s => so2 s M) (ml M V) (gT M (tN t, tD t))) (h0 : 0 ≤ gT M (tN t, tD t)) (hs0 : so2 (-1) M = false)
    (hlt : gT M (tN t, tD t) < gT M (tN (t + 1), tD (t + 1))) (hc : ∀ s s', gT M (tN t, tD t) < s → s < gT M (tN (t + 1), tD (t + 1)) → gT M (tN t, tD t) < s' → s' < gT M (tN (t + 1), tD (t + 1)) → so2 s M = so2 s' M) (hr : so2 (gT M (tN t, tD t) + 1) M = true → so2 (gT M (tN t, tD t)) M = true) :
    OKV (fs2 so2 tm tN tD t (fs1 so2 tN tD t V)) ∧ INV (fun s => so2 s M) (ml M (fs2 so2 tm tN tD t (fs1 so2 tN tD t V))) (gT M (tN (t + 1), tD (t + 1))) := by
  obtain ⟨-, b2, b3, b4⟩ := fs1_stage hM hh ha hV rfl hI.1
  obtain ⟨m, e1, e2⟩ := so_mid hM hh (a := (tN t, tD t)) (b := (tN (t + 1), tD (t + 1))) ha.2 hb.2
  have evX := gT_even hM (okT_d ha)
  have evY := gT_even hM (okT_d hb)
  have em : so2 (tN t * tD (t + 1) + tN (t + 1) * tD t) (2 * tD t * tD (t + 1)) = so2 m M := e1
  generalize hX : gT M (tN t, tD t) = X at *
  generalize hY : gT M (tN (t + 1), tD (t + 1)) = Y at *
  generalize hV1 : fs1 so2 tN tD t V = V1 at *
  have hm1 : X < m := by omega
  have hm2 : m < Y := by omega
  have hmX : so2 m M = true → so2 X M = true := fun z => hr (by rw [hc (X + 1) m (by omega) (by omega) hm1 hm2]; exact z)
  have key : ∀ V2 : List SPN, SEPX (ml M V2) Y → (∀ s, memI (ml M V2) s ↔ memI (ml M V1) s ∨ (so2 m M = true ∧ X ≤ s ∧ s ≤ Y)) → INV (fun s => so2 s M) (ml M V2) Y := fun V2 k1 k2 => by
    refine inv_step (so := fun s => so2 s M) (A := fun s => (so2 X M = true ∧ s = X) ∨ (so2 m M = true ∧ X ≤ s ∧ s ≤ Y)) hI h0 hlt hs0 (fun s h1 h2 => ?_) (fun s h => ?_) (fun s e h1 h2 h => ?_) (fun h => ?_) k1 (fun s => ?_) evY evX
    · by_cases z : s = X
      · subst z
        exact ⟨fun y => Or.inl ⟨y, rfl⟩, fun y => y.elim (fun y => y.1) (fun y => hmX y.1)⟩
      · rw [hc s m (by omega) h2 hm1 hm2]
        exact ⟨fun y => Or.inr ⟨y, h1, by omega⟩, fun y => y.elim (fun y => absurd y.2 z) (fun y => y.1)⟩
    · rcases h with h | h
      · omega
      · omega
    · rcases h with h | h
      · omega
      · exact Or.inr ⟨h.1, by omega, h2⟩
    · rcases h with h | h
      · omega
      · exact Or.inr ⟨h.1, by omega, by omega⟩
    · rw [k2, b4, or_assoc]
  unfold fs2
  by_cases c : so2 m M = true
  · rw [if_pos ⟨ht, by rw [em]; exact c⟩]
    obtain ⟨d1, d2⟩ := addS_ml hM b2 ha hb b3 (by rw [hX]; exact Int.le_refl _)
    rw [hX, hY] at d1
    obtain ⟨f1, f2⟩ := addI_spec (x := (X, Y)) (X1 := Y) b3 (Int.le_refl _) (by dsimp only; omega) (Int.le_refl _) evX evY
    refine ⟨d2, key _ (by rw [d1]; exact f1) (fun s => ?_)⟩
    rw [d1, f2]
    exact ⟨fun z => z.elim Or.inl (fun z => Or.inr ⟨c, z⟩), fun z => z.elim Or.inl (fun z => Or.inr z.2)⟩
  · rw [if_neg (fun z => c (by rw [← em]; exact z.2))]
    exact ⟨b2, key _ ⟨b3.1, fun q hq => by have := b3.2 q hq; omega⟩ (fun s => ⟨Or.inl, fun z => z.elim id (fun z => absurd z.1 c)⟩)⟩
/-- what a list of times must be -/
def TLP (M : Int) (so : Int → Bool) (E : Int) (tm : Nat) (tN tD : Nat → Int) : Prop := 1 ≤ tm ∧ (∀ t, t < tm → okT (tN t, tD t)) ∧ gT M (tN 0, tD 0) = 0 ∧ gT M (tN (tm - 1), tD (tm - 1)) = E ∧ ∀ t, t + 1 < tm → gT M (tN t, tD t) < gT M (tN (t + 1), tD (t + 1)) ∧ (∀ s s', gT M (tN t, tD t) < s → s < gT M (tN (t + 1), tD (t + 1)) → gT M (tN t, tD t) < s' → s' < gT M (tN (t + 1), tD (t + 1)) → so s = so s') ∧ (so (gT M (tN t, tD t) + 1) = true → so (gT M (tN t, tD t)) = true)
theorem fs_fin {M : Int} (hM : GM M) {so2 : Int → Int → Bool} (hh : HOM so2) {tm : Nat} {tN tD : Nat → Int} {E : Int} (h : TLP M (fun s => so2 s M) E tm tN tD) (hs0 : so2 (-1) M = false) : OKV (fsF so2 tm tN tD tm) ∧ FIN (fun s => so2 s M) (ml M (fsF so2 tm tN tD tm)) E := by
  obtain ⟨h1, h2, h3, h4, h5⟩ := h
  have hpos : ∀ t, t < tm → 0 ≤ gT M (tN t, tD t) := fun t => by
    induction t with
    | zero => exact fun _ => by omega
    | succ t ih =>
      intro ht
      have := ih (by omega)
      have := (h5 t ht).1
      omega
  have key : ∀ t, t < tm → OKV (fsF so2 tm tN tD t) ∧ INV (fun s => so2 s M) (ml M (fsF so2 tm tN tD t)) (gT M (tN t, tD t)) := fun t => by
    induction t with
    | zero =>
      intro _
      refine ⟨fun q hq => absurd hq List.not_mem_nil, ?_⟩
      rw [h3]
      exact inv_0 _
    | succ t ih =>
      intro ht
      obtain ⟨k1, k2⟩ := ih (by omega)
      obtain ⟨k3, k4, k5⟩ := h5 t ht
      exact fs_stage hM hh ht (h2 t (by omega)) (h2 (t + 1) ht) k1 k2 (hpos t (by omega)) hs0 k3 k4 k5
  obtain ⟨n, hn⟩ : ∃ n, tm = n + 1 := ⟨tm - 1, by omega⟩
  obtain ⟨k1, k2⟩ := key n (by omega)
  obtain ⟨b1, b2, b3, b4⟩ := fs1_stage hM hh (h2 n (by omega)) k1 rfl k2.1
  have e : fsF so2 tm tN tD tm = fs1 so2 tN tD n (fsF so2 tm tN tD n) := by
    have : fsF so2 tm tN tD (n + 1) = fs2 so2 tm tN tD n (fs1 so2 tN tD n (fsF so2 tm tN tD n)) := rfl
    rw [show fsF so2 tm tN tD tm = fsF so2 tm tN tD (n + 1) from congrArg _ hn, this]
    exact if_neg (fun z => by omega)
  rw [e]
  refine ⟨b2, ?_⟩
  rw [b1]
  rw [hn, show n + 1 - 1 = n by omega] at h4
  rw [h4] at k2 ⊢
  have := gT_even hM (okT_d (h2 n (by omega)))
  rw [h4] at this
  exact fin_step k2 (by have := hpos n (by omega); omega) this hs0
