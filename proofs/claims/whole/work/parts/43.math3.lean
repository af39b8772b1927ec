/-! what the class keeps of a stretch, on the grid -/
def OKD (q : ST) : Prop := RED q.1 ∧ RED q.2.1
def inQ (M : Int) (q : ST) (t : Int) : Prop := q.2.2 = 0 ∧ gz M q.1 ≤ t ∧ t ≤ gz M q.2.1
theorem mul_le_iff {g a b : Int} (hg : 0 < g) : g * a ≤ g * b ↔ a ≤ b := ⟨fun h => Int.le_of_mul_le_mul_left h hg, fun h => Int.mul_le_mul_of_nonneg_left h (by omega)⟩
theorem lin_pos {M f va gr bd t e : Int} (hg : 0 < gr) (he : e * gr = (f * gr + (bd - va)) * M) : va * M + gr * (t - f * M) ≤ bd * M ↔ t ≤ e := by
  rw [← mul_le_iff (a := t) (b := e) hg]
  have e1 : gr * e = (f * gr + (bd - va)) * M := by rw [Int.mul_comm]; exact he
  have e2 : (f * gr + (bd - va)) * M = f * M * gr + bd * M - va * M := by grind
  have e3 : gr * (t - f * M) = gr * t - f * M * gr := by grind
  omega
theorem lin_neg {M f va gr bd t e : Int} (hg : gr < 0) (he : e * -gr = (f * -gr + (va - bd)) * M) : va * M + gr * (t - f * M) ≤ bd * M ↔ e ≤ t := by
  rw [← mul_le_iff (a := e) (b := t) (show 0 < -gr by omega)]
  have e1 : -gr * e = (f * -gr + (va - bd)) * M := by rw [Int.mul_comm]; exact he
  have e2 : (f * -gr + (va - bd)) * M = -(f * M * gr) + va * M - bd * M := by grind
  have e3 : gr * (t - f * M) = gr * t - f * M * gr := by grind
  have e4 : -gr * t = -(gr * t) := by grind
  omega
theorem ka_sp {M : Int} (hM : GM M) {f va gr bd : Int} {q : ST} (h : OKD q) (hg : -200 ≤ gr ∧ gr ≤ 200) : OKD (ka f va gr bd q) ∧ gz M q.1 ≤ gz M (ka f va gr bd q).1 ∧ gz M (ka f va gr bd q).2.1 ≤ gz M q.2.1 ∧ ∀ t, inQ M (ka f va gr bd q) t ↔ inQ M q t ∧ va * M + gr * (t - f * M) ≤ bd * M := by
  obtain ⟨h1, h2⟩ := h
  rcases Int.lt_trichotomy gr 0 with z | z | z
  · obtain ⟨-, -, -, -, hr⟩ := frac_parts (u := f * -gr + (va - bd)) (lo := -gr) (by omega)
    have he := gz_frac (u := f * -gr + (va - bd)) (lo := -gr) hM (by omega)
    have hl := gz_lt hM h1.1 hr.1
    have e2 : (ka f va gr bd q).2.1 = q.2.1 := if_neg (fun y => by have := y.1; omega)
    have e3 : (ka f va gr bd q).2.2 = q.2.2 := if_neg (fun y => by have := y.1; omega)
    by_cases c : gz M q.1 < gz M (frac (f * -gr + (va - bd)) (-gr))
    · have e1 : (ka f va gr bd q).1 = frac (f * -gr + (va - bd)) (-gr) := if_pos ⟨z, hl.mpr c⟩
      refine ⟨⟨by rw [e1]; exact hr, by rw [e2]; exact h2⟩, by rw [e1]; omega, by rw [e2]; omega, fun t => ?_⟩
      unfold inQ
      rw [e1, e2, e3, lin_neg z he]
      omega
    · have e1 : (ka f va gr bd q).1 = q.1 := if_neg (fun y => c (hl.mp y.2))
      refine ⟨⟨by rw [e1]; exact h1, by rw [e2]; exact h2⟩, by rw [e1]; omega, by rw [e2]; omega, fun t => ?_⟩
      unfold inQ
      rw [e1, e2, e3, lin_neg z he]
      omega
  · have e1 : (ka f va gr bd q).1 = q.1 := if_neg (fun y => by have := y.1; omega)
    have e2 : (ka f va gr bd q).2.1 = q.2.1 := if_neg (fun y => by have := y.1; omega)
    refine ⟨⟨by rw [e1]; exact h1, by rw [e2]; exact h2⟩, by rw [e1]; omega, by rw [e2]; omega, fun t => ?_⟩
    unfold inQ
    rw [e1, e2, z, Int.zero_mul, Int.add_zero, ← z]
    have hc : va * M ≤ bd * M ↔ va ≤ bd := by
      rw [Int.mul_comm va, Int.mul_comm bd]
      exact mul_le_iff hM.1
    by_cases c : bd < va
    · rw [show (ka f va gr bd q).2.2 = 1 from if_pos ⟨z, c⟩]
      omega
    · rw [show (ka f va gr bd q).2.2 = q.2.2 from if_neg (fun y => c y.2)]
      omega
  · obtain ⟨-, -, -, -, hr⟩ := frac_parts (u := f * gr + (bd - va)) (lo := gr) (by omega)
    have he := gz_frac (u := f * gr + (bd - va)) (lo := gr) hM (by omega)
    have hl := gz_lt hM hr.1 h2.1
    have e1 : (ka f va gr bd q).1 = q.1 := if_neg (fun y => by have := y.1; omega)
    have e3 : (ka f va gr bd q).2.2 = q.2.2 := if_neg (fun y => by have := y.1; omega)
    by_cases c : gz M (frac (f * gr + (bd - va)) gr) < gz M q.2.1
    · have e2 : (ka f va gr bd q).2.1 = frac (f * gr + (bd - va)) gr := if_pos ⟨z, hl.mpr c⟩
      refine ⟨⟨by rw [e1]; exact h1, by rw [e2]; exact hr⟩, by rw [e1]; omega, by rw [e2]; omega, fun t => ?_⟩
      unfold inQ
      rw [e1, e2, e3, lin_pos z he]
      omega
    · have e2 : (ka f va gr bd q).2.1 = q.2.1 := if_neg (fun y => c (hl.mp y.2))
      refine ⟨⟨by rw [e1]; exact h1, by rw [e2]; exact h2⟩, by rw [e1]; omega, by rw [e2]; omega, fun t => ?_⟩
      unfold inQ
      rw [e1, e2, e3, lin_pos z he]
      omega
/-- the class's spans on the grid -/
def gl (M : Int) (L : List (Int × Int)) : IL := L.map (fun z => (gz M z.1, gz M z.2))
def REDL (L : List (Int × Int)) : Prop := ∀ z, z ∈ L → RED z.1 ∧ RED z.2
theorem gl_inj {M : Int} (hM : GM M) : ∀ {L Q : List (Int × Int)}, REDL L → REDL Q → gl M L = gl M Q → L = Q
  | [], [], _, _, _ => rfl
  | [], c :: Q, _, _, h => by cases h
  | a :: L, [], _, _, h => by cases h
  | a :: L, c :: Q, h1, h2, h => by
    have h3 : (gz M a.1, gz M a.2) = (gz M c.1, gz M c.2) ∧ gl M L = gl M Q := by
      have := List.cons.inj h
      exact this
    obtain ⟨h3, h4⟩ := h3
    have e1 := red_inj hM (h1 a List.mem_cons_self).1 (h2 c List.mem_cons_self).1 (congrArg Prod.fst h3)
    have e2 := red_inj hM (h1 a List.mem_cons_self).2 (h2 c List.mem_cons_self).2 (congrArg Prod.snd h3)
    rw [Prod.ext e1 e2, gl_inj hM (fun z hz => h1 z (List.mem_cons_of_mem _ hz)) (fun z hz => h2 z (List.mem_cons_of_mem _ hz)) h4]
theorem addP_c (x : Int × Int) (L0 : List (Int × Int)) (z : Int × Int) : addP x (L0 ++ [z]) = if x.1 / 256 * (z.2 % 256) ≤ z.2 / 256 * (x.1 % 256) then L0 ++ [(z.1, x.2)] else L0 ++ [z] ++ [x] := by
  unfold addP
  rw [List.getLast?_append]
  show (if _ then _ else _) = _
  rw [List.dropLast_concat]
  rfl
theorem addP_gl {M : Int} (hM : GM M) {L : List (Int × Int)} {x : Int × Int} (h : REDL L) (h1 : RED x.1) (h2 : RED x.2) : gl M (addP x L) = addI (gz M x.1, gz M x.2) (gl M L) ∧ REDL (addP x L) := by
  rcases List.eq_nil_or_concat L with hL | ⟨L0, z, hL⟩
  · subst hL
    refine ⟨rfl, fun z hz => ?_⟩
    rw [show z = x from List.mem_singleton.mp hz]
    exact ⟨h1, h2⟩
  · rw [List.concat_eq_append] at hL
    subst hL
    have hz := h z (List.mem_append.mpr (Or.inr (List.mem_singleton.mpr rfl)))
    have hle := gz_le hM h1.1 hz.2.1
    have e : gl M (L0 ++ [z]) = gl M L0 ++ [(gz M z.1, gz M z.2)] := List.map_append
    rw [addP_c, e, addI_c]
    dsimp only
    by_cases c : gz M x.1 ≤ gz M z.2
    · rw [if_pos (hle.mpr c), if_pos c]
      refine ⟨List.map_append, fun y hy => ?_⟩
      rcases List.mem_append.mp hy with g | g
      · exact h y (List.mem_append.mpr (Or.inl g))
      · rw [List.mem_singleton.mp g]
        exact ⟨hz.1, h2⟩
    · rw [if_neg (fun y => c (hle.mp y)), if_neg c]
      refine ⟨by unfold gl; rw [List.map_append, List.map_append]; rfl, fun y hy => ?_⟩
      rcases List.mem_append.mp hy with g | g
      · exact h y g
      · rw [List.mem_singleton.mp g]
        exact ⟨h1, h2⟩
/-- what a stretch's keeping must do -/
def QFP (M : Int) (S : FS) (came : Nat) (so : Int → Bool) (qf : Int → ST → ST) : Prop := ∀ f u : Int, 0 ≤ f → f < u → NOB S came f u → ∀ q : ST, OKD q → OKD (qf f q) ∧ gz M q.1 ≤ gz M (qf f q).1 ∧ gz M (qf f q).2.1 ≤ gz M q.2.1 ∧ ∀ t, f * M ≤ t → t < u * M → (inQ M (qf f q) t ↔ inQ M q t ∧ so t = true)
theorem q0_okd (f u : Int) : OKD (f * 256 + 1, u * 256 + 1, 0) := ⟨red_int f, red_int u⟩
theorem q0_in {M f u t : Int} : inQ M (f * 256 + 1, u * 256 + 1, 0) t ↔ f * M ≤ t ∧ t ≤ u * M := by
  unfold inQ
  dsimp only
  rw [gz_int, gz_int]
  exact ⟨fun h => h.2, fun h => ⟨rfl, h⟩⟩
theorem soB_iff {M f u : Int} (hM : GM M) {q : ST} (h : OKD q) : soB f (u * 256 + 1) q = true ↔ q.2.2 = 0 ∧ ¬ (gz M q.1 = u * M ∧ f ≠ u) ∧ gz M q.1 ≤ gz M q.2.1 := by
  unfold soB
  rw [decide_eq_true_iff, gz_le hM h.1.1 h.2.1, show (u * 256 + 1) / 256 = u by omega]
  have e : q.1 = u * 256 + 1 ↔ gz M q.1 = u * M := by
    constructor
    · intro z
      rw [z, gz_int]
    · intro z
      exact red_inj hM h.1 (red_int u) (by rw [gz_int]; exact z)
  rw [e]
theorem sp_stage {M : Int} (hM : GM M) {S : FS} {came : Nat} {so : Int → Bool} {qf : Int → ST → ST} (hq : QFP M S came so qf) (hs0 : so (-1) = false) {f u : Int} (hf : 0 ≤ f) (hfu : f < u) (hN : NOB S came f u) {L : List (Int × Int)} (hR : REDL L) (hI : INV so (gl M L) (f * M)) :
    REDL (if soB f (u * 256 + 1) (qf f (f * 256 + 1, u * 256 + 1, 0)) = true then addP ((qf f (f * 256 + 1, u * 256 + 1, 0)).1, (qf f (f * 256 + 1, u * 256 + 1, 0)).2.1) L else L) ∧ INV so (gl M (if soB f (u * 256 + 1) (qf f (f * 256 + 1, u * 256 + 1, 0)) = true then addP ((qf f (f * 256 + 1, u * 256 + 1, 0)).1, (qf f (f * 256 + 1, u * 256 + 1, 0)).2.1) L else L)) (u * M) := by
  obtain ⟨k1, k2, k3, k4⟩ := hq f u hf hfu hN _ (q0_okd f u)
  generalize qf f (f * 256 + 1, u * 256 + 1, 0) = q at *
  have k5 : f * M ≤ gz M q.1 := by have := k2; dsimp only at this; rw [gz_int] at this; exact this
  have k6 : gz M q.2.1 ≤ u * M := by have := k3; dsimp only at this; rw [gz_int] at this; exact this
  have hlt : f * M < u * M := Int.mul_lt_mul_of_pos_right hfu hM.1
  have hF : 0 ≤ f * M := Int.mul_nonneg hf (by have := hM.1; omega)
  have ev1 := gz_even hM k1.1.1
  have ev2 := gz_even hM k1.2.1
  have hA : ∀ t, f * M ≤ t → t < u * M → (so t = true ↔ inQ M q t) := fun t h1 h2 => by
    rw [k4 t h1 h2, q0_in]
    exact ⟨fun z => ⟨⟨h1, by omega⟩, z⟩, fun z => z.2⟩
  by_cases c : soB f (u * 256 + 1) q = true
  · rw [if_pos c]
    have c2 := (soB_iff hM k1).mp c
    obtain ⟨a1, a2⟩ := addP_gl hM hR (x := (q.1, q.2.1)) k1.1 k1.2
    refine ⟨a2, ?_⟩
    rw [a1]
    obtain ⟨b1, b2⟩ := addI_spec (x := (gz M q.1, gz M q.2.1)) (X1 := u * M) hI.1 k5 c2.2.2 k6 ev1 ev2
    refine inv_step (A := inQ M q) hI hF hlt hs0 hA (fun t h => ⟨by have := h.2.1; omega, by have := h.2.2; omega⟩) (fun t e h1 h2 h => ⟨h.1, by have := h.2.1; omega, by have := h.2.2; omega⟩) (fun h => ?_) b1 (fun t => ?_) (mulM_even hM u) (mulM_even hM f)
    · refine ⟨h.1, ?_, by have := h.2.2; omega⟩
      by_cases z : gz M q.1 = u * M
      · exact absurd ⟨z, by omega⟩ c2.2.1
      · have := h.2.1
        omega
    · rw [b2]
      unfold inQ
      exact ⟨fun z => z.elim Or.inl (fun z => Or.inr ⟨c2.1, z⟩), fun z => z.elim Or.inl (fun z => Or.inr z.2)⟩
  · rw [if_neg c]
    refine ⟨hR, ?_⟩
    refine inv_step (A := fun _ => False) hI hF hlt hs0 (fun t h1 h2 => ⟨fun z => ?_, fun z => z.elim⟩) (fun t h => h.elim) (fun t _ _ _ h => h) (fun h => h) ⟨hI.1.1, fun z hz => by have := hI.1.2 z hz; omega⟩ (fun t => ⟨Or.inl, fun z => z.elim id False.elim⟩) (mulM_even hM u) (mulM_even hM f)
    have h3 := (hA t h1 h2).mp z
    exact c ((soB_iff hM k1).mpr ⟨h3.1, fun y => by have := h3.2.1; omega, by have := h3.2; omega⟩)
theorem sp_last {M : Int} (hM : GM M) {S : FS} {came : Nat} {so : Int → Bool} {qf : Int → ST → ST} (hq : QFP M S came so qf) (hs0 : so (-1) = false) {f : Int} (hf : 0 ≤ f) {L : List (Int × Int)} (hR : REDL L) (hI : INV so (gl M L) (f * M)) :
    REDL (if soB f (f * 256 + 1) (qf f (f * 256 + 1, f * 256 + 1, 0)) = true then addP ((qf f (f * 256 + 1, f * 256 + 1, 0)).1, (qf f (f * 256 + 1, f * 256 + 1, 0)).2.1) L else L) ∧ FIN so (gl M (if soB f (f * 256 + 1) (qf f (f * 256 + 1, f * 256 + 1, 0)) = true then addP ((qf f (f * 256 + 1, f * 256 + 1, 0)).1, (qf f (f * 256 + 1, f * 256 + 1, 0)).2.1) L else L)) (f * M) := by
  have hN : NOB S came f (f + 1) := fun i hi => ⟨fun p hp z => by omega, fun z => by omega⟩
  obtain ⟨k1, k2, k3, k4⟩ := hq f (f + 1) hf (by omega) hN _ (q0_okd f f)
  generalize qf f (f * 256 + 1, f * 256 + 1, 0) = q at *
  have k5 : f * M ≤ gz M q.1 := by have := k2; dsimp only at this; rw [gz_int] at this; exact this
  have k6 : gz M q.2.1 ≤ f * M := by have := k3; dsimp only at this; rw [gz_int] at this; exact this
  have hF : 0 ≤ f * M := Int.mul_nonneg hf (by have := hM.1; omega)
  have hlt : f * M < (f + 1) * M := Int.mul_lt_mul_of_pos_right (by omega) hM.1
  have h0 := k4 (f * M) (Int.le_refl _) hlt
  rw [q0_in] at h0
  have hfin := fin_step hI hF (mulM_even hM f) hs0
  by_cases c : soB f (f * 256 + 1) q = true
  · have c2 := (soB_iff hM k1).mp c
    have e1 : gz M q.1 = f * M := by have := c2.2.2; omega
    have e2 : gz M q.2.1 = f * M := by have := c2.2.2; omega
    have hs : so (f * M) = true := (h0.mp ⟨c2.1, by omega, by omega⟩).2
    obtain ⟨a1, a2⟩ := addP_gl hM hR (x := (q.1, q.2.1)) k1.1 k1.2
    rw [if_pos c]
    refine ⟨a2, ?_⟩
    rw [a1]
    rw [if_pos hs] at hfin
    dsimp only
    rw [e1, e2]
    exact hfin
  · rw [if_neg c]
    refine ⟨hR, ?_⟩
    have hs : ¬ so (f * M) = true := fun z => by
      have h3 := h0.mpr ⟨⟨Int.le_refl _, Int.le_refl _⟩, z⟩
      exact c ((soB_iff hM k1).mpr ⟨h3.1, fun y => y.2 rfl, by have := h3.2; omega⟩)
    rw [if_neg hs] at hfin
    exact hfin
theorem sp_fin {M : Int} (hM : GM M) {S : FS} {came : Nat} {so : Int → Bool} {qf : Int → ST → ST} (hq : QFP M S came so qf) (hs0 : so (-1) = false) {la : Int} (hla : 0 ≤ la) (hc : came ≤ 10) (hn : ∀ i, i < came → S.2.2.2.1 i ≤ 8) : REDL (spL S came la qf (bcF S came la)) ∧ FIN so (gl M (spL S came la qf (bcF S came la))) (la * M) := by
  obtain ⟨b1, b2, b3⟩ := bc_spec (S := S) hla hc hn
  have b0 : ∀ k, k < bcF S came la → 0 ≤ bndF S came la k := fun k => by
    induction k with
    | zero => exact fun _ => Int.le_refl _
    | succ k ih =>
      intro hk
      have h1 := ih (by omega)
      have h2 := bnd_s (b2 k hk)
      omega
  have key : ∀ b, b + 1 ≤ bcF S came la → REDL (spL S came la qf b) ∧ INV so (gl M (spL S came la qf b)) (bndF S came la b * M) := fun b => by
    induction b with
    | zero =>
      intro _
      refine ⟨fun z hz => absurd hz List.not_mem_nil, ?_⟩
      rw [show bndF S came la 0 * M = 0 from Int.zero_mul M]
      exact inv_0 so
    | succ b ih =>
      intro hb
      obtain ⟨h1, h2⟩ := ih (by omega)
      have h3 := b2 b (by omega)
      have h4 := bnd_s h3
      have e : nxB S came la b = bndF S came la (b + 1) := if_pos (by omega)
      have h5 := sp_stage hM hq hs0 (b0 b (by omega)) h4.1 (nbS_nob S (bndF S came la b) came la) h1 h2
      unfold spL
      rw [e]
      exact h5
  obtain ⟨n, hn1⟩ : ∃ n, bcF S came la = n + 1 := ⟨bcF S came la - 1, by omega⟩
  obtain ⟨h1, h2⟩ := key n (by omega)
  rw [hn1] at b3 ⊢
  rw [show n + 1 - 1 = n by omega] at b3
  have e : nxB S came la n = bndF S came la n := if_neg (by omega)
  have h5 := sp_last hM hq hs0 (by rw [b3]; exact hla) h1 h2
  unfold spL
  rw [e]
  rw [b3] at h5 ⊢
  exact h5
