/-! the sweep over a crowd -/
theorem swI_res {M : Int} (hM : GM M) {cb : Nat → Int} {sz : Nat} {ed d : Int} (hcb : ∀ k, k < sz → 1 ≤ cb k % 256) (hed : 1 ≤ ed % 256) : ∀ (n g : Nat) (bg : Int), sz - g = n → g ≤ sz → ∃ g2 : Nat, swI cb sz ed d (sz - g) g bg = (g2, if (g : Int) < d ∧ d ≤ (g2 : Int) then cb (d - 1).toNat else bg) ∧ g ≤ g2 ∧ g2 ≤ sz ∧ (∀ k, g ≤ k → k < g2 → gz M (cb k) ≤ gz M ed) ∧ (g2 = sz ∨ gz M ed < gz M (cb g2))
  | 0, g, bg, hn, hg => by
    refine ⟨g, ?_, Nat.le_refl _, hg, fun k a b => absurd b (by omega), Or.inl (by omega)⟩
    rw [swI_end (Or.inl (by omega)), if_neg (by omega)]
  | n + 1, g, bg, hn, hg => by
    have hlt : g < sz := by omega
    have hle := gz_le hM (hcb g hlt) hed
    by_cases c : gz M (cb g) ≤ gz M ed
    · rw [swI_go hlt (hle.mpr c)]
      obtain ⟨g2, h1, h2, h3, h4, h5⟩ := swI_res (d := d) hM hcb hed n (g + 1) (if ((g + 1 : Nat) : Int) = d then cb g else bg) (by omega) (by omega)
      refine ⟨g2, ?_, by omega, h3, fun k a b => ?_, h5⟩
      · rw [h1]
        congr 1
        by_cases z : ((g + 1 : Nat) : Int) = d
        · rw [if_neg (by omega), if_pos z, if_pos (by omega)]
          congr 1
          omega
        · rw [if_neg z]
          by_cases y : (g : Int) < d ∧ d ≤ (g2 : Int)
          · rw [if_pos y, if_pos (by omega)]
          · rw [if_neg y, if_neg (by omega)]
      · by_cases z : k = g
        · rw [z]; exact c
        · exact h4 k (by omega) b
    · refine ⟨g, ?_, Nat.le_refl _, hg, fun k a b => absurd b (by omega), Or.inr (by omega)⟩
      rw [swI_end (Or.inr (fun z => c (hle.mp z))), if_neg (by omega)]
/-- one end's share of the times with enough of the crowd -/
def Sg (M : Int) (cb ce : Nat → Int) (n : Nat) (mm : Nat) (x : Nat) (t : Int) : Prop := (x = 0 ∨ gz M (ce (x - 1)) < t) ∧ t ≤ gz M (ce x) ∧ mm + x - 1 < n ∧ gz M (cb (mm + x - 1)) ≤ t
theorem sw_inv {M : Int} (hM : GM M) {cb ce : Nat → Int} {n mm : Nat} {X X1 : Int} {L : List (Int × Int)} (hmm : 1 ≤ mm) (hcb : ∀ k, k < n → RED (cb k) ∧ X ≤ gz M (cb k)) (hce : ∀ k, k < n → RED (ce k) ∧ gz M (ce k) ≤ X1) (hsb : ∀ i j, i ≤ j → j < n → gz M (cb i) ≤ gz M (cb j)) (hse : ∀ i j, i ≤ j → j < n → gz M (ce i) ≤ gz M (ce j)) (hXX : X ≤ X1) (hXe : ∀ k, k < n → X ≤ gz M (ce k)) (hR : REDL L) (hS : SEPX (gl M L) X) :
    ∀ x, x ≤ n → ∃ (g : Nat) (bg : Int) (L2 : List (Int × Int)) (Z : Int), swO n cb ce (mm : Int) L x = (g, bg, L2) ∧ g ≤ n ∧ (x = 0 → g = 0) ∧ (0 < x → ∀ k, k < n → (gz M (cb k) ≤ gz M (ce (x - 1)) ↔ k < g)) ∧ REDL L2 ∧ SEPX (gl M L2) Z ∧ (x + mm ≤ g → 0 < x ∧ Z ≤ gz M bg ∧ gz M bg ≤ gz M (ce (x - 1)) ∧ RED bg) ∧ (¬ x + mm ≤ g → Z ≤ (if x = 0 then X else gz M (ce (x - 1)))) ∧ ∀ t, (memI (gl M L2) t ∨ (x + mm ≤ g ∧ gz M bg ≤ t ∧ t ≤ gz M (ce (x - 1)))) ↔ (memI (gl M L) t ∨ ∃ y, y < x ∧ Sg M cb ce n mm y t)
  | 0, _ => ⟨0, 0, L, X, rfl, Nat.zero_le _, fun _ => rfl, fun h => absurd h (Nat.lt_irrefl 0), hR, hS, fun h => by omega, fun _ => by rw [if_pos rfl]; exact Int.le_refl _, fun t => ⟨fun h => h.elim Or.inl (fun h => by omega), fun h => h.elim Or.inl (fun h => by obtain ⟨y, hy, -⟩ := h; omega)⟩⟩
  | x + 1, hx => by
    obtain ⟨g, bg, L2, Z, e0, hg, hg0, hgc, hR2, hS2, hop, hcl, hmem⟩ := sw_inv hM hmm hcb hce hsb hse hXX hXe hR hS x (by omega)
    have hxn : x < n := by omega
    obtain ⟨g2, e1, k1, k2, k3, k4⟩ := swI_res (d := (mm : Int) + (x : Int)) hM (fun k hk => (hcb k hk).1.1) (hce x hxn).1.1 (n - g) g bg rfl hg
    have e2 := swO_s e0 e1
    have hch : ∀ k, k < n → (gz M (cb k) ≤ gz M (ce x) ↔ k < g2) := fun k hk => by
      constructor
      · intro h
        by_cases z : k < g2
        · exact z
        · rcases k4 with k4 | k4
          · omega
          · have := hsb g2 k (by omega) hk
            omega
      · intro h
        by_cases z : g ≤ k
        · exact k3 k z h
        · by_cases y : 0 < x
          · have h1 := (hgc y k hk).mpr (by omega)
            have h2 := hse (x - 1) x (by omega) hxn
            omega
          · have := hg0 (by omega)
            omega
    have hev := fun k (hk : k < n) => gz_even hM (hcb k hk).1.1
    have heve := fun k (hk : k < n) => gz_even hM (hce k hk).1.1
    have hsx : ∀ t, (∃ y, y < x + 1 ∧ Sg M cb ce n mm y t) ↔ ((∃ y, y < x ∧ Sg M cb ce n mm y t) ∨ Sg M cb ce n mm x t) := fun t => by
      constructor
      · rintro ⟨y, hy, h⟩
        by_cases z : y = x
        · subst z
          exact Or.inr h
        · exact Or.inl ⟨y, by omega, h⟩
      · rintro (⟨y, hy, h⟩ | h)
        · exact ⟨y, by omega, h⟩
        · exact ⟨x, Nat.lt_succ_self x, h⟩
    have hmono : ∀ z, 0 < z → z ≤ x → gz M (ce (z - 1)) ≤ gz M (ce x) := fun z _ h => hse (z - 1) x (by omega) hxn
    by_cases hopen : x + mm ≤ g
    · obtain ⟨o1, o2, o3, o4⟩ := hop hopen
      have hm0 := hmono x o1 (Nat.le_refl _)
      have hSgx : ∀ t, Sg M cb ce n mm x t ↔ gz M (ce (x - 1)) < t ∧ t ≤ gz M (ce x) := fun t => by
        unfold Sg
        have h1 := (hgc o1 (mm + x - 1) (by omega)).mpr (by omega)
        constructor
        · rintro ⟨a, b, -⟩
          exact ⟨a.elim (fun a => by omega) id, b⟩
        · rintro ⟨a, b⟩
          exact ⟨Or.inr a, b, by omega, by omega⟩
      have ebg : (if (g : Int) < (mm : Int) + (x : Int) ∧ (mm : Int) + (x : Int) ≤ (g2 : Int) then cb ((mm : Int) + (x : Int) - 1).toNat else bg) = bg := if_neg (by omega)
      rw [ebg] at e1 e2
      have hall : ∀ t, (memI (gl M L2) t ∨ (gz M bg ≤ t ∧ t ≤ gz M (ce x))) ↔ (memI (gl M L) t ∨ ∃ y, y < x + 1 ∧ Sg M cb ce n mm y t) := fun t => by
        rw [hsx, hSgx, ← or_assoc, ← hmem]
        constructor
        · rintro (h | h)
          · exact Or.inl (Or.inl h)
          · by_cases z : t ≤ gz M (ce (x - 1))
            · exact Or.inl (Or.inr ⟨hopen, h.1, z⟩)
            · exact Or.inr (by omega)
        · rintro ((h | h) | h)
          · exact Or.inl h
          · exact Or.inr (by omega)
          · exact Or.inr (by omega)
      by_cases hc : ((g2 : Nat) : Int) - (x : Int) = (mm : Int)
      · rw [if_pos hc] at e2
        obtain ⟨a1, a2⟩ := addP_gl hM hR2 (x := (bg, ce x)) o4 (hce x hxn).1
        obtain ⟨b1, b2⟩ := addI_spec (x := (gz M bg, gz M (ce x))) (X1 := gz M (ce x)) hS2 o2 (by dsimp only; omega) (Int.le_refl _) (gz_even hM o4.1) (heve x hxn)
        rw [← a1] at b1 b2
        refine ⟨g2, bg, addP (bg, ce x) L2, gz M (ce x), e2, k2, fun h => by omega, fun _ => by rw [Nat.add_sub_cancel]; exact hch, a2, b1, fun h => by omega, fun _ => by rw [if_neg (by omega), Nat.add_sub_cancel]; exact Int.le_refl _, fun t => ?_⟩
        rw [b2]
        dsimp only
        rw [← hall]
        exact ⟨fun h => h.elim id (fun h => by omega), Or.inl⟩
      · rw [if_neg hc] at e2
        have hge : g ≤ g2 := k1
        refine ⟨g2, bg, L2, Z, e2, k2, fun h => by omega, fun _ => by rw [Nat.add_sub_cancel]; exact hch, hR2, hS2, fun _ => ⟨Nat.succ_pos x, o2, by rw [Nat.add_sub_cancel]; omega, o4⟩, fun h => by omega, fun t => ?_⟩
        rw [Nat.add_sub_cancel, ← hall]
        exact ⟨fun h => h.elim Or.inl (fun h => Or.inr h.2), fun h => h.elim Or.inl (fun h => Or.inr ⟨by omega, h⟩)⟩
    · have hZ := hcl hopen
      have hclo : ∀ t, memI (gl M L2) t ↔ (memI (gl M L) t ∨ ∃ y, y < x ∧ Sg M cb ce n mm y t) := fun t => by
        rw [← hmem]
        exact ⟨Or.inl, fun h => h.elim id (fun h => absurd h.1 hopen)⟩
      by_cases hrun : x + mm ≤ g2
      · have ebg : (if (g : Int) < (mm : Int) + (x : Int) ∧ (mm : Int) + (x : Int) ≤ (g2 : Int) then cb ((mm : Int) + (x : Int) - 1).toNat else bg) = cb (mm + x - 1) := by
          rw [if_pos (by omega)]
          congr 1
          omega
        rw [ebg] at e1 e2
        have hbn : mm + x - 1 < n := by omega
        have hbe := (hch (mm + x - 1) hbn).mpr (by omega)
        have hZb : Z ≤ gz M (cb (mm + x - 1)) := by
          by_cases y : x = 0
          · rw [if_pos y] at hZ
            have := (hcb (mm + x - 1) hbn).2
            omega
          · rw [if_neg y] at hZ
            have h1 := hgc (by omega) (mm + x - 1) hbn
            omega
        have hSgx : ∀ t, Sg M cb ce n mm x t ↔ gz M (cb (mm + x - 1)) ≤ t ∧ t ≤ gz M (ce x) := fun t => by
          unfold Sg
          constructor
          · rintro ⟨-, b, -, d⟩
            exact ⟨d, b⟩
          · rintro ⟨a, b⟩
            refine ⟨?_, b, hbn, a⟩
            by_cases y : x = 0
            · exact Or.inl y
            · refine Or.inr ?_
              have h1 := hgc (by omega) (mm + x - 1) hbn
              omega
        have hall : ∀ t, (memI (gl M L2) t ∨ (gz M (cb (mm + x - 1)) ≤ t ∧ t ≤ gz M (ce x))) ↔ (memI (gl M L) t ∨ ∃ y, y < x + 1 ∧ Sg M cb ce n mm y t) := fun t => by
          rw [hsx, hSgx, ← or_assoc, ← hclo]
        by_cases hc : ((g2 : Nat) : Int) - (x : Int) = (mm : Int)
        · rw [if_pos hc] at e2
          obtain ⟨a1, a2⟩ := addP_gl hM hR2 (x := (cb (mm + x - 1), ce x)) (hcb _ hbn).1 (hce x hxn).1
          obtain ⟨b1, b2⟩ := addI_spec (x := (gz M (cb (mm + x - 1)), gz M (ce x))) (X1 := gz M (ce x)) hS2 hZb hbe (Int.le_refl _) (hev _ hbn) (heve x hxn)
          rw [← a1] at b1 b2
          refine ⟨g2, cb (mm + x - 1), addP (cb (mm + x - 1), ce x) L2, gz M (ce x), e2, k2, fun h => by omega, fun _ => by rw [Nat.add_sub_cancel]; exact hch, a2, b1, fun h => by omega, fun _ => by rw [if_neg (by omega), Nat.add_sub_cancel]; exact Int.le_refl _, fun t => ?_⟩
          rw [b2]
          dsimp only
          rw [← hall]
          exact ⟨fun h => h.elim id (fun h => by omega), Or.inl⟩
        · rw [if_neg hc] at e2
          refine ⟨g2, cb (mm + x - 1), L2, Z, e2, k2, fun h => by omega, fun _ => by rw [Nat.add_sub_cancel]; exact hch, hR2, hS2, fun _ => ⟨Nat.succ_pos x, hZb, by rw [Nat.add_sub_cancel]; exact hbe, (hcb _ hbn).1⟩, fun h => by omega, fun t => ?_⟩
          rw [Nat.add_sub_cancel, ← hall]
          exact ⟨fun h => h.elim Or.inl (fun h => Or.inr h.2), fun h => h.elim Or.inl (fun h => Or.inr ⟨by omega, h⟩)⟩
      · have ebg : (if (g : Int) < (mm : Int) + (x : Int) ∧ (mm : Int) + (x : Int) ≤ (g2 : Int) then cb ((mm : Int) + (x : Int) - 1).toNat else bg) = bg := if_neg (by omega)
        rw [ebg] at e1 e2
        rw [if_neg (by omega)] at e2
        have hno : ∀ t, ¬ Sg M cb ce n mm x t := fun t h => by
          obtain ⟨-, b, d, h4⟩ := h
          have := (hch (mm + x - 1) d).mp (by omega)
          omega
        refine ⟨g2, bg, L2, Z, e2, k2, fun h => by omega, fun _ => by rw [Nat.add_sub_cancel]; exact hch, hR2, hS2, fun h => by omega, fun _ => ?_, fun t => ?_⟩
        · rw [if_neg (by omega), Nat.add_sub_cancel]
          by_cases y : x = 0
          · rw [if_pos y] at hZ
            have := hXe x hxn
            omega
          · rw [if_neg y] at hZ
            have := hmono x (by omega) (Nat.le_refl _)
            omega
        · rw [hsx, ← or_assoc, ← hclo]
          exact ⟨fun h => h.elim (fun h => Or.inl h) (fun h => by omega), fun h => h.elim Or.inl (fun h => absurd h (hno t))⟩
/-- counting in a sorted list -/
theorem cnt_sorted {α : Type} (key : α → Int) {L : List α} (h : L.Pairwise (fun a b => key a ≤ key b)) (t : Int) (k : Nat) (hk : k < L.length) : key L[k] ≤ t ↔ k < L.countP (fun z => decide (key z ≤ t)) := by
  obtain ⟨A, B, e, hA, hB⟩ := split_sorted key t h
  subst e
  have hc : (A ++ B).countP (fun z => decide (key z ≤ t)) = A.length := by
    rw [List.countP_append, List.countP_eq_length.mpr (fun a ha => decide_eq_true (hA a ha)), List.countP_eq_zero.mpr (fun b hb => by have := hB b hb; simp; omega), Nat.add_zero]
  rw [hc]
  by_cases z : k < A.length
  · rw [List.getElem_append_left z]
    exact ⟨fun _ => z, fun _ => hA _ (List.getElem_mem z)⟩
  · rw [List.getElem_append_right (by omega)]
    have := hB _ (List.getElem_mem (show k - A.length < B.length by rw [List.length_append] at hk; omega))
    exact ⟨fun h => by omega, fun h => absurd h z⟩
theorem insT_spec {M : Int} (hM : GM M) {x : Int} {L : List Int} (hx : RED x) (hR : ∀ z, z ∈ L → RED z) (hs : L.Pairwise (fun a b => gz M a ≤ gz M b)) : ∃ A B, L = A ++ B ∧ insT x L = A ++ x :: B ∧ (A ++ x :: B).Pairwise (fun a b => gz M a ≤ gz M b) := by
  obtain ⟨A, B, e, hA, hB, hsp⟩ := ins_split (gz M) (gz M x) (gtT x L) (fun k q hq => by
    unfold gtT
    rw [hq]
    rw [decide_eq_true_iff]
    exact gz_lt hM hx.1 (hR q (List.mem_of_getElem? hq)).1) hs
  refine ⟨A, B, e, ?_, ?_⟩
  · unfold insT
    rw [hsp, e, insAt_app]
  · rw [e] at hs
    obtain ⟨p1, p2, p3⟩ := List.pairwise_append.mp hs
    refine List.pairwise_append.mpr ⟨p1, List.pairwise_cons.mpr ⟨fun b hb => Int.le_of_lt (hB b hb), p2⟩, fun a ha b hb => ?_⟩
    rcases List.mem_cons.mp hb with g | g
    · rw [g]; exact hA a ha
    · exact p3 a ha b g
