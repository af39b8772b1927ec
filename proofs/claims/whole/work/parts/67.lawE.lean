/-! the law: the world after the two constructors; the loop; the start -/
theorem arr_cg (cI : ClassId) {N : Nat} {f g : Nat → Value} (h : ∀ j, j < N → f j = g j) : arrV cI N f = arrV cI N g := by
  unfold arrV
  congr 1
  congr 1
  funext j
  exact h j.val j.isLt
theorem shp_ok {G : GE} {k : Nat} {e v : va_E} (h : e = v) (hv : v = shp G k v) : e = shp G k e := by
  subst h
  exact hv
theorem pw_ok {G : GE} {w : WF} {H : Heap} (hP : PB G w 75 H) (e0 : w 0 = .inr (7, [.ref (gad G 1), .int (iN 0), .int (iN 0), .ref (gad G 2), .ref (gad G 5), .int (iN 0), .ref (gad G 6), .ref (gad G 10), .ref (gad G 14), .ref (gad G 15), .ref (gad G 18)])) (e1 : w 1 = CQ G 10) (e2 : w 2 = .inr (2, [.ref (gad G 3), .ref (gad G 4), .int (iN 0)])) (e3 : w 3 = .inl (gI G, 10, .inl (aN (fun _ => 0)))) (e4 : w 4 = .inl (gI G, 10, .inl (aN (fun _ => 0)))) (e5 : w 5 = .inl (gI G, 92, .inl (aN (fun _ => 0)))) (e6 : w 6 = .inr (4, [.ref (gad G 7), .ref (gad G 8), .ref (gad G 9), .int (iN 0)])) (e7 : w 7 = .inl (gZ G, 10, .inl (aN (fun _ => 0)))) (e8 : w 8 = .inl (gI G, 10, .inl (aN (fun _ => 0)))) (e9 : w 9 = .inl (gI G, 10, .inl (aN (fun _ => 0)))) (e10 : w 10 = .inr (3, [.ref (gad G 11), .ref (gad G 12), .ref (gad G 13), .int (iN 0), .int (iN 0)])) (e11 : w 11 = .inl (gJ G, 45, .inr (.inl (aJ (fun _ => 0))))) (e12 : w 12 = .inl (gI G, 45, .inl (aN (fun _ => 0)))) (e13 : w 13 = .inl (gI G, 45, .inl (aN (fun _ => 0)))) (e14 : w 14 = .inr (6, [.int (iN 0), .long (jN 0), .long (jN 0), .long (jN 0), .int (iN 0)])) (e15 : w 15 = .inr (1, [.ref (gad G 16), .ref (gad G 17), .int (iN 0)])) (e16 : w 16 = .inl (gJ G, 10, .inr (.inl (aJ (fun _ => 0))))) (e17 : w 17 = .inl (gJ G, 10, .inr (.inl (aJ (fun _ => 0))))) (e18 : w 18 = .inr (5, [.int (iN 0), .int (iN 0), .long (jN 0), .long (jN 0), .long (jN 0)])) (e59 : w 59 = .inr (8, [.int (iN 0), .int (iN 0), .ref (gad G 60), .ref (gad G 61), .ref (gad G 62), .ref (gad G 63), .ref (gad G 64), .ref (gad G 65), .int (iN 0), .int (iN 0), .ref (gad G 66), .ref (gad G 67), .ref (gad G 68), .ref (gad G 69), .ref (gad G 70), .int (iN 0), .ref (gad G 71), .ref (gad G 72), .int (iN 0), .int (iN 0), .int (iN 0), .long (jN 0), .long (jN 0), .int (iN 0), .ref (gad G 73), .ref (gad G 74)])) (e60 : w 60 = .inl (gI G, 10, .inl (aN (fun _ => 0)))) (e61 : w 61 = .inl (gI G, 10, .inl (aN (fun _ => 0)))) (e62 : w 62 = .inl (gI G, 80, .inl (aN (fun _ => 0)))) (e63 : w 63 = .inl (gI G, 80, .inl (aN (fun _ => 0)))) (e64 : w 64 = .inl (gI G, 80, .inl (aN (fun _ => 0)))) (e65 : w 65 = .inl (gI G, 10, .inl (aN (fun _ => 0)))) (e66 : w 66 = .inl (gJ G, 800, .inr (.inl (aJ (fun _ => 0))))) (e67 : w 67 = .inl (gJ G, 800, .inr (.inl (aJ (fun _ => 0))))) (e68 : w 68 = .inl (gI G, 800, .inl (aN (fun _ => 0)))) (e69 : w 69 = .inl (gI G, 800, .inl (aN (fun _ => 0)))) (e70 : w 70 = .inl (gZ G, 800, .inl (aN (fun _ => 0)))) (e71 : w 71 = .inl (gJ G, 700, .inr (.inl (aJ (fun _ => 0))))) (e72 : w 72 = .inl (gJ G, 700, .inr (.inl (aJ (fun _ => 0))))) (e73 : w 73 = .inl (gJ G, 1400, .inr (.inl (aJ (fun _ => 0))))) (e74 : w 74 = .inl (gJ G, 1400, .inr (.inl (aJ (fun _ => 0))))) (hF : FI G w 10) : PW G (va_up w 1 (.inl (gQ G, 10, .inr (.inr (.inr (.inr (fun i => some (gad G (19 + 4 * i))))))))) H := by
  have hat : ∀ k, k < 75 → va_at (gD G) cls (gad G k, w k) H := fun k hk => hP.2 k (ordK_lt.mpr hk)
  refine ⟨fun k hk => ?_, fun k hk => ?_⟩
  · by_cases h1 : k = 1
    · subst h1
      rw [va_up_self]
      rfl
    · rw [va_up_ne _ _ h1]
      by_cases h2 : k < 19
      · obtain rfl | rfl | rfl | rfl | rfl | rfl | rfl | rfl | rfl | rfl | rfl | rfl | rfl | rfl | rfl | rfl | rfl | rfl | rfl : k = 0 ∨ k = 1 ∨ k = 2 ∨ k = 3 ∨ k = 4 ∨ k = 5 ∨ k = 6 ∨ k = 7 ∨ k = 8 ∨ k = 9 ∨ k = 10 ∨ k = 11 ∨ k = 12 ∨ k = 13 ∨ k = 14 ∨ k = 15 ∨ k = 16 ∨ k = 17 ∨ k = 18 := by omega
        · exact shp_ok e0 rfl
        · exact absurd rfl h1
        · exact shp_ok e2 rfl
        · exact shp_ok e3 rfl
        · exact shp_ok e4 rfl
        · exact shp_ok e5 rfl
        · exact shp_ok e6 rfl
        · exact shp_ok e7 rfl
        · exact shp_ok e8 rfl
        · exact shp_ok e9 rfl
        · exact shp_ok e10 rfl
        · exact shp_ok e11 rfl
        · exact shp_ok e12 rfl
        · exact shp_ok e13 rfl
        · exact shp_ok e14 rfl
        · exact shp_ok e15 rfl
        · exact shp_ok e16 rfl
        · exact shp_ok e17 rfl
        · exact shp_ok e18 rfl
      · by_cases h3 : k < 59
        · obtain ⟨i, j, hi, hj, rfl⟩ : ∃ i j : Nat, i < 10 ∧ j < 4 ∧ k = 19 + 4 * i + j := ⟨(k - 19) / 4, (k - 19) % 4, by omega, by omega, by omega⟩
          obtain ⟨f0, f1, f2, f3⟩ := hF i hi
          rcases (show j = 0 ∨ j = 1 ∨ j = 2 ∨ j = 3 by omega) with rfl | rfl | rfl | rfl
          · show w (19 + 4 * i) = shp G (19 + 4 * i) (w (19 + 4 * i))
            exact f0.trans (by rw [shp_c0 _ hi, f0]; rfl)
          · exact f1.trans (by rw [shp_c1 _ hi (by omega), f1]; rfl)
          · exact f2.trans (by rw [shp_c1 _ hi (by omega), f2]; rfl)
          · exact f3.trans (by rw [shp_c1 _ hi (by omega), f3]; rfl)
        · obtain rfl | rfl | rfl | rfl | rfl | rfl | rfl | rfl | rfl | rfl | rfl | rfl | rfl | rfl | rfl | rfl : k = 59 ∨ k = 60 ∨ k = 61 ∨ k = 62 ∨ k = 63 ∨ k = 64 ∨ k = 65 ∨ k = 66 ∨ k = 67 ∨ k = 68 ∨ k = 69 ∨ k = 70 ∨ k = 71 ∨ k = 72 ∨ k = 73 ∨ k = 74 := by omega
          · exact shp_ok e59 rfl
          · exact shp_ok e60 rfl
          · exact shp_ok e61 rfl
          · exact shp_ok e62 rfl
          · exact shp_ok e63 rfl
          · exact shp_ok e64 rfl
          · exact shp_ok e65 rfl
          · exact shp_ok e66 rfl
          · exact shp_ok e67 rfl
          · exact shp_ok e68 rfl
          · exact shp_ok e69 rfl
          · exact shp_ok e70 rfl
          · exact shp_ok e71 rfl
          · exact shp_ok e72 rfl
          · exact shp_ok e73 rfl
          · exact shp_ok e74 rfl
  · by_cases h1 : k = 1
    · subst h1
      rw [va_up_self]
      have := hat 1 hk
      rw [e1] at this
      show H[gad G 1]? = some (vp_cell _ _)
      have t2 : H[gad G 1]? = some (vp_cell _ _) := this
      rw [t2, vp_cell_q, vp_cell_q]
      congr 1
    · rw [va_up_ne _ _ h1]
      exact hat k hk
