/-! the law's start: what the tables give -/
set_option maxRecDepth 100000 in
theorem nest_m : ∀ q ∈ nestM, Cond.methodLinkNest q.1 q.2.1 q.2.2 RX8 ∈ lw_tbl := by decide +kernel
set_option maxRecDepth 100000 in
theorem nest_f : ∀ q ∈ nestF, Cond.fieldLinkNest q.1 q.2.1 q.2.2.1 q.2.2.2.1 q.2.2.2.2 RX8 ∈ lw_tbl := by decide +kernel
theorem arr_known {s : State} {args : Array Value} {ty : FieldType} (h : (Cond.arrayClass ty).before args s = true) : ∃ cA, ArrOfT s cA ty ∧ s.vm.findClass ("[" ++ ty.toString) = some cA := by
  obtain ⟨cA, kA, comp, h1, h2, h3⟩ := Cond.arrayClass_spec h
  exact ⟨cA, fun N z => ⟨(fun k h => by cases h), kA, h2, comp, h3⟩, h1⟩
theorem arr_knownO {s : State} {args : Array Value} {C : String} (h : (Cond.arrayOver (.object C)).before args s = true) : ∃ cA, ArrOfT s cA (.object C) ∧ va_RA s cA (.object C) := by
  obtain ⟨comp, cA, kA, h1, -, h2, h3, h4⟩ := Cond.arrayOver_spec h
  exact ⟨cA, fun N z => ⟨(fun k h => by cases h), kA, h2, comp, h3⟩, kA, comp, h2, h3, h1, h4⟩
/-- the world's places, the classes' numbers -/
theorem g_ex {s : State} {b : Addr} (hts0 : ∀ w ∈ lw_tbl, w.before #[Value.ref b] s = true) : ∃ G : GE, KK9 G s ∧ gad G 0 = s.heap.size := by
  obtain ⟨c0, i0, k0⟩ := u_known (C := RX0) (T := TX0) (N := 5) (n := 5) hts0 inX0 (hts0 (.instantiable RX0 5) (by decide +kernel))
  obtain ⟨c1, i1, k1⟩ := u_known (C := RX1) (T := TX1) (N := 3) (n := 3) hts0 inX1 (hts0 (.instantiable RX1 3) (by decide +kernel))
  obtain ⟨c3, i3, k3⟩ := u_known (C := RX3) (T := TX3) (N := 3) (n := 3) hts0 inX3 (hts0 (.instantiable RX3 3) (by decide +kernel))
  obtain ⟨c4, i4, k4⟩ := u_known (C := RX4) (T := TX4) (N := 5) (n := 5) hts0 inX4 (hts0 (.instantiable RX4 5) (by decide +kernel))
  obtain ⟨c5, i5, k5⟩ := u_known (C := RX5) (T := TX5) (N := 4) (n := 4) hts0 inX5 (hts0 (.instantiable RX5 4) (by decide +kernel))
  obtain ⟨c6, i6, k6⟩ := u_known (C := RX6) (T := TX6) (N := 5) (n := 5) hts0 inX6 (hts0 (.instantiable RX6 5) (by decide +kernel))
  obtain ⟨c7, i7, k7⟩ := u_known (C := RX7) (T := TX7) (N := 5) (n := 5) hts0 inX7 (hts0 (.instantiable RX7 5) (by decide +kernel))
  obtain ⟨c8, i8, k8⟩ := u_known (C := RX8) (T := TX8) (N := 11) (n := 11) hts0 inX8 (hts0 (.instantiable RX8 11) (by decide +kernel))
  obtain ⟨c9, i9, k9⟩ := u_known (C := RX9) (T := TX9) (N := 26) (n := 26) hts0 inX9 (hts0 (.instantiable RX9 26) (by decide +kernel))
  obtain ⟨aI, rI, fI⟩ := arr_known (hts0 (.arrayClass .int) (by decide +kernel))
  obtain ⟨aJ, rJ, fJ⟩ := arr_known (hts0 (.arrayClass .long) (by decide +kernel))
  obtain ⟨aZ, rZ, fZ⟩ := arr_known (hts0 (.arrayClass .boolean) (by decide +kernel))
  have hAO := hts0 (.arrayOver (.object RX0)) (by decide +kernel)
  obtain ⟨aQ, rQ, fQ⟩ := arr_knownO hAO
  refine ⟨((fun k => match k with | 0 => c0 | 1 => c1 | 2 => c3 | 3 => c4 | 4 => c5 | 5 => c6 | 6 => c7 | 7 => c8 | _ => c9, fun k => match k with | 0 => i0 | 1 => i1 | 2 => i3 | 3 => i4 | 4 => i5 | 5 => i6 | 6 => i7 | 7 => i8 | _ => i9), fun k => s.heap.size + ordK k, aI, aJ, aZ, aQ), ⟨⟨⟨?_, ?_⟩, ?_, ?_, ?_⟩, fun k => rfl, va_AO.of hAO⟩, rfl⟩
  · intro k q hq
    match k, hq with
    | 0, hq => cases hq; exact k0
    | 1, hq => cases hq; exact k1
    | 2, hq => cases hq; exact k3
    | 3, hq => cases hq; exact k4
    | 4, hq => cases hq; exact k5
    | 5, hq => cases hq; exact k6
    | 6, hq => cases hq; exact k7
    | 7, hq => cases hq; exact k8
    | 8, hq => cases hq; exact k9
    | k + 9, hq => simp [cls] at hq
  · intro k q hq
    match k, hq with
    | 0, hq => cases hq; exact ⟨rI, fI⟩
    | 1, hq => cases hq; exact ⟨rJ, fJ⟩
    | 2, hq => cases hq; exact ⟨rZ, fZ⟩
    | 3, hq => cases hq; exact ⟨rQ, fQ⟩
    | k + 4, hq => simp [gtys] at hq
  · intro i j _ _ h
    exact ordK_inj (Nat.add_left_cancel h)
  · intro q hq
    exact va_Nw.of rfl (hts0 _ (nest_m q hq))
  · intro q hq
    exact va_Nw.of rfl (hts0 _ (nest_f q hq))
