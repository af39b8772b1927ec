/-! the law, call by call -/
def zz (xs : Nat → Int32) (j : Nat) : Int := (xs j).toInt
theorem zz_rng (xs : Nat → Int32) (j : Nat) : -2147483648 ≤ zz xs j ∧ zz xs j < 2147483648 := by
  have h1 := Int32.le_toInt (xs j)
  have h2 := Int32.toInt_lt (xs j)
  unfold zz
  omega
theorem zz_n (xs : Nat → Int32) (j : Nat) : xs j = iN (zz xs j) := (iN_of _).symm
section LDS
variable {p : Program} {l : Launch} {e : Env} {s : State} {m : MethodId} {below : List Frame} {meth : Method} {c : Code} {b L : Nat} {xs : Nat → Int32} {H : Heap} {locs : List Loc} {cells slots : Nat} {Q : State → Prop} {AQ : Nat → Prop}
variable {pc : Nat} {ls : Array Slot} {st : List Value} {i r1 r2 : Nat}
theorem law_ld (hx : p.tables.exec = Jvm.exec) (hb : c.code = cL_law) (hX : va_X b L xs s s.heap) (hbl : b < s.heap.size) (hbA : ¬ AQ b) (hS : va_S AQ s.heap H locs) (hl : lv_has ls 4 [(0, .ref b), (1, .ref r1), (2, .ref r2), (3, .int (iN (i : Int)))]) (hi : i + 7 ≤ L) (hL : L ≤ 3584) (kk : Nat) (hk : kk ≤ 6) {z : Int} (hz : z = (kk : Int))
    (d0 : decode cL_law pc = .ok (.aload_n 0, 1)) (d1 : decode cL_law (pc + 1) = .ok (.iload_n 3, 1)) (d2 : decode cL_law (pc + 2) = .ok (.iconst z, 1)) (d3 : decode cL_law (pc + 3) = .ok (.iadd, 1)) (d4 : decode cL_law (pc + 4) = .ok (.iaload, 1))
    (k : W p l e room_1 s m #[Value.ref b] below meth c H locs cells slots Q (F0 m (pc + 5) ls (.int (iN (zz xs (i + kk))) :: st))) : W p l e room_1 s m #[Value.ref b] below meth c H locs cells slots Q (F0 m pc ls st) := by
  subst hz
  refine lv_aload_n hx hb d0 rfl (lv_at hl 0 rfl) ?_
  refine lv_iload_n hx hb d1 rfl (lv_at hl 3 rfl) ?_
  refine n_iconst hx hb d2 ?_
  refine n_iadd hx hb d3 ?_
  obtain ⟨v1, v2⟩ := iN_idx (n := L) (A := (i : Int) + (kk : Int)) (j := i + kk) (by omega) (by omega) (by omega)
  refine va_sld hx hb hX hbl hbA hS v1 d4 ?_
  rw [v2, zz_n xs (i + kk)]
  exact k
theorem law_ld6 (hx : p.tables.exec = Jvm.exec) (hb : c.code = cL_law) (hX : va_X b L xs s s.heap) (hbl : b < s.heap.size) (hbA : ¬ AQ b) (hS : va_S AQ s.heap H locs) (hl : lv_has ls 4 [(0, .ref b), (1, .ref r1), (2, .ref r2), (3, .int (iN (i : Int)))]) (hi : i + 7 ≤ L) (hL : L ≤ 3584)
    (d0 : decode cL_law pc = .ok (.aload_n 0, 1)) (d1 : decode cL_law (pc + 1) = .ok (.iload_n 3, 1)) (d2 : decode cL_law (pc + 2) = .ok (.bipush 6, 2)) (d3 : decode cL_law (pc + 4) = .ok (.iadd, 1)) (d4 : decode cL_law (pc + 5) = .ok (.iaload, 1))
    (k : W p l e room_1 s m #[Value.ref b] below meth c H locs cells slots Q (F0 m (pc + 6) ls (.int (iN (zz xs (i + 6))) :: st))) : W p l e room_1 s m #[Value.ref b] below meth c H locs cells slots Q (F0 m pc ls st) := by
  refine lv_aload_n hx hb d0 rfl (lv_at hl 0 rfl) ?_
  refine lv_iload_n hx hb d1 rfl (lv_at hl 3 rfl) ?_
  refine n_bipush hx hb d2 (by decide) ?_
  refine n_iadd hx hb d3 ?_
  obtain ⟨v1, v2⟩ := iN_idx (n := L) (A := (i : Int) + 6) (j := i + 6) (by omega) (by omega) (by omega)
  refine va_sld hx hb hX hbl hbA hS v1 d4 ?_
  rw [v2, zz_n xs (i + 6)]
  exact k
end LDS
set_option maxHeartbeats 4000000 in
set_option maxRecDepth 100000 in
theorem lc_point {p : Program} {l : Launch} {e : Env} {s : State} {m : MethodId} {below : List Frame} {meth : Method} {c : Code} {b L : Nat} {xs : Nat → Int32} {cells slots : Nat} {Q : State → Prop} {G : GE} (C0 : lw_At p s m meth c b L xs) (hL : L ≤ 3584) (hG : GA G) (h0 : gad G 0 = s.heap.size) (hK : KK G s) (hcs : cells ≤ 600000 ∧ slots ≤ 7302250) {i : Nat} (hi : i + 7 ≤ L) {w : WF} {H : Heap} {locs : List Loc} {ls : Array Slot} (hl : lv_has ls 4 [(0, .ref b), (1, .ref (gad G 0)), (2, .ref (gad G 59)), (3, .int (iN (i : Int)))]) (hT : LST G w) (hP : PW G w H) (hS : va_S (A9 G) s.heap H locs) (kk : ∀ (w1 : WF) (H1 : Heap) (locs1 : List Loc), LST G w1 → PW G w1 H1 → va_S (A9 G) s.heap H1 locs1 → W p l e room_1 s m #[Value.ref b] below meth c H1 locs1 cells slots Q (F0 m 708 ls [])) : W p l e room_1 s m #[Value.ref b] below meth c H locs cells slots Q (F0 m 108 ls []) := by
  obtain ⟨hx, hb, hr, hml, hown, hts0, hX, hbl, hlocks, hgv⟩ := C0
  have hb : c.code = cL_law := hb
  have hown : s.vm.findClass RL = some m.cls := hown
  have hts : ∀ w ∈ wsL_law, w.before #[Value.ref b] s = true := fun w h => hts0 w (wsL_law_in w h)
  have hbA : ¬ A9 G b := by unfold A9; omega
  have hAA : ∀ q, AA G q → A9 G q := fun q ⟨k, hk, ek⟩ => by have := hG k; unfold A9; omega
  obtain ⟨came, now, cst, cpl, csp, cnp, cstop, mbe, mpl, msp, pn, ga, hR, hC, hM⟩ := hT
  refine lv_aload_n hx hb dL_law_108 rfl (lv_at hl 1 rfl) ?_
  refine law_ld hx hb hX hbl hbA hS hl hi hL 1 (by decide) rfl dL_law_109 dL_law_110 dL_law_111 dL_law_112 dL_law_113 ?_
  refine law_ld hx hb hX hbl hbA hS hl hi hL 2 (by decide) rfl dL_law_114 dL_law_115 dL_law_116 dL_law_117 dL_law_118 ?_
  obtain ⟨bc, e0⟩ := hC.1
  refine f_calli (W.runV (As := [.int (iN (zz xs (i + 1))), .int (iN (zz xs (i + 2)))]) (rest := []) ⟨hx, hb, hml, hown, hts⟩ (k8_point l G w (zz xs (i + 1)) (zz xs (i + 2)) hC (zz_rng xs (i + 1)) (zz_rng xs (i + 2)) hR.1.1 hR.1.2.1) (cwV 2 hts gL_law_X8_point rfl rfl rfl (by decide +kernel) ⟨Nat.le_of_ble_eq_true rfl, Nat.le_of_ble_eq_true rfl⟩) (f_preV hP hK 0 (by omega) 7 e0 rfl) rfl rfl hl.1 rfl (lv_room (Nat.le_of_ble_eq_true rfl)) dL_law_119 ⟨hcs.1, hcs.2⟩) hS hAA (fun r1 w1 H1 locs1 q1 hP1 hS1 => ?_)
  obtain ⟨er1, hC1, hf1⟩ := q1
  have hM1 := hM.mv hf1
  refine lv_aload_n hx hb dL_law_122 rfl (lv_at hl 2 rfl) ?_
  refine law_ld hx hb hX hbl hbA hS1 hl hi hL 1 (by decide) rfl dL_law_123 dL_law_124 dL_law_125 dL_law_126 dL_law_127 ?_
  refine law_ld hx hb hX hbl hbA hS1 hl hi hL 2 (by decide) rfl dL_law_128 dL_law_129 dL_law_130 dL_law_131 dL_law_132 ?_
  obtain ⟨rm, mt, tm, thg, onn, two, lw, hg, sq, e59, -, -⟩ := hM1.1
  refine f_calli (W.runV (As := [.int (iN (zz xs (i + 1))), .int (iN (zz xs (i + 2)))]) (rest := [.int r1]) ⟨hx, hb, hml, hown, hts⟩ (k9_point l G w1 (zz xs (i + 1)) (zz xs (i + 2)) hM1 (zz_rng xs (i + 1)) (zz_rng xs (i + 2)) hR.1.1 hR.1.2.1) (cwV 2 hts gL_law_X9_point rfl rfl rfl (by decide +kernel) ⟨Nat.le_of_ble_eq_true rfl, Nat.le_of_ble_eq_true rfl⟩) (f_preV hP1 hK 59 (by omega) 8 e59 rfl) rfl rfl hl.1 rfl (lv_room (Nat.le_of_ble_eq_true rfl)) dL_law_133 ⟨hcs.1, hcs.2⟩) hS1 hAA (fun r2 w2 H2 locs2 q2 hP2 hS2 => ?_)
  obtain ⟨er2, hM2, hf2⟩ := q2
  have heq : r1 = r2 := er1.trans er2.symm
  exact lv_icmp_eq (tgt := 708) hx hb dL_law_136 (by decide) (fun _ => kk w2 H2 locs2 (st_point hR (hC1.mv hf2) hM2) hP2 hS2) (fun c => absurd heq c)
set_option maxHeartbeats 4000000 in
set_option maxRecDepth 100000 in
theorem lc_speed {p : Program} {l : Launch} {e : Env} {s : State} {m : MethodId} {below : List Frame} {meth : Method} {c : Code} {b L : Nat} {xs : Nat → Int32} {cells slots : Nat} {Q : State → Prop} {G : GE} (C0 : lw_At p s m meth c b L xs) (hL : L ≤ 3584) (hG : GA G) (h0 : gad G 0 = s.heap.size) (hK : KK G s) (hcs : cells ≤ 600000 ∧ slots ≤ 7302250) {i : Nat} (hi : i + 7 ≤ L) {w : WF} {H : Heap} {locs : List Loc} {ls : Array Slot} (hl : lv_has ls 4 [(0, .ref b), (1, .ref (gad G 0)), (2, .ref (gad G 59)), (3, .int (iN (i : Int)))]) (hT : LST G w) (hP : PW G w H) (hS : va_S (A9 G) s.heap H locs) (kk : ∀ (w1 : WF) (H1 : Heap) (locs1 : List Loc), LST G w1 → PW G w1 H1 → va_S (A9 G) s.heap H1 locs1 → W p l e room_1 s m #[Value.ref b] below meth c H1 locs1 cells slots Q (F0 m 708 ls [])) : W p l e room_1 s m #[Value.ref b] below meth c H locs cells slots Q (F0 m 141 ls []) := by
  obtain ⟨hx, hb, hr, hml, hown, hts0, hX, hbl, hlocks, hgv⟩ := C0
  have hb : c.code = cL_law := hb
  have hown : s.vm.findClass RL = some m.cls := hown
  have hts : ∀ w ∈ wsL_law, w.before #[Value.ref b] s = true := fun w h => hts0 w (wsL_law_in w h)
  have hbA : ¬ A9 G b := by unfold A9; omega
  have hAA : ∀ q, AA G q → A9 G q := fun q ⟨k, hk, ek⟩ => by have := hG k; unfold A9; omega
  obtain ⟨came, now, cst, cpl, csp, cnp, cstop, mbe, mpl, msp, pn, ga, hR, hC, hM⟩ := hT
  refine lv_aload_n hx hb dL_law_141 rfl (lv_at hl 1 rfl) ?_
  refine law_ld hx hb hX hbl hbA hS hl hi hL 1 (by decide) rfl dL_law_142 dL_law_143 dL_law_144 dL_law_145 dL_law_146 ?_
  refine law_ld hx hb hX hbl hbA hS hl hi hL 2 (by decide) rfl dL_law_147 dL_law_148 dL_law_149 dL_law_150 dL_law_151 ?_
  obtain ⟨bc, e0⟩ := hC.1
  refine f_calli (W.runV (As := [.int (iN (zz xs (i + 1))), .int (iN (zz xs (i + 2)))]) (rest := []) ⟨hx, hb, hml, hown, hts⟩ (k8_speed l G w (zz xs (i + 1)) (zz xs (i + 2)) hC (zz_rng xs (i + 1)) (zz_rng xs (i + 2)) hR.1.oks hR.1.2.1) (cwV 2 hts gL_law_X8_speed rfl rfl rfl (by decide +kernel) ⟨Nat.le_of_ble_eq_true rfl, Nat.le_of_ble_eq_true rfl⟩) (f_preV hP hK 0 (by omega) 7 e0 rfl) rfl rfl hl.1 rfl (lv_room (Nat.le_of_ble_eq_true rfl)) dL_law_152 ⟨hcs.1, hcs.2⟩) hS hAA (fun r1 w1 H1 locs1 q1 hP1 hS1 => ?_)
  obtain ⟨er1, hC1, hf1⟩ := q1
  have hM1 := hM.mv hf1
  refine lv_aload_n hx hb dL_law_155 rfl (lv_at hl 2 rfl) ?_
  refine law_ld hx hb hX hbl hbA hS1 hl hi hL 1 (by decide) rfl dL_law_156 dL_law_157 dL_law_158 dL_law_159 dL_law_160 ?_
  refine law_ld hx hb hX hbl hbA hS1 hl hi hL 2 (by decide) rfl dL_law_161 dL_law_162 dL_law_163 dL_law_164 dL_law_165 ?_
  obtain ⟨rm, mt, tm, thg, onn, two, lw, hg, sq, e59, -, -⟩ := hM1.1
  refine f_calli (W.runV (As := [.int (iN (zz xs (i + 1))), .int (iN (zz xs (i + 2)))]) (rest := [.int r1]) ⟨hx, hb, hml, hown, hts⟩ (k9_speed l G w1 (zz xs (i + 1)) (zz xs (i + 2)) hM1 (zz_rng xs (i + 1)) (zz_rng xs (i + 2)) hR.ivt.oks hR.1.2.1) (cwV 2 hts gL_law_X9_speed rfl rfl rfl (by decide +kernel) ⟨Nat.le_of_ble_eq_true rfl, Nat.le_of_ble_eq_true rfl⟩) (f_preV hP1 hK 59 (by omega) 8 e59 rfl) rfl rfl hl.1 rfl (lv_room (Nat.le_of_ble_eq_true rfl)) dL_law_166 ⟨hcs.1, hcs.2⟩) hS1 hAA (fun r2 w2 H2 locs2 q2 hP2 hS2 => ?_)
  obtain ⟨er2, hM2, hf2⟩ := q2
  have heq : r1 = r2 := er1.trans ((congrArg iN (a_speed hR (zz xs (i + 1)) (zz xs (i + 2)))).trans er2.symm)
  exact lv_icmp_eq (tgt := 708) hx hb dL_law_169 (by decide) (fun _ => kk w2 H2 locs2 (st_speed hR (hC1.mv hf2) hM2) hP2 hS2) (fun c => absurd heq c)
set_option maxHeartbeats 4000000 in
set_option maxRecDepth 100000 in
theorem lc_gone {p : Program} {l : Launch} {e : Env} {s : State} {m : MethodId} {below : List Frame} {meth : Method} {c : Code} {b L : Nat} {xs : Nat → Int32} {cells slots : Nat} {Q : State → Prop} {G : GE} (C0 : lw_At p s m meth c b L xs) (hL : L ≤ 3584) (hG : GA G) (h0 : gad G 0 = s.heap.size) (hK : KK G s) (hcs : cells ≤ 600000 ∧ slots ≤ 7302250) {i : Nat} (hi : i + 7 ≤ L) {w : WF} {H : Heap} {locs : List Loc} {ls : Array Slot} (hl : lv_has ls 4 [(0, .ref b), (1, .ref (gad G 0)), (2, .ref (gad G 59)), (3, .int (iN (i : Int)))]) (hT : LST G w) (hP : PW G w H) (hS : va_S (A9 G) s.heap H locs) (kk : ∀ (w1 : WF) (H1 : Heap) (locs1 : List Loc), LST G w1 → PW G w1 H1 → va_S (A9 G) s.heap H1 locs1 → W p l e room_1 s m #[Value.ref b] below meth c H1 locs1 cells slots Q (F0 m 708 ls [])) : W p l e room_1 s m #[Value.ref b] below meth c H locs cells slots Q (F0 m 174 ls []) := by
  obtain ⟨hx, hb, hr, hml, hown, hts0, hX, hbl, hlocks, hgv⟩ := C0
  have hb : c.code = cL_law := hb
  have hown : s.vm.findClass RL = some m.cls := hown
  have hts : ∀ w ∈ wsL_law, w.before #[Value.ref b] s = true := fun w h => hts0 w (wsL_law_in w h)
  have hbA : ¬ A9 G b := by unfold A9; omega
  have hAA : ∀ q, AA G q → A9 G q := fun q ⟨k, hk, ek⟩ => by have := hG k; unfold A9; omega
  obtain ⟨came, now, cst, cpl, csp, cnp, cstop, mbe, mpl, msp, pn, ga, hR, hC, hM⟩ := hT
  refine lv_aload_n hx hb dL_law_174 rfl (lv_at hl 1 rfl) ?_
  refine law_ld hx hb hX hbl hbA hS hl hi hL 1 (by decide) rfl dL_law_175 dL_law_176 dL_law_177 dL_law_178 dL_law_179 ?_
  obtain ⟨bc, e0⟩ := hC.1
  refine f_calli (W.runV (As := [.int (iN (zz xs (i + 1)))]) (rest := []) ⟨hx, hb, hml, hown, hts⟩ (k8_gone l G w (zz xs (i + 1)) hC (zz_rng xs (i + 1)) hR.1.oks hR.1.2.1) (cwV 1 hts gL_law_X8_gone rfl rfl rfl (by decide +kernel) ⟨Nat.le_of_ble_eq_true rfl, Nat.le_of_ble_eq_true rfl⟩) (f_preV hP hK 0 (by omega) 7 e0 rfl) rfl rfl hl.1 rfl (lv_room (Nat.le_of_ble_eq_true rfl)) dL_law_180 ⟨hcs.1, hcs.2⟩) hS hAA (fun r1 w1 H1 locs1 q1 hP1 hS1 => ?_)
  obtain ⟨er1, hC1, hf1⟩ := q1
  have hM1 := hM.mv hf1
  refine lv_aload_n hx hb dL_law_183 rfl (lv_at hl 2 rfl) ?_
  refine law_ld hx hb hX hbl hbA hS1 hl hi hL 1 (by decide) rfl dL_law_184 dL_law_185 dL_law_186 dL_law_187 dL_law_188 ?_
  obtain ⟨rm, mt, tm, thg, onn, two, lw, hg, sq, e59, -, -⟩ := hM1.1
  refine f_calli (W.runV (As := [.int (iN (zz xs (i + 1)))]) (rest := [.int r1]) ⟨hx, hb, hml, hown, hts⟩ (k9_gone l G w1 (zz xs (i + 1)) hM1 (zz_rng xs (i + 1)) hR.ivt.oks hR.1.2.1) (cwV 1 hts gL_law_X9_gone rfl rfl rfl (by decide +kernel) ⟨Nat.le_of_ble_eq_true rfl, Nat.le_of_ble_eq_true rfl⟩) (f_preV hP1 hK 59 (by omega) 8 e59 rfl) rfl rfl hl.1 rfl (lv_room (Nat.le_of_ble_eq_true rfl)) dL_law_189 ⟨hcs.1, hcs.2⟩) hS1 hAA (fun r2 w2 H2 locs2 q2 hP2 hS2 => ?_)
  obtain ⟨er2, hM2, hf2⟩ := q2
  have heq : r1 = r2 := er1.trans ((congrArg iN (a_gone hR (zz xs (i + 1)))).trans er2.symm)
  exact lv_icmp_eq (tgt := 708) hx hb dL_law_192 (by decide) (fun _ => kk w2 H2 locs2 (st_gone hR (hC1.mv hf2) hM2) hP2 hS2) (fun c => absurd heq c)
set_option maxHeartbeats 4000000 in
set_option maxRecDepth 100000 in
theorem lc_go {p : Program} {l : Launch} {e : Env} {s : State} {m : MethodId} {below : List Frame} {meth : Method} {c : Code} {b L : Nat} {xs : Nat → Int32} {cells slots : Nat} {Q : State → Prop} {G : GE} (C0 : lw_At p s m meth c b L xs) (hL : L ≤ 3584) (hG : GA G) (h0 : gad G 0 = s.heap.size) (hK : KK G s) (hcs : cells ≤ 600000 ∧ slots ≤ 7302250) {i : Nat} (hi : i + 7 ≤ L) {w : WF} {H : Heap} {locs : List Loc} {ls : Array Slot} (hl : lv_has ls 4 [(0, .ref b), (1, .ref (gad G 0)), (2, .ref (gad G 59)), (3, .int (iN (i : Int)))]) (hT : LST G w) (hP : PW G w H) (hS : va_S (A9 G) s.heap H locs) (kk : ∀ (w1 : WF) (H1 : Heap) (locs1 : List Loc), LST G w1 → PW G w1 H1 → va_S (A9 G) s.heap H1 locs1 → W p l e room_1 s m #[Value.ref b] below meth c H1 locs1 cells slots Q (F0 m 708 ls [])) : W p l e room_1 s m #[Value.ref b] below meth c H locs cells slots Q (F0 m 197 ls []) := by
  obtain ⟨hx, hb, hr, hml, hown, hts0, hX, hbl, hlocks, hgv⟩ := C0
  have hb : c.code = cL_law := hb
  have hown : s.vm.findClass RL = some m.cls := hown
  have hts : ∀ w ∈ wsL_law, w.before #[Value.ref b] s = true := fun w h => hts0 w (wsL_law_in w h)
  have hbA : ¬ A9 G b := by unfold A9; omega
  have hAA : ∀ q, AA G q → A9 G q := fun q ⟨k, hk, ek⟩ => by have := hG k; unfold A9; omega
  obtain ⟨came, now, cst, cpl, csp, cnp, cstop, mbe, mpl, msp, pn, ga, hR, hC, hM⟩ := hT
  refine lv_aload_n hx hb dL_law_197 rfl (lv_at hl 1 rfl) ?_
  refine law_ld hx hb hX hbl hbA hS hl hi hL 1 (by decide) rfl dL_law_198 dL_law_199 dL_law_200 dL_law_201 dL_law_202 ?_
  obtain ⟨bc, e0⟩ := hC.1
  refine f_calli (W.runV (As := [.int (iN (zz xs (i + 1)))]) (rest := []) ⟨hx, hb, hml, hown, hts⟩ (k8_go l G w (zz xs (i + 1)) hC (zz_rng xs (i + 1)) hR.1.2.1) (cwV 1 hts gL_law_X8_go rfl rfl rfl (by decide +kernel) ⟨Nat.le_of_ble_eq_true rfl, Nat.le_of_ble_eq_true rfl⟩) (f_preV hP hK 0 (by omega) 7 e0 rfl) rfl rfl hl.1 rfl (lv_room (Nat.le_of_ble_eq_true rfl)) dL_law_203 ⟨hcs.1, hcs.2⟩) hS hAA (fun r1 w1 H1 locs1 q1 hP1 hS1 => ?_)
  obtain ⟨er1, hC1, hf1⟩ := q1
  have hM1 := hM.mv hf1
  refine lv_aload_n hx hb dL_law_206 rfl (lv_at hl 2 rfl) ?_
  refine law_ld hx hb hX hbl hbA hS1 hl hi hL 1 (by decide) rfl dL_law_207 dL_law_208 dL_law_209 dL_law_210 dL_law_211 ?_
  obtain ⟨rm, mt, tm, thg, onn, two, lw, hg, sq, e59, -, -⟩ := hM1.1
  refine f_calli (W.runV (As := [.int (iN (zz xs (i + 1)))]) (rest := [.int r1]) ⟨hx, hb, hml, hown, hts⟩ (k9_go l G w1 (zz xs (i + 1)) hM1 (zz_rng xs (i + 1)) hR.1.2.1) (cwV 1 hts gL_law_X9_go rfl rfl rfl (by decide +kernel) ⟨Nat.le_of_ble_eq_true rfl, Nat.le_of_ble_eq_true rfl⟩) (f_preV hP1 hK 59 (by omega) 8 e59 rfl) rfl rfl hl.1 rfl (lv_room (Nat.le_of_ble_eq_true rfl)) dL_law_212 ⟨hcs.1, hcs.2⟩) hS1 hAA (fun r2 w2 H2 locs2 q2 hP2 hS2 => ?_)
  obtain ⟨er2, hM2, hf2⟩ := q2
  have heq : r1 = r2 := er1.trans er2.symm
  exact lv_icmp_eq (tgt := 708) hx hb dL_law_215 (by decide) (fun _ => kk w2 H2 locs2 (st_go hR (hC1.mv hf2) hM2) hP2 hS2) (fun c => absurd heq c)
set_option maxHeartbeats 4000000 in
set_option maxRecDepth 100000 in
theorem lc_back {p : Program} {l : Launch} {e : Env} {s : State} {m : MethodId} {below : List Frame} {meth : Method} {c : Code} {b L : Nat} {xs : Nat → Int32} {cells slots : Nat} {Q : State → Prop} {G : GE} (C0 : lw_At p s m meth c b L xs) (hL : L ≤ 3584) (hG : GA G) (h0 : gad G 0 = s.heap.size) (hK : KK G s) (hcs : cells ≤ 600000 ∧ slots ≤ 7302250) {i : Nat} (hi : i + 7 ≤ L) {w : WF} {H : Heap} {locs : List Loc} {ls : Array Slot} (hl : lv_has ls 4 [(0, .ref b), (1, .ref (gad G 0)), (2, .ref (gad G 59)), (3, .int (iN (i : Int)))]) (hT : LST G w) (hP : PW G w H) (hS : va_S (A9 G) s.heap H locs) (kk : ∀ (w1 : WF) (H1 : Heap) (locs1 : List Loc), LST G w1 → PW G w1 H1 → va_S (A9 G) s.heap H1 locs1 → W p l e room_1 s m #[Value.ref b] below meth c H1 locs1 cells slots Q (F0 m 708 ls [])) : W p l e room_1 s m #[Value.ref b] below meth c H locs cells slots Q (F0 m 220 ls []) := by
  obtain ⟨hx, hb, hr, hml, hown, hts0, hX, hbl, hlocks, hgv⟩ := C0
  have hb : c.code = cL_law := hb
  have hown : s.vm.findClass RL = some m.cls := hown
  have hts : ∀ w ∈ wsL_law, w.before #[Value.ref b] s = true := fun w h => hts0 w (wsL_law_in w h)
  have hbA : ¬ A9 G b := by unfold A9; omega
  have hAA : ∀ q, AA G q → A9 G q := fun q ⟨k, hk, ek⟩ => by have := hG k; unfold A9; omega
  obtain ⟨came, now, cst, cpl, csp, cnp, cstop, mbe, mpl, msp, pn, ga, hR, hC, hM⟩ := hT
  refine lv_aload_n hx hb dL_law_220 rfl (lv_at hl 1 rfl) ?_
  refine law_ld hx hb hX hbl hbA hS hl hi hL 1 (by decide) rfl dL_law_221 dL_law_222 dL_law_223 dL_law_224 dL_law_225 ?_
  obtain ⟨bc, e0⟩ := hC.1
  refine f_calli (W.runV (As := [.int (iN (zz xs (i + 1)))]) (rest := []) ⟨hx, hb, hml, hown, hts⟩ (k8_back l G w (zz xs (i + 1)) hC (zz_rng xs (i + 1)) hR.1.oks hR.1.2.1) (cwV 1 hts gL_law_X8_back rfl rfl rfl (by decide +kernel) ⟨Nat.le_of_ble_eq_true rfl, Nat.le_of_ble_eq_true rfl⟩) (f_preV hP hK 0 (by omega) 7 e0 rfl) rfl rfl hl.1 rfl (lv_room (Nat.le_of_ble_eq_true rfl)) dL_law_226 ⟨hcs.1, hcs.2⟩) hS hAA (fun r1 w1 H1 locs1 q1 hP1 hS1 => ?_)
  obtain ⟨er1, hC1, hf1⟩ := q1
  have hM1 := hM.mv hf1
  refine lv_aload_n hx hb dL_law_229 rfl (lv_at hl 2 rfl) ?_
  refine law_ld hx hb hX hbl hbA hS1 hl hi hL 1 (by decide) rfl dL_law_230 dL_law_231 dL_law_232 dL_law_233 dL_law_234 ?_
  obtain ⟨rm, mt, tm, thg, onn, two, lw, hg, sq, e59, -, -⟩ := hM1.1
  refine f_calli (W.runV (As := [.int (iN (zz xs (i + 1)))]) (rest := [.int r1]) ⟨hx, hb, hml, hown, hts⟩ (k9_back l G w1 (zz xs (i + 1)) hM1 (zz_rng xs (i + 1)) hR.ivt.oks hR.1.2.1 hR.ivt.2.2.2) (cwV 1 hts gL_law_X9_back rfl rfl rfl (by decide +kernel) ⟨Nat.le_of_ble_eq_true rfl, Nat.le_of_ble_eq_true rfl⟩) (f_preV hP1 hK 59 (by omega) 8 e59 rfl) rfl rfl hl.1 rfl (lv_room (Nat.le_of_ble_eq_true rfl)) dL_law_235 ⟨hcs.1, hcs.2⟩) hS1 hAA (fun r2 w2 H2 locs2 q2 hP2 hS2 => ?_)
  obtain ⟨er2, hM2, hf2⟩ := q2
  have heq : r1 = r2 := er1.trans er2.symm
  exact lv_icmp_eq (tgt := 708) hx hb dL_law_238 (by decide) (fun _ => kk w2 H2 locs2 (st_back hR (hC1.mv hf2) hM2) hP2 hS2) (fun c => absurd heq c)
set_option maxHeartbeats 4000000 in
set_option maxRecDepth 100000 in
theorem lc_count {p : Program} {l : Launch} {e : Env} {s : State} {m : MethodId} {below : List Frame} {meth : Method} {c : Code} {b L : Nat} {xs : Nat → Int32} {cells slots : Nat} {Q : State → Prop} {G : GE} (C0 : lw_At p s m meth c b L xs) (hL : L ≤ 3584) (hG : GA G) (h0 : gad G 0 = s.heap.size) (hK : KK G s) (hcs : cells ≤ 600000 ∧ slots ≤ 7302250) {i : Nat} (hi : i + 7 ≤ L) {w : WF} {H : Heap} {locs : List Loc} {ls : Array Slot} (hl : lv_has ls 4 [(0, .ref b), (1, .ref (gad G 0)), (2, .ref (gad G 59)), (3, .int (iN (i : Int)))]) (hT : LST G w) (hP : PW G w H) (hS : va_S (A9 G) s.heap H locs) (kk : ∀ (w1 : WF) (H1 : Heap) (locs1 : List Loc), LST G w1 → PW G w1 H1 → va_S (A9 G) s.heap H1 locs1 → W p l e room_1 s m #[Value.ref b] below meth c H1 locs1 cells slots Q (F0 m 708 ls [])) : W p l e room_1 s m #[Value.ref b] below meth c H locs cells slots Q (F0 m 243 ls []) := by
  obtain ⟨hx, hb, hr, hml, hown, hts0, hX, hbl, hlocks, hgv⟩ := C0
  have hb : c.code = cL_law := hb
  have hown : s.vm.findClass RL = some m.cls := hown
  have hts : ∀ w ∈ wsL_law, w.before #[Value.ref b] s = true := fun w h => hts0 w (wsL_law_in w h)
  have hbA : ¬ A9 G b := by unfold A9; omega
  have hAA : ∀ q, AA G q → A9 G q := fun q ⟨k, hk, ek⟩ => by have := hG k; unfold A9; omega
  obtain ⟨came, now, cst, cpl, csp, cnp, cstop, mbe, mpl, msp, pn, ga, hR, hC, hM⟩ := hT
  refine lv_aload_n hx hb dL_law_243 rfl (lv_at hl 1 rfl) ?_
  refine law_ld hx hb hX hbl hbA hS hl hi hL 1 (by decide) rfl dL_law_244 dL_law_245 dL_law_246 dL_law_247 dL_law_248 ?_
  obtain ⟨bc, e0⟩ := hC.1
  refine f_calli (W.runV (As := [.int (iN (zz xs (i + 1)))]) (rest := []) ⟨hx, hb, hml, hown, hts⟩ (k8_count l G w (zz xs (i + 1)) hC hR.1.oks hR.1.2.1 (zz_rng xs (i + 1))) (cwV 1 hts gL_law_X8_count rfl rfl rfl (by decide +kernel) ⟨Nat.le_of_ble_eq_true rfl, Nat.le_of_ble_eq_true rfl⟩) (f_preV hP hK 0 (by omega) 7 e0 rfl) rfl rfl hl.1 rfl (lv_room (Nat.le_of_ble_eq_true rfl)) dL_law_249 ⟨hcs.1, hcs.2⟩) hS hAA (fun r1 w1 H1 locs1 q1 hP1 hS1 => ?_)
  obtain ⟨er1, hC1, hf1⟩ := q1
  have hM1 := hM.mv hf1
  refine lv_aload_n hx hb dL_law_252 rfl (lv_at hl 2 rfl) ?_
  refine law_ld hx hb hX hbl hbA hS1 hl hi hL 1 (by decide) rfl dL_law_253 dL_law_254 dL_law_255 dL_law_256 dL_law_257 ?_
  obtain ⟨rm, mt, tm, thg, onn, two, lw, hg, sq, e59, -, -⟩ := hM1.1
  refine f_calli (W.runV (As := [.int (iN (zz xs (i + 1)))]) (rest := [.int r1]) ⟨hx, hb, hml, hown, hts⟩ (k9_count l G w1 (zz xs (i + 1)) hM1 hR.ivt.oks hR.ivt.okm.2.2 hR.1.2.1 (zz_rng xs (i + 1))) (cwV 1 hts gL_law_X9_count rfl rfl rfl (by decide +kernel) ⟨Nat.le_of_ble_eq_true rfl, Nat.le_of_ble_eq_true rfl⟩) (f_preV hP1 hK 59 (by omega) 8 e59 rfl) rfl rfl hl.1 rfl (lv_room (Nat.le_of_ble_eq_true rfl)) dL_law_258 ⟨hcs.1, hcs.2⟩) hS1 hAA (fun r2 w2 H2 locs2 q2 hP2 hS2 => ?_)
  obtain ⟨er2, hM2, hf2⟩ := q2
  have heq : r1 = r2 := er1.trans ((congrArg iN (a_count hR (zz xs (i + 1)))).trans er2.symm)
  exact lv_icmp_eq (tgt := 708) hx hb dL_law_261 (by decide) (fun _ => kk w2 H2 locs2 ⟨_, _, _, _, _, _, _, _, _, _, _, _, hR, hC1.mv hf2, hM2⟩ hP2 hS2) (fun c => absurd heq c)
set_option maxHeartbeats 4000000 in
set_option maxRecDepth 100000 in
theorem lc_told {p : Program} {l : Launch} {e : Env} {s : State} {m : MethodId} {below : List Frame} {meth : Method} {c : Code} {b L : Nat} {xs : Nat → Int32} {cells slots : Nat} {Q : State → Prop} {G : GE} (C0 : lw_At p s m meth c b L xs) (hL : L ≤ 3584) (hG : GA G) (h0 : gad G 0 = s.heap.size) (hK : KK G s) (hcs : cells ≤ 600000 ∧ slots ≤ 7302250) {i : Nat} (hi : i + 7 ≤ L) {w : WF} {H : Heap} {locs : List Loc} {ls : Array Slot} (hl : lv_has ls 4 [(0, .ref b), (1, .ref (gad G 0)), (2, .ref (gad G 59)), (3, .int (iN (i : Int)))]) (hT : LST G w) (hP : PW G w H) (hS : va_S (A9 G) s.heap H locs) (kk : ∀ (w1 : WF) (H1 : Heap) (locs1 : List Loc), LST G w1 → PW G w1 H1 → va_S (A9 G) s.heap H1 locs1 → W p l e room_1 s m #[Value.ref b] below meth c H1 locs1 cells slots Q (F0 m 708 ls [])) : W p l e room_1 s m #[Value.ref b] below meth c H locs cells slots Q (F0 m 266 ls []) := by
  obtain ⟨hx, hb, hr, hml, hown, hts0, hX, hbl, hlocks, hgv⟩ := C0
  have hb : c.code = cL_law := hb
  have hown : s.vm.findClass RL = some m.cls := hown
  have hts : ∀ w ∈ wsL_law, w.before #[Value.ref b] s = true := fun w h => hts0 w (wsL_law_in w h)
  have hbA : ¬ A9 G b := by unfold A9; omega
  have hAA : ∀ q, AA G q → A9 G q := fun q ⟨k, hk, ek⟩ => by have := hG k; unfold A9; omega
  obtain ⟨came, now, cst, cpl, csp, cnp, cstop, mbe, mpl, msp, pn, ga, hR, hC, hM⟩ := hT
  refine lv_aload_n hx hb dL_law_266 rfl (lv_at hl 1 rfl) ?_
  refine law_ld hx hb hX hbl hbA hS hl hi hL 1 (by decide) rfl dL_law_267 dL_law_268 dL_law_269 dL_law_270 dL_law_271 ?_
  refine law_ld hx hb hX hbl hbA hS hl hi hL 2 (by decide) rfl dL_law_272 dL_law_273 dL_law_274 dL_law_275 dL_law_276 ?_
  obtain ⟨bc, e0⟩ := hC.1
  refine vp_callSi (W.runV (As := [.int (iN (zz xs (i + 1))), .int (iN (zz xs (i + 2)))]) (rest := []) ⟨hx, hb, hml, hown, hts⟩ (c_X8_told l G w came now bc (zz xs (i + 1)) (zz xs (i + 2)) cst cpl csp cnp cstop e0 hC.2.1 (zz_rng xs (i + 1)) (zz_rng xs (i + 2)) hR.1.oks) (cwV 2 hts gL_law_X8_told rfl rfl rfl (by decide +kernel) ⟨Nat.le_of_ble_eq_true rfl, Nat.le_of_ble_eq_true rfl⟩) (f_preV hP hK 0 (by omega) 7 e0 rfl) rfl rfl hl.1 rfl (lv_room (Nat.le_of_ble_eq_true rfl)) dL_law_277 ⟨hcs.1, hcs.2⟩) (fun r1 er1 => ?_)
  refine lv_aload_n hx hb dL_law_280 rfl (lv_at hl 2 rfl) ?_
  refine law_ld hx hb hX hbl hbA hS hl hi hL 1 (by decide) rfl dL_law_281 dL_law_282 dL_law_283 dL_law_284 dL_law_285 ?_
  refine law_ld hx hb hX hbl hbA hS hl hi hL 2 (by decide) rfl dL_law_286 dL_law_287 dL_law_288 dL_law_289 dL_law_290 ?_
  obtain ⟨rm, mt, tm, thg, onn, two, lw, hg, sq, e59, -, -⟩ := hM.1
  obtain ⟨e60, e61, e62, e63, e64⟩ := hM.2.1
  refine vp_callSi (W.runV (As := [.int (iN (zz xs (i + 1))), .int (iN (zz xs (i + 2)))]) (rest := [.int r1]) ⟨hx, hb, hml, hown, hts⟩ (c_X9_told l G w now came rm mt tm thg onn two lw hg sq ga pn mbe mpl msp (zz xs (i + 1)) (zz xs (i + 2)) e59 e60 e61 e62 e63 e64 (zz_rng xs (i + 1)) (zz_rng xs (i + 2)) hR.ivt.oks) (cwV 2 hts gL_law_X9_told rfl rfl rfl (by decide +kernel) ⟨Nat.le_of_ble_eq_true rfl, Nat.le_of_ble_eq_true rfl⟩) (f_preV hP hK 59 (by omega) 8 e59 rfl) rfl rfl hl.1 rfl (lv_room (Nat.le_of_ble_eq_true rfl)) dL_law_291 ⟨hcs.1, hcs.2⟩) (fun r2 er2 => ?_)
  have heq : r1 = r2 := er1.trans ((congrArg iN (a_told hR (zz xs (i + 1)) (zz xs (i + 2)))).trans er2.symm)
  exact lv_icmp_eq (tgt := 708) hx hb dL_law_294 (by decide) (fun _ => kk w H locs ⟨_, _, _, _, _, _, _, _, _, _, _, _, hR, hC, hM⟩ hP hS) (fun c => absurd heq c)
set_option maxHeartbeats 4000000 in
set_option maxRecDepth 100000 in
theorem lc_place {p : Program} {l : Launch} {e : Env} {s : State} {m : MethodId} {below : List Frame} {meth : Method} {c : Code} {b L : Nat} {xs : Nat → Int32} {cells slots : Nat} {Q : State → Prop} {G : GE} (C0 : lw_At p s m meth c b L xs) (hL : L ≤ 3584) (hG : GA G) (h0 : gad G 0 = s.heap.size) (hK : KK G s) (hcs : cells ≤ 600000 ∧ slots ≤ 7302250) {i : Nat} (hi : i + 7 ≤ L) {w : WF} {H : Heap} {locs : List Loc} {ls : Array Slot} (hl : lv_has ls 4 [(0, .ref b), (1, .ref (gad G 0)), (2, .ref (gad G 59)), (3, .int (iN (i : Int)))]) (hT : LST G w) (hP : PW G w H) (hS : va_S (A9 G) s.heap H locs) (kk : ∀ (w1 : WF) (H1 : Heap) (locs1 : List Loc), LST G w1 → PW G w1 H1 → va_S (A9 G) s.heap H1 locs1 → W p l e room_1 s m #[Value.ref b] below meth c H1 locs1 cells slots Q (F0 m 708 ls [])) : W p l e room_1 s m #[Value.ref b] below meth c H locs cells slots Q (F0 m 299 ls []) := by
  obtain ⟨hx, hb, hr, hml, hown, hts0, hX, hbl, hlocks, hgv⟩ := C0
  have hb : c.code = cL_law := hb
  have hown : s.vm.findClass RL = some m.cls := hown
  have hts : ∀ w ∈ wsL_law, w.before #[Value.ref b] s = true := fun w h => hts0 w (wsL_law_in w h)
  have hbA : ¬ A9 G b := by unfold A9; omega
  have hAA : ∀ q, AA G q → A9 G q := fun q ⟨k, hk, ek⟩ => by have := hG k; unfold A9; omega
  obtain ⟨came, now, cst, cpl, csp, cnp, cstop, mbe, mpl, msp, pn, ga, hR, hC, hM⟩ := hT
  refine lv_aload_n hx hb dL_law_299 rfl (lv_at hl 1 rfl) ?_
  refine law_ld hx hb hX hbl hbA hS hl hi hL 1 (by decide) rfl dL_law_300 dL_law_301 dL_law_302 dL_law_303 dL_law_304 ?_
  refine law_ld hx hb hX hbl hbA hS hl hi hL 2 (by decide) rfl dL_law_305 dL_law_306 dL_law_307 dL_law_308 dL_law_309 ?_
  refine law_ld hx hb hX hbl hbA hS hl hi hL 3 (by decide) rfl dL_law_310 dL_law_311 dL_law_312 dL_law_313 dL_law_314 ?_
  refine law_ld hx hb hX hbl hbA hS hl hi hL 4 (by decide) rfl dL_law_315 dL_law_316 dL_law_317 dL_law_318 dL_law_319 ?_
  obtain ⟨bc, e0⟩ := hC.1
  refine vp_callSl (W.runV (As := [.int (iN (zz xs (i + 1))), .int (iN (zz xs (i + 2))), .int (iN (zz xs (i + 3))), .int (iN (zz xs (i + 4)))]) (rest := []) ⟨hx, hb, hml, hown, hts⟩ (c_X8_place l G w came now bc (zz xs (i + 1)) (zz xs (i + 2)) (zz xs (i + 3)) (zz xs (i + 4)) cst cpl csp cnp cstop e0 hC.2.1 (zz_rng xs (i + 1)) (zz_rng xs (i + 2)) (zz_rng xs (i + 3)) (zz_rng xs (i + 4)) hR.1.oks) (cwV 4 hts gL_law_X8_place rfl rfl rfl (by decide +kernel) ⟨Nat.le_of_ble_eq_true rfl, Nat.le_of_ble_eq_true rfl⟩) (f_preV hP hK 0 (by omega) 7 e0 rfl) rfl rfl hl.1 rfl (lv_room (Nat.le_of_ble_eq_true rfl)) dL_law_320 ⟨hcs.1, hcs.2⟩) (fun r1 er1 => ?_)
  refine lv_aload_n hx hb dL_law_323 rfl (lv_at hl 2 rfl) ?_
  refine law_ld hx hb hX hbl hbA hS hl hi hL 1 (by decide) rfl dL_law_324 dL_law_325 dL_law_326 dL_law_327 dL_law_328 ?_
  refine law_ld hx hb hX hbl hbA hS hl hi hL 2 (by decide) rfl dL_law_329 dL_law_330 dL_law_331 dL_law_332 dL_law_333 ?_
  refine law_ld hx hb hX hbl hbA hS hl hi hL 3 (by decide) rfl dL_law_334 dL_law_335 dL_law_336 dL_law_337 dL_law_338 ?_
  refine law_ld hx hb hX hbl hbA hS hl hi hL 4 (by decide) rfl dL_law_339 dL_law_340 dL_law_341 dL_law_342 dL_law_343 ?_
  obtain ⟨rm, mt, tm, thg, onn, two, lw, hg, sq, e59, -, -⟩ := hM.1
  obtain ⟨e60, e61, e62, e63, e64⟩ := hM.2.1
  refine vp_callSl (W.runV (As := [.int (iN (zz xs (i + 1))), .int (iN (zz xs (i + 2))), .int (iN (zz xs (i + 3))), .int (iN (zz xs (i + 4)))]) (rest := [.long r1]) ⟨hx, hb, hml, hown, hts⟩ (c_X9_place l G w now came rm mt tm thg onn two lw hg sq ga pn mbe mpl msp (zz xs (i + 1)) (zz xs (i + 2)) (zz xs (i + 3)) (zz xs (i + 4)) e59 e60 e61 e62 e63 e64 (zz_rng xs (i + 1)) (zz_rng xs (i + 2)) (zz_rng xs (i + 3)) (zz_rng xs (i + 4)) hR.ivt.oks) (cwV 4 hts gL_law_X9_place rfl rfl rfl (by decide +kernel) ⟨Nat.le_of_ble_eq_true rfl, Nat.le_of_ble_eq_true rfl⟩) (f_preV hP hK 59 (by omega) 8 e59 rfl) rfl rfl hl.1 rfl (lv_room (Nat.le_of_ble_eq_true rfl)) dL_law_344 ⟨hcs.1, hcs.2⟩) (fun r2 er2 => ?_)
  have heq : r1 = r2 := er1.trans ((congrArg jN (a_place hR (zz xs (i + 1)) (zz xs (i + 2)) (zz xs (i + 3)) (zz xs (i + 4)))).trans er2.symm)
  subst heq
  have hrj : r1 = jN r1.toInt := (jN_of r1).symm
  have hj1 := Int64.le_toInt r1
  have hj2 := Int64.toInt_lt r1
  generalize r1.toInt = z at hrj hj1 hj2
  subst hrj
  refine n_lcmp hx hb (by omega) (by omega) (by omega) (by omega) dL_law_347 ?_
  exact n_ifc_eq (tgt := 708) hx hb dL_law_348 (by decide) (fun _ => kk w H locs ⟨_, _, _, _, _, _, _, _, _, _, _, _, hR, hC, hM⟩ hP hS) (fun c => absurd rfl c)
set_option maxHeartbeats 4000000 in
set_option maxRecDepth 100000 in
theorem lc_order {p : Program} {l : Launch} {e : Env} {s : State} {m : MethodId} {below : List Frame} {meth : Method} {c : Code} {b L : Nat} {xs : Nat → Int32} {cells slots : Nat} {Q : State → Prop} {G : GE} (C0 : lw_At p s m meth c b L xs) (hL : L ≤ 3584) (hG : GA G) (h0 : gad G 0 = s.heap.size) (hK : KK G s) (hcs : cells ≤ 600000 ∧ slots ≤ 7302250) {i : Nat} (hi : i + 7 ≤ L) {w : WF} {H : Heap} {locs : List Loc} {ls : Array Slot} (hl : lv_has ls 4 [(0, .ref b), (1, .ref (gad G 0)), (2, .ref (gad G 59)), (3, .int (iN (i : Int)))]) (hT : LST G w) (hP : PW G w H) (hS : va_S (A9 G) s.heap H locs) (kk : ∀ (w1 : WF) (H1 : Heap) (locs1 : List Loc), LST G w1 → PW G w1 H1 → va_S (A9 G) s.heap H1 locs1 → W p l e room_1 s m #[Value.ref b] below meth c H1 locs1 cells slots Q (F0 m 708 ls [])) : W p l e room_1 s m #[Value.ref b] below meth c H locs cells slots Q (F0 m 353 ls []) := by
  obtain ⟨hx, hb, hr, hml, hown, hts0, hX, hbl, hlocks, hgv⟩ := C0
  have hb : c.code = cL_law := hb
  have hown : s.vm.findClass RL = some m.cls := hown
  have hts : ∀ w ∈ wsL_law, w.before #[Value.ref b] s = true := fun w h => hts0 w (wsL_law_in w h)
  have hbA : ¬ A9 G b := by unfold A9; omega
  have hAA : ∀ q, AA G q → A9 G q := fun q ⟨k, hk, ek⟩ => by have := hG k; unfold A9; omega
  obtain ⟨came, now, cst, cpl, csp, cnp, cstop, mbe, mpl, msp, pn, ga, hR, hC, hM⟩ := hT
  refine lv_aload_n hx hb dL_law_353 rfl (lv_at hl 1 rfl) ?_
  refine law_ld hx hb hX hbl hbA hS hl hi hL 1 (by decide) rfl dL_law_354 dL_law_355 dL_law_356 dL_law_357 dL_law_358 ?_
  refine law_ld hx hb hX hbl hbA hS hl hi hL 2 (by decide) rfl dL_law_359 dL_law_360 dL_law_361 dL_law_362 dL_law_363 ?_
  refine law_ld hx hb hX hbl hbA hS hl hi hL 3 (by decide) rfl dL_law_364 dL_law_365 dL_law_366 dL_law_367 dL_law_368 ?_
  obtain ⟨bc, e0⟩ := hC.1
  refine f_calli (W.runV (As := [.int (iN (zz xs (i + 1))), .int (iN (zz xs (i + 2))), .int (iN (zz xs (i + 3)))]) (rest := []) ⟨hx, hb, hml, hown, hts⟩ (k8_order l G w (zz xs (i + 1)) (zz xs (i + 2)) (zz xs (i + 3)) hC (zz_rng xs (i + 1)) (zz_rng xs (i + 2)) (zz_rng xs (i + 3)) hR.1.oks) (cwV 3 hts gL_law_X8_order rfl rfl rfl (by decide +kernel) ⟨Nat.le_of_ble_eq_true rfl, Nat.le_of_ble_eq_true rfl⟩) (f_preV hP hK 0 (by omega) 7 e0 rfl) rfl rfl hl.1 rfl (lv_room (Nat.le_of_ble_eq_true rfl)) dL_law_369 ⟨hcs.1, hcs.2⟩) hS hAA (fun r1 w1 H1 locs1 q1 hP1 hS1 => ?_)
  obtain ⟨er1, hC1, hf1⟩ := q1
  have hM1 := hM.mv hf1
  refine lv_aload_n hx hb dL_law_372 rfl (lv_at hl 2 rfl) ?_
  refine law_ld hx hb hX hbl hbA hS1 hl hi hL 1 (by decide) rfl dL_law_373 dL_law_374 dL_law_375 dL_law_376 dL_law_377 ?_
  refine law_ld hx hb hX hbl hbA hS1 hl hi hL 2 (by decide) rfl dL_law_378 dL_law_379 dL_law_380 dL_law_381 dL_law_382 ?_
  refine law_ld hx hb hX hbl hbA hS1 hl hi hL 3 (by decide) rfl dL_law_383 dL_law_384 dL_law_385 dL_law_386 dL_law_387 ?_
  obtain ⟨rm, mt, tm, thg, onn, two, lw, hg, sq, e59, -, -⟩ := hM1.1
  refine f_calli (W.runV (As := [.int (iN (zz xs (i + 1))), .int (iN (zz xs (i + 2))), .int (iN (zz xs (i + 3)))]) (rest := [.int r1]) ⟨hx, hb, hml, hown, hts⟩ (k9_order l G w1 (zz xs (i + 1)) (zz xs (i + 2)) (zz xs (i + 3)) hM1 (zz_rng xs (i + 1)) (zz_rng xs (i + 2)) (zz_rng xs (i + 3)) hR.ivt.oks) (cwV 3 hts gL_law_X9_order rfl rfl rfl (by decide +kernel) ⟨Nat.le_of_ble_eq_true rfl, Nat.le_of_ble_eq_true rfl⟩) (f_preV hP1 hK 59 (by omega) 8 e59 rfl) rfl rfl hl.1 rfl (lv_room (Nat.le_of_ble_eq_true rfl)) dL_law_388 ⟨hcs.1, hcs.2⟩) hS1 hAA (fun r2 w2 H2 locs2 q2 hP2 hS2 => ?_)
  obtain ⟨er2, hM2, hf2⟩ := q2
  have heq : r1 = r2 := er1.trans ((congrArg iN (a_order hR (zz xs (i + 1)) (zz xs (i + 2)) (zz xs (i + 3)))).trans er2.symm)
  exact lv_icmp_eq (tgt := 708) hx hb dL_law_391 (by decide) (fun _ => kk w2 H2 locs2 ⟨_, _, _, _, _, _, _, _, _, _, _, _, hR, hC1.mv hf2, hM2⟩ hP2 hS2) (fun c => absurd heq c)
set_option maxHeartbeats 4000000 in
set_option maxRecDepth 100000 in
theorem lc_kept {p : Program} {l : Launch} {e : Env} {s : State} {m : MethodId} {below : List Frame} {meth : Method} {c : Code} {b L : Nat} {xs : Nat → Int32} {cells slots : Nat} {Q : State → Prop} {G : GE} (C0 : lw_At p s m meth c b L xs) (hL : L ≤ 3584) (hG : GA G) (h0 : gad G 0 = s.heap.size) (hK : KK G s) (hcs : cells ≤ 600000 ∧ slots ≤ 7302250) {i : Nat} (hi : i + 7 ≤ L) {w : WF} {H : Heap} {locs : List Loc} {ls : Array Slot} (hl : lv_has ls 4 [(0, .ref b), (1, .ref (gad G 0)), (2, .ref (gad G 59)), (3, .int (iN (i : Int)))]) (hT : LST G w) (hP : PW G w H) (hS : va_S (A9 G) s.heap H locs) (kk : ∀ (w1 : WF) (H1 : Heap) (locs1 : List Loc), LST G w1 → PW G w1 H1 → va_S (A9 G) s.heap H1 locs1 → W p l e room_1 s m #[Value.ref b] below meth c H1 locs1 cells slots Q (F0 m 708 ls [])) : W p l e room_1 s m #[Value.ref b] below meth c H locs cells slots Q (F0 m 396 ls []) := by
  obtain ⟨hx, hb, hr, hml, hown, hts0, hX, hbl, hlocks, hgv⟩ := C0
  have hb : c.code = cL_law := hb
  have hown : s.vm.findClass RL = some m.cls := hown
  have hts : ∀ w ∈ wsL_law, w.before #[Value.ref b] s = true := fun w h => hts0 w (wsL_law_in w h)
  have hbA : ¬ A9 G b := by unfold A9; omega
  have hAA : ∀ q, AA G q → A9 G q := fun q ⟨k, hk, ek⟩ => by have := hG k; unfold A9; omega
  obtain ⟨came, now, cst, cpl, csp, cnp, cstop, mbe, mpl, msp, pn, ga, hR, hC, hM⟩ := hT
  refine lv_aload_n hx hb dL_law_396 rfl (lv_at hl 1 rfl) ?_
  refine law_ld hx hb hX hbl hbA hS hl hi hL 1 (by decide) rfl dL_law_397 dL_law_398 dL_law_399 dL_law_400 dL_law_401 ?_
  obtain ⟨bc, e0⟩ := hC.1
  refine f_calli (W.runV (As := [.int (iN (zz xs (i + 1)))]) (rest := []) ⟨hx, hb, hml, hown, hts⟩ (k8_kept l G w (zz xs (i + 1)) hC (zz_rng xs (i + 1)) hR.1.oks hR.1.2.1) (cwV 1 hts gL_law_X8_kept rfl rfl rfl (by decide +kernel) ⟨Nat.le_of_ble_eq_true rfl, Nat.le_of_ble_eq_true rfl⟩) (f_preV hP hK 0 (by omega) 7 e0 rfl) rfl rfl hl.1 rfl (lv_room (Nat.le_of_ble_eq_true rfl)) dL_law_402 ⟨hcs.1, hcs.2⟩) hS hAA (fun r1 w1 H1 locs1 q1 hP1 hS1 => ?_)
  obtain ⟨er1, hC1, hf1⟩ := q1
  have hM1 := hM.mv hf1
  refine lv_aload_n hx hb dL_law_405 rfl (lv_at hl 2 rfl) ?_
  refine law_ld hx hb hX hbl hbA hS1 hl hi hL 1 (by decide) rfl dL_law_406 dL_law_407 dL_law_408 dL_law_409 dL_law_410 ?_
  obtain ⟨rm, mt, tm, thg, onn, two, lw, hg, sq, e59, -, -⟩ := hM1.1
  refine f_calli (W.runV (As := [.int (iN (zz xs (i + 1)))]) (rest := [.int r1]) ⟨hx, hb, hml, hown, hts⟩ (k9_kept l G w1 (zz xs (i + 1)) hM1 (zz_rng xs (i + 1)) hR.ivt.oks hR.1.2.1) (cwV 1 hts gL_law_X9_kept rfl rfl rfl (by decide +kernel) ⟨Nat.le_of_ble_eq_true rfl, Nat.le_of_ble_eq_true rfl⟩) (f_preV hP1 hK 59 (by omega) 8 e59 rfl) rfl rfl hl.1 rfl (lv_room (Nat.le_of_ble_eq_true rfl)) dL_law_411 ⟨hcs.1, hcs.2⟩) hS1 hAA (fun r2 w2 H2 locs2 q2 hP2 hS2 => ?_)
  obtain ⟨er2, hM2, hf2⟩ := q2
  have heq : r1 = r2 := er1.trans ((congrArg iN (a_kept hR (zz xs (i + 1)))).trans er2.symm)
  exact lv_icmp_eq (tgt := 708) hx hb dL_law_414 (by decide) (fun _ => kk w2 H2 locs2 ⟨_, _, _, _, _, _, _, _, _, _, _, _, hR, hC1.mv hf2, hM2⟩ hP2 hS2) (fun c => absurd heq c)
set_option maxHeartbeats 4000000 in
set_option maxRecDepth 100000 in
theorem lc_at {p : Program} {l : Launch} {e : Env} {s : State} {m : MethodId} {below : List Frame} {meth : Method} {c : Code} {b L : Nat} {xs : Nat → Int32} {cells slots : Nat} {Q : State → Prop} {G : GE} (C0 : lw_At p s m meth c b L xs) (hL : L ≤ 3584) (hG : GA G) (h0 : gad G 0 = s.heap.size) (hK : KK G s) (hcs : cells ≤ 600000 ∧ slots ≤ 7302250) {i : Nat} (hi : i + 7 ≤ L) {w : WF} {H : Heap} {locs : List Loc} {ls : Array Slot} (hl : lv_has ls 4 [(0, .ref b), (1, .ref (gad G 0)), (2, .ref (gad G 59)), (3, .int (iN (i : Int)))]) (hT : LST G w) (hP : PW G w H) (hS : va_S (A9 G) s.heap H locs) (kk : ∀ (w1 : WF) (H1 : Heap) (locs1 : List Loc), LST G w1 → PW G w1 H1 → va_S (A9 G) s.heap H1 locs1 → W p l e room_1 s m #[Value.ref b] below meth c H1 locs1 cells slots Q (F0 m 708 ls [])) : W p l e room_1 s m #[Value.ref b] below meth c H locs cells slots Q (F0 m 419 ls []) := by
  obtain ⟨hx, hb, hr, hml, hown, hts0, hX, hbl, hlocks, hgv⟩ := C0
  have hb : c.code = cL_law := hb
  have hown : s.vm.findClass RL = some m.cls := hown
  have hts : ∀ w ∈ wsL_law, w.before #[Value.ref b] s = true := fun w h => hts0 w (wsL_law_in w h)
  have hbA : ¬ A9 G b := by unfold A9; omega
  have hAA : ∀ q, AA G q → A9 G q := fun q ⟨k, hk, ek⟩ => by have := hG k; unfold A9; omega
  obtain ⟨came, now, cst, cpl, csp, cnp, cstop, mbe, mpl, msp, pn, ga, hR, hC, hM⟩ := hT
  refine lv_aload_n hx hb dL_law_419 rfl (lv_at hl 1 rfl) ?_
  refine law_ld hx hb hX hbl hbA hS hl hi hL 1 (by decide) rfl dL_law_420 dL_law_421 dL_law_422 dL_law_423 dL_law_424 ?_
  refine law_ld hx hb hX hbl hbA hS hl hi hL 2 (by decide) rfl dL_law_425 dL_law_426 dL_law_427 dL_law_428 dL_law_429 ?_
  refine law_ld hx hb hX hbl hbA hS hl hi hL 3 (by decide) rfl dL_law_430 dL_law_431 dL_law_432 dL_law_433 dL_law_434 ?_
  refine law_ld hx hb hX hbl hbA hS hl hi hL 4 (by decide) rfl dL_law_435 dL_law_436 dL_law_437 dL_law_438 dL_law_439 ?_
  obtain ⟨bc, e0⟩ := hC.1
  refine f_calli (W.runV (As := [.int (iN (zz xs (i + 1))), .int (iN (zz xs (i + 2))), .int (iN (zz xs (i + 3))), .int (iN (zz xs (i + 4)))]) (rest := []) ⟨hx, hb, hml, hown, hts⟩ (k8_at l G w (zz xs (i + 1)) (zz xs (i + 2)) (zz xs (i + 3)) (zz xs (i + 4)) hC (zz_rng xs (i + 1)) (zz_rng xs (i + 2)) (zz_rng xs (i + 3)) (zz_rng xs (i + 4)) hR.1.oks) (cwV 4 hts gL_law_X8_at rfl rfl rfl (by decide +kernel) ⟨Nat.le_of_ble_eq_true rfl, Nat.le_of_ble_eq_true rfl⟩) (f_preV hP hK 0 (by omega) 7 e0 rfl) rfl rfl hl.1 rfl (lv_room (Nat.le_of_ble_eq_true rfl)) dL_law_440 ⟨hcs.1, hcs.2⟩) hS hAA (fun r1 w1 H1 locs1 q1 hP1 hS1 => ?_)
  obtain ⟨er1, hC1, hf1⟩ := q1
  have hM1 := hM.mv hf1
  refine lv_aload_n hx hb dL_law_443 rfl (lv_at hl 2 rfl) ?_
  refine law_ld hx hb hX hbl hbA hS1 hl hi hL 1 (by decide) rfl dL_law_444 dL_law_445 dL_law_446 dL_law_447 dL_law_448 ?_
  refine law_ld hx hb hX hbl hbA hS1 hl hi hL 2 (by decide) rfl dL_law_449 dL_law_450 dL_law_451 dL_law_452 dL_law_453 ?_
  refine law_ld hx hb hX hbl hbA hS1 hl hi hL 3 (by decide) rfl dL_law_454 dL_law_455 dL_law_456 dL_law_457 dL_law_458 ?_
  refine law_ld hx hb hX hbl hbA hS1 hl hi hL 4 (by decide) rfl dL_law_459 dL_law_460 dL_law_461 dL_law_462 dL_law_463 ?_
  obtain ⟨rm, mt, tm, thg, onn, two, lw, hg, sq, e59, -, -⟩ := hM1.1
  refine f_calli (W.runV (As := [.int (iN (zz xs (i + 1))), .int (iN (zz xs (i + 2))), .int (iN (zz xs (i + 3))), .int (iN (zz xs (i + 4)))]) (rest := [.int r1]) ⟨hx, hb, hml, hown, hts⟩ (k9_at l G w1 (zz xs (i + 1)) (zz xs (i + 2)) (zz xs (i + 3)) (zz xs (i + 4)) hM1 (zz_rng xs (i + 1)) (zz_rng xs (i + 2)) (zz_rng xs (i + 3)) (zz_rng xs (i + 4)) hR.ivt.oks) (cwV 4 hts gL_law_X9_at rfl rfl rfl (by decide +kernel) ⟨Nat.le_of_ble_eq_true rfl, Nat.le_of_ble_eq_true rfl⟩) (f_preV hP1 hK 59 (by omega) 8 e59 rfl) rfl rfl hl.1 rfl (lv_room (Nat.le_of_ble_eq_true rfl)) dL_law_464 ⟨hcs.1, hcs.2⟩) hS1 hAA (fun r2 w2 H2 locs2 q2 hP2 hS2 => ?_)
  obtain ⟨er2, hM2, hf2⟩ := q2
  have heq : r1 = r2 := er1.trans ((congrArg iN (a_at hR (zz xs (i + 1)) (zz xs (i + 2)) (zz xs (i + 3)) (zz xs (i + 4)))).trans er2.symm)
  exact lv_icmp_eq (tgt := 708) hx hb dL_law_467 (by decide) (fun _ => kk w2 H2 locs2 ⟨_, _, _, _, _, _, _, _, _, _, _, _, hR, hC1.mv hf2, hM2⟩ hP2 hS2) (fun c => absurd heq c)
set_option maxHeartbeats 4000000 in
set_option maxRecDepth 100000 in
theorem lc_meeting {p : Program} {l : Launch} {e : Env} {s : State} {m : MethodId} {below : List Frame} {meth : Method} {c : Code} {b L : Nat} {xs : Nat → Int32} {cells slots : Nat} {Q : State → Prop} {G : GE} (C0 : lw_At p s m meth c b L xs) (hL : L ≤ 3584) (hG : GA G) (h0 : gad G 0 = s.heap.size) (hK : KK G s) (hcs : cells ≤ 600000 ∧ slots ≤ 7302250) {i : Nat} (hi : i + 7 ≤ L) {w : WF} {H : Heap} {locs : List Loc} {ls : Array Slot} (hl : lv_has ls 4 [(0, .ref b), (1, .ref (gad G 0)), (2, .ref (gad G 59)), (3, .int (iN (i : Int)))]) (hT : LST G w) (hP : PW G w H) (hS : va_S (A9 G) s.heap H locs) (kk : ∀ (w1 : WF) (H1 : Heap) (locs1 : List Loc), LST G w1 → PW G w1 H1 → va_S (A9 G) s.heap H1 locs1 → W p l e room_1 s m #[Value.ref b] below meth c H1 locs1 cells slots Q (F0 m 708 ls [])) : W p l e room_1 s m #[Value.ref b] below meth c H locs cells slots Q (F0 m 472 ls []) := by
  obtain ⟨hx, hb, hr, hml, hown, hts0, hX, hbl, hlocks, hgv⟩ := C0
  have hb : c.code = cL_law := hb
  have hown : s.vm.findClass RL = some m.cls := hown
  have hts : ∀ w ∈ wsL_law, w.before #[Value.ref b] s = true := fun w h => hts0 w (wsL_law_in w h)
  have hbA : ¬ A9 G b := by unfold A9; omega
  have hAA : ∀ q, AA G q → A9 G q := fun q ⟨k, hk, ek⟩ => by have := hG k; unfold A9; omega
  obtain ⟨came, now, cst, cpl, csp, cnp, cstop, mbe, mpl, msp, pn, ga, hR, hC, hM⟩ := hT
  refine lv_aload_n hx hb dL_law_472 rfl (lv_at hl 1 rfl) ?_
  refine law_ld hx hb hX hbl hbA hS hl hi hL 1 (by decide) rfl dL_law_473 dL_law_474 dL_law_475 dL_law_476 dL_law_477 ?_
  refine law_ld hx hb hX hbl hbA hS hl hi hL 2 (by decide) rfl dL_law_478 dL_law_479 dL_law_480 dL_law_481 dL_law_482 ?_
  obtain ⟨bc, e0⟩ := hC.1
  refine f_calli (W.runV (As := [.int (iN (zz xs (i + 1))), .int (iN (zz xs (i + 2)))]) (rest := []) ⟨hx, hb, hml, hown, hts⟩ (k8_meeting l G w (zz xs (i + 1)) (zz xs (i + 2)) hC hR.1.oks hR.1.2.1 (zz_rng xs (i + 1)) (zz_rng xs (i + 2))) (cwV 2 hts gL_law_X8_meeting rfl rfl rfl (by decide +kernel) ⟨Nat.le_of_ble_eq_true rfl, Nat.le_of_ble_eq_true rfl⟩) (f_preV hP hK 0 (by omega) 7 e0 rfl) rfl rfl hl.1 rfl (lv_room (Nat.le_of_ble_eq_true rfl)) dL_law_483 ⟨hcs.1, hcs.2⟩) hS hAA (fun r1 w1 H1 locs1 q1 hP1 hS1 => ?_)
  obtain ⟨er1, hC1, hf1⟩ := q1
  have hM1 := hM.mv hf1
  refine lv_aload_n hx hb dL_law_486 rfl (lv_at hl 2 rfl) ?_
  refine law_ld hx hb hX hbl hbA hS1 hl hi hL 1 (by decide) rfl dL_law_487 dL_law_488 dL_law_489 dL_law_490 dL_law_491 ?_
  refine law_ld hx hb hX hbl hbA hS1 hl hi hL 2 (by decide) rfl dL_law_492 dL_law_493 dL_law_494 dL_law_495 dL_law_496 ?_
  obtain ⟨rm, mt, tm, thg, onn, two, lw, hg, sq, e59, -, -⟩ := hM1.1
  refine f_calli (W.runV (As := [.int (iN (zz xs (i + 1))), .int (iN (zz xs (i + 2)))]) (rest := [.int r1]) ⟨hx, hb, hml, hown, hts⟩ (k9_meeting l G w1 (zz xs (i + 1)) (zz xs (i + 2)) hM1 hR.ivt.oks hR.ivt.okm.2.2 hR.1.2.1 (zz_rng xs (i + 1)) (zz_rng xs (i + 2))) (cwV 2 hts gL_law_X9_meeting rfl rfl rfl (by decide +kernel) ⟨Nat.le_of_ble_eq_true rfl, Nat.le_of_ble_eq_true rfl⟩) (f_preV hP1 hK 59 (by omega) 8 e59 rfl) rfl rfl hl.1 rfl (lv_room (Nat.le_of_ble_eq_true rfl)) dL_law_497 ⟨hcs.1, hcs.2⟩) hS1 hAA (fun r2 w2 H2 locs2 q2 hP2 hS2 => ?_)
  obtain ⟨er2, hM2, hf2⟩ := q2
  have heq : r1 = r2 := er1.trans ((congrArg iN (a_meeting hR (zz xs (i + 1)) (zz xs (i + 2)))).trans er2.symm)
  exact lv_icmp_eq (tgt := 708) hx hb dL_law_500 (by decide) (fun _ => kk w2 H2 locs2 ⟨_, _, _, _, _, _, _, _, _, _, _, _, hR, hC1.mv hf2, hM2⟩ hP2 hS2) (fun c => absurd heq c)
set_option maxHeartbeats 4000000 in
set_option maxRecDepth 100000 in
theorem lc_near {p : Program} {l : Launch} {e : Env} {s : State} {m : MethodId} {below : List Frame} {meth : Method} {c : Code} {b L : Nat} {xs : Nat → Int32} {cells slots : Nat} {Q : State → Prop} {G : GE} (C0 : lw_At p s m meth c b L xs) (hL : L ≤ 3584) (hG : GA G) (h0 : gad G 0 = s.heap.size) (hK : KK G s) (hcs : cells ≤ 600000 ∧ slots ≤ 7302250) {i : Nat} (hi : i + 7 ≤ L) {w : WF} {H : Heap} {locs : List Loc} {ls : Array Slot} (hl : lv_has ls 4 [(0, .ref b), (1, .ref (gad G 0)), (2, .ref (gad G 59)), (3, .int (iN (i : Int)))]) (hT : LST G w) (hP : PW G w H) (hS : va_S (A9 G) s.heap H locs) (kk : ∀ (w1 : WF) (H1 : Heap) (locs1 : List Loc), LST G w1 → PW G w1 H1 → va_S (A9 G) s.heap H1 locs1 → W p l e room_1 s m #[Value.ref b] below meth c H1 locs1 cells slots Q (F0 m 708 ls [])) : W p l e room_1 s m #[Value.ref b] below meth c H locs cells slots Q (F0 m 505 ls []) := by
  obtain ⟨hx, hb, hr, hml, hown, hts0, hX, hbl, hlocks, hgv⟩ := C0
  have hb : c.code = cL_law := hb
  have hown : s.vm.findClass RL = some m.cls := hown
  have hts : ∀ w ∈ wsL_law, w.before #[Value.ref b] s = true := fun w h => hts0 w (wsL_law_in w h)
  have hbA : ¬ A9 G b := by unfold A9; omega
  have hAA : ∀ q, AA G q → A9 G q := fun q ⟨k, hk, ek⟩ => by have := hG k; unfold A9; omega
  obtain ⟨came, now, cst, cpl, csp, cnp, cstop, mbe, mpl, msp, pn, ga, hR, hC, hM⟩ := hT
  refine lv_aload_n hx hb dL_law_505 rfl (lv_at hl 1 rfl) ?_
  refine law_ld hx hb hX hbl hbA hS hl hi hL 1 (by decide) rfl dL_law_506 dL_law_507 dL_law_508 dL_law_509 dL_law_510 ?_
  refine law_ld hx hb hX hbl hbA hS hl hi hL 2 (by decide) rfl dL_law_511 dL_law_512 dL_law_513 dL_law_514 dL_law_515 ?_
  refine law_ld hx hb hX hbl hbA hS hl hi hL 3 (by decide) rfl dL_law_516 dL_law_517 dL_law_518 dL_law_519 dL_law_520 ?_
  refine law_ld hx hb hX hbl hbA hS hl hi hL 4 (by decide) rfl dL_law_521 dL_law_522 dL_law_523 dL_law_524 dL_law_525 ?_
  refine law_ld hx hb hX hbl hbA hS hl hi hL 5 (by decide) rfl dL_law_526 dL_law_527 dL_law_528 dL_law_529 dL_law_530 ?_
  refine law_ld6 hx hb hX hbl hbA hS hl hi hL dL_law_531 dL_law_532 dL_law_533 dL_law_535 dL_law_536 ?_
  obtain ⟨bc, e0⟩ := hC.1
  refine f_calli (W.runV (As := [.int (iN (zz xs (i + 1))), .int (iN (zz xs (i + 2))), .int (iN (zz xs (i + 3))), .int (iN (zz xs (i + 4))), .int (iN (zz xs (i + 5))), .int (iN (zz xs (i + 6)))]) (rest := []) ⟨hx, hb, hml, hown, hts⟩ (k8_near l G w (zz xs (i + 1)) (zz xs (i + 2)) (zz xs (i + 3)) (zz xs (i + 4)) (zz xs (i + 5)) (zz xs (i + 6)) hC hR.1.oks (zz_rng xs (i + 1)) (zz_rng xs (i + 2)) (zz_rng xs (i + 3)) (zz_rng xs (i + 4)) (zz_rng xs (i + 5)) (zz_rng xs (i + 6))) (cwV 6 hts gL_law_X8_near rfl rfl rfl (by decide +kernel) ⟨Nat.le_of_ble_eq_true rfl, Nat.le_of_ble_eq_true rfl⟩) (f_preV hP hK 0 (by omega) 7 e0 rfl) rfl rfl hl.1 rfl (lv_room (Nat.le_of_ble_eq_true rfl)) dL_law_537 ⟨hcs.1, hcs.2⟩) hS hAA (fun r1 w1 H1 locs1 q1 hP1 hS1 => ?_)
  obtain ⟨er1, hC1, hf1⟩ := q1
  have hM1 := hM.mv hf1
  refine lv_aload_n hx hb dL_law_540 rfl (lv_at hl 2 rfl) ?_
  refine law_ld hx hb hX hbl hbA hS1 hl hi hL 1 (by decide) rfl dL_law_541 dL_law_542 dL_law_543 dL_law_544 dL_law_545 ?_
  refine law_ld hx hb hX hbl hbA hS1 hl hi hL 2 (by decide) rfl dL_law_546 dL_law_547 dL_law_548 dL_law_549 dL_law_550 ?_
  refine law_ld hx hb hX hbl hbA hS1 hl hi hL 3 (by decide) rfl dL_law_551 dL_law_552 dL_law_553 dL_law_554 dL_law_555 ?_
  refine law_ld hx hb hX hbl hbA hS1 hl hi hL 4 (by decide) rfl dL_law_556 dL_law_557 dL_law_558 dL_law_559 dL_law_560 ?_
  refine law_ld hx hb hX hbl hbA hS1 hl hi hL 5 (by decide) rfl dL_law_561 dL_law_562 dL_law_563 dL_law_564 dL_law_565 ?_
  refine law_ld6 hx hb hX hbl hbA hS1 hl hi hL dL_law_566 dL_law_567 dL_law_568 dL_law_570 dL_law_571 ?_
  obtain ⟨rm, mt, tm, thg, onn, two, lw, hg, sq, e59, -, -⟩ := hM1.1
  refine f_calli (W.runV (As := [.int (iN (zz xs (i + 1))), .int (iN (zz xs (i + 2))), .int (iN (zz xs (i + 3))), .int (iN (zz xs (i + 4))), .int (iN (zz xs (i + 5))), .int (iN (zz xs (i + 6)))]) (rest := [.int r1]) ⟨hx, hb, hml, hown, hts⟩ (k9_near l G w1 (zz xs (i + 1)) (zz xs (i + 2)) (zz xs (i + 3)) (zz xs (i + 4)) (zz xs (i + 5)) (zz xs (i + 6)) hM1 hR.ivt.oks (zz_rng xs (i + 1)) (zz_rng xs (i + 2)) (zz_rng xs (i + 3)) (zz_rng xs (i + 4)) (zz_rng xs (i + 5)) (zz_rng xs (i + 6))) (cwV 6 hts gL_law_X9_near rfl rfl rfl (by decide +kernel) ⟨Nat.le_of_ble_eq_true rfl, Nat.le_of_ble_eq_true rfl⟩) (f_preV hP1 hK 59 (by omega) 8 e59 rfl) rfl rfl hl.1 rfl (lv_room (Nat.le_of_ble_eq_true rfl)) dL_law_572 ⟨hcs.1, hcs.2⟩) hS1 hAA (fun r2 w2 H2 locs2 q2 hP2 hS2 => ?_)
  obtain ⟨er2, hM2, hf2⟩ := q2
  have heq : r1 = r2 := er1.trans ((congrArg iN (a_near hR (zz xs (i + 1)) (zz xs (i + 2)) (zz xs (i + 3)) (zz xs (i + 4)) (zz xs (i + 5)) (zz xs (i + 6)))).trans er2.symm)
  exact lv_icmp_eq (tgt := 708) hx hb dL_law_575 (by decide) (fun _ => kk w2 H2 locs2 ⟨_, _, _, _, _, _, _, _, _, _, _, _, hR, hC1.mv hf2, hM2⟩ hP2 hS2) (fun c => absurd heq c)
set_option maxHeartbeats 4000000 in
set_option maxRecDepth 100000 in
theorem lc_first {p : Program} {l : Launch} {e : Env} {s : State} {m : MethodId} {below : List Frame} {meth : Method} {c : Code} {b L : Nat} {xs : Nat → Int32} {cells slots : Nat} {Q : State → Prop} {G : GE} (C0 : lw_At p s m meth c b L xs) (hL : L ≤ 3584) (hG : GA G) (h0 : gad G 0 = s.heap.size) (hK : KK G s) (hcs : cells ≤ 600000 ∧ slots ≤ 7302250) {i : Nat} (hi : i + 7 ≤ L) {w : WF} {H : Heap} {locs : List Loc} {ls : Array Slot} (hl : lv_has ls 4 [(0, .ref b), (1, .ref (gad G 0)), (2, .ref (gad G 59)), (3, .int (iN (i : Int)))]) (hT : LST G w) (hP : PW G w H) (hS : va_S (A9 G) s.heap H locs) (kk : ∀ (w1 : WF) (H1 : Heap) (locs1 : List Loc), LST G w1 → PW G w1 H1 → va_S (A9 G) s.heap H1 locs1 → W p l e room_1 s m #[Value.ref b] below meth c H1 locs1 cells slots Q (F0 m 708 ls [])) : W p l e room_1 s m #[Value.ref b] below meth c H locs cells slots Q (F0 m 580 ls []) := by
  obtain ⟨hx, hb, hr, hml, hown, hts0, hX, hbl, hlocks, hgv⟩ := C0
  have hb : c.code = cL_law := hb
  have hown : s.vm.findClass RL = some m.cls := hown
  have hts : ∀ w ∈ wsL_law, w.before #[Value.ref b] s = true := fun w h => hts0 w (wsL_law_in w h)
  have hbA : ¬ A9 G b := by unfold A9; omega
  have hAA : ∀ q, AA G q → A9 G q := fun q ⟨k, hk, ek⟩ => by have := hG k; unfold A9; omega
  obtain ⟨came, now, cst, cpl, csp, cnp, cstop, mbe, mpl, msp, pn, ga, hR, hC, hM⟩ := hT
  refine lv_aload_n hx hb dL_law_580 rfl (lv_at hl 1 rfl) ?_
  refine law_ld hx hb hX hbl hbA hS hl hi hL 1 (by decide) rfl dL_law_581 dL_law_582 dL_law_583 dL_law_584 dL_law_585 ?_
  refine law_ld hx hb hX hbl hbA hS hl hi hL 2 (by decide) rfl dL_law_586 dL_law_587 dL_law_588 dL_law_589 dL_law_590 ?_
  refine law_ld hx hb hX hbl hbA hS hl hi hL 3 (by decide) rfl dL_law_591 dL_law_592 dL_law_593 dL_law_594 dL_law_595 ?_
  refine law_ld hx hb hX hbl hbA hS hl hi hL 4 (by decide) rfl dL_law_596 dL_law_597 dL_law_598 dL_law_599 dL_law_600 ?_
  obtain ⟨bc, e0⟩ := hC.1
  refine f_calli (W.runV (As := [.int (iN (zz xs (i + 1))), .int (iN (zz xs (i + 2))), .int (iN (zz xs (i + 3))), .int (iN (zz xs (i + 4)))]) (rest := []) ⟨hx, hb, hml, hown, hts⟩ (k8_first l G w (zz xs (i + 1)) (zz xs (i + 2)) (zz xs (i + 3)) (zz xs (i + 4)) hC hR.1.oks (zz_rng xs (i + 1)) (zz_rng xs (i + 2)) (zz_rng xs (i + 3)) (zz_rng xs (i + 4))) (cwV 4 hts gL_law_X8_first rfl rfl rfl (by decide +kernel) ⟨Nat.le_of_ble_eq_true rfl, Nat.le_of_ble_eq_true rfl⟩) (f_preV hP hK 0 (by omega) 7 e0 rfl) rfl rfl hl.1 rfl (lv_room (Nat.le_of_ble_eq_true rfl)) dL_law_601 ⟨hcs.1, hcs.2⟩) hS hAA (fun r1 w1 H1 locs1 q1 hP1 hS1 => ?_)
  obtain ⟨er1, hC1, hf1⟩ := q1
  have hM1 := hM.mv hf1
  refine lv_aload_n hx hb dL_law_604 rfl (lv_at hl 2 rfl) ?_
  refine law_ld hx hb hX hbl hbA hS1 hl hi hL 1 (by decide) rfl dL_law_605 dL_law_606 dL_law_607 dL_law_608 dL_law_609 ?_
  refine law_ld hx hb hX hbl hbA hS1 hl hi hL 2 (by decide) rfl dL_law_610 dL_law_611 dL_law_612 dL_law_613 dL_law_614 ?_
  refine law_ld hx hb hX hbl hbA hS1 hl hi hL 3 (by decide) rfl dL_law_615 dL_law_616 dL_law_617 dL_law_618 dL_law_619 ?_
  refine law_ld hx hb hX hbl hbA hS1 hl hi hL 4 (by decide) rfl dL_law_620 dL_law_621 dL_law_622 dL_law_623 dL_law_624 ?_
  obtain ⟨rm, mt, tm, thg, onn, two, lw, hg, sq, e59, -, -⟩ := hM1.1
  refine f_calli (W.runV (As := [.int (iN (zz xs (i + 1))), .int (iN (zz xs (i + 2))), .int (iN (zz xs (i + 3))), .int (iN (zz xs (i + 4)))]) (rest := [.int r1]) ⟨hx, hb, hml, hown, hts⟩ (k9_first l G w1 (zz xs (i + 1)) (zz xs (i + 2)) (zz xs (i + 3)) (zz xs (i + 4)) hM1 hR.ivt.oks (zz_rng xs (i + 1)) (zz_rng xs (i + 2)) (zz_rng xs (i + 3)) (zz_rng xs (i + 4))) (cwV 4 hts gL_law_X9_first rfl rfl rfl (by decide +kernel) ⟨Nat.le_of_ble_eq_true rfl, Nat.le_of_ble_eq_true rfl⟩) (f_preV hP1 hK 59 (by omega) 8 e59 rfl) rfl rfl hl.1 rfl (lv_room (Nat.le_of_ble_eq_true rfl)) dL_law_625 ⟨hcs.1, hcs.2⟩) hS1 hAA (fun r2 w2 H2 locs2 q2 hP2 hS2 => ?_)
  obtain ⟨er2, hM2, hf2⟩ := q2
  have heq : r1 = r2 := er1.trans ((congrArg iN (a_first hR (zz xs (i + 1)) (zz xs (i + 2)) (zz xs (i + 3)) (zz xs (i + 4)))).trans er2.symm)
  exact lv_icmp_eq (tgt := 708) hx hb dL_law_628 (by decide) (fun _ => kk w2 H2 locs2 ⟨_, _, _, _, _, _, _, _, _, _, _, _, hR, hC1.mv hf2, hM2⟩ hP2 hS2) (fun c => absurd heq c)
set_option maxHeartbeats 4000000 in
set_option maxRecDepth 100000 in
theorem lc_within {p : Program} {l : Launch} {e : Env} {s : State} {m : MethodId} {below : List Frame} {meth : Method} {c : Code} {b L : Nat} {xs : Nat → Int32} {cells slots : Nat} {Q : State → Prop} {G : GE} (C0 : lw_At p s m meth c b L xs) (hL : L ≤ 3584) (hG : GA G) (h0 : gad G 0 = s.heap.size) (hK : KK G s) (hcs : cells ≤ 600000 ∧ slots ≤ 7302250) {i : Nat} (hi : i + 7 ≤ L) {w : WF} {H : Heap} {locs : List Loc} {ls : Array Slot} (hl : lv_has ls 4 [(0, .ref b), (1, .ref (gad G 0)), (2, .ref (gad G 59)), (3, .int (iN (i : Int)))]) (hT : LST G w) (hP : PW G w H) (hS : va_S (A9 G) s.heap H locs) (kk : ∀ (w1 : WF) (H1 : Heap) (locs1 : List Loc), LST G w1 → PW G w1 H1 → va_S (A9 G) s.heap H1 locs1 → W p l e room_1 s m #[Value.ref b] below meth c H1 locs1 cells slots Q (F0 m 708 ls [])) : W p l e room_1 s m #[Value.ref b] below meth c H locs cells slots Q (F0 m 633 ls []) := by
  obtain ⟨hx, hb, hr, hml, hown, hts0, hX, hbl, hlocks, hgv⟩ := C0
  have hb : c.code = cL_law := hb
  have hown : s.vm.findClass RL = some m.cls := hown
  have hts : ∀ w ∈ wsL_law, w.before #[Value.ref b] s = true := fun w h => hts0 w (wsL_law_in w h)
  have hbA : ¬ A9 G b := by unfold A9; omega
  have hAA : ∀ q, AA G q → A9 G q := fun q ⟨k, hk, ek⟩ => by have := hG k; unfold A9; omega
  obtain ⟨came, now, cst, cpl, csp, cnp, cstop, mbe, mpl, msp, pn, ga, hR, hC, hM⟩ := hT
  refine lv_aload_n hx hb dL_law_633 rfl (lv_at hl 1 rfl) ?_
  refine law_ld hx hb hX hbl hbA hS hl hi hL 1 (by decide) rfl dL_law_634 dL_law_635 dL_law_636 dL_law_637 dL_law_638 ?_
  refine law_ld hx hb hX hbl hbA hS hl hi hL 2 (by decide) rfl dL_law_639 dL_law_640 dL_law_641 dL_law_642 dL_law_643 ?_
  refine law_ld hx hb hX hbl hbA hS hl hi hL 3 (by decide) rfl dL_law_644 dL_law_645 dL_law_646 dL_law_647 dL_law_648 ?_
  refine law_ld hx hb hX hbl hbA hS hl hi hL 4 (by decide) rfl dL_law_649 dL_law_650 dL_law_651 dL_law_652 dL_law_653 ?_
  refine law_ld hx hb hX hbl hbA hS hl hi hL 5 (by decide) rfl dL_law_654 dL_law_655 dL_law_656 dL_law_657 dL_law_658 ?_
  refine law_ld6 hx hb hX hbl hbA hS hl hi hL dL_law_659 dL_law_660 dL_law_661 dL_law_663 dL_law_664 ?_
  obtain ⟨bc, e0⟩ := hC.1
  refine f_calli (W.runV (As := [.int (iN (zz xs (i + 1))), .int (iN (zz xs (i + 2))), .int (iN (zz xs (i + 3))), .int (iN (zz xs (i + 4))), .int (iN (zz xs (i + 5))), .int (iN (zz xs (i + 6)))]) (rest := []) ⟨hx, hb, hml, hown, hts⟩ (k8_within l G w (zz xs (i + 1)) (zz xs (i + 2)) (zz xs (i + 3)) (zz xs (i + 4)) (zz xs (i + 5)) (zz xs (i + 6)) hC hR.1.oks (zz_rng xs (i + 1)) (zz_rng xs (i + 2)) (zz_rng xs (i + 3)) (zz_rng xs (i + 4)) (zz_rng xs (i + 5)) (zz_rng xs (i + 6))) (cwV 6 hts gL_law_X8_within rfl rfl rfl (by decide +kernel) ⟨Nat.le_of_ble_eq_true rfl, Nat.le_of_ble_eq_true rfl⟩) (f_preV hP hK 0 (by omega) 7 e0 rfl) rfl rfl hl.1 rfl (lv_room (Nat.le_of_ble_eq_true rfl)) dL_law_665 ⟨hcs.1, hcs.2⟩) hS hAA (fun r1 w1 H1 locs1 q1 hP1 hS1 => ?_)
  obtain ⟨er1, hC1, hf1⟩ := q1
  have hM1 := hM.mv hf1
  refine lv_aload_n hx hb dL_law_668 rfl (lv_at hl 2 rfl) ?_
  refine law_ld hx hb hX hbl hbA hS1 hl hi hL 1 (by decide) rfl dL_law_669 dL_law_670 dL_law_671 dL_law_672 dL_law_673 ?_
  refine law_ld hx hb hX hbl hbA hS1 hl hi hL 2 (by decide) rfl dL_law_674 dL_law_675 dL_law_676 dL_law_677 dL_law_678 ?_
  refine law_ld hx hb hX hbl hbA hS1 hl hi hL 3 (by decide) rfl dL_law_679 dL_law_680 dL_law_681 dL_law_682 dL_law_683 ?_
  refine law_ld hx hb hX hbl hbA hS1 hl hi hL 4 (by decide) rfl dL_law_684 dL_law_685 dL_law_686 dL_law_687 dL_law_688 ?_
  refine law_ld hx hb hX hbl hbA hS1 hl hi hL 5 (by decide) rfl dL_law_689 dL_law_690 dL_law_691 dL_law_692 dL_law_693 ?_
  refine law_ld6 hx hb hX hbl hbA hS1 hl hi hL dL_law_694 dL_law_695 dL_law_696 dL_law_698 dL_law_699 ?_
  obtain ⟨rm, mt, tm, thg, onn, two, lw, hg, sq, e59, -, -⟩ := hM1.1
  refine f_calli (W.runV (As := [.int (iN (zz xs (i + 1))), .int (iN (zz xs (i + 2))), .int (iN (zz xs (i + 3))), .int (iN (zz xs (i + 4))), .int (iN (zz xs (i + 5))), .int (iN (zz xs (i + 6)))]) (rest := [.int r1]) ⟨hx, hb, hml, hown, hts⟩ (k9_within l G w1 (zz xs (i + 1)) (zz xs (i + 2)) (zz xs (i + 3)) (zz xs (i + 4)) (zz xs (i + 5)) (zz xs (i + 6)) hM1 hR.ivt.oks (zz_rng xs (i + 1)) (zz_rng xs (i + 2)) (zz_rng xs (i + 3)) (zz_rng xs (i + 4)) (zz_rng xs (i + 5)) (zz_rng xs (i + 6))) (cwV 6 hts gL_law_X9_within rfl rfl rfl (by decide +kernel) ⟨Nat.le_of_ble_eq_true rfl, Nat.le_of_ble_eq_true rfl⟩) (f_preV hP1 hK 59 (by omega) 8 e59 rfl) rfl rfl hl.1 rfl (lv_room (Nat.le_of_ble_eq_true rfl)) dL_law_700 ⟨hcs.1, hcs.2⟩) hS1 hAA (fun r2 w2 H2 locs2 q2 hP2 hS2 => ?_)
  obtain ⟨er2, hM2, hf2⟩ := q2
  have heq : r1 = r2 := er1.trans ((congrArg iN (a_within hR (zz xs (i + 1)) (zz xs (i + 2)) (zz xs (i + 3)) (zz xs (i + 4)) (zz xs (i + 5)) (zz xs (i + 6)))).trans er2.symm)
  exact lv_icmp_eq (tgt := 708) hx hb dL_law_703 (by decide) (fun _ => kk w2 H2 locs2 ⟨_, _, _, _, _, _, _, _, _, _, _, _, hR, hC1.mv hf2, hM2⟩ hP2 hS2) (fun c => absurd heq c)
