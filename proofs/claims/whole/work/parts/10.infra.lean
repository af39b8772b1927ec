/-! the world of this claim: 75 cells, numbered; what each holds is a function of its number -/
abbrev cls : List vw_C := [(RX0, TX0, 5), (RX1, TX1, 3), (RX3, TX3, 3), (RX4, TX4, 5), (RX5, TX5, 4), (RX6, TX6, 5), (RX7, TX7, 5), (RX8, TX8, 11), (RX9, TX9, 26)]
abbrev GE : Type := va_G × (Nat → Nat) × ClassId × ClassId × ClassId × ClassId
abbrev WF : Type := Nat → va_E
def gD (G : GE) : va_G := G.1
def gad (G : GE) : Nat → Nat := G.2.1
def gI (G : GE) : ClassId := G.2.2.1
def gJ (G : GE) : ClassId := G.2.2.2.1
def gZ (G : GE) : ClassId := G.2.2.2.2.1
def gQ (G : GE) : ClassId := G.2.2.2.2.2
abbrev gtys (G : GE) : List (ClassId × FieldType) := [(gI G, .int), (gJ G, .long), (gZ G, .boolean), (gQ G, .object RX0)]
/-- what a cell holds: ints, longs of an array; an int, a long of an object -/
def eA (e : va_E) : Nat → Int32 := match e with
  | .inl (_, _, .inl f) => f
  | _ => fun _ => 0
def eL (e : va_E) : Nat → Int64 := match e with
  | .inl (_, _, .inr (.inl f)) => f
  | _ => fun _ => 0
def eF (e : va_E) (j : Nat) : Int32 := match e with
  | .inr (_, fs) => (match fs[j]? with
    | some (.int x) => x
    | _ => 0)
  | _ => 0
def eG (e : va_E) (j : Nat) : Int64 := match e with
  | .inr (_, fs) => (match fs[j]? with
    | some (.long x) => x
    | _ => 0)
  | _ => 0
/-- the shape of cell k: what is fixed of it -/
def shpA (G : GE) (k : Nat) (e : va_E) : va_E := match k with
  | 0 => .inr (7, [.ref (gad G 1), .int (eF e 1), .int (eF e 2), .ref (gad G 2), .ref (gad G 5), .int (eF e 5), .ref (gad G 6), .ref (gad G 10), .ref (gad G 14), .ref (gad G 15), .ref (gad G 18)])
  | 1 => .inl (gQ G, 10, .inr (.inr (.inr (.inr (fun i => some (gad G (19 + 4 * i)))))))
  | 2 => .inr (2, [.ref (gad G 3), .ref (gad G 4), .int (eF e 2)])
  | 3 => .inl (gI G, 10, .inl (eA e))
  | 4 => .inl (gI G, 10, .inl (eA e))
  | 5 => .inl (gI G, 92, .inl (eA e))
  | 6 => .inr (4, [.ref (gad G 7), .ref (gad G 8), .ref (gad G 9), .int (eF e 3)])
  | 7 => .inl (gZ G, 10, .inl (eA e))
  | 8 => .inl (gI G, 10, .inl (eA e))
  | 9 => .inl (gI G, 10, .inl (eA e))
  | 10 => .inr (3, [.ref (gad G 11), .ref (gad G 12), .ref (gad G 13), .int (eF e 3), .int (eF e 4)])
  | 11 => .inl (gJ G, 45, .inr (.inl (eL e)))
  | 12 => .inl (gI G, 45, .inl (eA e))
  | 13 => .inl (gI G, 45, .inl (eA e))
  | 14 => .inr (6, [.int (eF e 0), .long (eG e 1), .long (eG e 2), .long (eG e 3), .int (eF e 4)])
  | 15 => .inr (1, [.ref (gad G 16), .ref (gad G 17), .int (eF e 2)])
  | 16 => .inl (gJ G, 10, .inr (.inl (eL e)))
  | 17 => .inl (gJ G, 10, .inr (.inl (eL e)))
  | _ => .inr (5, [.int (eF e 0), .int (eF e 1), .long (eG e 2), .long (eG e 3), .long (eG e 4)])
def shpB (G : GE) (k : Nat) (e : va_E) : va_E := match k % 4 with
  | 3 => .inr (0, [.ref (gad G (k + 1)), .ref (gad G (k + 2)), .ref (gad G (k + 3)), .int (eF e 3), .int (eF e 4)])
  | _ => .inl (gI G, 8, .inl (eA e))
def shpC (G : GE) (k : Nat) (e : va_E) : va_E := match k with
  | 0 => .inr (8, [.int (eF e 0), .int (eF e 1), .ref (gad G 60), .ref (gad G 61), .ref (gad G 62), .ref (gad G 63), .ref (gad G 64), .ref (gad G 65), .int (eF e 8), .int (eF e 9), .ref (gad G 66), .ref (gad G 67), .ref (gad G 68), .ref (gad G 69), .ref (gad G 70), .int (eF e 15), .ref (gad G 71), .ref (gad G 72), .int (eF e 18), .int (eF e 19), .int (eF e 20), .long (eG e 21), .long (eG e 22), .int (eF e 23), .ref (gad G 73), .ref (gad G 74)])
  | 1 => .inl (gI G, 10, .inl (eA e))
  | 2 => .inl (gI G, 10, .inl (eA e))
  | 3 => .inl (gI G, 80, .inl (eA e))
  | 4 => .inl (gI G, 80, .inl (eA e))
  | 5 => .inl (gI G, 80, .inl (eA e))
  | 6 => .inl (gI G, 10, .inl (eA e))
  | 7 => .inl (gJ G, 800, .inr (.inl (eL e)))
  | 8 => .inl (gJ G, 800, .inr (.inl (eL e)))
  | 9 => .inl (gI G, 800, .inl (eA e))
  | 10 => .inl (gI G, 800, .inl (eA e))
  | 11 => .inl (gZ G, 800, .inl (eA e))
  | 12 => .inl (gJ G, 700, .inr (.inl (eL e)))
  | 13 => .inl (gJ G, 700, .inr (.inl (eL e)))
  | 14 => .inl (gJ G, 1400, .inr (.inl (eL e)))
  | _ => .inl (gJ G, 1400, .inr (.inl (eL e)))
def shp (G : GE) (k : Nat) (e : va_E) : va_E := if k < 19 then shpA G k e else if k < 59 then shpB G k e else shpC G (k - 59) e
def PW (G : GE) (w : WF) (H : Heap) : Prop := (∀ k, k < 75 → w k = shp G k (w k)) ∧ ∀ k, k < 75 → va_at (gD G) cls (gad G k, w k) H
def Inj (G : GE) : Prop := ∀ i j, i < 75 → j < 75 → gad G i = gad G j → i = j
def AA (G : GE) : Nat → Prop := fun q => ∃ k, k < 75 ∧ q = gad G k
def nestM : List (String × Nat × MethodName) := [(RX8, 15, yX0_init), (RX8, 18, yX3_init), (RX8, 29, yX5_init), (RX8, 36, yX4_init), (RX8, 43, yX7_init), (RX8, 50, yX1_init), (RX8, 57, yX6_init), (RX8, 75, yX0_begin), (RX8, 84, yX0_isStopped), (RX8, 89, yX0_canTurn), (RX8, 92, yX0_latestSpeed), (RX8, 96, yX0_turn), (RX8, 100, yX0_began), (RX8, 103, yX0_stop), (RX8, 217, yX0_undoFrom), (RX8, 220, yX3_clear), (RX8, 140, yX0_isThere), (RX8, 145, yX0_upperAt), (RX8, 223, yX3_insert), (RX8, 229, yX0_nextBend), (RX8, 239, yX4_clear), (RX8, 234, yX5_clear), (RX8, 235, yX5_add), (RX5, 26, yX0_isThere), (RX5, 31, yX0_placeAt), (RX5, 35, yX0_speedAt), (RX8, 243, yX5_has), (RX8, 250, yX5_gap), (RX8, 253, yX5_growth), (RX8, 259, yX2_past), (RX8, 263, yX2_whole), (RX8, 267, yX2_compare), (RX8, 271, yX4_insert), (RX4, 29, yX2_compare), (RX8, 277, yX0_speedAt), (RX8, 148, yX2_of), (RX8, 154, yX2_upper), (RX8, 158, yX2_lower), (RX8, 161, yX3_tell), (RX8, 165, yX3_closestUpper), (RX8, 168, yX3_heaps), (RX8, 175, yX4_tell), (RX4, 35, yX2_upper), (RX4, 39, yX2_lower), (RX8, 183, yX6_seek), (RX8, 280, yX7_open), (RX7, 13, yX2_whole), (RX8, 283, yX7_keepNothing), (RX8, 286, yX7_keepAtMost), (RX7, 36, yX2_past), (RX7, 40, yX2_compare), (RX8, 198, yX6_addIfSo), (RX6, 18, yX7_isSo), (RX7, 47, yX2_upper), (RX6, 38, yX2_compare), (RX8, 202, yX6_tell), (RX6, 50, yX2_upper), (RX6, 54, yX2_lower), (RX8, 289, yX1_clear), (RX8, 290, yX7_keepAll), (RX8, 299, yX1_addIfSo), (RX1, 22, yX7_isSo), (RX1, 39, yX2_compare), (RX8, 308, yX6_add)]
def nestF : List (String × Nat × String × String × String) := [(RX8, 129, "KeptMoving$Course", "pieces", "I"), (RX8, 126, "KeptMoving$Course", "stopped", "I"), (RX8, 113, "KeptMoving$Line", "size", "I"), (RX8, 293, "KeptMoving$Scene", "places", "[I"), (RX8, 296, "KeptMoving$Scene", "speeds", "[I"), (RX8, 233, "KeptMoving$Meetings", "size", "I"), (RX8, 230, "KeptMoving$Meetings", "passes", "I"), (RX6, 24, "KeptMoving$Stretch", "begin", "J"), (RX1, 28, "KeptMoving$Stretch", "begin", "J"), (RX6, 28, "KeptMoving$Stretch", "end", "J"), (RX1, 36, "KeptMoving$Stretch", "end", "J"), (RX8, 305, "KeptMoving$Crowd", "begins", "[J"), (RX8, 301, "KeptMoving$Crowd", "ends", "[J"), (RX8, 300, "KeptMoving$Crowd", "size", "I")]
def NM (s : State) : Prop := ∀ q ∈ nestM, va_Nw (.methodLinkNest q.1 q.2.1 q.2.2 RX8) s
def NF (s : State) : Prop := ∀ q ∈ nestF, va_Nw (.fieldLinkNest q.1 q.2.1 q.2.2.1 q.2.2.2.1 q.2.2.2.2 RX8) s
def KK (G : GE) (s : State) : Prop := va_K (gD G) cls (gtys G) s ∧ Inj G ∧ NM s ∧ NF s
theorem KK.warm {G : GE} {s U : State} (hW : s.WarmedH U.vm) (h : KK G s) : KK G U := ⟨va_K.moved hW.alike h.1, h.2.1, fun q hq => va_Nw.warmM hW (h.2.2.1 q hq), fun q hq => va_Nw.warmF hW (h.2.2.2 q hq)⟩
theorem KK.same {G : GE} {s U : State} (hv : s.vm = U.vm) (h : KK G s) : KK G U := ⟨va_K.moved (by rw [hv]; exact Vm.Alike.refl U.vm) h.1, h.2.1, fun q hq => va_Nw.same rfl hv (h.2.2.1 q hq), fun q hq => va_Nw.same rfl hv (h.2.2.2 q hq)⟩
theorem KK.nm {G : GE} {s : State} (h : KK G s) (i : Nat) {own : String} {index : Nat} {y : MethodName} (hi : nestM[i]? = some (own, index, y)) : va_Nw (.methodLinkNest own index y RX8) s := h.2.2.1 _ (List.mem_of_getElem? hi)
theorem KK.nf {G : GE} {s : State} (h : KK G s) (i : Nat) {own : String} {index : Nat} {a b c : String} (hi : nestF[i]? = some (own, index, a, b, c)) : va_Nw (.fieldLinkNest own index a b c RX8) s := h.2.2.2 _ (List.mem_of_getElem? hi)
/-- a contract's start: the world w, the arguments -/
def PcG (G : GE) (w : WF) (av : List Value) : Array Value → State → Prop := va_Pc av (fun U => PW G w U.heap ∧ KK G U)
theorem pcG_blind {G : GE} {w : WF} {av : List Value} : FrameBlind (PcG G w av) := fun _ U g mk q => ⟨q.1, q.2.1, KK.same (s := U) (U := U.calling g mk _) rfl q.2.2⟩
theorem pw_one {G : GE} {w : WF} {H : Heap} (h : PW G w H) {k : Nat} (hk : k < 75) : va_P (gD G) cls [(gad G k, w k)] H := fun i q hq => by
  match i, hq with
  | 0, hq => cases hq; exact h.2 k hk
  | i + 1, hq => simp at hq
theorem pw_up {G : GE} {w : WF} {H H1 : Heap} (h : PW G w H) (hJ : Inj G) {k : Nat} (hk : k < 75) {e : va_E} (hs : e = shp G k e) (he : va_at (gD G) cls (gad G k, e) H1) (ho : ∀ q, q ≠ gad G k → H1[q]? = H[q]?) : PW G (va_up w k e) H1 := by
  refine ⟨fun j hj => ?_, fun j hj => ?_⟩
  · by_cases hjk : j = k
    · subst hjk
      rw [va_up_self]
      exact hs
    · rw [va_up_ne w e hjk]
      exact h.1 j hj
  · by_cases hjk : j = k
    · subst hjk
      rw [va_up_self]
      exact he
    · rw [va_up_ne w e hjk]
      exact (h.2 j hj).kept (ho _ (fun q => hjk (hJ j k hj hk q)))
theorem f_preV {G : GE} {w : WF} {s : State} {H : Heap} (hP : PW G w H) (hK : KK G s) (k : Nat) (hk : k < 75) (ci : Nat) {fs : List Value} (he : w k = .inr (ci, fs)) {C : String} {T : u_T} {N : Nat} (hc : cls[ci]? = some (C, T, N)) {As : List Value} : PreV s H C (gad G k) (PcG G w (.ref (gad G k) :: As)) As :=
  ⟨pcG_blind, va_recv (q0 := 0) (q := (C, T, N)) (fs := fs) hK.1 (pw_one hP hk) hc (by rw [he]; rfl), fun U hU hW => ⟨rfl, by rw [hU]; exact hP, hK.warm hW⟩⟩
theorem f_preS {G : GE} {w : WF} {s : State} {H : Heap} (hP : PW G w H) (hK : KK G s) {As : List Value} : PreS s H (PcG G w As) As := ⟨pcG_blind, fun U hU hW => ⟨rfl, by rw [hU]; exact hP, hK.warm hW⟩⟩
/-- a contract's start that needs no cells -/
def PcN (av : List Value) : Array Value → State → Prop := fun v _ => v = av.toArray
/-- a contract's ends, with a world behind it -/
def QV (G : GE) (post : WF → Prop) : Array Value → State → Outcome → State → Prop := fun _ st oc t => (oc = .returned none ∧ ∃ w, post w ∧ PW G w t.heap) ∧ va_F (AA G) st t
def QI (G : GE) (post : Int32 → WF → Prop) : Array Value → State → Outcome → State → Prop := fun _ st oc t => (∃ (r : Int32) (w : WF), oc = .returned (some (.int r)) ∧ post r w ∧ PW G w t.heap) ∧ va_F (AA G) st t
def QL (G : GE) (post : Int64 → WF → Prop) : Array Value → State → Outcome → State → Prop := fun _ st oc t => (∃ (r : Int64) (w : WF), oc = .returned (some (.long r)) ∧ post r w ∧ PW G w t.heap) ∧ va_F (AA G) st t
section FW
variable {p : Program} {l : Launch} {e : Env} {R : Room} {s : State} {m : MethodId} {args : Array Value} {below : List Frame} {meth : Method} {c : Code} {H : Heap} {locs : List Loc} {cells slots : Nat} {Q : State → Prop}
variable {pc : Nat} {ls : Array Slot} {rest st0 : List Value} {a : Array Value} {A0 : Nat → Prop} {H0 : Heap} {G : GE} {w : WF} {cc : ByteArray}
theorem f_keep {t T' : State} {L : List Loc} {st₀ : State} (h0 : st₀.heap = H) (e1 : T'.heap = t.heap) (hS : va_S A0 H0 H locs) (hA : ∀ q, AA G q → A0 q) (hL : ∀ q ∈ L, AA G q.base) (hF : va_F (AA G) st₀ t) : va_S A0 H0 T'.heap (locs ++ L) := by
  obtain ⟨hz, hk⟩ := hF
  rw [h0] at hz hk
  refine ⟨Nat.le_trans hS.1 (by rw [e1]; exact hz), fun q h1 h2 => ?_, fun q hq => ?_⟩
  · rw [e1, hk q (Nat.lt_of_lt_of_le h1 hS.1) (fun z => h2 (hA q z))]
    exact hS.2.1 q h1 h2
  · rcases List.mem_append.mp hq with h | h
    · exact hS.2.2 q h
    · exact hA _ (hL q h)
theorem f_callv {post : WF → Prop} (hr : CallRun p l e R s m args below meth c H locs cells slots 0 0 (F0 m pc ls st0) rest (QV G post a) (AA G)) (hS : va_S A0 H0 H locs) (hA : ∀ q, AA G q → A0 q)
    (kk : ∀ (w1 : WF) (H1 : Heap) (locs1 : List Loc), post w1 → PW G w1 H1 → va_S A0 H0 H1 locs1 → W p l e R s m args below meth c H1 locs1 cells slots Q (F0 m (pc + 3) ls rest)) : W p l e R s m args below meth c H locs cells slots Q (F0 m pc ls st0) := by
  intro T hT X
  obtain ⟨v, st₀, t, T', L, h0, X', hL, e1, ⟨⟨hv, w1, hp, hb⟩, hF⟩, st⟩ := hr T hT X
  cases hv
  obtain ⟨t2, a1, b1⟩ := kk w1 T'.heap (locs ++ L) hp (by rw [e1]; exact hb) (f_keep h0 e1 hS hA hL hF) T' rfl X'
  exact ⟨t2, st t2 a1, b1⟩
theorem f_calli {post : Int32 → WF → Prop} (hr : CallRun p l e R s m args below meth c H locs cells slots 0 0 (F0 m pc ls st0) rest (QI G post a) (AA G)) (hS : va_S A0 H0 H locs) (hA : ∀ q, AA G q → A0 q)
    (kk : ∀ (r : Int32) (w1 : WF) (H1 : Heap) (locs1 : List Loc), post r w1 → PW G w1 H1 → va_S A0 H0 H1 locs1 → W p l e R s m args below meth c H1 locs1 cells slots Q (F0 m (pc + 3) ls (.int r :: rest))) : W p l e R s m args below meth c H locs cells slots Q (F0 m pc ls st0) := by
  intro T hT X
  obtain ⟨v, st₀, t, T', L, h0, X', hL, e1, ⟨⟨r, w1, hv, hp, hb⟩, hF⟩, st⟩ := hr T hT X
  cases hv
  obtain ⟨t2, a1, b1⟩ := kk r w1 T'.heap (locs ++ L) hp (by rw [e1]; exact hb) (f_keep h0 e1 hS hA hL hF) T' rfl X'
  exact ⟨t2, st t2 a1, b1⟩
theorem f_calll {post : Int64 → WF → Prop} (hr : CallRun p l e R s m args below meth c H locs cells slots 0 0 (F0 m pc ls st0) rest (QL G post a) (AA G)) (hS : va_S A0 H0 H locs) (hA : ∀ q, AA G q → A0 q)
    (kk : ∀ (r : Int64) (w1 : WF) (H1 : Heap) (locs1 : List Loc), post r w1 → PW G w1 H1 → va_S A0 H0 H1 locs1 → W p l e R s m args below meth c H1 locs1 cells slots Q (F0 m (pc + 3) ls (.long r :: rest))) : W p l e R s m args below meth c H locs cells slots Q (F0 m pc ls st0) := by
  intro T hT X
  obtain ⟨v, st₀, t, T', L, h0, X', hL, e1, ⟨⟨r, w1, hv, hp, hb⟩, hF⟩, st⟩ := hr T hT X
  cases hv
  obtain ⟨t2, a1, b1⟩ := kk r w1 T'.heap (locs ++ L) hp (by rw [e1]; exact hb) (f_keep h0 e1 hS hA hL hF) T' rfl X'
  exact ⟨t2, st t2 a1, b1⟩
/-- reads -/
theorem f_get (hexec : p.tables.exec = Jvm.exec) (hb : c.code = cc) {own ref C : String} {T : u_T} {N ci index : Nat} {Ts : List Cond} (hts : ∀ w ∈ Ts, w.before args s = true) (hin : ∀ w ∈ u_ws C T N, w ∈ Ts) (hown : s.vm.findClass own = some m.cls) (hK : KK G s) (hP : PW G w H) (k : Nat) (hk : k < 75) {fs : List Value} (he : w k = .inr (ci, fs)) (hc : cls[ci]? = some (C, T, N)) (j : Nat) (hj : j < N) (hlink : (Cond.fieldLink own index ref (T j).2.1 (T j).2.2.1).before args s = true) (hsame : ∀ x, s.fieldFound? (T j).1 (T j).2.1 (T j).2.2.1 = some x → s.fieldFound? ref (T j).2.1 (T j).2.2.1 = some x) {v : Value} (hv : fs[j]? = some v) (hdg : decode cc pc = .ok (.getfield index, 3))
    (kk : W p l e R s m args below meth c H locs cells slots Q (F0 m (pc + 3) ls (v :: rest))) : W p l e R s m args below meth c H locs cells slots Q (F0 m pc ls (.ref (gad G k) :: rest)) :=
  va_get (D := gD G) (ci := ci) (fs := fs) hexec hb hts hin hown hK.1 (pw_one hP hk) 0 (by rw [he]; rfl) hc j hj hlink hsame hv hdg kk
theorem f_getN (hexec : p.tables.exec = Jvm.exec) (hb : c.code = cc) {own ref C host : String} {T : u_T} {N ci index : Nat} {Ts : List Cond} (hts : ∀ w ∈ Ts, w.before args s = true) (hin : ∀ w ∈ u_ws C T N, w ∈ Ts) (hown : s.vm.findClass own = some m.cls) (hK : KK G s) (hP : PW G w H) (k : Nat) (hk : k < 75) {fs : List Value} (he : w k = .inr (ci, fs)) (hc : cls[ci]? = some (C, T, N)) (j : Nat) (hj : j < N) (hlink : va_Nw (.fieldLinkNest own index ref (T j).2.1 (T j).2.2.1 host) s) (hsame : ∀ x, s.fieldFound? (T j).1 (T j).2.1 (T j).2.2.1 = some x → s.fieldFound? ref (T j).2.1 (T j).2.2.1 = some x) {v : Value} (hv : fs[j]? = some v) (hdg : decode cc pc = .ok (.getfield index, 3))
    (kk : W p l e R s m args below meth c H locs cells slots Q (F0 m (pc + 3) ls (v :: rest))) : W p l e R s m args below meth c H locs cells slots Q (F0 m pc ls (.ref (gad G k) :: rest)) :=
  va_getN (D := gD G) (ci := ci) (fs := fs) hexec hb hts hin hown hK.1 (pw_one hP hk) 0 (by rw [he]; rfl) hc j hj (va_Nw.use rfl hlink) hsame hv hdg kk
theorem f_iald (hexec : p.tables.exec = Jvm.exec) (hb : c.code = cc) (hK : KK G s) (hP : PW G w H) (k : Nat) (hk : k < 75) {n : Nat} {f : Nat → Int32} (he : w k = .inl (gI G, n, .inl f)) {i : Int32} (hin : vp_in i n) (hdg : decode cc pc = .ok (.iaload, 1))
    (kk : W p l e R s m args below meth c H locs cells slots Q (F0 m (pc + 1) ls (.int (f i.toNatClampNeg) :: rest))) : W p l e R s m args below meth c H locs cells slots Q (F0 m pc ls (.int i :: .ref (gad G k) :: rest)) :=
  va_iald (D := gD G) (n := n) (f := f) hexec hb hK.1 (pw_one hP hk) 0 0 (by rw [he]; rfl) rfl hin hdg kk
theorem f_lald (hexec : p.tables.exec = Jvm.exec) (hb : c.code = cc) (hK : KK G s) (hP : PW G w H) (k : Nat) (hk : k < 75) {n : Nat} {f : Nat → Int64} (he : w k = .inl (gJ G, n, .inr (.inl f))) {i : Int32} (hin : vp_in i n) (hdg : decode cc pc = .ok (.laload, 1))
    (kk : W p l e R s m args below meth c H locs cells slots Q (F0 m (pc + 1) ls (.long (f i.toNatClampNeg) :: rest))) : W p l e R s m args below meth c H locs cells slots Q (F0 m pc ls (.int i :: .ref (gad G k) :: rest)) :=
  va_lald (D := gD G) (n := n) (f := f) hexec hb hK.1 (pw_one hP hk) 0 1 (by rw [he]; rfl) rfl hin hdg kk
theorem f_zald (hexec : p.tables.exec = Jvm.exec) (hb : c.code = cc) (hK : KK G s) (hP : PW G w H) (k : Nat) (hk : k < 75) {n : Nat} {f : Nat → Int32} (he : w k = .inl (gZ G, n, .inl f)) {i : Int32} (hin : vp_in i n) (hdg : decode cc pc = .ok (.baload, 1))
    (kk : W p l e R s m args below meth c H locs cells slots Q (F0 m (pc + 1) ls (.int (f i.toNatClampNeg) :: rest))) : W p l e R s m args below meth c H locs cells slots Q (F0 m pc ls (.int i :: .ref (gad G k) :: rest)) :=
  va_zald (D := gD G) (n := n) (f := f) hexec hb hK.1 (pw_one hP hk) 0 2 (by rw [he]; rfl) rfl hin hdg kk
theorem f_aldq (hexec : p.tables.exec = Jvm.exec) (hb : c.code = cc) (hK : KK G s) (hP : PW G w H) {i : Int32} {j : Nat} (hj : j < 10) (hij : i = nI j) (hdg : decode cc pc = .ok (.aaload, 1))
    (kk : W p l e R s m args below meth c H locs cells slots Q (F0 m (pc + 1) ls (.ref (gad G (19 + 4 * j)) :: rest))) : W p l e R s m args below meth c H locs cells slots Q (F0 m pc ls (.int i :: .ref (gad G 1) :: rest)) := by
  subst hij
  refine va_aldq (D := gD G) (n := 10) (f := fun i => some (gad G (19 + 4 * i))) (C := RX0) hexec hb hK.1 (pw_one hP (k := 1) (by omega)) 0 3 (by rw [hP.1 1 (by omega)]; rfl) rfl (vp_in_nI hj (by omega)) hdg ?_
  rw [nI_clamp (by omega)]
  exact kk
/-- writes -/
theorem f_put (hexec : p.tables.exec = Jvm.exec) (hb : c.code = cc) {own ref C : String} {T : u_T} {N ci index : Nat} {Ts : List Cond} (hts : ∀ w ∈ Ts, w.before args s = true) (hin : ∀ w ∈ u_ws C T N, w ∈ Ts) (ty0 : Nat → FieldType) (hty : ∀ k, k < N → parseFieldDescriptor (T k).2.2.1 = some (ty0 k)) (hnm : ∀ a, a < N → ∀ b, b < N → a ≠ b → (T a).2.1 ≠ (T b).2.1) (hown : s.vm.findClass own = some m.cls) (hK : KK G s) (hP : PW G w H) (hS0 : va_S A0 H0 H locs) (hA : ∀ q, AA G q → A0 q) (k0 : Nat) (hk0 : k0 < 75) {fs : List Value} (he : w k0 = .inr (ci, fs)) (hc : cls[ci]? = some (C, T, N)) (k : Nat) (hk : k < N) (hlink : (Cond.fieldLink own index ref (T k).2.1 (T k).2.2.1).before args s = true) (hsame : ∀ x, s.fieldFound? (T k).1 (T k).2.1 (T k).2.2.1 = some x → s.fieldFound? ref (T k).2.1 (T k).2.2.1 = some x) (hfin : (T k).2.2.2 = false) {ty : FieldType} {v : Value} (hd : parseFieldDescriptor (T k).2.2.1 = some ty) (hn : narrow ty v = v) (hfit : fits ty v = true) (hl : k < fs.length) (hsh : (.inr (ci, fs.set k v) : va_E) = shp G k0 (.inr (ci, fs.set k v)))
    (hdg : decode cc pc = .ok (.putfield index, 3)) (kk : ∀ (H1 : Heap) (locs1 : List Loc), PW G (va_up w k0 (.inr (ci, fs.set k v))) H1 → va_S A0 H0 H1 locs1 → W p l e R s m args below meth c H1 locs1 cells slots Q (F0 m (pc + 3) ls rest)) : W p l e R s m args below meth c H locs cells slots Q (F0 m pc ls (v :: .ref (gad G k0) :: rest)) := by
  have hap := va_apart (own := own) hts hin ty0 hty hnm hK.1 hc
  obtain ⟨r, h1, cell, q1, q2, q3, q4⟩ := (show va_at (gD G) cls (gad G k0, .inr (ci, fs)) H by rw [← he]; exact hP.2 k0 hk0)
  have hr : r = (C, T, N) := Option.some.inj (h1.symm.trans hc)
  subst hr
  obtain ⟨hS, hfc, kC, hkC, hkind⟩ := hK.1.1 ci _ hc
  obtain ⟨cf, kf, fi, f, hi, hsl⟩ := hS k hk
  have hlay := hts _ (hin _ (u_in_lay hk))
  unfold u_lay at hlay
  rw [if_neg (by rw [hfin]; decide)] at hlay
  have hst := (u_facts hfc hkC (u_lays hts hin hk) hi).1
  have h6 := u_store hfc hkC hkind hlay hi hd hn hfit
  refine W.putK hexec hb (f := f) ⟨hown, hlink, ⟨_, _, _, hsame _ hi⟩, hst⟩ (by rw [q2]; exact h6) q1 q3 (by rw [hsl]; exact k2_hasslot (q4 k hk)) rfl rfl hdg fun H' e1 e2 e3 => ?_
  rw [hsl] at e1 ⊢
  exact kk H' _ (pw_up hP hK.2.1 hk0 hsh ⟨_, hc, t_OB.to (V := updV (vp_V fs) k v) ⟨_, e1, q2, q3, t_set q4 hap hk v⟩ (fun j _ => vp_updV_set hl v j)⟩ e3) (hS0.put e2 e3 (hA _ ⟨k0, hk0, rfl⟩))
theorem f_iast (hexec : p.tables.exec = Jvm.exec) (hb : c.code = cc) (hK : KK G s) (hP : PW G w H) (hS : va_S A0 H0 H locs) (hA : ∀ q, AA G q → A0 q) (k : Nat) (hk : k < 75) {n : Nat} {f : Nat → Int32} (he : w k = .inl (gI G, n, .inl f)) (hsh : ∀ g : Nat → Int32, (.inl (gI G, n, .inl g) : va_E) = shp G k (.inl (gI G, n, .inl g))) {i : Int32} {x : Int32} (hin : vp_in i n) (hdg : decode cc pc = .ok (.iastore, 1))
    (kk : ∀ (H1 : Heap) (locs1 : List Loc), PW G (va_up w k (.inl (gI G, n, .inl (upd f i.toNatClampNeg x)))) H1 → va_S A0 H0 H1 locs1 → W p l e R s m args below meth c H1 locs1 cells slots Q (F0 m (pc + 1) ls rest)) : W p l e R s m args below meth c H locs cells slots Q (F0 m pc ls (.int x :: .int i :: .ref (gad G k) :: rest)) := by
  have ha : H[gad G k]? = some (vp_cell (gI G) (n, .inl f)) := (show va_at (gD G) cls (gad G k, .inl (gI G, n, .inl f)) H by rw [← he]; exact hP.2 k hk)
  refine W.iast hexec hb ha ((hK.1.2 0 _ rfl).1 n (fun j => .int (f j))) (fun q => by cases q) (by show ¬ (i < 0 ∨ (arrV _ _ _).slots.size ≤ _); rw [arrV_size]; exact hin) rfl rfl hdg fun H1 e z oq => ?_
  refine kk H1 _ (pw_up hP hK.2.1 hk (hsh _) ?_ oq) (hS.put z oq (hA _ ⟨k, hk, rfl⟩))
  show H1[gad G k]? = some (vp_cell _ _)
  rw [e]
  rw [vp_cell_i, vp_cell_i, arrV_store]
  congr 2
  funext q
  by_cases hq : q = i.toNatClampNeg
  · subst hq
    simp [updV, upd]
  · simp [updV, upd, hq]
theorem f_zast (hexec : p.tables.exec = Jvm.exec) (hb : c.code = cc) (hK : KK G s) (hP : PW G w H) (hS : va_S A0 H0 H locs) (hA : ∀ q, AA G q → A0 q) (k : Nat) (hk : k < 75) {n : Nat} {f : Nat → Int32} (he : w k = .inl (gZ G, n, .inl f)) (hsh : ∀ g : Nat → Int32, (.inl (gZ G, n, .inl g) : va_E) = shp G k (.inl (gZ G, n, .inl g))) {i : Int32} {x : Int32} (hx1 : vp_nar .boolean x = x) (hin : vp_in i n) (hdg : decode cc pc = .ok (.bastore, 1))
    (kk : ∀ (H1 : Heap) (locs1 : List Loc), PW G (va_up w k (.inl (gZ G, n, .inl (upd f i.toNatClampNeg x)))) H1 → va_S A0 H0 H1 locs1 → W p l e R s m args below meth c H1 locs1 cells slots Q (F0 m (pc + 1) ls rest)) : W p l e R s m args below meth c H locs cells slots Q (F0 m pc ls (.int x :: .int i :: .ref (gad G k) :: rest)) := by
  have ha : H[gad G k]? = some (vp_cell (gZ G) (n, .inl f)) := (show va_at (gD G) cls (gad G k, .inl (gZ G, n, .inl f)) H by rw [← he]; exact hP.2 k hk)
  refine W.zast hexec hb ha ((hK.1.2 2 _ rfl).1 n (fun j => .int (f j))) (fun q => by cases q) (by show ¬ (i < 0 ∨ (arrV _ _ _).slots.size ≤ _); rw [arrV_size]; exact hin) rfl rfl hdg fun H1 e z oq => ?_
  refine kk H1 _ (pw_up hP hK.2.1 hk (hsh _) ?_ oq) (hS.put z oq (hA _ ⟨k, hk, rfl⟩))
  show H1[gad G k]? = some (vp_cell _ _)
  rw [e]
  rw [vp_cell_i, vp_cell_i, arrV_store]
  congr 2
  funext q
  by_cases hq : q = i.toNatClampNeg
  · subst hq
    have h2 : narrow .boolean (.int x) = .int (vp_nar .boolean x) := by
      simp [vp_nar, narrow]
      try rfl
    rw [hx1] at h2
    simp [updV, upd, h2]
  · simp [updV, upd, hq]
theorem f_last (hexec : p.tables.exec = Jvm.exec) (hb : c.code = cc) (hK : KK G s) (hP : PW G w H) (hS : va_S A0 H0 H locs) (hA : ∀ q, AA G q → A0 q) (k : Nat) (hk : k < 75) {n : Nat} {f : Nat → Int64} (he : w k = .inl (gJ G, n, .inr (.inl f))) (hsh : ∀ g : Nat → Int64, (.inl (gJ G, n, .inr (.inl g)) : va_E) = shp G k (.inl (gJ G, n, .inr (.inl g)))) {i : Int32} {x : Int64} (hin : vp_in i n) (hdg : decode cc pc = .ok (.lastore, 1))
    (kk : ∀ (H1 : Heap) (locs1 : List Loc), PW G (va_up w k (.inl (gJ G, n, .inr (.inl (vp_updL f i.toNatClampNeg x))))) H1 → va_S A0 H0 H1 locs1 → W p l e R s m args below meth c H1 locs1 cells slots Q (F0 m (pc + 1) ls rest)) : W p l e R s m args below meth c H locs cells slots Q (F0 m pc ls (.long x :: .int i :: .ref (gad G k) :: rest)) := by
  have ha : H[gad G k]? = some (vp_cell (gJ G) (n, .inr (.inl f))) := (show va_at (gD G) cls (gad G k, .inl (gJ G, n, .inr (.inl f))) H by rw [← he]; exact hP.2 k hk)
  refine W.last hexec hb ha ((hK.1.2 1 _ rfl).1 n (fun j => .long (f j))) (fun q => by cases q) (by show ¬ (i < 0 ∨ (arrV _ _ _).slots.size ≤ _); rw [arrV_size]; exact hin) rfl rfl hdg fun H1 e z oq => ?_
  refine kk H1 _ (pw_up hP hK.2.1 hk (hsh _) ?_ oq) (hS.put z oq (hA _ ⟨k, hk, rfl⟩))
  show H1[gad G k]? = some (vp_cell _ _)
  rw [e]
  rw [vp_cell_l, vp_cell_l, arrV_store]
  congr 2
  funext q
  by_cases hq : q = i.toNatClampNeg
  · subst hq
    simp [updV, vp_updL]
  · simp [updV, vp_updL, hq]
end FW
