/-! making the world: the cells in the order in which they are made -/
def ordK (k : Nat) : Nat := if k < 2 then k else if k < 19 then k + 40 else if k < 59 then k - 17 else k
theorem ordK_inj {i j : Nat} (h : ordK i = ordK j) : i = j := by
  unfold ordK at h
  split at h <;> split at h <;> (try split at h) <;> (try split at h) <;> (try split at h) <;> (try split at h) <;> omega
theorem ordK_lt {k : Nat} : ordK k < 75 ↔ k < 75 := by
  unfold ordK
  split
  · omega
  · split
    · omega
    · split <;> omega
def GA (G : GE) : Prop := ∀ k : Nat, gad G k = gad G 0 + ordK k
def A9 (G : GE) : Nat → Prop := fun q => gad G 0 ≤ q
def PB (G : GE) (w : WF) (n : Nat) (H : Heap) : Prop := H.size = gad G 0 + n ∧ ∀ k : Nat, ordK k < n → va_at (gD G) cls (gad G k, w k) H
def KK9 (G : GE) (s : State) : Prop := KK G s ∧ GA G ∧ va_AO RX0 s
theorem KK9.warm {G : GE} {s U : State} (hW : s.WarmedH U.vm) (h : KK9 G s) : KK9 G U := ⟨KK.warm hW h.1, h.2.1, va_AO.moved hW.alike h.2.2⟩
theorem KK9.same {G : GE} {s U : State} (hv : s.vm = U.vm) (h : KK9 G s) : KK9 G U := ⟨KK.same hv h.1, h.2.1, va_AO.moved (by rw [hv]; exact Vm.Alike.refl U.vm) h.2.2⟩
def PcB (G : GE) (w : WF) (n : Nat) (av : List Value) : Array Value → State → Prop := va_Pc av (fun U => PB G w n U.heap ∧ KK9 G U)
theorem pcB_blind {G : GE} {w : WF} {n : Nat} {av : List Value} : FrameBlind (PcB G w n av) := fun _ U g mk q => ⟨q.1, q.2.1, KK9.same (s := U) (U := U.calling g mk _) rfl q.2.2⟩
def QB (G : GE) (n1 : Nat) (post : WF → Prop) : Array Value → State → Outcome → State → Prop := fun _ st oc t => (oc = .returned none ∧ ∃ w, post w ∧ PB G w n1 t.heap) ∧ va_F (A9 G) st t
theorem y_preS {G : GE} {w : WF} {n : Nat} {s : State} {H : Heap} (hP : PB G w n H) (hK : KK9 G s) {As : List Value} : PreS s H (PcB G w n As) As := ⟨pcB_blind, fun U hU hW => ⟨rfl, by rw [hU]; exact hP, hK.warm hW⟩⟩
theorem pb_new {G : GE} {w : WF} {n : Nat} {H H1 : Heap} (h : PB G w n H) {k : Nat} (hk : ordK k = n) {e : va_E} (he : va_at (gD G) cls (gad G k, e) H1) (z1 : H1.size = H.size + 1) (o1 : ∀ q, q < H.size → H1[q]? = H[q]?) (hG : GA G) : PB G (va_up w k e) (n + 1) H1 := by
  refine ⟨by rw [z1, h.1, Nat.add_assoc], fun j hj => ?_⟩
  by_cases hjk : j = k
  · subst hjk
    rw [va_up_self]
    exact he
  · rw [va_up_ne w e hjk]
    have hlt : ordK j < n := by
      have : ordK j ≠ ordK k := fun z => hjk (ordK_inj z)
      omega
    exact (h.2 j hlt).kept (o1 _ (by rw [h.1]; show gad G j < _; rw [hG j]; omega))
theorem pb_up {G : GE} {w : WF} {n : Nat} {H H1 : Heap} (h : PB G w n H) {k : Nat} {e : va_E} (he : va_at (gD G) cls (gad G k, e) H1) (z1 : H1.size = H.size) (o1 : ∀ q, q ≠ gad G k → H1[q]? = H[q]?) (hG : GA G) : PB G (va_up w k e) n H1 := by
  refine ⟨by rw [z1, h.1], fun j hj => ?_⟩
  by_cases hjk : j = k
  · subst hjk
    rw [va_up_self]
    exact he
  · rw [va_up_ne w e hjk]
    exact (h.2 j hj).kept (o1 _ (fun z => by
      have z2 : gad G j = gad G k := z
      rw [hG j, hG k] at z2
      exact hjk (ordK_inj (Nat.add_left_cancel z2))))
section FY
variable {p : Program} {l : Launch} {e : Env} {R : Room} {s : State} {m : MethodId} {args : Array Value} {below : List Frame} {meth : Method} {c : Code} {H : Heap} {locs : List Loc} {cells slots : Nat} {Q : State → Prop}
variable {pc : Nat} {ls : Array Slot} {rest st0 : List Value} {a : Array Value} {A0 : Nat → Prop} {H0 : Heap} {G : GE} {w : WF} {cc : ByteArray} {n0 : Nat}
theorem y_S1 {H1 : Heap} (hS : va_S A0 H0 H locs) (z1 : H1.size = H.size + 1) (o1 : ∀ q, q < H.size → H1[q]? = H[q]?) : va_S A0 H0 H1 locs := ⟨Nat.le_trans hS.1 (by omega), fun x h1 h2 => (o1 x (Nat.lt_of_lt_of_le h1 hS.1)).trans (hS.2.1 x h1 h2), hS.2.2⟩
theorem y_newa (hx : p.tables.exec = Jvm.exec) (hb : c.code = cc) {atype : ArrayType} (harr : (Cond.arrayClass (newarray.typeOf atype)).before args s = true) {cA : ClassId} (hca : s.vm.findClass ("[" ++ (newarray.typeOf atype).toString) = some cA) (hP : PB G w n0 H) (hG : GA G) (hS : va_S A0 H0 H locs) {n : Int32} {N : Nat} {a0 : vp_A} (ha : vp_cell cA a0 = arrV cA N (fun _ => defaultValue (newarray.typeOf atype))) (hn : ¬ n < 0) (hN : n.toNatClampNeg = N) (hbytes : N * componentBytes (newarray.typeOf atype) ≤ 536870912) (hcells : cells + 1 ≤ R.cells) (hslots : slots + N ≤ R.slots) (k : Nat) (hk : ordK k = n0) (hdg : decode cc pc = .ok (.newarray atype, 2))
    (kk : ∀ H1 : Heap, PB G (va_up w k (.inl (cA, a0))) (n0 + 1) H1 → va_S A0 H0 H1 locs → W p l e R s m args below meth c H1 locs (cells + 1) (slots + N) Q (F0 m (pc + 2) ls (.ref (gad G k) :: rest))) : W p l e R s m args below meth c H locs cells slots Q (F0 m pc ls (.int n :: rest)) := by
  have hsz : H.size = gad G k := by rw [hP.1, hG k, hk]
  refine va_newaK hx hb harr rfl hdg rfl hn hN hbytes hcells hslots hsz fun H1 cA' e1 z1 o1 hAr hNm => ?_
  rw [hca] at hNm
  cases hNm
  have z2 : H1.size = H.size + 1 := by rw [z1, hsz]
  have o2 : ∀ q, q < H.size → H1[q]? = H[q]? := fun q hq => o1 q (by rw [← hsz]; exact hq)
  exact kk H1 (pb_new hP hk (by show H1[gad G k]? = some (vp_cell cA a0); rw [ha]; exact e1) z2 o2 hG) (y_S1 hS z2 o2)
theorem y_newq (hx : p.tables.exec = Jvm.exec) (hb : c.code = cc) {own : String} {index : Nat} (hown : s.vm.findClass own = some m.cls) (hclink : (Cond.classLink own index RX0).before args s = true) (hK : KK9 G s) (hP : PB G w n0 H) (hS : va_S A0 H0 H locs) {n : Int32} {N : Nat} (hn : ¬ n < 0) (hN : n.toNatClampNeg = N) (hbytes : N * 4 ≤ 536870912) (hcells : cells + 1 ≤ R.cells) (hslots : slots + N ≤ R.slots) (k : Nat) (hk : ordK k = n0) (hdg : decode cc pc = .ok (.anewarray index, 3))
    (kk : ∀ H1 : Heap, PB G (va_up w k (.inl (gQ G, N, .inr (.inr (.inr (.inr (fun _ => none))))))) (n0 + 1) H1 → va_S A0 H0 H1 locs → W p l e R s m args below meth c H1 locs (cells + 1) (slots + N) Q (F0 m (pc + 3) ls (.ref (gad G k) :: rest))) : W p l e R s m args below meth c H locs cells slots Q (F0 m pc ls (.int n :: rest)) := by
  subst hN
  have hG := hK.2.1
  have hsz : H.size = gad G k := by rw [hP.1, hG k, hk]
  refine W.anew hx hb hown hclink (va_AO.use hK.2.2) rfl hdg rfl hn hbytes hcells hslots fun cA kA comp f1 f2 f3 f4 => ?_
  obtain ⟨kA', comp', k1, k2, k3, k4⟩ := (hK.1.1.2 3 _ rfl).2
  have hcA : cA = gQ G := Option.some.inj (f1.symm.trans k4)
  subst hcA
  have z2 : (H.push ({ cls := gQ G, slots := Array.replicate n.toNatClampNeg .null, vm := .none } : Cell)).size = H.size + 1 := Array.size_push _
  have o2 : ∀ q, q < H.size → (H.push ({ cls := gQ G, slots := Array.replicate n.toNatClampNeg .null, vm := .none } : Cell))[q]? = H[q]? := fun q hq => by rw [Array.getElem?_push, if_neg (Nat.ne_of_lt hq)]
  rw [hsz]
  refine kk _ (pb_new hP hk ?_ z2 o2 hG) (y_S1 hS z2 o2)
  show _ = some (vp_cell _ _)
  rw [vp_cell_q, ← hsz, Array.getElem?_push_size, ← arrV_new]
  rfl
theorem y_new (hx : p.tables.exec = Jvm.exec) (hb : c.code = cc) {own C : String} {T : u_T} {N ci index : Nat} {Ts : List Cond} (hts : ∀ w ∈ Ts, w.before args s = true) (hin : ∀ w ∈ u_ws C T N, w ∈ Ts) (ty : Nat → FieldType) (hty : ∀ k, k < N → parseFieldDescriptor (T k).2.2.1 = some (ty k)) (hown : s.vm.findClass own = some m.cls) (hcl : (Cond.classLink own index C).before args s = true) (hinst : (Cond.instantiable C N).before args s = true) (hini : (Cond.initialized C).before args s = true)
    (hK : KK9 G s) (hP : PB G w n0 H) (hS : va_S A0 H0 H locs) (hc : cls[ci]? = some (C, T, N)) {fs : List Value} (hfs : ∀ j, j < N → defaultValue (ty j) = vp_V fs j) (hcells : cells + 1 ≤ R.cells) (hslots : slots + N ≤ R.slots) (k : Nat) (hk : ordK k = n0) (hdg : decode cc pc = .ok (.new index, 3))
    (kk : ∀ H1 : Heap, PB G (va_up w k (.inr (ci, fs))) (n0 + 1) H1 → va_S A0 H0 H1 locs → W p l e R s m args below meth c H1 locs (cells + 1) (slots + N) Q (F0 m (pc + 3) ls (.ref (gad G k) :: rest))) : W p l e R s m args below meth c H locs cells slots Q (F0 m pc ls rest) := by
  have hG := hK.2.1
  have hsz : H.size = gad G k := by rw [hP.1, hG k, hk]
  have hKn := hK.1.1.1 ci _ hc
  refine W.newcK hx hb hown hcl hinst hini rfl hdg hcells hslots hKn.2.1 hsz fun H1 kC hkC e1 z1 o1 => ?_
  have z2 : H1.size = H.size + 1 := by rw [z1, hsz]
  have o2 : ∀ q, q < H.size → H1[q]? = H[q]? := fun q hq => o1 q (by rw [← hsz]; exact hq)
  exact kk H1 (pb_new hP hk ⟨_, hc, (u_born ty hts hin hKn hkC e1 hty).to hfs⟩ z2 o2 hG) (y_S1 hS z2 o2)
theorem y_put (hx : p.tables.exec = Jvm.exec) (hb : c.code = cc) {own ref C : String} {T : u_T} {N ci index : Nat} {Ts : List Cond} (hts : ∀ w ∈ Ts, w.before args s = true) (hin : ∀ w ∈ u_ws C T N, w ∈ Ts) (ty0 : Nat → FieldType) (hty : ∀ k, k < N → parseFieldDescriptor (T k).2.2.1 = some (ty0 k)) (hnm : ∀ a, a < N → ∀ b, b < N → a ≠ b → (T a).2.1 ≠ (T b).2.1) (hown : s.vm.findClass own = some m.cls) (hK : KK9 G s) (hP : PB G w n0 H) (hS0 : va_S A0 H0 H locs) (hA : ∀ q, A9 G q → A0 q) (k0 : Nat) (hk0 : ordK k0 < n0) {fs : List Value} (he : w k0 = .inr (ci, fs)) (hc : cls[ci]? = some (C, T, N)) (k : Nat) (hk : k < N) (hlink : (Cond.fieldLink own index ref (T k).2.1 (T k).2.2.1).before args s = true) (hsame : ∀ x, s.fieldFound? (T k).1 (T k).2.1 (T k).2.2.1 = some x → s.fieldFound? ref (T k).2.1 (T k).2.2.1 = some x) (hfin : (T k).2.2.2 = false) {ty : FieldType} {v : Value} (hd : parseFieldDescriptor (T k).2.2.1 = some ty) (hn : narrow ty v = v) (hfit : fits ty v = true) (hl : k < fs.length)
    (hdg : decode cc pc = .ok (.putfield index, 3)) (kk : ∀ (H1 : Heap) (locs1 : List Loc), PB G (va_up w k0 (.inr (ci, fs.set k v))) n0 H1 → va_S A0 H0 H1 locs1 → W p l e R s m args below meth c H1 locs1 cells slots Q (F0 m (pc + 3) ls rest)) : W p l e R s m args below meth c H locs cells slots Q (F0 m pc ls (v :: .ref (gad G k0) :: rest)) := by
  have hap := va_apart (own := own) hts hin ty0 hty hnm hK.1.1 hc
  obtain ⟨r, h1, cell, q1, q2, q3, q4⟩ := (show va_at (gD G) cls (gad G k0, .inr (ci, fs)) H by rw [← he]; exact hP.2 k0 hk0)
  have hr : r = (C, T, N) := Option.some.inj (h1.symm.trans hc)
  subst hr
  obtain ⟨hS, hfc, kC, hkC, hkind⟩ := hK.1.1.1 ci _ hc
  obtain ⟨cf, kf, fi, f, hi, hsl⟩ := hS k hk
  have hlay := hts _ (hin _ (u_in_lay hk))
  unfold u_lay at hlay
  rw [if_neg (by rw [hfin]; decide)] at hlay
  have hst := (u_facts hfc hkC (u_lays hts hin hk) hi).1
  have h6 := u_store hfc hkC hkind hlay hi hd hn hfit
  refine W.putK hx hb (f := f) ⟨hown, hlink, ⟨_, _, _, hsame _ hi⟩, hst⟩ (by rw [q2]; exact h6) q1 q3 (by rw [hsl]; exact k2_hasslot (q4 k hk)) rfl rfl hdg fun H' e1 e2 e3 => ?_
  rw [hsl] at e1 ⊢
  exact kk H' _ (pb_up hP ⟨_, hc, t_OB.to (V := updV (vp_V fs) k v) ⟨_, e1, q2, q3, t_set q4 hap hk v⟩ (fun j _ => vp_updV_set hl v j)⟩ e2 e3 hK.2.1) (hS0.put e2 e3 (hA _ (by show gad G 0 ≤ gad G k0; rw [hK.2.1 k0]; exact Nat.le_add_right _ _)))
theorem y_putF (hx : p.tables.exec = Jvm.exec) (hb : c.code = cc) {own ref C : String} {T : u_T} {N ci index : Nat} {Ts : List Cond} (hts : ∀ w ∈ Ts, w.before args s = true) (hin : ∀ w ∈ u_ws C T N, w ∈ Ts) (ty0 : Nat → FieldType) (hty : ∀ k, k < N → parseFieldDescriptor (T k).2.2.1 = some (ty0 k)) (hnm : ∀ a, a < N → ∀ b, b < N → a ≠ b → (T a).2.1 ≠ (T b).2.1) (hown : s.vm.findClass own = some m.cls) (hK : KK9 G s) (hP : PB G w n0 H) (hS0 : va_S A0 H0 H locs) (hA : ∀ q, A9 G q → A0 q) (k0 : Nat) (hk0 : ordK k0 < n0) {fs : List Value} (he : w k0 = .inr (ci, fs)) (hc : cls[ci]? = some (C, T, N)) (k : Nat) (hk : k < N) (hlink : (Cond.fieldLink own index ref (T k).2.1 (T k).2.2.1).before args s = true) (hsame : ∀ x, s.fieldFound? (T k).1 (T k).2.1 (T k).2.2.1 = some x → s.fieldFound? ref (T k).2.1 (T k).2.2.1 = some x) (hfin : (T k).2.2.2 = true) (hin2 : meth.name = "<init>") (hdecl : (T k).1 = own) {ty : FieldType} {v : Value} (hd : parseFieldDescriptor (T k).2.2.1 = some ty) (hn : narrow ty v = v) (hfit : fits ty v = true) (hl : k < fs.length)
    (hdg : decode cc pc = .ok (.putfield index, 3)) (kk : ∀ (H1 : Heap) (locs1 : List Loc), PB G (va_up w k0 (.inr (ci, fs.set k v))) n0 H1 → va_S A0 H0 H1 locs1 → W p l e R s m args below meth c H1 locs1 cells slots Q (F0 m (pc + 3) ls rest)) : W p l e R s m args below meth c H locs cells slots Q (F0 m pc ls (v :: .ref (gad G k0) :: rest)) := by
  have hap := va_apart (own := own) hts hin ty0 hty hnm hK.1.1 hc
  obtain ⟨r, h1, cell, q1, q2, q3, q4⟩ := (show va_at (gD G) cls (gad G k0, .inr (ci, fs)) H by rw [← he]; exact hP.2 k0 hk0)
  have hr : r = (C, T, N) := Option.some.inj (h1.symm.trans hc)
  subst hr
  obtain ⟨hS, hfc, kC, hkC, hkind⟩ := hK.1.1.1 ci _ hc
  obtain ⟨cf, kf, fi, f, hi, hsl⟩ := hS k hk
  have hlay := hts _ (hin _ (u_in_lay hk))
  unfold u_lay at hlay
  rw [if_pos hfin] at hlay
  have hst := (u_facts hfc hkC (u_lays hts hin hk) hi).1
  have hcf : m.cls = cf := by
    obtain ⟨_, _, c', _, _, _, -, -, hf', -, -, -, hown2, -⟩ := Cond.laysFinal_spec hlay
    have e1 : c' = cf := by have := hi.symm.trans hf'; simp at this; exact this.1.symm
    rw [hdecl] at hown2
    rw [← e1]
    exact Option.some.inj (hown.symm.trans hown2)
  have h6 := u_fits hfc hkC hkind (Or.inr hlay) hi hd hn hfit
  refine W.putFinK hx hb hown hlink (hsame _ hi) hst hcf hin2 (by rw [q2]; exact h6) q1 q3 (by rw [hsl]; exact k2_hasslot (q4 k hk)) rfl rfl hdg fun H' e1 e2 e3 => ?_
  rw [hsl] at e1 ⊢
  exact kk H' _ (pb_up hP ⟨_, hc, t_OB.to (V := updV (vp_V fs) k v) ⟨_, e1, q2, q3, t_set q4 hap hk v⟩ (fun j _ => vp_updV_set hl v j)⟩ e2 e3 hK.2.1) (hS0.put e2 e3 (hA _ (by show gad G 0 ≤ gad G k0; rw [hK.2.1 k0]; exact Nat.le_add_right _ _)))
theorem y_one (hP : PB G w n0 H) {k : Nat} (hk : ordK k < n0) : va_P (gD G) cls [(gad G k, w k)] H := fun i q hq => by
  match i, hq with
  | 0, hq => cases hq; exact hP.2 k hk
  | i + 1, hq => simp at hq
theorem y_get (hx : p.tables.exec = Jvm.exec) (hb : c.code = cc) {own ref C : String} {T : u_T} {N ci index : Nat} {Ts : List Cond} (hts : ∀ w ∈ Ts, w.before args s = true) (hin : ∀ w ∈ u_ws C T N, w ∈ Ts) (hown : s.vm.findClass own = some m.cls) (hK : KK9 G s) (hP : PB G w n0 H) (k0 : Nat) (hk0 : ordK k0 < n0) {fs : List Value} (he : w k0 = .inr (ci, fs)) (hc : cls[ci]? = some (C, T, N)) (k : Nat) (hk : k < N) (hlink : (Cond.fieldLink own index ref (T k).2.1 (T k).2.2.1).before args s = true) (hsame : ∀ x, s.fieldFound? (T k).1 (T k).2.1 (T k).2.2.1 = some x → s.fieldFound? ref (T k).2.1 (T k).2.2.1 = some x) {v : Value} (hv : fs[k]? = some v) (hdg : decode cc pc = .ok (.getfield index, 3))
    (kk : W p l e R s m args below meth c H locs cells slots Q (F0 m (pc + 3) ls (v :: rest))) : W p l e R s m args below meth c H locs cells slots Q (F0 m pc ls (.ref (gad G k0) :: rest)) :=
  va_get (D := gD G) (ci := ci) hx hb hts hin hown hK.1.1 (y_one hP hk0) 0 (by rw [he]; rfl) hc k hk hlink hsame hv hdg kk
theorem y_aast (hx : p.tables.exec = Jvm.exec) (hb : c.code = cc) (hK : KK9 G s) (hP : PB G w n0 H) (hS : va_S A0 H0 H locs) (hA : ∀ q, A9 G q → A0 q) (k v : Nat) (hk : ordK k < n0) (hv : ordK v < n0) {n : Nat} {f : Nat → Option Nat} (he : w k = .inl (gQ G, n, .inr (.inr (.inr (.inr f))))) {vs : List Value} (hve : w v = .inr (0, vs)) {i : Int32} (hin : vp_in i n) (hdg : decode cc pc = .ok (.aastore, 1))
    (kk : ∀ (H1 : Heap) (locs1 : List Loc), PB G (va_up w k (.inl (gQ G, n, .inr (.inr (.inr (.inr (va_up f i.toNatClampNeg (some (gad G v))))))))) n0 H1 → va_S A0 H0 H1 locs1 → W p l e R s m args below meth c H1 locs1 cells slots Q (F0 m (pc + 1) ls rest)) : W p l e R s m args below meth c H locs cells slots Q (F0 m pc ls (.ref (gad G v) :: .int i :: .ref (gad G k) :: rest)) := by
  have hlt : i.toNatClampNeg < n := Nat.not_le.mp fun q => hin (Or.inr q)
  have h0 : ¬ i < 0 := fun q => hin (Or.inl q)
  obtain ⟨r', hr', cellV, g1, g2, g3, -⟩ := (show va_at (gD G) cls (gad G v, .inr (0, vs)) H by rw [← hve]; exact hP.2 v hv)
  have hcls := (hK.1.1.1 0 _ rfl).2
  obtain ⟨kA, comp, k1, k2, k3, -⟩ := (hK.1.1.2 3 _ rfl).2
  have hcomp : comp = (gD G).1 0 := Option.some.inj (k3.symm.trans hcls.1)
  subst hcomp
  obtain ⟨kC, hkC, -⟩ := hcls.2
  have ha : H[gad G k]? = some (vp_cell (gQ G) (n, .inr (.inr (.inr (.inr f))))) := (show va_at (gD G) cls (gad G k, .inl (gQ G, n, .inr (.inr (.inr (.inr f))))) H by rw [← he]; exact hP.2 k hk)
  refine W.aast hx hb ha (fun q h => by cases h) (fun h => by cases h) k1 k2 rfl hkC ⟨h0, by show _ < (arrV _ _ _).slots.size; rw [arrV_size]; exact hlt⟩ g1 (fun q h => by rw [g3] at h; cases h) (by rw [g2]; exact hkC) (by rw [g2]; exact va_assign hcls) rfl rfl hdg fun H1 e z oq => ?_
  refine kk H1 _ (pb_up hP ?_ z oq hK.2.1) (hS.put z oq (hA _ (by show gad G 0 ≤ gad G k; rw [hK.2.1 k]; exact Nat.le_add_right _ _)))
  show H1[gad G k]? = some (vp_cell _ _)
  rw [e]
  rw [vp_cell_q, vp_cell_q, arrV_store]
  congr 2
  funext q
  by_cases hq : q = i.toNatClampNeg
  · subst hq
    simp [updV, va_up, va_rf]
  · simp [updV, va_up, hq]
theorem y_callv {mc ms n1 : Nat} {post : WF → Prop} (hr : va_Run p l e R s m args below meth c H locs cells slots mc ms (F0 m pc ls st0) rest (QB G n1 post a) (A9 G)) (hS : va_S A0 H0 H locs) (hA : ∀ q, A9 G q → A0 q)
    (kk : ∀ (w1 : WF) (H1 : Heap) (locs1 : List Loc), post w1 → PB G w1 n1 H1 → va_S A0 H0 H1 locs1 → W p l e R s m args below meth c H1 locs1 (cells + mc) (slots + ms) Q (F0 m (pc + 3) ls rest)) : W p l e R s m args below meth c H locs cells slots Q (F0 m pc ls st0) := by
  intro T hT X
  obtain ⟨v, st₀, t, T', L, h0, X', hL, e1, e2, ⟨⟨hv, w1, hp, hb⟩, hz, hk⟩, st⟩ := hr T hT X
  cases hv
  rw [h0] at hz hk
  obtain ⟨t2, a1, b1⟩ := kk w1 T'.heap (locs ++ L) hp (by rw [e1]; exact hb)
    ⟨Nat.le_trans hS.1 (by rw [e1]; exact hz), fun q h1 h2 => by rw [e1, hk q (Nat.lt_of_lt_of_le h1 hS.1) (fun z => h2 (hA q z))]; exact hS.2.1 q h1 h2, fun q hq => by
      rcases List.mem_append.mp hq with h | h
      · exact hS.2.2 q h
      · exact hA _ (hL q h)⟩ T' rfl X'
  exact ⟨t2, st t2 a1, b1⟩
theorem y_vret {n1 : Nat} {post : WF → Prop} (hx : p.tables.exec = Jvm.exec) (hb : c.code = cc) (hr : meth.sig.returnType = none) (hlocks : meth.locks = false) (hP : PB G w n1 H) (hS : va_S (A9 G) s.heap H locs) (hp : post w) (hdg : decode cc pc = .ok (.return_, 1)) : W p l e R s m args below meth c H locs cells slots (MQ below (QB G n1 post) args s cells slots (A9 G)) (F0 m pc ls []) :=
  W.vret hx hb hr (fun t ht hW => ⟨⟨rfl, w, hp, by rw [ht]; exact hP⟩, hS.F ht⟩) hS.2.2 hdg hlocks
end FY
