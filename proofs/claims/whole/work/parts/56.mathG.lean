/-! what an answer hangs on: the courses that came, and their pieces alone -/
def AGR (came : Nat) (S T : FS) : Prop := ∀ i : Nat, i < came → (S.2.2.2.1 i = T.2.2.2.1 i ∧ S.2.2.2.2 i = T.2.2.2.2 i ∧ 1 ≤ S.2.2.2.1 i) ∧ ∀ p : Nat, p < S.2.2.2.1 i → S.1 i p = T.1 i p ∧ S.2.1 i p = T.2.1 i p ∧ S.2.2.1 i p = T.2.2.1 i p
theorem pcAt_cg {st su : Nat → Int} {n d : Int} : ∀ {k : Nat}, (∀ p, p < k → st p = su p) → pcAt st n d k = pcAt su n d k
  | 0, _ => rfl
  | k + 1, h => by
    have ih := pcAt_cg (n := n) (d := d) (k := k) (fun p hp => h p (by omega))
    unfold pcAt
    rw [h k (Nat.lt_succ_self k), ih]
theorem nbP_cg {st su : Nat → Int} {a : Int} : ∀ {k : Nat} {last : Int}, (∀ p, p < k → st p = su p) → nbP st a k last = nbP su a k last
  | 0, _, _ => rfl
  | k + 1, last, h => by
    have ih := nbP_cg (a := a) (k := k) (last := last) (fun p hp => h p (by omega))
    unfold nbP
    rw [h k (Nat.lt_succ_self k), ih]
section AG
variable {came : Nat} {S T : FS}
theorem AGR.pc (h : AGR came S T) {i : Nat} (hi : i < came) (n d : Int) : pcAt (S.1 i) n d (S.2.2.2.1 i) = pcAt (T.1 i) n d (T.2.2.2.1 i) ∧ pcAt (S.1 i) n d (S.2.2.2.1 i) < S.2.2.2.1 i := by
  obtain ⟨⟨h1, -, h3⟩, h4⟩ := h i hi
  refine ⟨?_, pcAt_lt _ _ _ _ h3⟩
  rw [← h1]
  exact pcAt_cg fun p hp => (h4 p hp).1
theorem AGR.up (h : AGR came S T) {i : Nat} (hi : i < came) (n d : Int) : upAt (S.1 i) (S.2.1 i) (S.2.2.1 i) (S.2.2.2.1 i) n d = upAt (T.1 i) (T.2.1 i) (T.2.2.1 i) (T.2.2.2.1 i) n d := by
  obtain ⟨h1, h2⟩ := h.pc hi n d
  obtain ⟨a, b, c⟩ := (h i hi).2 _ h2
  unfold upAt
  rw [← h1, a, b, c]
theorem AGR.th (h : AGR came S T) {i : Nat} (hi : i < came) (n d : Int) : thF S.1 S.2.2.2.2 n d i = thF T.1 T.2.2.2.2 n d i := by
  obtain ⟨⟨-, h2, h3⟩, h4⟩ := h i hi
  unfold thF
  rw [h2, (h4 0 h3).1]
theorem AGR.thb (h : AGR came S T) {i : Nat} (hi : i < came) (t : Int) : thB S t i = thB T t i := h.th hi t 1
theorem AGR.po (h : AGR came S T) {i : Nat} (hi : i < came) (t : Int) : poS S t i = poS T t i := h.up hi t 1
theorem AGR.sp (h : AGR came S T) {i : Nat} (hi : i < came) (t : Int) : spS S t i = spS T t i := by
  obtain ⟨h1, h2⟩ := h.pc hi t 1
  unfold spS spAt
  rw [← h1, ((h i hi).2 _ h2).2.2]
theorem AGR.nb (h : AGR came S T) (a : Int) {last : Int} : ∀ i, i ≤ came → nbS S a i last = nbS T a i last
  | 0, _ => rfl
  | i + 1, hi => by
    obtain ⟨⟨h1, h2, -⟩, h4⟩ := h i (by omega)
    show nbC (S.1 i) (S.2.2.2.1 i) (S.2.2.2.2 i) a (nbS S a i last) = nbC (T.1 i) (T.2.2.2.1 i) (T.2.2.2.2 i) a (nbS T a i last)
    rw [h.nb a i (by omega)]
    unfold nbC
    rw [← h1, h2, nbP_cg fun p hp => (h4 p hp).1]
theorem AGR.bnd (h : AGR came S T) (la : Int) : ∀ k, bndF S came la k = bndF T came la k
  | 0 => rfl
  | k + 1 => by
    show nbS S (bndF S came la k) came la = nbS T (bndF T came la k) came la
    rw [h.bnd la k, h.nb _ came (Nat.le_refl _)]
theorem AGR.bcg (h : AGR came S T) (la : Int) : ∀ n k, bcG S came la n k = bcG T came la n k
  | 0, _ => rfl
  | n + 1, k => by
    unfold bcG
    rw [h.bnd la, h.bcg la n (k + 1)]
theorem AGR.bc (h : AGR came S T) (la : Int) : bcF S came la = bcF T came la := h.bcg la 91 1
theorem AGR.ev (h : AGR came S T) (f u : Int) {i j : Nat} (hi : i < came) (hj : j < came) : evOf S f u i j = evOf T f u i j := by
  unfold evOf evC abE
  rw [h.thb hi, h.thb hj, h.thb hi, h.thb hj, h.po hi, h.po hj, h.sp hi, h.sp hj, h.sp hi, h.sp hj]
theorem AGR.gmi (h : AGR came S T) (f u : Int) {i : Nat} {L : List EV} : ∀ k, i + 1 + k ≤ came → gmI S f u i k L = gmI T f u i k L
  | 0, _ => rfl
  | k + 1, hk => by
    show stepM _ (gmI S f u i k L) = stepM _ (gmI T f u i k L)
    rw [h.ev f u (by omega) (by omega), h.gmi f u k (by omega)]
theorem AGR.gmo (h : AGR came S T) (f u : Int) : ∀ i, i ≤ came → gmO S f u came i = gmO T f u came i
  | 0, _ => rfl
  | i + 1, hi => by
    show gmI S f u i _ (gmO S f u came i) = gmI T f u i _ (gmO T f u came i)
    rw [h.gmo f u i (by omega), h.gmi f u _ (by omega)]
theorem AGR.gml (h : AGR came S T) (f u : Int) : gmL S f u came = gmL T f u came := h.gmo f u came (Nat.le_refl _)
theorem AGR.mtb (h : AGR came S T) (now : Int) : ∀ b, mtB S came now b = mtB T came now b
  | 0 => rfl
  | b + 1 => by
    show mtB S came now b ++ _ = mtB T came now b ++ _
    rw [h.mtb now b, h.bnd now b, h.bnd now (b + 1), h.gml]
theorem AGR.mtl (h : AGR came S T) (now : Int) : mtL S came now = mtL T came now := by
  unfold mtL
  rw [h.bc now, h.mtb now]
theorem AGR.cnt (h : AGR came S T) (now op : Int) : ∀ b, cntS S came now op b = cntS T came now op b
  | 0 => rfl
  | b + 1 => by
    unfold cntS
    rw [h.cnt now op b, h.bnd now b, h.bnd now (b + 1), h.gml]
theorem AGR.nx (h : AGR came S T) (la : Int) (b : Nat) : nxB S came la b = nxB T came la b := by
  unfold nxB
  rw [h.bc la, h.bnd la, h.bnd la]
theorem AGR.spl (h : AGR came S T) (la : Int) {qf qg : Int → ST → ST} (hq : ∀ t q, qf t q = qg t q) : ∀ b, spL S came la qf b = spL T came la qg b
  | 0 => rfl
  | b + 1 => by
    unfold spL
    rw [h.spl la hq b, h.nx la b, h.bnd la b, hq]
theorem AGR.nr (h : AGR came S T) {i j : Nat} (hi : i < came) (hj : j < came) (wd t : Int) (q : ST) : nrS S t i j wd q = nrS T t i j wd q := by
  unfold nrS
  rw [h.thb hi, h.thb hj, h.po hi, h.po hj, h.sp hi, h.sp hj]
theorem AGR.fri (h : AGR came S T) {i : Nat} (hi : i < came) (t : Int) (q : ST) : ∀ j, j ≤ came → frI S t i j q = frI T t i j q
  | 0, _ => rfl
  | j + 1, hj => by
    unfold frI
    rw [h.fri hi t q j (by omega), h.thb (show j < came by omega), h.po hi, h.po (show j < came by omega), h.sp hi, h.sp (show j < came by omega)]
theorem AGR.fr (h : AGR came S T) {i : Nat} (hi : i < came) (t : Int) (q : ST) : frS S t i came q = frS T t i came q := by
  unfold frS
  rw [h.thb hi, h.fri hi t q came (Nat.le_refl _)]
theorem AGR.cwq (h : AGR came S T) {i : Nat} (hi : i < came) (t un lo hg : Int) : cwQ S t un lo hg i = cwQ T t un lo hg i := by
  unfold cwQ
  rw [h.po hi, h.sp hi]
theorem AGR.cwb (h : AGR came S T) (t un lo hg : Int) : ∀ i, i ≤ came → cwB S t un lo hg i = cwB T t un lo hg i ∧ cwE S t un lo hg i = cwE T t un lo hg i
  | 0, _ => ⟨rfl, rfl⟩
  | i + 1, hi => by
    obtain ⟨a, b⟩ := h.cwb t un lo hg i (by omega)
    unfold cwB cwE
    rw [a, b, h.thb (show i < came by omega), h.cwq (show i < came by omega)]
    exact ⟨rfl, rfl⟩
theorem AGR.wn (h : AGR came S T) (la lo hg mm : Int) : ∀ b, wnL S came la lo hg mm b = wnL T came la lo hg mm b
  | 0 => rfl
  | b + 1 => by
    unfold wnL
    rw [h.wn la lo hg mm b, h.nx la b, h.bnd la b, (h.cwb _ _ lo hg came (Nat.le_refl _)).1, (h.cwb _ _ lo hg came (Nat.le_refl _)).2]
theorem ordR_cg {f g : Nat → Int} {th tj : Nat → Bool} : ∀ {i : Nat}, (∀ j, j < i → f j = g j ∧ th j = tj j) → ordR f th i = ordR g tj i
  | 0, _ => rfl
  | i + 1, h => by
    have ih := ordR_cg (i := i) (fun j hj => h j (by omega))
    obtain ⟨a, b⟩ := h i (Nat.lt_succ_self i)
    have hs : spotP (fun k => decide (f i < f ((ordR f th i).2 k))) (ordR f th i).1 = spotP (fun k => decide (g i < g ((ordR f th i).2 k))) (ordR f th i).1 := spot_cong fun k hk => by
      have := ordR_lt f th i k hk
      rw [a, (h _ (show (ordR f th i).2 k < i + 1 by omega)).1]
    unfold ordR
    rw [hs, ih, b]
theorem clP_cg {u v : Nat → Int} : ∀ {n : Nat}, (∀ k, k < n → u k = v k) → clP u n = clP v n
  | 0, _ => rfl
  | 1, _ => rfl
  | k + 2, h => by
    have ih := clP_cg (n := k + 1) (fun j hj => h j (by omega))
    unfold clP
    rw [ih, h k (by omega), h (k + 1) (by omega)]
theorem hpC_cg {u v : Nat → Int} {wd : Int} : ∀ {n : Nat}, (∀ k, k < n → u k = v k) → hpC u wd n = hpC v wd n
  | 0, _ => rfl
  | 1, _ => rfl
  | k + 2, h => by
    have ih := hpC_cg (wd := wd) (n := k + 1) (fun j hj => h j (by omega))
    unfold hpC
    rw [ih, h k (by omega), h (k + 1) (by omega)]
theorem AGR.ord (h : AGR came S T) (n d : Int) : ordR (upF S.1 S.2.1 S.2.2.1 S.2.2.2.1 n d) (thF S.1 S.2.2.2.2 n d) came = ordR (upF T.1 T.2.1 T.2.2.1 T.2.2.2.1 n d) (thF T.1 T.2.2.2.2 n d) came := ordR_cg fun j hj => ⟨h.up hj n d, h.th hj n d⟩
theorem AGR.tell (h : AGR came S T) (n d k : Int) : tellR (upF S.1 S.2.1 S.2.2.1 S.2.2.2.1 n d) (thF S.1 S.2.2.2.2 n d) came k = tellR (upF T.1 T.2.1 T.2.2.1 T.2.2.2.1 n d) (thF T.1 T.2.2.2.2 n d) came k := by
  unfold tellR
  rw [h.ord n d]
theorem AGR.ou (h : AGR came S T) (n d : Int) : ∀ k, k < (ordR (upF T.1 T.2.1 T.2.2.1 T.2.2.2.1 n d) (thF T.1 T.2.2.2.2 n d) came).1 → ordU (upF S.1 S.2.1 S.2.2.1 S.2.2.2.1 n d) (thF S.1 S.2.2.2.2 n d) came k = ordU (upF T.1 T.2.1 T.2.2.1 T.2.2.2.1 n d) (thF T.1 T.2.2.2.2 n d) came k := fun k hk => by
  unfold ordU
  rw [h.ord n d]
  exact h.up (ordR_lt _ _ came k hk) n d
theorem AGR.cl (h : AGR came S T) (n d : Int) : clP (ordU (upF S.1 S.2.1 S.2.2.1 S.2.2.2.1 n d) (thF S.1 S.2.2.2.2 n d) came) (ordR (upF S.1 S.2.1 S.2.2.1 S.2.2.2.1 n d) (thF S.1 S.2.2.2.2 n d) came).1 = clP (ordU (upF T.1 T.2.1 T.2.2.1 T.2.2.2.1 n d) (thF T.1 T.2.2.2.2 n d) came) (ordR (upF T.1 T.2.1 T.2.2.1 T.2.2.2.1 n d) (thF T.1 T.2.2.2.2 n d) came).1 := by
  rw [h.ord n d]
  exact clP_cg (h.ou n d)
theorem AGR.hp (h : AGR came S T) (n d wd : Int) : hpC (ordU (upF S.1 S.2.1 S.2.2.1 S.2.2.2.1 n d) (thF S.1 S.2.2.2.2 n d) came) wd (ordR (upF S.1 S.2.1 S.2.2.1 S.2.2.2.1 n d) (thF S.1 S.2.2.2.2 n d) came).1 = hpC (ordU (upF T.1 T.2.1 T.2.2.1 T.2.2.2.1 n d) (thF T.1 T.2.2.2.2 n d) came) wd (ordR (upF T.1 T.2.1 T.2.2.1 T.2.2.2.1 n d) (thF T.1 T.2.2.2.2 n d) came).1 := by
  rw [h.ord n d]
  exact hpC_cg (h.ou n d)
end AG
theorem ord_cnt (f : Nat → Int) (th : Nat → Bool) : ∀ i, (ordR f th i).1 = thCnt th i
  | 0 => rfl
  | i + 1 => by
    have ih := ord_cnt f th i
    unfold ordR thCnt
    split <;> simp_all
theorem gcd_dm {u lo : Int} (hl : 1 ≤ lo ∧ lo ≤ 200) : u.tdiv ((Nat.gcd u.natAbs lo.natAbs : Nat) : Int) = frac u lo / 256 ∧ lo.tdiv ((Nat.gcd u.natAbs lo.natAbs : Nat) : Int) = frac u lo % 256 := by
  have h1 : lo.tdiv ((Nat.gcd u.natAbs lo.natAbs : Nat) : Int) = lo / ((Nat.gcd u.natAbs lo.natAbs : Nat) : Int) := Int.tdiv_eq_ediv_of_nonneg (by omega)
  have h2 : 0 ≤ lo / ((Nat.gcd u.natAbs lo.natAbs : Nat) : Int) := Int.ediv_nonneg (by omega) (by omega)
  have h3 : lo / ((Nat.gcd u.natAbs lo.natAbs : Nat) : Int) ≤ lo := Int.ediv_le_self _ (by omega)
  exact frac_dm ⟨by omega, by omega⟩
