/-! the law: answers and states side by side -/
def LST (G : GE) (w : WF) : Prop := ∃ (came now : Nat) (cst cpl csp : Nat → Nat → Int) (cnp : Nat → Nat) (cstop : Nat → Int) (mbe mpl msp : Nat → Int) (pn : Nat → Nat) (ga : Nat → Int), REL (cst, cpl, csp, cnp, cstop) (rw8 mbe, rw8 mpl, rw8 msp, pn, ga) came now ∧ CS G w came now cst cpl csp cnp cstop ∧ MS G w came now mbe mpl msp pn ga
section ANS
variable {G : GE} {w : WF} {came now : Nat} {cst cpl csp : Nat → Nat → Int} {cnp : Nat → Nat} {cstop : Nat → Int} {mbe mpl msp : Nat → Int} {pn : Nat → Nat} {ga : Nat → Int}
theorem rel_at (h : REL (cst, cpl, csp, cnp, cstop) (rw8 mbe, rw8 mpl, rw8 msp, pn, ga) came now) {i : Nat} (hi : i < came) : ((1 ≤ cnp i ∧ cnp i ≤ 8) ∧ (-1 ≤ cstop i ∧ cstop i ≤ (now : Int))) ∧ (pn i = cnp i ∧ ga i = cstop i) ∧ mbe (8 * i) = cst i 0 ∧ mbe (8 * i + (cnp i - 1)) = cst i (cnp i - 1) ∧ msp (8 * i + (cnp i - 1)) = csp i (cnp i - 1) ∧ mpl (8 * i + (cnp i - 1)) = cpl i (cnp i - 1) := by
  obtain ⟨c1, c2, -, -⟩ := h.1.2.2.1 i hi
  obtain ⟨⟨a1, a2⟩, a3⟩ := h.2 i hi
  dsimp only at c1 c2 a1 a2 a3
  obtain ⟨b1, b2, b3⟩ := a3 (cnp i - 1) (by omega)
  exact ⟨⟨c1, c2⟩, ⟨a1.symm, a2.symm⟩, (a3 0 (by omega)).1.symm, b1.symm, b3.symm, b2.symm⟩
theorem a_speed (h : REL (cst, cpl, csp, cnp, cstop) (rw8 mbe, rw8 mpl, rw8 msp, pn, ga) came now) (i v : Int) : (if 0 ≤ i ∧ i < (came : Int) then (if -50 ≤ v ∧ v ≤ 50 then (if cstop i.toNat ≠ -1 then -100003 else if cnp i.toNat < 8 ∨ cst i.toNat 7 = (now : Int) then csp i.toNat (cnp i.toNat - 1) else -100004) else -100002) else -100001) = (if 0 ≤ i ∧ i ≤ (came : Int) - 1 then (if -50 ≤ v ∧ v ≤ 50 then (if 0 ≤ ga i.toNat then -100003 else if mbe (8 * i.toNat + pn i.toNat - 1) = (now : Int) ∨ pn i.toNat < 8 then msp (8 * i.toNat + pn i.toNat - 1) else -100004) else -100002) else -100001) := by
  by_cases c1 : 0 ≤ i ∧ i < (came : Int)
  · obtain ⟨⟨b1, b2⟩, ⟨b3, b4⟩, b5, b6, b7, b8⟩ := rel_at h (show i.toNat < came by omega)
    rw [if_pos c1, if_pos (by omega : 0 ≤ i ∧ i ≤ (came : Int) - 1), b3, b4, show 8 * i.toNat + cnp i.toNat - 1 = 8 * i.toNat + (cnp i.toNat - 1) by omega, b6, b7]
    by_cases c2 : -50 ≤ v ∧ v ≤ 50
    · rw [if_pos c2, if_pos c2]
      by_cases c3 : cstop i.toNat = -1
      · rw [if_neg (by omega : ¬ cstop i.toNat ≠ -1), if_neg (by omega : ¬ 0 ≤ cstop i.toNat)]
        by_cases c4 : cnp i.toNat < 8
        · rw [if_pos (Or.inl c4), if_pos (Or.inr c4)]
        · rw [show cnp i.toNat - 1 = 7 by omega]
          by_cases c5 : cst i.toNat 7 = (now : Int)
          · rw [if_pos (Or.inr c5), if_pos (Or.inl c5)]
          · rw [if_neg (by omega), if_neg (by omega)]
      · rw [if_pos c3, if_pos (by omega : 0 ≤ cstop i.toNat)]
    · rw [if_neg c2, if_neg c2]
  · rw [if_neg c1, if_neg (by omega)]
theorem a_gone (h : REL (cst, cpl, csp, cnp, cstop) (rw8 mbe, rw8 mpl, rw8 msp, pn, ga) came now) (i : Int) : (if 0 ≤ i ∧ i < (came : Int) then (if cstop i.toNat = -1 ∧ cst i.toNat 0 ≠ (now : Int) then 1 else -100003) else -100001) = (if 0 ≤ i ∧ i ≤ (came : Int) - 1 then (if ga i.toNat < 0 ∧ mbe (8 * i.toNat) ≠ (now : Int) then 1 else -100003) else -100001) := by
  by_cases c1 : 0 ≤ i ∧ i < (came : Int)
  · obtain ⟨⟨b1, b2⟩, ⟨b3, b4⟩, b5, -⟩ := rel_at h (show i.toNat < came by omega)
    rw [if_pos c1, if_pos (by omega : 0 ≤ i ∧ i ≤ (came : Int) - 1), b4, b5]
    by_cases c2 : cstop i.toNat = -1 ∧ cst i.toNat 0 ≠ (now : Int)
    · rw [if_pos c2, if_pos (by omega)]
    · rw [if_neg c2, if_neg (by omega)]
  · rw [if_neg c1, if_neg (by omega)]
theorem a_told (h : REL (cst, cpl, csp, cnp, cstop) (rw8 mbe, rw8 mpl, rw8 msp, pn, ga) came now) (i wh : Int) : (if 0 ≤ i ∧ i < (came : Int) then (if wh = 0 then cst i.toNat 0 else if wh = 1 then cstop i.toNat else if wh = 2 then ((cnp i.toNat : Nat) : Int) else if wh = 3 then csp i.toNat (cnp i.toNat - 1) else -100002) else -100001) = (if 0 ≤ i ∧ i ≤ (came : Int) - 1 then (if wh = 0 then mbe (8 * i.toNat) else if wh = 1 then ga i.toNat else if wh = 2 then ((pn i.toNat : Nat) : Int) else if wh = 3 then msp (8 * i.toNat + pn i.toNat - 1) else -100002) else -100001) := by
  by_cases c1 : 0 ≤ i ∧ i < (came : Int)
  · obtain ⟨⟨b1, b2⟩, ⟨b3, b4⟩, b5, b6, b7, b8⟩ := rel_at h (show i.toNat < came by omega)
    rw [if_pos c1, if_pos (by omega : 0 ≤ i ∧ i ≤ (came : Int) - 1), b3, b4, b5, show 8 * i.toNat + cnp i.toNat - 1 = 8 * i.toNat + (cnp i.toNat - 1) by omega, b7]
  · rw [if_neg c1, if_neg (by omega)]
theorem a_place (h : REL (cst, cpl, csp, cnp, cstop) (rw8 mbe, rw8 mpl, rw8 msp, pn, ga) came now) (i n d wh : Int) : (if 0 ≤ i ∧ i < (came : Int) then (if (1 ≤ d ∧ d ≤ 200 ∧ 0 ≤ n ∧ n ≤ 600 * d) ∧ 0 ≤ wh ∧ wh ≤ 1 then (if cst i.toNat 0 * d ≤ n ∧ (cstop i.toNat = -1 ∨ n < cstop i.toNat * d) then (if wh = 0 then frac (upAt (cst i.toNat) (cpl i.toNat) (csp i.toNat) (cnp i.toNat) n d) d / 256 else frac (upAt (cst i.toNat) (cpl i.toNat) (csp i.toNat) (cnp i.toNat) n d) d % 256) else -100003) else -100002) else -100001) = (if 0 ≤ i ∧ i ≤ (came : Int) - 1 then (if (1 ≤ d ∧ d ≤ 200 ∧ 0 ≤ n ∧ n ≤ 600 * d) ∧ 0 ≤ wh ∧ wh ≤ 1 then (if rw8 mbe i.toNat 0 * d ≤ n ∧ (ga i.toNat = -1 ∨ n < ga i.toNat * d) then (if wh = 0 then Int.tdiv (upAt (rw8 mbe i.toNat) (rw8 mpl i.toNat) (rw8 msp i.toNat) (pn i.toNat) n d) (((Nat.gcd (upAt (rw8 mbe i.toNat) (rw8 mpl i.toNat) (rw8 msp i.toNat) (pn i.toNat) n d).natAbs d.natAbs : Nat) : Int)) else Int.tdiv d (((Nat.gcd (upAt (rw8 mbe i.toNat) (rw8 mpl i.toNat) (rw8 msp i.toNat) (pn i.toNat) n d).natAbs d.natAbs : Nat) : Int))) else -100003) else -100002) else -100001) := by
  by_cases c1 : 0 ≤ i ∧ i < (came : Int)
  · rw [if_pos c1, if_pos (by omega : 0 ≤ i ∧ i ≤ (came : Int) - 1)]
    have hi : i.toNat < came := by omega
    have e1 : upAt (cst i.toNat) (cpl i.toNat) (csp i.toNat) (cnp i.toNat) n d = upAt (rw8 mbe i.toNat) (rw8 mpl i.toNat) (rw8 msp i.toNat) (pn i.toNat) n d := h.agr.up hi n d
    obtain ⟨-, ⟨b3, b4⟩, b5, -⟩ := rel_at h hi
    have e2 : rw8 mbe i.toNat 0 = cst i.toNat 0 := b5
    rw [e1, e2, b4]
    by_cases c2 : (1 ≤ d ∧ d ≤ 200 ∧ 0 ≤ n ∧ n ≤ 600 * d) ∧ 0 ≤ wh ∧ wh ≤ 1
    · rw [if_pos c2, if_pos c2]
      obtain ⟨g1, g2⟩ := gcd_dm (u := upAt (rw8 mbe i.toNat) (rw8 mpl i.toNat) (rw8 msp i.toNat) (pn i.toNat) n d) (lo := d) (by omega)
      rw [g1, g2]
    · rw [if_neg c2, if_neg c2]
  · rw [if_neg c1, if_neg (by omega)]
theorem a_order (h : REL (cst, cpl, csp, cnp, cstop) (rw8 mbe, rw8 mpl, rw8 msp, pn, ga) came now) (n d k : Int) : (if (1 ≤ d ∧ d ≤ 200 ∧ 0 ≤ n ∧ n ≤ 600 * d) then tellR (upF cst cpl csp cnp n d) (thF cst cstop n d) came k else -100002) = (if (1 ≤ d ∧ d ≤ 200 ∧ 0 ≤ n ∧ n ≤ 600 * d) then tellR (upF (rw8 mbe) (rw8 mpl) (rw8 msp) pn n d) (thF (rw8 mbe) ga n d) came k else -100002) := by
  have t : tellR (upF cst cpl csp cnp n d) (thF cst cstop n d) came k = tellR (upF (rw8 mbe) (rw8 mpl) (rw8 msp) pn n d) (thF (rw8 mbe) ga n d) came k := h.agr.tell n d k
  rw [t]
theorem a_kept (h : REL (cst, cpl, csp, cnp, cstop) (rw8 mbe, rw8 mpl, rw8 msp, pn, ga) came now) (k : Int) : (tellR (upF cst cpl csp cnp (now : Int) 1) (thF cst cstop (now : Int) 1) came k) = (tellR (upF (rw8 mbe) (rw8 mpl) (rw8 msp) pn (now : Int) 1) (thF (rw8 mbe) ga (now : Int) 1) came k) := by
  have t : tellR (upF cst cpl csp cnp (now : Int) 1) (thF cst cstop (now : Int) 1) came k = tellR (upF (rw8 mbe) (rw8 mpl) (rw8 msp) pn (now : Int) 1) (thF (rw8 mbe) ga (now : Int) 1) came k := h.agr.tell (now : Int) 1 k
  rw [t]
theorem a_at (h : REL (cst, cpl, csp, cnp, cstop) (rw8 mbe, rw8 mpl, rw8 msp, pn, ga) came now) (n d wh wd : Int) : (if (1 ≤ d ∧ d ≤ 200 ∧ 0 ≤ n ∧ n ≤ 600 * d) ∧ 0 ≤ wh ∧ wh ≤ 4 ∧ 0 ≤ wd ∧ wd ≤ 2000 then (if wh = 0 then ((ordR (upF cst cpl csp cnp n d) (thF cst cstop n d) came).1 : Int) else if wh = 1 then tellR (upF cst cpl csp cnp n d) (thF cst cstop n d) came (((ordR (upF cst cpl csp cnp n d) (thF cst cstop n d) came).1 : Int) - 1) else if wh = 2 then tellR (upF cst cpl csp cnp n d) (thF cst cstop n d) came ((clP (ordU (upF cst cpl csp cnp n d) (thF cst cstop n d) came) (ordR (upF cst cpl csp cnp n d) (thF cst cstop n d) came).1).1 - 1) else if wh = 3 then tellR (upF cst cpl csp cnp n d) (thF cst cstop n d) came (clP (ordU (upF cst cpl csp cnp n d) (thF cst cstop n d) came) (ordR (upF cst cpl csp cnp n d) (thF cst cstop n d) came).1).1 else min ((ordR (upF cst cpl csp cnp n d) (thF cst cstop n d) came).1 : Int) 1 + hpC (ordU (upF cst cpl csp cnp n d) (thF cst cstop n d) came) (wd * d) (ordR (upF cst cpl csp cnp n d) (thF cst cstop n d) came).1) else -100002) = (if (1 ≤ d ∧ d ≤ 200 ∧ 0 ≤ n ∧ n ≤ 600 * d) ∧ 0 ≤ wh ∧ wh ≤ 4 ∧ 0 ≤ wd ∧ wd ≤ 2000 then (if wh = 0 then ((ordR (upF (rw8 mbe) (rw8 mpl) (rw8 msp) pn n d) (thF (rw8 mbe) ga n d) came).1 : Int) else if wh = 1 then tellR (upF (rw8 mbe) (rw8 mpl) (rw8 msp) pn n d) (thF (rw8 mbe) ga n d) came (((ordR (upF (rw8 mbe) (rw8 mpl) (rw8 msp) pn n d) (thF (rw8 mbe) ga n d) came).1 : Int) - 1) else if wh = 2 then tellR (upF (rw8 mbe) (rw8 mpl) (rw8 msp) pn n d) (thF (rw8 mbe) ga n d) came ((clP (ordU (upF (rw8 mbe) (rw8 mpl) (rw8 msp) pn n d) (thF (rw8 mbe) ga n d) came) (ordR (upF (rw8 mbe) (rw8 mpl) (rw8 msp) pn n d) (thF (rw8 mbe) ga n d) came).1).1 - 1) else if wh = 3 then tellR (upF (rw8 mbe) (rw8 mpl) (rw8 msp) pn n d) (thF (rw8 mbe) ga n d) came (clP (ordU (upF (rw8 mbe) (rw8 mpl) (rw8 msp) pn n d) (thF (rw8 mbe) ga n d) came) (ordR (upF (rw8 mbe) (rw8 mpl) (rw8 msp) pn n d) (thF (rw8 mbe) ga n d) came).1).1 else min ((ordR (upF (rw8 mbe) (rw8 mpl) (rw8 msp) pn n d) (thF (rw8 mbe) ga n d) came).1 : Int) 1 + hpC (ordU (upF (rw8 mbe) (rw8 mpl) (rw8 msp) pn n d) (thF (rw8 mbe) ga n d) came) (wd * d) (ordR (upF (rw8 mbe) (rw8 mpl) (rw8 msp) pn n d) (thF (rw8 mbe) ga n d) came).1) else -100002) := by
  have t : ∀ k, tellR (upF cst cpl csp cnp n d) (thF cst cstop n d) came k = tellR (upF (rw8 mbe) (rw8 mpl) (rw8 msp) pn n d) (thF (rw8 mbe) ga n d) came k := fun k => h.agr.tell n d k
  have e1 : ordR (upF cst cpl csp cnp n d) (thF cst cstop n d) came = ordR (upF (rw8 mbe) (rw8 mpl) (rw8 msp) pn n d) (thF (rw8 mbe) ga n d) came := h.agr.ord n d
  have cl : clP (ordU (upF cst cpl csp cnp n d) (thF cst cstop n d) came) (ordR (upF cst cpl csp cnp n d) (thF cst cstop n d) came).1 = clP (ordU (upF (rw8 mbe) (rw8 mpl) (rw8 msp) pn n d) (thF (rw8 mbe) ga n d) came) (ordR (upF (rw8 mbe) (rw8 mpl) (rw8 msp) pn n d) (thF (rw8 mbe) ga n d) came).1 := h.agr.cl n d
  have hp : hpC (ordU (upF cst cpl csp cnp n d) (thF cst cstop n d) came) (wd * d) (ordR (upF cst cpl csp cnp n d) (thF cst cstop n d) came).1 = hpC (ordU (upF (rw8 mbe) (rw8 mpl) (rw8 msp) pn n d) (thF (rw8 mbe) ga n d) came) (wd * d) (ordR (upF (rw8 mbe) (rw8 mpl) (rw8 msp) pn n d) (thF (rw8 mbe) ga n d) came).1 := h.agr.hp n d (wd * d)
  rw [cl, hp, e1]
  simp only [t]
theorem a_count (h : REL (cst, cpl, csp, cnp, cstop) (rw8 mbe, rw8 mpl, rw8 msp, pn, ga) came now) (wh : Int) : (if wh = 0 then (now : Int) else if wh = 1 then (came : Int) else if wh = 2 then ((ordR (upF cst cpl csp cnp (now : Int) 1) (thF cst cstop (now : Int) 1) came).1 : Int) else if wh = 3 then cntS (cst, cpl, csp, cnp, cstop) came (now : Int) 0 (bcF (cst, cpl, csp, cnp, cstop) came (now : Int) - 1) else if wh = 4 then cntS (cst, cpl, csp, cnp, cstop) came (now : Int) 1 (bcF (cst, cpl, csp, cnp, cstop) came (now : Int) - 1) else if wh = 5 then max (((ordR (upF cst cpl csp cnp (now : Int) 1) (thF cst cstop (now : Int) 1) came).1 : Int) - 1) 0 else -100002) = (if wh = 0 then (now : Int) else if wh = 1 then (came : Int) else if wh = 2 then ((thCnt (thF (rw8 mbe) ga (now : Int) 1) came : Nat) : Int) else if wh = 3 then ((pastN ((now : Nat) : Int) (gwL (rw8 mbe, rw8 mpl, rw8 msp, pn, ga) came) : Nat) : Int) else if wh = 4 then ((passN ((now : Nat) : Int) (gwL (rw8 mbe, rw8 mpl, rw8 msp, pn, ga) came) : Nat) : Int) else if wh = 5 then max (((thCnt (thF (rw8 mbe) ga (now : Int) 1) came : Nat) : Int) - 1) 0 else -100002) := by
  have hn := h.1.2.1
  obtain ⟨m1, m2, -⟩ := meet_eq h.ivt.okm (now := (now : Int)) (by omega) (by omega) h.ivt.inv
  have e1 : ((ordR (upF cst cpl csp cnp (now : Int) 1) (thF cst cstop (now : Int) 1) came).1 : Int) = ((thCnt (thF (rw8 mbe) ga (now : Int) 1) came : Nat) : Int) := by
    have := h.agr.ord (now : Int) 1
    dsimp only at this
    rw [this, ord_cnt]
  rw [e1, h.agr.bc, h.agr.cnt, h.agr.cnt, ← m1, ← m2]
theorem a_meeting (h : REL (cst, cpl, csp, cnp, cstop) (rw8 mbe, rw8 mpl, rw8 msp, pn, ga) came now) (k wh : Int) : (if 0 ≤ wh ∧ wh ≤ 3 then (if k = -1 then fld (lkp (gmL (cst, cpl, csp, cnp, cstop) (now : Int) 100000 came) 0) wh else fld (lkp (mtL (cst, cpl, csp, cnp, cstop) came (now : Int)) k) wh) else -100002) = (if 0 ≤ wh ∧ wh ≤ 3 then (if k = -1 then fld ((gwL (rw8 mbe, rw8 mpl, rw8 msp, pn, ga) came)[pfN ((now : Nat) : Int) (gwL (rw8 mbe, rw8 mpl, rw8 msp, pn, ga) came)]?) wh else if 0 ≤ k ∧ k < ((pfN ((now : Nat) : Int) (gwL (rw8 mbe, rw8 mpl, rw8 msp, pn, ga) came) : Nat) : Int) then fld ((gwL (rw8 mbe, rw8 mpl, rw8 msp, pn, ga) came)[k.toNat]?) wh else -1) else -100002) := by
  have hn := h.1.2.1
  obtain ⟨-, -, m3⟩ := meet_eq h.ivt.okm (now := (now : Int)) (by omega) (by omega) h.ivt.inv
  rw [h.agr.gml, h.agr.mtl, ← m3 k wh]
theorem a_near (h : REL (cst, cpl, csp, cnp, cstop) (rw8 mbe, rw8 mpl, rw8 msp, pn, ga) came now) (i j wd ed k wh : Int) : (if (0 ≤ i ∧ i < (came : Int)) ∧ 0 ≤ j ∧ j < (came : Int) then (if 0 ≤ wd ∧ wd ≤ 2000 ∧ 1 ≤ ed ∧ ed ≤ 600 ∧ 0 ≤ wh ∧ wh ≤ 3 then (if i = j then -100003 else spT (spL (cst, cpl, csp, cnp, cstop) came ed (fun t q => nrS (cst, cpl, csp, cnp, cstop) t i.toNat j.toNat wd q) (bcF (cst, cpl, csp, cnp, cstop) came ed)) k wh) else -100002) else -100001) = (if (0 ≤ i ∧ i ≤ (came : Int) - 1) ∧ (0 ≤ j ∧ j ≤ (came : Int) - 1) then (if (0 ≤ wd ∧ wd ≤ 2000) ∧ (1 ≤ ed ∧ ed ≤ 600) ∧ 0 ≤ wh ∧ wh ≤ 3 then (if i = j then -100003 else ansW (fsG (soN (rw8 mbe, rw8 mpl, rw8 msp, pn, ga) i.toNat j.toNat wd) (apP (rw8 mbe, rw8 mpl, rw8 msp, pn, ga) ed (-wd) i.toNat j.toNat (pn i.toNat) (apP (rw8 mbe, rw8 mpl, rw8 msp, pn, ga) ed wd i.toNat j.toNat (pn i.toNat) (btI (rw8 mbe, rw8 mpl, rw8 msp, pn, ga) ed came)))) k wh) else -100002) else -100001) := by
  by_cases c1 : (0 ≤ i ∧ i < (came : Int)) ∧ 0 ≤ j ∧ j < (came : Int)
  · rw [if_pos c1, if_pos (by omega : (0 ≤ i ∧ i ≤ (came : Int) - 1) ∧ (0 ≤ j ∧ j ≤ (came : Int) - 1))]
    by_cases c2 : 0 ≤ wd ∧ wd ≤ 2000 ∧ 1 ≤ ed ∧ ed ≤ 600 ∧ 0 ≤ wh ∧ wh ≤ 3
    · rw [if_pos c2, if_pos (by omega : (0 ≤ wd ∧ wd ≤ 2000) ∧ (1 ≤ ed ∧ ed ≤ 600) ∧ 0 ≤ wh ∧ wh ≤ 3)]
      by_cases c3 : i = j
      · rw [if_pos c3, if_pos c3]
      · rw [if_neg c3, if_neg c3, h.agr.bc, h.agr.spl ed (fun t q => h.agr.nr (show i.toNat < came by omega) (show j.toNat < came by omega) wd t q)]
        exact near_eq h.ivt.okm (show i.toNat < came by omega) (show j.toNat < came by omega) (by omega) (by omega)
    · rw [if_neg c2, if_neg (by omega)]
  · rw [if_neg c1, if_neg (by omega)]
theorem a_first (h : REL (cst, cpl, csp, cnp, cstop) (rw8 mbe, rw8 mpl, rw8 msp, pn, ga) came now) (i ed k wh : Int) : (if 0 ≤ i ∧ i < (came : Int) then (if 1 ≤ ed ∧ ed ≤ 600 ∧ 0 ≤ wh ∧ wh ≤ 3 then spT (spL (cst, cpl, csp, cnp, cstop) came ed (fun t q => frS (cst, cpl, csp, cnp, cstop) t i.toNat came q) (bcF (cst, cpl, csp, cnp, cstop) came ed)) k wh else -100002) else -100001) = (if 0 ≤ i ∧ i ≤ (came : Int) - 1 then (if (1 ≤ ed ∧ ed ≤ 600) ∧ 0 ≤ wh ∧ wh ≤ 3 then ansW (fsG (fun n d => fiR (rw8 mbe, rw8 mpl, rw8 msp, pn, ga) i.toNat n d came) (fpT (rw8 mbe, rw8 mpl, rw8 msp, pn, ga) ed i.toNat came came)) k wh else -100002) else -100001) := by
  by_cases c1 : 0 ≤ i ∧ i < (came : Int)
  · rw [if_pos c1, if_pos (by omega : 0 ≤ i ∧ i ≤ (came : Int) - 1)]
    by_cases c2 : 1 ≤ ed ∧ ed ≤ 600 ∧ 0 ≤ wh ∧ wh ≤ 3
    · rw [if_pos c2, if_pos (by omega : (1 ≤ ed ∧ ed ≤ 600) ∧ 0 ≤ wh ∧ wh ≤ 3), h.agr.bc, h.agr.spl ed (fun t q => h.agr.fr (show i.toNat < came by omega) t q)]
      exact first_eq h.ivt.okm (show i.toNat < came by omega) (by omega) (by omega)
    · rw [if_neg c2, if_neg (by omega)]
  · rw [if_neg c1, if_neg (by omega)]
theorem a_within (h : REL (cst, cpl, csp, cnp, cstop) (rw8 mbe, rw8 mpl, rw8 msp, pn, ga) came now) (lo hi mm ed k wh : Int) : (if (-60000 ≤ lo ∧ lo ≤ hi ∧ hi ≤ 60000) ∧ (1 ≤ mm ∧ mm ≤ 10) ∧ 1 ≤ ed ∧ ed ≤ 600 ∧ 0 ≤ wh ∧ wh ≤ 3 then spT (wnL (cst, cpl, csp, cnp, cstop) came ed lo hi mm (bcF (cst, cpl, csp, cnp, cstop) came ed)) k wh else -100002) = (if (-60000 ≤ lo ∧ lo ≤ 60000) ∧ (lo ≤ hi ∧ hi ≤ 60000) ∧ (1 ≤ mm ∧ mm ≤ 10) ∧ (1 ≤ ed ∧ ed ≤ 600) ∧ 0 ≤ wh ∧ wh ≤ 3 then ansW (fsG (fun n d => decide (mm ≤ ((mnR (rw8 mbe, rw8 mpl, rw8 msp, pn, ga) lo hi n d came : Nat) : Int))) (wiT (rw8 mbe, rw8 mpl, rw8 msp, pn, ga) ed lo hi came came)) k wh else -100002) := by
  by_cases c1 : (-60000 ≤ lo ∧ lo ≤ hi ∧ hi ≤ 60000) ∧ (1 ≤ mm ∧ mm ≤ 10) ∧ 1 ≤ ed ∧ ed ≤ 600 ∧ 0 ≤ wh ∧ wh ≤ 3
  · rw [if_pos c1, if_pos (by omega), h.agr.bc, h.agr.wn]
    have := within_eq h.ivt.okm (lo := lo) (hi := hi) (en := ed) (k := k) (wh := wh) (mm := mm.toNat) (by omega) (by omega) (by omega)
    rw [show ((mm.toNat : Nat) : Int) = mm by omega] at this
    exact this
  · rw [if_neg c1, if_neg (by omega)]
theorem st_point (h : REL (cst, cpl, csp, cnp, cstop) (rw8 mbe, rw8 mpl, rw8 msp, pn, ga) came now) {x v : Int} (hc : CS G w (if -1000 ≤ x ∧ x ≤ 1000 ∧ -50 ≤ v ∧ v ≤ 50 ∧ came < 10 then came + 1 else came) now (if -1000 ≤ x ∧ x ≤ 1000 ∧ -50 ≤ v ∧ v ≤ 50 ∧ came < 10 then va_up cst came (va_up (cst came) 0 now) else cst) (if -1000 ≤ x ∧ x ≤ 1000 ∧ -50 ≤ v ∧ v ≤ 50 ∧ came < 10 then va_up cpl came (va_up (cpl came) 0 x) else cpl) (if -1000 ≤ x ∧ x ≤ 1000 ∧ -50 ≤ v ∧ v ≤ 50 ∧ came < 10 then va_up csp came (va_up (csp came) 0 v) else csp) (if -1000 ≤ x ∧ x ≤ 1000 ∧ -50 ≤ v ∧ v ≤ 50 ∧ came < 10 then va_up cnp came 1 else cnp) (if -1000 ≤ x ∧ x ≤ 1000 ∧ -50 ≤ v ∧ v ≤ 50 ∧ came < 10 then va_up cstop came (-1) else cstop)) (hm : MS G w (if -1000 ≤ x ∧ x ≤ 1000 ∧ -50 ≤ v ∧ v ≤ 50 ∧ came < 10 then came + 1 else came) now (if -1000 ≤ x ∧ x ≤ 1000 ∧ -50 ≤ v ∧ v ≤ 50 ∧ came < 10 then va_up mbe (8 * came) now else mbe) (if -1000 ≤ x ∧ x ≤ 1000 ∧ -50 ≤ v ∧ v ≤ 50 ∧ came < 10 then va_up mpl (8 * came) x else mpl) (if -1000 ≤ x ∧ x ≤ 1000 ∧ -50 ≤ v ∧ v ≤ 50 ∧ came < 10 then va_up msp (8 * came) v else msp) (if -1000 ≤ x ∧ x ≤ 1000 ∧ -50 ≤ v ∧ v ≤ 50 ∧ came < 10 then va_up pn came 1 else pn) (if -1000 ≤ x ∧ x ≤ 1000 ∧ -50 ≤ v ∧ v ≤ 50 ∧ came < 10 then va_up ga came (-1) else ga)) : LST G w := by
  by_cases c : -1000 ≤ x ∧ x ≤ 1000 ∧ -50 ≤ v ∧ v ≤ 50 ∧ came < 10
  · simp only [if_pos c] at hc hm
    exact ⟨_, _, _, _, _, _, _, _, _, _, _, _, rel_point h c.2.2.2.2 (by omega) (by omega), hc, hm⟩
  · simp only [if_neg c] at hc hm
    exact ⟨_, _, _, _, _, _, _, _, _, _, _, _, h, hc, hm⟩
theorem st_gone (h : REL (cst, cpl, csp, cnp, cstop) (rw8 mbe, rw8 mpl, rw8 msp, pn, ga) came now) {i : Int} (hc : CS G w came now (if 0 ≤ i ∧ i < (came : Int) ∧ cstop i.toNat = -1 ∧ cst i.toNat 0 ≠ (now : Int) then va_up cst i.toNat (cst i.toNat) else cst) (if 0 ≤ i ∧ i < (came : Int) ∧ cstop i.toNat = -1 ∧ cst i.toNat 0 ≠ (now : Int) then va_up cpl i.toNat (cpl i.toNat) else cpl) (if 0 ≤ i ∧ i < (came : Int) ∧ cstop i.toNat = -1 ∧ cst i.toNat 0 ≠ (now : Int) then va_up csp i.toNat (csp i.toNat) else csp) (if 0 ≤ i ∧ i < (came : Int) ∧ cstop i.toNat = -1 ∧ cst i.toNat 0 ≠ (now : Int) then va_up cnp i.toNat (cnp i.toNat) else cnp) (if 0 ≤ i ∧ i < (came : Int) ∧ cstop i.toNat = -1 ∧ cst i.toNat 0 ≠ (now : Int) then va_up cstop i.toNat ((now : Nat) : Int) else cstop)) (hm : MS G w came now mbe mpl msp pn (if 0 ≤ i ∧ i ≤ (came : Int) - 1 ∧ ga i.toNat < 0 ∧ mbe (8 * i.toNat) ≠ (now : Int) then va_up ga i.toNat now else ga)) : LST G w := by
  by_cases c : 0 ≤ i ∧ i < (came : Int) ∧ cstop i.toNat = -1 ∧ cst i.toNat 0 ≠ (now : Int)
  · obtain ⟨⟨b1, b2⟩, ⟨b3, b4⟩, b5, -⟩ := rel_at h (show i.toNat < came by omega)
    have c2 : 0 ≤ i ∧ i ≤ (came : Int) - 1 ∧ ga i.toNat < 0 ∧ mbe (8 * i.toNat) ≠ (now : Int) := by rw [b4, b5]; omega
    simp only [if_pos c] at hc
    simp only [if_pos c2] at hm
    exact ⟨_, _, _, _, _, _, _, _, _, _, _, _, rel_gone h (show i.toNat < came by omega), hc, hm⟩
  · have c2 : ¬ (0 ≤ i ∧ i ≤ (came : Int) - 1 ∧ ga i.toNat < 0 ∧ mbe (8 * i.toNat) ≠ (now : Int)) := fun z => by
      obtain ⟨⟨b1, b2⟩, ⟨b3, b4⟩, b5, -⟩ := rel_at h (show i.toNat < came by omega)
      rw [b4, b5] at z
      omega
    simp only [if_neg c] at hc
    simp only [if_neg c2] at hm
    exact ⟨_, _, _, _, _, _, _, _, _, _, _, _, h, hc, hm⟩
theorem st_go (h : REL (cst, cpl, csp, cnp, cstop) (rw8 mbe, rw8 mpl, rw8 msp, pn, ga) came now) {n : Int} (hc : CS G w came (if 0 ≤ n ∧ n ≤ 100 ∧ (now : Int) + n ≤ 400 then now + n.toNat else now) cst cpl csp cnp cstop) (hm : MS G w came (if 0 ≤ n ∧ n ≤ 100 ∧ (now : Int) + n ≤ 400 then now + n.toNat else now) mbe mpl msp pn ga) : LST G w := by
  by_cases c : 0 ≤ n ∧ n ≤ 100 ∧ (now : Int) + n ≤ 400
  · simp only [if_pos c] at hc hm
    exact ⟨_, _, _, _, _, _, _, _, _, _, _, _, rel_mono h (by omega), hc, hm⟩
  · simp only [if_neg c] at hc hm
    exact ⟨_, _, _, _, _, _, _, _, _, _, _, _, h, hc, hm⟩
theorem st_back (h : REL (cst, cpl, csp, cnp, cstop) (rw8 mbe, rw8 mpl, rw8 msp, pn, ga) came now) {n : Int} (hc : CS G w (if 0 ≤ n ∧ n ≤ 100 ∧ n ≤ (now : Int) then cutC cst ((now - n.toNat : Nat) : Int) came else came) (if 0 ≤ n ∧ n ≤ 100 ∧ n ≤ (now : Int) then now - n.toNat else now) cst cpl csp (if 0 ≤ n ∧ n ≤ 100 ∧ n ≤ (now : Int) then ufN cst ((now - n.toNat : Nat) : Int) cnp (cutC cst ((now - n.toNat : Nat) : Int) came) else cnp) (if 0 ≤ n ∧ n ≤ 100 ∧ n ≤ (now : Int) then ufS ((now - n.toNat : Nat) : Int) cstop (cutC cst ((now - n.toNat : Nat) : Int) came) else cstop)) (hm : MS G w (if 0 ≤ n ∧ n ≤ 100 ∧ n ≤ (now : Int) then cutC (rw8 mbe) ((now - n.toNat : Nat) : Int) came else came) (if 0 ≤ n ∧ n ≤ 100 ∧ n ≤ (now : Int) then now - n.toNat else now) mbe mpl msp (if 0 ≤ n ∧ n ≤ 100 ∧ n ≤ (now : Int) then ufN (rw8 mbe) ((now - n.toNat : Nat) : Int) pn (cutC (rw8 mbe) ((now - n.toNat : Nat) : Int) came) else pn) (if 0 ≤ n ∧ n ≤ 100 ∧ n ≤ (now : Int) then ufS ((now - n.toNat : Nat) : Int) ga (cutC (rw8 mbe) ((now - n.toNat : Nat) : Int) came) else ga)) : LST G w := by
  by_cases c : 0 ≤ n ∧ n ≤ 100 ∧ n ≤ (now : Int)
  · obtain ⟨e, r⟩ := rel_back h (show n.toNat ≤ now by omega)
    simp only [if_pos c] at hc hm
    rw [e] at hm
    exact ⟨_, _, _, _, _, _, _, _, _, _, _, _, r, hc, hm⟩
  · simp only [if_neg c] at hc hm
    exact ⟨_, _, _, _, _, _, _, _, _, _, _, _, h, hc, hm⟩
theorem st_speed (h : REL (cst, cpl, csp, cnp, cstop) (rw8 mbe, rw8 mpl, rw8 msp, pn, ga) came now) {i v : Int} (hc : CS G w came now (if 0 ≤ i ∧ i < (came : Int) ∧ -50 ≤ v ∧ v ≤ 50 ∧ cstop i.toNat = -1 ∧ (cnp i.toNat < 8 ∨ cst i.toNat 7 = (now : Int)) then va_up cst i.toNat (if (cst i.toNat) ((cnp i.toNat) - 1) ≠ ((now : Nat) : Int) ∧ (cnp i.toNat) < 8 then va_up (cst i.toNat) (cnp i.toNat) ((now : Nat) : Int) else (cst i.toNat)) else cst) (if 0 ≤ i ∧ i < (came : Int) ∧ -50 ≤ v ∧ v ≤ 50 ∧ cstop i.toNat = -1 ∧ (cnp i.toNat < 8 ∨ cst i.toNat 7 = (now : Int)) then va_up cpl i.toNat (if (cst i.toNat) ((cnp i.toNat) - 1) ≠ ((now : Nat) : Int) ∧ (cnp i.toNat) < 8 then va_up (cpl i.toNat) (cnp i.toNat) (upAt (va_up (cst i.toNat) (cnp i.toNat) ((now : Nat) : Int)) (cpl i.toNat) (csp i.toNat) (cnp i.toNat) ((now : Nat) : Int) 1) else (cpl i.toNat)) else cpl) (if 0 ≤ i ∧ i < (came : Int) ∧ -50 ≤ v ∧ v ≤ 50 ∧ cstop i.toNat = -1 ∧ (cnp i.toNat < 8 ∨ cst i.toNat 7 = (now : Int)) then va_up csp i.toNat (va_up (csp i.toNat) (if (cst i.toNat) ((cnp i.toNat) - 1) ≠ ((now : Nat) : Int) ∧ (cnp i.toNat) < 8 then (cnp i.toNat) else (cnp i.toNat) - 1) v) else csp) (if 0 ≤ i ∧ i < (came : Int) ∧ -50 ≤ v ∧ v ≤ 50 ∧ cstop i.toNat = -1 ∧ (cnp i.toNat < 8 ∨ cst i.toNat 7 = (now : Int)) then va_up cnp i.toNat (if (cst i.toNat) ((cnp i.toNat) - 1) ≠ ((now : Nat) : Int) ∧ (cnp i.toNat) < 8 then (cnp i.toNat) + 1 else (cnp i.toNat)) else cnp) (if 0 ≤ i ∧ i < (came : Int) ∧ -50 ≤ v ∧ v ≤ 50 ∧ cstop i.toNat = -1 ∧ (cnp i.toNat < 8 ∨ cst i.toNat 7 = (now : Int)) then va_up cstop i.toNat (cstop i.toNat) else cstop)) (hm : MS G w came now (if 0 ≤ i ∧ i ≤ (came : Int) - 1 ∧ -50 ≤ v ∧ v ≤ 50 ∧ ga i.toNat < 0 ∧ ¬ mbe (8 * i.toNat + pn i.toNat - 1) = (now : Int) ∧ pn i.toNat < 8 then va_up mbe (8 * i.toNat + pn i.toNat - 1 + 1) now else mbe) (if 0 ≤ i ∧ i ≤ (came : Int) - 1 ∧ -50 ≤ v ∧ v ≤ 50 ∧ ga i.toNat < 0 ∧ ¬ mbe (8 * i.toNat + pn i.toNat - 1) = (now : Int) ∧ pn i.toNat < 8 then va_up mpl (8 * i.toNat + pn i.toNat - 1 + 1) (mpl (8 * i.toNat + pn i.toNat - 1) + msp (8 * i.toNat + pn i.toNat - 1) * ((now : Int) - mbe (8 * i.toNat + pn i.toNat - 1))) else mpl) (if 0 ≤ i ∧ i ≤ (came : Int) - 1 ∧ -50 ≤ v ∧ v ≤ 50 ∧ ga i.toNat < 0 ∧ mbe (8 * i.toNat + pn i.toNat - 1) = (now : Int) then va_up msp (8 * i.toNat + pn i.toNat - 1) v else if 0 ≤ i ∧ i ≤ (came : Int) - 1 ∧ -50 ≤ v ∧ v ≤ 50 ∧ ga i.toNat < 0 ∧ ¬ mbe (8 * i.toNat + pn i.toNat - 1) = (now : Int) ∧ pn i.toNat < 8 then va_up msp (8 * i.toNat + pn i.toNat - 1 + 1) v else msp) (if 0 ≤ i ∧ i ≤ (came : Int) - 1 ∧ -50 ≤ v ∧ v ≤ 50 ∧ ga i.toNat < 0 ∧ ¬ mbe (8 * i.toNat + pn i.toNat - 1) = (now : Int) ∧ pn i.toNat < 8 then va_up pn i.toNat (pn i.toNat + 1) else pn) ga) : LST G w := by
  by_cases ci : 0 ≤ i ∧ i < (came : Int)
  · have hi : i.toNat < came := by omega
    obtain ⟨⟨b1, b2⟩, ⟨b3, b4⟩, b5, b6, b7, b8⟩ := rel_at h hi
    simp only [show 8 * i.toNat + pn i.toNat - 1 = 8 * i.toNat + (pn i.toNat - 1) by omega, show 8 * i.toNat + (pn i.toNat - 1) + 1 = 8 * i.toNat + pn i.toNat by omega] at hm
    have b6' : mbe (8 * i.toNat + (pn i.toNat - 1)) = cst i.toNat (cnp i.toNat - 1) := by rw [b3]; exact b6
    by_cases c : 0 ≤ i ∧ i < (came : Int) ∧ -50 ≤ v ∧ v ≤ 50 ∧ cstop i.toNat = -1 ∧ (cnp i.toNat < 8 ∨ cst i.toNat 7 = (now : Int))
    · simp only [if_pos c] at hc
      by_cases d : (cst i.toNat) ((cnp i.toNat) - 1) ≠ ((now : Nat) : Int) ∧ (cnp i.toNat) < 8
      · have e1 : 0 ≤ i ∧ i ≤ (came : Int) - 1 ∧ -50 ≤ v ∧ v ≤ 50 ∧ ga i.toNat < 0 ∧ ¬ mbe (8 * i.toNat + (pn i.toNat - 1)) = (now : Int) ∧ pn i.toNat < 8 := by rw [b3, b4, b6]; omega
        have e2 : ¬ (0 ≤ i ∧ i ≤ (came : Int) - 1 ∧ -50 ≤ v ∧ v ≤ 50 ∧ ga i.toNat < 0 ∧ mbe (8 * i.toNat + (pn i.toNat - 1)) = (now : Int)) := by rw [b3, b4, b6]; omega
        simp only [if_pos d] at hc
        simp only [if_pos e1, if_neg e2] at hm
        exact ⟨_, _, _, _, _, _, _, _, _, _, _, _, rel_turn_b h hi (by omega) d.1 d.2, hc, hm⟩
      · have hl : cst i.toNat (cnp i.toNat - 1) = (now : Int) := by
          by_cases q : cnp i.toNat < 8
          · by_cases q2 : cst i.toNat (cnp i.toNat - 1) = (now : Int)
            · exact q2
            · exact absurd ⟨q2, q⟩ d
          · rw [show cnp i.toNat - 1 = 7 by omega]
            omega
        have e1 : ¬ (0 ≤ i ∧ i ≤ (came : Int) - 1 ∧ -50 ≤ v ∧ v ≤ 50 ∧ ga i.toNat < 0 ∧ ¬ mbe (8 * i.toNat + (pn i.toNat - 1)) = (now : Int) ∧ pn i.toNat < 8) := by rw [b3, b4, b6]; omega
        have e2 : 0 ≤ i ∧ i ≤ (came : Int) - 1 ∧ -50 ≤ v ∧ v ≤ 50 ∧ ga i.toNat < 0 ∧ mbe (8 * i.toNat + (pn i.toNat - 1)) = (now : Int) := by rw [b3, b4, b6]; omega
        simp only [if_neg d] at hc
        simp only [if_neg e1, if_pos e2] at hm
        exact ⟨_, _, _, _, _, _, _, _, _, _, _, _, rel_turn_a h hi (by omega) hl, hc, hm⟩
    · have f8 : ¬ (cnp i.toNat < 8) → cnp i.toNat - 1 = 7 := by omega
      have g : cst i.toNat (cnp i.toNat - 1) = (now : Int) → cnp i.toNat < 8 ∨ cst i.toNat 7 = (now : Int) := fun z => by
        by_cases q : cnp i.toNat < 8
        · exact Or.inl q
        · rw [f8 q] at z
          exact Or.inr z
      have e1 : ¬ (0 ≤ i ∧ i ≤ (came : Int) - 1 ∧ -50 ≤ v ∧ v ≤ 50 ∧ ga i.toNat < 0 ∧ ¬ mbe (8 * i.toNat + (pn i.toNat - 1)) = (now : Int) ∧ pn i.toNat < 8) := by
        rw [b3, b4, b6]
        rintro ⟨z1, z2, z3, z4, z5, z6, z7⟩
        exact c ⟨ci.1, ci.2, z3, z4, by omega, Or.inl z7⟩
      have e2 : ¬ (0 ≤ i ∧ i ≤ (came : Int) - 1 ∧ -50 ≤ v ∧ v ≤ 50 ∧ ga i.toNat < 0 ∧ mbe (8 * i.toNat + (pn i.toNat - 1)) = (now : Int)) := by
        rw [b3, b4, b6]
        rintro ⟨z1, z2, z3, z4, z5, z6⟩
        exact c ⟨ci.1, ci.2, z3, z4, by omega, g z6⟩
      simp only [if_neg c] at hc
      simp only [if_neg e1, if_neg e2] at hm
      exact ⟨_, _, _, _, _, _, _, _, _, _, _, _, h, hc, hm⟩
  · rw [if_neg (by omega), if_neg (by omega), if_neg (by omega), if_neg (by omega), if_neg (by omega)] at hc
    rw [if_neg (by omega), if_neg (by omega), if_neg (by omega), if_neg (by omega), if_neg (by omega)] at hm
    exact ⟨_, _, _, _, _, _, _, _, _, _, _, _, h, hc, hm⟩
end ANS
