/-! THE MATHEMATICS: times on a fine grid. M is a number that every small number divides, twice over. -/
def GM (M : Int) : Prop := 0 < M ∧ ∀ d : Int, 1 ≤ d → d ≤ 20000 → ∃ k : Int, 0 < k ∧ M = d * (2 * k)
def facN : Nat → Nat
  | 0 => 1
  | n + 1 => (n + 1) * facN n
theorem facN_pos : ∀ n, 0 < facN n
  | 0 => Nat.one_pos
  | n + 1 => Nat.mul_pos (Nat.succ_pos n) (facN_pos n)
theorem facN_dvd : ∀ n d : Nat, 1 ≤ d → d ≤ n → ∃ k, 0 < k ∧ facN n = d * k
  | 0, d, h1, h2 => absurd h2 (by omega)
  | n + 1, d, h1, h2 => by
    rcases Nat.lt_or_ge d (n + 1) with h | h
    · obtain ⟨k, hk, e⟩ := facN_dvd n d h1 (by omega)
      refine ⟨(n + 1) * k, Nat.mul_pos (Nat.succ_pos n) hk, ?_⟩
      show (n + 1) * facN n = d * ((n + 1) * k)
      rw [e, Nat.mul_left_comm]
    · have : d = n + 1 := by omega
      subst this
      exact ⟨facN n, facN_pos n, rfl⟩
theorem gm_ex : ∃ M : Int, GM M := by
  refine ⟨((2 * facN 20000 : Nat) : Int), ?_, fun d h1 h2 => ?_⟩
  · have := facN_pos 20000
    generalize facN 20000 = z at *
    omega
  · obtain ⟨k, hk, e⟩ := facN_dvd 20000 d.toNat (by omega) (by omega)
    refine ⟨(k : Int), by omega, ?_⟩
    rw [e]
    have h3 : ((d.toNat : Nat) : Int) = d := by omega
    rw [show ((2 * (d.toNat * k) : Nat) : Int) = 2 * (((d.toNat : Nat) : Int) * (k : Int)) by rw [Int.natCast_mul, Int.natCast_mul]; rfl, h3]
    rw [← Int.mul_assoc, ← Int.mul_assoc, Int.mul_comm 2 d]
/-- a packed time on the grid -/
def gz (M t : Int) : Int := t / 256 * (M / (t % 256))
theorem gz_spec {M t : Int} (hM : GM M) (h : 1 ≤ t % 256) : ∃ k : Int, 0 < k ∧ M = t % 256 * (2 * k) ∧ gz M t = t / 256 * (2 * k) := by
  obtain ⟨k, hk, e⟩ := hM.2 (t % 256) h (by omega)
  refine ⟨k, hk, e, ?_⟩
  unfold gz
  congr 1
  rw [e]
  exact Int.mul_ediv_cancel_left _ (by omega)
theorem gz_even {M t : Int} (hM : GM M) (h : 1 ≤ t % 256) : gz M t % 2 = 0 := by
  obtain ⟨k, -, -, e⟩ := gz_spec hM h
  rw [e, ← Int.mul_assoc, Int.mul_comm _ 2, Int.mul_assoc]
  omega
theorem gz_int (M f : Int) : gz M (f * 256 + 1) = f * M := by
  unfold gz
  rw [show (f * 256 + 1) / 256 = f by omega, show (f * 256 + 1) % 256 = 1 by omega, Int.ediv_one]
theorem gm_even {M : Int} (hM : GM M) : M % 2 = 0 := by
  obtain ⟨k, hk, e⟩ := hM.2 1 (by omega) (by omega)
  omega
theorem mulM_even {M : Int} (hM : GM M) (f : Int) : f * M % 2 = 0 := by
  have := gm_even hM
  rw [Int.mul_emod, this]
  omega
theorem pos_mul {k d a c : Int} (hk : 0 < k) : k * a < k * c ↔ a < c := ⟨fun h => Int.lt_of_mul_lt_mul_left h (by omega), fun h => Int.mul_lt_mul_of_pos_left h hk⟩
/-- scaled comparison: a / b against c / d, with M = b * x = d * y -/
theorem cross_lt {a b c d x y M : Int} (hb : 0 < b) (hd : 0 < d) (hM : 0 < M) (hx : M = b * x) (hy : M = d * y) : a * d < c * b ↔ a * x < c * y := by
  have hx0 : 0 < x := Int.pos_of_mul_pos_right (a := b) (by rw [← hx]; exact hM) (by omega)
  have hy0 : 0 < y := Int.pos_of_mul_pos_right (a := d) (by rw [← hy]; exact hM) (by omega)
  have e1 : (x * y) * (a * d) = M * (a * x) := by rw [hy]; grind
  have e2 : (x * y) * (c * b) = M * (c * y) := by rw [hx]; grind
  rw [← pos_mul (d := 0) (Int.mul_pos hx0 hy0), e1, e2, pos_mul (d := 0) hM]
theorem gz_lt {M s t : Int} (hM : GM M) (hs : 1 ≤ s % 256) (ht : 1 ≤ t % 256) : s / 256 * (t % 256) < t / 256 * (s % 256) ↔ gz M s < gz M t := by
  obtain ⟨k, hk, e1, e2⟩ := gz_spec hM hs
  obtain ⟨j, hj, e3, e4⟩ := gz_spec hM ht
  rw [e2, e4]
  exact cross_lt (by omega) (by omega) hM.1 e1 e3
theorem gz_le {M s t : Int} (hM : GM M) (hs : 1 ≤ s % 256) (ht : 1 ≤ t % 256) : s / 256 * (t % 256) ≤ t / 256 * (s % 256) ↔ gz M s ≤ gz M t := by
  have := gz_lt hM ht hs
  omega
theorem gz_eq {M s t : Int} (hM : GM M) (hs : 1 ≤ s % 256) (ht : 1 ≤ t % 256) : s / 256 * (t % 256) = t / 256 * (s % 256) ↔ gz M s = gz M t := by
  have h1 := gz_lt hM ht hs
  have h2 := gz_lt hM hs ht
  omega
/-- least terms -/
def RED (t : Int) : Prop := 1 ≤ t % 256 ∧ Int.gcd (t / 256) (t % 256) = 1
theorem red_int (f : Int) : RED (f * 256 + 1) := by
  unfold RED
  rw [show (f * 256 + 1) / 256 = f by omega, show (f * 256 + 1) % 256 = 1 by omega]
  exact ⟨by omega, Int.gcd_one_right _⟩
theorem dvd_g {a b c : Int} (h : a ∣ c * b) (hg : Int.gcd c a = 1) : a ∣ b := by
  rw [← Int.natAbs_dvd_natAbs, Int.natAbs_mul] at h
  rw [← Int.natAbs_dvd_natAbs]
  have hc : Nat.Coprime a.natAbs c.natAbs := by
    rw [Nat.coprime_iff_gcd_eq_one, Nat.gcd_comm]
    exact hg
  exact hc.dvd_of_dvd_mul_left h
theorem red_inj {M s t : Int} (hM : GM M) (hs : RED s) (ht : RED t) (h : gz M s = gz M t) : s = t := by
  have h1 := (gz_eq hM hs.1 ht.1).mpr h
  have d1 : (s % 256) ∣ (t % 256) := by
    have : (s % 256) ∣ (s / 256) * (t % 256) := ⟨t / 256, by rw [h1, Int.mul_comm]⟩
    exact dvd_g this hs.2
  have d2 : (t % 256) ∣ (s % 256) := by
    have : (t % 256) ∣ (t / 256) * (s % 256) := ⟨s / 256, by rw [← h1, Int.mul_comm]⟩
    exact dvd_g this ht.2
  have e1 : s % 256 = t % 256 := Int.dvd_antisymm (by omega) (by omega) d1 d2
  rw [e1] at h1
  have e2 : s / 256 = t / 256 := Int.eq_of_mul_eq_mul_right (by have := ht.1; omega) h1
  omega
theorem frac_parts {u lo : Int} (hl : 1 ≤ lo ∧ lo ≤ 255) : ∃ g : Int, 0 < g ∧ u = g * (frac u lo / 256) ∧ lo = g * (frac u lo % 256) ∧ RED (frac u lo) := by
  have hg0 : 0 < Nat.gcd u.natAbs lo.natAbs := Nat.gcd_pos_of_pos_right _ (by omega)
  have hgu : ((Nat.gcd u.natAbs lo.natAbs : Nat) : Int) ∣ u := Int.gcd_dvd_left u lo
  have hgl : ((Nat.gcd u.natAbs lo.natAbs : Nat) : Int) ∣ lo := Int.gcd_dvd_right u lo
  have hgg : Int.gcd u lo = Nat.gcd u.natAbs lo.natAbs := rfl
  obtain ⟨a, ha⟩ := hgu
  obtain ⟨b, hb⟩ := hgl
  unfold frac
  generalize Nat.gcd u.natAbs lo.natAbs = g at *
  have e1 : u.tdiv (g : Int) = a := by rw [ha, Int.mul_tdiv_cancel_left _ (by omega)]
  have e2 : lo.tdiv (g : Int) = b := by rw [hb, Int.mul_tdiv_cancel_left _ (by omega)]
  rw [e1, e2]
  have hb0 : 0 < b := Int.pos_of_mul_pos_right (a := (g : Int)) (by rw [← hb]; omega) (by omega)
  have hb1 : b ≤ lo := by
    have h3 : 1 * b ≤ (g : Int) * b := Int.mul_le_mul_of_nonneg_right (by omega) (by omega)
    rw [← hb] at h3
    omega
  have f1 : (a * 256 + b) / 256 = a := by omega
  have f2 : (a * 256 + b) % 256 = b := by omega
  refine ⟨(g : Int), by omega, by rw [f1]; exact ha, by rw [f2]; exact hb, ?_⟩
  unfold RED
  rw [f1, f2]
  refine ⟨hb0, ?_⟩
  have h4 : Int.gcd ((g : Int) * a) ((g : Int) * b) = g * Int.gcd a b := by rw [Int.gcd_mul_left]; rfl
  rw [← ha, ← hb, hgg] at h4
  exact Nat.eq_of_mul_eq_mul_left hg0 (by rw [Nat.mul_one]; exact h4.symm)
theorem gz_frac {M u lo : Int} (hM : GM M) (hl : 1 ≤ lo ∧ lo ≤ 255) : gz M (frac u lo) * lo = u * M := by
  obtain ⟨g, hg, e1, e2, hr⟩ := frac_parts (u := u) hl
  obtain ⟨k, hk, e3, e4⟩ := gz_spec hM hr.1
  rw [e4, e3]
  generalize frac u lo / 256 = a at *
  generalize frac u lo % 256 = b at *
  subst e1 e2
  grind
