/-! lowest terms -/
theorem gcd_step (x y : Nat) : Nat.gcd y (x % y) = Nat.gcd x y := by
  rw [Nat.gcd_comm y, ← Nat.gcd_rec, Nat.gcd_comm]
theorem mod_half {y z : Nat} (hz : 0 < z) (hzy : z < y) : 2 * (y % z) < y := by
  have h1 := Nat.mod_lt y hz
  have h2 := Nat.div_add_mod y z
  have h3 : 1 ≤ y / z := Nat.div_pos (by omega) hz
  have h4 : z * 1 ≤ z * (y / z) := Nat.mul_le_mul (Nat.le_refl _) h3
  omega
theorem common8_eq {w : GW} : ∀ k x y n i, y < 2 ^ k → x < 9223372036854775808 → y < 9223372036854775808 → 2 * k + 1 < n → i + 2 * k < 200 → f_X8_common_9 n (lN x) (lN y) (nI i) w = some (lN (Nat.gcd x y), w) := by
  have base : ∀ x n i, 0 < n → i < 200 → f_X8_common_9 n (lN x) (lN 0) (nI i) w = some (lN (Nat.gcd x 0), w) := by
    intro x n i hn hi
    obtain ⟨n, rfl⟩ : ∃ m9, n = m9 + 1 := ⟨n - 1, by omega⟩
    rw [f_X8_common_9, show (200 : Int32) = nI 200 from rfl, if_neg (fun q9 => absurd ((le_nI (by omega) (by omega)).mp q9) (by omega)), if_pos (by decide), Nat.gcd_zero_right]
  intro k
  induction k with
  | zero =>
    intro x y n i hy hx hy2 hn hi
    have : y = 0 := by omega
    subst this
    exact base x n i (by omega) (by omega)
  | succ k ih =>
    intro x y n i hy hx hy2 hn hi
    by_cases y0 : y = 0
    · subst y0
      exact base x n i (by omega) (by omega)
    · obtain ⟨n, rfl⟩ : ∃ m9, n = m9 + 1 := ⟨n - 1, by omega⟩
      have hz := Nat.mod_lt x (show 0 < y by omega)
      rw [f_X8_common_9, show (200 : Int32) = nI 200 from rfl, if_neg (fun q9 => absurd ((le_nI (by omega) (by omega)).mp q9) (by omega)), if_neg (fun z => y0 ((lle0 hy2).mp z)), if_pos (fun z => y0 ((leq0 hy2).mp z)), lrm_lN hx (by omega) hy2, nI_1, ← gcd_step x y]
      by_cases z0 : x % y = 0
      · rw [z0]
        exact base y n (i + 1) (by omega) (by omega)
      · obtain ⟨n, rfl⟩ : ∃ m9, n = m9 + 1 := ⟨n - 1, by omega⟩
        have hh := mod_half (show 0 < x % y by omega) hz
        have hz2 := Nat.mod_lt y (show 0 < x % y by omega)
        rw [f_X8_common_9, show (200 : Int32) = nI 200 from rfl, if_neg (fun q9 => absurd ((le_nI (by omega) (by omega)).mp q9) (by omega)), if_neg (fun z => z0 ((lle0 (by omega)).mp z)), if_pos (fun z => z0 ((leq0 (by omega)).mp z)), lrm_lN hy2 (by omega) (by omega), nI_1, ← gcd_step y (x % y)]
        rw [Nat.pow_succ] at hy
        exact ih _ _ n (i + 2) (by omega) (by omega) (by omega) (by omega) (by omega)
theorem common8 {w : GW} {x y : Nat} (hx : x < 9223372036854775808) (hy : y < 9223372036854775808) : f_X8_common (lN x) (lN y) w = some (lN (Nat.gcd x y), w) := by
  rw [f_X8_common, show (0 : Int32) = nI 0 from rfl]
  exact common8_eq 63 x y fu 0 (by omega) hx hy (fu_gt (by omega)) (by omega)
theorem common9_eq {w : GW} : ∀ k x y n, y < 2 ^ k → x < 9223372036854775808 → y < 9223372036854775808 → 2 * k + 1 < n → f_X9_common_6 n (lN x) (lN y) w = some (lN (Nat.gcd x y), w) := by
  have base : ∀ x n, 0 < n → f_X9_common_6 n (lN x) (lN 0) w = some (lN (Nat.gcd x 0), w) := by
    intro x n hn
    obtain ⟨n, rfl⟩ : ∃ m9, n = m9 + 1 := ⟨n - 1, by omega⟩
    rw [f_X9_common_6, if_pos (by decide), Nat.gcd_zero_right]
  intro k
  induction k with
  | zero =>
    intro x y n hy hx hy2 hn
    have : y = 0 := by omega
    subst this
    exact base x n (by omega)
  | succ k ih =>
    intro x y n hy hx hy2 hn
    by_cases y0 : y = 0
    · subst y0
      exact base x n (by omega)
    · obtain ⟨n, rfl⟩ : ∃ m9, n = m9 + 1 := ⟨n - 1, by omega⟩
      have hz := Nat.mod_lt x (show 0 < y by omega)
      rw [f_X9_common_6, if_neg (fun z => y0 ((leq0 hy2).mp z)), if_pos (fun z => y0 ((leq0 hy2).mp z)), lrm_lN hx (by omega) hy2, ← gcd_step x y]
      by_cases z0 : x % y = 0
      · rw [z0]
        exact base y n (by omega)
      · obtain ⟨n, rfl⟩ : ∃ m9, n = m9 + 1 := ⟨n - 1, by omega⟩
        have hh := mod_half (show 0 < x % y by omega) hz
        have hz2 := Nat.mod_lt y (show 0 < x % y by omega)
        rw [f_X9_common_6, if_neg (fun z => z0 ((leq0 (by omega)).mp z)), if_pos (fun z => z0 ((leq0 (by omega)).mp z)), lrm_lN hy2 (by omega) (by omega), ← gcd_step y (x % y)]
        rw [Nat.pow_succ] at hy
        exact ih _ _ n (by omega) (by omega) (by omega) (by omega)
theorem common9 {w : GW} {x y : Nat} (hx : x < 9223372036854775808) (hy : y < 9223372036854775808) : f_X9_common (lN x) (lN y) w = some (lN (Nat.gcd x y), w) := by
  rw [f_X9_common]
  exact common9_eq 63 x y fu (by omega) hx hy (fu_gt (by omega))
theorem div_lN {a d : Nat} (ha : a < 9223372036854775808) (h0 : 0 < d) (hd : d < 9223372036854775808) : lN a / lN d = lN (a / d) := pk_lDiv (by omega) h0 (by omega)
/-- the part asked for, in lowest terms -/
def low (x y lo : Nat) : Nat := (if lo = 0 then x else y) / Nat.gcd x y
theorem gcd_y {x y : Nat} (hy0 : 0 < y) : 0 < Nat.gcd x y ∧ Nat.gcd x y ≤ y := ⟨Nat.gcd_pos_of_pos_right _ hy0, Nat.gcd_le_right _ hy0⟩
theorem told {w : GW} {x y lo : Nat} (hx : x < 9223372036854775808) (hy : y < 9223372036854775808) (hy0 : 0 < y) (hlo : lo = 0 ∨ lo = 1) : f_X8_told (lN x) (lN y) (nI lo) w = some (lN (low x y lo), sI w 0 12 0) := by
  have hg := gcd_y (x := x) hy0
  have key : ∀ t : Nat, t < 9223372036854775808 → f_X8_told_15 (lN x) (lN y) (lN t) (sI w 0 12 0) = some (lN (t / Nat.gcd x y), sI w 0 12 0) := by
    intro t ht
    rw [f_X8_told_15, common8 hx hy, bind_some']
    dsimp only
    by_cases q : Nat.gcd x y ≤ 1
    · rw [if_pos (show lN (Nat.gcd x y) ≤ 1 from (lle (b := 1) (by omega) (by omega)).mpr q), show Nat.gcd x y = 1 by omega, Nat.div_one]
    · rw [if_neg (show ¬ lN (Nat.gcd x y) ≤ 1 from fun z => q ((lle (b := 1) (by omega) (by omega)).mp z)), if_pos (fun z => by have := (leq0 (by omega)).mp z; omega), div_lN ht hg.1 (by omega)]
  rw [f_X8_told]
  unfold low
  rcases hlo with rfl | rfl
  · rw [if_pos (show nI 0 = 0 from rfl), if_pos rfl]
    exact key x hx
  · rw [if_neg (show ¬ nI 1 = 0 from one_ne), if_neg (by decide)]
    exact key y hy
theorem lowest {w : GW} {x y lo : Nat} (hx : x < 9223372036854775808) (hy : y < 9223372036854775808) (hy0 : 0 < y) (hlo : lo = 0 ∨ lo = 1) : f_X9_lowest (lN x) (lN y) (nI lo) w = some (lN (low x y lo), w) := by
  have hg := gcd_y (x := x) hy0
  rw [f_X9_lowest, common9 hx hy, bind_some']
  dsimp only
  unfold low
  rcases hlo with rfl | rfl
  · rw [if_pos (show nI 0 = 0 from rfl), if_pos rfl, if_pos (fun z => by have := (leq0 (by omega)).mp z; omega), div_lN hx hg.1 (by omega)]
  · rw [if_neg (show ¬ nI 1 = 0 from one_ne), if_neg (show ¬ 1 = 0 by omega), if_pos (fun z => by have := (leq0 (by omega)).mp z; omega), div_lN hy hg.1 (by omega)]
/-- like fractions have the same lowest terms -/
theorem low_eq {a b c d lo : Nat} (hb : 0 < b) (hd : 0 < d) (h : a * d = c * b) : low a b lo = low c d lo := by
  have g1 := (gcd_y (x := a) hb).1
  have g2 := (gcd_y (x := c) hd).1
  have e1 : Nat.gcd a b * d = Nat.gcd c d * b := by
    rw [← Nat.gcd_mul_right, ← Nat.gcd_mul_right, h, Nat.mul_comm b d]
  obtain ⟨a1, ha1⟩ := Nat.gcd_dvd_left a b
  obtain ⟨b1, hb1⟩ := Nat.gcd_dvd_right a b
  obtain ⟨c1, hc1⟩ := Nat.gcd_dvd_left c d
  obtain ⟨d1, hd1⟩ := Nat.gcd_dvd_right c d
  have hpos : 0 < Nat.gcd a b * d := Nat.mul_pos g1 hd
  have ea : a1 = c1 := by
    refine Nat.eq_of_mul_eq_mul_left hpos ?_
    have x1 : Nat.gcd a b * d * a1 = a * d := by rw [Nat.mul_right_comm, ← ha1]
    have x2 : Nat.gcd c d * b * c1 = c * b := by rw [Nat.mul_right_comm, ← hc1]
    rw [x1, h, e1, x2]
  have eb : b1 = d1 := by
    refine Nat.eq_of_mul_eq_mul_left (Nat.mul_pos g1 g2) ?_
    have x1 : Nat.gcd a b * Nat.gcd c d * b1 = Nat.gcd c d * b := by rw [Nat.mul_comm (Nat.gcd a b), Nat.mul_assoc, ← hb1]
    have x2 : Nat.gcd a b * Nat.gcd c d * d1 = Nat.gcd a b * d := by rw [Nat.mul_assoc, ← hd1]
    rw [x1, x2, e1]
  unfold low
  split
  · rw [Nat.div_eq_of_eq_mul_right g1 ha1, Nat.div_eq_of_eq_mul_right g2 hc1, ea]
  · rw [Nat.div_eq_of_eq_mul_right g1 hb1, Nat.div_eq_of_eq_mul_right g2 hd1, eb]
