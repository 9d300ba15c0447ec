/-! the reference's refusal is the class's -/
section TW
variable {η : HP} {r g : Nat}
theorem twS_al (hη : HPok η) (hg1 : 1 ≤ g) (hg : g ≤ 3) {k : Nat} : ∀ d i, i + d = k → alS η r g i ≤ 1000000000000000 → twS η (WY η r g) d (i + 1) (alS η r g i) = if alS η r g k ≤ 1000000000000000 then some (alS η r g k) else none := by
  have hWY := WY_le (r := r) hη hg1 hg
  intro d
  induction d with
  | zero =>
    intro i hi ha
    have : i = k := by omega
    subst this
    rw [twS, if_pos ha]
  | succ d ih =>
    intro i hi ha
    rw [twS]
    rcases drS_dec (pE η) (i + 1) with q | q
    · have e := ih (i + 1) (by omega) (by rw [alS_d hη q]; exact ha)
      rw [if_pos q, ← e, alS_d hη q]
    · rw [if_neg q]
      have hb : alS η r g i ≤ 1000000000000000 / WY η r g ↔ alS η r g (i + 1) ≤ 1000000000000000 := by
        rw [alS_g hη q]
        exact Nat.le_div_iff_mul_le (by omega)
      by_cases z : alS η r g i ≤ 1000000000000000 / WY η r g
      · rw [if_pos z, ← alS_g hη q]
        exact ih (i + 1) (by omega) (hb.mp z)
      · have h2 := alS_m (r := r) hη hg1 hg (show i + 1 ≤ k by omega)
        have h3 : ¬ alS η r g (i + 1) ≤ 1000000000000000 := fun y => z (hb.mpr y)
        rw [if_neg z, if_neg (by omega)]
theorem twS_1 (hη : HPok η) (hg1 : 1 ≤ g) (hg : g ≤ 3) (k : Nat) : twS η (WY η r g) k 1 1 = if alS η r g k ≤ 1000000000000000 then some (alS η r g k) else none := by
  have e := twS_al (r := r) hη hg1 hg (k := k) k 0 (by omega) (by rw [alS]; omega)
  rw [alS] at e
  exact e
end TW
