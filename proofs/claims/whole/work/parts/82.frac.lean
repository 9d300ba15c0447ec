section FQ
variable {η : HP} {r h g : Nat}
/-- class and reference tell the same part of the same chance -/
theorem frac_eq (hη : HPok η) (hg1 : 1 ≤ g) (hg : g ≤ 3) {k up al lo : Nat} (hk : k ≤ 8) {G : (Nat → Nat) → Nat} (h1 : PF η r g (ltS2 η k) * al = alS η r g (ltS2 η k)) (h2 : PF η r g (ltS2 η k) * up = EL η r h g (ltS2 η k) (fun x => G (dV x))) : 0 < al ∧ 0 < alS η r g k ∧ low (EL η r h g k (fun x => G (dV x))) (alS η r g k) lo = low up al lo := by
  have p1 : 0 < alS η r g k := by
    have := alS_m (r := r) hη hg1 hg (Nat.zero_le k)
    rw [alS] at this
    omega
  have p2 : 0 < alS η r g (ltS2 η k) := by
    have := alS_m (r := r) hη hg1 hg (Nat.zero_le (ltS2 η k))
    rw [alS] at this
    omega
  have p3 : 0 < al := Nat.pos_of_ne_zero (fun z => by rw [z, Nat.mul_zero] at h1; omega)
  refine ⟨p3, p1, low_eq p1 p3 ?_⟩
  have e := EL_full (r := r) (h := h) hη hg1 hg hk G
  rw [← h1, ← h2] at e
  have hp := PF_pos (η := η) (r := r) hg1 (ltS2 η k)
  refine Nat.eq_of_mul_eq_mul_left hp ?_
  rw [Nat.mul_left_comm, e, Nat.mul_left_comm, Nat.mul_comm up]
/-- upper is no more than 320 times all -/
theorem up_le (hη : HPok η) (hg1 : 1 ≤ g) (hg : g ≤ 3) {l up al B : Nat} {G : (Nat → Nat) → Nat} (hG : ∀ x, RK η r h g l x → G (dV x) ≤ B) (h1 : PF η r g l * al = alS η r g l) (h2 : PF η r g l * up = EL η r h g l (fun x => G (dV x))) : up ≤ B * al := by
  have hp := PF_pos (η := η) (r := r) hg1 l
  have e1 : EL η r h g l (fun x => G (dV x)) ≤ EL η r h g l (fun _ => B * 1) := EL_le (fun x hx => by rw [Nat.mul_one]; exact hG x hx)
  rw [EL_mul, EL_1 hη hg1 hg, ← h1, ← h2, Nat.mul_left_comm] at e1
  exact Nat.le_of_mul_le_mul_left e1 hp
end FQ
