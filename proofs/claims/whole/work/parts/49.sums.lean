/-! finite sums -/
def sm : Nat → (Nat → Nat) → Nat
  | 0, _ => 0
  | n + 1, f => sm n f + f n
theorem sm_0 (f : Nat → Nat) : sm 0 f = 0 := rfl
theorem sm_s (n : Nat) (f : Nat → Nat) : sm (n + 1) f = sm n f + f n := rfl
theorem sm_c {n : Nat} {f g : Nat → Nat} (h : ∀ i, i < n → f i = g i) : sm n f = sm n g := by
  induction n with
  | zero => rfl
  | succ n ih => rw [sm_s, sm_s, ih (fun i hi => h i (by omega)), h n (by omega)]
theorem sm_z {n : Nat} {f : Nat → Nat} (h : ∀ i, i < n → f i = 0) : sm n f = 0 := by
  induction n with
  | zero => rfl
  | succ n ih => rw [sm_s, ih (fun i hi => h i (by omega)), h n (by omega)]
theorem sm_add (n : Nat) (f g : Nat → Nat) : sm n (fun i => f i + g i) = sm n f + sm n g := by
  induction n with
  | zero => rfl
  | succ n ih => rw [sm_s, sm_s, sm_s, ih]; omega
theorem sm_mul (n c : Nat) (f : Nat → Nat) : sm n (fun i => c * f i) = c * sm n f := by
  induction n with
  | zero => rfl
  | succ n ih => rw [sm_s, sm_s, ih, Nat.mul_add]
theorem sm_mulr (n c : Nat) (f : Nat → Nat) : sm n (fun i => f i * c) = sm n f * c := by
  rw [Nat.mul_comm, ← sm_mul]
  exact sm_c (fun i _ => Nat.mul_comm _ _)
theorem sm_swap (n m : Nat) (f : Nat → Nat → Nat) : sm n (fun i => sm m (fun j => f i j)) = sm m (fun j => sm n (fun i => f i j)) := by
  induction n with
  | zero => rw [sm_0, sm_z]; intro i _; rfl
  | succ n ih => rw [sm_s, ih, ← sm_add]; exact sm_c (fun j _ => rfl)
/-- one place changed -/
theorem sm_up {n : Nat} {f g : Nat → Nat} {k : Nat} (hk : k < n) (h : ∀ i, i < n → i ≠ k → f i = g i) : sm n f + g k = sm n g + f k := by
  induction n with
  | zero => omega
  | succ n ih =>
    rw [sm_s, sm_s]
    by_cases e : k = n
    · subst e
      rw [sm_c (fun i hi => h i (by omega) (by omega))]
      omega
    · have := ih (by omega) (fun i hi q => h i (by omega) q)
      rw [h n (by omega) (fun q => e q.symm)]
      omega
theorem sm_one {n k : Nat} (hk : k < n) (f : Nat → Nat) (h : ∀ i, i < n → i ≠ k → f i = 0) : sm n f = f k := by
  have := sm_up (g := fun _ => 0) hk h
  rw [sm_z (n := n) (f := fun _ => 0) (fun _ _ => rfl)] at this
  omega
theorem sm_pos {n : Nat} {f : Nat → Nat} : 0 < sm n f ↔ ∃ i, i < n ∧ 0 < f i := by
  induction n with
  | zero => exact ⟨fun h => absurd h (by simp [sm_0]), fun ⟨i, h, _⟩ => by omega⟩
  | succ n ih =>
    rw [sm_s]
    constructor
    · intro h
      by_cases q : 0 < f n
      · exact ⟨n, by omega, q⟩
      · obtain ⟨i, h1, h2⟩ := ih.mp (by omega)
        exact ⟨i, by omega, h2⟩
    · rintro ⟨i, h1, h2⟩
      by_cases q : i = n
      · subst q; omega
      · have := ih.mpr ⟨i, by omega, h2⟩
        omega
theorem sm_le {n : Nat} {f g : Nat → Nat} (h : ∀ i, i < n → f i ≤ g i) : sm n f ≤ sm n g := by
  induction n with
  | zero => exact Nat.le_refl _
  | succ n ih => rw [sm_s, sm_s]; have := ih (fun i hi => h i (by omega)); have := h n (by omega); omega
theorem sm_app (n m : Nat) (f : Nat → Nat) : sm (n + m) f = sm n f + sm m (fun i => f (n + i)) := by
  induction m with
  | zero => rfl
  | succ m ih => rw [← Nat.add_assoc, sm_s, ih, sm_s]; omega
/-- a sum over pairs as one sum: the last goes fastest -/
theorem sm_pair (n m : Nat) (f : Nat → Nat) : sm (n * m) f = sm n (fun i => sm m (fun j => f (i * m + j))) := by
  induction n with
  | zero => rw [Nat.zero_mul]; rfl
  | succ n ih => rw [Nat.succ_mul, sm_app, ih, sm_s]
theorem sm_term {n k : Nat} (hk : k < n) (f : Nat → Nat) : f k ≤ sm n f := by
  induction n with
  | zero => omega
  | succ n ih =>
    rw [sm_s]
    by_cases e : k = n
    · subst e; omega
    · have := ih (by omega); omega
