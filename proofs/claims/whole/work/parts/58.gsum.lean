/-! sums over glances; masks -/
/-- over all glances, each with its weights' product -/
def gsm (B : Nat) (wt : Nat → Nat) (g : Nat) (F : (Nat → Nat) → Nat) : Nat := sm (B ^ g) (fun n => tw B wt g n * F (tg B g n))
def snoc (x : Nat → Nat) (g b : Nat) : Nat → Nat := fun p => if p = g then b else x p
theorem gsm_0 (B : Nat) (wt : Nat → Nat) (F : (Nat → Nat) → Nat) : gsm B wt 0 F = F (tg B 0 0) := by
  unfold gsm
  rw [Nat.pow_zero]
  show 0 + tw B wt 0 0 * _ = _
  rw [Nat.zero_add, tw, Nat.one_mul]
theorem gsm_s {B : Nat} (wt : Nat → Nat) (g : Nat) (F : (Nat → Nat) → Nat) : gsm B wt (g + 1) F = gsm B wt g (fun x => sm B (fun b => wt b * F (snoc x g b))) := by
  unfold gsm
  rw [Nat.pow_succ, sm_pair]
  refine sm_c (fun i _ => ?_)
  rw [← sm_mul]
  refine sm_c (fun b hb => ?_)
  have e1 : (i * B + b) % B = b := by rw [Nat.mul_comm, Nat.mul_add_mod, Nat.mod_eq_of_lt hb]
  have e2 : (i * B + b) / B = i := by rw [Nat.mul_comm, Nat.mul_add_div (by omega), Nat.div_eq_of_lt hb, Nat.add_zero]
  rw [tw, e1, e2, show tg B (g + 1) (i * B + b) = snoc (tg B g i) g b from funext (fun p => by rw [tg, e1, e2]; rfl), ← Nat.mul_assoc, Nat.mul_comm (wt b)]
theorem gsm_c {B : Nat} {wt : Nat → Nat} {g : Nat} {F F' : (Nat → Nat) → Nat} (hB : 0 < B) (h : ∀ x, (∀ i, x i < B) → F x = F' x) : gsm B wt g F = gsm B wt g F' := by
  unfold gsm
  refine sm_c (fun n _ => ?_)
  rw [h _ (fun i => tg_lt hB g n i)]
theorem gsm_add (B : Nat) (wt : Nat → Nat) (g : Nat) (F F' : (Nat → Nat) → Nat) : gsm B wt g (fun x => F x + F' x) = gsm B wt g F + gsm B wt g F' := by
  unfold gsm
  rw [← sm_add]
  exact sm_c (fun n _ => Nat.mul_add _ _ _)
theorem gsm_mul (B : Nat) (wt : Nat → Nat) (g c : Nat) (F : (Nat → Nat) → Nat) : gsm B wt g (fun x => c * F x) = c * gsm B wt g F := by
  unfold gsm
  rw [← sm_mul]
  exact sm_c (fun n _ => by rw [← Nat.mul_assoc, Nat.mul_comm _ c, Nat.mul_assoc])
theorem gsm_one {B : Nat} (wt : Nat → Nat) (g : Nat) : gsm B wt g (fun _ => 1) = sm B wt ^ g := by
  induction g with
  | zero => rw [gsm_0, Nat.pow_zero]
  | succ g ih =>
    rw [gsm_s, Nat.pow_succ, ← ih, Nat.mul_comm, ← gsm_mul]
    unfold gsm
    exact sm_c (fun n _ => by rw [Nat.mul_one]; congr 1; exact sm_c (fun b _ => Nat.mul_one _))
theorem msk_snoc {x : Nat → Nat} {g b : Nat} : msk (snoc x g b) (g + 1) = msk x g ||| 2 ^ b := by
  have key : ∀ i, i ≤ g → msk (snoc x g b) i = msk x i := by
    intro i
    induction i with
    | zero => intro _; rfl
    | succ i ih =>
      intro hi
      rw [msk, msk, ih (by omega)]
      unfold snoc
      rw [if_neg (by omega)]
  rw [msk, key g (Nat.le_refl _)]
  unfold snoc
  rw [if_pos rfl]
theorem msk_i1 (f F : Nat → Nat) : sm 2 (fun m => f m * F (m ||| 2 ^ 0)) = sm 2 (fun m => if m.testBit 0 = true then (f m + f (m ^^^ 2 ^ 0)) * F m else 0) := by
  simp (config := {decide := true}) [sm, Nat.add_mul]
  omega
