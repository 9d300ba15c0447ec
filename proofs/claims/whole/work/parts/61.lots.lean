/-! by lot: the class's ways are the reference's -/
theorem sm_first' (n : Nat) (f : Nat → Nat) : sm (n + 1) f = f 0 + sm n (fun i => f (i + 1)) := sm_first n f
def ctF (u x : Nat → Nat) (m : Nat) : Nat → Nat → Nat
  | 0, _ => 0
  | d + 1, i => (if u (x i) = m then 1 else 0) + ctF u x m d (i + 1)
theorem ctF_tc {u x : Nat → Nat} {m : Nat} : ∀ d i, tcS u x m (i + d) = tcS u x m i + ctF u x m d i := by
  intro d
  induction d with
  | zero => intro i; rfl
  | succ d ih =>
    intro i
    have := ih (i + 1)
    rw [show i + (d + 1) = i + 1 + d by omega, this, tcS, ctF]
    omega
theorem lt_sum {u x : Nat → Nat} {m : Nat} (H : Option Nat → Nat) : ∀ d i, sm (ctF u x m d i) (fun t => H (ltS u x m d i t)) = sm d (fun j => if u (x (i + j)) = m then H (some (x (i + j))) else 0) := by
  intro d
  induction d with
  | zero => intro i; rfl
  | succ d ih =>
    intro i
    have e := ih (i + 1)
    rw [sm_first', ctF]
    have e2 : sm d (fun j => if u (x (i + (j + 1))) = m then H (some (x (i + (j + 1)))) else 0) = sm d (fun j => if u (x (i + 1 + j)) = m then H (some (x (i + 1 + j))) else 0) := sm_c (fun j _ => by rw [show i + (j + 1) = i + 1 + j by omega])
    rw [e2, ← e]
    by_cases q : u (x i) = m
    · rw [if_pos q, Nat.add_comm 1, sm_first', if_pos (show u (x (i + 0)) = m from q)]
      have e3 : ltS u x m (d + 1) i 0 = some (x i) := by rw [ltS, if_pos q, if_pos rfl]
      have e4 : ∀ t, ltS u x m (d + 1) i (t + 1) = ltS u x m d (i + 1) t := fun t => by rw [ltS, if_pos q, if_neg (by omega)]; rfl
      rw [e3]
      congr 1
      exact sm_c (fun t _ => by rw [e4])
    · rw [if_neg q, if_neg (show ¬ u (x (i + 0)) = m from q)]
      have e4 : ∀ t, ltS u x m (d + 1) i t = ltS u x m d (i + 1) t := fun t => by rw [ltS, if_neg q]
      rw [Nat.zero_add, Nat.zero_add]
      exact sm_c (fun t _ => by rw [e4])
theorem lvl_min {u x : Nat → Nat} {B g : Nat} (hg : 1 ≤ g) (hx : ∀ i, x i < B) : (∃ i, i < g ∧ u (x i) = lvl u x B g) ∧ ∀ i, i < g → lvl u x B g ≤ u (x i) := by
  obtain ⟨e, e1, e2, e3, e4⟩ := emT_some (u := u) (msk_some (x := x) (B := B) hg (fun i _ => hx i))
  obtain ⟨i, h1, h2⟩ := msk_bit.mp e3
  have : lvl u x B g = u e := by unfold lvl; rw [e1]
  rw [this]
  exact ⟨⟨i, h1, by rw [h2]⟩, fun j hj => e4 (x j) (hx j) (msk_bit.mpr ⟨j, hj, rfl⟩)⟩
/-- what a lot counts, for a function of the box taken -/
def lotF (u x : Nat → Nat) (B g : Nat) (F : Nat → Nat) : Nat := sm (tnS u x B 0 g) (fun t => tiO g / tnS u x B 0 g * F ((tkS u x B 0 0 g 0 t).getD 0))
theorem lotF_eq {u x : Nat → Nat} {B g : Nat} (F : Nat → Nat) : lotF u x B g F = sm g (fun i => if u (x i) = lvl u x B g then tiO g / tcS u x (lvl u x B g) g * F (x i) else 0) := by
  unfold lotF tnS
  rw [if_pos rfl]
  have h1 := ctF_tc (u := u) (x := x) (m := lvl u x B g) g 0
  rw [Nat.zero_add, tcS, Nat.zero_add] at h1
  have h2 := lt_sum (u := u) (x := x) (m := lvl u x B g) (fun o => tiO g / tcS u x (lvl u x B g) g * F (o.getD 0)) g 0
  rw [← h1] at h2
  rw [show (fun t => tiO g / tcS u x (lvl u x B g) g * F ((tkS u x B 0 0 g 0 t).getD 0)) = (fun t => tiO g / tcS u x (lvl u x B g) g * F ((ltS u x (lvl u x B g) g 0 t).getD 0)) from funext (fun t => by unfold tkS; rw [if_pos rfl])]
  rw [h2]
  exact sm_c (fun j _ => by rw [Nat.zero_add]; rfl)
def k2S (a b : Nat) : Nat := if b < a then 0 else if a = b then 1 else 2
def k3S (a b c : Nat) : Nat := if b < a ∨ c < a then 0 else if a = b then (if a = c then 2 else 3) else (if a = c then 3 else 6)
theorem lotF_1 {u x : Nat → Nat} {B : Nat} (hx : ∀ i, x i < B) (F : Nat → Nat) : lotF u x B 1 F = F (x 0) := by
  obtain ⟨⟨i, h1, h2⟩, h3⟩ := lvl_min (u := u) (g := 1) (by omega) hx
  have : i = 0 := by omega
  subst this
  rw [lotF_eq, sm_s, sm_0, if_pos h2, tcS, tcS, if_pos h2]
  simp [tiO]
theorem lotF_2 {u x : Nat → Nat} {B : Nat} (hx : ∀ i, x i < B) (F : Nat → Nat) : lotF u x B 2 F = k2S (u (x 0)) (u (x 1)) * F (x 0) + k2S (u (x 1)) (u (x 0)) * F (x 1) := by
  obtain ⟨⟨i, h1, h2⟩, h3⟩ := lvl_min (u := u) (g := 2) (by omega) hx
  have a0 := h3 0 (by omega)
  have a1 := h3 1 (by omega)
  rw [lotF_eq, sm_s, sm_s, sm_0, tcS, tcS, tcS]
  generalize lvl u x B 2 = m at *
  have hm : u (x 0) = m ∨ u (x 1) = m := by
    rcases (show i = 0 ∨ i = 1 by omega) with rfl | rfl
    · exact Or.inl h2
    · exact Or.inr h2
  generalize u (x 0) = p at *
  generalize u (x 1) = q at *
  unfold k2S
  by_cases c1 : p = m <;> by_cases c2 : q = m
  · subst c1; subst c2; simp [tiO]
  · subst c1; simp [tiO, c2, show ¬ q < p by omega, show p < q by omega, show ¬ p = q by omega]
  · subst c2; simp [tiO, c1, show ¬ p < q by omega, show q < p by omega, show ¬ q = p by omega]
  · omega
theorem lotF_3 {u x : Nat → Nat} {B : Nat} (hx : ∀ i, x i < B) (F : Nat → Nat) : lotF u x B 3 F = k3S (u (x 0)) (u (x 1)) (u (x 2)) * F (x 0) + k3S (u (x 1)) (u (x 0)) (u (x 2)) * F (x 1) + k3S (u (x 2)) (u (x 0)) (u (x 1)) * F (x 2) := by
  obtain ⟨⟨i, h1, h2⟩, h3⟩ := lvl_min (u := u) (g := 3) (by omega) hx
  have a0 := h3 0 (by omega)
  have a1 := h3 1 (by omega)
  have a2 := h3 2 (by omega)
  rw [lotF_eq, sm_s, sm_s, sm_s, sm_0, tcS, tcS, tcS, tcS]
  generalize lvl u x B 3 = m at *
  have hm : u (x 0) = m ∨ u (x 1) = m ∨ u (x 2) = m := by
    rcases (show i = 0 ∨ i = 1 ∨ i = 2 by omega) with rfl | rfl | rfl
    · exact Or.inl h2
    · exact Or.inr (Or.inl h2)
    · exact Or.inr (Or.inr h2)
  generalize u (x 0) = p at *
  generalize u (x 1) = q at *
  generalize u (x 2) = v at *
  have e1 : k3S p q v = if p = m then (if q = m then (if v = m then 2 else 3) else (if v = m then 3 else 6)) else 0 := by
    unfold k3S
    repeat' split
    all_goals omega
  have e2 : k3S q p v = if q = m then (if p = m then (if v = m then 2 else 3) else (if v = m then 3 else 6)) else 0 := by
    unfold k3S
    repeat' split
    all_goals omega
  have e3 : k3S v p q = if v = m then (if p = m then (if q = m then 2 else 3) else (if q = m then 3 else 6)) else 0 := by
    unfold k3S
    repeat' split
    all_goals omega
  rw [e1, e2, e3]
  by_cases c1 : p = m <;> by_cases c2 : q = m <;> by_cases c3 : v = m <;> simp [tiO, c1, c2, c3]
def z0 (B : Nat) : Nat → Nat := tg B 0 0
theorem z0_eq (B : Nat) : z0 B = fun _ => 0 := rfl
theorem gsm_1' {B : Nat} (wt : Nat → Nat) (F : (Nat → Nat) → Nat) : gsm B wt 1 F = sm B (fun a => wt a * F (snoc (z0 B) 0 a)) := by rw [gsm_s, gsm_0]; rfl
theorem gsm_2' {B : Nat} (wt : Nat → Nat) (F : (Nat → Nat) → Nat) : gsm B wt 2 F = sm B (fun a => sm B (fun b => wt a * (wt b * F (snoc (snoc (z0 B) 0 a) 1 b)))) := by
  rw [gsm_s, gsm_1']
  exact sm_c (fun a _ => by rw [← sm_mul])
theorem gsm_3' {B : Nat} (wt : Nat → Nat) (F : (Nat → Nat) → Nat) : gsm B wt 3 F = sm B (fun a => sm B (fun b => sm B (fun c => wt a * (wt b * (wt c * F (snoc (snoc (snoc (z0 B) 0 a) 1 b) 2 c)))))) := by
  rw [gsm_s, gsm_2']
  exact sm_c (fun a _ => sm_c (fun b _ => by rw [← sm_mul, ← sm_mul]))
theorem snoc_lt {B : Nat} {x : Nat → Nat} {g b : Nat} (h : ∀ i, x i < B) (hb : b < B) : ∀ i, snoc x g b i < B := by
  intro i
  unfold snoc
  split
  · exact hb
  · exact h i
/-- those as full -/
def eqS (B : Nat) (wt u : Nat → Nat) (v : Nat) : Nat := sm B (fun c => if u c = v then wt c else 0)
theorem ne_fl (B : Nat) (wt u : Nat → Nat) (v : Nat) : neS B wt u v = flS B wt u v + eqS B wt u v := by
  unfold neS flS eqS
  rw [← sm_add]
  refine sm_c (fun c _ => ?_)
  repeat' split
  all_goals omega
theorem k2_sum (B : Nat) (wt u : Nat → Nat) (v : Nat) : sm B (fun b => wt b * k2S v (u b)) = 2 * flS B wt u v + eqS B wt u v := by
  unfold flS eqS
  rw [← sm_mul, ← sm_add]
  refine sm_c (fun c _ => ?_)
  unfold k2S
  repeat' split
  all_goals omega
theorem k3_sum (B : Nat) (wt u : Nat → Nat) (v : Nat) : sm B (fun b => sm B (fun c => wt b * (wt c * k3S v (u b) (u c)))) = 6 * (flS B wt u v * flS B wt u v) + 6 * (flS B wt u v * eqS B wt u v) + 2 * (eqS B wt u v * eqS B wt u v) := by
  have e : ∀ b, sm B (fun c => wt b * (wt c * k3S v (u b) (u c))) = (if v < u b then wt b else 0) * (6 * flS B wt u v + 3 * eqS B wt u v) + (if u b = v then wt b else 0) * (3 * flS B wt u v + 2 * eqS B wt u v) := by
    intro b
    rw [sm_mul]
    have e1 : sm B (fun c => wt c * k3S v (u b) (u c)) = (if v < u b then 6 else if u b = v then 3 else 0) * flS B wt u v + (if v < u b then 3 else if u b = v then 2 else 0) * eqS B wt u v := by
      unfold flS eqS
      rw [← sm_mul, ← sm_mul, ← sm_add]
      refine sm_c (fun c _ => ?_)
      unfold k3S
      repeat' split
      all_goals omega
    rw [e1]
    by_cases q : v < u b
    · rw [if_pos q, if_pos q, if_pos q, if_neg (by omega), Nat.zero_mul, Nat.add_zero]
    · rw [if_neg q, if_neg q, if_neg q]
      by_cases q2 : u b = v
      · rw [if_pos q2, if_pos q2, if_pos q2, Nat.zero_mul, Nat.zero_add]
      · rw [if_neg q2, if_neg q2, if_neg q2]
        simp
  rw [sm_c (fun b _ => e b), sm_add, sm_mulr, sm_mulr]
  show flS B wt u v * _ + eqS B wt u v * _ = _
  generalize flS B wt u v = f
  generalize eqS B wt u v = l
  rw [Nat.mul_add, Nat.mul_add, Nat.mul_left_comm f 6 f, Nat.mul_left_comm f 3 l, Nat.mul_left_comm l 3 f, Nat.mul_left_comm l 2 l, Nat.mul_comm l f]
  omega
theorem lots_2 {B : Nat} (hB : 0 < B) (wt u F : Nat → Nat) : gsm B wt 2 (fun x => lotF u x B 2 F) = 2 * sm B (fun b => ltW B wt u 2 b * F b) := by
  have hz : ∀ i, z0 B i < B := fun _ => hB
  have e1 : gsm B wt 2 (fun x => lotF u x B 2 F) = sm B (fun a => sm B (fun b => wt a * F a * (wt b * k2S (u a) (u b)))) + sm B (fun a => sm B (fun b => wt b * F b * (wt a * k2S (u b) (u a)))) := by
    rw [gsm_2', ← sm_add]
    refine sm_c (fun a ha => ?_)
    rw [← sm_add]
    refine sm_c (fun b hb => ?_)
    rw [lotF_2 (snoc_lt (snoc_lt hz ha) hb)]
    show wt a * (wt b * (k2S (u a) (u b) * F a + k2S (u b) (u a) * F b)) = _
    simp only [Nat.mul_add, Nat.mul_left_comm, Nat.mul_comm, Nat.mul_assoc]
  rw [e1, sm_swap B B (fun a b => wt b * F b * (wt a * k2S (u b) (u a))), ← Nat.two_mul]
  congr 1
  refine sm_c (fun b _ => ?_)
  rw [sm_mul, k2_sum]
  unfold ltW
  rw [ne_fl]
  generalize flS B wt u (u b) = f
  generalize eqS B wt u (u b) = l
  simp only [mx, Nat.zero_mul, Nat.zero_add, Nat.pow_zero, Nat.pow_one, Nat.one_mul]
  rw [show 2 * f + l = f + l + f by omega, Nat.mul_assoc, Nat.mul_comm (F b), ← Nat.mul_assoc]
theorem lots_3 {B : Nat} (hB : 0 < B) (wt u F : Nat → Nat) : gsm B wt 3 (fun x => lotF u x B 3 F) = 6 * sm B (fun b => ltW B wt u 3 b * F b) := by
  have hz : ∀ i, z0 B i < B := fun _ => hB
  have e1 : gsm B wt 3 (fun x => lotF u x B 3 F) = sm B (fun a => sm B (fun b => sm B (fun c => wt a * F a * (wt b * (wt c * k3S (u a) (u b) (u c)))))) + sm B (fun a => sm B (fun b => sm B (fun c => wt b * F b * (wt a * (wt c * k3S (u b) (u a) (u c)))))) + sm B (fun a => sm B (fun b => sm B (fun c => wt c * F c * (wt a * (wt b * k3S (u c) (u a) (u b)))))) := by
    rw [gsm_3', ← sm_add, ← sm_add]
    refine sm_c (fun a ha => ?_)
    rw [← sm_add, ← sm_add]
    refine sm_c (fun b hb => ?_)
    rw [← sm_add, ← sm_add]
    refine sm_c (fun c hc => ?_)
    rw [lotF_3 (snoc_lt (snoc_lt (snoc_lt hz ha) hb) hc)]
    show wt a * (wt b * (wt c * (k3S (u a) (u b) (u c) * F a + k3S (u b) (u a) (u c) * F b + k3S (u c) (u a) (u b) * F c))) = _
    simp only [Nat.mul_add, Nat.mul_left_comm, Nat.mul_comm, Nat.mul_assoc]
  have e2 : sm B (fun a => sm B (fun b => sm B (fun c => wt b * F b * (wt a * (wt c * k3S (u b) (u a) (u c)))))) = sm B (fun a => sm B (fun b => sm B (fun c => wt a * F a * (wt b * (wt c * k3S (u a) (u b) (u c)))))) := sm_swap B B (fun a b => sm B (fun c => wt b * F b * (wt a * (wt c * k3S (u b) (u a) (u c)))))
  have e3 : sm B (fun a => sm B (fun b => sm B (fun c => wt c * F c * (wt a * (wt b * k3S (u c) (u a) (u b)))))) = sm B (fun a => sm B (fun b => sm B (fun c => wt a * F a * (wt b * (wt c * k3S (u a) (u b) (u c)))))) := by
    have e4 : ∀ a, a < B → sm B (fun b => sm B (fun c => wt c * F c * (wt a * (wt b * k3S (u c) (u a) (u b))))) = sm B (fun c => sm B (fun b => wt c * F c * (wt a * (wt b * k3S (u c) (u a) (u b))))) := fun a _ => sm_swap B B _
    rw [sm_c e4, sm_swap B B (fun a c => sm B (fun b => wt c * F c * (wt a * (wt b * k3S (u c) (u a) (u b)))))]
  rw [e1, e2, e3]
  have e5 : ∀ a, a < B → sm B (fun b => sm B (fun c => wt a * F a * (wt b * (wt c * k3S (u a) (u b) (u c))))) = 2 * (ltW B wt u 3 a * F a) := by
    intro a _
    rw [sm_c (fun b _ => sm_mul B (wt a * F a) _), sm_mul, k3_sum]
    unfold ltW
    rw [ne_fl]
    generalize flS B wt u (u a) = f
    generalize eqS B wt u (u a) = l
    simp only [mx, Nat.zero_mul, Nat.zero_add, Nat.pow_zero, Nat.pow_one, Nat.one_mul, Nat.pow_succ]
    rw [show 6 * (f * f) + 6 * (f * l) + 2 * (l * l) = 2 * ((f + l + f) * (f + l) + f * f) by
      simp only [Nat.mul_add, Nat.add_mul, Nat.mul_comm l f]; omega]
    rw [Nat.mul_left_comm]
    congr 1
    rw [Nat.mul_assoc, Nat.mul_comm (F a), ← Nat.mul_assoc]
  rw [sm_c e5, sm_mul]
  omega
theorem lots_1 {B : Nat} (hB : 0 < B) (wt u F : Nat → Nat) : gsm B wt 1 (fun x => lotF u x B 1 F) = 1 * sm B (fun b => ltW B wt u 1 b * F b) := by
  have hz : ∀ i, z0 B i < B := fun _ => hB
  rw [gsm_1', Nat.one_mul]
  refine sm_c (fun a ha => ?_)
  rw [lotF_1 (snoc_lt hz ha)]
  unfold ltW
  simp [mx, snoc]
theorem lots_g {B g : Nat} (hB : 0 < B) (hg1 : 1 ≤ g) (hg : g ≤ 3) (wt u F : Nat → Nat) : gsm B wt g (fun x => lotF u x B g F) = tiO g * sm B (fun b => ltW B wt u g b * F b) := by
  rcases (show g = 1 ∨ g = 2 ∨ g = 3 by omega) with rfl | rfl | rfl
  · exact lots_1 hB wt u F
  · exact lots_2 hB wt u F
  · exact lots_3 hB wt u F
