set_option maxRecDepth 4000 in
theorem msk_id (f F : Nat → Nat) : ∀ B, B ≤ 5 → ∀ b, b < B → sm (2 ^ B) (fun m => f m * F (m ||| 2 ^ b)) = sm (2 ^ B) (fun m => if m.testBit b = true then (f m + f (m ^^^ 2 ^ b)) * F m else 0) := by
  intro B hB b hb
  rcases (show B = 0 ∨ B = 1 ∨ B = 2 ∨ B = 3 ∨ B = 4 ∨ B = 5 by omega) with rfl | rfl | rfl | rfl | rfl | rfl
  · omega
  all_goals
    rcases (show b = 0 ∨ b = 1 ∨ b = 2 ∨ b = 3 ∨ b = 4 by omega) with rfl | rfl | rfl | rfl | rfl
    all_goals first | omega | (simp (config := {decide := true}) [sm, Nat.add_mul]; omega)
theorem snS_sum {B : Nat} (hB5 : B ≤ 5) (wt : Nat → Nat) : ∀ (g : Nat) (F : Nat → Nat), sm (2 ^ B) (fun m => snS B wt g m * F m) = gsm B wt g (fun x => F (msk x g)) := by
  intro g
  induction g with
  | zero =>
    intro F
    rw [gsm_0, sm_one (Nat.two_pow_pos B) _ (fun i _ h => by rw [snS, if_neg h, Nat.zero_mul]), snS, if_pos rfl, Nat.one_mul]
    rfl
  | succ g ih =>
    intro F
    have e1 : sm (2 ^ B) (fun m => snS B wt (g + 1) m * F m) = sm (2 ^ B) (fun m => sm B (fun b => wt b * (if m.testBit b = true then (snS B wt g m + snS B wt g (m ^^^ 2 ^ b)) * F m else 0))) := by
      refine sm_c (fun m hm => ?_)
      rw [snS, if_pos hm, oneS, ← sm_mulr]
      refine sm_c (fun b _ => ?_)
      by_cases q : m.testBit b = true
      · rw [if_pos q, if_pos q, Nat.mul_comm _ (wt b), Nat.mul_assoc]
      · rw [if_neg q, if_neg q, Nat.zero_mul, Nat.mul_zero]
    have e2 : ∀ b, b < B → sm (2 ^ B) (fun m => wt b * (if m.testBit b = true then (snS B wt g m + snS B wt g (m ^^^ 2 ^ b)) * F m else 0)) = sm (2 ^ B) (fun m => snS B wt g m * (wt b * F (m ||| 2 ^ b))) := by
      intro b hb
      rw [sm_mul, ← msk_id (snS B wt g) F B hB5 b hb, ← sm_mul]
      exact sm_c (fun m _ => by rw [← Nat.mul_assoc, Nat.mul_comm (wt b), Nat.mul_assoc])
    rw [e1, sm_swap, sm_c e2, sm_swap, gsm_s]
    have e3 := ih (fun m => sm B (fun b => wt b * F (m ||| 2 ^ b)))
    have e4 : sm (2 ^ B) (fun m => sm B (fun b => snS B wt g m * (wt b * F (m ||| 2 ^ b)))) = sm (2 ^ B) (fun m => snS B wt g m * sm B (fun b => wt b * F (m ||| 2 ^ b))) := sm_c (fun m _ => sm_mul _ _ _)
    rw [e4, e3]
    unfold gsm
    refine sm_c (fun n _ => ?_)
    congr 1
    exact sm_c (fun b _ => by rw [msk_snoc])
theorem gsm_le {B : Nat} {wt : Nat → Nat} {g : Nat} {F F' : (Nat → Nat) → Nat} (h : ∀ x, F x ≤ F' x) : gsm B wt g F ≤ gsm B wt g F' := by
  unfold gsm
  exact sm_le (fun n _ => Nat.mul_le_mul (Nat.le_refl _) (h _))
theorem snS_le {B : Nat} (hB5 : B ≤ 5) (wt : Nat → Nat) (g m : Nat) : snS B wt g m ≤ sm B wt ^ g := by
  by_cases hm : m < 2 ^ B
  · rw [← gsm_one]
    have := snS_sum hB5 wt g (fun i => if i = m then 1 else 0)
    rw [sm_one hm _ (fun i _ q => by rw [if_neg q, Nat.mul_zero]), if_pos rfl, Nat.mul_one] at this
    rw [this]
    exact gsm_le (fun x => by split <;> omega)
  · cases g with
    | zero => rw [snS, if_neg (fun q => hm (by rw [q]; exact Nat.two_pow_pos _))]; exact Nat.zero_le _
    | succ g => rw [snS, if_neg hm]; exact Nat.zero_le _
/-- all products of n - 1 factors that are first a's, then b's, together -/
def mx (a b : Nat) : Nat → Nat
  | 0 => 0
  | n + 1 => mx a b n * a + b ^ n
theorem mixed {w : GW} {a b n : Nat} (hn : n < 1000) : f_X1_mixed (lN a) (lN b) (nI n) w = some (lN (mx a b n), w) := by
  have key : ∀ d i m, i + d = n → d < m → f_X1_mixed_9 m (lN a) (lN b) (nI n) (lN (mx a b i)) (lN (b ^ i)) (nI i) w = some (lN (mx a b n), w) := by
    intro d
    induction d with
    | zero =>
      intro i m hi hm
      obtain ⟨m, rfl⟩ : ∃ m9, m = m9 + 1 := ⟨m - 1, by omega⟩
      have : i = n := by omega
      subst this
      rw [f_X1_mixed_9, if_pos ((le_nI (by omega) (by omega)).mpr (by omega))]
    | succ d ih =>
      intro i m hi hm
      obtain ⟨m, rfl⟩ : ∃ m9, m = m9 + 1 := ⟨m - 1, by omega⟩
      have e := ih (i + 1) m (by omega) (by omega)
      rw [mx, Nat.pow_succ] at e
      rw [f_X1_mixed_9, if_neg (fun q9 => absurd ((le_nI (by omega) (by omega)).mp q9) (by omega)), lN_mul, lN_add, lN_mul, nI_1]
      exact e
  rw [f_X1_mixed, show (0 : Int32) = nI 0 from rfl, show (0 : Int64) = lN 0 from rfl, show (1 : Int64) = lN 1 from rfl]
  exact key n 0 fu (by omega) (fu_gt (by omega))
def neS (B : Nat) (wt u : Nat → Nat) (v : Nat) : Nat := sm B (fun c => if v ≤ u c then wt c else 0)
def flS (B : Nat) (wt u : Nat → Nat) (v : Nat) : Nat := sm B (fun c => if v < u c then wt c else 0)
/-- the ways by lot, by the box taken -/
def ltW (B : Nat) (wt u : Nat → Nat) (g b : Nat) : Nat := wt b * mx (neS B wt u (u b)) (flS B wt u (u b)) g
def lzW (B : Nat) (wt u : Nat → Nat) (h g b : Nat) : Nat := wt b * mx (if h < u b then 0 else sm B wt) (flS B wt u h) g
def cwB (W : Nat → Nat) (B i : Nat) : Nat := if i % 6 = 0 ∧ i / 6 < B then W (i / 6) else 0
section WG
variable {η : HP} {r h g k1 : Nat} {u : Nat → Nat}
theorem cw_step {w : GW} {W : Nat → Nat} {b : Nat} (hb : b < 5) (h : ∀ i, i < 30 → gL w 71 i = lN (cwB W b i)) : ∀ i, i < 30 → gL (sL w 71 (b * 6) (lN (W b))) 71 i = lN (cwB W (b + 1) i) := by
  intro i hi
  rw [gL_sL]
  unfold cwB
  by_cases q : i = b * 6
  · subst q
    rw [if_pos ⟨rfl, rfl⟩, if_pos ⟨by omega, by omega⟩, show b * 6 / 6 = b by omega]
  · rw [if_neg (fun z => q z.2), h i hi]
    unfold cwB
    by_cases q2 : i % 6 = 0 ∧ i / 6 < b
    · rw [if_pos q2, if_pos ⟨q2.1, by omega⟩]
    · rw [if_neg q2, if_neg (fun z => q2 ⟨z.1, by omega⟩)]
theorem lots_in (hη : HPok η) (hg : g ≤ 3) (hu8 : ∀ b, u b ≤ 8) {b : Nat} (hb : b < pB η) {w : GW} (hX : CX w η r h g) (hu : ∀ b, b < 5 → gI w k1 b = nI (u b)) {k2 : Nat → Int32 → GW → Option (Unit × GW)} : ∀ d i n, i + d = pB η → d < n → f_X1_weighLots_21 k2 n k1 (nI b) (lN (sm i (fun c => if u b < u c then pW η c else 0))) (lN (sm i (fun c => if u b ≤ u c then pW η c else 0))) (nI i) w = k2 k1 (nI (b + 1)) (sL w 71 (b * 6) (lN (ltW (pB η) (pW η) u g b))) := by
  obtain ⟨⟨h1, -, h3, -⟩, ⟨p1, -, -⟩⟩ := hX
  obtain ⟨j1, j2, -, j4, -⟩ := hη
  intro d
  induction d with
  | zero =>
    intro i n hi hn
    obtain ⟨n, rfl⟩ : ∃ m9, n = m9 + 1 := ⟨n - 1, by omega⟩
    have : i = pB η := by omega
    subst this
    have := j4 b
    rw [f_X1_weighLots_21, h1, if_pos ((le_nI (by omega) (by omega)).mpr (by omega)), if_pos ((inb_nI (by omega)).mpr (by omega)), p1, mixed (by omega), bind_some', show (6 : Int32) = nI 6 from rfl, pk_mul, if_pos ((inb_nI (by omega)).mpr (by omega)), ix_nI (by omega), ix_nI (by omega), h3 b hb, nI_l (by omega), lN_mul, nI_1]
    rfl
  | succ d ih =>
    intro i n hi hn
    obtain ⟨n, rfl⟩ : ∃ m9, n = m9 + 1 := ⟨n - 1, by omega⟩
    have e := ih (i + 1) n (by omega) (by omega)
    have v1 := hu8 b
    have v2 := hu8 i
    have v3 := j4 i
    rw [sm_s, sm_s] at e
    have c2 : ∀ x : Nat, f_X1_weighLots_59 k2 (f_X1_weighLots_21 k2 n) k1 (nI b) (lN (sm i (fun c => if u b ≤ u c then pW η c else 0))) (nI i) (lN (if u b < u i then pW η i else 0)) (lN (sm i (fun c => if u b < u c then pW η c else 0))) w = k2 k1 (nI (b + 1)) (sL w 71 (b * 6) (lN (ltW (pB η) (pW η) u g b))) := by
      intro _
      rw [f_X1_weighLots_59, if_pos ((inb_nI (by omega)).mpr (by omega)), if_pos ((inb_nI (by omega)).mpr (by omega)), ix_nI (by omega), ix_nI (by omega), hu i (by omega), hu b (by omega), if_pos ((inb_nI (by omega)).mpr (by omega))]
      by_cases q : u b ≤ u i
      · rw [if_neg (fun q9 => absurd ((lt_nI (by omega) (by omega)).mp q9) (by omega)), f_X1_weighLots_88, h3 i (by omega), nI_l (by omega), lN_add, lN_add, nI_1]
        rw [if_pos q] at e
        exact e
      · rw [if_pos ((lt_nI (by omega) (by omega)).mpr (by omega)), f_X1_weighLots_88, show (0 : Int64) = lN 0 from rfl, lN_add, lN_add, nI_1]
        rw [if_neg q] at e
        exact e
    have c3 := c2 0
    rw [f_X1_weighLots_21, h1, if_neg (fun q9 => absurd ((le_nI (by omega) (by omega)).mp q9) (by omega)), if_pos ((inb_nI (by omega)).mpr (by omega)), if_pos ((inb_nI (by omega)).mpr (by omega)), ix_nI (by omega), ix_nI (by omega), hu i (by omega), hu b (by omega), if_pos ((inb_nI (by omega)).mpr (by omega))]
    by_cases q : u b < u i
    · rw [if_neg (fun q9 => absurd ((le_nI (by omega) (by omega)).mp q9) (by omega)), h3 i (by omega), nI_l (by omega)]
      rw [if_pos q] at c3
      exact c3
    · rw [if_pos ((le_nI (by omega) (by omega)).mpr (by omega)), show (0 : Int64) = lN 0 from rfl]
      rw [if_neg q] at c3
      exact c3
theorem weighLots {w : GW} (hη : HPok η) (hg : g ≤ 3) (hu8 : ∀ b, u b ≤ 8) (h71 : k1 ≠ 71) (hX : CX w η r h g) (hu : ∀ b, b < 5 → gI w k1 b = nI (u b)) (h0 : ∀ i, i < 30 → gL w 71 i = lN 0) : ∃ w', f_X1_weighLots k1 w = some ((), w') ∧ oL 71 w w' ∧ ∀ i, i < 30 → gL w' 71 i = lN (cwB (ltW (pB η) (pW η) u g) (pB η) i) := by
  have key : ∀ d b n w, b + d = pB η → d < n → CX w η r h g → (∀ b, b < 5 → gI w k1 b = nI (u b)) → (∀ i, i < 30 → gL w 71 i = lN (cwB (ltW (pB η) (pW η) u g) b i)) → ∃ w', f_X1_weighLots_2 n k1 (nI b) w = some ((), w') ∧ oL 71 w w' ∧ ∀ i, i < 30 → gL w' 71 i = lN (cwB (ltW (pB η) (pW η) u g) (pB η) i) := by
    intro d
    induction d with
    | zero =>
      intro b n w hb hn hX hu h0
      obtain ⟨n, rfl⟩ : ∃ m9, n = m9 + 1 := ⟨n - 1, by omega⟩
      have : b = pB η := by omega
      subst this
      have j2 := hη.2.1
      refine ⟨w, ?_, oL.rf, h0⟩
      rw [f_X1_weighLots_2, hX.1.1, if_pos ((le_nI (by omega) (by omega)).mpr (by omega))]
    | succ d ih =>
      intro b n w hb hn hX hu h0
      obtain ⟨n, rfl⟩ : ∃ m9, n = m9 + 1 := ⟨n - 1, by omega⟩
      have j2 := hη.2.1
      have e := lots_in hη hg hu8 (b := b) (by omega) hX hu (k2 := f_X1_weighLots_2 n) (pB η) 0 fu (by omega) (fu_gt (by omega))
      obtain ⟨w', a1, a2, a3⟩ := ih (b + 1) n (sL w 71 (b * 6) (lN (ltW (pB η) (pW η) u g b))) (by omega) (by omega) (hX.of (oL.st _ _ _ _)) hu (cw_step (by omega) h0)
      refine ⟨w', ?_, (oL.st _ _ _ _).tr a2, a3⟩
      rw [f_X1_weighLots_2, hX.1.1, if_neg (fun q9 => absurd ((le_nI (by omega) (by omega)).mp q9) (by omega)), ← a1]
      exact e
  have j2 := hη.2.1
  rw [f_X1_weighLots, show (0 : Int32) = nI 0 from rfl]
  exact key (pB η) 0 fu w (by omega) (fu_gt (by omega)) hX hu (fun i hi => by rw [h0 i hi]; unfold cwB; rw [if_neg (by omega)])
theorem lazy_2 (hη : HPok η) (hg : g ≤ 3) (hu8 : ∀ b, u b ≤ 8) (hh : h ≤ 8) : ∀ d b n w, b + d = pB η → d < n → CX w η 2 h g → (∀ b, b < 5 → gI w k1 b = nI (u b)) → (∀ i, i < 30 → gL w 71 i = lN (cwB (lzW (pB η) (pW η) u h g) b i)) → ∃ w', f_X1_weighLazy_58 n k1 (lN (flS (pB η) (pW η) u h)) (nI b) w = some ((), w') ∧ oL 71 w w' ∧ ∀ i, i < 30 → gL w' 71 i = lN (cwB (lzW (pB η) (pW η) u h g) (pB η) i) := by
  intro d
  induction d with
  | zero =>
    intro b n w hb hn hX hu h0
    obtain ⟨n, rfl⟩ : ∃ m9, n = m9 + 1 := ⟨n - 1, by omega⟩
    have : b = pB η := by omega
    subst this
    have j2 := hη.2.1
    refine ⟨w, ?_, oL.rf, h0⟩
    rw [f_X1_weighLazy_58, hX.1.1, if_pos ((le_nI (by omega) (by omega)).mpr (by omega))]
  | succ d ih =>
    intro b n w hb hn hX hu h0
    obtain ⟨n, rfl⟩ : ∃ m9, n = m9 + 1 := ⟨n - 1, by omega⟩
    obtain ⟨⟨h1, -, h3, -, h5, -⟩, ⟨p1, -, p3⟩⟩ := id hX
    have hW := (WT_le hη).2
    obtain ⟨j1, j2, -, j4, -⟩ := id hη
    have v1 := hu8 b
    have v2 := j4 b
    obtain ⟨w', a1, a2, a3⟩ := ih (b + 1) n (sL w 71 (b * 6) (lN (lzW (pB η) (pW η) u h g b))) (by omega) (by omega) (hX.of (oL.st _ _ _ _)) hu (cw_step (by omega) h0)
    refine ⟨w', ?_, (oL.st _ _ _ _).tr a2, a3⟩
    have e : f_X1_weighLazy_96 (f_X1_weighLazy_58 n) k1 (lN (flS (pB η) (pW η) u h)) (nI b) (lN (if h < u b then 0 else sm (pB η) (pW η))) w = some ((), w') := by
      rw [f_X1_weighLazy_96, if_pos ((inb_nI (by omega)).mpr (by omega)), p1, mixed (by omega), bind_some', show (6 : Int32) = nI 6 from rfl, pk_mul, if_pos ((inb_nI (by omega)).mpr (by omega)), ix_nI (by omega), ix_nI (by omega), h3 b (by omega), nI_l (by omega), lN_mul, nI_1]
      exact a1
    rw [f_X1_weighLazy_58, h1, if_neg (fun q9 => absurd ((le_nI (by omega) (by omega)).mp q9) (by omega)), if_pos ((inb_nI (by omega)).mpr (by omega)), ix_nI (by omega), hu b (by omega), p3 rfl, h5, nI_l (by omega)]
    by_cases q : h < u b
    · rw [if_neg (fun q9 => absurd ((le_nI (by omega) (by omega)).mp q9) (by omega))]
      rw [if_pos q] at e
      exact e
    · rw [if_pos ((le_nI (by omega) (by omega)).mpr (by omega))]
      rw [if_neg q] at e
      exact e
theorem weighLazy {w : GW} (hη : HPok η) (hg : g ≤ 3) (hu8 : ∀ b, u b ≤ 8) (hh : h ≤ 8) (hX : CX w η 2 h g) (hu : ∀ b, b < 5 → gI w k1 b = nI (u b)) (h0 : ∀ i, i < 30 → gL w 71 i = lN 0) : ∃ w', f_X1_weighLazy k1 w = some ((), w') ∧ oL 71 w w' ∧ ∀ i, i < 30 → gL w' 71 i = lN (cwB (lzW (pB η) (pW η) u h g) (pB η) i) := by
  obtain ⟨⟨h1, -, h3, -, h5, -⟩, ⟨p1, -, p3⟩⟩ := id hX
  obtain ⟨j1, j2, -, j4, -⟩ := id hη
  obtain ⟨w', a1, a2, a3⟩ := lazy_2 (k1 := k1) hη hg hu8 hh (pB η) 0 fu w (by omega) (fu_gt (by omega)) hX hu (fun i hi => by rw [h0 i hi]; unfold cwB; rw [if_neg (by omega)])
  refine ⟨w', ?_, a2, a3⟩
  have key : ∀ d i n, i + d = pB η → d < n → f_X1_weighLazy_5 n k1 (lN (sm i (fun c => if h < u c then pW η c else 0))) (nI i) w = some ((), w') := by
    intro d
    induction d with
    | zero =>
      intro i n hi hn
      obtain ⟨n, rfl⟩ : ∃ m9, n = m9 + 1 := ⟨n - 1, by omega⟩
      have : i = pB η := by omega
      subst this
      rw [f_X1_weighLazy_5, h1, if_pos ((le_nI (by omega) (by omega)).mpr (by omega)), show (0 : Int32) = nI 0 from rfl]
      exact a1
    | succ d ih =>
      intro i n hi hn
      obtain ⟨n, rfl⟩ : ∃ m9, n = m9 + 1 := ⟨n - 1, by omega⟩
      have e := ih (i + 1) n (by omega) (by omega)
      have v1 := hu8 i
      have v3 := j4 i
      rw [sm_s] at e
      rw [f_X1_weighLazy_5, h1, if_neg (fun q9 => absurd ((le_nI (by omega) (by omega)).mp q9) (by omega)), if_pos ((inb_nI (by omega)).mpr (by omega)), ix_nI (by omega), hu i (by omega), p3 rfl, if_pos ((inb_nI (by omega)).mpr (by omega))]
      by_cases q : h < u i
      · rw [if_neg (fun q9 => absurd ((le_nI (by omega) (by omega)).mp q9) (by omega)), f_X1_weighLazy_47, h3 i (by omega), nI_l (by omega), lN_add, nI_1]
        rw [if_pos q] at e
        exact e
      · rw [if_pos ((le_nI (by omega) (by omega)).mpr (by omega)), f_X1_weighLazy_47, show (0 : Int64) = lN 0 from rfl, lN_add, nI_1]
        rw [if_neg q] at e
        exact e
  rw [f_X1_weighLazy, show (0 : Int32) = nI 0 from rfl, show (0 : Int64) = lN 0 from rfl]
  exact key (pB η) 0 fu (by omega) (fu_gt (by omega))
end WG
