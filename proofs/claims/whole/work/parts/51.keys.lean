/-! keys taken apart and put together; glances -/
/-- what is remembered, as the reference has it: a slot less one -/
def kI (s : Nat) : Int32 := nI s - 1
theorem kI_s (s : Nat) : kI (s + 1) = nI s := nI_pred s
theorem kI_0 : kI 0 = -1 := by decide
theorem kI_add (s : Nat) : kI s + 1 = nI s := by
  cases s with
  | zero => decide
  | succ s => rw [kI_s, nI_1]
theorem kI_m (s : Nat) : nI s + (-1) = kI s := by
  unfold kI
  rw [Int32.sub_eq_add_neg]
theorem kI_neg {s : Nat} (h : s < 1000) : kI s < 0 ↔ s = 0 := by
  cases s with
  | zero => exact ⟨fun _ => rfl, fun _ => by decide⟩
  | succ s => rw [kI_s]; exact ⟨fun q => absurd q (lt0_nI (by omega)), fun q => by omega⟩
theorem kI_pos {s : Nat} (h : s < 1000) : 0 ≤ kI s ↔ ¬ s = 0 := by
  cases s with
  | zero => exact ⟨fun q => absurd q (by decide), fun q => absurd rfl q⟩
  | succ s => rw [kI_s]; exact ⟨fun _ => by omega, fun _ => nI_pos' (by omega)⟩
theorem kI_oI (b : Option Nat) : oI b = kI (match b with | none => 0 | some x => x + 1) := by
  cases b with
  | none => exact kI_0.symm
  | some x => exact (kI_s x).symm
def enc (u : Nat → Nat) (s : Nat) : Nat := 9 * (9 * (9 * (9 * (9 * 0 + u 4) + u 3) + u 2) + u 1) + u 0 + 59049 * s
theorem dU_0 (x : Nat) : dU x 0 = x % 9 := by unfold dU; rw [show 9 ^ 0 = 1 from rfl, Nat.div_one]
theorem dU_1 (x : Nat) : dU x 1 = x / 9 % 9 := rfl
theorem dU_2 (x : Nat) : dU x 2 = x / 81 % 9 := rfl
theorem dU_3 (x : Nat) : dU x 3 = x / 729 % 9 := rfl
theorem dU_4 (x : Nat) : dU x 4 = x / 6561 % 9 := rfl
theorem dU_le (x b : Nat) : dU x b ≤ 8 := by
  have : dU x b < 9 := Nat.mod_lt _ (by omega)
  omega
theorem dU_enc {u : Nat → Nat} {s : Nat} (h : ∀ b, u b ≤ 8) : ∀ b, b < 5 → dU (enc u s) b = u b := by
  intro b hb
  have h0 := h 0
  have h1 := h 1
  have h2 := h 2
  have h3 := h 3
  have h4 := h 4
  rcases (show b = 0 ∨ b = 1 ∨ b = 2 ∨ b = 3 ∨ b = 4 by omega) with rfl | rfl | rfl | rfl | rfl
  · rw [dU_0]; unfold enc; omega
  · rw [dU_1]; unfold enc; omega
  · rw [dU_2]; unfold enc; omega
  · rw [dU_3]; unfold enc; omega
  · rw [dU_4]; unfold enc; omega
theorem dK_enc {u : Nat → Nat} {s : Nat} (h : ∀ b, u b ≤ 8) : dK (enc u s) = s := by
  have h0 := h 0
  have h1 := h 1
  have h2 := h 2
  have h3 := h 3
  have h4 := h 4
  unfold dK enc
  omega
theorem enc_dU {x : Nat} (hx : x < 354294) : enc (dU x) (dK x) = x := by
  unfold enc dK
  rw [dU_0, dU_1, dU_2, dU_3, dU_4]
  omega
theorem enc_c {u v : Nat → Nat} {s : Nat} (h : ∀ b, b < 5 → u b = v b) : enc u s = enc v s := by
  unfold enc
  rw [h 0 (by omega), h 1 (by omega), h 2 (by omega), h 3 (by omega), h 4 (by omega)]
theorem VK_enc {u : Nat → Nat} {s : Nat} (h : ∀ b, u b ≤ 8) (hs : s ≤ 5) (h8 : u 0 + u 1 + u 2 + u 3 + u 4 ≤ 8) : VK (enc u s) := by
  refine ⟨?_, ?_⟩
  · have h0 := h 0
    have h1 := h 1
    have h2 := h 2
    have h3 := h 3
    have h4 := h 4
    unfold enc
    omega
  · rw [dU_enc h 0 (by omega), dU_enc h 1 (by omega), dU_enc h 2 (by omega), dU_enc h 3 (by omega), dU_enc h 4 (by omega)]
    exact h8
theorem layApart {w : GW} {x : Nat} (hx : x < 354294) : f_X9_layApart (nI x) w = some ((), sI (sI (sI (sI (sI (sI w 137 0 (nI (dU x 0))) 137 1 (nI (dU x 1))) 137 2 (nI (dU x 2))) 137 3 (nI (dU x 3))) 137 4 (nI (dU x 4))) 130 22 (kI (dK x))) := by
  obtain ⟨m, hm⟩ : ∃ m, fu = m + 6 := ⟨fu - 6, by rw [fu_eq]⟩
  rw [f_X9_layApart, hm, show (59049 : Int32) = nI 59049 from rfl, irm_nI (by omega) (by omega) (by omega)]
  rw [f_X9_layApart_7, if_neg (by decide), if_pos (show inb _ _ from by decide), show (9 : Int32) = nI 9 from rfl, irm_nI (by omega) (by omega) (by omega), div_nI (by omega) (by omega) (by omega), show ((0 : Int32) + 1) = 1 from rfl]
  rw [f_X9_layApart_7, if_neg (by decide), if_pos (show inb _ _ from by decide), show (9 : Int32) = nI 9 from rfl, irm_nI (by omega) (by omega) (by omega), div_nI (by omega) (by omega) (by omega), show ((1 : Int32) + 1) = 2 from rfl]
  rw [f_X9_layApart_7, if_neg (by decide), if_pos (show inb _ _ from by decide), show (9 : Int32) = nI 9 from rfl, irm_nI (by omega) (by omega) (by omega), div_nI (by omega) (by omega) (by omega), show ((2 : Int32) + 1) = 3 from rfl]
  rw [f_X9_layApart_7, if_neg (by decide), if_pos (show inb _ _ from by decide), show (9 : Int32) = nI 9 from rfl, irm_nI (by omega) (by omega) (by omega), div_nI (by omega) (by omega) (by omega), show ((3 : Int32) + 1) = 4 from rfl]
  rw [f_X9_layApart_7, if_neg (by decide), if_pos (show inb _ _ from by decide), show (9 : Int32) = nI 9 from rfl, irm_nI (by omega) (by omega) (by omega), div_nI (by omega) (by omega) (by omega), show ((4 : Int32) + 1) = 5 from rfl]
  rw [f_X9_layApart_7, if_pos (by decide), show (59049 : Int32) = nI 59049 from rfl, div_nI (by omega) (by omega) (by omega)]
  rw [show ix 0 = 0 from by decide, show ix 1 = 1 from by decide, show ix 2 = 2 from by decide, show ix 3 = 3 from by decide, show ix 4 = 4 from by decide]
  rw [dU_0, dU_1, dU_2, dU_3, dU_4, show x % 59049 % 9 = x % 9 by omega, show x % 59049 / 9 % 9 = x / 9 % 9 by omega, show x % 59049 / 9 / 9 % 9 = x / 81 % 9 by omega, show x % 59049 / 9 / 9 / 9 % 9 = x / 729 % 9 by omega, show x % 59049 / 9 / 9 / 9 / 9 % 9 = x / 6561 % 9 by omega]
  rfl
/-- the reference's scratch: how boxes lie, what is remembered -/
def LK (w : GW) (u : Nat → Nat) (s : Nat) : Prop := (∀ b, b < 5 → gI w 137 b = nI (u b)) ∧ gI w 130 22 = kI s
theorem layApart_LK {w : GW} {x : Nat} (hx : x < 354294) : ∃ w', f_X9_layApart (nI x) w = some ((), w') ∧ LK w' (dU x) (dK x) := by
  refine ⟨_, layApart hx, fun b hb => ?_, by simp [gI_sI]⟩
  rcases (show b = 0 ∨ b = 1 ∨ b = 2 ∨ b = 3 ∨ b = 4 by omega) with rfl | rfl | rfl | rfl | rfl <;> simp [gI_sI]
theorem together {w : GW} {u : Nat → Nat} {s : Nat} (h : LK w u s) : f_X9_together w = some (nI (enc u s), w) := by
  obtain ⟨m, hm⟩ : ∃ m, fu = m + 6 := ⟨fu - 6, by rw [fu_eq]⟩
  obtain ⟨h1, h2⟩ := h
  rw [f_X9_together, hm]
  rw [f_X9_together_4, if_neg (by decide), if_pos (show inb _ _ from by decide), show ix (4 : Int32) = 4 from by decide, h1 4 (by omega), show ((4 : Int32) + (-1)) = 3 from by decide]
  rw [f_X9_together_4, if_neg (by decide), if_pos (show inb _ _ from by decide), show ix (3 : Int32) = 3 from by decide, h1 3 (by omega), show ((3 : Int32) + (-1)) = 2 from by decide]
  rw [f_X9_together_4, if_neg (by decide), if_pos (show inb _ _ from by decide), show ix (2 : Int32) = 2 from by decide, h1 2 (by omega), show ((2 : Int32) + (-1)) = 1 from by decide]
  rw [f_X9_together_4, if_neg (by decide), if_pos (show inb _ _ from by decide), show ix (1 : Int32) = 1 from by decide, h1 1 (by omega), show ((1 : Int32) + (-1)) = 0 from by decide]
  rw [f_X9_together_4, if_neg (by decide), if_pos (show inb _ _ from by decide), show ix (0 : Int32) = 0 from by decide, h1 0 (by omega), show ((0 : Int32) + (-1)) = -1 from by decide]
  rw [f_X9_together_4, if_pos (by decide), h2, kI_add, show (59049 : Int32) = nI 59049 from rfl, show (9 : Int32) = nI 9 from rfl, show (0 : Int32) = nI 0 from rfl]
  simp only [pk_mul, nI_add]
  rfl
/-- the boxes seen, as bits -/
def msk (x : Nat → Nat) : Nat → Nat
  | 0 => 0
  | g + 1 => msk x g ||| 2 ^ x g
theorem msk_lt {x : Nat → Nat} (h : ∀ i, i < 3 → x i < 5) : ∀ g, g ≤ 3 → msk x g < 32 := by
  intro g
  induction g with
  | zero => intro _; exact Nat.lt_of_sub_eq_succ rfl
  | succ g ih =>
    intro hg
    have h1 := ih (by omega)
    have h2 : 2 ^ x g < 2 ^ 5 := Nat.pow_lt_pow_right (by omega) (h g (by omega))
    exact Nat.or_lt_two_pow (n := 5) h1 h2
def GL (w : GW) (x : Nat → Nat) (g : Nat) : Prop := ∀ i, i < g → gI w 138 i = nI (x i)
theorem seenBy_eq {w : GW} {x : Nat → Nat} {g : Nat} (hg : g ≤ 3) (hx : ∀ i, i < 3 → x i < 5) (h : GL w x g) : ∀ d i n, i + d = g → d < n → f_X9_seenBy_4 n (nI g) (nI (msk x i)) (nI i) w = some (nI (msk x g), w) := by
  intro d
  induction d with
  | zero =>
    intro i n hi hn
    obtain ⟨n, rfl⟩ : ∃ m9, n = m9 + 1 := ⟨n - 1, by omega⟩
    have : i = g := by omega
    subst this
    rw [f_X9_seenBy_4, if_pos ((le_nI (by omega) (by omega)).mpr (by omega))]
  | succ d ih =>
    intro i n hi hn
    obtain ⟨n, rfl⟩ : ∃ m9, n = m9 + 1 := ⟨n - 1, by omega⟩
    have h5 := hx i (by omega)
    rw [f_X9_seenBy_4, if_neg (fun q9 => absurd ((le_nI (by omega) (by omega)).mp q9) (by omega)), if_pos ((inb_nI (by omega)).mpr (by omega)), ix_nI (by omega), h i (by omega), shl_nI (by omega), or_nI, nI_1]
    exact ih (i + 1) n (by omega) (by omega)
theorem seenBy {w : GW} {x : Nat → Nat} {g : Nat} (hg : g ≤ 3) (hx : ∀ i, i < 3 → x i < 5) (h : GL w x g) : f_X9_seenBy (nI g) w = some (nI (msk x g), w) := by
  rw [f_X9_seenBy, show (0 : Int32) = nI 0 from rfl]
  exact seenBy_eq hg hx h g 0 fu (by omega) (fu_gt (by omega))
/-- the glances of a number: the last digit is the last glance -/
def tg (B : Nat) : Nat → Nat → Nat → Nat
  | 0, _, _ => 0
  | c + 1, l, p => if p = c then l % B else tg B c (l / B) p
def tw (B : Nat) (wt : Nat → Nat) : Nat → Nat → Nat
  | 0, _ => 1
  | c + 1, l => wt (l % B) * tw B wt c (l / B)
theorem tg_lt {B : Nat} (hB : 0 < B) : ∀ c l p, tg B c l p < B := by
  intro c
  induction c with
  | zero => intro l p; exact hB
  | succ c ih =>
    intro l p
    unfold tg
    split
    · exact Nat.mod_lt _ hB
    · exact ih _ _
theorem layGlances_eq {B : Nat} {wt : Nat → Nat} (hB0 : 1 ≤ B) (hB5 : B ≤ 5) : ∀ (c l a n : Nat) (w : GW), gI w 133 0 = nI B → (∀ b, b < B → gI w 133 (7 + b) = nI (wt b)) → (∀ b, wt b ≤ 3) → c ≤ 3 → l < 1000 → c < n → ∃ w', f_X9_layGlances_10 n (lN a) (nI l) (kI c) w = some (lN (a * tw B wt c l), w') ∧ GL w' (tg B c l) c ∧ ∀ p, c ≤ p → gI w' 138 p = gI w 138 p := by
  intro c
  induction c with
  | zero =>
    intro l a n w hB hw hw3 hc hl hn
    obtain ⟨n, rfl⟩ : ∃ m9, n = m9 + 1 := ⟨n - 1, by omega⟩
    rw [f_X9_layGlances_10, kI_0, if_pos (by decide)]
    exact ⟨w, by rw [tw, Nat.mul_one], fun i hi => by omega, fun p _ => rfl⟩
  | succ c ih =>
    intro l a n w hB hw hw3 hc hl hn
    obtain ⟨n, rfl⟩ : ∃ m9, n = m9 + 1 := ⟨n - 1, by omega⟩
    have hlB : l % B < B := Nat.mod_lt _ (by omega)
    have hdiv : l / B ≤ l := Nat.div_le_self _ _
    have hwl := hw3 (l % B)
    have e0 : ∀ v : Int32, gI (sI w 138 c v) 133 0 = nI B := fun v => by simp [gI_sI, hB]
    have e7 : ∀ v : Int32, ∀ b, b < B → gI (sI w 138 c v) 133 (7 + b) = nI (wt b) := fun v b hb => by simp [gI_sI, hw b hb]
    have e8 : ∀ v : Int32, gI (sI w 138 c v) 138 c = v := fun v => by simp [gI_sI]
    rw [f_X9_layGlances_10, kI_s, if_neg (lt0_nI (by omega)), if_pos (show inb _ _ from by decide), show ix (0 : Int32) = 0 from by decide, hB, if_pos (fun q => absurd ((eq0 (by omega)).mp q) (by omega)), if_pos ((inb_nI (by omega)).mpr (by omega)), ix_nI (by omega), irm_nI (by omega) (by omega) (by omega), if_pos (show inb _ _ from by decide), e0, if_pos (fun q => absurd ((eq0 (by omega)).mp q) (by omega)), if_pos ((inb_nI (by omega)).mpr (by omega)), e8, show (7 : Int32) = nI 7 from rfl, nI_add, if_pos ((inb_nI (by omega)).mpr (by omega)), ix_nI (by omega), e7 _ _ hlB, div_nI (by omega) (by omega) (by omega), nI_l (by omega), lN_mul, kI_m]
    obtain ⟨w', h1, h2, h3⟩ := ih (l / B) (a * wt (l % B)) n (sI w 138 c (nI (l % B))) (e0 _) (e7 _) hw3 (by omega) (by omega) (by omega)
    refine ⟨w', by rw [h1, tw, Nat.mul_assoc], fun i hi => ?_, fun p hp => ?_⟩
    · by_cases z : i = c
      · subst z
        rw [h3 i (by omega), e8]
        simp [tg]
      · rw [h2 i (by omega)]
        simp [tg, z]
    · rw [h3 p (by omega)]
      simp [gI_sI]
      intro z
      omega
theorem layGlances {B : Nat} {wt : Nat → Nat} (hB0 : 1 ≤ B) (hB5 : B ≤ 5) {g l : Nat} {w : GW} (hB : gI w 133 0 = nI B) (hw : ∀ b, b < B → gI w 133 (7 + b) = nI (wt b)) (hw3 : ∀ b, wt b ≤ 3) (hg : g ≤ 3) (hl : l < 1000) : ∃ w', f_X9_layGlances (nI l) (nI g) w = some (lN (tw B wt g l), w') ∧ GL w' (tg B g l) g := by
  rw [f_X9_layGlances, show (1 : Int64) = lN 1 from rfl]
  obtain ⟨w', h1, h2, -⟩ := layGlances_eq hB0 hB5 g l 1 fu w hB hw hw3 hg hl (fu_gt (by omega))
  refine ⟨w', ?_, h2⟩
  rw [Nat.one_mul] at h1
  exact h1
theorem glancesOf_eq {w : GW} {B g : Nat} (hB : gI w 133 0 = nI B) (hB5 : B ≤ 5) (hg : g ≤ 3) : ∀ d i n a, i + d = g → d < n → f_X9_glancesOf_4 n (nI g) (nI a) (nI i) w = some (nI (a * B ^ d), w) := by
  intro d
  induction d with
  | zero =>
    intro i n a hi hn
    obtain ⟨n, rfl⟩ : ∃ m9, n = m9 + 1 := ⟨n - 1, by omega⟩
    rw [f_X9_glancesOf_4, if_pos ((le_nI (by omega) (by omega)).mpr (by omega)), Nat.pow_zero, Nat.mul_one]
  | succ d ih =>
    intro i n a hi hn
    obtain ⟨n, rfl⟩ : ∃ m9, n = m9 + 1 := ⟨n - 1, by omega⟩
    rw [f_X9_glancesOf_4, if_neg (fun q9 => absurd ((le_nI (by omega) (by omega)).mp q9) (by omega)), if_pos (show inb _ _ from by decide), show ix (0 : Int32) = 0 from by decide, hB, pk_mul, nI_1, ih (i + 1) n _ (by omega) (by omega), Nat.pow_succ, Nat.mul_assoc, Nat.mul_comm B]
theorem glancesOf {w : GW} {B g : Nat} (hB : gI w 133 0 = nI B) (hB5 : B ≤ 5) (hg : g ≤ 3) : f_X9_glancesOf (nI g) w = some (nI (B ^ g), w) := by
  rw [f_X9_glancesOf, show (1 : Int32) = nI 1 from rfl, show (0 : Int32) = nI 0 from rfl, glancesOf_eq hB hB5 hg g 0 fu 1 (by omega) (fu_gt (by omega)), Nat.one_mul]
theorem allWeights_eq {w : GW} {B : Nat} {wt : Nat → Nat} (hB : gI w 133 0 = nI B) (hB5 : B ≤ 5) (hw : ∀ b, b < B → gI w 133 (7 + b) = nI (wt b)) : ∀ d i n, i + d = B → d < n → f_X9_allWeights_4 n (nI (sm i wt)) (nI i) w = some (nI (sm B wt), w) := by
  intro d
  induction d with
  | zero =>
    intro i n hi hn
    obtain ⟨n, rfl⟩ : ∃ m9, n = m9 + 1 := ⟨n - 1, by omega⟩
    have : i = B := by omega
    subst this
    rw [f_X9_allWeights_4, if_pos (show inb _ _ from by decide), show ix (0 : Int32) = 0 from by decide, hB, if_pos ((le_nI (by omega) (by omega)).mpr (by omega))]
  | succ d ih =>
    intro i n hi hn
    obtain ⟨n, rfl⟩ : ∃ m9, n = m9 + 1 := ⟨n - 1, by omega⟩
    rw [f_X9_allWeights_4, if_pos (show inb _ _ from by decide), show ix (0 : Int32) = 0 from by decide, hB, if_neg (fun q9 => absurd ((le_nI (by omega) (by omega)).mp q9) (by omega)), show (7 : Int32) = nI 7 from rfl, nI_add, if_pos ((inb_nI (by omega)).mpr (by omega)), ix_nI (by omega), hw i (by omega), nI_add, nI_1]
    exact ih (i + 1) n (by omega) (by omega)
theorem allWeights {w : GW} {B : Nat} {wt : Nat → Nat} (hB : gI w 133 0 = nI B) (hB5 : B ≤ 5) (hw : ∀ b, b < B → gI w 133 (7 + b) = nI (wt b)) : f_X9_allWeights w = some (nI (sm B wt), w) := by
  rw [f_X9_allWeights, show (0 : Int32) = nI 0 from rfl]
  exact allWeights_eq hB hB5 hw B 0 fu (by omega) (fu_gt (by omega))
/-- by how much the ways of glances are multiplied, that ties by lot divide evenly -/
def tiO (g : Nat) : Nat := if g = 3 then 6 else g
theorem tiesOf {w : GW} {g : Nat} (hg : g < 1000) : f_X9_tiesOf (nI g) w = some (lN (tiO g), w) := by
  rw [f_X9_tiesOf, show (3 : Int32) = nI 3 from rfl]
  unfold tiO
  by_cases h : g = 3
  · rw [if_pos ((eq_nI (by omega) (by omega)).mpr (by omega)), if_pos h]; rfl
  · rw [if_neg (fun q9 => absurd ((eq_nI (by omega) (by omega)).mp q9) (by omega)), if_neg h, nI_l (by omega)]
theorem waysOf_eq {w : GW} {B r g : Nat} {wt : Nat → Nat} (hB : gI w 133 0 = nI B) (hB5 : B ≤ 5) (hw : ∀ b, b < B → gI w 133 (7 + b) = nI (wt b)) (hw3 : ∀ b, wt b ≤ 3) (hg : g ≤ 3) (hr : r ≤ 4) : ∀ d i n a, i + d = g → d < n → f_X9_waysOf_5 n (nI r) (nI g) (lN a) (nI i) w = some (lN (a * sm B wt ^ d * (if r = 0 then tiO g else 1)), w) := by
  have hW : sm B wt < 2147483648 := by
    have := sm_le (n := B) (g := fun _ => 3) (fun i _ => hw3 i)
    have h2 : sm B (fun _ => 3) ≤ 15 := by
      rcases (show B = 0 ∨ B = 1 ∨ B = 2 ∨ B = 3 ∨ B = 4 ∨ B = 5 by omega) with rfl | rfl | rfl | rfl | rfl | rfl <;> decide
    omega
  intro d
  induction d with
  | zero =>
    intro i n a hi hn
    obtain ⟨n, rfl⟩ : ∃ m9, n = m9 + 1 := ⟨n - 1, by omega⟩
    rw [f_X9_waysOf_5, if_pos ((le_nI (by omega) (by omega)).mpr (by omega)), Nat.pow_zero, Nat.mul_one]
    by_cases h : r = 0
    · rw [if_pos ((eq0 (by omega)).mpr h), tiesOf (by omega), bind_some', if_pos h, lN_mul]
    · rw [if_neg (fun q => h ((eq0 (by omega)).mp q)), if_neg h, Nat.mul_one]
  | succ d ih =>
    intro i n a hi hn
    obtain ⟨n, rfl⟩ : ∃ m9, n = m9 + 1 := ⟨n - 1, by omega⟩
    rw [f_X9_waysOf_5, if_neg (fun q9 => absurd ((le_nI (by omega) (by omega)).mp q9) (by omega)), allWeights hB hB5 hw, bind_some', nI_l (by omega), lN_mul, nI_1, ih (i + 1) n _ (by omega) (by omega), Nat.pow_succ, Nat.mul_assoc a, Nat.mul_comm (sm B wt)]
theorem waysOf {w : GW} {B r g : Nat} {wt : Nat → Nat} (hB : gI w 133 0 = nI B) (hB5 : B ≤ 5) (hw : ∀ b, b < B → gI w 133 (7 + b) = nI (wt b)) (hw3 : ∀ b, wt b ≤ 3) (hg : g ≤ 3) (hr : r ≤ 4) : f_X9_waysOf (nI r) (nI g) w = some (lN (sm B wt ^ g * (if r = 0 then tiO g else 1)), w) := by
  rw [f_X9_waysOf, show (1 : Int64) = lN 1 from rfl, show (0 : Int32) = nI 0 from rfl, waysOf_eq hB hB5 hw hw3 hg hr g 0 fu 1 (by omega) (fu_gt (by omega)), Nat.one_mul]
