/-! led: the class throws where the reference notes it -/
noncomputable def f_X8_led_4 : Nat → Int32 → Int32 → Int32 → GW → Option (Option Int32 × GW)
  | 0, _, _, _, _ => none
  | n9 + 1, x1, x2, x3, w =>
    if (gI w (fxH (gR w 0)) 1) ≤ x3 then some (none, w)
    else if inb x3 5 then
      if (gI w 122 (ix x3)) = 0 then
        if x2 = x1 then some (some x3, w) else f_X8_led_4 n9 x1 (x2 + 1) (x3 + 1) w
      else f_X8_led_4 n9 x1 x2 (x3 + 1) w
    else none
noncomputable def f_X8_led (x1 : Int32) (w : GW) : Option (Option Int32 × GW) := f_X8_led_4 fu x1 0 0 w
/-- both: the class's answer or its throw, the reference's answer and its note -/
def LDg (o : Option Int32) (w : GW) (f9 : Option (Int32 × GW)) : Prop := match o with
  | none => ∃ v, f9 = some (v, sI w 130 0 1)
  | some b => f9 = some (b, sI w 130 0 0)
theorem led_loop {w : GW} {B : Nat} {u : Nat → Nat} (hB : B ≤ 5) (h1 : gI w (fxH (gR w 0)) 1 = nI B) (h122 : ∀ b, b < 5 → gI w 122 b = nI (u b)) (hu : ∀ b, b < 5 → u b < 1000) (h14 : gI w 130 14 = 1) (h133 : gI w 133 0 = nI B) (h135 : ∀ b, b < 5 → gI w 135 b = nI (u b)) {x : Int32} : ∀ d i m k y, i + d = B → d < m → d < k → ∃ o, f_X8_led_4 m x y (nI i) w = some (o, w) ∧ LDg o w (f_X9_led_4 k x y (nI i) w) := by
  intro d
  induction d with
  | zero =>
    intro i m k y hi hm hk
    obtain ⟨m, rfl⟩ : ∃ m9, m = m9 + 1 := ⟨m - 1, by omega⟩
    obtain ⟨k, rfl⟩ : ∃ m9, k = m9 + 1 := ⟨k - 1, by omega⟩
    have : i = B := by omega
    subst this
    refine ⟨none, ?_, 0, ?_⟩
    · rw [f_X8_led_4, h1, if_pos ((le_nI (by omega) (by omega)).mpr (by omega))]
    · rw [f_X9_led_4, h14, if_neg one_ne, if_pos (show inb _ _ from by decide), show ix (0 : Int32) = 0 from by decide, h133, if_pos ((le_nI (by omega) (by omega)).mpr (by omega)), f_X9_led_54]
  | succ d ih =>
    intro i m k y hi hm hk
    obtain ⟨m, rfl⟩ : ∃ m9, m = m9 + 1 := ⟨m - 1, by omega⟩
    obtain ⟨k, rfl⟩ : ∃ m9, k = m9 + 1 := ⟨k - 1, by omega⟩
    have hi5 : i < 5 := by omega
    have hui := hu i hi5
    have E8 : f_X8_led_4 (m + 1) x y (nI i) w = if nI (u i) = 0 then (if y = x then some (some (nI i), w) else f_X8_led_4 m x (y + 1) (nI (i + 1)) w) else f_X8_led_4 m x y (nI (i + 1)) w := by
      rw [f_X8_led_4, h1, if_neg (fun q9 => absurd ((le_nI (by omega) (by omega)).mp q9) (by omega)), if_pos ((inb_nI (by omega)).mpr (by omega)), ix_nI (by omega), h122 i hi5, nI_1]
    have E9 : f_X9_led_4 (k + 1) x y (nI i) w = if nI (u i) ≤ 0 then (if y = x then some (nI i, sI w 130 0 0) else f_X9_led_4 k x (y + 1) (nI (i + 1)) w) else f_X9_led_4 k x y (nI (i + 1)) w := by
      rw [f_X9_led_4, h14, if_neg one_ne, if_pos (show inb _ _ from by decide), show ix (0 : Int32) = 0 from by decide, h133, if_neg (fun q9 => absurd ((le_nI (by omega) (by omega)).mp q9) (by omega)), if_pos ((inb_nI (by omega)).mpr (by omega)), ix_nI (by omega), h135 i hi5, f_X9_led_48, f_X9_led_48, nI_1]
    rw [E8, E9]
    by_cases z : u i = 0
    · rw [if_pos ((eq0 (by omega)).mpr z), if_pos ((le0 (by omega)).mpr z)]
      by_cases q : y = x
      · rw [if_pos q, if_pos q]
        exact ⟨some (nI i), rfl, rfl⟩
      · rw [if_neg q, if_neg q]
        exact ih (i + 1) m k (y + 1) (by omega) (by omega) (by omega)
    · rw [if_neg (fun q => z ((eq0 (by omega)).mp q)), if_neg (fun q => z ((le0 (by omega)).mp q))]
      exact ih (i + 1) m k y (by omega) (by omega) (by omega)
theorem s_led {w : GW} (J : JJ w) (x : Int32) : ∃ o, f_X8_led x w = some (o, w) ∧ ∃ v w2, f_X9_led x w = some (v, w2) ∧ JJ w2 ∧ match o with
    | none => gI w2 130 0 = 1
    | some b => gI w2 130 0 = 0 ∧ v = b := by
  have fin : ∀ o, f_X8_led x w = some (o, w) → LDg o w (f_X9_led x w) → ∃ o, f_X8_led x w = some (o, w) ∧ ∃ v w2, f_X9_led x w = some (v, w2) ∧ JJ w2 ∧ match o with
    | none => gI w2 130 0 = 1
    | some b => gI w2 130 0 = 0 ∧ v = b := by
    intro o h1 h2
    cases o with
    | none =>
      obtain ⟨v, h⟩ := h2
      exact ⟨none, h1, v, _, h, J.th 1, gI_same _ _ _ _⟩
    | some b => exact ⟨some b, h1, b, _, h2, J.th 0, gI_same _ _ _ _, rfl⟩
  rcases J.2 with ⟨σ, d, mk, ms, S, C, M⟩ | H
  · have hs := S.1
    obtain ⟨hu8, _⟩ := S.2.1.u8 hs
    have hB5 := hs.1.2.1
    obtain ⟨o, a, b⟩ := led_loop (x := x) hB5 C.1.2.1.1 C.2.2.1.2.2.2.2.2 (fun b _ => by have := hu8 b; omega) M.1.1 M.1.2.1.1 (fun b hb => by have := M.2.1.1 b hb; rw [Nat.zero_add] at this; exact this) (pB (zE σ)) 0 fu fu 0 (by omega) (fu_gt (by omega)) (fu_gt (by omega))
    exact fin o (by rw [f_X8_led, show (0 : Int32) = nI 0 from rfl]; exact a) (by rw [f_X9_led, show (0 : Int32) = nI 0 from rfl]; exact b)
  · obtain ⟨m, hm⟩ : ∃ m, fu = m + 1 := ⟨fu - 1, by have : 0 < fu := (fu_gt (by omega)); omega⟩
    refine fin none ?_ ⟨0, ?_⟩
    · rw [f_X8_led, hm, f_X8_led_4, H.1 1 (by omega), if_pos (by decide)]
    · rw [f_X9_led, hm, f_X9_led_4, H.2.1, if_pos rfl, f_X9_led_54]
