/-! the world of the whole system: every object and array has a place; what they hold is two functions of place and slot, and six references that change -/
abbrev GW : Type := (Nat → Nat → Int32) × (Nat → Nat → Int64) × (Nat → Nat)
def gI (w : GW) (k j : Nat) : Int32 := w.1 k j
def gL (w : GW) (k j : Nat) : Int64 := w.2.1 k j
def gR (w : GW) (j : Nat) : Nat := w.2.2 j
def sI (w : GW) (k j : Nat) (v : Int32) : GW := (fun a b => if a = k ∧ b = j then v else w.1 a b, w.2.1, w.2.2)
def sL (w : GW) (k j : Nat) (v : Int64) : GW := (w.1, fun a b => if a = k ∧ b = j then v else w.2.1 a b, w.2.2)
def sR (w : GW) (j v : Nat) : GW := (w.1, w.2.1, fun a => if a = j then v else w.2.2 a)
abbrev GG : Type := va_G × (Nat → Nat) × (Nat → ClassId) × (Nat → Prop) × (Nat → Nat) × (Nat → Nat) × Nat
def gD (G : GG) : va_G := G.1
def gad (G : GG) : Nat → Nat := G.2.1
def gdA (G : GG) : Nat → ClassId := G.2.2.1
def gA (G : GG) : Nat → Prop := G.2.2.2.1
def gK (G : GG) : Nat → Nat := G.2.2.2.2.1
def gV (G : GG) : Nat → Nat := G.2.2.2.2.2.1
def gF (G : GG) : Nat := G.2.2.2.2.2.2
def kdT : List Nat := [8, 7, 11, 6, 3, 10, 10, 31, 33, 4, 4, 4, 4, 4, 4, 26, 35, 10, 10, 10, 10, 10, 10, 10, 10, 3, 10, 10, 31, 33, 4, 4, 4, 4, 4, 4, 26, 35, 10, 10, 10, 10, 10, 10, 10, 10, 3, 10, 10, 31, 33, 4, 4, 4, 4, 4, 4, 26, 35, 10, 10, 10, 10, 10, 10, 10, 10, 1, 4, 22, 12, 23, 0, 34, 25, 25, 25, 25, 25, 25, 25, 25, 25, 25, 25, 25, 25, 25, 25, 25, 25, 25, 25, 25, 25, 25, 25, 25, 25, 25, 25, 25, 25, 25, 25, 25, 25, 25, 25, 25, 30, 24, 13, 10, 10, 10, 4, 5, 21, 5, 21, 2, 10, 32, 2, 10, 2, 10, 2, 10, 9, 11, 14, 15, 15, 16, 17, 10, 12, 18, 18, 19, 27, 27, 20, 20, 20, 28, 26, 29]
def kd (k : Nat) : Nat := kdT.getD k 99
def arT (c : Nat) : Nat × Nat := [(9, 0), (9, 0), (9, 0), (9, 0), (9, 0), (9, 0), (9, 0), (9, 0), (9, 0), (9, 0), (0, 5), (0, 900), (0, 3), (0, 1287), (0, 8), (0, 135), (0, 9), (0, 27), (0, 8000), (0, 16384), (0, 60), (1, 18), (1, 32), (1, 30), (1, 7722), (1, 1287), (1, 6), (1, 8000), (1, 48), (1, 1), (2, 36), (2, 5), (3, 3), (4, 6), (5, 36), (6, 8)].getD c (9, 0)
def fxH (k : Nat) : Nat := if kd k = 3 then k else 4
def fxP (k : Nat) : Nat := if kd k = 4 then k else 68
theorem kd_lt {k c : Nat} (h : kd k = c) (hc : c ≠ 99) : k < 150 := by
  rcases Nat.lt_or_ge k 150 with q | q
  · exact q
  · exact absurd (h.symm.trans (by unfold kd; rw [List.getD_eq_getElem?_getD, List.getElem?_eq_none (by exact q)]; rfl)) hc
theorem kd_H (k : Nat) : kd (fxH k) = 3 := by
  unfold fxH
  by_cases h : kd k = 3
  · rw [if_pos h]; exact h
  · rw [if_neg h]; decide
theorem kd_P (k : Nat) : kd (fxP k) = 4 := by
  unfold fxP
  by_cases h : kd k = 4
  · rw [if_pos h]; exact h
  · rw [if_neg h]; decide
theorem fxH_of {k : Nat} (h : kd k = 3) : fxH k = k := if_pos h
theorem fxP_of {k : Nat} (h : kd k = 4) : fxP k = k := if_pos h
theorem kd_3_1 {k : Nat} (h : kd k = 3) : kd (k + 1) = 10 := (show ∀ k, k < 150 → kd k = 3 → kd (k + 1) = 10 from by decide +kernel) k (kd_lt h (by decide)) h
theorem kd_3_2 {k : Nat} (h : kd k = 3) : kd (k + 2) = 10 := (show ∀ k, k < 150 → kd k = 3 → kd (k + 2) = 10 from by decide +kernel) k (kd_lt h (by decide)) h
theorem kd_3_3 {k : Nat} (h : kd k = 3) : kd (k + 3) = 31 := (show ∀ k, k < 150 → kd k = 3 → kd (k + 3) = 31 from by decide +kernel) k (kd_lt h (by decide)) h
theorem kd_3_4 {k : Nat} (h : kd k = 3) : kd (k + 4) = 33 := (show ∀ k, k < 150 → kd k = 3 → kd (k + 4) = 33 from by decide +kernel) k (kd_lt h (by decide)) h
theorem kd_3_11 {k : Nat} (h : kd k = 3) : kd (k + 11) = 26 := (show ∀ k, k < 150 → kd k = 3 → kd (k + 11) = 26 from by decide +kernel) k (kd_lt h (by decide)) h
theorem kd_3_12 {k : Nat} (h : kd k = 3) : kd (k + 12) = 35 := (show ∀ k, k < 150 → kd k = 3 → kd (k + 12) = 35 from by decide +kernel) k (kd_lt h (by decide)) h
theorem kd_2_1 {k : Nat} (h : kd k = 2) : kd (k + 1) = 10 := (show ∀ k, k < 150 → kd k = 2 → kd (k + 1) = 10 from by decide +kernel) k (kd_lt h (by decide)) h
theorem kd_5_1 {k : Nat} (h : kd k = 5) : kd (k + 1) = 21 := (show ∀ k, k < 150 → kd k = 5 → kd (k + 1) = 21 from by decide +kernel) k (kd_lt h (by decide)) h
theorem kd_el32 {k : Nat} (h : kd k = 32) {i : Nat} (hi : i < 3) : kd (k + 1 + 2 * i) = 2 := (show ∀ k, k < 150 → kd k = 32 → ∀ i, i < 3 → kd (k + 1 + 2 * i) = 2 from by decide +kernel) k (kd_lt h (by decide)) h i hi
theorem kd_el33 {k : Nat} (h : kd k = 33) {i : Nat} (hi : i < 6) : kd (k + 1 + i) = 4 := (show ∀ k, k < 150 → kd k = 33 → ∀ i, i < 6 → kd (k + 1 + i) = 4 from by decide +kernel) k (kd_lt h (by decide)) h i hi
theorem kd_el34 {k : Nat} (h : kd k = 34) {i : Nat} (hi : i < 36) : kd (k + 1 + i) = 25 := (show ∀ k, k < 150 → kd k = 34 → ∀ i, i < 36 → kd (k + 1 + i) = 25 from by decide +kernel) k (kd_lt h (by decide)) h i hi
theorem kd_el35 {k : Nat} (h : kd k = 35) {i : Nat} (hi : i < 8) : kd (k + 1 + i) = 10 := (show ∀ k, k < 150 → kd k = 35 → ∀ i, i < 8 → kd (k + 1 + i) = 10 from by decide +kernel) k (kd_lt h (by decide)) h i hi
def fX0 (ad : Nat → Nat) (w : GW) (k : Nat) : List Value := [.ref (ad 73), .ref (ad 110), .ref (ad 111), .ref (ad 112), .ref (ad 113), .ref (ad 114), .ref (ad 115), .ref (ad 67), .ref (ad (fxH (gR w 3))), .long (gL w k 9), .long (gL w k 10)]
def fX1 (ad : Nat → Nat) (w : GW) (k : Nat) : List Value := [.ref (ad 69), .ref (ad 70), .ref (ad 71), .ref (ad (fxH (gR w 4))), .ref (ad (fxP (gR w 5)))]
def fX2 (ad : Nat → Nat) (w : GW) (k : Nat) : List Value := [.int (gI w k 0), .int (gI w k 1), .int (gI w k 2), .int (gI w k 3), .int (gI w k 4), .ref (ad (k + 1))]
def fX3 (ad : Nat → Nat) (w : GW) (k : Nat) : List Value := [.int (gI w k 0), .int (gI w k 1), .int (gI w k 2), .int (gI w k 3), .int (gI w k 4), .int (gI w k 5), .int (gI w k 6), .int (gI w k 7), .int (gI w k 8), .int (gI w k 9), .ref (ad (k + 1)), .ref (ad (k + 2)), .ref (ad (k + 3)), .ref (ad (k + 4)), .ref (ad (k + 11)), .ref (ad (k + 12))]
def fX4 (ad : Nat → Nat) (w : GW) (k : Nat) : List Value := [.int (gI w k 0), .int (gI w k 1), .int (gI w k 2)]
def fX5 (ad : Nat → Nat) (w : GW) (k : Nat) : List Value := [.ref (ad (k + 1))]
def fX6 (ad : Nat → Nat) (w : GW) (k : Nat) : List Value := [.ref (ad 1), .ref (ad (fxH (gR w 2))), .int (gI w k 2), .int (gI w k 3), .int (gI w k 4)]
def fX7 (ad : Nat → Nat) (w : GW) (k : Nat) : List Value := [.ref (ad 2), .int (gI w k 1), .int (gI w k 2), .int (gI w k 3), .int (gI w k 4), .int (gI w k 5), .int (gI w k 6), .long (gL w k 7)]
def fX8 (ad : Nat → Nat) (w : GW) (k : Nat) : List Value := [.ref (ad 1), .ref (ad 3), .ref (ad 72), .ref (ad 67), .ref (ad 116), .ref (ad 117), .ref (ad 119), .ref (ad 121), .ref (ad 123), .ref (ad (fxH (gR w 0))), .ref (ad (fxH (gR w 1))), .int (gI w k 11), .int (gI w k 12)]
def fX9 (ad : Nat → Nat) (w : GW) (k : Nat) : List Value := [.int (gI w k 0), .ref (ad 131), .int (gI w k 2), .int (gI w k 3), .int (gI w k 4), .int (gI w k 5), .int (gI w k 6), .int (gI w k 7), .int (gI w k 8), .int (gI w k 9), .int (gI w k 10), .int (gI w k 11), .ref (ad 132), .int (gI w k 13), .int (gI w k 14), .ref (ad 133), .ref (ad 134), .ref (ad 135), .ref (ad 136), .int (gI w k 19), .ref (ad 137), .ref (ad 138), .int (gI w k 22), .ref (ad 139), .ref (ad 140), .ref (ad 141), .ref (ad 142), .ref (ad 143), .int (gI w k 28), .int (gI w k 29), .long (gL w k 30), .ref (ad 144), .ref (ad 145), .ref (ad 146), .long (gL w k 34), .ref (ad 147), .ref (ad 148), .long (gL w k 37), .long (gL w k 38), .int (gI w k 39)]
def arE (ad : Nat → Nat) (w : GW) (k t : Nat) : (Nat → Int32) ⊕ (Nat → Int64) ⊕ (Nat → UInt32) ⊕ (Nat → UInt64) ⊕ (Nat → Option Nat) := match t with
  | 0 => .inl (gI w k)
  | 1 => .inr (.inl (gL w k))
  | 2 => .inl (gI w k)
  | 3 => .inr (.inr (.inr (.inr (fun i => some (ad (k + 1 + 2 * i))))))
  | 4 => .inr (.inr (.inr (.inr (fun i => some (ad (k + 1 + i))))))
  | 5 => .inr (.inr (.inr (.inr (fun i => some (ad (k + 1 + i))))))
  | _ => .inr (.inr (.inr (.inr (fun i => some (ad (k + 1 + i))))))
def oc (ad : Nat → Nat) (dA : Nat → ClassId) (w : GW) (k : Nat) : va_E := match kd k with
  | 0 => .inr (0, fX0 ad w k)
  | 1 => .inr (1, fX1 ad w k)
  | 2 => .inr (2, fX2 ad w k)
  | 3 => .inr (3, fX3 ad w k)
  | 4 => .inr (4, fX4 ad w k)
  | 5 => .inr (5, fX5 ad w k)
  | 6 => .inr (6, fX6 ad w k)
  | 7 => .inr (7, fX7 ad w k)
  | 8 => .inr (8, fX8 ad w k)
  | 9 => .inr (9, fX9 ad w k)
  | c => .inl (dA (arT c).1, (arT c).2, arE ad w k (arT c).1)
def GP (ad : Nat → Nat) (dA : Nat → ClassId) (w : GW) : va_W := (List.range 150).map (fun k => (ad k, oc ad dA w k))
theorem GP_at (ad : Nat → Nat) (dA : Nat → ClassId) (w : GW) {k : Nat} (h : k < 150) : (GP ad dA w)[k]? = some (ad k, oc ad dA w k) := by
  unfold GP
  rw [List.getElem?_map, List.getElem?_range h]
  rfl
theorem GP_len (ad : Nat → Nat) (dA : Nat → ClassId) (w : GW) : (GP ad dA w).length = 150 := by simp [GP]
theorem GP_set {ad : Nat → Nat} {dA : Nat → ClassId} {w w2 : GW} {k : Nat} {e : va_E} (h : k < 150) (he : oc ad dA w2 k = e) (ho : ∀ j, j ≠ k → oc ad dA w2 j = oc ad dA w j) : (GP ad dA w).set k (ad k, e) = GP ad dA w2 := by
  apply List.ext_getElem?
  intro j
  by_cases hj : j = k
  · subst hj
    rw [List.getElem?_set_self (by rw [GP_len]; exact h), GP_at ad dA w2 h, he]
  · rw [List.getElem?_set_ne (Ne.symm hj)]
    by_cases hl : j < 150
    · rw [GP_at ad dA w hl, GP_at ad dA w2 hl, ho j hj]
    · rw [List.getElem?_eq_none (by rw [GP_len]; omega), List.getElem?_eq_none (by rw [GP_len]; omega)]
theorem oc_sI {ad : Nat → Nat} {dA : Nat → ClassId} {w : GW} {k j : Nat} {v : Int32} : ∀ a, a ≠ k → oc ad dA (sI w k j v) a = oc ad dA w a := by
  intro a ha
  have e : ∀ b, gI (sI w k j v) a b = gI w a b := fun b => if_neg (fun q => ha q.1)
  have e2 : gI (sI w k j v) a = gI w a := funext e
  have e3 : ∀ b, gR (sI w k j v) b = gR w b := fun _ => rfl
  have e4 : gL (sI w k j v) = gL w := rfl
  unfold oc arE fX0 fX1 fX2 fX3 fX4 fX5 fX6 fX7 fX8 fX9
  simp only [e, e2, e3, e4]
theorem oc_sL {ad : Nat → Nat} {dA : Nat → ClassId} {w : GW} {k j : Nat} {v : Int64} : ∀ a, a ≠ k → oc ad dA (sL w k j v) a = oc ad dA w a := by
  intro a ha
  have e : ∀ b, gL (sL w k j v) a b = gL w a b := fun b => if_neg (fun q => ha q.1)
  have e2 : gL (sL w k j v) a = gL w a := funext e
  have e3 : ∀ b, gR (sL w k j v) b = gR w b := fun _ => rfl
  have e4 : gI (sL w k j v) = gI w := rfl
  unfold oc arE fX0 fX1 fX2 fX3 fX4 fX5 fX6 fX7 fX8 fX9
  simp only [e, e2, e3, e4]
theorem kd_own0 : ∀ a, kd a = 8 → a = 0 := fun a h => (show ∀ k, k < 150 → kd k = 8 → k = 0 from by decide +kernel) a (kd_lt h (by decide)) h
theorem oc_sR0 {ad : Nat → Nat} {dA : Nat → ClassId} {w : GW} {v : Nat} : ∀ a, a ≠ 0 → oc ad dA (sR w 0 v) a = oc ad dA w a := by
  intro a ha
  have hk : kd a ≠ 8 := fun h => ha (kd_own0 a h)
  have e1 : gI (sR w 0 v) = gI w := rfl
  have e4 : gL (sR w 0 v) = gL w := rfl
  have g1 : gR (sR w 0 v) 1 = gR w 1 := by show (if (1 : Nat) = 0 then v else w.2.2 1) = w.2.2 1; rw [if_neg (by decide)]
  have g2 : gR (sR w 0 v) 2 = gR w 2 := by show (if (2 : Nat) = 0 then v else w.2.2 2) = w.2.2 2; rw [if_neg (by decide)]
  have g3 : gR (sR w 0 v) 3 = gR w 3 := by show (if (3 : Nat) = 0 then v else w.2.2 3) = w.2.2 3; rw [if_neg (by decide)]
  have g4 : gR (sR w 0 v) 4 = gR w 4 := by show (if (4 : Nat) = 0 then v else w.2.2 4) = w.2.2 4; rw [if_neg (by decide)]
  have g5 : gR (sR w 0 v) 5 = gR w 5 := by show (if (5 : Nat) = 0 then v else w.2.2 5) = w.2.2 5; rw [if_neg (by decide)]
  unfold oc
  split
  · simp only [fX0, e1, e4, g1, g2, g3, g4, g5]
  · simp only [fX1, e1, e4, g1, g2, g3, g4, g5]
  · simp only [fX2, e1, e4, g1, g2, g3, g4, g5]
  · simp only [fX3, e1, e4, g1, g2, g3, g4, g5]
  · simp only [fX4, e1, e4, g1, g2, g3, g4, g5]
  · simp only [fX5, e1, e4, g1, g2, g3, g4, g5]
  · simp only [fX6, e1, e4, g1, g2, g3, g4, g5]
  · simp only [fX7, e1, e4, g1, g2, g3, g4, g5]
  · next h => exact absurd h hk
  · simp only [fX9, e1, e4, g1, g2, g3, g4, g5]
  · unfold arE; simp only [e1, e4]
theorem kd_own1 : ∀ a, kd a = 8 → a = 0 := fun a h => (show ∀ k, k < 150 → kd k = 8 → k = 0 from by decide +kernel) a (kd_lt h (by decide)) h
theorem oc_sR1 {ad : Nat → Nat} {dA : Nat → ClassId} {w : GW} {v : Nat} : ∀ a, a ≠ 0 → oc ad dA (sR w 1 v) a = oc ad dA w a := by
  intro a ha
  have hk : kd a ≠ 8 := fun h => ha (kd_own1 a h)
  have e1 : gI (sR w 1 v) = gI w := rfl
  have e4 : gL (sR w 1 v) = gL w := rfl
  have g0 : gR (sR w 1 v) 0 = gR w 0 := by show (if (0 : Nat) = 1 then v else w.2.2 0) = w.2.2 0; rw [if_neg (by decide)]
  have g2 : gR (sR w 1 v) 2 = gR w 2 := by show (if (2 : Nat) = 1 then v else w.2.2 2) = w.2.2 2; rw [if_neg (by decide)]
  have g3 : gR (sR w 1 v) 3 = gR w 3 := by show (if (3 : Nat) = 1 then v else w.2.2 3) = w.2.2 3; rw [if_neg (by decide)]
  have g4 : gR (sR w 1 v) 4 = gR w 4 := by show (if (4 : Nat) = 1 then v else w.2.2 4) = w.2.2 4; rw [if_neg (by decide)]
  have g5 : gR (sR w 1 v) 5 = gR w 5 := by show (if (5 : Nat) = 1 then v else w.2.2 5) = w.2.2 5; rw [if_neg (by decide)]
  unfold oc
  split
  · simp only [fX0, e1, e4, g0, g2, g3, g4, g5]
  · simp only [fX1, e1, e4, g0, g2, g3, g4, g5]
  · simp only [fX2, e1, e4, g0, g2, g3, g4, g5]
  · simp only [fX3, e1, e4, g0, g2, g3, g4, g5]
  · simp only [fX4, e1, e4, g0, g2, g3, g4, g5]
  · simp only [fX5, e1, e4, g0, g2, g3, g4, g5]
  · simp only [fX6, e1, e4, g0, g2, g3, g4, g5]
  · simp only [fX7, e1, e4, g0, g2, g3, g4, g5]
  · next h => exact absurd h hk
  · simp only [fX9, e1, e4, g0, g2, g3, g4, g5]
  · unfold arE; simp only [e1, e4]
theorem kd_own2 : ∀ a, kd a = 6 → a = 3 := fun a h => (show ∀ k, k < 150 → kd k = 6 → k = 3 from by decide +kernel) a (kd_lt h (by decide)) h
theorem oc_sR2 {ad : Nat → Nat} {dA : Nat → ClassId} {w : GW} {v : Nat} : ∀ a, a ≠ 3 → oc ad dA (sR w 2 v) a = oc ad dA w a := by
  intro a ha
  have hk : kd a ≠ 6 := fun h => ha (kd_own2 a h)
  have e1 : gI (sR w 2 v) = gI w := rfl
  have e4 : gL (sR w 2 v) = gL w := rfl
  have g0 : gR (sR w 2 v) 0 = gR w 0 := by show (if (0 : Nat) = 2 then v else w.2.2 0) = w.2.2 0; rw [if_neg (by decide)]
  have g1 : gR (sR w 2 v) 1 = gR w 1 := by show (if (1 : Nat) = 2 then v else w.2.2 1) = w.2.2 1; rw [if_neg (by decide)]
  have g3 : gR (sR w 2 v) 3 = gR w 3 := by show (if (3 : Nat) = 2 then v else w.2.2 3) = w.2.2 3; rw [if_neg (by decide)]
  have g4 : gR (sR w 2 v) 4 = gR w 4 := by show (if (4 : Nat) = 2 then v else w.2.2 4) = w.2.2 4; rw [if_neg (by decide)]
  have g5 : gR (sR w 2 v) 5 = gR w 5 := by show (if (5 : Nat) = 2 then v else w.2.2 5) = w.2.2 5; rw [if_neg (by decide)]
  unfold oc
  split
  · simp only [fX0, e1, e4, g0, g1, g3, g4, g5]
  · simp only [fX1, e1, e4, g0, g1, g3, g4, g5]
  · simp only [fX2, e1, e4, g0, g1, g3, g4, g5]
  · simp only [fX3, e1, e4, g0, g1, g3, g4, g5]
  · simp only [fX4, e1, e4, g0, g1, g3, g4, g5]
  · simp only [fX5, e1, e4, g0, g1, g3, g4, g5]
  · next h => exact absurd h hk
  · simp only [fX7, e1, e4, g0, g1, g3, g4, g5]
  · simp only [fX8, e1, e4, g0, g1, g3, g4, g5]
  · simp only [fX9, e1, e4, g0, g1, g3, g4, g5]
  · unfold arE; simp only [e1, e4]
theorem kd_own3 : ∀ a, kd a = 0 → a = 72 := fun a h => (show ∀ k, k < 150 → kd k = 0 → k = 72 from by decide +kernel) a (kd_lt h (by decide)) h
theorem oc_sR3 {ad : Nat → Nat} {dA : Nat → ClassId} {w : GW} {v : Nat} : ∀ a, a ≠ 72 → oc ad dA (sR w 3 v) a = oc ad dA w a := by
  intro a ha
  have hk : kd a ≠ 0 := fun h => ha (kd_own3 a h)
  have e1 : gI (sR w 3 v) = gI w := rfl
  have e4 : gL (sR w 3 v) = gL w := rfl
  have g0 : gR (sR w 3 v) 0 = gR w 0 := by show (if (0 : Nat) = 3 then v else w.2.2 0) = w.2.2 0; rw [if_neg (by decide)]
  have g1 : gR (sR w 3 v) 1 = gR w 1 := by show (if (1 : Nat) = 3 then v else w.2.2 1) = w.2.2 1; rw [if_neg (by decide)]
  have g2 : gR (sR w 3 v) 2 = gR w 2 := by show (if (2 : Nat) = 3 then v else w.2.2 2) = w.2.2 2; rw [if_neg (by decide)]
  have g4 : gR (sR w 3 v) 4 = gR w 4 := by show (if (4 : Nat) = 3 then v else w.2.2 4) = w.2.2 4; rw [if_neg (by decide)]
  have g5 : gR (sR w 3 v) 5 = gR w 5 := by show (if (5 : Nat) = 3 then v else w.2.2 5) = w.2.2 5; rw [if_neg (by decide)]
  unfold oc
  split
  · next h => exact absurd h hk
  · simp only [fX1, e1, e4, g0, g1, g2, g4, g5]
  · simp only [fX2, e1, e4, g0, g1, g2, g4, g5]
  · simp only [fX3, e1, e4, g0, g1, g2, g4, g5]
  · simp only [fX4, e1, e4, g0, g1, g2, g4, g5]
  · simp only [fX5, e1, e4, g0, g1, g2, g4, g5]
  · simp only [fX6, e1, e4, g0, g1, g2, g4, g5]
  · simp only [fX7, e1, e4, g0, g1, g2, g4, g5]
  · simp only [fX8, e1, e4, g0, g1, g2, g4, g5]
  · simp only [fX9, e1, e4, g0, g1, g2, g4, g5]
  · unfold arE; simp only [e1, e4]
theorem kd_own4 : ∀ a, kd a = 1 → a = 67 := fun a h => (show ∀ k, k < 150 → kd k = 1 → k = 67 from by decide +kernel) a (kd_lt h (by decide)) h
theorem oc_sR4 {ad : Nat → Nat} {dA : Nat → ClassId} {w : GW} {v : Nat} : ∀ a, a ≠ 67 → oc ad dA (sR w 4 v) a = oc ad dA w a := by
  intro a ha
  have hk : kd a ≠ 1 := fun h => ha (kd_own4 a h)
  have e1 : gI (sR w 4 v) = gI w := rfl
  have e4 : gL (sR w 4 v) = gL w := rfl
  have g0 : gR (sR w 4 v) 0 = gR w 0 := by show (if (0 : Nat) = 4 then v else w.2.2 0) = w.2.2 0; rw [if_neg (by decide)]
  have g1 : gR (sR w 4 v) 1 = gR w 1 := by show (if (1 : Nat) = 4 then v else w.2.2 1) = w.2.2 1; rw [if_neg (by decide)]
  have g2 : gR (sR w 4 v) 2 = gR w 2 := by show (if (2 : Nat) = 4 then v else w.2.2 2) = w.2.2 2; rw [if_neg (by decide)]
  have g3 : gR (sR w 4 v) 3 = gR w 3 := by show (if (3 : Nat) = 4 then v else w.2.2 3) = w.2.2 3; rw [if_neg (by decide)]
  have g5 : gR (sR w 4 v) 5 = gR w 5 := by show (if (5 : Nat) = 4 then v else w.2.2 5) = w.2.2 5; rw [if_neg (by decide)]
  unfold oc
  split
  · simp only [fX0, e1, e4, g0, g1, g2, g3, g5]
  · next h => exact absurd h hk
  · simp only [fX2, e1, e4, g0, g1, g2, g3, g5]
  · simp only [fX3, e1, e4, g0, g1, g2, g3, g5]
  · simp only [fX4, e1, e4, g0, g1, g2, g3, g5]
  · simp only [fX5, e1, e4, g0, g1, g2, g3, g5]
  · simp only [fX6, e1, e4, g0, g1, g2, g3, g5]
  · simp only [fX7, e1, e4, g0, g1, g2, g3, g5]
  · simp only [fX8, e1, e4, g0, g1, g2, g3, g5]
  · simp only [fX9, e1, e4, g0, g1, g2, g3, g5]
  · unfold arE; simp only [e1, e4]
theorem kd_own5 : ∀ a, kd a = 1 → a = 67 := fun a h => (show ∀ k, k < 150 → kd k = 1 → k = 67 from by decide +kernel) a (kd_lt h (by decide)) h
theorem oc_sR5 {ad : Nat → Nat} {dA : Nat → ClassId} {w : GW} {v : Nat} : ∀ a, a ≠ 67 → oc ad dA (sR w 5 v) a = oc ad dA w a := by
  intro a ha
  have hk : kd a ≠ 1 := fun h => ha (kd_own5 a h)
  have e1 : gI (sR w 5 v) = gI w := rfl
  have e4 : gL (sR w 5 v) = gL w := rfl
  have g0 : gR (sR w 5 v) 0 = gR w 0 := by show (if (0 : Nat) = 5 then v else w.2.2 0) = w.2.2 0; rw [if_neg (by decide)]
  have g1 : gR (sR w 5 v) 1 = gR w 1 := by show (if (1 : Nat) = 5 then v else w.2.2 1) = w.2.2 1; rw [if_neg (by decide)]
  have g2 : gR (sR w 5 v) 2 = gR w 2 := by show (if (2 : Nat) = 5 then v else w.2.2 2) = w.2.2 2; rw [if_neg (by decide)]
  have g3 : gR (sR w 5 v) 3 = gR w 3 := by show (if (3 : Nat) = 5 then v else w.2.2 3) = w.2.2 3; rw [if_neg (by decide)]
  have g4 : gR (sR w 5 v) 4 = gR w 4 := by show (if (4 : Nat) = 5 then v else w.2.2 4) = w.2.2 4; rw [if_neg (by decide)]
  unfold oc
  split
  · simp only [fX0, e1, e4, g0, g1, g2, g3, g4]
  · next h => exact absurd h hk
  · simp only [fX2, e1, e4, g0, g1, g2, g3, g4]
  · simp only [fX3, e1, e4, g0, g1, g2, g3, g4]
  · simp only [fX4, e1, e4, g0, g1, g2, g3, g4]
  · simp only [fX5, e1, e4, g0, g1, g2, g3, g4]
  · simp only [fX6, e1, e4, g0, g1, g2, g3, g4]
  · simp only [fX7, e1, e4, g0, g1, g2, g3, g4]
  · simp only [fX8, e1, e4, g0, g1, g2, g3, g4]
  · simp only [fX9, e1, e4, g0, g1, g2, g3, g4]
  · unfold arE; simp only [e1, e4]
theorem oc_X0 (ad : Nat → Nat) (dA : Nat → ClassId) (w : GW) {k : Nat} (h : kd k = 0) : oc ad dA w k = .inr (0, fX0 ad w k) := by unfold oc; rw [h]; rfl
theorem oc_X1 (ad : Nat → Nat) (dA : Nat → ClassId) (w : GW) {k : Nat} (h : kd k = 1) : oc ad dA w k = .inr (1, fX1 ad w k) := by unfold oc; rw [h]; rfl
theorem oc_X2 (ad : Nat → Nat) (dA : Nat → ClassId) (w : GW) {k : Nat} (h : kd k = 2) : oc ad dA w k = .inr (2, fX2 ad w k) := by unfold oc; rw [h]; rfl
theorem oc_X3 (ad : Nat → Nat) (dA : Nat → ClassId) (w : GW) {k : Nat} (h : kd k = 3) : oc ad dA w k = .inr (3, fX3 ad w k) := by unfold oc; rw [h]; rfl
theorem oc_X4 (ad : Nat → Nat) (dA : Nat → ClassId) (w : GW) {k : Nat} (h : kd k = 4) : oc ad dA w k = .inr (4, fX4 ad w k) := by unfold oc; rw [h]; rfl
theorem oc_X5 (ad : Nat → Nat) (dA : Nat → ClassId) (w : GW) {k : Nat} (h : kd k = 5) : oc ad dA w k = .inr (5, fX5 ad w k) := by unfold oc; rw [h]; rfl
theorem oc_X6 (ad : Nat → Nat) (dA : Nat → ClassId) (w : GW) {k : Nat} (h : kd k = 6) : oc ad dA w k = .inr (6, fX6 ad w k) := by unfold oc; rw [h]; rfl
theorem oc_X7 (ad : Nat → Nat) (dA : Nat → ClassId) (w : GW) {k : Nat} (h : kd k = 7) : oc ad dA w k = .inr (7, fX7 ad w k) := by unfold oc; rw [h]; rfl
theorem oc_X8 (ad : Nat → Nat) (dA : Nat → ClassId) (w : GW) {k : Nat} (h : kd k = 8) : oc ad dA w k = .inr (8, fX8 ad w k) := by unfold oc; rw [h]; rfl
theorem oc_X9 (ad : Nat → Nat) (dA : Nat → ClassId) (w : GW) {k : Nat} (h : kd k = 9) : oc ad dA w k = .inr (9, fX9 ad w k) := by unfold oc; rw [h]; rfl
theorem oc_A10 (ad : Nat → Nat) (dA : Nat → ClassId) (w : GW) {k : Nat} (h : kd k = 10) : oc ad dA w k = .inl (dA 0, 5, arE ad w k 0) := by unfold oc; rw [h]; rfl
theorem oc_A11 (ad : Nat → Nat) (dA : Nat → ClassId) (w : GW) {k : Nat} (h : kd k = 11) : oc ad dA w k = .inl (dA 0, 900, arE ad w k 0) := by unfold oc; rw [h]; rfl
theorem oc_A12 (ad : Nat → Nat) (dA : Nat → ClassId) (w : GW) {k : Nat} (h : kd k = 12) : oc ad dA w k = .inl (dA 0, 3, arE ad w k 0) := by unfold oc; rw [h]; rfl
theorem oc_A13 (ad : Nat → Nat) (dA : Nat → ClassId) (w : GW) {k : Nat} (h : kd k = 13) : oc ad dA w k = .inl (dA 0, 1287, arE ad w k 0) := by unfold oc; rw [h]; rfl
theorem oc_A14 (ad : Nat → Nat) (dA : Nat → ClassId) (w : GW) {k : Nat} (h : kd k = 14) : oc ad dA w k = .inl (dA 0, 8, arE ad w k 0) := by unfold oc; rw [h]; rfl
theorem oc_A15 (ad : Nat → Nat) (dA : Nat → ClassId) (w : GW) {k : Nat} (h : kd k = 15) : oc ad dA w k = .inl (dA 0, 135, arE ad w k 0) := by unfold oc; rw [h]; rfl
theorem oc_A16 (ad : Nat → Nat) (dA : Nat → ClassId) (w : GW) {k : Nat} (h : kd k = 16) : oc ad dA w k = .inl (dA 0, 9, arE ad w k 0) := by unfold oc; rw [h]; rfl
theorem oc_A17 (ad : Nat → Nat) (dA : Nat → ClassId) (w : GW) {k : Nat} (h : kd k = 17) : oc ad dA w k = .inl (dA 0, 27, arE ad w k 0) := by unfold oc; rw [h]; rfl
theorem oc_A18 (ad : Nat → Nat) (dA : Nat → ClassId) (w : GW) {k : Nat} (h : kd k = 18) : oc ad dA w k = .inl (dA 0, 8000, arE ad w k 0) := by unfold oc; rw [h]; rfl
theorem oc_A19 (ad : Nat → Nat) (dA : Nat → ClassId) (w : GW) {k : Nat} (h : kd k = 19) : oc ad dA w k = .inl (dA 0, 16384, arE ad w k 0) := by unfold oc; rw [h]; rfl
theorem oc_A20 (ad : Nat → Nat) (dA : Nat → ClassId) (w : GW) {k : Nat} (h : kd k = 20) : oc ad dA w k = .inl (dA 0, 60, arE ad w k 0) := by unfold oc; rw [h]; rfl
theorem oc_A21 (ad : Nat → Nat) (dA : Nat → ClassId) (w : GW) {k : Nat} (h : kd k = 21) : oc ad dA w k = .inl (dA 1, 18, arE ad w k 1) := by unfold oc; rw [h]; rfl
theorem oc_A22 (ad : Nat → Nat) (dA : Nat → ClassId) (w : GW) {k : Nat} (h : kd k = 22) : oc ad dA w k = .inl (dA 1, 32, arE ad w k 1) := by unfold oc; rw [h]; rfl
theorem oc_A23 (ad : Nat → Nat) (dA : Nat → ClassId) (w : GW) {k : Nat} (h : kd k = 23) : oc ad dA w k = .inl (dA 1, 30, arE ad w k 1) := by unfold oc; rw [h]; rfl
theorem oc_A24 (ad : Nat → Nat) (dA : Nat → ClassId) (w : GW) {k : Nat} (h : kd k = 24) : oc ad dA w k = .inl (dA 1, 7722, arE ad w k 1) := by unfold oc; rw [h]; rfl
theorem oc_A25 (ad : Nat → Nat) (dA : Nat → ClassId) (w : GW) {k : Nat} (h : kd k = 25) : oc ad dA w k = .inl (dA 1, 1287, arE ad w k 1) := by unfold oc; rw [h]; rfl
theorem oc_A26 (ad : Nat → Nat) (dA : Nat → ClassId) (w : GW) {k : Nat} (h : kd k = 26) : oc ad dA w k = .inl (dA 1, 6, arE ad w k 1) := by unfold oc; rw [h]; rfl
theorem oc_A27 (ad : Nat → Nat) (dA : Nat → ClassId) (w : GW) {k : Nat} (h : kd k = 27) : oc ad dA w k = .inl (dA 1, 8000, arE ad w k 1) := by unfold oc; rw [h]; rfl
theorem oc_A28 (ad : Nat → Nat) (dA : Nat → ClassId) (w : GW) {k : Nat} (h : kd k = 28) : oc ad dA w k = .inl (dA 1, 48, arE ad w k 1) := by unfold oc; rw [h]; rfl
theorem oc_A29 (ad : Nat → Nat) (dA : Nat → ClassId) (w : GW) {k : Nat} (h : kd k = 29) : oc ad dA w k = .inl (dA 1, 1, arE ad w k 1) := by unfold oc; rw [h]; rfl
theorem oc_A30 (ad : Nat → Nat) (dA : Nat → ClassId) (w : GW) {k : Nat} (h : kd k = 30) : oc ad dA w k = .inl (dA 2, 36, arE ad w k 2) := by unfold oc; rw [h]; rfl
theorem oc_A31 (ad : Nat → Nat) (dA : Nat → ClassId) (w : GW) {k : Nat} (h : kd k = 31) : oc ad dA w k = .inl (dA 2, 5, arE ad w k 2) := by unfold oc; rw [h]; rfl
theorem oc_A32 (ad : Nat → Nat) (dA : Nat → ClassId) (w : GW) {k : Nat} (h : kd k = 32) : oc ad dA w k = .inl (dA 3, 3, arE ad w k 3) := by unfold oc; rw [h]; rfl
theorem oc_A33 (ad : Nat → Nat) (dA : Nat → ClassId) (w : GW) {k : Nat} (h : kd k = 33) : oc ad dA w k = .inl (dA 4, 6, arE ad w k 4) := by unfold oc; rw [h]; rfl
theorem oc_A34 (ad : Nat → Nat) (dA : Nat → ClassId) (w : GW) {k : Nat} (h : kd k = 34) : oc ad dA w k = .inl (dA 5, 36, arE ad w k 5) := by unfold oc; rw [h]; rfl
theorem oc_A35 (ad : Nat → Nat) (dA : Nat → ClassId) (w : GW) {k : Nat} (h : kd k = 35) : oc ad dA w k = .inl (dA 6, 8, arE ad w k 6) := by unfold oc; rw [h]; rfl
/-- an array of type t and length n at k -/
def isA (k t n : Nat) : Prop := k < 150 ∧ 10 ≤ kd k ∧ arT (kd k) = (t, n)
theorem oc_isA (ad : Nat → Nat) (dA : Nat → ClassId) (w : GW) {k t n : Nat} (h : isA k t n) : oc ad dA w k = .inl (dA t, n, arE ad w k t) := by
  obtain ⟨-, h1, h2⟩ := h
  have key : oc ad dA w k = .inl (dA (arT (kd k)).1, (arT (kd k)).2, arE ad w k (arT (kd k)).1) := by
    unfold oc
    split <;> first | rfl | (exfalso; omega)
  rw [key, h2]
theorem isA_10 {k : Nat} (h : kd k = 10) : isA k 0 5 := ⟨kd_lt h (by decide), by rw [h]; decide, by rw [h]; rfl⟩
theorem isA_11 {k : Nat} (h : kd k = 11) : isA k 0 900 := ⟨kd_lt h (by decide), by rw [h]; decide, by rw [h]; rfl⟩
theorem isA_12 {k : Nat} (h : kd k = 12) : isA k 0 3 := ⟨kd_lt h (by decide), by rw [h]; decide, by rw [h]; rfl⟩
theorem isA_13 {k : Nat} (h : kd k = 13) : isA k 0 1287 := ⟨kd_lt h (by decide), by rw [h]; decide, by rw [h]; rfl⟩
theorem isA_14 {k : Nat} (h : kd k = 14) : isA k 0 8 := ⟨kd_lt h (by decide), by rw [h]; decide, by rw [h]; rfl⟩
theorem isA_15 {k : Nat} (h : kd k = 15) : isA k 0 135 := ⟨kd_lt h (by decide), by rw [h]; decide, by rw [h]; rfl⟩
theorem isA_16 {k : Nat} (h : kd k = 16) : isA k 0 9 := ⟨kd_lt h (by decide), by rw [h]; decide, by rw [h]; rfl⟩
theorem isA_17 {k : Nat} (h : kd k = 17) : isA k 0 27 := ⟨kd_lt h (by decide), by rw [h]; decide, by rw [h]; rfl⟩
theorem isA_18 {k : Nat} (h : kd k = 18) : isA k 0 8000 := ⟨kd_lt h (by decide), by rw [h]; decide, by rw [h]; rfl⟩
theorem isA_19 {k : Nat} (h : kd k = 19) : isA k 0 16384 := ⟨kd_lt h (by decide), by rw [h]; decide, by rw [h]; rfl⟩
theorem isA_20 {k : Nat} (h : kd k = 20) : isA k 0 60 := ⟨kd_lt h (by decide), by rw [h]; decide, by rw [h]; rfl⟩
theorem isA_21 {k : Nat} (h : kd k = 21) : isA k 1 18 := ⟨kd_lt h (by decide), by rw [h]; decide, by rw [h]; rfl⟩
theorem isA_22 {k : Nat} (h : kd k = 22) : isA k 1 32 := ⟨kd_lt h (by decide), by rw [h]; decide, by rw [h]; rfl⟩
theorem isA_23 {k : Nat} (h : kd k = 23) : isA k 1 30 := ⟨kd_lt h (by decide), by rw [h]; decide, by rw [h]; rfl⟩
theorem isA_24 {k : Nat} (h : kd k = 24) : isA k 1 7722 := ⟨kd_lt h (by decide), by rw [h]; decide, by rw [h]; rfl⟩
theorem isA_25 {k : Nat} (h : kd k = 25) : isA k 1 1287 := ⟨kd_lt h (by decide), by rw [h]; decide, by rw [h]; rfl⟩
theorem isA_26 {k : Nat} (h : kd k = 26) : isA k 1 6 := ⟨kd_lt h (by decide), by rw [h]; decide, by rw [h]; rfl⟩
theorem isA_27 {k : Nat} (h : kd k = 27) : isA k 1 8000 := ⟨kd_lt h (by decide), by rw [h]; decide, by rw [h]; rfl⟩
theorem isA_28 {k : Nat} (h : kd k = 28) : isA k 1 48 := ⟨kd_lt h (by decide), by rw [h]; decide, by rw [h]; rfl⟩
theorem isA_29 {k : Nat} (h : kd k = 29) : isA k 1 1 := ⟨kd_lt h (by decide), by rw [h]; decide, by rw [h]; rfl⟩
theorem isA_30 {k : Nat} (h : kd k = 30) : isA k 2 36 := ⟨kd_lt h (by decide), by rw [h]; decide, by rw [h]; rfl⟩
theorem isA_31 {k : Nat} (h : kd k = 31) : isA k 2 5 := ⟨kd_lt h (by decide), by rw [h]; decide, by rw [h]; rfl⟩
theorem isA_32 {k : Nat} (h : kd k = 32) : isA k 3 3 := ⟨kd_lt h (by decide), by rw [h]; decide, by rw [h]; rfl⟩
theorem isA_33 {k : Nat} (h : kd k = 33) : isA k 4 6 := ⟨kd_lt h (by decide), by rw [h]; decide, by rw [h]; rfl⟩
theorem isA_34 {k : Nat} (h : kd k = 34) : isA k 5 36 := ⟨kd_lt h (by decide), by rw [h]; decide, by rw [h]; rfl⟩
theorem isA_35 {k : Nat} (h : kd k = 35) : isA k 6 8 := ⟨kd_lt h (by decide), by rw [h]; decide, by rw [h]; rfl⟩
abbrev tysW (dA : Nat → ClassId) : List (ClassId × FieldType) := [(dA 0, .int), (dA 1, .long), (dA 2, .boolean), (dA 3, .object "EmptierOfTwo$Day"), (dA 4, .object "EmptierOfTwo$Porte\x72"), (dA 5, .array .long), (dA 6, .array .int)]
