/-! letters of the text come in, twenty at a time -/
def by4 (x : Int32) (k : Nat) : Int32 := (x >>> (nI (24 - 8 * k) &&& 31)) &&& 255
theorem nI_bv (y : Int32) : y = nI y.toBitVec.toNat := by
  apply Int32.toBitVec_inj.mp
  show y.toBitVec = BitVec.ofNat 32 y.toBitVec.toNat
  simp
theorem by4_b (x : Int32) (k : Nat) : ∃ c, c < 256 ∧ by4 x k = nI c := by
  unfold by4
  refine ⟨(x >>> (nI (24 - 8 * k) &&& 31)).toBitVec.toNat &&& 255, ?_, ?_⟩
  · have := Nat.and_le_right (n := (x >>> (nI (24 - 8 * k) &&& 31)).toBitVec.toNat) (m := 255)
    omega
  · rw [← fa_and, ← nI_bv]
    rfl
theorem add1 {w : GW} {m t : Nat} {x s : Int32} (ht : t < 900) (h : gI w 1 3 = nI t) (hs : ¬ s < 0) : f_X7_add_3 (m + 1) x s w = f_X7_add_3 m x (s + -8) (sI (sI w 2 t ((x >>> (s &&& 31)) &&& 255)) 1 3 (nI (t + 1))) := by
  rw [f_X7_add_3, if_neg hs, h, show (900 : Int32) = nI 900 from rfl, if_neg (fun q9 => absurd ((le_nI (by omega) (by omega)).mp q9) (by omega)), if_pos ((inb_nI (by omega)).mpr (by omega)), ix_nI (by omega), f_X7_add_43, gI_sI, if_neg (by omega), h, nI_1]
theorem add8 {w : GW} {t : Nat} {x : Int32} (ht : t + 4 ≤ 900) (h : gI w 1 3 = nI t) : ∃ w', f_X7_add x w = some ((), w') ∧ gI w' 1 3 = nI (t + 4) ∧ (∀ k, k < 4 → gI w' 2 (t + k) = by4 x k) ∧ (∀ p j, ¬ (p = 1 ∧ j = 3) → ¬ (p = 2 ∧ t ≤ j ∧ j < t + 4) → gI w' p j = gI w p j) ∧ (∀ p j, gL w' p j = gL w p j) ∧ ∀ r, gR w' r = gR w r := by
  obtain ⟨m, hm⟩ : ∃ m, fu = m + 5 := ⟨fu - 5, by have : 5 < fu := (fu_gt (by omega)); omega⟩
  refine ⟨sI (sI (sI (sI (sI (sI (sI (sI w 2 t (by4 x 0)) 1 3 (nI (t + 1))) 2 (t + 1) (by4 x 1)) 1 3 (nI (t + 1 + 1))) 2 (t + 1 + 1) (by4 x 2)) 1 3 (nI (t + 1 + 1 + 1))) 2 (t + 1 + 1 + 1) (by4 x 3)) 1 3 (nI (t + 1 + 1 + 1 + 1)), ?_, gI_same _ _ _ _, ?_, ?_, fun _ _ => rfl, fun _ => rfl⟩
  · rw [f_X7_add, hm, show m + 5 = (m + 1 + 1 + 1 + 1) + 1 from rfl, add1 (by omega) h (by decide), show (24 : Int32) + -8 = 16 from by decide, add1 (t := t + 1) (by omega) (gI_same _ _ _ _) (by decide), show (16 : Int32) + -8 = 8 from by decide, add1 (t := t + 1 + 1) (by omega) (gI_same _ _ _ _) (by decide), show (8 : Int32) + -8 = 0 from by decide, add1 (t := t + 1 + 1 + 1) (by omega) (gI_same _ _ _ _) (by decide), show (0 : Int32) + -8 = -8 from by decide, f_X7_add_3, if_pos (by decide)]
    rfl
  · intro k hk
    have : k = 0 ∨ k = 1 ∨ k = 2 ∨ k = 3 := by omega
    rcases this with rfl | rfl | rfl | rfl
    · rw [gI_sI, if_neg (by omega), gI_sI, if_neg (by omega), gI_sI, if_neg (by omega), gI_sI, if_neg (by omega), gI_sI, if_neg (by omega), gI_sI, if_neg (by omega), gI_sI, if_neg (by omega), gI_sI, if_pos (by omega)]
    · rw [gI_sI, if_neg (by omega), gI_sI, if_neg (by omega), gI_sI, if_neg (by omega), gI_sI, if_neg (by omega), gI_sI, if_neg (by omega), gI_sI, if_pos (by omega)]
    · rw [gI_sI, if_neg (by omega), gI_sI, if_neg (by omega), gI_sI, if_neg (by omega), gI_sI, if_pos (by omega)]
    · rw [gI_sI, if_neg (by omega), gI_sI, if_pos (by omega)]
  · intro p j h1 h2
    rw [gI_sI, if_neg (by omega), gI_sI, if_neg (by omega), gI_sI, if_neg (by omega), gI_sI, if_neg (by omega), gI_sI, if_neg (by omega), gI_sI, if_neg (by omega), gI_sI, if_neg (by omega), gI_sI, if_neg (by omega)]
def sel5 (x1 x2 x3 x4 x5 : Int32) (q : Nat) : Int32 := if q = 0 then x1 else if q = 1 then x2 else if q = 2 then x3 else if q = 3 then x4 else x5
theorem feed23 {x1 x2 x3 x4 x5 : Int32} {T : Nat} (hT : T + 20 ≤ 900) : ∀ d i m w, i + d = 20 → d < m → gI w 130 2 = nI (T + i) → (∀ k, k < i → gI w 131 (T + k) = by4 (sel5 x1 x2 x3 x4 x5 (k / 4)) (k % 4)) → ∃ w', f_X9_feed_23 m x1 x2 x3 x4 x5 (nI i) w = some (nI (T + 20), w') ∧ gI w' 130 2 = nI (T + 20) ∧ (∀ k, k < 20 → gI w' 131 (T + k) = by4 (sel5 x1 x2 x3 x4 x5 (k / 4)) (k % 4)) ∧ (∀ p j, ¬ (p = 130 ∧ j = 2) → ¬ (p = 131 ∧ T ≤ j) → gI w' p j = gI w p j) ∧ (∀ p j, gL w' p j = gL w p j) ∧ ∀ r, gR w' r = gR w r := by
  intro d
  induction d with
  | zero =>
    intro i m w hi hm h2 h
    obtain ⟨m, rfl⟩ : ∃ m9, m = m9 + 1 := ⟨m - 1, by omega⟩
    have : i = 20 := by omega
    subst this
    refine ⟨w, ?_, h2, h, fun _ _ _ _ => rfl, fun _ _ => rfl, fun _ => rfl⟩
    rw [f_X9_feed_23, show (20 : Int32) = nI 20 from rfl, if_pos ((le_nI (by omega) (by omega)).mpr (by omega)), h2]
  | succ d ih =>
    intro i m w hi hm h2 h
    obtain ⟨m, rfl⟩ : ∃ m9, m = m9 + 1 := ⟨m - 1, by omega⟩
    have hsh : ((24 : Int32) - (8 * (irm (nI i) 4))) = nI (24 - 8 * (i % 4)) := by
      rw [show (4 : Int32) = nI 4 from rfl, irm_nI (by omega) (by omega) (by omega), show (8 : Int32) = nI 8 from rfl, pk_mul, show (24 : Int32) = nI 24 from rfl, pk_sub (by omega)]
    have go : f_X9_feed_76 (f_X9_feed_23 m) x1 x2 x3 x4 x5 (nI i) (sel5 x1 x2 x3 x4 x5 (i / 4)) w = f_X9_feed_23 m x1 x2 x3 x4 x5 (nI (i + 1)) (sI (sI w 131 (T + i) (by4 (sel5 x1 x2 x3 x4 x5 (i / 4)) (i % 4))) 130 2 (nI (T + (i + 1)))) := by
      rw [f_X9_feed_76, h2, if_pos ((inb_nI (by omega)).mpr (by omega)), ix_nI (by omega), hsh, gI_sI, if_neg (by omega), h2, nI_1, nI_1]
      rfl
    have E : f_X9_feed_23 (m + 1) x1 x2 x3 x4 x5 (nI i) w = f_X9_feed_76 (f_X9_feed_23 m) x1 x2 x3 x4 x5 (nI i) (sel5 x1 x2 x3 x4 x5 (i / 4)) w := by
      rw [f_X9_feed_23, show (20 : Int32) = nI 20 from rfl, if_neg (fun q9 => absurd ((le_nI (by omega) (by omega)).mp q9) (by omega))]
      unfold sel5
      by_cases c4 : i < 4
      · rw [show (4 : Int32) = nI 4 from rfl, if_neg (fun q9 => absurd ((le_nI (by omega) (by omega)).mp q9) (by omega)), if_pos (show i / 4 = 0 by omega)]
      · rw [show (4 : Int32) = nI 4 from rfl, if_pos ((le_nI (by omega) (by omega)).mpr (by omega)), if_neg (show ¬ i / 4 = 0 by omega)]
        by_cases c8 : i < 8
        · rw [show (8 : Int32) = nI 8 from rfl, if_neg (fun q9 => absurd ((le_nI (by omega) (by omega)).mp q9) (by omega)), if_pos (show i / 4 = 1 by omega)]
        · rw [show (8 : Int32) = nI 8 from rfl, if_pos ((le_nI (by omega) (by omega)).mpr (by omega)), if_neg (show ¬ i / 4 = 1 by omega)]
          by_cases c12 : i < 12
          · rw [show (12 : Int32) = nI 12 from rfl, if_neg (fun q9 => absurd ((le_nI (by omega) (by omega)).mp q9) (by omega)), if_pos (show i / 4 = 2 by omega)]
          · rw [show (12 : Int32) = nI 12 from rfl, if_pos ((le_nI (by omega) (by omega)).mpr (by omega)), if_neg (show ¬ i / 4 = 2 by omega)]
            by_cases c16 : i < 16
            · rw [show (16 : Int32) = nI 16 from rfl, if_neg (fun q9 => absurd ((le_nI (by omega) (by omega)).mp q9) (by omega)), if_pos (show i / 4 = 3 by omega)]
            · rw [show (16 : Int32) = nI 16 from rfl, if_pos ((le_nI (by omega) (by omega)).mpr (by omega)), if_neg (show ¬ i / 4 = 3 by omega)]
    rw [E, go]
    obtain ⟨w', t1, t2, t3, t4, t5, t6⟩ := ih (i + 1) m (sI (sI w 131 (T + i) (by4 (sel5 x1 x2 x3 x4 x5 (i / 4)) (i % 4))) 130 2 (nI (T + (i + 1)))) (by omega) (by omega) (gI_same _ _ _ _) (fun k hk => by
      rw [gI_sI, if_neg (by omega), gI_sI]
      by_cases z : k = i
      · rw [if_pos ⟨rfl, by omega⟩, z]
      · rw [if_neg (by omega)]; exact h k (by omega))
    refine ⟨w', t1, t2, t3, fun p j h1 h2 => ?_, t5, t6⟩
    rw [t4 p j h1 h2, gI_sI, if_neg (by omega), gI_sI, if_neg (by omega)]
theorem s_feed {w : GW} (J : JJ w) (x1 x2 x3 x4 x5 : Int32) : ST w (f_X8_feed x1 x2 x3 x4 x5) (f_X9_feed x1 x2 x3 x4 x5) := by
  obtain ⟨⟨⟨T, hT, t1, t2, t3⟩, tf, tt, t4, tn⟩, K⟩ := id J
  have e20 : nI T + 20 = nI (T + 20) := nI_add T 20
  by_cases hf : T + 20 ≤ 900
  · obtain ⟨w1, a1, a2, a3, a4, a5, a6⟩ := add8 (w := w) (t := T) (x := x1) (by omega) t1
    obtain ⟨w2, b1, b2, b3, b4, b5, b6⟩ := add8 (w := w1) (t := T + 4) (x := x2) (by omega) a2
    obtain ⟨w3, c1, c2, c3, c4, c5, c6⟩ := add8 (w := w2) (t := T + 4 + 4) (x := x3) (by omega) b2
    obtain ⟨w4, d1, d2, d3, d4, d5, d6⟩ := add8 (w := w3) (t := T + 4 + 4 + 4) (x := x4) (by omega) c2
    obtain ⟨w5, f1, f2, f3, f4, f5, f6⟩ := add8 (w := w4) (t := T + 4 + 4 + 4 + 4) (x := x5) (by omega) d2
    have e8 : f_X8_feed x1 x2 x3 x4 x5 w = some (nI (T + 20), w5) := by
      rw [f_X8_feed, t1, e20, show (900 : Int32) = nI 900 from rfl, if_pos ((le_nI (by omega) (by omega)).mpr (by omega)), a1, bind_some']
      dsimp only
      rw [b1, bind_some']
      dsimp only
      rw [c1, bind_some']
      dsimp only
      rw [d1, bind_some']
      dsimp only
      rw [f1, bind_some', f2]
    have g5 : ∀ p j, ¬ (p = 1 ∧ j = 3) → ¬ (p = 2 ∧ T ≤ j ∧ j < T + 20) → gI w5 p j = gI w p j := fun p j h1 h2 => by
      rw [f4 p j h1 (by omega), d4 p j h1 (by omega), c4 p j h1 (by omega), b4 p j h1 (by omega), a4 p j h1 (by omega)]
    have v5 : ∀ k, k < 20 → gI w5 2 (T + k) = by4 (sel5 x1 x2 x3 x4 x5 (k / 4)) (k % 4) := fun k hk => by
      unfold sel5
      by_cases z0 : k < 4
      · rw [f4 2 _ (by omega) (by omega), d4 2 _ (by omega) (by omega), c4 2 _ (by omega) (by omega), b4 2 _ (by omega) (by omega), a3 k z0, if_pos (by omega), Nat.mod_eq_of_lt z0]
      · by_cases z1 : k < 8
        · have := b3 (k - 4) (by omega)
          rw [show T + 4 + (k - 4) = T + k by omega] at this
          rw [f4 2 _ (by omega) (by omega), d4 2 _ (by omega) (by omega), c4 2 _ (by omega) (by omega), this, if_neg (by omega), if_pos (by omega), show k % 4 = k - 4 by omega]
        · by_cases z2 : k < 12
          · have := c3 (k - 8) (by omega)
            rw [show T + 4 + 4 + (k - 8) = T + k by omega] at this
            rw [f4 2 _ (by omega) (by omega), d4 2 _ (by omega) (by omega), this, if_neg (by omega), if_neg (by omega), if_pos (by omega), show k % 4 = k - 8 by omega]
          · by_cases z3 : k < 16
            · have := d3 (k - 12) (by omega)
              rw [show T + 4 + 4 + 4 + (k - 12) = T + k by omega] at this
              rw [f4 2 _ (by omega) (by omega), this, if_neg (by omega), if_neg (by omega), if_neg (by omega), if_pos (by omega), show k % 4 = k - 12 by omega]
            · have := f3 (k - 16) (by omega)
              rw [show T + 4 + 4 + 4 + 4 + (k - 16) = T + k by omega] at this
              rw [this, if_neg (by omega), if_neg (by omega), if_neg (by omega), if_neg (by omega), show k % 4 = k - 16 by omega]
    have t2' : gI w5 130 2 = nI T := (g5 _ _ (by omega) (by omega)).trans t2
    obtain ⟨w6, h1, h2, h3, h4, h5, h6⟩ := feed23 (x1 := x1) (x2 := x2) (x3 := x3) (x4 := x4) (x5 := x5) hf 20 0 fu (sI w5 130 0 0) (by omega) (fu_gt (by omega)) (by rw [gI_sI, if_neg (by omega)]; exact t2') (fun k hk => by omega)
    have e9 : f_X9_feed x1 x2 x3 x4 x5 w5 = some (nI (T + 20), w6) := by
      rw [f_X9_feed, show gI (sI w5 130 0 0) 130 2 = nI T from by rw [gI_sI, if_neg (by omega)]; exact t2', e20, show (900 : Int32) = nI 900 from rfl, if_pos ((le_nI (by omega) (by omega)).mpr (by omega)), show (0 : Int32) = nI 0 from rfl]
      exact h1
    have g6 : ∀ p j, ¬ (p = 1 ∧ j = 3) → p ≠ 2 → ¬ (p = 130 ∧ (j = 0 ∨ j = 2)) → p ≠ 131 → gI w6 p j = gI w p j := fun p j k1 k2 k3 k4 => by
      rw [h4 p j (by omega) (by omega), gI_sI, if_neg (by omega)]
      exact g5 p j k1 (by omega)
    have hz0 := fxH_z (gR w 0)
    have r6 : ∀ r, gR w6 r = gR w r := fun r => by rw [h6, gR_sI, f6, d6, c6, b6, a6]
    refine ⟨nI (T + 20), w5, w6, e8, e9, ⟨⟨T + 20, hf, ?_, h2, fun j hj => ?_⟩, ?_, ?_, fun h => ?_, ?_⟩, JH.kp (w := w) (fun p j h => g6 p j (by omega) (by omega) (by omega) (by omega)) (fun p j k1 k2 => ?_) (r6 0) (r6 3) K⟩
    · rw [h4 _ _ (by omega) (by omega), gI_sI, if_neg (by omega)]; exact f2
    · by_cases z : j < T
      · rw [h4 2 j (by omega) (by omega), gI_sI, if_neg (by omega), g5 2 j (by omega) (by omega), h4 131 j (by omega) (by omega), gI_sI, if_neg (by omega), g5 131 j (by omega) (by omega)]
        exact t3 j z
      · have v := v5 (j - T) (by omega)
        have u := h3 (j - T) (by omega)
        rw [show T + (j - T) = j by omega] at v u
        have e2 : gI w6 2 j = gI w5 2 j := by rw [h4 2 j (by omega) (by omega), gI_sI, if_neg (by omega)]
        rw [e2, v, u]
        obtain ⟨c, k1, k2⟩ := by4_b (sel5 x1 x2 x3 x4 x5 ((j - T) / 4)) ((j - T) % 4)
        exact ⟨rfl, c, k1, k2⟩
    · rw [g6 _ _ (by omega) (by omega) (by omega) (by omega), g6 _ _ (by omega) (by omega) (by omega) (by omega)]; exact tf
    · rw [g6 _ _ (by omega) (by omega) (by omega) (by omega), g6 _ _ (by omega) (by omega) (by omega) (by omega)]; exact tt
    · rw [g6 _ _ (by omega) (by omega) (by omega) (by omega)] at h
      rw [g6 _ _ (by omega) (by omega) (by omega) (by omega), g6 _ _ (by omega) (by omega) (by omega) (by omega)]; exact t4 h
    · rw [r6, r6]; exact tn
    · rw [h5, gL_sI, f5, d5, c5, b5, a5]
  · have e8 : f_X8_feed x1 x2 x3 x4 x5 w = some (-1, w) := by
      rw [f_X8_feed, t1, e20, show (900 : Int32) = nI 900 from rfl, if_neg (fun q9 => absurd ((le_nI (by omega) (by omega)).mp q9) (by omega))]
    have e9 : f_X9_feed x1 x2 x3 x4 x5 w = some (-1, sI w 130 0 0) := by
      rw [f_X9_feed, show gI (sI w 130 0 0) 130 2 = nI T from by rw [gI_sI, if_neg (by omega)]; exact t2, e20, show (900 : Int32) = nI 900 from rfl, if_neg (fun q9 => absurd ((le_nI (by omega) (by omega)).mp q9) (by omega))]
    exact ⟨-1, w, _, e8, e9, J.th 0⟩
