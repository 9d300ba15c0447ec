/-! by whom the lays are the likeliest: the reference -/
section L9
variable {σ : HS} {w : GW}
/-- what the reference keeps of the porters so far -/
def LD (σ : HS) (w : GW) (n : Nat) : Prop := ∀ p, p < n → gL w 148 p = lN (alS (zE σ) (zR σ p) (zG σ p) (zL σ)) ∧ ∀ y, y < zY σ → gL w 147 (8 * p + y) = lN (lyW σ p (zL σ) y)
theorem LD.sm {L : List (Nat × Nat × Nat)} {R : List Nat} {w w' : GW} {n : Nat} (H : LD σ w n) (S : Sm L R w w') (h1 : ∀ j, md L 147 j = false) (h2 : ∀ j, md L 148 j = false) : LD σ w' n := fun p hp => ⟨by rw [S.L 148 p (h2 p)]; exact (H p hp).1, fun y hy => by rw [S.L 147 _ (h1 _)]; exact (H p hp).2 y hy⟩
theorem m79 (hs : HSok σ) {p : Nat} (hp : p < zP σ) {kk : Int32 → GW → Option (Int32 × GW)} : ∀ d i n (w : GW), i + d = zY σ → d < n → MHl w σ → TQ w (zE σ) (zR σ p) (zH σ p) (zG σ p) (zL σ) → LD σ w p → gL w 148 p = lN (alS (zE σ) (zR σ p) (zG σ p) (zL σ)) → (∀ y, y < i → gL w 147 (8 * p + y) = lN (lyW σ p (zL σ) y)) → ∃ w', f_X9_likely_79 kk n (nI p) (nI i) w = kk (nI (p + 1)) w' ∧ MHl w' σ ∧ LD σ w' (p + 1) ∧ gI w' 130 11 = gI w 130 11 := by
  intro d
  induction d with
  | zero =>
    intro i n w hi hn M T hD h1 h2
    obtain ⟨n, rfl⟩ : ∃ m9, n = m9 + 1 := ⟨n - 1, by omega⟩
    have hY := hs.2.2.2.1
    have : i = zY σ := by omega
    subst this
    refine ⟨w, ?_, M, fun p' hp' => ?_, rfl⟩
    · rw [f_X9_likely_79, if_pos (show inb _ _ from by decide), show ix (39 : Int32) = 39 from by decide, M.2.2.2.2.1, if_pos ((le_nI (by omega) (by omega)).mpr (by omega)), nI_1]
    · by_cases z : p' = p
      · subst z; exact ⟨h1, h2⟩
      · exact hD p' (by omega)
  | succ d ih =>
    intro i n w hi hn M T hD h1 h2
    obtain ⟨n, rfl⟩ : ∃ m9, n = m9 + 1 := ⟨n - 1, by omega⟩
    have hY := hs.2.2.2.1
    have h6 := hs.2.2.1.2
    obtain ⟨w1, a1⟩ := lay9 hs M (y := i) (by omega) hs.2.1 T
    have S := fr_X9_waysOfLay _ _ a1
    have M1 : MHl w1 σ := M.km (KM.sm S (by decide) rfl)
    have T1 := T.sm S rfl (fun _ => rfl) (fun _ => rfl) rfl
    have hD1 := hD.sm S (fun _ => rfl) (fun _ => rfl)
    obtain ⟨w', b1, b2, b3, b4⟩ := ih (i + 1) n (sL w1 147 (8 * p + i) (lN (lyW σ p (zL σ) i))) (by omega) (by omega) (M1.of rfl (fun _ => rfl)) (by
      obtain ⟨N, key, way, c1, c2, c3, c4⟩ := T1
      exact ⟨N, key, way, ⟨c1.1, c1.2.1, fun s hs2 => ⟨(c1.2.2 s hs2).1, by rw [gL_sL, if_neg (by omega)]; exact (c1.2.2 s hs2).2⟩⟩, c2, c3, by rw [gL_sL, if_neg (by omega)]; exact c4⟩) (fun p' hp' => ⟨by rw [gL_sL, if_neg (by omega)]; exact (hD1 p' hp').1, fun y hy => by rw [gL_sL, if_neg (by omega)]; exact (hD1 p' hp').2 y hy⟩) (by rw [gL_sL, if_neg (by omega), S.L 148 p rfl]; exact h1) (fun y hy => by
      rw [gL_sL]
      by_cases z : y = i
      · rw [if_pos ⟨rfl, by rw [z]⟩, z]
      · rw [if_neg (by omega), S.L 147 _ rfl]; exact h2 y (by omega))
    refine ⟨w', ?_, b2, b3, by rw [b4]; exact S.I 130 11 rfl⟩
    rw [f_X9_likely_79, if_pos (show inb _ _ from by decide), show ix (39 : Int32) = 39 from by decide, M.2.2.2.2.1, if_neg (fun q9 => absurd ((le_nI (by omega) (by omega)).mp q9) (by omega)), a1, bind_some', show (8 : Int32) = nI 8 from rfl, pk_mul, nI_add, if_pos ((inb_nI (by omega)).mpr (by omega)), ix_nI (by omega), nI_1]
    exact b1
theorem m36_t (hs : HSok σ) (hA : ∀ p, p < zP σ → alS (zE σ) (zR σ p) (zG σ p) (zL σ) ≤ 1000000000000000) : ∀ d p n (w : GW), p + d = zP σ → d < n → MHl w σ → LD σ w p → ∃ w', f_X9_likely_36 n (nI p) w = f_X9_likely_123 fu (-2) 0 w' ∧ MHl w' σ ∧ LD σ w' (zP σ) ∧ gI w' 130 11 = gI w 130 11 := by
  intro d
  induction d with
  | zero =>
    intro p n w hp hn M hD
    obtain ⟨n, rfl⟩ : ∃ m9, n = m9 + 1 := ⟨n - 1, by omega⟩
    have h6 := hs.2.2.1.2
    have : p = zP σ := by omega
    subst this
    refine ⟨w, ?_, M, hD, rfl⟩
    rw [f_X9_likely_36, if_pos (show inb _ _ from by decide), show ix (17 : Int32) = 17 from by decide, M.2.2.2.1, if_pos ((le_nI (by omega) (by omega)).mpr (by omega))]
  | succ d ih =>
    intro p n w hp hn M hD
    obtain ⟨n, rfl⟩ : ∃ m9, n = m9 + 1 := ⟨n - 1, by omega⟩
    have h6 := hs.2.2.1.2
    have hY := hs.2.2.2.1
    obtain ⟨w1, a1, T⟩ := (laysBy9 hs M (p := p) (by omega) hs.2.1).1 (hA p (by omega))
    have S := fr_X9_laysBy _ _ _ a1
    have M1 : MHl w1 σ := M.km (KM.sm S (by decide) rfl)
    have hD1 := hD.sm S (fun _ => rfl) (fun _ => rfl)
    have hal : gL w1 130 30 = lN (alS (zE σ) (zR σ p) (zG σ p) (zL σ)) := by
      obtain ⟨_, _, _, _, _, _, y⟩ := T
      exact y
    obtain ⟨w2, b1, b2, b3, b4⟩ := m79 hs (p := p) (by omega) (kk := f_X9_likely_36 n) (zY σ) 0 fu (sL w1 148 p (lN (alS (zE σ) (zR σ p) (zG σ p) (zL σ)))) (by omega) (fu_gt (by omega)) (M1.of rfl (fun _ => rfl)) (by
      obtain ⟨N, key, way, c1, c2, c3, c4⟩ := T
      exact ⟨N, key, way, ⟨c1.1, c1.2.1, fun s hs2 => ⟨(c1.2.2 s hs2).1, by rw [gL_sL, if_neg (by omega)]; exact (c1.2.2 s hs2).2⟩⟩, c2, c3, by rw [gL_sL, if_neg (by omega)]; exact c4⟩) (fun p' hp' => ⟨by rw [gL_sL, if_neg (by omega)]; exact (hD1 p' hp').1, fun y hy => by rw [gL_sL, if_neg (by omega)]; exact (hD1 p' hp').2 y hy⟩) (gL_same _ _ _ _) (fun y hy => by omega)
    obtain ⟨w3, c1, c2, c3, c4⟩ := ih (p + 1) n w2 (by omega) (by omega) b2 b3
    refine ⟨w3, ?_, c2, c3, by rw [c4, b4]; exact S.I 130 11 rfl⟩
    rw [f_X9_likely_36, if_pos (show inb _ _ from by decide), show ix (17 : Int32) = 17 from by decide, M.2.2.2.1, if_neg (fun q9 => absurd ((le_nI (by omega) (by omega)).mp q9) (by omega)), if_pos (show inb _ _ from by decide), show ix (1 : Int32) = 1 from by decide, M.2.2.1, a1, bind_some', if_neg one_ne, if_pos ((inb_nI (by omega)).mpr (by omega)), ix_nI (by omega)]
    dsimp only
    rw [hal]
    exact b1.trans c1
theorem m36_f (hs : HSok σ) : ∀ d p n (w : GW), p + d = zP σ → d < n → MHl w σ → LD σ w p → (∃ p0, p ≤ p0 ∧ p0 < zP σ ∧ ¬ alS (zE σ) (zR σ p0) (zG σ p0) (zL σ) ≤ 1000000000000000) → ∃ w', f_X9_likely_36 n (nI p) w = some (-1, sI w' 130 11 3) := by
  intro d
  induction d with
  | zero =>
    rintro p n w hp hn M hD ⟨p0, h1, h2, _⟩
    omega
  | succ d ih =>
    rintro p n w hp hn M hD ⟨p0, h1, h2, h3⟩
    obtain ⟨n, rfl⟩ : ∃ m9, n = m9 + 1 := ⟨n - 1, by omega⟩
    have h6 := hs.2.2.1.2
    have hY := hs.2.2.2.1
    by_cases hA : alS (zE σ) (zR σ p) (zG σ p) (zL σ) ≤ 1000000000000000
    · obtain ⟨w1, a1, T⟩ := (laysBy9 hs M (p := p) (by omega) hs.2.1).1 hA
      have S := fr_X9_laysBy _ _ _ a1
      have M1 : MHl w1 σ := M.km (KM.sm S (by decide) rfl)
      have hD1 := hD.sm S (fun _ => rfl) (fun _ => rfl)
      have hal : gL w1 130 30 = lN (alS (zE σ) (zR σ p) (zG σ p) (zL σ)) := by
        obtain ⟨_, _, _, _, _, _, y⟩ := T
        exact y
      obtain ⟨w2, b1, b2, b3, b4⟩ := m79 hs (p := p) (by omega) (kk := f_X9_likely_36 n) (zY σ) 0 fu (sL w1 148 p (lN (alS (zE σ) (zR σ p) (zG σ p) (zL σ)))) (by omega) (fu_gt (by omega)) (M1.of rfl (fun _ => rfl)) (by
        obtain ⟨N, key, way, c1, c2, c3, c4⟩ := T
        exact ⟨N, key, way, ⟨c1.1, c1.2.1, fun s hs2 => ⟨(c1.2.2 s hs2).1, by rw [gL_sL, if_neg (by omega)]; exact (c1.2.2 s hs2).2⟩⟩, c2, c3, by rw [gL_sL, if_neg (by omega)]; exact c4⟩) (fun p' hp' => ⟨by rw [gL_sL, if_neg (by omega)]; exact (hD1 p' hp').1, fun y hy => by rw [gL_sL, if_neg (by omega)]; exact (hD1 p' hp').2 y hy⟩) (gL_same _ _ _ _) (fun y hy => by omega)
      obtain ⟨w3, c1⟩ := ih (p + 1) n w2 (by omega) (by omega) b2 b3 ⟨p0, by
        have : p0 ≠ p := fun q => h3 (by rw [q]; exact hA)
        omega, h2, h3⟩
      refine ⟨w3, ?_⟩
      rw [f_X9_likely_36, if_pos (show inb _ _ from by decide), show ix (17 : Int32) = 17 from by decide, M.2.2.2.1, if_neg (fun q9 => absurd ((le_nI (by omega) (by omega)).mp q9) (by omega)), if_pos (show inb _ _ from by decide), show ix (1 : Int32) = 1 from by decide, M.2.2.1, a1, bind_some', if_neg one_ne, if_pos ((inb_nI (by omega)).mpr (by omega)), ix_nI (by omega)]
      dsimp only
      rw [hal]
      exact b1.trans c1
    · obtain ⟨w1, a1⟩ := (laysBy9 hs M (p := p) (by omega) hs.2.1).2 hA
      refine ⟨w1, ?_⟩
      rw [f_X9_likely_36, if_pos (show inb _ _ from by decide), show ix (17 : Int32) = 17 from by decide, M.2.2.2.1, if_neg (fun q9 => absurd ((le_nI (by omega) (by omega)).mp q9) (by omega)), if_pos (show inb _ _ from by decide), show ix (1 : Int32) = 1 from by decide, M.2.2.1, a1, bind_some', if_pos rfl]; rfl
theorem big30 {n : Nat} (hn : n ≤ 8) : (1000000000000000 * 1000000000000000) ^ n < 1000000000 ^ 60 := by
  have h1 : (1000000000000000 * 1000000000000000 : Nat) ^ n ≤ (1000000000000000 * 1000000000000000) ^ 8 := Nat.pow_le_pow_right (by decide) hn
  have h2 : (1000000000000000 * 1000000000000000 : Nat) ^ 8 < 1000000000 ^ 60 := by decide
  exact Nat.lt_of_le_of_lt h1 h2
/-- a porter's lays against another's -/
noncomputable def vsS (σ : HS) (p q : Nat) : Nat → Nat := fun y => lyW σ p (zL σ) y * alS (zE σ) (zR σ q) (zG σ q) (zL σ)
theorem vs_le (hs : HSok σ) {p q : Nat} (hp : p < zP σ) (hq : q < zP σ) (hA : ∀ p, p < zP σ → alS (zE σ) (zR σ p) (zG σ p) (zL σ) ≤ 1000000000000000) : ∀ n, n ≤ 8 → prN (vsS σ p q) n ≤ (1000000000000000 * 1000000000000000) ^ n := by
  intro n _
  refine prN_le n (fun y _ => ?_)
  unfold vsS
  have h1 := lyW_le (p := p) (k := zL σ) (y := y) hs
  have h2 := hA p hp
  exact Nat.mul_le_mul (by omega) (hA q hq)
theorem ikl (hs : HSok σ) {p q : Nat} (hp : p < zP σ) (hq : q < zP σ) (hA : ∀ p, p < zP σ → alS (zE σ) (zR σ p) (zG σ p) (zL σ) ≤ 1000000000000000) : ∀ d i n (w : GW), i + d = zY σ → d < n → MHl w σ → LD σ w (zP σ) → BG w 144 (prN (vsS σ p q) i) → BG w 145 (prN (vsS σ q p) i) → ∃ w', f_X9_isLikelier_16 n (nI p) (nI q) (nI i) w = some (if prN (vsS σ q p) (zY σ) < prN (vsS σ p q) (zY σ) then 1 else 0, w') ∧ MHl w' σ ∧ LD σ w' (zP σ) ∧ gI w' 130 11 = gI w 130 11 := by
  intro d
  induction d with
  | zero =>
    intro i n w hi hn M hD h1 h2
    obtain ⟨n, rfl⟩ : ∃ m9, n = m9 + 1 := ⟨n - 1, by omega⟩
    have hY := hs.2.2.2.1
    have : i = zY σ := by omega
    subst this
    refine ⟨w, ?_, M, hD, rfl⟩
    rw [f_X9_isLikelier_16, if_pos (show inb _ _ from by decide), show ix (39 : Int32) = 39 from by decide, M.2.2.2.2.1, if_pos ((le_nI (by omega) (by omega)).mpr (by omega)), compareBig h1 h2, bind_some']
    dsimp only
    unfold cmI
    by_cases z : prN (vsS σ p q) (zY σ) = prN (vsS σ q p) (zY σ)
    · rw [if_pos z, if_pos (by decide), if_neg (by omega)]
    · rw [if_neg z]
      by_cases y : prN (vsS σ p q) (zY σ) < prN (vsS σ q p) (zY σ)
      · rw [if_pos y, if_pos (by decide), if_neg (by omega)]
      · rw [if_neg y, if_neg (by decide), if_pos (by omega)]
  | succ d ih =>
    intro i n w hi hn M hD h1 h2
    obtain ⟨n, rfl⟩ : ∃ m9, n = m9 + 1 := ⟨n - 1, by omega⟩
    have hY := hs.2.2.2.1
    have h6 := hs.2.2.1.2
    have hlp := lyW_le (p := p) (k := zL σ) (y := i) hs
    have hlq := lyW_le (p := q) (k := zL σ) (y := i) hs
    have hap := hA p hp
    have haq := hA q hq
    have a1 : prN (vsS σ p q) (i + 1) < 1000000000 ^ 60 := Nat.lt_of_le_of_lt (vs_le hs hp hq hA (i + 1) (by omega)) (big30 (by omega))
    have a2 : prN (vsS σ q p) (i + 1) < 1000000000 ^ 60 := Nat.lt_of_le_of_lt (vs_le hs hq hp hA (i + 1) (by omega)) (big30 (by omega))
    have pq := alS_p (r := zR σ q) hs (hs.2.2.2.2.1 q).1.1 (hs.2.2.2.2.1 q).1.2 (zL σ)
    have pp := alS_p (r := zR σ p) hs (hs.2.2.2.2.1 p).1.1 (hs.2.2.2.2.1 p).1.2 (zL σ)
    rw [prN] at a1 a2
    have a1' : prN (vsS σ p q) i * lyW σ p (zL σ) i < 1000000000 ^ 60 := Nat.lt_of_le_of_lt (Nat.mul_le_mul_left _ (Nat.le_mul_of_pos_right _ pq)) a1
    have a2' : prN (vsS σ q p) i * lyW σ q (zL σ) i < 1000000000 ^ 60 := Nat.lt_of_le_of_lt (Nat.mul_le_mul_left _ (Nat.le_mul_of_pos_right _ pp)) a2
    obtain ⟨w1, b1, B1⟩ := timesBig (by decide) h1 (show lyW σ p (zL σ) i < 9223372036854775808 by omega) a1'
    have S1 := fr_X9_timesBig _ _ _ b1
    obtain ⟨w2, b2, B2⟩ := timesBig (x := alS (zE σ) (zR σ q) (zG σ q) (zL σ)) (by decide) B1 (by omega) (by rw [Nat.mul_assoc]; exact a1)
    have S2 := fr_X9_timesBig _ _ _ b2
    obtain ⟨w3, b3, B3⟩ := timesBig (by decide) ((h2.sm S1 (fun _ => rfl)).sm S2 (fun _ => rfl)) (show lyW σ q (zL σ) i < 9223372036854775808 by omega) a2'
    have S3 := fr_X9_timesBig _ _ _ b3
    obtain ⟨w4, b4, B4⟩ := timesBig (x := alS (zE σ) (zR σ p) (zG σ p) (zL σ)) (by decide) B3 (by omega) (by rw [Nat.mul_assoc]; exact a2)
    have S4 := fr_X9_timesBig _ _ _ b4
    have D1 := hD.sm S1 (fun _ => rfl) (fun _ => rfl)
    have D2 := D1.sm S2 (fun _ => rfl) (fun _ => rfl)
    have D3 := D2.sm S3 (fun _ => rfl) (fun _ => rfl)
    have D4 := D3.sm S4 (fun _ => rfl) (fun _ => rfl)
    have M4 : MHl w4 σ := (((M.km (KM.sm S1 (by decide) rfl)).km (KM.sm S2 (by decide) rfl)).km (KM.sm S3 (by decide) rfl)).km (KM.sm S4 (by decide) rfl)
    rw [Nat.mul_assoc] at B2 B4
    obtain ⟨w', e1, e2, e3, e4⟩ := ih (i + 1) n w4 (by omega) (by omega) M4 D4 ((B2.sm S3 (fun _ => rfl)).sm S4 (fun _ => rfl)) B4
    refine ⟨w', ?_, e2, e3, by rw [e4, S4.I 130 11 rfl, S3.I 130 11 rfl, S2.I 130 11 rfl, S1.I 130 11 rfl]⟩
    rw [f_X9_isLikelier_16, if_pos (show inb _ _ from by decide), show ix (39 : Int32) = 39 from by decide, M.2.2.2.2.1, if_neg (fun q9 => absurd ((le_nI (by omega) (by omega)).mp q9) (by omega)), show (8 : Int32) = nI 8 from rfl, pk_mul, nI_add, if_pos ((inb_nI (by omega)).mpr (by omega)), ix_nI (by omega), (hD p hp).2 i (by omega), b1, bind_some', if_pos ((inb_nI (by omega)).mpr (by omega)), ix_nI (by omega)]
    dsimp only
    rw [(D1 q hq).1, b2, bind_some', pk_mul, nI_add, if_pos ((inb_nI (by omega)).mpr (by omega)), ix_nI (by omega)]
    dsimp only
    rw [(D2 q hq).2 i (by omega), b3, bind_some', if_pos ((inb_nI (by omega)).mpr (by omega)), ix_nI (by omega)]
    dsimp only
    rw [(D3 p hp).1, b4, bind_some', nI_1]
    exact e1
theorem ikl0 (hs : HSok σ) {p q : Nat} (hp : p < zP σ) (hq : q < zP σ) (hA : ∀ p, p < zP σ → alS (zE σ) (zR σ p) (zG σ p) (zL σ) ≤ 1000000000000000) {w : GW} (M : MHl w σ) (hD : LD σ w (zP σ)) : ∃ w', f_X9_isLikelier (nI p) (nI q) w = some (if prN (vsS σ q p) (zY σ) < prN (vsS σ p q) (zY σ) then 1 else 0, w') ∧ MHl w' σ ∧ LD σ w' (zP σ) ∧ gI w' 130 11 = gI w 130 11 := by
  obtain ⟨w1, b1, B1⟩ := setBig (w := w) (k := 144)
  have S1 := fr_X9_setBig _ _ b1
  obtain ⟨w2, b2, B2⟩ := setBig (w := w1) (k := 145)
  have S2 := fr_X9_setBig _ _ b2
  obtain ⟨w', e1, e2, e3, e4⟩ := ikl hs hp hq hA (zY σ) 0 fu w2 (by omega) (by have := hs.2.2.2.1; exact (fu_gt (by omega))) ((M.km (KM.sm S1 (by decide) rfl)).km (KM.sm S2 (by decide) rfl)) ((hD.sm S1 (fun _ => rfl) (fun _ => rfl)).sm S2 (fun _ => rfl) (fun _ => rfl)) (B1.sm S2 (fun _ => rfl)) B2
  refine ⟨w', ?_, e2, e3, by rw [e4, S2.I 130 11 rfl, S1.I 130 11 rfl]⟩
  rw [f_X9_isLikelier, b1, bind_some']
  dsimp only
  rw [b2, bind_some']
  exact e1
theorem nI_m2 {q : Nat} (hq : q < 1000) : ¬ nI q = -2 := by
  intro h
  have := congrArg Int32.toInt h
  rw [nI_toInt (by omega)] at this
  have e : (-2 : Int32).toInt = -2 := rfl
  omega
/-- the class's product and the reference's two agree -/
theorem fk_EL (hs : HSok σ) {w8 : GW} (C : CQ w8 σ) {p : Nat} (hp : p < zP σ) (hA : ∀ p, p < zP σ → alS (zE σ) (zR σ p) (zG σ p) (zL σ) ≤ 1000000000000000) (y : Nat) : lyW σ p (zL σ) y * mxS σ (zP σ) = alS (zE σ) (zR σ p) (zG σ p) (zL σ) * fkS σ (mxS σ (zP σ)) p y := by
  obtain ⟨w1, _, a2, _, a4⟩ := ofP8 C hp
  have C1 : CQ w1 σ := C.kc (by assumption) a4
  have hpk := pkV hs y
  obtain ⟨_, _, _, _, _, _, h6, _⟩ := cntY C1 (y := y) hp (hA p hp) a2 hpk rfl
  obtain ⟨t1, t2, t3⟩ := ax_tm hs hp
  unfold fkS
  rw [← Nat.mul_assoc, ← h6, Nat.mul_assoc, t1]
theorem vs_fk (hs : HSok σ) {w8 : GW} (C : CQ w8 σ) {p q : Nat} (hp : p < zP σ) (hq : q < zP σ) (hA : ∀ p, p < zP σ → alS (zE σ) (zR σ p) (zG σ p) (zL σ) ≤ 1000000000000000) (n : Nat) : prN (vsS σ p q) n * mxS σ (zP σ) ^ n = (alS (zE σ) (zR σ p) (zG σ p) (zL σ) * alS (zE σ) (zR σ q) (zG σ q) (zL σ)) ^ n * prN (fkS σ (mxS σ (zP σ)) p) n := by
  induction n with
  | zero => rfl
  | succ n ih =>
    have e := fk_EL hs C hp hA n
    rw [prN, prN, Nat.pow_succ, Nat.pow_succ]
    have e2 : vsS σ p q n * mxS σ (zP σ) = alS (zE σ) (zR σ p) (zG σ p) (zL σ) * alS (zE σ) (zR σ q) (zG σ q) (zL σ) * fkS σ (mxS σ (zP σ)) p n := by
      unfold vsS
      rw [Nat.mul_right_comm, e, Nat.mul_right_comm]
    have e3 : prN (vsS σ p q) n * vsS σ p q n * (mxS σ (zP σ) ^ n * mxS σ (zP σ)) = (prN (vsS σ p q) n * mxS σ (zP σ) ^ n) * (vsS σ p q n * mxS σ (zP σ)) := by ac_rfl
    rw [e3, ih, e2]
    generalize alS (zE σ) (zR σ p) (zG σ p) (zL σ) * alS (zE σ) (zR σ q) (zG σ q) (zL σ) = Z
    generalize Z ^ n = Z2
    ac_rfl
theorem vs_lt (hs : HSok σ) {w8 : GW} (C : CQ w8 σ) {p q : Nat} (hp : p < zP σ) (hq : q < zP σ) (hA : ∀ p, p < zP σ → alS (zE σ) (zR σ p) (zG σ p) (zL σ) ≤ 1000000000000000) (n : Nat) : prN (vsS σ q p) n < prN (vsS σ p q) n ↔ prN (fkS σ (mxS σ (zP σ)) q) n < prN (fkS σ (mxS σ (zP σ)) p) n := by
  have e1 := vs_fk hs C hp hq hA n
  have e2 := vs_fk hs C hq hp hA n
  have hX : 0 < mxS σ (zP σ) ^ n := Nat.pow_pos (ax_tm hs hp).2.1
  have pq := alS_p (r := zR σ q) hs (hs.2.2.2.2.1 q).1.1 (hs.2.2.2.2.1 q).1.2 (zL σ)
  have pp := alS_p (r := zR σ p) hs (hs.2.2.2.2.1 p).1.1 (hs.2.2.2.2.1 p).1.2 (zL σ)
  have hZ : 0 < (alS (zE σ) (zR σ p) (zG σ p) (zL σ) * alS (zE σ) (zR σ q) (zG σ q) (zL σ)) ^ n := Nat.pow_pos (Nat.mul_pos pp pq)
  rw [Nat.mul_comm (alS (zE σ) (zR σ q) (zG σ q) (zL σ))] at e2
  constructor
  · intro h
    have := Nat.mul_lt_mul_of_pos_right h hX
    rw [e1, e2] at this
    exact Nat.lt_of_mul_lt_mul_left this
  · intro h
    have := Nat.mul_lt_mul_of_pos_left h hZ
    rw [← e1, ← e2] at this
    exact Nat.lt_of_mul_lt_mul_right this
theorem ly_pos (hs : HSok σ) {w8 : GW} (C : CQ w8 σ) {p : Nat} (hp : p < zP σ) (hA : ∀ p, p < zP σ → alS (zE σ) (zR σ p) (zG σ p) (zL σ) ≤ 1000000000000000) (y : Nat) : 0 < lyW σ p (zL σ) y ↔ 0 < fkS σ (mxS σ (zP σ)) p y := by
  have e := fk_EL hs C hp hA y
  have hX := (ax_tm hs hp).2.1
  have pp := alS_p (r := zR σ p) hs (hs.2.2.2.2.1 p).1.1 (hs.2.2.2.2.1 p).1.2 (zL σ)
  constructor
  · intro h
    have h2 := Nat.mul_pos h hX
    rw [e] at h2
    exact Nat.pos_of_mul_pos_left h2
  · intro h
    have h2 := Nat.mul_pos pp h
    rw [← e] at h2
    exact Nat.pos_of_mul_pos_right h2
theorem m139 (hs : HSok σ) {w8 : GW} (C : CQ w8 σ) {p : Nat} (hp : p < zP σ) (hA : ∀ p, p < zP σ → alS (zE σ) (zR σ p) (zG σ p) (zL σ) ≤ 1000000000000000) {kk : Int32 → Int32 → GW → Option (Int32 × GW)} {o : Option Nat} (ho : ∀ q, o = some q → q < zP σ) {w : GW} (M : MHl w σ) (hD : LD σ w (zP σ)) : ∀ d i n fl, i + d = zY σ → d < n → (fl = 0 ∨ fl = 1) → (fl = 1 ↔ ∀ y, y < i → 0 < lyW σ p (zL σ) y) → ∃ w', f_X9_likely_139 kk n (lkI o) (nI p) (nI fl) (nI i) w = kk (lkI (if lkG (fun p => prN (fkS σ (mxS σ (zP σ)) p) (zY σ)) o < prN (fkS σ (mxS σ (zP σ)) p) (zY σ) then some p else o)) (nI (p + 1)) w' ∧ MHl w' σ ∧ LD σ w' (zP σ) ∧ gI w' 130 11 = gI w 130 11 := by
  intro d
  induction d with
  | zero =>
    intro i n fl hi hn hf hall
    obtain ⟨n, rfl⟩ : ∃ m9, n = m9 + 1 := ⟨n - 1, by omega⟩
    have hY := hs.2.2.2.1
    have h6 := hs.2.2.1.2
    have : i = zY σ := by omega
    subst this
    have hc : fl = 1 ↔ 0 < prN (fkS σ (mxS σ (zP σ)) p) (zY σ) := by
      rw [hall, prN_pos]
      exact ⟨fun h y hy => (ly_pos hs C hp hA y).mp (h y hy), fun h y hy => (ly_pos hs C hp hA y).mpr (h y hy)⟩
    rcases hf with rfl | rfl
    · have h0 : ¬ 0 < prN (fkS σ (mxS σ (zP σ)) p) (zY σ) := fun z => absurd (hc.mpr z) (by omega)
      rw [if_neg (by omega)]
      refine ⟨w, ?_, M, hD, rfl⟩
      rw [f_X9_likely_139, if_pos (show inb _ _ from by decide), show ix (39 : Int32) = 39 from by decide, M.2.2.2.2.1, if_pos ((le_nI (by omega) (by omega)).mpr (by omega)), if_pos (show nI 0 = 0 from rfl), f_X9_likely_205, nI_1]
    · have h0 := hc.mp rfl
      cases o with
      | none =>
        have hlt : lkG (fun p => prN (fkS σ (mxS σ (zP σ)) p) (zY σ)) none < prN (fkS σ (mxS σ (zP σ)) p) (zY σ) := h0
        rw [if_pos hlt]
        refine ⟨w, ?_, M, hD, rfl⟩
        rw [f_X9_likely_139, if_pos (show inb _ _ from by decide), show ix (39 : Int32) = 39 from by decide, M.2.2.2.2.1, if_pos ((le_nI (by omega) (by omega)).mpr (by omega)), if_neg (show ¬ nI 1 = 0 from one_ne), if_pos (show lkI none = -2 from rfl), f_X9_likely_203, f_X9_likely_205, nI_1]
        rfl
      | some q =>
        have hq := ho q rfl
        obtain ⟨w1, a1, a2, a3, a4⟩ := ikl0 hs hp hq hA M hD
        refine ⟨w1, ?_, a2, a3, a4⟩
        have hv := vs_lt hs C hp hq hA (zY σ)
        have e : f_X9_likely_139 kk (n + 1) (lkI (some q)) (nI p) (nI 1) (nI (zY σ)) w = if (if prN (vsS σ q p) (zY σ) < prN (vsS σ p q) (zY σ) then (1 : Int32) else 0) = 0 then f_X9_likely_205 kk (nI q) (nI p) w1 else f_X9_likely_203 kk (nI p) w1 := by
          rw [f_X9_likely_139, if_pos (show inb _ _ from by decide), show ix (39 : Int32) = 39 from by decide, M.2.2.2.2.1, if_pos ((le_nI (by omega) (by omega)).mpr (by omega)), if_neg (show ¬ nI 1 = 0 from one_ne), if_neg (show ¬ lkI (some q) = -2 from nI_m2 (by omega)), show lkI (some q) = nI q from rfl, a1, bind_some']
        rw [e]
        by_cases z : prN (fkS σ (mxS σ (zP σ)) q) (zY σ) < prN (fkS σ (mxS σ (zP σ)) p) (zY σ)
        · rw [if_pos (hv.mpr z), if_neg one_ne, f_X9_likely_203, f_X9_likely_205, nI_1]
          rw [if_pos (show lkG (fun p => prN (fkS σ (mxS σ (zP σ)) p) (zY σ)) (some q) < _ from z)]
          rfl
        · rw [if_neg (fun y => z (hv.mp y)), if_pos rfl, f_X9_likely_205, nI_1]
          rw [if_neg (show ¬ lkG (fun p => prN (fkS σ (mxS σ (zP σ)) p) (zY σ)) (some q) < _ from z)]
          rfl
  | succ d ih =>
    intro i n fl hi hn hf hall
    obtain ⟨n, rfl⟩ : ∃ m9, n = m9 + 1 := ⟨n - 1, by omega⟩
    have hY := hs.2.2.2.1
    have h6 := hs.2.2.1.2
    rcases hf with rfl | rfl
    · rw [f_X9_likely_139, if_pos (show inb _ _ from by decide), show ix (39 : Int32) = 39 from by decide, M.2.2.2.2.1, if_neg (fun q9 => absurd ((le_nI (by omega) (by omega)).mp q9) (by omega)), if_pos (show nI 0 = 0 from rfl), f_X9_likely_176, f_X9_likely_177, nI_1]
      exact ih (i + 1) n 0 (by omega) (by omega) (Or.inl rfl) ⟨fun q => by omega, fun q => absurd (hall.mpr (fun y hy => q y (by omega))) (by omega)⟩
    · have hle := lyW_le (p := p) (k := zL σ) (y := i) hs
      have hap := hA p hp
      rw [f_X9_likely_139, if_pos (show inb _ _ from by decide), show ix (39 : Int32) = 39 from by decide, M.2.2.2.2.1, if_neg (fun q9 => absurd ((le_nI (by omega) (by omega)).mp q9) (by omega)), if_neg (show ¬ nI 1 = 0 from one_ne), show (8 : Int32) = nI 8 from rfl, pk_mul, nI_add, if_pos ((inb_nI (by omega)).mpr (by omega)), ix_nI (by omega), (hD p hp).2 i (by omega)]
      by_cases z : lyW σ p (zL σ) i = 0
      · rw [if_pos ((lle0 (by omega)).mpr z), f_X9_likely_176, f_X9_likely_177, nI_1]
        exact ih (i + 1) n 0 (by omega) (by omega) (Or.inl rfl) ⟨fun q => by omega, fun q => by have := q i (by omega); omega⟩
      · rw [if_neg (fun y => z ((lle0 (by omega)).mp y)), f_X9_likely_177, nI_1]
        exact ih (i + 1) n 1 (by omega) (by omega) (Or.inr rfl) ⟨fun _ y hy => by
          by_cases x : y = i
          · subst x; omega
          · exact hall.mp rfl y (by omega), fun _ => rfl⟩
theorem m123 (hs : HSok σ) {w8 : GW} (C : CQ w8 σ) (hA : ∀ p, p < zP σ → alS (zE σ) (zR σ p) (zG σ p) (zL σ) ≤ 1000000000000000) : ∀ d p n (w : GW), p + d = zP σ → d < n → MHl w σ → LD σ w (zP σ) → ∃ w', f_X9_likely_123 n (lkI (lkF (fun p => prN (fkS σ (mxS σ (zP σ)) p) (zY σ)) p)) (nI p) w = some (lkI (lkF (fun p => prN (fkS σ (mxS σ (zP σ)) p) (zY σ)) (zP σ)), w') ∧ gI w' 130 11 = gI w 130 11 := by
  intro d
  induction d with
  | zero =>
    intro p n w hp hn M hD
    obtain ⟨n, rfl⟩ : ∃ m9, n = m9 + 1 := ⟨n - 1, by omega⟩
    have h6 := hs.2.2.1.2
    have : p = zP σ := by omega
    subst this
    refine ⟨w, ?_, rfl⟩
    rw [f_X9_likely_123, if_pos (show inb _ _ from by decide), show ix (17 : Int32) = 17 from by decide, M.2.2.2.1, if_pos ((le_nI (by omega) (by omega)).mpr (by omega))]
  | succ d ih =>
    intro p n w hp hn M hD
    obtain ⟨n, rfl⟩ : ∃ m9, n = m9 + 1 := ⟨n - 1, by omega⟩
    have h6 := hs.2.2.1.2
    obtain ⟨w1, a1, a2, a3, a4⟩ := m139 (kk := f_X9_likely_123 n) hs C (p := p) (by omega) hA (o := lkF (fun p => prN (fkS σ (mxS σ (zP σ)) p) (zY σ)) p) (fun q hq => by have := (lkF_lt _ p q hq).1; omega) M hD (zY σ) 0 fu 1 (by omega) (by have := hs.2.2.2.1; exact (fu_gt (by omega))) (Or.inr rfl) ⟨fun _ y hy => by omega, fun _ => rfl⟩
    obtain ⟨w2, b1, b2⟩ := ih (p + 1) n w1 (by omega) (by omega) a2 a3
    refine ⟨w2, ?_, b2.trans a4⟩
    rw [f_X9_likely_123, if_pos (show inb _ _ from by decide), show ix (17 : Int32) = 17 from by decide, M.2.2.2.1, if_neg (fun q9 => absurd ((le_nI (by omega) (by omega)).mp q9) (by omega))]
    exact a1.trans b1
theorem q_likely (C : CQ w σ) (M : MHl w σ) : QAg w σ f_X8_likely f_X9_likely := by
  have hs := C.1
  have hY := hs.2.2.2.1
  have K : ∀ z, f_X8_likely w = some z → KC w z.2 := fun z hz => KC.sm (fr_X8_likely _ hz) (by decide) (by decide)
  by_cases hY0 : zY σ = 0
  · refine QAg.mk M (-1) 6 (rf8 C ?_) K (fun w1 M1 => ?_)
    · rw [f_X8_likely, C.2.1.1, if_neg one_ne, C.2.1.2.2.2.2.1, hY0, if_pos (show nI 0 = 0 from rfl)]; rfl
    · refine rf9 (w0 := gd9 w1) ?_
      rw [f_X9_likely, good9, bind_some', show gI (gd9 w1) 130 14 = 1 from M1.gd.1, if_neg one_ne, if_pos (show inb _ _ from by decide), show ix (39 : Int32) = 39 from by decide, M1.gd.2.2.2.2.1, hY0, if_pos (show nI 0 = 0 from rfl)]; rfl
  have e8 : f_X8_likely w = f_X8_likely_35 fu 0 w := by
    rw [f_X8_likely, C.2.1.1, if_neg one_ne, C.2.1.2.2.2.2.1, if_neg (fun z => hY0 ((eq0 (by omega)).mp z))]
  have e9 : ∀ w1, MHl w1 σ → f_X9_likely w1 = f_X9_likely_36 fu 0 (gd9 w1) := by
    intro w1 M1
    rw [f_X9_likely, good9, bind_some', show gI (gd9 w1) 130 14 = 1 from M1.gd.1, if_neg one_ne, if_pos (show inb _ _ from by decide), show ix (39 : Int32) = 39 from by decide, M1.gd.2.2.2.2.1, if_neg (fun z => hY0 ((eq0 (by omega)).mp z))]
  by_cases hA : ∀ p, p < zP σ → alS (zE σ) (zR σ p) (zG σ p) (zL σ) ≤ 1000000000000000
  · obtain ⟨w1, a1, a2, a3⟩ := lk35_t hA (zP σ) 0 fu w (by omega) (by have := hs.2.2.1; exact (fu_gt (by omega))) C
    refine QAg.mk M _ 0 ⟨w1, e8.trans a1, a2, a3⟩ K (fun w2 M2 => ?_)
    obtain ⟨w3, b1, b2, b3, b4⟩ := m36_t hs hA (zP σ) 0 fu (gd9 w2) (by omega) (by have := hs.2.2.1; exact (fu_gt (by omega))) M2.gd (fun p hp => by omega)
    obtain ⟨w4, c1, c2⟩ := m123 hs C hA (zP σ) 0 fu w3 (by omega) (by have := hs.2.2.1; exact (fu_gt (by omega))) b2 b3
    refine ⟨w4, ?_, by rw [c2, b4]; exact gd9_t⟩
    rw [e9 w2 M2]
    exact b1.trans c1
  · have ⟨p0, h0⟩ := Classical.not_forall.mp hA
    have ⟨h1, h2⟩ := Classical.not_imp.mp h0
    refine QAg.mk M (-1) 3 (rf8 C (e8.trans (lk35_f (zP σ) 0 fu w (by omega) (by have := hs.2.2.1; exact (fu_gt (by omega))) C ⟨p0, Nat.zero_le _, h1, h2⟩))) K (fun w2 M2 => ?_)
    obtain ⟨w3, b1⟩ := m36_f hs (zP σ) 0 fu (gd9 w2) (by omega) (by have := hs.2.2.1; exact (fu_gt (by omega))) M2.gd (fun p hp => by omega) ⟨p0, Nat.zero_le _, h1, h2⟩
    exact rf9 (w0 := w3) ((e9 w2 M2).trans b1)
end L9
