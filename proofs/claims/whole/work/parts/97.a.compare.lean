/-! two porters side by side -/
/-- letters that aren't the door's -/
noncomputable def ndS (η : HP) : Nat → Nat
  | 0 => 0
  | n + 1 => ndS η n + @ite _ (drS (pE η) (n + 1)) (Classical.propDecidable _) 0 1
theorem alS_pow {η : HP} {r g : Nat} : ∀ n, alS η r g n = PF η r g n * sm (pB η) (pW η) ^ (g * ndS η n) := by
  intro n
  induction n with
  | zero => rw [alS, PF, ndS, Nat.mul_zero, Nat.pow_zero]
  | succ n ih =>
    rw [alS, PF, ndS, ih]
    rcases drS_dec (pE η) (n + 1) with q | q
    · unfold fcS
      rw [if_pos q, if_pos q, if_pos q, Nat.mul_one, Nat.mul_one, Nat.add_zero]
    · unfold fcS
      rw [if_neg q, if_neg q, if_neg q, Nat.mul_add, Nat.mul_one, Nat.pow_add]
      unfold WY
      generalize sm (pB η) (pW η) ^ (g * ndS η n) = X
      generalize sm (pB η) (pW η) ^ g = Z
      rw [Nat.mul_assoc, Nat.mul_assoc, ← Nat.mul_assoc X, Nat.mul_comm (X * Z)]
theorem al_pow {η : HP} {r g l al : Nat} (hg1 : 1 ≤ g) (h : PF η r g l * al = alS η r g l) : al = sm (pB η) (pW η) ^ (g * ndS η l) := by
  rw [alS_pow] at h
  exact Nat.eq_of_mul_eq_mul_left (PF_pos hg1 l) h
def tmS (a b : Nat) : Nat := if 0 < a ∧ a < b then b / a else 1
theorem times8 {w : GW} {a b : Nat} (ha : a < 9223372036854775808) (hb : b < 9223372036854775808) : f_X8_times (lN a) (lN b) w = some (lN (tmS a b), w) := by
  rw [f_X8_times]
  unfold tmS
  by_cases h : a = 0
  · rw [if_pos ((lle0 ha).mpr h), if_neg (by omega)]; rfl
  · rw [if_neg (fun z => h ((lle0 ha).mp z))]
    by_cases h2 : b ≤ a
    · rw [if_pos ((lle hb ha).mpr h2), if_neg (by omega)]; rfl
    · rw [if_neg (fun z => h2 ((lle hb ha).mp z)), if_pos (fun z => h ((leq0 ha).mp z)), div_lN hb (by omega) ha, if_pos (by omega)]
theorem tm_pow {S a b : Nat} (hS : 1 ≤ S) : S ^ a * tmS (S ^ a) (S ^ b) = S ^ (max a b) := by
  have hp : 0 < S ^ a := Nat.pow_pos hS
  unfold tmS
  by_cases h : S ^ a < S ^ b
  · have hab : a < b := by
      rcases Nat.lt_or_ge a b with z | z
      · exact z
      · exact absurd (Nat.pow_le_pow_right hS z) (by omega)
    rw [if_pos ⟨hp, h⟩, Nat.max_eq_right (by omega)]
    have e : S ^ b = S ^ a * S ^ (b - a) := by rw [← Nat.pow_add]; congr 1; omega
    rw [e, Nat.mul_div_cancel_left _ hp]
  · rw [if_neg (fun z => h z.2), Nat.mul_one]
    rcases Nat.le_total b a with z | z
    · rw [Nat.max_eq_left z]
    · rw [Nat.max_eq_right z]
      have := Nat.pow_le_pow_right hS z
      omega
theorem cmI_mul {a b c : Nat} (hc : 0 < c) : cmI (a * c) (b * c) = cmI a b := by
  unfold cmI
  by_cases h : a = b
  · rw [if_pos h, if_pos (by rw [h])]
  · rw [if_neg h, if_neg (fun z => h (Nat.eq_of_mul_eq_mul_right hc z))]
    by_cases h2 : a < b
    · rw [if_pos h2, if_pos (Nat.mul_lt_mul_of_pos_right h2 hc)]
    · rw [if_neg h2, if_neg (fun z => h2 (Nat.lt_of_mul_lt_mul_right z))]
section CP
variable {σ : HS} {w : GW}
/-- a count is in proportion the reference's -/
theorem up_EL (hs : HSok σ) {r h g k up al : Nat} (hg1 : 1 ≤ g) (hg : g ≤ 3) (hk : k ≤ 8) {G : (Nat → Nat) → Nat} (h1 : PF (zE σ) r g (ltS2 (zE σ) k) * al = alS (zE σ) r g (ltS2 (zE σ) k)) (h2 : PF (zE σ) r g (ltS2 (zE σ) k) * up = EL (zE σ) r h g (ltS2 (zE σ) k) (fun x => G (dV x))) : EL (zE σ) r h g k (fun x => G (dV x)) * al = alS (zE σ) r g k * up := by
  have e := EL_full (r := r) (h := h) hs.1 hg1 hg hk G
  rw [← h1, ← h2] at e
  refine Nat.eq_of_mul_eq_mul_left (PF_pos (η := zE σ) (r := r) hg1 (ltS2 (zE σ) k)) ?_
  rw [Nat.mul_left_comm, e, Nat.mul_left_comm]
theorem cmp_eq {e1 e2 A1 A2 u1 u2 a1 a2 t1 t2 X : Nat} (hA1 : 0 < A1) (hA2 : 0 < A2) (ha1 : 0 < a1) (ha2 : 0 < a2) (hX : 0 < X) (h1 : e1 * a1 = A1 * u1) (h2 : e2 * a2 = A2 * u2) (x1 : a1 * t1 = X) (x2 : a2 * t2 = X) : cmI (u1 * t1) (u2 * t2) = cmI (e1 * A2) (e2 * A1) := by
  have q1 : u1 * t1 * (a1 * a2) = u1 * a2 * X := by rw [← x1]; ac_rfl
  have q2 : u2 * t2 * (a1 * a2) = u2 * a1 * X := by rw [← x2]; ac_rfl
  have q3 : e1 * A2 * (a1 * a2) = u1 * a2 * (A1 * A2) := by
    have : e1 * A2 * (a1 * a2) = e1 * a1 * (A2 * a2) := by ac_rfl
    rw [this, h1]; ac_rfl
  have q4 : e2 * A1 * (a1 * a2) = u2 * a1 * (A1 * A2) := by
    have : e2 * A1 * (a1 * a2) = e2 * a2 * (A1 * a1) := by ac_rfl
    rw [this, h2]; ac_rfl
  have hp : 0 < a1 * a2 := Nat.mul_pos ha1 ha2
  rw [← cmI_mul hp, q1, q2, cmI_mul hX, ← cmI_mul (Nat.mul_pos hA1 hA2), ← q3, ← q4, cmI_mul hp]
theorem up_le1 (hs : HSok σ) {r h g l up al asked x y : Nat} (hg1 : 1 ≤ g) (hg : g ≤ 3) (ha : 4 ≤ asked) (h1 : PF (zE σ) r g l * al = alS (zE σ) r g l) (h2 : PF (zE σ) r g l * up = EL (zE σ) r h g l (fun z => wo (zE σ) asked x y (dV z))) : up ≤ 1 * al := by
  refine up_le hs.1 hg1 hg (G := fun u => wo (zE σ) asked x y u) (fun z _ => ?_) h1 h2
  unfold wo
  rw [if_neg (by omega), if_neg (by omega), if_neg (by omega), if_neg (by omega)]
  repeat' split
  all_goals omega
theorem al_le (hs : HSok σ) {r g k al : Nat} (hg1 : 1 ≤ g) (hg : g ≤ 3) (hA : alS (zE σ) r g k ≤ 1000000000000000) (h1 : PF (zE σ) r g (ltS2 (zE σ) k) * al = alS (zE σ) r g (ltS2 (zE σ) k)) : al ≤ 1000000000000000 := by
  have := Nat.le_mul_of_pos_left al (PF_pos (η := zE σ) (r := r) hg1 (ltS2 (zE σ) k))
  have h7 := alS_m (r := r) hs.1 hg1 hg (ltS2_k (η := zE σ) k)
  omega
theorem ELw_le (hs : HSok σ) {r h g k m : Nat} (hg1 : 1 ≤ g) (hg : g ≤ 3) : EL (zE σ) r h g k (fun x => wo (zE σ) 4 m 0 (dV x)) ≤ 1 * alS (zE σ) r g k := by
  refine EL_lt hs hg1 hg (fun x _ => ?_)
  show (if m ≤ flM (dV x) (pB (zE σ)) then 1 else 0) ≤ 1
  split <;> omega
theorem ways9 (hs : HSok σ) (M : MHl w σ) {r h g k m : Nat} (hg1 : 1 ≤ g) (hk : k ≤ 8) (hm : m < 1000) (T : TQ w (zE σ) r h g k) : ∃ w', f_X9_waysOfFullest (nI m) w = some (lN (EL (zE σ) r h g k (fun x => wo (zE σ) 4 m 0 (dV x))), w') := by
  obtain ⟨N, key, way, b2, b3, b4, b5⟩ := T
  obtain ⟨w', a⟩ := waysOfFullest (w := w) (m := m) hs.1 M.2.1.1 b2 (RK_lt hs hg1 hk b3) hm
  exact ⟨w', by rw [a, b4]⟩
theorem cmp8 {a b : Nat} {w : GW} (ha : a < 9223372036854775808) (hb : b < 9223372036854775808) : (if lN b ≤ lN a then (if lN a ≤ lN b then f_X8_compare_186 0 w else f_X8_compare_186 2 w) else f_X8_compare_186 (-2) w) = some (2 * cmI a b, sI w 0 12 0) := by
  unfold cmI
  by_cases h : b ≤ a
  · rw [if_pos ((lle hb ha).mpr h)]
    by_cases h2 : a ≤ b
    · rw [if_pos ((lle ha hb).mpr h2), if_pos (by omega)]; rfl
    · rw [if_neg (fun z => h2 ((lle ha hb).mp z)), if_neg (by omega), if_neg (by omega)]; rfl
  · rw [if_neg (fun z => h ((lle hb ha).mp z)), if_neg (by omega), if_pos (by omega)]; rfl
theorem q_compare (C : CQ w σ) (M : MHl w σ) (x1 x2 x3 x4 : Int32) : QAg w σ (f_X8_compare x1 x2 x3 x4) (f_X9_compare x1 x2 x3 x4) := by
  have hs := C.1
  have hL := hs.2.1
  have K : ∀ z, f_X8_compare x1 x2 x3 x4 w = some z → KC w z.2 := fun z hz => KC.sm (fr_X8_compare _ _ _ _ _ hz) (by decide) (by decide)
  rcases rg_em x1 0 (zP σ - 1) with ⟨p, _, hp, rfl⟩ | h1
  rotate_left
  · refine QAg.mk M (-1) 1 (rf8 C ?_) K (fun w1 M1 => ?_)
    · rw [f_X8_compare, isP8_f C h1, bind_some', if_pos rfl]; rfl
    · refine rf9 (w0 := gd9 w1) ?_
      rw [f_X9_compare, good9, bind_some', isP9_f hs M1.gd h1, bind_some', if_pos rfl]; rfl
  have hp : p < zP σ := by have := hs.2.2.1; omega
  have hq := hs.2.2.2.2.1 p
  rcases rg_em x2 0 (zP σ - 1) with ⟨q, _, hq2, rfl⟩ | h2
  rotate_left
  · refine QAg.mk M (-1) 1 (rf8 C ?_) K (fun w1 M1 => ?_)
    · rw [f_X8_compare, isP8_t C hp, bind_some', if_neg one_ne, isP8_f C h2, bind_some', if_pos rfl]; rfl
    · refine rf9 (w0 := gd9 w1) ?_
      rw [f_X9_compare, good9, bind_some', isP9_t hs M1.gd hp, bind_some', if_neg one_ne, isP9_f hs M1.gd h2, bind_some', if_pos rfl]; rfl
  have hq2 : q < zP σ := by have := hs.2.2.1; omega
  have hqq := hs.2.2.2.2.1 q
  rcases rg_em x3 0 (zL σ) with ⟨k, _, hk, rfl⟩ | h3
  rotate_left
  · refine QAg.mk M (-1) 2 (rf8 C ?_) K (fun w1 M1 => ?_)
    · rw [f_X8_compare, isP8_t C hp, bind_some', if_neg one_ne, isP8_t C hq2, bind_some', if_neg one_ne, isC8_f C h3, bind_some', if_pos rfl]; rfl
    · rcases rg_em x4 0 9 with ⟨m, _, hm, rfl⟩ | h4
      · refine rf9 (w0 := gd9 w1) ?_
        rw [f_X9_compare, good9, bind_some', isP9_t hs M1.gd hp, bind_some', if_neg one_ne, isP9_t hs M1.gd hq2, bind_some', if_neg one_ne, w9t (lo := 0) (hi := 9) (by omega) hm (by rfl) (by rfl) (by omega), bind_some', why_k hs M1.gd hp h3, bind_some', if_neg two_ne]; rfl
      · refine rf9 (w0 := gd9 w1) ?_
        rw [f_X9_compare, good9, bind_some', isP9_t hs M1.gd hp, bind_some', if_neg one_ne, isP9_t hs M1.gd hq2, bind_some', if_neg one_ne, w9f h4 (by rfl) (by rfl) (by omega) (by omega), bind_some', why_k hs M1.gd hp h3, bind_some', if_neg two_ne]; rfl
  rcases rg_em x4 0 9 with ⟨m, _, hm, rfl⟩ | h4
  rotate_left
  · refine QAg.mk M (-1) 2 (rf8 C ?_) K (fun w1 M1 => ?_)
    · rw [f_X8_compare, isP8_t C hp, bind_some', if_neg one_ne, isP8_t C hq2, bind_some', if_neg one_ne, isC8_t C hk, bind_some', if_neg one_ne, isF8_f h4, bind_some', if_pos rfl]; rfl
    · refine rf9 (w0 := gd9 w1) ?_
      rw [f_X9_compare, good9, bind_some', isP9_t hs M1.gd hp, bind_some', if_neg one_ne, isP9_t hs M1.gd hq2, bind_some', if_neg one_ne, w9f h4 (by rfl) (by rfl) (by omega) (by omega), bind_some', why_o hs M1.gd hp hk, bind_some', if_neg two_ne]; rfl
  have e8 : f_X8_compare (nI p) (nI q) (nI k) (nI m) w = (f_X8_isTooMany (nI p) (nI k) w).bind fun q21 => if q21.1 = 0 then (f_X8_isTooMany (nI q) (nI k) q21.2).bind fun q27 => if q27.1 = 0 then (f_X8_ofPorter (nI p) q27.2).bind fun q31 => (f_X0_count q31.1 (nI k) 4 (nI m) 0 q31.2).bind fun q34 => (f_X8_ofPorter (nI q) q34.2).bind fun q36 => (f_X0_count q36.1 (nI k) 4 (nI m) 0 q36.2).bind fun q39 => (f_X8_times (gL q34.2 72 10) (gL q39.2 72 10) q39.2).bind fun q41 => (f_X8_times (gL q41.2 72 10) (gL q34.2 72 10) q41.2).bind fun q43 => if ((gL q41.2 72 9) * q43.1) ≤ ((gL q34.2 72 9) * q41.1) then (if ((gL q34.2 72 9) * q41.1) ≤ ((gL q41.2 72 9) * q43.1) then f_X8_compare_186 0 q43.2 else f_X8_compare_186 2 q43.2) else f_X8_compare_186 (-2) q43.2 else f_X8_compare_62 q27.2 else f_X8_compare_62 q21.2 := by
    rw [f_X8_compare, isP8_t C hp, bind_some', if_neg one_ne, isP8_t C hq2, bind_some', if_neg one_ne, isC8_t C hk, bind_some', if_neg one_ne, isF8_t hm, bind_some', if_neg one_ne]
  have e9 : ∀ w1, MHl w1 σ → f_X9_compare (nI p) (nI q) (nI k) (nI m) w1 = (f_X9_chanceWhy (nI p) (nI k) 1 (gd9 w1)).bind fun q16 => if q16.1 = 0 then (f_X9_waysOfFullest (nI m) q16.2).bind fun q19 => (f_X9_laysBy (nI q) (nI k) q19.2).bind fun q21 => if q21.1 = 0 then (f_X9_no 3 q21.2).bind fun q41 => some (q41.1, q41.2) else (f_X9_setBig 144 q21.2).bind fun q25 => (f_X9_timesBig 144 q19.1 q25.2).bind fun q27 => (f_X9_timesBig 144 (gL q27.2 130 30) q27.2).bind fun q29 => (f_X9_setBig 145 q29.2).bind fun q31 => (f_X9_waysOfFullest (nI m) q31.2).bind fun q33 => (f_X9_timesBig 145 q33.1 q33.2).bind fun q35 => (f_X9_timesBig 145 (gL q19.2 130 30) q35.2).bind fun q37 => (f_X9_compareBig 144 145 q37.2).bind fun q39 => some ((2 * q39.1), q39.2) else (f_X9_no q16.1 q16.2).bind fun q43 => some (q43.1, q43.2) := by
    intro w1 M1
    rw [f_X9_compare, good9, bind_some', isP9_t hs M1.gd hp, bind_some', if_neg one_ne, isP9_t hs M1.gd hq2, bind_some', if_neg one_ne, w9t (lo := 0) (hi := 9) (by omega) hm (by rfl) (by rfl) (by omega), bind_some']
  by_cases hA : alS (zE σ) (zR σ p) (zG σ p) k ≤ 1000000000000000
  rotate_left
  · refine QAg.mk M (-1) 3 (rf8 C ?_) K (fun w1 M1 => ?_)
    · rw [e8, isT8 C hp (by omega), if_neg hA, bind_some', if_neg one_ne]; rfl
    · obtain ⟨w2, b1⟩ := (why_g hs M1.gd hp hk).2 hA
      refine rf9 (w0 := w2) ?_
      rw [e9 w1 M1, b1, bind_some', if_neg three_ne]; rfl
  by_cases hA2 : alS (zE σ) (zR σ q) (zG σ q) k ≤ 1000000000000000
  rotate_left
  · refine QAg.mk M (-1) 3 (rf8 C ?_) K (fun w1 M1 => ?_)
    · rw [e8, isT8 C hp (by omega), if_pos hA, bind_some', if_pos rfl, isT8 C hq2 (by omega), if_neg hA2, bind_some', if_neg one_ne]; rfl
    · obtain ⟨w2, b1, T⟩ := (why_g hs M1.gd hp hk).1 hA
      have S := fr_X9_chanceWhy _ _ _ _ b1
      have M2 : MHl w2 σ := M1.gd.km (KM.sm S (by decide) rfl)
      obtain ⟨w3, d1⟩ := ways9 hs M2 (m := m) hq.1.1 (by omega) (by omega) T
      have S2 := fr_X9_waysOfFullest _ _ d1
      obtain ⟨w4, d2⟩ := (laysBy9 hs (M2.km (KM.sm S2 (by decide) rfl)) hq2 (show k ≤ 8 by omega)).2 hA2
      refine rf9 (w0 := w4) ?_
      rw [e9 w1 M1, b1, bind_some', if_pos rfl, d1, bind_some']
      dsimp only
      rw [d2, bind_some', if_pos rfl]; rfl
  obtain ⟨w1, a1, a2, a3, a4⟩ := ofP8 C hp
  have C1 : CQ w1 σ := C.kc a3 a4
  obtain ⟨w2, u1, l1, b1, b2, b3, b4, b5, b6⟩ := countQ C1 (i := p) (asked := 4) (x := m) (y := 0) (by have := hs.2.2.1; omega) hq.1.1 hq.1.2 hk a2 hA (by omega) (by omega) (by omega) (by omega)
  have C2 : CQ w2 σ := C1.kc (KC.oL b6) (C1.2.2.oL hs b6)
  obtain ⟨w3, c1, c2, c3, c4⟩ := ofP8 C2 hq2
  have C3 : CQ w3 σ := C2.kc c3 c4
  obtain ⟨w4, u2, l2, d1, d2, d3, d4, d5, d6⟩ := countQ C3 (i := q) (asked := 4) (x := m) (y := 0) (by have := hs.2.2.1; omega) hqq.1.1 hqq.1.2 hk c2 hA2 (by omega) (by omega) (by omega) (by omega)
  have hl1 := al_le hs hq.1.1 hq.1.2 hA b4
  have hl2 := al_le hs hqq.1.1 hqq.1.2 hA2 d4
  have hu1 := up_le1 hs hq.1.1 hq.1.2 (by omega) b4 b5
  have hu2 := up_le1 hs hqq.1.1 hqq.1.2 (by omega) d4 d5
  have hS := (WT_le hs.1).1
  have el1 := al_pow hq.1.1 b4
  have el2 := al_pow hqq.1.1 d4
  have t1 : l1 * tmS l1 l2 = sm (pB (zE σ)) (pW (zE σ)) ^ max (zG σ p * ndS (zE σ) (ltS2 (zE σ) k)) (zG σ q * ndS (zE σ) (ltS2 (zE σ) k)) := by rw [el1, el2]; exact tm_pow hS
  have t2 : l2 * tmS l2 l1 = sm (pB (zE σ)) (pW (zE σ)) ^ max (zG σ p * ndS (zE σ) (ltS2 (zE σ) k)) (zG σ q * ndS (zE σ) (ltS2 (zE σ) k)) := by rw [el1, el2, Nat.max_comm]; exact tm_pow hS
  have hX : sm (pB (zE σ)) (pW (zE σ)) ^ max (zG σ p * ndS (zE σ) (ltS2 (zE σ) k)) (zG σ q * ndS (zE σ) (ltS2 (zE σ) k)) ≤ 1000000000000000 := by
    rcases Nat.le_total (zG σ p * ndS (zE σ) (ltS2 (zE σ) k)) (zG σ q * ndS (zE σ) (ltS2 (zE σ) k)) with z | z
    · rw [Nat.max_eq_right z, ← el2]; exact hl2
    · rw [Nat.max_eq_left z, ← el1]; exact hl1
  have hX0 : 0 < sm (pB (zE σ)) (pW (zE σ)) ^ max (zG σ p * ndS (zE σ) (ltS2 (zE σ) k)) (zG σ q * ndS (zE σ) (ltS2 (zE σ) k)) := Nat.pow_pos hS
  generalize sm (pB (zE σ)) (pW (zE σ)) ^ max (zG σ p * ndS (zE σ) (ltS2 (zE σ) k)) (zG σ q * ndS (zE σ) (ltS2 (zE σ) k)) = X at t1 t2 hX hX0
  have p1 : 0 < l1 := by rw [el1]; exact Nat.pow_pos hS
  have p2 : 0 < l2 := by rw [el2]; exact Nat.pow_pos hS
  have f1 : u1 * tmS l1 l2 ≤ X := by rw [← t1]; exact Nat.mul_le_mul_right _ (by omega)
  have f2 : u2 * tmS l2 l1 ≤ X := by rw [← t2]; exact Nat.mul_le_mul_right _ (by omega)
  have hc := cmp_eq (alS_p hs hq.1.1 hq.1.2 k) (alS_p hs hqq.1.1 hqq.1.2 k) p1 p2 hX0 (up_EL hs hq.1.1 hq.1.2 (show k ≤ 8 by omega) (G := fun u => wo (zE σ) 4 m 0 u) b4 b5) (up_EL hs hqq.1.1 hqq.1.2 (show k ≤ 8 by omega) (G := fun u => wo (zE σ) 4 m 0 u) d4 d5) t1 t2
  have C4 : CQ w4 σ := C3.kc (KC.oL d6) (C3.2.2.oL hs d6)
  refine QAg.mk M (2 * cmI (u1 * tmS l1 l2) (u2 * tmS l2 l1)) 0 ⟨sI w4 0 12 0, ?_, C4.2.2.tr hs, gI_same _ _ _ _⟩ K (fun w5 M5 => ?_)
  · have b1' : f_X0_count (74 + p) (nI k) 4 (nI m) 0 w1 = some ((), w2) := b1
    have d1' : f_X0_count (74 + q) (nI k) 4 (nI m) 0 w3 = some ((), w4) := d1
    rw [e8, isT8 C hp (by omega), if_pos hA, bind_some', if_pos rfl, isT8 C hq2 (by omega), if_pos hA2, bind_some', if_pos rfl, a1, bind_some']
    dsimp only
    rw [b1', bind_some']
    dsimp only
    rw [c1, bind_some']
    dsimp only
    rw [d1', bind_some']
    dsimp only
    rw [b3, d3, times8 (by omega) (by omega), bind_some']
    dsimp only
    rw [d3, times8 (by omega) (by omega), bind_some']
    dsimp only
    rw [b2, d2, lN_mul, lN_mul]
    exact cmp8 (by omega) (by omega)
  · rw [hc]
    obtain ⟨v1, g1, T⟩ := (why_g hs M5.gd hp hk).1 hA
    have S1 := fr_X9_chanceWhy _ _ _ _ g1
    have M6 : MHl v1 σ := M5.gd.km (KM.sm S1 (by decide) rfl)
    obtain ⟨v2, g2⟩ := ways9 hs M6 (m := m) hq.1.1 (by omega) (by omega) T
    have S2 := fr_X9_waysOfFullest _ _ g2
    have M7 : MHl v2 σ := M6.km (KM.sm S2 (by decide) rfl)
    obtain ⟨v3, g3, T2⟩ := (laysBy9 hs M7 hq2 (show k ≤ 8 by omega)).1 hA2
    have S3 := fr_X9_laysBy _ _ _ g3
    have M8 : MHl v3 σ := M7.km (KM.sm S3 (by decide) rfl)
    have z1 := ELw_le (h := zH σ p) (k := k) (m := m) (r := zR σ p) hs hq.1.1 hq.1.2
    have z2 := ELw_le (h := zH σ q) (k := k) (m := m) (r := zR σ q) hs hqq.1.1 hqq.1.2
    have big : (1000000000000000 * 1000000000000000 : Nat) < 1000000000 ^ 60 := by decide
    have bl : ∀ a b : Nat, a ≤ 1000000000000000 → b ≤ 1000000000000000 → a * b < 1000000000 ^ 60 := fun a b ha hb => Nat.lt_of_le_of_lt (Nat.mul_le_mul ha hb) big
    obtain ⟨v4, g4, B4⟩ := setBig (w := v3) (k := 144)
    have S4 := fr_X9_setBig _ _ g4
    obtain ⟨v5, g5, B5⟩ := timesBig (x := EL (zE σ) (zR σ p) (zH σ p) (zG σ p) k (fun x => wo (zE σ) 4 m 0 (dV x))) (by decide) B4 (by omega) (bl _ _ (by omega) (by omega))
    have S5 := fr_X9_timesBig _ _ _ g5
    rw [Nat.one_mul] at B5
    have A5 : gL v5 130 30 = lN (alS (zE σ) (zR σ q) (zG σ q) k) := by
      rw [S5.L 130 30 rfl, S4.L 130 30 rfl]
      obtain ⟨_, _, _, _, _, _, y⟩ := T2
      exact y
    obtain ⟨v6, g6, B6⟩ := timesBig (x := alS (zE σ) (zR σ q) (zG σ q) k) (by decide) B5 (by omega) (bl _ _ (by omega) (by omega))
    have S6 := fr_X9_timesBig _ _ _ g6
    obtain ⟨v7, g7, B7⟩ := setBig (w := v6) (k := 145)
    have S7 := fr_X9_setBig _ _ g7
    have T7 : TQ v7 (zE σ) (zR σ q) (zH σ q) (zG σ q) k := (((T2.sm S4 rfl (fun _ => rfl) (fun _ => rfl) rfl).sm S5 rfl (fun _ => rfl) (fun _ => rfl) rfl).sm S6 rfl (fun _ => rfl) (fun _ => rfl) rfl).sm S7 rfl (fun _ => rfl) (fun _ => rfl) rfl
    have M9 : MHl v7 σ := (((M8.km (KM.sm S4 (by decide) rfl)).km (KM.sm S5 (by decide) rfl)).km (KM.sm S6 (by decide) rfl)).km (KM.sm S7 (by decide) rfl)
    obtain ⟨v8, g8⟩ := ways9 hs M9 (m := m) hqq.1.1 (by omega) (by omega) T7
    have S8 := fr_X9_waysOfFullest _ _ g8
    obtain ⟨v9, g9, B9⟩ := timesBig (x := EL (zE σ) (zR σ q) (zH σ q) (zG σ q) k (fun x => wo (zE σ) 4 m 0 (dV x))) (by decide) (B7.sm S8 (fun _ => rfl)) (by omega) (bl _ _ (by omega) (by omega))
    have S9 := fr_X9_timesBig _ _ _ g9
    rw [Nat.one_mul] at B9
    have A2 : gL v2 130 30 = lN (alS (zE σ) (zR σ p) (zG σ p) k) := by
      rw [S2.L 130 30 rfl]
      obtain ⟨_, _, _, _, _, _, y⟩ := T
      exact y
    obtain ⟨va, ga, Ba⟩ := timesBig (x := alS (zE σ) (zR σ p) (zG σ p) k) (by decide) B9 (by omega) (bl _ _ (by omega) (by omega))
    have Sa := fr_X9_timesBig _ _ _ ga
    have Bb : BG va 144 _ := (((B6.sm S7 (fun _ => rfl)).sm S8 (fun _ => rfl)).sm S9 (fun _ => rfl)).sm Sa (fun _ => rfl)
    refine ⟨va, ?_, ?_⟩
    · rw [e9 w5 M5, g1, bind_some', if_pos rfl, g2, bind_some']
      dsimp only
      rw [g3, bind_some', if_neg one_ne, g4, bind_some']
      dsimp only
      rw [g5, bind_some']
      dsimp only
      rw [A5, g6, bind_some']
      dsimp only
      rw [g7, bind_some']
      dsimp only
      rw [g8, bind_some']
      dsimp only
      rw [g9, bind_some']
      dsimp only
      rw [A2, ga, bind_some']
      dsimp only
      rw [compareBig Bb Ba, bind_some']
    · rw [Sa.I 130 11 rfl, S9.I 130 11 rfl, S8.I 130 11 rfl, S7.I 130 11 rfl, S6.I 130 11 rfl, S5.I 130 11 rfl, S4.I 130 11 rfl, S3.I 130 11 rfl, S2.I 130 11 rfl, S1.I 130 11 rfl]
      exact gd9_t
end CP
