/-! by whom the lays are the likeliest -/
def prN (f : Nat → Nat) : Nat → Nat
  | 0 => 1
  | n + 1 => prN f n * f n
theorem prN_mul (f g : Nat → Nat) : ∀ n, prN (fun y => f y * g y) n = prN f n * prN g n := by
  intro n
  induction n with
  | zero => rfl
  | succ n ih => rw [prN, prN, prN, ih]; ac_rfl
theorem prN_c {f g : Nat → Nat} : ∀ n, (∀ y, y < n → f y = g y) → prN f n = prN g n := by
  intro n
  induction n with
  | zero => intro _; rfl
  | succ n ih => intro h; rw [prN, prN, ih (fun y hy => h y (by omega)), h n (by omega)]
theorem prN_pos {f : Nat → Nat} : ∀ n, (0 < prN f n ↔ ∀ y, y < n → 0 < f y) := by
  intro n
  induction n with
  | zero => exact ⟨fun _ y hy => by omega, fun _ => Nat.one_pos⟩
  | succ n ih =>
    rw [prN]
    constructor
    · intro h y hy
      have h1 := Nat.pos_of_mul_pos_right h
      have h2 := Nat.pos_of_mul_pos_left h
      by_cases z : y = n
      · subst z; first | exact h1 | exact h2
      · first | exact ih.mp h2 y (by omega) | exact ih.mp h1 y (by omega)
    · intro h
      exact Nat.mul_pos (ih.mpr (fun y hy => h y (by omega))) (h n (by omega))
theorem prN_le {f : Nat → Nat} {c : Nat} : ∀ n, (∀ y, y < n → f y ≤ c) → prN f n ≤ c ^ n := by
  intro n
  induction n with
  | zero => intro _; exact Nat.le_refl _
  | succ n ih => intro h; rw [prN, Nat.pow_succ]; exact Nat.mul_le_mul (ih (fun y hy => h y (by omega))) (h n (by omega))
/-- the first of the greatest above 0 -/
def lkG (c : Nat → Nat) : Option Nat → Nat
  | none => 0
  | some q => c q
def lkF (c : Nat → Nat) : Nat → Option Nat
  | 0 => none
  | p + 1 => if lkG c (lkF c p) < c p then some p else lkF c p
def lkI : Option Nat → Int32
  | none => -2
  | some q => nI q
theorem lkF_lt (c : Nat → Nat) : ∀ n q, lkF c n = some q → q < n ∧ 0 < c q := by
  intro n
  induction n with
  | zero => intro q h; cases h
  | succ n ih =>
    intro q h
    rw [lkF] at h
    by_cases z : lkG c (lkF c n) < c n
    · rw [if_pos z] at h
      cases h
      exact ⟨by omega, by omega⟩
    · rw [if_neg z] at h
      have := ih q h
      exact ⟨by omega, this.2⟩
theorem jmaxl_lN {a b : Nat} (ha : a < 9223372036854775808) (hb : b < 9223372036854775808) : jmaxl (lN a) (lN b) = lN (max a b) := by
  unfold jmaxl
  by_cases h : b < a
  · rw [if_pos ((llt hb ha).mpr h), Nat.max_eq_left (by omega)]
  · rw [if_neg (fun z => h ((llt hb ha).mp z)), Nat.max_eq_right (by omega)]
theorem pow_max {S a b : Nat} (hS : 1 ≤ S) : max (S ^ a) (S ^ b) = S ^ max a b := by
  rcases Nat.le_total a b with h | h
  · rw [Nat.max_eq_right h, Nat.max_eq_right (Nat.pow_le_pow_right hS h)]
  · rw [Nat.max_eq_left h, Nat.max_eq_left (Nat.pow_le_pow_right hS h)]
section LK
variable {σ : HS} {w : GW}
/-- all ways of a porter, as the class has them -/
noncomputable def axS (σ : HS) (p : Nat) : Nat := sm (pB (zE σ)) (pW (zE σ)) ^ (zG σ p * ndS (zE σ) (ltS2 (zE σ) (zL σ)))
noncomputable def mxS (σ : HS) : Nat → Nat
  | 0 => 0
  | p + 1 => max (mxS σ p) (axS σ p)
theorem mxS_pow (hs : HSok σ) : ∀ n, 0 < n → ∃ e, mxS σ n = sm (pB (zE σ)) (pW (zE σ)) ^ e ∧ ∀ p, p < n → zG σ p * ndS (zE σ) (ltS2 (zE σ) (zL σ)) ≤ e := by
  have hS := (WT_le hs.1).1
  intro n
  induction n with
  | zero => intro h; omega
  | succ n ih =>
    intro _
    rw [mxS]
    by_cases z : n = 0
    · subst z
      refine ⟨zG σ 0 * ndS (zE σ) (ltS2 (zE σ) (zL σ)), by rw [mxS, Nat.max_eq_right (Nat.zero_le _)]; rfl, fun p hp => ?_⟩
      have : p = 0 := by omega
      subst this
      exact Nat.le_refl _
    · obtain ⟨e, h1, h2⟩ := ih (by omega)
      refine ⟨max e (zG σ n * ndS (zE σ) (ltS2 (zE σ) (zL σ))), by rw [h1, ← pow_max hS]; rfl, fun p hp => ?_⟩
      by_cases y : p = n
      · subst y; exact Nat.le_max_right _ _
      · exact Nat.le_trans (h2 p (by omega)) (Nat.le_max_left _ _)
/-- the ways of a lay, as the class has them -/
noncomputable def upS (σ : HS) (p y : Nat) : Nat := EL (zE σ) (zR σ p) (zH σ p) (zG σ p) (ltS2 (zE σ) (zL σ)) (fun z => wo (zE σ) 7 (pkS (zV σ y)) 0 (dV z)) / PF (zE σ) (zR σ p) (zG σ p) (ltS2 (zE σ) (zL σ))
noncomputable def fkS (σ : HS) (X p y : Nat) : Nat := upS σ p y * tmS (axS σ p) X
theorem ax_tm (hs : HSok σ) {p : Nat} (hp : p < zP σ) : axS σ p * tmS (axS σ p) (mxS σ (zP σ)) = mxS σ (zP σ) ∧ 0 < mxS σ (zP σ) ∧ 0 < axS σ p := by
  have hS := (WT_le hs.1).1
  obtain ⟨e, h1, h2⟩ := mxS_pow hs (zP σ) (by omega)
  rw [h1]
  refine ⟨?_, Nat.pow_pos hS, Nat.pow_pos hS⟩
  unfold axS
  rw [tm_pow hS, Nat.max_eq_right (h2 p hp)]
theorem mx_le (hs : HSok σ) (hA : ∀ p, p < zP σ → alS (zE σ) (zR σ p) (zG σ p) (zL σ) ≤ 1000000000000000) : ∀ n, n ≤ zP σ → mxS σ n ≤ 1000000000000000 := by
  intro n
  induction n with
  | zero => intro _; exact Nat.zero_le _
  | succ n ih =>
    intro h
    have hq := hs.2.2.2.2.1 n
    have e := alS_pow (η := zE σ) (r := zR σ n) (g := zG σ n) (ltS2 (zE σ) (zL σ))
    have h1 := al_le (k := zL σ) hs hq.1.1 hq.1.2 (hA n (by omega)) e.symm
    rw [mxS]
    exact Nat.max_le.mpr ⟨ih (by omega), h1⟩
/-- one lay counted over a porter's row -/
theorem cntY (C : CQ w σ) {p y x : Nat} (hp : p < zP σ) (hA : alS (zE σ) (zR σ p) (zG σ p) (zL σ) ≤ 1000000000000000) (hR : ROW w (74 + p) (zE σ) (zR σ p) (zH σ p) (zG σ p) 0 (ltS2 (zE σ) (zL σ))) (hx : x < 1048576) (hxy : x = pkS (zV σ y)) : ∃ w', f_X0_count (74 + p) (nI (zL σ)) 7 (nI x) 0 w = some ((), w') ∧ gL w' 72 9 = lN (upS σ p y) ∧ gL w' 72 10 = lN (axS σ p) ∧ upS σ p y ≤ axS σ p ∧ axS σ p ≤ 1000000000000000 ∧ lyW σ p (zL σ) y * axS σ p = alS (zE σ) (zR σ p) (zG σ p) (zL σ) * upS σ p y ∧ oL 72 w w' := by
  subst hxy
  have hs := C.1
  have hq := hs.2.2.2.2.1 p
  obtain ⟨w1, up, al, b1, b2, b3, b4, b5, b6⟩ := countQ C (i := p) (asked := 7) (x := pkS (zV σ y)) (y := 0) (by have := hs.2.2.1; omega) hq.1.1 hq.1.2 (Nat.le_refl _) hR hA (by omega) hx (by omega) (by omega)
  have ea : al = axS σ p := al_pow hq.1.1 b4
  have eu : up = upS σ p y := by
    unfold upS
    rw [← b5, Nat.mul_div_cancel_left _ (PF_pos hq.1.1 _)]
  have h1 := up_le1 hs hq.1.1 hq.1.2 (by omega) b4 b5
  have h2 := al_le hs hq.1.1 hq.1.2 hA b4
  have h3 := up_EL hs hq.1.1 hq.1.2 hs.2.1 (G := fun u => wo (zE σ) 7 (pkS (zV σ y)) 0 u) b4 b5
  rw [ea] at b3 h1 h2 h3
  rw [eu] at b2 h1 h3
  exact ⟨w1, b1, b2, b3, by omega, h2, h3, b6⟩
theorem PG.ol {w' : GW} {k V : Nat} (H : PG w k V) (o : oL 72 w w') (hk : k + 1 ≠ 72) : PG w' k V := by
  obtain ⟨p, p1, p2⟩ := H
  exact ⟨p, fun j hj => ⟨by rw [o.2.2 _ _ hk]; exact (p1 j hj).1, (p1 j hj).2⟩, p2⟩
theorem big15 {n : Nat} (hn : n ≤ 8) : 1000000000000000 ^ n < 16777216 ^ 18 := by
  have h1 : (1000000000000000 : Nat) ^ n ≤ 1000000000000000 ^ 8 := Nat.pow_le_pow_right (by omega) hn
  have h2 : (1000000000000000 : Nat) ^ 8 < 16777216 ^ 18 := by decide
  exact Nat.lt_of_le_of_lt h1 h2
theorem CQ.sm (C : CQ w σ) {L : List (Nat × Nat × Nat)} {w' : GW} (S : Sm L [] w w') (h : L.all (fun q => (decide (q.1 = 118) && decide (q.2.1 = 119)) || (decide (q.1 = 120) && decide (q.2.1 = 121))) = true) : CQ w' σ := by
  have hm : ∀ k j, k ≠ 118 → k ≠ 120 → md L k j = false := by
    intro k j h1 h2
    cases hm : md L k j with
    | false => rfl
    | true =>
      obtain ⟨q, hq, a, b, c⟩ := md_ex hm
      have := List.all_eq_true.mp h q hq
      simp only [Bool.and_eq_true, Bool.or_eq_true, decide_eq_true_eq] at this
      omega
  exact C.kc ⟨fun p j x y => S.1 p j (hm p j (by omega) (by omega)), fun r _ => S.2 r List.not_mem_nil⟩ (C.2.2.of C.1 (fun p j x => S.I p j (hm p j (by omega) (by omega))) (fun p j x y => S.L p j (hm p j (by omega) (by omega))) (S.2 0 List.not_mem_nil) (S.2 3 List.not_mem_nil))
theorem lk101 {p X : Nat} {x3 : Int32} (hX : X = mxS σ (zP σ)) (hA : ∀ p, p < zP σ → alS (zE σ) (zR σ p) (zG σ p) (zL σ) ≤ 1000000000000000) {kk : Int64 → Int32 → Int32 → GW → Option (Int32 × GW)} {G : Nat} : ∀ d i n (w : GW), i + d = zY σ → d < n → CQ w σ → p < zP σ → ROW w (74 + p) (zE σ) (zR σ p) (zH σ p) (zG σ p) 0 (ltS2 (zE σ) (zL σ)) → PG w 117 (prN (fkS σ X p) i) → PG w 119 G → ∃ w', f_X8_likeliest_101 kk n (lN X) x3 (nI p) (74 + p) (nI i) w = kk (lN X) (if G < prN (fkS σ X p) (zY σ) then nI p else x3) (nI (p + 1)) w' ∧ CQ w' σ ∧ PG w' 119 (if G < prN (fkS σ X p) (zY σ) then prN (fkS σ X p) (zY σ) else G) := by
  intro d
  induction d with
  | zero =>
    intro i n w hi hn C hp hR h1 h2
    obtain ⟨n, rfl⟩ : ∃ m9, n = m9 + 1 := ⟨n - 1, by omega⟩
    have hY := C.1.2.2.2.1
    have : i = zY σ := by omega
    subst this
    have e : f_X8_likeliest_101 kk (n + 1) (lN X) x3 (nI p) (74 + p) (nI (zY σ)) w = if (if G < prN (fkS σ X p) (zY σ) then (1 : Int32) else 0) = 0 then f_X8_likeliest_205 kk (lN X) x3 (nI p) w else (f_X5_copy 119 117 w).bind fun q15 => f_X8_likeliest_205 kk (lN X) (nI p) (nI p) q15.2 := by
      rw [f_X8_likeliest_101, C.2.1.2.2.2.2.1, if_pos ((le_nI (by omega) (by omega)).mpr (by omega)), isAbove h1 h2, bind_some']
    rw [e]
    by_cases z : G < prN (fkS σ X p) (zY σ)
    · obtain ⟨w', a1, a2⟩ := pcopy (k0 := 119) (by decide) h1
      have S := fr_X5_copy _ _ _ a1
      rw [if_pos z, if_neg one_ne, a1, bind_some', f_X8_likeliest_205, nI_1, if_pos z, if_pos z]
      exact ⟨w', rfl, C.sm S rfl, a2⟩
    · rw [if_neg z, if_pos rfl, f_X8_likeliest_205, nI_1, if_neg z, if_neg z]
      exact ⟨w, rfl, C, h2⟩
  | succ d ih =>
    intro i n w hi hn C hp hR h1 h2
    obtain ⟨n, rfl⟩ : ∃ m9, n = m9 + 1 := ⟨n - 1, by omega⟩
    have hs := C.1
    have hY := hs.2.2.2.1
    have hpk := pkV hs i
    obtain ⟨w1, b1, b2, b3, b4, b5, b6, b7⟩ := cntY C (y := i) hp (hA p hp) hR hpk rfl
    have C1 : CQ w1 σ := C.kc (KC.oL b7) (C.2.2.oL hs b7)
    obtain ⟨t1, t2, t3⟩ := ax_tm hs hp
    have hXl := mx_le hs hA (zP σ) (Nat.le_refl _)
    have hf : fkS σ X p i ≤ 1000000000000000 := by
      unfold fkS
      rw [hX]
      have : upS σ p i * tmS (axS σ p) (mxS σ (zP σ)) ≤ axS σ p * tmS (axS σ p) (mxS σ (zP σ)) := Nat.mul_le_mul_right _ b4
      omega
    have hall : ∀ y, y < zY σ → fkS σ X p y ≤ 1000000000000000 := by
      intro y hy
      have hpk2 := pkV hs y
      obtain ⟨_, _, _, _, c4, _⟩ := cntY C (y := y) hp (hA p hp) hR hpk2 rfl
      unfold fkS
      rw [hX]
      have : upS σ p y * tmS (axS σ p) (mxS σ (zP σ)) ≤ axS σ p * tmS (axS σ p) (mxS σ (zP σ)) := Nat.mul_le_mul_right _ c4
      omega
    have hV : prN (fkS σ X p) i * fkS σ X p i < 16777216 ^ 18 := by
      have h3 : prN (fkS σ X p) (i + 1) ≤ 1000000000000000 ^ (i + 1) := prN_le (i + 1) (fun y hy => hall y (by omega))
      rw [prN] at h3
      exact Nat.lt_of_le_of_lt h3 (big15 (by omega))
    obtain ⟨w2, c1, c2⟩ := multiply (k0 := 117) (h1.ol b7 (by decide)) (show fkS σ X p i < 1125899906842624 by omega) hV
    have S := fr_X5_multiply _ _ _ c1
    have C2 : CQ w2 σ := C1.sm S rfl
    have hR2 : ROW w2 (74 + p) (zE σ) (zR σ p) (zH σ p) (zG σ p) 0 (ltS2 (zE σ) (zL σ)) := by
      obtain ⟨t, t1, ⟨A, a1, a2⟩, t3⟩ := hR.ol b7
      exact ⟨t, t1, ⟨A, a1, fun c hc => by rw [S.L _ _ (by simp [md, L_X5_multiply]; have := hs.2.2.1; omega)]; exact a2 c hc⟩, t3⟩
    obtain ⟨w', e1, e2, e3⟩ := ih (i + 1) n w2 (by omega) (by omega) C2 hp hR2 c2 ((h2.ol b7 (by decide)).sm S (fun _ => rfl))
    refine ⟨w', ?_, e2, e3⟩
    rw [f_X8_likeliest_101, C.2.1.2.2.2.2.1, if_neg (fun q9 => absurd ((le_nI (by omega) (by omega)).mp q9) (by omega)), if_pos ((inb_nI (by omega)).mpr (by omega)), ix_nI (by omega), pack8 C (by omega), bind_some', C.2.1.2.2.1]
    dsimp only
    rw [b1, bind_some']
    dsimp only
    rw [b3, times8 (by omega) (by omega), bind_some', b2, lN_mul]
    have c1' : f_X5_multiply 117 (lN (upS σ p i * tmS (axS σ p) X)) w1 = some ((), w2) := c1
    dsimp only
    rw [c1', bind_some', nI_1]
    exact e1
theorem lk70 {X : Nat} (hX : X = mxS σ (zP σ)) (hA : ∀ p, p < zP σ → alS (zE σ) (zR σ p) (zG σ p) (zL σ) ≤ 1000000000000000) : ∀ d p n (w : GW), p + d = zP σ → d < n → CQ w σ → PG w 119 (lkG (fun p => prN (fkS σ X p) (zY σ)) (lkF (fun p => prN (fkS σ X p) (zY σ)) p)) → ∃ w', f_X8_likeliest_70 n (lN X) (lkI (lkF (fun p => prN (fkS σ X p) (zY σ)) p)) (nI p) w = some (lkI (lkF (fun p => prN (fkS σ X p) (zY σ)) (zP σ)), w') ∧ CQ w' σ := by
  intro d
  induction d with
  | zero =>
    intro p n w hp hn C hG
    obtain ⟨n, rfl⟩ : ∃ m9, n = m9 + 1 := ⟨n - 1, by omega⟩
    have h6 := C.1.2.2.1.2
    have : p = zP σ := by omega
    subst this
    refine ⟨w, ?_, C⟩
    rw [f_X8_likeliest_70, C.2.1.2.2.2.1, if_pos ((le_nI (by omega) (by omega)).mpr (by omega))]
  | succ d ih =>
    intro p n w hp hn C hG
    obtain ⟨n, rfl⟩ : ∃ m9, n = m9 + 1 := ⟨n - 1, by omega⟩
    have hs := C.1
    have h6 := hs.2.2.1.2
    obtain ⟨w1, a1, a2⟩ := pbecome (w := w) (k0 := 117) (x := 1) (by omega)
    have S := fr_X5_become _ _ _ a1
    have C1 : CQ w1 σ := C.sm S rfl
    have hG1 := hG.sm S (fun _ => rfl)
    obtain ⟨w2, b1, b2, b3, b4⟩ := ofP8 C1 (show p < zP σ by omega)
    have S2 := fr_X8_ofPorter _ _ b1
    obtain ⟨w3, c1, c2, c3⟩ := lk101 (p := p) (x3 := lkI (lkF (fun p => prN (fkS σ X p) (zY σ)) p)) (kk := f_X8_likeliest_70 n) hX hA (zY σ) 0 fu w2 (by omega) (by have := hs.2.2.2.1; exact (fu_gt (by omega))) (C1.kc b3 b4) (by omega) b2 (a2.sm S2 (fun _ => rfl)) (hG1.sm S2 (fun _ => rfl))
    have e : f_X8_likeliest_70 (n + 1) (lN X) (lkI (lkF (fun p => prN (fkS σ X p) (zY σ)) p)) (nI p) w = f_X8_likeliest_70 n (lN X) (if lkG (fun p => prN (fkS σ X p) (zY σ)) (lkF (fun p => prN (fkS σ X p) (zY σ)) p) < prN (fkS σ X p) (zY σ) then nI p else lkI (lkF (fun p => prN (fkS σ X p) (zY σ)) p)) (nI (p + 1)) w3 := by
      have a1' : f_X5_become 117 1 w = some ((), w1) := a1
      rw [f_X8_likeliest_70, C.2.1.2.2.2.1, if_neg (fun q9 => absurd ((le_nI (by omega) (by omega)).mp q9) (by omega)), a1', bind_some']
      dsimp only
      rw [b1, bind_some']
      exact c1
    rw [e]
    have := ih (p + 1) n w3 (by omega) (by omega) c2
    rw [lkF] at this
    by_cases z : lkG (fun p => prN (fkS σ X p) (zY σ)) (lkF (fun p => prN (fkS σ X p) (zY σ)) p) < prN (fkS σ X p) (zY σ)
    · rw [if_pos z] at c3 ⊢
      rw [if_pos z] at this
      exact this c3
    · rw [if_neg z] at c3 ⊢
      rw [if_neg z] at this
      exact this c3
theorem lk4 (hA : ∀ p, p < zP σ → alS (zE σ) (zR σ p) (zG σ p) (zL σ) ≤ 1000000000000000) : ∀ d p n (w : GW), p + d = zP σ → d < n → CQ w σ → ∃ w', f_X8_likeliest_4 n (lN (mxS σ p)) (nI p) w = some (lkI (lkF (fun p => prN (fkS σ (mxS σ (zP σ)) p) (zY σ)) (zP σ)), w') ∧ CQ w' σ := by
  intro d
  induction d with
  | zero =>
    intro p n w hp hn C
    obtain ⟨n, rfl⟩ : ∃ m9, n = m9 + 1 := ⟨n - 1, by omega⟩
    have h6 := C.1.2.2.1.2
    have : p = zP σ := by omega
    subst this
    obtain ⟨w1, a1, a2⟩ := pbecome (w := w) (k0 := 119) (x := 0) (by omega)
    have S := fr_X5_become _ _ _ a1
    obtain ⟨w2, b1, b2⟩ := lk70 (X := mxS σ (zP σ)) rfl hA (zP σ) 0 fu w1 (by omega) (fu_gt (by omega)) (C.sm S rfl) a2
    refine ⟨w2, ?_, b2⟩
    have a1' : f_X5_become 119 0 w = some ((), w1) := a1
    rw [f_X8_likeliest_4, C.2.1.2.2.2.1, if_pos ((le_nI (by omega) (by omega)).mpr (by omega)), a1', bind_some']
    exact b1
  | succ d ih =>
    intro p n w hp hn C
    obtain ⟨n, rfl⟩ : ∃ m9, n = m9 + 1 := ⟨n - 1, by omega⟩
    have hs := C.1
    have h6 := hs.2.2.1.2
    have hq := hs.2.2.2.2.1 p
    obtain ⟨w1, a1, a2, a3, a4⟩ := ofP8 C (show p < zP σ by omega)
    have C1 : CQ w1 σ := C.kc a3 a4
    obtain ⟨w2, up, al, b1, b2, b3, b4, b5, b6⟩ := countQ C1 (i := p) (asked := 7) (x := 0) (y := 0) (by omega) hq.1.1 hq.1.2 (Nat.le_refl _) a2 (hA p (by omega)) (by omega) (by omega) (by omega) (by omega)
    have C2 : CQ w2 σ := C1.kc (KC.oL b6) (C1.2.2.oL hs b6)
    have ea : al = axS σ p := al_pow hq.1.1 b4
    have h2 := al_le hs hq.1.1 hq.1.2 (hA p (by omega)) b4
    have h3 := mx_le hs hA p (by omega)
    obtain ⟨w3, c1, c2⟩ := ih (p + 1) n w2 (by omega) (by omega) C2
    refine ⟨w3, ?_, c2⟩
    have b1' : f_X0_count (74 + p) (nI (zL σ)) 7 0 0 w1 = some ((), w2) := b1
    rw [f_X8_likeliest_4, C.2.1.2.2.2.1, if_neg (fun q9 => absurd ((le_nI (by omega) (by omega)).mp q9) (by omega)), a1, bind_some']
    dsimp only
    rw [C1.2.1.2.2.1, b1', bind_some']
    dsimp only
    rw [b3, jmaxl_lN (by omega) (by omega), nI_1, ea]
    exact c1
theorem lk35_t (hA : ∀ p, p < zP σ → alS (zE σ) (zR σ p) (zG σ p) (zL σ) ≤ 1000000000000000) : ∀ d p n (w : GW), p + d = zP σ → d < n → CQ w σ → ∃ w', f_X8_likely_35 n (nI p) w = some (lkI (lkF (fun p => prN (fkS σ (mxS σ (zP σ)) p) (zY σ)) (zP σ)), w') ∧ CCh w' σ ∧ gI w' 0 12 = 0 := by
  intro d
  induction d with
  | zero =>
    intro p n w hp hn C
    obtain ⟨n, rfl⟩ : ∃ m9, n = m9 + 1 := ⟨n - 1, by omega⟩
    have h6 := C.1.2.2.1.2
    have : p = zP σ := by omega
    subst this
    obtain ⟨w1, a1, a2⟩ := lk4 hA (zP σ) 0 fu w (by omega) (fu_gt (by omega)) C
    have a1' : f_X8_likeliest w = some (lkI (lkF (fun p => prN (fkS σ (mxS σ (zP σ)) p) (zY σ)) (zP σ)), w1) := a1
    refine ⟨sI w1 0 12 0, ?_, a2.2.2.tr C.1, gI_same _ _ _ _⟩
    rw [f_X8_likely_35, C.2.1.2.2.2.1, if_pos ((le_nI (by omega) (by omega)).mpr (by omega)), a1', bind_some']; rfl
  | succ d ih =>
    intro p n w hp hn C
    obtain ⟨n, rfl⟩ : ∃ m9, n = m9 + 1 := ⟨n - 1, by omega⟩
    have h6 := C.1.2.2.1.2
    have hL := C.1.2.1
    rw [f_X8_likely_35, C.2.1.2.2.2.1, if_neg (fun q9 => absurd ((le_nI (by omega) (by omega)).mp q9) (by omega)), C.2.1.2.2.1, isT8 C (by omega) (by omega), if_pos (hA p (by omega)), bind_some', if_pos rfl, nI_1]
    exact ih (p + 1) n w (by omega) (by omega) C
theorem lk35_f : ∀ d p n (w : GW), p + d = zP σ → d < n → CQ w σ → (∃ p0, p ≤ p0 ∧ p0 < zP σ ∧ ¬ alS (zE σ) (zR σ p0) (zG σ p0) (zL σ) ≤ 1000000000000000) → f_X8_likely_35 n (nI p) w = some (-1, sI w 0 12 3) := by
  intro d
  induction d with
  | zero =>
    rintro p n w hp hn C ⟨p0, h1, h2, _⟩
    omega
  | succ d ih =>
    rintro p n w hp hn C ⟨p0, h1, h2, h3⟩
    obtain ⟨n, rfl⟩ : ∃ m9, n = m9 + 1 := ⟨n - 1, by omega⟩
    have h6 := C.1.2.2.1.2
    have hL := C.1.2.1
    rw [f_X8_likely_35, C.2.1.2.2.2.1, if_neg (fun q9 => absurd ((le_nI (by omega) (by omega)).mp q9) (by omega)), C.2.1.2.2.1, isT8 C (by omega) (by omega)]
    by_cases z : alS (zE σ) (zR σ p) (zG σ p) (zL σ) ≤ 1000000000000000
    · rw [if_pos z, bind_some', if_pos rfl, nI_1]
      refine ih (p + 1) n w (by omega) (by omega) C ⟨p0, ?_, h2, h3⟩
      have : p0 ≠ p := fun q => h3 (by rw [q]; exact z)
      omega
    · rw [if_neg z, bind_some', if_neg one_ne]; rfl
end LK
