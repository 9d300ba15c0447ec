/-! the class's numbers of layouts -/
def FN : Nat → Nat → Nat
  | 0, s => s
  | b + 1, s => sm s (fun i => FN b (i + 1))
theorem FN_s (b s : Nat) : FN (b + 1) (s + 1) = FN (b + 1) s + FN b (s + 1) := by rw [FN, sm_s]; rfl
theorem FN_t : ∀ b, b < 5 → ∀ s, s < 10 → fewA (b * 10 + s) = nI (FN b s) ∧ FN b s ≤ 1287 := by decide
theorem FN_m1 (b s : Nat) : FN b s ≤ FN b (s + 1) := by
  cases b with
  | zero => exact Nat.le_succ _
  | succ b => rw [FN_s]; omega
theorem FN_m (b : Nat) {s t : Nat} (h : s ≤ t) : FN b s ≤ FN b t := by
  obtain ⟨d, rfl⟩ : ∃ d, t = s + d := ⟨t - s, by omega⟩
  clear h
  induction d with
  | zero => exact Nat.le_refl _
  | succ d ih => exact Nat.le_trans ih (FN_m1 _ _)
theorem FN_0 (b : Nat) : FN b 0 = 0 := by cases b <;> rfl
/-- the number of a layout -/
def rk (u : Nat → Nat) (B : Nat) : Nat := sm B (fun b => FN b (sm (b + 1) u))
/-- where those of so many letters begin -/
def fst (B s : Nat) : Nat := FN (B - 1) s
theorem rk_in (u : Nat → Nat) : ∀ B, fst (B + 1) (sm (B + 1) u) ≤ rk u (B + 1) ∧ rk u (B + 1) < fst (B + 1) (sm (B + 1) u + 1) := by
  intro B
  induction B with
  | zero =>
    unfold rk fst
    simp [sm, FN]
  | succ B ih =>
    unfold fst at ih ⊢
    rw [Nat.add_sub_cancel] at ih ⊢
    rw [show rk u (B + 1 + 1) = rk u (B + 1) + FN (B + 1) (sm (B + 1 + 1) u) from sm_s _ _, FN_s]
    have h1 := FN_m B (show sm (B + 1) u + 1 ≤ sm (B + 1 + 1) u + 1 by rw [sm_s (B + 1)]; omega)
    omega
theorem rk_lvl {u : Nat → Nat} {B s : Nat} (hB : 1 ≤ B) : (fst B s ≤ rk u B ∧ rk u B < fst B (s + 1)) ↔ sm B u = s := by
  obtain ⟨b, rfl⟩ : ∃ b, B = b + 1 := ⟨B - 1, by omega⟩
  have h1 := rk_in u b
  constructor
  · intro h2
    rcases Nat.lt_trichotomy (sm (b + 1) u) s with q | q | q
    · have := FN_m (b + 1 - 1) (show sm (b + 1) u + 1 ≤ s by omega)
      unfold fst at h1 h2
      omega
    · exact q
    · have := FN_m (b + 1 - 1) (show s + 1 ≤ sm (b + 1) u by omega)
      unfold fst at h1 h2
      omega
  · intro q
    rw [← q]
    exact h1
theorem rk_inj {u v : Nat → Nat} : ∀ B, rk u B = rk v B → ∀ b, b < B → u b = v b := by
  intro B
  induction B with
  | zero => intro _ b hb; omega
  | succ B ih =>
    intro h b hb
    have h1 := (rk_lvl (u := u) (B := B + 1) (s := sm (B + 1) u) (by omega)).mpr rfl
    rw [h] at h1
    have h2 := (rk_lvl (u := v) (B := B + 1) (s := sm (B + 1) u) (by omega)).mp h1
    have h3 : rk u B = rk v B := by
      have e1 : rk u (B + 1) = rk u B + FN B (sm (B + 1) u) := sm_s _ _
      have e2 : rk v (B + 1) = rk v B + FN B (sm (B + 1) v) := sm_s _ _
      rw [h2] at e2
      omega
    have h4 := ih h3
    by_cases q : b = B
    · subst q
      rw [sm_s, sm_s, sm_c h4] at h2
      omega
    · exact h4 b (by omega)
theorem rk_c {u v : Nat → Nat} {B : Nat} (h : ∀ b, b < B → u b = v b) : rk u B = rk v B := by
  unfold rk
  exact sm_c (fun b hb => by rw [sm_c (fun i hi => h i (by omega))])
theorem rk_lt {u : Nat → Nat} {B : Nat} (hB : 1 ≤ B) (hB5 : B ≤ 5) (h : sm B u ≤ 8) : rk u B < 1287 := by
  have h1 := ((rk_lvl (u := u) (s := sm B u) hB).mpr rfl).2
  have h2 := (FN_t (B - 1) (by omega) (sm B u + 1) (by omega)).2
  unfold fst at h1
  omega
theorem sm_mono {u : Nat → Nat} {a b : Nat} (h : a ≤ b) : sm a u ≤ sm b u := by
  obtain ⟨d, rfl⟩ : ∃ d, b = a + d := ⟨b - a, by omega⟩
  rw [sm_app]
  omega
def HX (w : GW) (η : HP) : Prop := HCl w (fxH (gR w 3)) η
theorem HX.of {w w' : GW} {η : HP} (h : HX w η) (k : ∀ p j, gI w' p j = gI w p j) (r : gR w' 3 = gR w 3) : HX w' η := by
  unfold HX
  rw [r]
  exact HCl.of h k
theorem rank {w : GW} {η : HP} {k1 : Nat} {u : Nat → Nat} (hη : HPok η) (hH : gI w (fxH (gR w 3)) 1 = nI (pB η)) (hu : ∀ b, b < 5 → gI w k1 b = nI (u b)) (h8 : sm (pB η) u ≤ 8) : f_X0_rank k1 w = some (nI (rk u (pB η)), w) := by
  have j2 := hη.2.1
  have key : ∀ d i n, i + d = pB η → d < n → f_X0_rank_7 n k1 (nI (sm i u)) (nI (sm i (fun b => FN b (sm (b + 1) u)))) (nI i) w = some (nI (rk u (pB η)), w) := by
    intro d
    induction d with
    | zero =>
      intro i n hi hn
      obtain ⟨n, rfl⟩ : ∃ m9, n = m9 + 1 := ⟨n - 1, by omega⟩
      have : i = pB η := by omega
      subst this
      rw [f_X0_rank_7, hH, if_pos ((le_nI (by omega) (by omega)).mpr (by omega))]
      rfl
    | succ d ih =>
      intro i n hi hn
      obtain ⟨n, rfl⟩ : ∃ m9, n = m9 + 1 := ⟨n - 1, by omega⟩
      have e := ih (i + 1) n (by omega) (by omega)
      have hs : sm (i + 1) u ≤ 8 := Nat.le_trans (sm_mono (by omega)) h8
      rw [sm_s i, sm_s i] at e
      have hs2 := hs
      rw [sm_s] at hs2
      rw [f_X0_rank_7, hH, if_neg (fun q9 => absurd ((le_nI (by omega) (by omega)).mp q9) (by omega)), if_pos ((inb_nI (by omega)).mpr (by omega)), ix_nI (by omega), hu i (by omega), nI_add, show (8 : Int32) = nI 8 from rfl, if_pos ((le_nI (by omega) (by omega)).mpr (by omega)), show (10 : Int32) = nI 10 from rfl, pk_mul, nI_add, show (50 : Nat) = 50 from rfl, if_pos ((inb_nI (by omega)).mpr (by omega)), ix_nI (by omega), (FN_t i (by omega) (sm i u + u i) (by omega)).1, nI_add, nI_1, ← sm_s]
      rw [← sm_s] at e
      exact e
  rw [f_X0_rank, show (0 : Int32) = nI 0 from rfl]
  exact key (pB η) 0 fu (by omega) (fu_gt (by omega))
theorem first {w : GW} {η : HP} {s : Nat} (hη : HPok η) (hH : gI w (fxH (gR w 3)) 1 = nI (pB η)) (hs : s < 10) : f_X0_first (nI s) w = some (nI (fst (pB η) s), w) := by
  have j1 := hη.1
  have j2 := hη.2.1
  rw [f_X0_first, hH, if_neg (fun q => by have := (le0 (by omega)).mp q; omega), show (1 : Int32) = nI 1 from rfl, pk_sub (by omega), show (10 : Int32) = nI 10 from rfl, pk_mul, nI_add, show (50 : Nat) = 50 from rfl, if_pos ((inb_nI (by omega)).mpr (by omega)), ix_nI (by omega), (FN_t (pB η - 1) (by omega) s hs).1]
  rfl
/-- how many letters the boxes hold behind k -/
def ltS2 (η : HP) (k : Nat) : Nat := min (min k (sm (pB η) (pR η))) 8
theorem rm_le {η : HP} (hη : HPok η) : 1 ≤ sm (pB η) (pR η) ∧ sm (pB η) (pR η) ≤ 40 := by
  obtain ⟨h1, h2, h3, -⟩ := hη
  refine ⟨Nat.le_trans h1 (sm_lo (fun i _ => (h3 i).1)), ?_⟩
  have e : sm (pB η) (pR η) ≤ sm (pB η) (fun _ => 8) := sm_le (fun i _ => (h3 i).2)
  have e2 : ∀ n, sm n (fun _ => 8) = 8 * n := by
    intro n
    induction n with
    | zero => rfl
    | succ n ih => rw [sm_s, ih]; omega
  rw [e2] at e
  omega
theorem letters {w : GW} {η : HP} {k : Nat} (hη : HPok η) (hH : HX w η) (hk : k < 1000) : f_X0_letters (nI k) w = some (nI (ltS2 η k), w) := by
  have := rm_le hη
  rw [f_X0_letters, hH.2.2.2.1, jmin_nI (by omega) (by omega), show (8 : Int32) = nI 8 from rfl, jmin_nI (by omega) (by omega), show (0 : Int32) = nI 0 from rfl, jmax_nI (by omega) (by omega), Nat.max_eq_right (Nat.zero_le _)]
  rfl
def pkS (u : Nat → Nat) : Nat := u 0 + 16 * u 1 + 256 * u 2 + 4096 * u 3 + 65536 * u 4
theorem pack {w : GW} {k0 : Nat} {u : Nat → Nat} (hu : ∀ b, b < 5 → gI w k0 b = nI (u b)) (h8 : ∀ b, b < 5 → u b ≤ 15) : f_X8_pack k0 w = some (nI (pkS u), w) := by
  obtain ⟨m, hm⟩ : ∃ m, fu = m + 6 := ⟨fu - 6, by rw [fu_eq]⟩
  have e0 : ∀ s, ¬ (5 : Int32) ≤ s → ¬ (Int32.ofNat 5) ≤ s := fun s h => h
  have sh : ∀ (a b : Nat) (s : Int32), (s.toBitVec.smod 32).toNat = b → a ≤ 15 → b ≤ 16 → nI a <<< s = nI (2 ^ b * a) := by
    intro a b s hs ha hb
    have : 2 ^ b ≤ 2 ^ 16 := Nat.pow_le_pow_right (by omega) hb
    have h2 : a * 2 ^ b ≤ 15 * 2 ^ 16 := Nat.mul_le_mul ha this
    rw [pk_shlN (n := a) s b hs (by omega), Nat.mul_comm]
  have orr : ∀ (a b c : Nat), a < 2 ^ b → nI a ||| nI (2 ^ b * c) = nI (a + 2 ^ b * c) := by
    intro a b c h
    rw [fa_or, Nat.or_comm, ← Nat.two_pow_add_eq_or_of_lt h, Nat.add_comm]
  have h0 := h8 0 (by omega)
  have h1 := h8 1 (by omega)
  have h2 := h8 2 (by omega)
  have h3 := h8 3 (by omega)
  have h4 := h8 4 (by omega)
  rw [f_X8_pack, hm]
  rw [f_X8_pack_4, if_neg (by decide), if_neg (by decide), if_pos (show inb _ _ from by decide), show ix 0 = 0 from by decide, hu 0 (by omega), sh (u 0) 0 _ (by decide) h0 (by omega), show (0 : Int32) + 1 = 1 from rfl, show (0 : Int32) = nI 0 from rfl, orr 0 0 (u 0) (by omega)]
  rw [f_X8_pack_4, if_neg (by decide), if_neg (by decide), if_pos (show inb _ _ from by decide), show ix 1 = 1 from by decide, hu 1 (by omega), sh (u 1) 4 _ (by decide) h1 (by omega), show (1 : Int32) + 1 = 2 from rfl, orr _ 4 (u 1) (by omega)]
  rw [f_X8_pack_4, if_neg (by decide), if_neg (by decide), if_pos (show inb _ _ from by decide), show ix 2 = 2 from by decide, hu 2 (by omega), sh (u 2) 8 _ (by decide) h2 (by omega), show (2 : Int32) + 1 = 3 from rfl, orr _ 8 (u 2) (by omega)]
  rw [f_X8_pack_4, if_neg (by decide), if_neg (by decide), if_pos (show inb _ _ from by decide), show ix 3 = 3 from by decide, hu 3 (by omega), sh (u 3) 12 _ (by decide) h3 (by omega), show (3 : Int32) + 1 = 4 from rfl, orr _ 12 (u 3) (by omega)]
  rw [f_X8_pack_4, if_neg (by decide), if_neg (by decide), if_pos (show inb _ _ from by decide), show ix 4 = 4 from by decide, hu 4 (by omega), sh (u 4) 16 _ (by decide) h4 (by omega), show (4 : Int32) + 1 = 5 from rfl, orr _ 16 (u 4) (by omega)]
  rw [f_X8_pack_4, if_pos (by decide)]
  rw [show 0 + 2 ^ 0 * u 0 + 2 ^ 4 * u 1 + 2 ^ 8 * u 2 + 2 ^ 12 * u 3 + 2 ^ 16 * u 4 = pkS u by unfold pkS; omega]
