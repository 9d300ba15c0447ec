/-! where the next letter may go: the reference -/
theorem kI_inj {a b : Nat} (ha : a < 1000) (hb : b < 1000) : kI a = kI b ↔ a = b := by
  constructor
  · intro h
    have := congrArg (fun x => x + 1) h
    simp only [kI_add] at this
    exact (eq_nI (by omega) (by omega)).mp this
  · intro h; rw [h]
theorem kI_m5 {a : Nat} (ha : a < 1000) : ¬ kI a = -5 := by
  intro h
  have := congrArg (fun x => x + 1) h
  simp only [kI_add] at this
  have h2 := congrArg Int32.toInt this
  rw [nI_toInt (by omega)] at h2
  have e : ((-5 : Int32) + 1).toInt = -4 := rfl
  omega
theorem kI_m6 {a : Nat} (ha : a < 1000) : ¬ kI a = -6 := by
  intro h
  have := congrArg (fun x => x + 1) h
  simp only [kI_add] at this
  have h2 := congrArg Int32.toInt this
  rw [nI_toInt (by omega)] at h2
  have e : ((-6 : Int32) + 1).toInt = -5 := rfl
  omega
/-- what is kept of the slots found -/
def KS (S : Nat → Prop) (K : Int32) : Prop := (K = -5 ∧ ∀ s, ¬ S s) ∨ (∃ s, s ≤ 5 ∧ K = kI s ∧ oneSl S s) ∨ (K = -6 ∧ ∃ s s', S s ∧ S s' ∧ s ≠ s')
theorem KS.add {S : Nat → Prop} {K : Int32} (H : KS S K) {s0 : Nat} (h0 : s0 ≤ 5) : (K = -5 → KS (fun s => S s ∨ s = s0) (kI s0)) ∧ (K ≠ -5 → K = kI s0 → KS (fun s => S s ∨ s = s0) (kI s0)) ∧ (K ≠ -5 → K ≠ kI s0 → KS (fun s => S s ∨ s = s0) (-6)) := by
  refine ⟨fun h => ?_, fun h h2 => ?_, fun h h2 => ?_⟩
  · rcases H with ⟨_, H⟩ | ⟨s, a, b, c⟩ | ⟨a, b⟩
    · exact Or.inr (Or.inl ⟨s0, h0, rfl, Or.inr rfl, fun s' q => q.elim (fun y => absurd y (H s')) id⟩)
    · exact absurd (b.symm.trans h) (kI_m5 (by omega))
    · rw [a] at h; exact absurd h (by decide)
  · rcases H with ⟨a, _⟩ | ⟨s, a, b, c⟩ | ⟨a, b⟩
    · exact absurd a h
    · have e : s = s0 := (kI_inj (by omega) (by omega)).mp (b.symm.trans h2)
      subst e
      exact Or.inr (Or.inl ⟨s, a, rfl, Or.inr rfl, fun s' q => q.elim (fun y => c.2 s' y) id⟩)
    · exact absurd (h2.symm.trans a) (kI_m6 (by omega))
  · rcases H with ⟨a, _⟩ | ⟨s, a, b, c⟩ | ⟨a, s, s', b, c, d⟩
    · exact absurd a h
    · exact Or.inr (Or.inr ⟨rfl, s, s0, Or.inl c.1, Or.inr rfl, fun e => h2 (by rw [b, e])⟩)
    · exact Or.inr (Or.inr ⟨rfl, s, s', Or.inl b, Or.inl c, d⟩)
theorem KS.c {S S' : Nat → Prop} {K : Int32} (H : KS S K) (h : ∀ s, S s ↔ S' s) : KS S' K := by
  rcases H with ⟨a, b⟩ | ⟨s, a, b, c, d⟩ | ⟨a, s, s', b, c, d⟩
  · exact Or.inl ⟨a, fun s q => b s ((h s).mpr q)⟩
  · exact Or.inr (Or.inl ⟨s, a, b, (h s).mp c, fun s' q => d s' ((h s').mpr q)⟩)
  · exact Or.inr (Or.inr ⟨a, s, s', (h s).mp b, (h s').mp c, d⟩)
section G9
variable {σ : HS} {w : GW}
/-- the box taken by the glances of number m, tie t -/
def tkU (σ : HS) (d : DS) (m t : Nat) : Nat := (tkS (yU d) (tg (pB (zE σ)) (zG σ (yW d)) m) (pB (zE σ)) (zR σ (yW d)) (zH σ (yW d)) (zG σ (yW d)) (yK d) t).getD 0
def tnU (σ : HS) (d : DS) (m : Nat) : Nat := tnS (yU d) (tg (pB (zE σ)) (zG σ (yW d)) m) (pB (zE σ)) (zR σ (yW d)) (zG σ (yW d))
def coU (σ : HS) (d : DS) (m : Nat) : Nat := if zR σ (yW d) = 0 then tiO (zG σ (yW d)) / tnU σ d m else 1
def spU (σ : HS) (d : DS) (m t : Nat) : Nat := spS (zE σ) (yU d) (zR σ (yW d)) (yK d) (tkU σ d m t) (msk (tg (pB (zE σ)) (zG σ (yW d)) m) (zG σ (yW d)))
def inU (σ : HS) (d : DS) (b m t : Nat) : Nat := if goT (pB (zE σ)) (pR (zE σ)) (yU d) (tkU σ d m t) = some b then 1 else 0
theorem tkU_some (hs : HSok σ) (d : DS) {m t : Nat} (ht : t < tnU σ d m) : tkS (yU d) (tg (pB (zE σ)) (zG σ (yW d)) m) (pB (zE σ)) (zR σ (yW d)) (zH σ (yW d)) (zG σ (yW d)) (yK d) t = some (tkU σ d m t) ∧ tkU σ d m t < pB (zE σ) := by
  have hq := hs.2.2.2.2.1 (yW d)
  obtain ⟨b, h1, h2⟩ := tkS_some (u := yU d) (x := tg (pB (zE σ)) (zG σ (yW d)) m) (B := pB (zE σ)) (r := zR σ (yW d)) (h := zH σ (yW d)) (g := zG σ (yW d)) (sl := yK d) (t := t) hq.1.1 (fun i _ => tg_lt hs.1.1 _ _ _) ht
  have e : tkU σ d m t = b := by unfold tkU; rw [h1]; rfl
  rw [e]
  exact ⟨h1, h2⟩
theorem tnU_le (σ : HS) (d : DS) (m : Nat) (h3 : zG σ (yW d) ≤ 3) : tnU σ d m ≤ 3 := by
  unfold tnU tnS
  split
  · exact Nat.le_trans (tcS_le _) h3
  · omega
/-- one way more, or not -/
theorem lg250 {k1 : Int32 → Int32 → Int32 → Int32 → Int32 → GW → Option (Unit × GW)} {k2 : Int32 → Int32 → Int32 → Int32 → Int32 → Int64 → Int32 → Int32 → GW → Option (Unit × GW)} {x1 x2 x3 x4 x5 x8 x9 : Int32} {x6 t0 : Int64} {A c s0 : Nat} {S : Nat → Prop} {K : Int32} (h0 : s0 ≤ 5) (hK : KS S K) (h39 : gI w 130 39 = K) (h22 : gI w 130 22 = kI s0) (ht : t0 = lN c) : ∃ w' K', f_X9_layGoes_250 k1 k2 x1 x2 x3 x4 x5 x6 x8 x9 t0 (lN A) w = k2 x1 x2 x3 x4 x5 x6 x8 (x9 + 1) w' ∧ gL w' 130 37 = lN (A + c) ∧ gI w' 130 39 = K' ∧ KS (fun s => S s ∨ s = s0) K' ∧ (∀ p j, p ≠ 130 → gI w' p j = gI w p j) ∧ gI w' 130 14 = gI w 130 14 ∧ gL w' 130 38 = gL w 130 38 := by
  subst ht
  obtain ⟨a1, a2, a3⟩ := hK.add h0
  have e : f_X9_layGoes_250 k1 k2 x1 x2 x3 x4 x5 x6 x8 x9 (lN c) (lN A) w = if K = -5 then k2 x1 x2 x3 x4 x5 x6 x8 (x9 + 1) (sI (sL w 130 37 (lN (A + c))) 130 39 (kI s0)) else if K = kI s0 then k2 x1 x2 x3 x4 x5 x6 x8 (x9 + 1) (sI (sL w 130 37 (lN (A + c))) 130 39 (kI s0)) else k2 x1 x2 x3 x4 x5 x6 x8 (x9 + 1) (sI (sL w 130 37 (lN (A + c))) 130 39 (-6)) := by
    rw [f_X9_layGoes_250, lN_add]
    have g1 : gI (sL w 130 37 (lN (A + c))) 130 39 = K := h39
    have g2 : gI (sL w 130 37 (lN (A + c))) 130 22 = kI s0 := h22
    rw [g1, g2, f_X9_layGoes_275, f_X9_layGoes_284, f_X9_layGoes_287, g2, f_X9_layGoes_284, f_X9_layGoes_287]
  rw [e]
  have fin : ∀ K', KS (fun s => S s ∨ s = s0) K' → ∃ w' K'', k2 x1 x2 x3 x4 x5 x6 x8 (x9 + 1) (sI (sL w 130 37 (lN (A + c))) 130 39 K') = k2 x1 x2 x3 x4 x5 x6 x8 (x9 + 1) w' ∧ gL w' 130 37 = lN (A + c) ∧ gI w' 130 39 = K'' ∧ KS (fun s => S s ∨ s = s0) K'' ∧ (∀ p j, p ≠ 130 → gI w' p j = gI w p j) ∧ gI w' 130 14 = gI w 130 14 ∧ gL w' 130 38 = gL w 130 38 := by
    intro K' hK'
    exact ⟨_, K', rfl, gL_same _ _ _ _, gI_same _ _ _ _, hK', fun p j hp => by rw [gI_sI, if_neg (fun z => hp z.1)]; rfl, by rw [gI_sI, if_neg (by omega)]; rfl, by show gL (sL w 130 37 (lN (A + c))) 130 38 = _; rw [gL_sL, if_neg (by omega)]⟩
  by_cases z : K = -5
  · rw [if_pos z]; exact fin _ (a1 z)
  · rw [if_neg z]
    by_cases y : K = kI s0
    · rw [if_pos y]; exact fin _ (a2 z y)
    · rw [if_neg y]; exact fin _ (a3 z y)
/-- the reference's state on its way -/
def GX (σ : HS) (d : DS) (w : GW) (A : Nat) (S : Nat → Prop) : Prop := MHl w σ ∧ DYm w 135 0 d ∧ gL w 130 37 = lN A ∧ KS S (gI w 130 39) ∧ gL w 130 38 = lN (WY (zE σ) (zR σ (yW d)) (zG σ (yW d)))
theorem lg160 (hs : HSok σ) {d : DS} (h : DOK σ d) {b m : Nat} (hb : b < 1000) (hm : m < 1000) {k1 : Int32 → Int32 → Int32 → Int32 → Int32 → GW → Option (Unit × GW)} {x4 : Int32} : ∀ e i n (w : GW) A S, i + e = tnU σ d m → e < n → GX σ d w A S → GL w (tg (pB (zE σ)) (zG σ (yW d)) m) (zG σ (yW d)) → ∃ w' S', f_X9_layGoes_160 k1 n (nI b) (nI (yW d)) (nI (zG σ (yW d))) x4 (nI m) (lN (tw (pB (zE σ)) (pW (zE σ)) (zG σ (yW d)) m)) (nI (tnU σ d m)) (nI i) w = k1 (nI b) (nI (yW d)) (nI (zG σ (yW d))) x4 (nI (m + 1)) w' ∧ GX σ d w' (A + sm e (fun t => tw (pB (zE σ)) (pW (zE σ)) (zG σ (yW d)) m * coU σ d m * inU σ d b m (i + t))) S' ∧ (∀ s, S' s ↔ S s ∨ ∃ t, t < e ∧ inU σ d b m (i + t) = 1 ∧ spU σ d m (i + t) = s) := by
  have hB0 := hs.1.1
  have hB5 := hs.1.2.1
  have h6 := hs.2.2.1.2
  have hq := hs.2.2.2.2.1 (yW d)
  have hwho := h.1
  have htn3 := tnU_le σ d m hq.1.2
  obtain ⟨hu8, hsu⟩ := h.u8 hs
  intro e
  induction e with
  | zero =>
    intro i n w A S hi hn X G
    obtain ⟨n, rfl⟩ : ∃ m9, n = m9 + 1 := ⟨n - 1, by omega⟩
    refine ⟨w, S, ?_, by rw [sm_0]; exact X, fun s => ⟨Or.inl, fun q => q.elim id (fun ⟨t, ht, _⟩ => by omega)⟩⟩
    rw [f_X9_layGoes_160, if_pos ((le_nI (by omega) (by omega)).mpr (by omega)), nI_1]
  | succ e ih =>
    intro i n w A S hi hn X G
    obtain ⟨n, rfl⟩ : ∃ m9, n = m9 + 1 := ⟨n - 1, by omega⟩
    obtain ⟨M, D, h37, hK, h38⟩ := X
    obtain ⟨w1, a1, a2⟩ := layDay9 (w := w) h.2.2.2.1 D
    have S1 := fr_X9_layDay _ a1
    have M1 : MHl w1 σ := M.km (KM.sm S1 (by decide) rfl)
    have G1 : GL w1 (tg (pB (zE σ)) (zG σ (yW d)) m) (zG σ (yW d)) := G.sm S1 (fun _ => rfl)
    obtain ⟨tk1, tk2⟩ := tkU_some hs d (m := m) (t := i) (by omega)
    obtain ⟨m1, m2, m3⟩ := M1.2.2.2.2.2.1 (yW d) hwho
    have e1 := taken (w := w1) (r := zR σ (yW d)) (h := zH σ (yW d)) (sl := yK d) (t := i) (y := paI (zR σ (yW d)) (zH σ (yW d))) M1.2.1.1 hB0 hB5 a2 hu8 h.2.2.2.1 hq.1.1 hq.1.2 (fun j _ => tg_lt hB0 _ _ _) G1 hq.2.1 hq.2.2 (fun z => if_pos z) (by omega)
    rw [tk1] at e1
    have e1' : f_X9_taken (nI (zR σ (yW d))) (paI (zR σ (yW d)) (zH σ (yW d))) (nI (zG σ (yW d))) (nI i) w1 = some (nI (tkU σ d m i), w1) := e1
    obtain ⟨w2, b1, b2, b3⟩ := puts (w := w1) (r := zR σ (yW d)) hs.1 M1.2.1 a2 hu8 h.2.2.2.1 hq.1.2 (fun j _ => tg_lt hB0 _ _ _) G1 hq.2.1 tk2
    have S2 := fr_X9_puts _ _ _ _ b1
    have M2 : MHl w2 σ := M1.km (KM.sm S2 (by decide) rfl)
    have D2 : DYm w2 135 0 d := (D.of (fun j => S1.I 135 j rfl)).of (fun j => S2.I 135 j rfl)
    have G2 : GL w2 (tg (pB (zE σ)) (zG σ (yW d)) m) (zG σ (yW d)) := G1.sm S2 (fun _ => rfl)
    have h37' : gL w2 130 37 = lN A := by rw [S2.L 130 37 rfl, S1.L 130 37 rfl]; exact h37
    have h39' : gI w2 130 39 = gI w 130 39 := by rw [S2.I 130 39 rfl, S1.I 130 39 rfl]
    have hsp : spU σ d m i ≤ 5 := spS_le hs.1 h.2.2.2.1
    have e0 : f_X9_layGoes_160 k1 (n + 1) (nI b) (nI (yW d)) (nI (zG σ (yW d))) x4 (nI m) (lN (tw (pB (zE σ)) (pW (zE σ)) (zG σ (yW d)) m)) (nI (tnU σ d m)) (nI i) w = if oI (goT (pB (zE σ)) (pR (zE σ)) (yU d) (tkU σ d m i)) = nI b then (if nI (zR σ (yW d)) = 0 then (f_X9_tiesOf (nI (zG σ (yW d))) w2).bind fun q35 => if ¬ ((nI (tnU σ d m)).toInt64) = 0 then f_X9_layGoes_250 k1 (f_X9_layGoes_160 k1 n) (nI b) (nI (yW d)) (nI (zG σ (yW d))) x4 (nI m) (lN (tw (pB (zE σ)) (pW (zE σ)) (zG σ (yW d)) m)) (nI (tnU σ d m)) (nI i) (lN (tw (pB (zE σ)) (pW (zE σ)) (zG σ (yW d)) m) * (q35.1 / ((nI (tnU σ d m)).toInt64))) (gL w2 130 37) q35.2 else none else f_X9_layGoes_250 k1 (f_X9_layGoes_160 k1 n) (nI b) (nI (yW d)) (nI (zG σ (yW d))) x4 (nI m) (lN (tw (pB (zE σ)) (pW (zE σ)) (zG σ (yW d)) m)) (nI (tnU σ d m)) (nI i) (lN (tw (pB (zE σ)) (pW (zE σ)) (zG σ (yW d)) m)) (gL w2 130 37) w2) else f_X9_layGoes_160 k1 n (nI b) (nI (yW d)) (nI (zG σ (yW d))) x4 (nI m) (lN (tw (pB (zE σ)) (pW (zE σ)) (zG σ (yW d)) m)) (nI (tnU σ d m)) (nI (i + 1)) w2 := by
      rw [f_X9_layGoes_160, if_neg (fun q9 => absurd ((le_nI (by omega) (by omega)).mp q9) (by omega)), a1, bind_some', show (24 : Int32) = nI 24 from rfl, show (30 : Int32) = nI 30 from rfl, nI_add, nI_add, if_pos ((inb_nI (by omega)).mpr (by omega)), if_pos ((inb_nI (by omega)).mpr (by omega)), if_pos ((inb_nI (by omega)).mpr (by omega)), ix_nI (by omega), ix_nI (by omega)]
      dsimp only
      rw [m2, m3, e1', bind_some']
      dsimp only
      rw [b1, bind_some']
      dsimp only
      rw [if_pos ((inb_nI (by omega)).mpr (by omega)), (M2.2.2.2.2.2.1 (yW d) hwho).2.1, f_X9_layGoes_287, nI_1]
    rw [e0]
    by_cases z : goT (pB (zE σ)) (pR (zE σ)) (yU d) (tkU σ d m i) = some b
    · have hin : inU σ d b m i = 1 := if_pos z
      have hsp2 : gI w2 130 22 = kI (spU σ d m i) := b2.2
      rw [if_pos ((oI_eq (goT_lt hs.1 tk2) hb).mpr z).symm]
      have fin : ∀ (w3 : GW) (t0 : Int64), (∀ q j, gI w3 q j = gI w2 q j) → (∀ q j, gL w3 q j = gL w2 q j) → t0 = lN (tw (pB (zE σ)) (pW (zE σ)) (zG σ (yW d)) m * coU σ d m) → ∃ w' S', f_X9_layGoes_250 k1 (f_X9_layGoes_160 k1 n) (nI b) (nI (yW d)) (nI (zG σ (yW d))) x4 (nI m) (lN (tw (pB (zE σ)) (pW (zE σ)) (zG σ (yW d)) m)) (nI (tnU σ d m)) (nI i) t0 (gL w2 130 37) w3 = k1 (nI b) (nI (yW d)) (nI (zG σ (yW d))) x4 (nI (m + 1)) w' ∧ GX σ d w' (A + sm (e + 1) (fun t => tw (pB (zE σ)) (pW (zE σ)) (zG σ (yW d)) m * coU σ d m * inU σ d b m (i + t))) S' ∧ (∀ s, S' s ↔ S s ∨ ∃ t, t < e + 1 ∧ inU σ d b m (i + t) = 1 ∧ spU σ d m (i + t) = s) := by
        intro w3 t0 g1 g2 ht
        obtain ⟨w4, K4, c1, c2, c3, c4, c5, c6, c7⟩ := lg250 (w := w3) (k1 := k1) (k2 := f_X9_layGoes_160 k1 n) (x1 := nI b) (x2 := nI (yW d)) (x3 := nI (zG σ (yW d))) (x4 := x4) (x5 := nI m) (x6 := lN (tw (pB (zE σ)) (pW (zE σ)) (zG σ (yW d)) m)) (x8 := nI (tnU σ d m)) (x9 := nI i) (A := A) (K := gI w 130 39) hsp hK (by rw [g1]; exact h39') (by rw [g1]; exact hsp2) ht
        rw [h37', c1, nI_1]
        have X4 : GX σ d w4 (A + tw (pB (zE σ)) (pW (zE σ)) (zG σ (yW d)) m * coU σ d m) (fun s => S s ∨ s = spU σ d m i) := ⟨M2.of (by rw [c6]; exact g1 130 14) (fun j => by rw [c5 _ _ (by omega)]; exact g1 133 j), D2.of (fun j => by rw [c5 _ _ (by omega)]; exact g1 135 j), c2, by rw [c3]; exact c4, by rw [c7, g2, S2.L 130 38 rfl, S1.L 130 38 rfl]; exact h38⟩
        obtain ⟨w', S', d1, d2, d3⟩ := ih (i + 1) n w4 _ _ (by omega) (by omega) X4 (fun j hj => by rw [c5 _ _ (by omega), g1]; exact G2 j hj)
        refine ⟨w', S', d1, ?_, fun s => ?_⟩
        · have e3 : A + tw (pB (zE σ)) (pW (zE σ)) (zG σ (yW d)) m * coU σ d m + sm e (fun t => tw (pB (zE σ)) (pW (zE σ)) (zG σ (yW d)) m * coU σ d m * inU σ d b m (i + 1 + t)) = A + sm (e + 1) (fun t => tw (pB (zE σ)) (pW (zE σ)) (zG σ (yW d)) m * coU σ d m * inU σ d b m (i + t)) := by
            rw [sm_first, Nat.add_zero i, hin, Nat.mul_one, Nat.add_assoc]
            rw [show (fun t => tw (pB (zE σ)) (pW (zE σ)) (zG σ (yW d)) m * coU σ d m * inU σ d b m (i + 1 + t)) = fun t => tw (pB (zE σ)) (pW (zE σ)) (zG σ (yW d)) m * coU σ d m * inU σ d b m (i + (t + 1)) from funext (fun t => by rw [show i + 1 + t = i + (t + 1) by omega])]
          rw [← e3]; exact d2
        · rw [d3 s]
          constructor
          · rintro ((q | q) | ⟨t, t1, t2, t3⟩)
            · exact Or.inl q
            · exact Or.inr ⟨0, by omega, hin, q.symm⟩
            · exact Or.inr ⟨t + 1, by omega, by rw [show i + (t + 1) = i + 1 + t by omega]; exact t2, by rw [show i + (t + 1) = i + 1 + t by omega]; exact t3⟩
          · rintro (q | ⟨t, t1, t2, t3⟩)
            · exact Or.inl (Or.inl q)
            · by_cases y : t = 0
              · subst y; exact Or.inl (Or.inr t3.symm)
              · refine Or.inr ⟨t - 1, by omega, ?_, ?_⟩
                · rw [show i + 1 + (t - 1) = i + t by omega]; exact t2
                · rw [show i + 1 + (t - 1) = i + t by omega]; exact t3
      by_cases r0 : zR σ (yW d) = 0
      · have htn : 0 < tnU σ d m := tnS_pos hq.1.1 (fun j _ => tg_lt hB0 _ _ _)
        have hti : tiO (zG σ (yW d)) < 1000 := by unfold tiO; split <;> omega
        rw [if_pos ((eq0 (by omega)).mpr r0), tiesOf (by omega), bind_some', nI_l (by omega), if_pos (fun y => by have := (leq0 (by omega)).mp y; omega), div_lN (by omega) htn (by omega), lN_mul]
        exact fin w2 _ (fun _ _ => rfl) (fun _ _ => rfl) (by unfold coU; rw [if_pos r0])
      · rw [if_neg (fun y => r0 ((eq0 (by omega)).mp y))]
        exact fin w2 _ (fun _ _ => rfl) (fun _ _ => rfl) (by unfold coU; rw [if_neg r0, Nat.mul_one])
    · have hin : inU σ d b m i = 0 := if_neg z
      rw [if_neg (fun y => z ((oI_eq (goT_lt hs.1 tk2) hb).mp y.symm))]
      obtain ⟨w', S', d1, d2, d3⟩ := ih (i + 1) n w2 A S (by omega) (by omega) ⟨M2, D2, h37', by rw [h39']; exact hK, by rw [S2.L 130 38 rfl, S1.L 130 38 rfl]; exact h38⟩ G2
      refine ⟨w', S', d1, ?_, fun s => ?_⟩
      · have e3 : A + sm e (fun t => tw (pB (zE σ)) (pW (zE σ)) (zG σ (yW d)) m * coU σ d m * inU σ d b m (i + 1 + t)) = A + sm (e + 1) (fun t => tw (pB (zE σ)) (pW (zE σ)) (zG σ (yW d)) m * coU σ d m * inU σ d b m (i + t)) := by
          rw [sm_first, Nat.add_zero i, hin, Nat.mul_zero, Nat.zero_add]
          rw [show (fun t => tw (pB (zE σ)) (pW (zE σ)) (zG σ (yW d)) m * coU σ d m * inU σ d b m (i + 1 + t)) = fun t => tw (pB (zE σ)) (pW (zE σ)) (zG σ (yW d)) m * coU σ d m * inU σ d b m (i + (t + 1)) from funext (fun t => by rw [show i + 1 + t = i + (t + 1) by omega])]
        rw [← e3]; exact d2
      · rw [d3 s]
        constructor
        · rintro (q | ⟨t, t1, t2, t3⟩)
          · exact Or.inl q
          · exact Or.inr ⟨t + 1, by omega, by rw [show i + (t + 1) = i + 1 + t by omega]; exact t2, by rw [show i + (t + 1) = i + 1 + t by omega]; exact t3⟩
        · rintro (q | ⟨t, t1, t2, t3⟩)
          · exact Or.inl q
          · by_cases y : t = 0
            · subst y; rw [Nat.add_zero, hin] at t2; omega
            · refine Or.inr ⟨t - 1, by omega, ?_, ?_⟩
              · rw [show i + 1 + (t - 1) = i + t by omega]; exact t2
              · rw [show i + 1 + (t - 1) = i + t by omega]; exact t3
theorem lg114 (hs : HSok σ) {d : DS} (h : DOK σ d) {b : Nat} (hb : b < 1000) : ∀ e m n (w : GW) A S, m + e = pB (zE σ) ^ zG σ (yW d) → e < n → GX σ d w A S → ∃ w' S', f_X9_layGoes_114 n (nI b) (nI (yW d)) (nI (zG σ (yW d))) (nI (pB (zE σ) ^ zG σ (yW d))) (nI m) w = some ((), w') ∧ GX σ d w' (A + sm e (fun k => sm (tnU σ d (m + k)) (fun t => tw (pB (zE σ)) (pW (zE σ)) (zG σ (yW d)) (m + k) * coU σ d (m + k) * inU σ d b (m + k) t))) S' ∧ (∀ s, S' s ↔ S s ∨ ∃ k, k < e ∧ ∃ t, t < tnU σ d (m + k) ∧ inU σ d b (m + k) t = 1 ∧ spU σ d (m + k) t = s) := by
  have hB0 := hs.1.1
  have hB5 := hs.1.2.1
  have h6 := hs.2.2.1.2
  have hq := hs.2.2.2.2.1 (yW d)
  have hwho := h.1
  obtain ⟨hu8, hsu⟩ := h.u8 hs
  have hpw : pB (zE σ) ^ zG σ (yW d) ≤ 125 := Nat.le_trans (Nat.pow_le_pow_left hB5 _) (Nat.pow_le_pow_right (by omega) hq.1.2)
  intro e
  induction e with
  | zero =>
    intro m n w A S hm hn X
    obtain ⟨n, rfl⟩ : ∃ m9, n = m9 + 1 := ⟨n - 1, by omega⟩
    refine ⟨w, S, ?_, by rw [sm_0]; exact X, fun s => ⟨Or.inl, fun q => q.elim id (fun ⟨k, hk, _⟩ => by omega)⟩⟩
    rw [f_X9_layGoes_114, if_pos ((le_nI (by omega) (by omega)).mpr (by omega))]
  | succ e ih =>
    intro m n w A S hm hn X
    obtain ⟨n, rfl⟩ : ∃ m9, n = m9 + 1 := ⟨n - 1, by omega⟩
    obtain ⟨M, D, h37, hK, h38⟩ := X
    obtain ⟨w1, a1, a2⟩ := layDay9 (w := w) h.2.2.2.1 D
    have S1 := fr_X9_layDay _ a1
    have M1 : MHl w1 σ := M.km (KM.sm S1 (by decide) rfl)
    obtain ⟨w2, b1, b2⟩ := layGlances (w := w1) (g := zG σ (yW d)) (l := m) hB0 hB5 M1.2.1.1 M1.2.1.2.2.1 (fun c => (hs.1.2.2.2.1 c).2) hq.1.2 (by omega)
    have S2 := fr_X9_layGlances _ _ _ b1
    have M2 : MHl w2 σ := M1.km (KM.sm S2 (by decide) rfl)
    have D2 : DYm w2 135 0 d := (D.of (fun j => S1.I 135 j rfl)).of (fun j => S2.I 135 j rfl)
    have L2 : LK w2 (yU d) (yK d) := ⟨fun c hc => by rw [S2.I 137 c rfl]; exact a2.1 c hc, by rw [S2.I 130 22 rfl]; exact a2.2⟩
    have X2 : GX σ d w2 A S := ⟨M2, D2, by rw [S2.L 130 37 rfl, S1.L 130 37 rfl]; exact h37, by rw [S2.I 130 39 rfl, S1.I 130 39 rfl]; exact hK, by rw [S2.L 130 38 rfl, S1.L 130 38 rfl]; exact h38⟩
    obtain ⟨w3, S3, c1, c2, c3⟩ := lg160 (k1 := f_X9_layGoes_114 n) (x4 := nI (pB (zE σ) ^ zG σ (yW d))) hs h hb (show m < 1000 by omega) (tnU σ d m) 0 fu w2 A S (by omega) (by have := tnU_le σ d m hq.1.2; exact (fu_gt (by omega))) X2 b2
    obtain ⟨w', S', d1, d2, d3⟩ := ih (m + 1) n w3 _ S3 (by omega) (by omega) c2
    refine ⟨w', S', ?_, ?_, fun s => ?_⟩
    · have e155 : ∀ tn, tn = tnU σ d m → f_X9_layGoes_155 (f_X9_layGoes_114 n) (nI b) (nI (yW d)) (nI (zG σ (yW d))) (nI (pB (zE σ) ^ zG σ (yW d))) (nI m) (lN (tw (pB (zE σ)) (pW (zE σ)) (zG σ (yW d)) m)) (nI tn) w2 = some ((), w') := by
        intro tn htn
        subst htn
        rw [f_X9_layGoes_155, show (0 : Int32) = nI 0 from rfl, c1]
        exact d1
      rw [f_X9_layGoes_114, if_neg (fun q9 => absurd ((le_nI (by omega) (by omega)).mp q9) (by omega)), a1, bind_some']
      dsimp only
      rw [b1, bind_some', show (24 : Int32) = nI 24 from rfl, nI_add, if_pos ((inb_nI (by omega)).mpr (by omega)), ix_nI (by omega)]
      dsimp only
      rw [(M2.2.2.2.2.2.1 (yW d) hwho).2.1]
      by_cases r0 : zR σ (yW d) = 0
      · rw [if_pos ((eq0 (by omega)).mpr r0), ties (w := w2) (g := zG σ (yW d)) M2.2.1.1 hB0 hB5 L2.1 hu8 hq.1.1 hq.1.2 (fun j _ => tg_lt hB0 _ _ _) b2, bind_some']
        exact e155 _ (by unfold tnU tnS; rw [if_pos r0])
      · rw [if_neg (fun y => r0 ((eq0 (by omega)).mp y))]
        exact e155 1 (by unfold tnU tnS; rw [if_neg r0])
    · have e3 : A + sm (tnU σ d m) (fun t => tw (pB (zE σ)) (pW (zE σ)) (zG σ (yW d)) m * coU σ d m * inU σ d b m (0 + t)) + sm e (fun k => sm (tnU σ d (m + 1 + k)) (fun t => tw (pB (zE σ)) (pW (zE σ)) (zG σ (yW d)) (m + 1 + k) * coU σ d (m + 1 + k) * inU σ d b (m + 1 + k) t)) = A + sm (e + 1) (fun k => sm (tnU σ d (m + k)) (fun t => tw (pB (zE σ)) (pW (zE σ)) (zG σ (yW d)) (m + k) * coU σ d (m + k) * inU σ d b (m + k) t)) := by
        rw [sm_first, Nat.add_zero m, Nat.add_assoc]
        rw [show (fun t => tw (pB (zE σ)) (pW (zE σ)) (zG σ (yW d)) m * coU σ d m * inU σ d b m (0 + t)) = fun t => tw (pB (zE σ)) (pW (zE σ)) (zG σ (yW d)) m * coU σ d m * inU σ d b m t from funext (fun t => by rw [Nat.zero_add])]
        rw [show (fun k => sm (tnU σ d (m + 1 + k)) (fun t => tw (pB (zE σ)) (pW (zE σ)) (zG σ (yW d)) (m + 1 + k) * coU σ d (m + 1 + k) * inU σ d b (m + 1 + k) t)) = fun k => sm (tnU σ d (m + (k + 1))) (fun t => tw (pB (zE σ)) (pW (zE σ)) (zG σ (yW d)) (m + (k + 1)) * coU σ d (m + (k + 1)) * inU σ d b (m + (k + 1)) t) from funext (fun k => by rw [show m + 1 + k = m + (k + 1) by omega])]
      rw [← e3]; exact d2
    · rw [d3 s, c3 s]
      constructor
      · rintro ((q | ⟨t, t1, t2, t3⟩) | ⟨k, k1, t, t1, t2, t3⟩)
        · exact Or.inl q
        · rw [Nat.zero_add] at t2 t3
          exact Or.inr ⟨0, by omega, t, t1, t2, t3⟩
        · rw [show m + 1 + k = m + (k + 1) by omega] at t1 t2 t3
          exact Or.inr ⟨k + 1, by omega, t, t1, t2, t3⟩
      · rintro (q | ⟨k, k1, t, t1, t2, t3⟩)
        · exact Or.inl (Or.inl q)
        · by_cases y : k = 0
          · subst y
            rw [Nat.add_zero] at t1 t2 t3
            exact Or.inl (Or.inr ⟨t, t1, by rw [Nat.zero_add]; exact t2, by rw [Nat.zero_add]; exact t3⟩)
          · refine Or.inr ⟨k - 1, by omega, t, ?_, ?_, ?_⟩
            · rw [show m + 1 + (k - 1) = m + k by omega]; exact t1
            · rw [show m + 1 + (k - 1) = m + k by omega]; exact t2
            · rw [show m + 1 + (k - 1) = m + k by omega]; exact t3
end G9
