/-! a day -/
/-- a day: by whom, seed, letters, what is remembered, what boxes hold -/
abbrev DS : Type := Nat × Nat × Nat × Nat × (Nat → Nat)
def yW (d : DS) : Nat := d.1
def yS (d : DS) : Nat := d.2.1
def yP (d : DS) : Nat := d.2.2.1
def yK (d : DS) : Nat := d.2.2.2.1
def yU (d : DS) : Nat → Nat := d.2.2.2.2
def DOK (σ : HS) (d : DS) : Prop := yW d < zP σ ∧ yS d < 65537 ∧ yP d ≤ zL σ ∧ yK d ≤ 5 ∧ (zR σ (yW d) ≠ 4 → yK d = 0) ∧ su (yU d) ≤ yP d ∧ ZB (pB (zE σ)) (yU d)
def kpI (s : Nat) : Int32 := if s = 0 then -2 else nI (s - 1)
/-- as the class has it -/
def DYc (w : GW) (k : Nat) (d : DS) : Prop := gI w k 0 = nI (yW d) ∧ gI w k 1 = nI (yS d) ∧ gI w k 2 = nI (yP d) ∧ gI w k 3 = nI (yP d - su (yU d)) ∧ gI w k 4 = nI (yK d) ∧ ∀ b, b < 5 → gI w (k + 1) b = nI (yU d b)
/-- as the reference has it -/
def DYm (w : GW) (k o : Nat) (d : DS) : Prop := (∀ b, b < 5 → gI w k (o + b) = nI (yU d b)) ∧ gI w k (o + 5) = nI (yW d) ∧ gI w k (o + 6) = nI (yP d) ∧ gI w k (o + 7) = kpI (yK d) ∧ gI w k (o + 8) = nI (yS d)
theorem DYc.of {w w' : GW} {k : Nat} {d : DS} (H : DYc w k d) (h1 : ∀ j, gI w' k j = gI w k j) (h2 : ∀ j, gI w' (k + 1) j = gI w (k + 1) j) : DYc w' k d := by
  obtain ⟨a, b, c, e, f, g⟩ := H
  exact ⟨(h1 _).trans a, (h1 _).trans b, (h1 _).trans c, (h1 _).trans e, (h1 _).trans f, fun x hx => (h2 _).trans (g x hx)⟩
theorem DYm.of {w w' : GW} {k o : Nat} {d : DS} (H : DYm w k o d) (h1 : ∀ j, gI w' k j = gI w k j) : DYm w' k o d := by
  obtain ⟨a, b, c, e, f⟩ := H
  exact ⟨fun x hx => (h1 _).trans (a x hx), (h1 _).trans b, (h1 _).trans c, (h1 _).trans e, (h1 _).trans f⟩
theorem DOK.u8 {σ : HS} {d : DS} (hs : HSok σ) (h : DOK σ d) : (∀ b, yU d b ≤ 8) ∧ su (yU d) ≤ 8 := by
  have h1 : su (yU d) ≤ 8 := by have := h.2.2.1; have := h.2.2.2.2.2.1; have := hs.2.1; omega
  refine ⟨fun b => ?_, h1⟩
  by_cases z : b < 5
  · exact u8_of h1 b z
  · rw [h.2.2.2.2.2.2 b (by have := hs.1.2.1; omega)]; omega
section DY
variable {σ : HS} {w : GW}
/-- a letter that lands -/
def lnS (σ : HS) (d : DS) (s' b sl : Nat) : DS := (yW d, s', yP d + 1, sl, mvH (zE σ) (ldH (zE σ) (yU d) b) (yP d + 1))
theorem ln_su (hs : HSok σ) {u : Nat → Nat} {b n : Nat} (hb : b < pB (zE σ)) : su (mvH (zE σ) (ldH (zE σ) u b) n) = match goT (pB (zE σ)) (pR (zE σ)) u b with | none => su u | some _ => su u + 1 := by
  rw [mvH_su hs.1]
  unfold ldH
  cases e : goT (pB (zE σ)) (pR (zE σ)) u b with
  | none => rfl
  | some x =>
    have := goS_some _ _ _ hb e
    exact upM_su (by have := hs.1.2.1; omega)
theorem ln_ok (hs : HSok σ) {d : DS} (h : DOK σ d) (hp : yP d < zL σ) {s' b sl : Nat} (hs' : s' < 65537) (hb : b < pB (zE σ)) (hsl : sl ≤ 5) (h4 : zR σ (yW d) ≠ 4 → sl = 0) : DOK σ (lnS σ d s' b sl) := by
  refine ⟨h.1, hs', hp, hsl, h4, ?_, ?_⟩
  · show su (mvH (zE σ) (ldH (zE σ) (yU d) b) (yP d + 1)) ≤ yP d + 1
    rw [ln_su hs hb]
    have := h.2.2.2.2.2.1
    cases goT (pB (zE σ)) (pR (zE σ)) (yU d) b with
    | none => show su (yU d) ≤ yP d + 1; omega
    | some x => show su (yU d) + 1 ≤ yP d + 1; omega
  · exact ZB_mv hs.1 (ZB_ld h.2.2.2.2.2.2 hb) _
theorem land8 (hs : HSok σ) {d : DS} (h : DOK σ d) (hp : yP d < zL σ) {x b sl : Nat} (hH : HCl w (fxH x) (zE σ)) (D : DYc w 121 d) (hb : b < pB (zE σ)) : ∃ w', f_X2_land 121 (fxH x) (nI b) (nI sl) w = some ((), w') ∧ DYc w' 121 (lnS σ d (yS d) b sl) := by
  obtain ⟨hu8, hsu⟩ := h.u8 hs
  have hL := hs.2.1
  have hB0 := hs.1.1
  have hB5 := hs.1.2.1
  have hz := fxH_z x
  obtain ⟨d0, d1, d2, d3, d4, d5⟩ := D
  have hle := h.2.2.2.2.2.1
  have e1 := roomFrom (w := w) (k0 := fxH x) (k1 := 121 + 1) hH.1 hB5 hH.2.1 (fun c hc => d5 c (by omega)) (fun c => (hs.1.2.2.1 c).2) hu8 hb
  have key : ∀ (w1 : GW) (rt : Nat), (∀ j, j ≠ 3 → gI w1 121 j = gI w 121 j) → gI w1 121 3 = nI rt → (∀ p j, p < 60 → gI w1 p j = gI w p j) → (∀ c, c < 5 → gI w1 122 c = nI (ldH (zE σ) (yU d) b c)) → rt = yP d + 1 - su (mvH (zE σ) (ldH (zE σ) (yU d) b) (yP d + 1)) → ∃ w', f_X2_land_40 121 (fxH x) (nI sl) w1 = some ((), w') ∧ DYc w' 121 (lnS σ d (yS d) b sl) := by
    intro w1 rt k1 k2 k3 k4 k5
    have hw2 : ∀ p j, p < 60 → gI (sI (sI w1 121 2 (nI (yP d + 1))) 121 4 (nI sl)) p j = gI w p j := fun p j hpj => by rw [gI_sI, if_neg (by omega), gI_sI, if_neg (by omega)]; exact k3 p j hpj
    have hH2 : HCl (sI (sI w1 121 2 (nI (yP d + 1))) 121 4 (nI sl)) (fxH x) (zE σ) := hH.of2 hw2
    obtain ⟨w', a1, a2⟩ := move (w := sI (sI w1 121 2 (nI (yP d + 1))) 121 4 (nI sl)) (k0 := fxH x) (k1 := 122) (n := yP d + 1) hH2.1 hB0 hB5 hH2.2.2.2.2.2.2.2 hs.1.2.2.2.2.2.2 hH2.2.1 (fun c hc => by rw [gI_sI, if_neg (by omega), gI_sI, if_neg (by omega)]; exact k4 c hc) (fun c => (hs.1.2.2.1 c).2) (ldH_le hs.1 hb hu8) (by omega)
    have S := fr_X3_move _ _ _ _ a1
    have g : ∀ j, gI w' 121 j = gI (sI (sI w1 121 2 (nI (yP d + 1))) 121 4 (nI sl)) 121 j := fun j => S.I 121 j rfl
    refine ⟨w', ?_, ?_, ?_, ?_, ?_, ?_, a2⟩
    · have e0 : gI w1 121 2 + 1 = nI (yP d + 1) := by rw [k1 2 (by omega), d2, nI_1]
      rw [f_X2_land_40, e0]
      have e2 : gI (sI (sI w1 121 2 (nI (yP d + 1))) 121 4 (nI sl)) 121 2 = nI (yP d + 1) := by rw [gI_sI, if_neg (by omega), gI_same]
      rw [e2]
      have a1' : f_X3_move (fxH x) (121 + 1) (nI (yP d + 1)) (sI (sI w1 121 2 (nI (yP d + 1))) 121 4 (nI sl)) = some ((), w') := a1
      rw [a1', bind_some']
    · rw [g, gI_sI, if_neg (by omega), gI_sI, if_neg (by omega), k1 0 (by omega)]; exact d0
    · rw [g, gI_sI, if_neg (by omega), gI_sI, if_neg (by omega), k1 1 (by omega)]; exact d1
    · rw [g, gI_sI, if_neg (by omega), gI_same]; rfl
    · rw [g, gI_sI, if_neg (by omega), gI_sI, if_neg (by omega), k2, k5]; rfl
    · rw [g, gI_same]; rfl
  have hsum := ln_su hs (u := yU d) (n := yP d + 1) hb
  rw [f_X2_land, e1, bind_some']
  dsimp only
  cases e : goT (pB (zE σ)) (pR (zE σ)) (yU d) b with
  | none =>
    rw [e] at hsum
    rw [if_neg (show ¬ (0 : Int32) ≤ oI none from by decide)]
    refine key _ (yP d - su (yU d) + 1) (fun j hj => by rw [gI_sI, if_neg (by omega)]) (by rw [gI_same, d3, nI_1]) (fun p j hpj => by rw [gI_sI, if_neg (by omega)]) (fun c hc => ?_) ?_
    · rw [gI_sI, if_neg (by omega)]
      unfold ldH
      rw [e]
      exact d5 c hc
    · rw [hsum]
      show yP d - su (yU d) + 1 = yP d + 1 - su (yU d)
      omega
  | some t =>
    rw [e] at hsum
    have ht := goS_some _ _ _ hb e
    rw [if_pos (show (0 : Int32) ≤ oI (some t) from (le_nI (a := 0) (by omega) (by omega)).mpr (by omega))]
    show ∃ w', (if inb (nI t) 5 then if inb (nI t) 5 then f_X2_land_40 121 (fxH x) (nI sl) (sI w (121 + 1) (ix (nI t)) (gI w (121 + 1) (ix (nI t)) + 1)) else none else none) = some ((), w') ∧ _
    rw [if_pos ((inb_nI (by omega)).mpr (by omega)), if_pos ((inb_nI (by omega)).mpr (by omega)), ix_nI (by omega)]
    refine key _ (yP d - su (yU d)) (fun j hj => by rw [gI_sI, if_neg (by omega)]) (by rw [gI_sI, if_neg (by omega)]; exact d3) (fun p j hpj => by rw [gI_sI, if_neg (by omega)]) (fun c hc => ?_) ?_
    · unfold ldH
      rw [gI_sI, e]
      unfold upM
      by_cases z : c = t
      · rw [if_pos ⟨rfl, z⟩, if_pos (by rw [z]), d5 t (by omega), nI_1, z]
      · rw [if_neg (fun y => z y.2), if_neg (fun y => z (by cases y; rfl))]
        exact d5 c hc
    · rw [hsum]
      show yP d - su (yU d) = yP d + 1 - (su (yU d) + 1)
      omega
theorem kpI_m2 {s : Nat} (hs : s ≤ 5) : kpI s = -2 ↔ s = 0 := by
  unfold kpI
  by_cases z : s = 0
  · rw [if_pos z]; exact ⟨fun _ => z, fun _ => rfl⟩
  · rw [if_neg z]; exact ⟨fun q => absurd q (nI_m2 (by omega)), fun q => absurd q z⟩
theorem kpI_k {s : Nat} (h : s ≠ 0) : kpI s = kI s := by
  unfold kpI
  rw [if_neg h]
  obtain ⟨m, rfl⟩ : ∃ m, s = m + 1 := ⟨s - 1, by omega⟩
  rw [kI_s, Nat.add_sub_cancel]
theorem layDay9 {d : DS} (hk : yK d ≤ 5) (D : DYm w 135 0 d) : ∃ w', f_X9_layDay w = some ((), w') ∧ LK w' (yU d) (yK d) := by
  have key : ∀ t i n (w : GW), i + t = 5 → t < n → DYm w 135 0 d → (∀ b, b < i → gI w 137 b = nI (yU d b)) → ∃ w', f_X9_layDay_2 n (nI i) w = some ((), w') ∧ LK w' (yU d) (yK d) := by
    intro t
    induction t with
    | zero =>
      intro i n w hi hn D h
      obtain ⟨n, rfl⟩ : ∃ m9, n = m9 + 1 := ⟨n - 1, by omega⟩
      obtain ⟨d1, d2, d3, d4, d5⟩ := D
      rw [f_X9_layDay_2, show (5 : Int32) = nI 5 from rfl, if_pos ((le_nI (by omega) (by omega)).mpr (by omega)), if_pos (show inb _ _ from by decide), show ix (7 : Int32) = 7 from by decide, d4]
      by_cases z : yK d = 0
      · rw [if_pos ((kpI_m2 hk).mpr z)]
        refine ⟨_, rfl, fun b hb => ?_, ?_⟩
        · rw [gI_sI, if_neg (by omega)]; exact h b (by omega)
        · rw [gI_same, z, kI_0]
      · rw [if_neg (fun y => z ((kpI_m2 hk).mp y)), if_pos (show inb _ _ from by decide)]
        refine ⟨_, rfl, fun b hb => ?_, ?_⟩
        · rw [gI_sI, if_neg (by omega)]; exact h b (by omega)
        · rw [gI_same, kpI_k z]
    | succ t ih =>
      intro i n w hi hn D h
      obtain ⟨n, rfl⟩ : ∃ m9, n = m9 + 1 := ⟨n - 1, by omega⟩
      have hd := D.1 i (by omega)
      rw [Nat.zero_add] at hd
      rw [f_X9_layDay_2, show (5 : Int32) = nI 5 from rfl, if_neg (fun q9 => absurd ((le_nI (by omega) (by omega)).mp q9) (by omega)), if_pos ((inb_nI (by omega)).mpr (by omega)), if_pos ((inb_nI (by omega)).mpr (by omega)), ix_nI (by omega), hd, nI_1]
      refine ih (i + 1) n _ (by omega) (by omega) (D.of (fun j => by rw [gI_sI, if_neg (by omega)])) (fun b hb => ?_)
      rw [gI_sI]
      by_cases z : b = i
      · rw [if_pos ⟨rfl, z⟩, z]
      · rw [if_neg (fun y => z y.2)]; exact h b (by omega)
  rw [f_X9_layDay, show (0 : Int32) = nI 0 from rfl]
  exact key 5 0 fu w (by omega) (fu_gt (by omega)) D (fun b hb => by omega)
theorem keepDay9 {u : Nat → Nat} {s : Nat} (hs5 : s ≤ 5) (hL : LK w u s) : ∃ w', f_X9_keepDay w = some ((), w') ∧ (∀ b, b < 5 → gI w' 135 b = nI (u b)) ∧ gI w' 135 7 = kpI s ∧ ∀ j, 5 ≤ j → j ≠ 7 → gI w' 135 j = gI w 135 j := by
  have key : ∀ t i n (w1 : GW), i + t = 5 → t < n → LK w1 u s → (∀ b, b < i → gI w1 135 b = nI (u b)) → (∀ j, 5 ≤ j → j ≠ 7 → gI w1 135 j = gI w 135 j) → ∃ w', f_X9_keepDay_2 n (nI i) w1 = some ((), w') ∧ (∀ b, b < 5 → gI w' 135 b = nI (u b)) ∧ gI w' 135 7 = kpI s ∧ ∀ j, 5 ≤ j → j ≠ 7 → gI w' 135 j = gI w 135 j := by
    intro t
    induction t with
    | zero =>
      intro i n w1 hi hn hL h1 h2
      obtain ⟨n, rfl⟩ : ∃ m9, n = m9 + 1 := ⟨n - 1, by omega⟩
      rw [f_X9_keepDay_2, show (5 : Int32) = nI 5 from rfl, if_pos ((le_nI (by omega) (by omega)).mpr (by omega)), hL.2]
      by_cases z : s = 0
      · rw [if_neg (fun y => (kI_pos (by omega)).mp y z), if_pos (show inb _ _ from by decide), show ix (7 : Int32) = 7 from by decide]
        refine ⟨_, rfl, fun b hb => ?_, ?_, fun j hj hj7 => ?_⟩
        · rw [gI_sI, if_neg (by omega)]; exact h1 b (by omega)
        · rw [gI_same]; unfold kpI; rw [if_pos z]
        · rw [gI_sI, if_neg (by omega)]; exact h2 j hj hj7
      · rw [if_pos ((kI_pos (by omega)).mpr z), if_pos (show inb _ _ from by decide), show ix (7 : Int32) = 7 from by decide]
        refine ⟨_, rfl, fun b hb => ?_, ?_, fun j hj hj7 => ?_⟩
        · rw [gI_sI, if_neg (by omega)]; exact h1 b (by omega)
        · rw [gI_same, kpI_k z]
        · rw [gI_sI, if_neg (by omega)]; exact h2 j hj hj7
    | succ t ih =>
      intro i n w1 hi hn hL h1 h2
      obtain ⟨n, rfl⟩ : ∃ m9, n = m9 + 1 := ⟨n - 1, by omega⟩
      rw [f_X9_keepDay_2, show (5 : Int32) = nI 5 from rfl, if_neg (fun q9 => absurd ((le_nI (by omega) (by omega)).mp q9) (by omega)), if_pos ((inb_nI (by omega)).mpr (by omega)), if_pos ((inb_nI (by omega)).mpr (by omega)), ix_nI (by omega), hL.1 i (by omega), nI_1]
      refine ih (i + 1) n _ (by omega) (by omega) ⟨fun b hb => by rw [gI_sI, if_neg (by omega)]; exact hL.1 b hb, by rw [gI_sI, if_neg (by omega)]; exact hL.2⟩ (fun b hb => ?_) (fun j hj hj7 => ?_)
      · rw [gI_sI]
        by_cases z : b = i
        · rw [if_pos ⟨rfl, z⟩, z]
        · rw [if_neg (fun y => z y.2)]; exact h1 b (by omega)
      · rw [gI_sI, if_neg (by omega)]; exact h2 j hj hj7
  rw [f_X9_keepDay, show (0 : Int32) = nI 0 from rfl]
  exact key 5 0 fu w (by omega) (fu_gt (by omega)) hL (fun b hb => by omega) (fun _ _ _ => rfl)
end DY
/-- draws -/
def sdN (x : Nat) : Nat := (75 * x + 74) % 65537
def sdI (x : Nat) : Nat → Nat
  | 0 => x
  | n + 1 => sdN (sdI x n)
theorem sdN_lt (x : Nat) : sdN x < 65537 := Nat.mod_lt _ (by omega)
theorem sdI_lt {x : Nat} (hx : x < 65537) : ∀ n, sdI x n < 65537 := by
  intro n
  cases n with
  | zero => exact hx
  | succ n => exact sdN_lt _
theorem sdI_s (x n : Nat) : sdI x (n + 1) = sdN (sdI x n) := rfl
theorem sd_nI {x : Nat} (hx : x < 65537) : irm ((75 * nI x) + 74) 65537 = nI (sdN x) := by
  rw [show (75 : Int32) = nI 75 from rfl, pk_mul, show (74 : Int32) = nI 74 from rfl, nI_add, show (65537 : Int32) = nI 65537 from rfl, irm_nI (by omega) (by omega) (by omega)]
  rfl
/-- a draw counted off, box by box -/
def cfF (wt : Nat → Nat) : Nat → Nat → Nat → Nat
  | 0, _, b => b
  | d + 1, v, b => if v < wt b then b else cfF wt d (v - wt b) (b + 1)
theorem cfF_lt {wt : Nat → Nat} : ∀ d v b, cfF wt d v b ≤ b + d := by
  intro d
  induction d with
  | zero => intro v b; exact Nat.le_refl _
  | succ d ih =>
    intro v b
    rw [cfF]
    split
    · omega
    · have := ih (v - wt b) (b + 1)
      omega
/-- the box of a glance -/
def bxS (η : HP) (x : Nat) : Nat → Nat := fun i => cfF (pW η) (pB η - 1) (sdI x (i + 1) % sm (pB η) (pW η)) 0
theorem bxS_lt {η : HP} (hη : HPok η) (x i : Nat) : bxS η x i < pB η := by
  have := cfF_lt (wt := pW η) (pB η - 1) (sdI x (i + 1) % sm (pB η) (pW η)) 0
  have := hη.1
  unfold bxS
  omega
