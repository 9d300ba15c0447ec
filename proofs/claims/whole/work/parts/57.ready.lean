/-! the class's choice: the ways in which boxes are seen -/
theorem xor_nI (a b : Nat) : nI a ^^^ nI b = nI (a ^^^ b) := by
  apply Int32.toBitVec_inj.1
  show BitVec.ofNat 32 a ^^^ BitVec.ofNat 32 b = BitVec.ofNat 32 (a ^^^ b)
  apply BitVec.eq_of_getLsbD_eq
  intro i hi
  simp [hi]
/-- a hall of the class -/
def HCl (w : GW) (H : Nat) (η : HP) : Prop := gI w H 1 = nI (pB η) ∧ (∀ b, b < pB η → gI w (H + 1) b = nI (pR η b)) ∧ (∀ b, b < pB η → gI w (H + 2) b = nI (pW η b)) ∧ gI w H 3 = nI (sm (pB η) (pR η)) ∧ gI w H 4 = nI (sm (pB η) (pW η)) ∧ gI w H 5 = nI (pD η) ∧ gI w H 6 = nI (pE η) ∧ gI w H 7 = nI (pM η)
def PCl (w : GW) (P r h g : Nat) : Prop := gI w P 0 = nI g ∧ gI w P 1 = nI r ∧ (r = 2 → gI w P 2 = nI h)
def CX (w : GW) (η : HP) (r h g : Nat) : Prop := HCl w (fxH (gR w 4)) η ∧ PCl w (fxP (gR w 5)) r h g
/-- nothing but longs of one place changed -/
def oL (k : Nat) (w w' : GW) : Prop := (∀ p j, gI w' p j = gI w p j) ∧ (∀ r, gR w' r = gR w r) ∧ ∀ p j, p ≠ k → gL w' p j = gL w p j
theorem oL.rf {k : Nat} {w : GW} : oL k w w := ⟨fun _ _ => rfl, fun _ => rfl, fun _ _ _ => rfl⟩
theorem oL.tr {k : Nat} {a b c : GW} (h : oL k a b) (h2 : oL k b c) : oL k a c := ⟨fun p j => (h2.1 p j).trans (h.1 p j), fun r => (h2.2.1 r).trans (h.2.1 r), fun p j q => (h2.2.2 p j q).trans (h.2.2 p j q)⟩
theorem oL.st (k j : Nat) (w : GW) (v : Int64) : oL k w (sL w k j v) := ⟨fun _ _ => rfl, fun _ => rfl, fun p j' q => by rw [gL_sL, if_neg (fun z => q z.1)]⟩
theorem HCl.of {w w' : GW} {H : Nat} {η : HP} (h : HCl w H η) (k : ∀ p j, gI w' p j = gI w p j) : HCl w' H η := by
  obtain ⟨h1, h2, h3, h4, h5, h6, h7, h8⟩ := h
  exact ⟨(k _ _).trans h1, fun b hb => (k _ _).trans (h2 b hb), fun b hb => (k _ _).trans (h3 b hb), (k _ _).trans h4, (k _ _).trans h5, (k _ _).trans h6, (k _ _).trans h7, (k _ _).trans h8⟩
theorem PCl.of {w w' : GW} {P r h g : Nat} (H : PCl w P r h g) (k : ∀ p j, gI w' p j = gI w p j) : PCl w' P r h g := ⟨(k _ _).trans H.1, (k _ _).trans H.2.1, fun q => (k _ _).trans (H.2.2 q)⟩
theorem CX.of {w w' : GW} {η : HP} {r h g : Nat} (H : CX w η r h g) {k : Nat} (o : oL k w w') : CX w' η r h g := by
  unfold CX
  rw [o.2.1, o.2.1]
  exact ⟨H.1.of o.1, H.2.of o.1⟩
def oneS (B : Nat) (wt S : Nat → Nat) (x : Nat) : Nat := sm B (fun b => if x.testBit b = true then (S x + S (x ^^^ 2 ^ b)) * wt b else 0)
theorem bt_and {x b : Nat} (hb : b < 31) : nI x &&& nI (2 ^ b) = 0 ↔ ¬ x.testBit b = true := by
  rw [fa_bit hb]
  cases x.testBit b <;> simp
theorem sm32 {B : Nat} (hB5 : B ≤ 5) : 2 ^ B ≤ 32 := Nat.pow_le_pow_right (by omega) hB5
theorem oneMore {w : GW} {η : HP} {r h g : Nat} (hη : HPok η) (hX : CX w η r h g) {S : Nat → Nat} (hS : ∀ m, m < 32 → gL w 69 m = lN (S m)) {x : Nat} (hx : x < 2 ^ pB η) : f_X1_waysOfOneMore (nI x) w = some (lN (oneS (pB η) (pW η) S x), w) := by
  obtain ⟨⟨h1, -, h3, -⟩, -⟩ := hX
  obtain ⟨k1, k2, -, k4, -⟩ := hη
  have hx32 : x < 32 := Nat.lt_of_lt_of_le hx (sm32 k2)
  have key : ∀ d i n, i + d = pB η → d < n → f_X1_waysOfOneMore_5 n (nI x) (lN (sm i (fun b => if x.testBit b = true then (S x + S (x ^^^ 2 ^ b)) * pW η b else 0))) (nI i) w = some (lN (oneS (pB η) (pW η) S x), w) := by
    intro d
    induction d with
    | zero =>
      intro i n hi hn
      obtain ⟨n, rfl⟩ : ∃ m9, n = m9 + 1 := ⟨n - 1, by omega⟩
      have : i = pB η := by omega
      subst this
      rw [f_X1_waysOfOneMore_5, h1, if_pos ((le_nI (by omega) (by omega)).mpr (by omega))]
      rfl
    | succ d ih =>
      intro i n hi hn
      obtain ⟨n, rfl⟩ : ∃ m9, n = m9 + 1 := ⟨n - 1, by omega⟩
      have e := ih (i + 1) n (by omega) (by omega)
      rw [sm_s] at e
      rw [f_X1_waysOfOneMore_5, h1, if_neg (fun q9 => absurd ((le_nI (by omega) (by omega)).mp q9) (by omega)), shl_nI (by omega)]
      by_cases q : x.testBit i = true
      · have hxx : x ^^^ 2 ^ i < 32 := Nat.xor_lt_two_pow (n := 5) hx32 (Nat.pow_lt_pow_right (a := 2) (by omega) (by omega))
        have := k4 i
        rw [if_neg (fun z => (bt_and (by omega)).mp z q), xor_nI, if_pos ((inb_nI (by omega)).mpr (by omega)), if_pos ((inb_nI (by omega)).mpr (by omega)), if_pos ((inb_nI (by omega)).mpr (by omega)), f_X1_waysOfOneMore_61, ix_nI (by omega), ix_nI (by omega), ix_nI (by omega), hS x hx32, hS _ hxx, h3 i (by omega), nI_l (by omega), lN_add, lN_mul, lN_add, nI_1]
        rw [if_pos q] at e
        exact e
      · rw [if_pos ((bt_and (by omega)).mpr q), f_X1_waysOfOneMore_61, nI_1]
        rw [if_neg q, Nat.add_zero] at e
        exact e
  rw [f_X1_waysOfOneMore, show (0 : Int32) = nI 0 from rfl, show (0 : Int64) = lN 0 from rfl]
  exact key (pB η) 0 fu (by omega) (fu_gt (by omega))
/-- the ways in which just these boxes are seen by so many glances -/
def snS (B : Nat) (wt : Nat → Nat) : Nat → Nat → Nat
  | 0, x => if x = 0 then 1 else 0
  | g + 1, x => if x < 2 ^ B then oneS B wt (snS B wt g) x else 0
theorem xr_le : ∀ x, x < 32 → ∀ b, b < 5 → x.testBit b = true → x ^^^ 2 ^ b ≤ x := by decide
theorem oneS_c {B : Nat} (hB5 : B ≤ 5) {wt S S' : Nat → Nat} {x : Nat} (hx : x < 32) (h : ∀ m, m ≤ x → S m = S' m) : oneS B wt S x = oneS B wt S' x := by
  unfold oneS
  refine sm_c (fun b hb => ?_)
  by_cases q : x.testBit b = true
  · rw [if_pos q, if_pos q, h x (Nat.le_refl _), h _ (xr_le x hx b (by omega) q)]
  · rw [if_neg q, if_neg q]
theorem ready_in {η : HP} {r h g : Nat} (hη : HPok η) {S : Nat → Nat} {x3 x4 : Int32} {k : Int32 → Int32 → GW → Option (Unit × GW)} : ∀ d n w, d ≤ 2 ^ pB η → d < n → CX w η r h g → (∀ m, m < 32 → gL w 69 m = lN (if d ≤ m ∧ m < 2 ^ pB η then oneS (pB η) (pW η) S m else S m)) → ∃ w', oL 69 w w' ∧ (∀ m, m < 32 → gL w' 69 m = lN (if m < 2 ^ pB η then oneS (pB η) (pW η) S m else S m)) ∧ f_X1_ready_71 k n x3 x4 (kI d) w = k x3 (x4 + 1) w' := by
  intro d
  induction d with
  | zero =>
    intro n w hd hn hX hS
    obtain ⟨n, rfl⟩ : ∃ m9, n = m9 + 1 := ⟨n - 1, by omega⟩
    refine ⟨w, oL.rf, fun m hm => ?_, ?_⟩
    · rw [hS m hm]
      simp
    · rw [f_X1_ready_71, kI_0, if_pos (by decide)]
  | succ d ih =>
    intro n w hd hn hX hS
    obtain ⟨n, rfl⟩ : ∃ m9, n = m9 + 1 := ⟨n - 1, by omega⟩
    have h32 := sm32 hη.2.1
    have e : f_X1_waysOfOneMore (nI d) w = some (lN (oneS (pB η) (pW η) S d), w) := by
      rw [oneMore hη hX hS (by omega), oneS_c hη.2.1 (S' := S) (by omega)]
      intro m hm
      rw [if_neg (by omega)]
    obtain ⟨w', a1, a2, a3⟩ := ih n (sL w 69 d (lN (oneS (pB η) (pW η) S d))) (by omega) (by omega) (hX.of (oL.st _ _ _ _)) (fun m hm => by
      rw [gL_sL]
      by_cases q : m = d
      · subst q
        rw [if_pos ⟨rfl, rfl⟩, if_pos ⟨Nat.le_refl _, by omega⟩]
      · rw [if_neg (fun z => q z.2), hS m hm]
        by_cases q2 : d + 1 ≤ m ∧ m < 2 ^ pB η
        · rw [if_pos q2, if_pos ⟨by omega, q2.2⟩]
        · rw [if_neg q2, if_neg (fun z => q2 ⟨by omega, z.2⟩)])
    refine ⟨w', (oL.st _ _ _ _).tr a1, a2, ?_⟩
    rw [f_X1_ready_71, kI_s, if_neg (lt0_nI (by omega)), e, bind_some', if_pos ((inb_nI (by omega)).mpr (by omega)), ix_nI (by omega), kI_m]
    exact a3
theorem ready_out {η : HP} {r h g : Nat} (hη : HPok η) (hg : g ≤ 3) : ∀ d i n w, i + d = g → d < n → CX w η r h g → (∀ m, m < 32 → gL w 69 m = lN (snS (pB η) (pW η) i m)) → ∃ w', oL 69 w w' ∧ (∀ m, m < 32 → gL w' 69 m = lN (snS (pB η) (pW η) g m)) ∧ f_X1_ready_54 n (nI (2 ^ pB η)) (nI i) w = some ((), w') := by
  intro d
  induction d with
  | zero =>
    intro i n w hi hn hX hS
    obtain ⟨n, rfl⟩ : ∃ m9, n = m9 + 1 := ⟨n - 1, by omega⟩
    have : i = g := by omega
    subst this
    refine ⟨w, oL.rf, hS, ?_⟩
    rw [f_X1_ready_54, hX.2.1, if_pos ((le_nI (by omega) (by omega)).mpr (by omega))]
  | succ d ih =>
    intro i n w hi hn hX hS
    obtain ⟨n, rfl⟩ : ∃ m9, n = m9 + 1 := ⟨n - 1, by omega⟩
    have h32 := sm32 hη.2.1
    have hz : ∀ i m, ¬ m < 2 ^ pB η → snS (pB η) (pW η) i m = 0 := by
      intro i m hm
      cases i with
      | zero => exact if_neg (fun q => hm (by rw [q]; exact Nat.two_pow_pos _))
      | succ i => exact if_neg hm
    obtain ⟨w', a1, a2, a3⟩ := ready_in hη (S := snS (pB η) (pW η) i) (x3 := nI (2 ^ pB η)) (x4 := nI i) (k := f_X1_ready_54 n) (2 ^ pB η) fu w (Nat.le_refl _) (fu_gt (by omega)) hX (fun m hm => by rw [if_neg (by omega)]; exact hS m hm)
    obtain ⟨w2, b1, b2, b3⟩ := ih (i + 1) n w' (by omega) (by omega) (hX.of a1) (fun m hm => by
      rw [a2 m hm]
      by_cases q : m < 2 ^ pB η
      · rw [if_pos q, snS, if_pos q]
      · rw [if_neg q, hz i m q, hz (i + 1) m q])
    refine ⟨w2, a1.tr b1, b2, ?_⟩
    rw [f_X1_ready_54, hX.2.1, if_neg (fun q9 => absurd ((le_nI (by omega) (by omega)).mp q9) (by omega)), show nI (2 ^ pB η) - 1 = kI (2 ^ pB η) from rfl, a3, nI_1]
    exact b3
theorem ready_0 {η : HP} {r h g : Nat} (hη : HPok η) (hg : g ≤ 3) : ∀ d i n w, i + d = 32 → d < n → 1 ≤ i → CX w η r h g → (∀ m, 1 ≤ m → m < i → gL w 69 m = lN 0) → ∃ w', oL 69 w w' ∧ (∀ m, m < 32 → gL w' 69 m = lN (snS (pB η) (pW η) g m)) ∧ f_X1_ready_23 n (nI (2 ^ pB η)) (nI i) w = some ((), w') := by
  intro d
  induction d with
  | zero =>
    intro i n w hi hn h1 hX hS
    obtain ⟨n, rfl⟩ : ∃ m9, n = m9 + 1 := ⟨n - 1, by omega⟩
    obtain ⟨w', a1, a2, a3⟩ := ready_out hη hg g 0 fu (sL w 69 0 1) (by omega) (fu_gt (by omega)) (hX.of (oL.st _ _ _ _)) (fun m hm => by
      rw [gL_sL, snS]
      by_cases q : m = 0
      · rw [if_pos ⟨rfl, q⟩, if_pos q]; rfl
      · rw [if_neg (fun z => q z.2), if_neg q, hS m (by omega) (by omega)])
    refine ⟨w', (oL.st _ _ _ _).tr a1, a2, ?_⟩
    rw [f_X1_ready_23, show (32 : Int32) = nI 32 from rfl, if_pos ((le_nI (by omega) (by omega)).mpr (by omega)), if_pos (show inb _ _ from by decide), show ix 0 = 0 from by decide]
    exact a3
  | succ d ih =>
    intro i n w hi hn h1 hX hS
    obtain ⟨n, rfl⟩ : ∃ m9, n = m9 + 1 := ⟨n - 1, by omega⟩
    obtain ⟨w', a1, a2, a3⟩ := ih (i + 1) n (sL w 69 i 0) (by omega) (by omega) (by omega) (hX.of (oL.st _ _ _ _)) (fun m hm hmi => by
      rw [gL_sL]
      by_cases q : m = i
      · rw [if_pos ⟨rfl, q⟩]; rfl
      · rw [if_neg (fun z => q z.2)]; exact hS m hm (by omega))
    refine ⟨w', (oL.st _ _ _ _).tr a1, a2, ?_⟩
    rw [f_X1_ready_23, show (32 : Int32) = nI 32 from rfl, if_neg (fun q9 => absurd ((le_nI (by omega) (by omega)).mp q9) (by omega)), if_pos ((inb_nI (by omega)).mpr (by omega)), ix_nI (by omega), nI_1]
    exact a3
theorem ready {w : GW} {η : HP} {H P r h g : Nat} (hη : HPok η) (hg : g ≤ 3) (hH : HCl w (fxH H) η) (hP : PCl w (fxP P) r h g) : ∃ w', f_X1_ready H P w = some ((), w') ∧ oL 69 (sR (sR w 4 H) 5 P) w' ∧ CX w' η r h g ∧ ∀ m, m < 32 → gL w' 69 m = lN (snS (pB η) (pW η) g m) := by
  have hX : CX (sR (sR w 4 H) 5 P) η r h g := ⟨hH, hP⟩
  obtain ⟨w', a1, a2, a3⟩ := ready_0 hη hg 31 1 fu (sR (sR w 4 H) 5 P) (by omega) (fu_gt (by omega)) (by omega) hX (fun m hm hm1 => by omega)
  refine ⟨w', ?_, a1, hX.of a1, a2⟩
  have k2 := hη.2.1
  rw [f_X1_ready, hX.1.1, shl_nI (by omega)]
  exact a3
