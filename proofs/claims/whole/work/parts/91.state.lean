/-! the state that class and reference have in common -/
theorem gI_same (w : GW) (k j : Nat) (v : Int32) : gI (sI w k j v) k j = v := by rw [gI_sI, if_pos ⟨rfl, rfl⟩]
theorem gL_same (w : GW) (k j : Nat) (v : Int64) : gL (sL w k j v) k j = v := by rw [gL_sL, if_pos ⟨rfl, rfl⟩]
/-- a hall as it was told: its numbers; letters, porters, lays; of each porter glances, rule, patience; the lays -/
abbrev HS : Type := HP × (Nat × Nat × Nat) × (Nat → Nat) × (Nat → Nat) × (Nat → Nat) × (Nat → Nat → Nat)
def zE (σ : HS) : HP := σ.1
def zL (σ : HS) : Nat := σ.2.1.1
def zP (σ : HS) : Nat := σ.2.1.2.1
def zY (σ : HS) : Nat := σ.2.1.2.2
def zG (σ : HS) : Nat → Nat := σ.2.2.1
def zR (σ : HS) : Nat → Nat := σ.2.2.2.1
def zH (σ : HS) : Nat → Nat := σ.2.2.2.2.1
def zV (σ : HS) : Nat → Nat → Nat := σ.2.2.2.2.2
def HSok (σ : HS) : Prop := HPok (zE σ) ∧ zL σ ≤ 8 ∧ (1 ≤ zP σ ∧ zP σ ≤ 6) ∧ zY σ ≤ 8 ∧ (∀ p, (1 ≤ zG σ p ∧ zG σ p ≤ 3) ∧ zR σ p ≤ 4 ∧ zH σ p ≤ 8) ∧ ∀ y, (∀ b, zV σ y b ≤ 8) ∧ ZB (pB (zE σ)) (zV σ y)
/-- a porter's patience as it is kept -/
def paI (r h : Nat) : Int32 := if r = 2 then nI h else -2
/-- the class's hall -/
def CHl (w : GW) (H : Nat) (σ : HS) : Prop := gI w H 0 = 1 ∧ HCl w H (zE σ) ∧ gI w H 2 = nI (zL σ) ∧ gI w H 8 = nI (zP σ) ∧ gI w H 9 = nI (zY σ) ∧ (∀ p, p < zP σ → gI w (H + 4 + 1 + p) 0 = nI (zG σ p) ∧ gI w (H + 4 + 1 + p) 1 = nI (zR σ p) ∧ gI w (H + 4 + 1 + p) 2 = paI (zR σ p) (zH σ p)) ∧ ∀ y, y < zY σ → ∀ b, b < 5 → gI w (H + 12 + 1 + y) b = nI (zV σ y b)
/-- a row, if it is built, is right -/
def BR (w : GW) (i : Nat) (η : HP) (r h g fl most : Nat) : Prop := gI w 110 i = 0 ∨ (gI w 110 i = 1 ∧ ROW w (74 + i) η r h g fl most)
/-- the chances' state -/
def CCh (w : GW) (σ : HS) : Prop := fxH (gR w 3) = fxH (gR w 0) ∧ WX w (zE σ) (ltS2 (zE σ) (zL σ)) ∧ (∀ p, p < zP σ → BR w p (zE σ) (zR σ p) (zH σ p) (zG σ p) 0 (ltS2 (zE σ) (zL σ))) ∧ (∀ g h, 1 ≤ g → g ≤ 3 → h ≤ 8 → BR w (6 + (g - 1) * 9 + h) (zE σ) 2 h g 0 (ltS2 (zE σ) (zL σ))) ∧ ∀ g, 1 ≤ g → g ≤ 3 → BR w (33 + g - 1) (zE σ) 1 0 g 1 (ltS2 (zE σ) (zL σ))
/-- what a question to the class needs -/
def CQ (w : GW) (σ : HS) : Prop := HSok σ ∧ CHl w (fxH (gR w 0)) σ ∧ CCh w σ
/-- the reference's hall -/
def MHl (w : GW) (σ : HS) : Prop := gI w 130 14 = 1 ∧ HMo w (zE σ) ∧ gI w 133 1 = nI (zL σ) ∧ gI w 133 17 = nI (zP σ) ∧ gI w 133 39 = nI (zY σ) ∧ (∀ p, p < zP σ → gI w 133 (18 + p) = nI (zG σ p) ∧ gI w 133 (24 + p) = nI (zR σ p) ∧ gI w 133 (30 + p) = paI (zR σ p) (zH σ p)) ∧ ∀ y, y < zY σ → ∀ b, b < 5 → gI w 133 (40 + 5 * y + b) = nI (zV σ y b)
theorem MHl.of {w w' : GW} {σ : HS} (h : MHl w σ) (h1 : gI w' 130 14 = gI w 130 14) (h2 : ∀ j, gI w' 133 j = gI w 133 j) : MHl w' σ := by
  obtain ⟨a, b, c, d, e, f, g⟩ := h
  exact ⟨h1.trans a, b.of h2, by rw [h2]; exact c, by rw [h2]; exact d, by rw [h2]; exact e, fun p hp => by rw [h2, h2, h2]; exact f p hp, fun y hy b hb => by rw [h2]; exact g y hy b hb⟩
theorem HCl.of3 {w w' : GW} {x : Nat} {η : HP} (h : HCl w (fxH x) η) (k : ∀ p j, 4 ≤ p → p ≤ 68 → gI w' p j = gI w p j) : HCl w' (fxH x) η := by
  have hz := fxH_z x
  obtain ⟨h1, h2, h3, h4, h5, h6, h7, h8⟩ := h
  exact ⟨(k _ _ (by omega) (by omega)).trans h1, fun b hb => (k _ _ (by omega) (by omega)).trans (h2 b hb), fun b hb => (k _ _ (by omega) (by omega)).trans (h3 b hb), (k _ _ (by omega) (by omega)).trans h4, (k _ _ (by omega) (by omega)).trans h5, (k _ _ (by omega) (by omega)).trans h6, (k _ _ (by omega) (by omega)).trans h7, (k _ _ (by omega) (by omega)).trans h8⟩
theorem CHl.of {w w' : GW} {x : Nat} {σ : HS} (h : CHl w (fxH x) σ) (hs : zP σ ≤ 6) (hy : zY σ ≤ 8) (k : ∀ p j, 4 ≤ p → p ≤ 68 → gI w' p j = gI w p j) : CHl w' (fxH x) σ := by
  obtain ⟨a, b, c, d, e, f, g⟩ := h
  have hz := fxH_z x
  refine ⟨?_, b.of3 k, ?_, ?_, ?_, fun p hp => ?_, fun y hy b hb => ?_⟩
  · rw [k _ _ (by omega) (by omega)]; exact a
  · rw [k _ _ (by omega) (by omega)]; exact c
  · rw [k _ _ (by omega) (by omega)]; exact d
  · rw [k _ _ (by omega) (by omega)]; exact e
  · rw [k _ _ (by omega) (by omega), k _ _ (by omega) (by omega), k _ _ (by omega) (by omega)]; exact f p hp
  · rw [k _ _ (by omega) (by omega)]; exact g y hy b hb
theorem BR.of {w w' : GW} {i : Nat} {η : HP} {r h g fl most : Nat} (H : BR w i η r h g fl most) (h1 : gI w' 110 i = gI w 110 i) (h2 : ∀ j, gL w' (74 + i) j = gL w (74 + i) j) : BR w' i η r h g fl most := by
  rcases H with H | ⟨H, t, a, ⟨A, b, c⟩, d⟩
  · exact Or.inl (h1.trans H)
  · exact Or.inr ⟨h1.trans H, t, a, ⟨A, b, fun x hx => (h2 x).trans (c x hx)⟩, d⟩
theorem CCh.of {w w' : GW} {σ : HS} (h : CCh w σ) (hs : HSok σ) (k : ∀ p j, (4 ≤ p ∧ p ≤ 68) ∨ (110 ≤ p ∧ p ≤ 113) → gI w' p j = gI w p j) (l : ∀ p j, 74 ≤ p → p < 110 → gL w' p j = gL w p j) (r0 : gR w' 0 = gR w 0) (r3 : gR w' 3 = gR w 3) : CCh w' σ := by
  obtain ⟨a, ⟨b1, b2, b3⟩, c, d, e⟩ := h
  have hp := hs.2.2.1.2
  refine ⟨by rw [r0, r3]; exact a, ⟨?_, fun v x y z => ?_, fun c x y => ?_⟩, fun p hp2 => (c p hp2).of (k _ _ (by omega)) (fun j => l _ _ (by omega) (by omega)), fun g h x y z => (d g h x y z).of (k _ _ (by omega)) (fun j => l _ _ (by omega) (by omega)), fun g x y => (e g x y).of (k _ _ (by omega)) (fun j => l _ _ (by omega) (by omega))⟩
  · unfold HX
    rw [r3]
    exact HCl.of3 b1 (fun p j x y => k p j (by omega))
  · rw [k _ _ (by omega)]; exact b2 v x y z
  · rw [k _ _ (by omega)]; exact b3 c x y
/-- what a question to the class leaves: all but the trouble and what is counted with -/
def KC (w w' : GW) : Prop := (∀ p j, p ≤ 68 ∨ 121 ≤ p → ¬ (p = 0 ∧ j = 12) → gI w' p j = gI w p j ∧ gL w' p j = gL w p j) ∧ ∀ r, r < 4 → gR w' r = gR w r
theorem KC.rf {w : GW} : KC w w := ⟨fun _ _ _ _ => ⟨rfl, rfl⟩, fun _ _ => rfl⟩
theorem KC.tr {a b c : GW} (h : KC a b) (h2 : KC b c) : KC a c := ⟨fun p j x y => ⟨(h2.1 p j x y).1.trans (h.1 p j x y).1, (h2.1 p j x y).2.trans (h.1 p j x y).2⟩, fun r x => (h2.2 r x).trans (h.2 r x)⟩
def qL (L : List (Nat × Nat × Nat)) : Bool := L.all (fun q => (decide (q.1 = 0) && decide (q.2.1 = 1) && decide (q.2.2 = 13)) || (decide (69 ≤ q.1) && decide (q.2.1 ≤ 121)))
theorem md_ex {L : List (Nat × Nat × Nat)} {k j : Nat} (h : md L k j = true) : ∃ q, q ∈ L ∧ q.1 ≤ k ∧ k < q.2.1 ∧ (q.2.2 = 0 ∨ q.2.2 = j + 1) := by
  unfold md at h
  rw [List.any_eq_true] at h
  obtain ⟨q, hq, h⟩ := h
  simp only [Bool.and_eq_true, Bool.or_eq_true, decide_eq_true_eq] at h
  exact ⟨q, hq, h.1.1, h.1.2, h.2⟩
theorem md_q {L : List (Nat × Nat × Nat)} (h : qL L = true) {k j : Nat} (hk : k ≤ 68 ∨ 121 ≤ k) (h0 : ¬ (k = 0 ∧ j = 12)) : md L k j = false := by
  cases hm : md L k j with
  | false => rfl
  | true =>
    obtain ⟨q, hq, a, b, c⟩ := md_ex hm
    have := List.all_eq_true.mp h q hq
    simp only [Bool.and_eq_true, Bool.or_eq_true, decide_eq_true_eq] at this
    omega
theorem KC.sm {L : List (Nat × Nat × Nat)} {R : List Nat} {w w' : GW} (S : Sm L R w w') (h : qL L = true) (hr : ∀ r, r < 4 → r ∉ R) : KC w w' := ⟨fun p j x y => S.1 p j (md_q h x y), fun r x => S.2 r (hr r x)⟩
theorem KC.st {w : GW} {v : Int32} : KC w (sI w 0 12 v) := ⟨fun p j x y => ⟨by rw [gI_sI, if_neg y], rfl⟩, fun _ _ => rfl⟩
theorem MHl.kc {w w' : GW} {σ : HS} (h : MHl w σ) (k : KC w w') : MHl w' σ := h.of (k.1 130 14 (by omega) (by omega)).1 (fun j => (k.1 133 j (by omega) (by omega)).1)
theorem CHl.kc {w w' : GW} {σ : HS} (hs : HSok σ) (h : CHl w (fxH (gR w 0)) σ) (k : KC w w') : CHl w' (fxH (gR w' 0)) σ := by
  rw [k.2 0 (by omega)]
  exact h.of hs.2.2.1.2 hs.2.2.2.1 (fun p j x y => (k.1 p j (by omega) (by omega)).1)
/-- what a question to the reference leaves -/
def KM (w w' : GW) : Prop := (∀ p j, p ≤ 129 ∨ (131 ≤ p ∧ p ≤ 136) ∨ (p = 130 ∧ (j = 2 ∨ j = 9 ∨ j = 10 ∨ j = 14 ∨ j = 19)) → gI w' p j = gI w p j ∧ gL w' p j = gL w p j) ∧ ∀ r, gR w' r = gR w r
theorem KM.rf {w : GW} : KM w w := ⟨fun _ _ _ => ⟨rfl, rfl⟩, fun _ => rfl⟩
theorem KM.tr {a b c : GW} (h : KM a b) (h2 : KM b c) : KM a c := ⟨fun p j x => ⟨(h2.1 p j x).1.trans (h.1 p j x).1, (h2.1 p j x).2.trans (h.1 p j x).2⟩, fun r => (h2.2 r).trans (h.2 r)⟩
def qM (L : List (Nat × Nat × Nat)) : Bool := L.all (fun q => (decide (q.1 = 130) && decide (q.2.1 = 131) && decide (q.2.2 ≠ 0) && decide (q.2.2 ≠ 3) && decide (q.2.2 ≠ 10) && decide (q.2.2 ≠ 11) && decide (q.2.2 ≠ 15) && decide (q.2.2 ≠ 20)) || decide (137 ≤ q.1))
theorem KM.sm {L : List (Nat × Nat × Nat)} {R : List Nat} {w w' : GW} (S : Sm L R w w') (h : qM L = true) (hr : R = []) : KM w w' := by
  refine ⟨fun p j x => S.1 p j ?_, fun r => S.2 r (by rw [hr]; exact List.not_mem_nil)⟩
  cases hm : md L p j with
  | false => rfl
  | true =>
    obtain ⟨q, hq, a, b, c⟩ := md_ex hm
    have := List.all_eq_true.mp h q hq
    simp only [Bool.and_eq_true, Bool.or_eq_true, decide_eq_true_eq] at this
    omega
theorem MHl.km {w w' : GW} {σ : HS} (h : MHl w σ) (k : KM w w') : MHl w' σ := h.of (k.1 130 14 (by omega)).1 (fun j => (k.1 133 j (by omega)).1)
/-- where arguments lie -/
def rg (x : Int32) (lo hi : Nat) : Prop := ∃ n, lo ≤ n ∧ n ≤ hi ∧ x = nI n
theorem rg_em (x : Int32) (lo hi : Nat) : rg x lo hi ∨ ¬ rg x lo hi := Classical.em _
theorem rg_no {x : Int32} {lo hi : Nat} (hl : lo < 2147483648) (hh : hi < 2147483648) (h : ¬ rg x lo hi) : x < nI lo ∨ nI hi < x := by
  rcases Classical.em (x < nI lo) with q | q
  · exact Or.inl q
  · refine Or.inr (Classical.byContradiction fun q2 => h ?_)
    rw [fa_lt, nI_toInt (by omega)] at q q2
    refine ⟨x.toInt.toNat, by omega, by omega, ?_⟩
    rw [fa_eq, nI_toInt (by omega)]
    omega
theorem rg_y1 {n lo : Nat} (h : lo ≤ n) (hn : n < 2147483648) : ¬ nI n < nI lo := fun q => absurd ((lt_nI hn (by omega)).mp q) (by omega)
theorem rg_y2 {n hi : Nat} (h : n ≤ hi) (hn : hi < 2147483648) : ¬ nI hi < nI n := fun q => absurd ((lt_nI hn (by omega)).mp q) (by omega)
theorem nlt_le {x y : Int32} : ¬ x < y ↔ y ≤ x := by rw [fa_lt, fa_le]; omega
theorem lt_ss {x : Int32} {n : Nat} (hn : n < 2147483647) : nI n < x ↔ nI (n + 1) ≤ x := by rw [fa_lt, fa_le, nI_toInt (by omega), nI_toInt (by omega)]; omega
/-- a method of the reference for a range -/
theorem within9_t {w : GW} {n lo hi : Nat} (h1 : lo ≤ n) (h2 : n ≤ hi) (hh : hi < 2147483648) : f_X9_within (nI n) (nI lo) (nI hi) w = some (1, w) := by
  rw [f_X9_within, if_neg (rg_y1 h1 (by omega)), if_neg (rg_y2 h2 hh)]
theorem within9_f {w : GW} {x : Int32} {lo hi : Nat} (hl : lo < 2147483648) (hh : hi < 2147483648) (h : ¬ rg x lo hi) : f_X9_within x (nI lo) (nI hi) w = some (0, w) := by
  rw [f_X9_within]
  rcases rg_no hl hh h with q | q
  · rw [if_pos q]
  · by_cases z : x < nI lo
    · rw [if_pos z]
    · rw [if_neg z, if_pos q]
theorem w9t {w : GW} {n lo hi : Nat} {lo' hi' : Int32} (h1 : lo ≤ n) (h2 : n ≤ hi) (e1 : lo' = nI lo) (e2 : hi' = nI hi) (hh : hi < 2147483648) : f_X9_within (nI n) lo' hi' w = some (1, w) := by
  subst e1 e2
  exact within9_t h1 h2 hh
theorem w9f {w : GW} {x : Int32} {lo hi : Nat} {lo' hi' : Int32} (h : ¬ rg x lo hi) (e1 : lo' = nI lo) (e2 : hi' = nI hi) (hl : lo < 2147483648) (hh : hi < 2147483648) : f_X9_within x lo' hi' w = some (0, w) := by
  subst e1 e2
  exact within9_f hl hh h
