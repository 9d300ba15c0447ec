/-! the reference counts ways: letter by letter, as sums over what is asked -/
theorem Sm.I {L : List (Nat × Nat × Nat)} {R : List Nat} {w w' : GW} (S : Sm L R w w') (k j : Nat) (h : md L k j = false) : gI w' k j = gI w k j := (S.1 k j h).1
theorem Sm.L {L : List (Nat × Nat × Nat)} {R : List Nat} {w w' : GW} (S : Sm L R w w') (k j : Nat) (h : md L k j = false) : gL w' k j = gL w k j := (S.1 k j h).2
/-- a hall's numbers: boxes, the door's box and its every, moves' every, rooms, weights -/
abbrev HP : Type := Nat × Nat × Nat × Nat × (Nat → Nat) × (Nat → Nat)
def pB (η : HP) : Nat := η.1
def pD (η : HP) : Nat := η.2.1
def pE (η : HP) : Nat := η.2.2.1
def pM (η : HP) : Nat := η.2.2.2.1
def pR (η : HP) : Nat → Nat := η.2.2.2.2.1
def pW (η : HP) : Nat → Nat := η.2.2.2.2.2
def HPok (η : HP) : Prop := 1 ≤ pB η ∧ pB η ≤ 5 ∧ (∀ b, 1 ≤ pR η b ∧ pR η b ≤ 8) ∧ (∀ b, 1 ≤ pW η b ∧ pW η b ≤ 3) ∧ pD η < pB η ∧ pE η ≤ 9 ∧ pM η ≤ 9
/-- the reference's hall -/
def HMo (w : GW) (η : HP) : Prop := gI w 133 0 = nI (pB η) ∧ (∀ b, b < pB η → gI w 133 (2 + b) = nI (pR η b)) ∧ (∀ b, b < pB η → gI w 133 (7 + b) = nI (pW η b)) ∧ gI w 133 36 = nI (pD η) ∧ gI w 133 37 = nI (pE η) ∧ gI w 133 38 = nI (pM η)
theorem HMo.of {w w' : GW} {η : HP} (h : HMo w η) (hk : ∀ j, gI w' 133 j = gI w 133 j) : HMo w' η := by
  obtain ⟨h1, h2, h3, h4, h5, h6⟩ := h
  exact ⟨by rw [hk]; exact h1, fun b hb => by rw [hk]; exact h2 b hb, fun b hb => by rw [hk]; exact h3 b hb, by rw [hk]; exact h4, by rw [hk]; exact h5, by rw [hk]; exact h6⟩
def su (u : Nat → Nat) : Nat := sm 5 u
theorem su_5 (u : Nat → Nat) : su u = u 0 + u 1 + u 2 + u 3 + u 4 := by simp [su, sm]
theorem su_le {u : Nat → Nat} {b : Nat} (hb : b < 5) : u b ≤ su u := sm_term hb u
theorem goS_some {B : Nat} {rm u : Nat → Nat} : ∀ d b x, b < B → goS B rm u d b = some x → x < B ∧ u x < rm x := by
  intro d
  induction d with
  | zero => intro b x hb h; cases h
  | succ d ih =>
    intro b x hb h
    rw [goS] at h
    by_cases q : u b < rm b
    · rw [if_pos q] at h; cases h; exact ⟨hb, q⟩
    · rw [if_neg q] at h; exact ih _ _ (nx_lt hb) h
/-- how boxes lie behind a letter for which b is taken, ahead of what moves -/
def ldH (η : HP) (u : Nat → Nat) (b : Nat) : Nat → Nat := upM u (goT (pB η) (pR η) u b)
def mvH (η : HP) (u : Nat → Nat) (n : Nat) : Nat → Nat := mvS (pB η) (pM η) (pR η) u n
theorem upM_none (u : Nat → Nat) : upM u none = u := rfl
theorem upM_su {u : Nat → Nat} {x : Nat} (hx : x < 5) : su (upM u (some x)) = su u + 1 := by
  have := sm_up (n := 5) (f := upM u (some x)) (g := u) hx (fun i hi z => by unfold upM; rw [if_neg (fun q => z (by cases q; rfl))])
  unfold su
  rw [show upM u (some x) x = u x + 1 from if_pos rfl] at this
  omega
theorem ldH_su {η : HP} (hη : HPok η) {u : Nat → Nat} {b : Nat} (hb : b < pB η) : su (ldH η u b) ≤ su u + 1 := by
  unfold ldH
  cases h : goT (pB η) (pR η) u b with
  | none => rw [upM_none]; omega
  | some x =>
    have := goS_some _ _ _ hb h
    have h5 := hη.2.1
    rw [upM_su (by omega)]
    omega
theorem mvP_lt {B : Nat} {u : Nat → Nat} : ∀ d i f t, i + d ≤ B → f < B → t < B → (mvP u d i f t).1 < B ∧ (mvP u d i f t).2 < B := by
  intro d
  induction d with
  | zero => intro i f t _ hf ht; exact ⟨hf, ht⟩
  | succ d ih =>
    intro i f t hi hf ht
    rw [mvP]
    refine ih (i + 1) _ _ (by omega) ?_ ?_
    · split <;> omega
    · split <;> omega
theorem mvE_su {rm u : Nat → Nat} {q : Nat × Nat} (h1 : q.1 < 5) (h2 : q.2 < 5) : su (mvE rm u q) = su u := by
  unfold mvE
  split
  · rfl
  · next h =>
    have h3 : ¬ u q.1 < u q.2 + 2 := fun z => h (Or.inl z)
    have hne : q.1 ≠ q.2 := fun z => h3 (by rw [z]; omega)
    have a := sm_up (n := 5) (f := fun b => if b = q.2 then u q.2 + 1 else if b = q.1 then u q.1 - 1 else u b) (g := fun b => if b = q.1 then u q.1 - 1 else u b) h2 (fun i hi z => by simp only [z, if_neg, not_false_eq_true])
    have b := sm_up (n := 5) (f := fun b => if b = q.1 then u q.1 - 1 else u b) (g := u) h1 (fun i hi z => by simp only [z, if_neg, not_false_eq_true])
    simp only [if_pos, hne.symm, if_neg, not_false_eq_true] at a b
    unfold su
    omega
theorem mvH_su {η : HP} (hη : HPok η) {u : Nat → Nat} {n : Nat} : su (mvH η u n) = su u := by
  obtain ⟨hB0, hB5, -⟩ := hη
  unfold mvH mvS
  split
  · rfl
  · have := mvP_lt (B := pB η) (u := u) (pB η - 1) 1 0 0 (by omega) (by omega) (by omega)
    exact mvE_su (by omega) (by omega)
def slO : Option Nat → Nat
  | none => 0
  | some e => e + 1
theorem oI_kI (b : Option Nat) : oI b = kI (slO b) := by
  cases b with
  | none => exact kI_0.symm
  | some x => exact (kI_s x).symm
/-- what is remembered then -/
def spS (η : HP) (u : Nat → Nat) (r sl b m : Nat) : Nat := if r = 4 then slO (emT (ldH η u b) (rcM m sl) (pB η)) else sl
theorem slO_le {u : Nat → Nat} {s B : Nat} (hB5 : B ≤ 5) : slO (emT u s B) ≤ 5 := by
  have key := emS_spec u s B 0 none (fun x e => by cases e) (fun _ y hy => by omega)
  unfold emT
  rw [Nat.zero_add] at key
  cases q : emS u s B 0 none with
  | none => exact Nat.zero_le _
  | some e => have := (key.1 e q).1; show e + 1 ≤ 5; omega
theorem spS_le {η : HP} (hη : HPok η) {u : Nat → Nat} {r sl b m : Nat} (h : sl ≤ 5) : spS η u r sl b m ≤ 5 := by
  unfold spS
  split
  · exact slO_le hη.2.1
  · exact h
theorem rcM_nI {s sl : Nat} (hs : s < 32) (h : sl ≤ 5) (hs0 : ¬ sl = 0) : nI s ||| ((1 : Int32) <<< (kI sl &&& 31)) = nI (rcM s sl) := by
  obtain ⟨k, rfl⟩ : ∃ q, sl = q + 1 := ⟨sl - 1, by omega⟩
  rw [kI_s, shl_nI (by omega), or_nI]
  unfold rcM
  rw [if_neg (by omega), show k + 1 - 1 = k by omega]
theorem puts {w : GW} {η : HP} {u x : Nat → Nat} {r g b sl : Nat} (hη : HPok η) (hH : HMo w η) (hL : LK w u sl) (hu8 : ∀ b, u b ≤ 8) (hsl : sl ≤ 5) (hg : g ≤ 3) (hx : ∀ i, i < 3 → x i < pB η) (hG : GL w x g) (hr : r ≤ 4) (hb : b < pB η) : ∃ w', f_X9_puts (nI r) (nI g) (nI b) w = some (oI (goT (pB η) (pR η) u b), w') ∧ LK w' (ldH η u b) (spS η u r sl b (msk x g)) ∧ ∀ j, gI w' 133 j = gI w 133 j := by
  obtain ⟨hB0, hB5, hR, hW, hD, hE, hM⟩ := hη
  have hη : HPok η := ⟨hB0, hB5, hR, hW, hD, hE, hM⟩
  obtain ⟨H0, H1, H2, H3, H4, H5⟩ := hH
  obtain ⟨hu, hk⟩ := hL
  have hm := msk_lt (x := x) (fun i hi => by have := hx i hi; omega) g hg
  have hgo := goesTo (w := w) H0 hB5 H1 (fun b hb => hu b (by omega)) (fun b => (hR b).2) hu8 hb
  generalize hw1 : gwT w u (goT (pB η) (pR η) u b) = w1 at hgo
  have k133 : ∀ j, gI w1 133 j = gI w 133 j := fun j => by
    rw [← hw1]; cases goT (pB η) (pR η) u b <;> simp [gI_sI, gwT]
  have k22 : gI w1 130 22 = gI w 130 22 := by
    rw [← hw1]; cases goT (pB η) (pR η) u b <;> simp [gI_sI, gwT]
  have hu1 : ∀ b', b' < 5 → gI w1 137 b' = nI (ldH η u b b') := fun b' hb' => by
    rw [← hw1]
    unfold ldH
    cases h : goT (pB η) (pR η) u b with
    | none => exact hu b' hb'
    | some z =>
      unfold upM gwT
      dsimp only
      rw [gI_sI]
      by_cases e : b' = z
      · subst e; simp
      · rw [if_neg (by simp [e]), if_neg (fun q => e (by cases q; rfl))]; exact hu b' hb'
  have hl8 : ∀ b', ldH η u b b' ≤ 8 := fun b' => by
    unfold ldH
    cases h : goT (pB η) (pR η) u b with
    | none => exact hu8 b'
    | some z =>
      have := goS_some _ _ _ hb h
      unfold upM
      split
      · next q => cases q; have := (hR b').2; omega
      · exact hu8 b'
  have tail : ∀ t0 : Int32, nI (msk x g) ||| t0 = nI (rcM (msk x g) sl) → ∃ w', f_X9_puts_22 (nI r) (nI b) t0 (nI (msk x g)) w = some (oI (goT (pB η) (pR η) u b), w') ∧ LK w' (ldH η u b) (spS η u r sl b (msk x g)) ∧ ∀ j, gI w' 133 j = gI w 133 j := by
    intro t0 e0
    rw [f_X9_puts_22, hgo, bind_some', e0]
    unfold spS
    by_cases h4 : r = 4
    · have h9 := rcM_lt (sl := sl) hm hsl
      rw [if_pos ((eq4 (by omega)).mpr h4), if_pos h4, emptiest9 (w := w1) (u := ldH η u b) (by rw [k133]; exact H0) hB5 (fun b' hb' => hu1 b' (by omega)) hl8 (by omega), bind_some']
      refine ⟨_, rfl, ⟨fun b' hb' => ?_, ?_⟩, fun j => ?_⟩
      · rw [gI_sI, if_neg (by simp)]; exact hu1 b' hb'
      · rw [gI_sI, if_pos (by simp), oI_kI]
      · rw [gI_sI, if_neg (by simp)]; exact k133 j
    · rw [if_neg (fun q => h4 ((eq4 (by omega)).mp q)), if_neg h4]
      exact ⟨w1, rfl, ⟨hu1, by rw [k22]; exact hk⟩, k133⟩
  rw [f_X9_puts, seenBy hg (fun i hi => by have := hx i hi; omega) hG, bind_some']
  show ∃ w', (if 0 ≤ gI w 130 22 then _ else _) = _ ∧ _
  rw [hk]
  by_cases s0 : sl = 0
  · rw [if_neg (fun q => absurd s0 ((kI_pos (by omega)).mp q))]
    refine tail 0 ?_
    rw [show (0 : Int32) = nI 0 from rfl, or_nI, Nat.or_zero]
    unfold rcM
    rw [if_pos s0]
  · rw [if_pos ((kI_pos (by omega)).mpr s0)]
    refine tail _ ?_
    exact rcM_nI hm hsl s0
/-- the table, as what its sums are, which keys it holds, and whether all ways are above 0 -/
def TT (w : GW) (E : (Nat → Nat) → Nat) (K : Nat → Prop) (ps : Prop) : Prop := ∃ n key way, TB w n key way ∧ (∀ g, tot n key way g = E g) ∧ (∀ y, (∃ s, s < n ∧ key s = y) ↔ K y) ∧ (ps → ∀ s, s < n → 0 < way s)
def hcap : Prop := ∀ (m : Nat) (f : Nat → Nat), (∀ i, i < m → VK (f i)) → (∀ i j, i < j → j < m → f i ≠ f j) → m ≤ 7722
theorem comesT (hc : hcap) {w : GW} {E : (Nat → Nat) → Nat} {K : Nat → Prop} {ps : Prop} {x bw : Nat} (h : TT w E K ps) (hx : VK x) (hb : ps → 0 < bw) : ∃ w', f_X9_comesTo (nI x) (lN bw) w = some ((), w') ∧ TT w' (fun g => E g + bw * g x) (fun y => K y ∨ y = x) ps := by
  obtain ⟨n, key, way, h1, h2, h3, h4⟩ := h
  obtain ⟨w', n', key', way', a, b, c, d, e⟩ := comesTo (bw := bw) hc h1 hx
  exact ⟨w', a, n', key', way', b, fun g => by rw [c, h2], fun y => by rw [d, h3], fun p => e (hb p) (h4 p)⟩
theorem TT.of {w w' : GW} {E : (Nat → Nat) → Nat} {K : Nat → Prop} {ps : Prop} (h : TT w E K ps) (h1 : gI w' 130 29 = gI w 130 29) (h2 : ∀ j, gI w' 140 j = gI w 140 j) (h3 : ∀ j, gI w' 141 j = gI w 141 j) (h4 : ∀ j, gL w' 143 j = gL w 143 j) : TT w' E K ps := by
  obtain ⟨n, key, way, ⟨a1, a2, a3, a4, a5, a6, a7⟩, b, c, d⟩ := h
  refine ⟨n, key, way, ⟨by rw [h1]; exact a1, fun s hs => by rw [h2, h4]; exact a2 s hs, a3, a4, fun k hk => by rw [h3]; exact a5 k hk, fun k k' s hk hk' hs => by rw [h3, h3]; exact a6 k k' s hk hk' hs, fun s hs => ?_⟩, b, c, d⟩
  obtain ⟨j, q1, q2, q3⟩ := a7 s hs
  exact ⟨j, q1, by rw [h3]; exact q2, fun i hi => by rw [h3]; exact q3 i hi⟩
theorem TT.c {w : GW} {E E' : (Nat → Nat) → Nat} {K K' : Nat → Prop} {ps : Prop} (h : TT w E K ps) (hE : ∀ g, E g = E' g) (hK : ∀ y, K y ↔ K' y) : TT w E' K' ps := by
  obtain ⟨n, key, way, a, b, c, d⟩ := h
  exact ⟨n, key, way, a, fun g => by rw [b, hE], fun y => by rw [c, hK], d⟩
/-- the reference's hall, and what a letter's walk leaves alone -/
def K9 (w w' : GW) : Prop := (∀ j, gI w' 133 j = gI w 133 j) ∧ (∀ j, gI w' 139 j = gI w 139 j) ∧ (∀ j, gL w' 142 j = gL w 142 j) ∧ gI w' 130 28 = gI w 130 28 ∧ gL w' 130 30 = gL w 130 30
theorem K9.rf {w : GW} : K9 w w := ⟨fun _ => rfl, fun _ => rfl, fun _ => rfl, rfl, rfl⟩
theorem K9.tr {a b c : GW} (h : K9 a b) (h2 : K9 b c) : K9 a c := ⟨fun j => (h2.1 j).trans (h.1 j), fun j => (h2.2.1 j).trans (h.2.1 j), fun j => (h2.2.2.1 j).trans (h.2.2.1 j), h2.2.2.2.1.trans h.2.2.2.1, h2.2.2.2.2.trans h.2.2.2.2⟩
theorem dU_su {x : Nat} (h : VK x) : su (dU x) ≤ 8 := by rw [su_5]; exact h.2
theorem dK_le {x : Nat} (h : VK x) : dK x ≤ 5 := by have := h.1; unfold dK; omega
theorem u8_of {u : Nat → Nat} (h : su u ≤ 8) : ∀ b, b < 5 → u b ≤ 8 := fun b hb => Nat.le_trans (su_le hb) h
