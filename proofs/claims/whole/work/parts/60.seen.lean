/-! the class's choice among the boxes seen -/
def rot (B m : Nat) : Nat := (m ||| (m * 2) % 2 ^ B) ||| m * 2 / 2 ^ B
def ckS (B r m sl : Nat) : Nat := if r = 3 then rot B m else if r = 4 then rcM m sl else m
theorem rot_lt : ∀ B, B < 6 → ∀ m, m < 32 → m < 2 ^ B → rot B m < 32 := by decide
theorem rot_or : ∀ B, B < 6 → ∀ m, m < 32 → m < 2 ^ B → ∀ y, y < 5 → y < B → rot B (m ||| 2 ^ y) = rot B m ||| 2 ^ y ||| 2 ^ nx B y := by decide
theorem ckS_lt {B r m sl : Nat} (hB5 : B ≤ 5) (hm : m < 2 ^ B) (hsl : sl ≤ 5) : ckS B r m sl < 32 := by
  have := sm32 hB5
  unfold ckS
  split
  · exact rot_lt B (by omega) m (by omega) hm
  · split
    · exact rcM_lt (by omega) hsl
    · omega
theorem lookedAt {w : GW} {η : HP} {r h g m sl : Nat} (hη : HPok η) (hr : r ≤ 4) (hX : CX w η r h g) (hm : m < 2 ^ pB η) (hsl : sl ≤ 5) : f_X1_lookedAt (nI m) (nI sl) w = some (nI (ckS (pB η) r m sl), w) := by
  obtain ⟨⟨h1, -⟩, ⟨-, p2, -⟩⟩ := hX
  obtain ⟨j1, j2, -⟩ := hη
  have h32 := sm32 j2
  rw [f_X1_lookedAt, p2, h1]
  unfold ckS
  by_cases r3 : r = 3
  · rw [if_pos ((eq3 (by omega)).mpr r3), if_pos r3]
    have e1 : nI m <<< ((1 : Int32) &&& 31) = nI (m * 2) := by
      have := pk_shlN (n := m) ((1 : Int32) &&& 31) 1 (by decide) (by omega)
      exact this
    have e2 : (1 : Int32) <<< (nI (pB η) &&& 31) - 1 = nI (2 ^ pB η - 1) := by
      rw [shl_nI (by omega), show (1 : Int32) = nI 1 from rfl, pk_sub (Nat.two_pow_pos _)]
    rw [e1, e2, fa_mask, pk_shrN (by omega) _ (pB η) (sh_amt _ (by omega)), fa_or, fa_or]
    rfl
  · rw [if_neg (fun q => r3 ((eq3 (by omega)).mp q)), if_neg r3]
    by_cases r4 : r = 4
    · rw [if_pos ((eq4 (by omega)).mpr r4), if_pos r4]
      unfold rcM
      by_cases s0 : sl = 0
      · rw [if_pos ((le0 (by omega)).mpr s0), if_pos s0]
      · rw [if_neg (fun q => s0 ((le0 (by omega)).mp q)), if_neg s0, show (1 : Int32) = nI 1 from rfl, pk_sub (by omega), ← show (1 : Int32) = nI 1 from rfl, shl_nI (by omega), or_nI]
    · rw [if_neg (fun q => r4 ((eq4 (by omega)).mp q)), if_neg r4]
def tkM (η : HP) (u : Nat → Nat) (r sl m : Nat) : Nat := (emT u (ckS (pB η) r m sl) (pB η)).getD 0
def ixS (η : HP) (u : Nat → Nat) (r sl m : Nat) : Nat := tkM η u r sl m * 6 + (if r = 4 then slO (emT (ldH η u (tkM η u r sl m)) (ckS (pB η) r m sl) (pB η)) else 0)
theorem mbit : ∀ m, m < 32 → m ≠ 0 → ∃ b, b < 5 ∧ m.testBit b = true := by decide
theorem mbit' {B m : Nat} (hB5 : B ≤ 5) (hm : m < 2 ^ B) (h0 : m ≠ 0) : ∃ b, b < B ∧ m.testBit b = true := by
  have := sm32 hB5
  obtain ⟨b, h1, h2⟩ := mbit m (by omega) h0
  refine ⟨b, Classical.byContradiction (fun q => ?_), h2⟩
  rw [Nat.testBit_lt_two_pow (Nat.lt_of_lt_of_le hm (Nat.pow_le_pow_right (by omega) (show B ≤ b by omega)))] at h2
  cases h2
theorem ck_ge {B r m sl b : Nat} (h : m.testBit b = true) : (ckS B r m sl).testBit b = true := by
  unfold ckS
  split
  · unfold rot
    rw [Nat.testBit_or, Nat.testBit_or, h]
    rfl
  · split
    · exact rcM_ge h
    · exact h
theorem tkM_some {η : HP} (hη : HPok η) {u : Nat → Nat} {r sl m : Nat} (hm : m < 2 ^ pB η) (h0 : m ≠ 0) : emT u (ckS (pB η) r m sl) (pB η) = some (tkM η u r sl m) ∧ tkM η u r sl m < pB η := by
  obtain ⟨b, h1, h2⟩ := mbit' hη.2.1 hm h0
  obtain ⟨e, e1, e2, -⟩ := emT_some (u := u) ⟨b, h1, ck_ge (B := pB η) (r := r) (sl := sl) h2⟩
  have : tkM η u r sl m = e := by unfold tkM; rw [e1]; rfl
  rw [this]
  exact ⟨e1, e2⟩
theorem ixS_lt {η : HP} (hη : HPok η) {u : Nat → Nat} {r sl m : Nat} (hm : m < 2 ^ pB η) (h0 : m ≠ 0) : ixS η u r sl m < 30 ∧ ixS η u r sl m / 6 = tkM η u r sl m := by
  have h1 := (tkM_some hη (u := u) (r := r) (sl := sl) hm h0).2
  have h2 := slO_le (u := ldH η u (tkM η u r sl m)) (s := ckS (pB η) r m sl) (B := pB η) hη.2.1
  have h3 := hη.2.1
  unfold ixS
  split <;> omega
def cwE (η : HP) (u : Nat → Nat) (r sl g M i : Nat) : Nat := sm M (fun m => if m ≠ 0 ∧ ixS η u r sl m = i then snS (pB η) (pW η) g m else 0)
section SN
variable {η : HP} {r h g k1 sl : Nat} {u : Nat → Nat}
theorem seen_in (hη : HPok η) (hg : g ≤ 3) (hr : r ≤ 4) (hr2 : r ≠ 2) (hu8 : ∀ b, u b ≤ 8) (hsl : sl ≤ 5) : ∀ d m n w, m + d = 2 ^ pB η → d < n → 1 ≤ m → CX w η r h g → (∀ b, b < 5 → gI w k1 b = nI (u b)) → (∀ m, m < 32 → gL w 69 m = lN (snS (pB η) (pW η) g m)) → (∀ i, i < 30 → gL w 71 i = lN (cwE η u r sl g m i)) → ∃ w', f_X1_weighSeen_13 n k1 (nI sl) (nI (2 ^ pB η)) (nI m) w = some ((), w') ∧ oL 71 w w' ∧ ∀ i, i < 30 → gL w' 71 i = lN (cwE η u r sl g (2 ^ pB η) i) := by
  intro d
  induction d with
  | zero =>
    intro m n w hm hn h1 hX hu hS hW
    obtain ⟨n, rfl⟩ : ∃ m9, n = m9 + 1 := ⟨n - 1, by omega⟩
    have : m = 2 ^ pB η := by omega
    subst this
    have h32 := sm32 hη.2.1
    refine ⟨w, ?_, oL.rf, hW⟩
    rw [f_X1_weighSeen_13, if_pos ((le_nI (by omega) (by omega)).mpr (by omega))]
  | succ d ih =>
    intro m n w hm hn h1 hX hu hS hW
    obtain ⟨n, rfl⟩ : ∃ m9, n = m9 + 1 := ⟨n - 1, by omega⟩
    have h32 := sm32 hη.2.1
    obtain ⟨⟨x1, x2, -⟩, ⟨-, p2, -⟩⟩ := id hX
    obtain ⟨j1, j2, j3, j4, -⟩ := id hη
    have hsn := snS_le j2 (pW η) g m
    have hw15 : sm (pB η) (pW η) ^ g ≤ 15 ^ 3 := Nat.le_trans (Nat.pow_le_pow_left (WT_le hη).2 g) (Nat.pow_le_pow_right (by omega) hg)
    have hst : ∀ i, cwE η u r sl g (m + 1) i = cwE η u r sl g m i + (if m ≠ 0 ∧ ixS η u r sl m = i then snS (pB η) (pW η) g m else 0) := fun i => sm_s _ _
    rw [f_X1_weighSeen_13, if_neg (fun q9 => absurd ((le_nI (by omega) (by omega)).mp q9) (by omega)), if_pos ((inb_nI (by omega)).mpr (by omega)), ix_nI (by omega), hS m (by omega)]
    by_cases q : snS (pB η) (pW η) g m = 0
    · rw [if_pos (by rw [q]; decide), f_X1_weighSeen_118, nI_1]
      exact ih (m + 1) n w (by omega) (by omega) (by omega) hX hu hS (fun i hi => by rw [hW i hi, hst, q, ite_self, Nat.add_zero])
    · obtain ⟨t1, t2⟩ := tkM_some hη (u := u) (r := r) (sl := sl) (m := m) (by omega) (by omega)
      obtain ⟨i1, i2⟩ := ixS_lt hη (u := u) (r := r) (sl := sl) (m := m) (by omega) (by omega)
      have hck := ckS_lt (r := r) (m := m) j2 (by omega) hsl
      have hpos : ¬ lN (snS (pB η) (pW η) g m) ≤ 0 := by
        intro z
        have z1 : lN (snS (pB η) (pW η) g m) ≤ lN 0 := z
        rw [lN_le (by omega) (by omega)] at z1
        omega
      have em1 := emptiest1 (k1 := k1) (s := ckS (pB η) r m sl) (u := u) (m := none) x1 j2 (fun b hb => hu b (by omega)) hu8 (by omega) (fun x z => by cases z)
      rw [upM_none, t1] at em1
      have rf := roomFrom (k0 := fxH (gR w 4)) (k1 := k1) (u := u) x1 j2 x2 (fun b hb => hu b (by omega)) (fun b => (j3 b).2) hu8 t2
      have key : ∀ v : Nat, tkM η u r sl m * 6 + v = ixS η u r sl m → v ≤ 5 → ∃ w', f_X1_weighSeen_88 (f_X1_weighSeen_13 n) k1 (nI sl) (nI (2 ^ pB η)) (nI m) (nI (tkM η u r sl m)) (nI v) w = some ((), w') ∧ oL 71 w w' ∧ ∀ i, i < 30 → gL w' 71 i = lN (cwE η u r sl g (2 ^ pB η) i) := by
        intro v hv hv5
        obtain ⟨w', a1, a2, a3⟩ := ih (m + 1) n (sL w 71 (ixS η u r sl m) (lN (cwE η u r sl g (m + 1) (ixS η u r sl m)))) (by omega) (by omega) (by omega) (hX.of (oL.st _ _ _ _)) hu (fun m' hm' => by rw [gL_sL, if_neg (by omega)]; exact hS m' hm') (fun i hi => by
          rw [gL_sL]
          by_cases z : i = ixS η u r sl m
          · subst z
            rw [if_pos ⟨rfl, rfl⟩]
          · rw [if_neg (fun zz => z zz.2), hW i hi, hst, if_neg (fun zz => z zz.2.symm), Nat.add_zero])
        refine ⟨w', ?_, (oL.st _ _ _ _).tr a2, a3⟩
        rw [f_X1_weighSeen_88, if_neg (lt0_nI (by omega)), show (6 : Int32) = nI 6 from rfl, pk_mul, nI_add, hv, if_pos ((inb_nI (by omega)).mpr (by omega)), if_pos ((inb_nI (by omega)).mpr (by omega)), if_pos ((inb_nI (by omega)).mpr (by omega)), f_X1_weighSeen_118, ix_nI (by omega), ix_nI (by omega), hW _ i1, hS m (by omega), lN_add, nI_1]
        rw [hst, if_pos ⟨by omega, rfl⟩] at a1
        exact a1
      rw [if_neg hpos, lookedAt hη hr hX (by omega) hsl, bind_some']
      show ∃ w', ((f_X1_emptiest k1 (nI (ckS (pB η) r m sl)) (oI none) w).bind _ = _) ∧ _
      rw [em1, bind_some']
      show ∃ w', ((f_X3_roomFrom (fxH (gR w 4)) k1 (nI (tkM η u r sl m)) w).bind _ = _) ∧ _
      rw [rf, bind_some']
      dsimp only
      rw [p2]
      by_cases r4 : r = 4
      · rw [if_pos ((eq4 (by omega)).mpr r4)]
        have em2 := emptiest1 (k1 := k1) (s := ckS (pB η) r m sl) (u := u) (m := goT (pB η) (pR η) u (tkM η u r sl m)) x1 j2 (fun b hb => hu b (by omega)) hu8 (by omega) (fun x z => by have := (goS_some _ _ _ t2 z).1; omega)
        rw [em2, bind_some']
        dsimp only
        rw [oI_kI (emT (upM u (goT (pB η) (pR η) u (tkM η u r sl m))) (ckS (pB η) r m sl) (pB η)), kI_add]
        exact key _ (by unfold ixS; rw [if_pos r4]; rfl) (slO_le j2)
      · rw [if_neg (fun z => r4 ((eq4 (by omega)).mp z))]
        exact key 0 (by unfold ixS; rw [if_neg r4]) (by omega)
theorem weighSeen {w : GW} (hη : HPok η) (hg : g ≤ 3) (hr : r ≤ 4) (hr2 : r ≠ 2) (hu8 : ∀ b, u b ≤ 8) (hsl : sl ≤ 5) (hX : CX w η r h g) (hu : ∀ b, b < 5 → gI w k1 b = nI (u b)) (hS : ∀ m, m < 32 → gL w 69 m = lN (snS (pB η) (pW η) g m)) (h0 : ∀ i, i < 30 → gL w 71 i = lN 0) : ∃ w', f_X1_weighSeen k1 (nI sl) w = some ((), w') ∧ oL 71 w w' ∧ ∀ i, i < 30 → gL w' 71 i = lN (cwE η u r sl g (2 ^ pB η) i) := by
  have h32 := sm32 hη.2.1
  have hp : 1 ≤ 2 ^ pB η := Nat.two_pow_pos _
  have j2 := hη.2.1
  rw [f_X1_weighSeen, hX.1.1, shl_nI (by omega), show (1 : Int32) = nI 1 from rfl]
  exact seen_in hη hg hr hr2 hu8 hsl (2 ^ pB η - 1) 1 fu w (by omega) (fu_gt (by omega)) (by omega) hX hu hS (fun i hi => by rw [h0 i hi]; unfold cwE; rw [sm_s, sm_0, if_neg (fun z => z.1 rfl)])
/-- the class's ways for a letter -/
noncomputable def cw (η : HP) (u : Nat → Nat) (r h g sl n i : Nat) : Nat := @ite _ (drS (pE η) n) (Classical.propDecidable _) (if i = pD η * 6 + sl then 1 else 0) (if r = 0 then cwB (ltW (pB η) (pW η) u g) (pB η) i else if r = 2 then cwB (lzW (pB η) (pW η) u h g) (pB η) i else cwE η u r sl g (2 ^ pB η) i)
theorem weigh {w : GW} {n : Nat} (hη : HPok η) (hg : g ≤ 3) (hr : r ≤ 4) (hh : h ≤ 8) (hu8 : ∀ b, u b ≤ 8) (hsl : sl ≤ 5) (hn : n < 1000) (h71 : k1 ≠ 71) (hX : CX w η r h g) (hu : ∀ b, b < 5 → gI w k1 b = nI (u b)) (hS : ∀ m, m < 32 → gL w 69 m = lN (snS (pB η) (pW η) g m)) : ∃ w', f_X1_weigh k1 (nI sl) (nI n) w = some ((), w') ∧ oL 71 w w' ∧ ∀ i, i < 30 → gL w' 71 i = lN (cw η u r h g sl n i) := by
  have key : ∀ d i m w, i + d = 30 → d < m → CX w η r h g → (∀ b, b < 5 → gI w k1 b = nI (u b)) → (∀ m, m < 32 → gL w 69 m = lN (snS (pB η) (pW η) g m)) → (∀ j, j < i → gL w 71 j = lN 0) → ∃ w', f_X1_weigh_3 m k1 (nI sl) (nI n) (nI i) w = some ((), w') ∧ oL 71 w w' ∧ ∀ i, i < 30 → gL w' 71 i = lN (cw η u r h g sl n i) := by
    intro d
    induction d with
    | zero =>
      intro i m w hi hm hX hu hS h0
      obtain ⟨m, rfl⟩ : ∃ m9, m = m9 + 1 := ⟨m - 1, by omega⟩
      have : i = 30 := by omega
      subst this
      obtain ⟨j1, j2, j3, j4, j5, j6, j7⟩ := id hη
      obtain ⟨c1, c2, c3⟩ := isDoors hX.1.2.2.2.2.2.2.1 j6 hn
      rw [f_X1_weigh_3, show (30 : Int32) = nI 30 from rfl, if_pos ((le_nI (by omega) (by omega)).mpr (by omega)), c2, bind_some']
      dsimp only
      unfold cw
      rcases c3 with ⟨c4, c5⟩ | ⟨c4, c5⟩
      · rw [c5, if_neg one_ne, hX.1.2.2.2.2.2.1, show (6 : Int32) = nI 6 from rfl, pk_mul, nI_add, show (30 : Nat) = 30 from rfl, if_pos ((inb_nI (by omega)).mpr (by omega)), ix_nI (by omega)]
        refine ⟨_, rfl, oL.st _ _ _ _, fun i hi => ?_⟩
        rw [gL_sL, if_pos c4]
        by_cases z : i = pD η * 6 + sl
        · rw [if_pos ⟨rfl, z⟩, if_pos z]; rfl
        · rw [if_neg (fun zz => z zz.2), if_neg z, h0 i hi]
      · rw [c5, if_pos rfl, hX.2.2.1]
        by_cases r0 : r = 0
        · rw [if_pos ((eq0 (by omega)).mpr r0)]
          obtain ⟨w', a1, a2, a3⟩ := weighLots (k1 := k1) hη hg hu8 h71 hX hu h0
          refine ⟨w', by rw [a1]; rfl, a2, fun i hi => ?_⟩
          rw [if_neg c4, if_pos r0]
          exact a3 i hi
        · rw [if_neg (fun q => r0 ((eq0 (by omega)).mp q))]
          by_cases r2 : r = 2
          · subst r2
            rw [if_pos ((eq2 (by omega)).mpr rfl)]
            obtain ⟨w', a1, a2, a3⟩ := weighLazy (k1 := k1) hη hg hu8 hh hX hu h0
            refine ⟨w', by rw [a1]; rfl, a2, fun i hi => ?_⟩
            rw [if_neg c4, if_neg r0, if_pos rfl]
            exact a3 i hi
          · rw [if_neg (fun q => r2 ((eq2 (by omega)).mp q))]
            obtain ⟨w', a1, a2, a3⟩ := weighSeen (k1 := k1) hη hg hr r2 hu8 hsl hX hu hS h0
            refine ⟨w', by rw [a1]; rfl, a2, fun i hi => ?_⟩
            rw [if_neg c4, if_neg r0, if_neg r2]
            exact a3 i hi
    | succ d ih =>
      intro i m w hi hm hX hu hS h0
      obtain ⟨m, rfl⟩ : ∃ m9, m = m9 + 1 := ⟨m - 1, by omega⟩
      obtain ⟨w', a1, a2, a3⟩ := ih (i + 1) m (sL w 71 i 0) (by omega) (by omega) (hX.of (oL.st _ _ _ _)) hu (fun m' hm' => by rw [gL_sL, if_neg (by omega)]; exact hS m' hm') (fun j hj => by
        rw [gL_sL]
        by_cases z : j = i
        · rw [if_pos ⟨rfl, z⟩]; rfl
        · rw [if_neg (fun zz => z zz.2), h0 j (by omega)])
      refine ⟨w', ?_, (oL.st _ _ _ _).tr a2, a3⟩
      rw [f_X1_weigh_3, show (30 : Int32) = nI 30 from rfl, if_neg (fun q9 => absurd ((le_nI (by omega) (by omega)).mp q9) (by omega)), show (30 : Nat) = 30 from rfl, if_pos ((inb_nI (by omega)).mpr (by omega)), ix_nI (by omega), nI_1]
      exact a1
  rw [f_X1_weigh, show (0 : Int32) = nI 0 from rfl]
  exact key 30 0 fu w (by omega) (fu_gt (by omega)) hX hu hS (fun j hj => by omega)
end SN
