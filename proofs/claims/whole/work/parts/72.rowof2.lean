section TM
variable {η : HP} {r h g : Nat}
theorem alS_d (hη : HPok η) {n : Nat} (q : drS (pE η) (n + 1)) : alS η r g (n + 1) = alS η r g n := by rw [alS, if_pos q, Nat.mul_one]
theorem alS_g (hη : HPok η) {n : Nat} (q : ¬ drS (pE η) (n + 1)) : alS η r g (n + 1) = alS η r g n * WY η r g := by rw [alS, if_neg q]
theorem tooMany_80 (hη : HPok η) (hg1 : 1 ≤ g) (hg : g ≤ 3) {w : GW} {k0 k : Nat} (hH : HCl w k0 η) (hk : k < 1000) : ∀ d i m, i + d = k → d < m → alS η r g i ≤ 1000000000000000 → f_X3_tooMany_80 m k0 (nI k) (lN (WY η r g)) (lN (1000000000000000 / WY η r g)) (lN (alS η r g i)) (nI (i + 1)) w = some (if alS η r g k ≤ 1000000000000000 then 0 else 1, w) := by
  have hWY := WY_le (r := r) hη hg1 hg
  have hdl : 1000000000000000 / WY η r g ≤ 1000000000000000 := Nat.div_le_self _ _
  have hE := hη.2.2.2.2.2.1
  intro d
  induction d with
  | zero =>
    intro i m hi hm ha
    obtain ⟨m, rfl⟩ : ∃ m9, m = m9 + 1 := ⟨m - 1, by omega⟩
    have : i = k := by omega
    subst this
    rw [f_X3_tooMany_80, if_pos ((lt_nI (by omega) (by omega)).mpr (by omega)), if_pos ha]
  | succ d ih =>
    intro i m hi hm ha
    obtain ⟨m, rfl⟩ : ∃ m9, m = m9 + 1 := ⟨m - 1, by omega⟩
    obtain ⟨c1, c2, c3⟩ := isDoors hH.2.2.2.2.2.2.1 hE (show i + 1 < 1000 by omega)
    rw [f_X3_tooMany_80, if_neg (fun q9 => absurd ((lt_nI (by omega) (by omega)).mp q9) (by omega)), c2, bind_some']
    dsimp only
    rcases c3 with ⟨c4, c5⟩ | ⟨c4, c5⟩
    · rw [c5, if_neg one_ne, f_X3_tooMany_111, nI_1]
      have e := ih (i + 1) m (by omega) (by omega) (by rw [alS_d hη c4]; exact ha)
      rw [alS_d hη c4] at e
      exact e
    · rw [c5, if_pos rfl]
      have hb : alS η r g i ≤ 1000000000000000 / WY η r g ↔ alS η r g (i + 1) ≤ 1000000000000000 := by
        rw [alS_g hη c4]
        exact Nat.le_div_iff_mul_le (by omega)
      by_cases q : alS η r g i ≤ 1000000000000000 / WY η r g
      · rw [if_pos ((lle (by omega) (by omega)).mpr q), f_X3_tooMany_111, lN_mul, nI_1, ← alS_g hη c4]
        exact ih (i + 1) m (by omega) (by omega) (hb.mp q)
      · rw [if_neg (fun z => q ((lle (by omega) (by omega)).mp z))]
        have h2 := alS_m (r := r) hη hg1 hg (show i + 1 ≤ k by omega)
        have h3 : ¬ alS η r g (i + 1) ≤ 1000000000000000 := fun z => q (hb.mpr z)
        rw [if_neg (by omega)]
theorem tooMany (hη : HPok η) (hg1 : 1 ≤ g) (hg : g ≤ 3) (hr : r ≤ 4) {w : GW} {k0 k1 k : Nat} (hH : HCl w k0 η) (hP : PCl w k1 r h g) (hk : k < 1000) : f_X3_tooMany k0 k1 (nI k) w = some (if alS η r g k ≤ 1000000000000000 then 0 else 1, w) := by
  have hWY := WY_le (r := r) hη hg1 hg
  have hW := WT_le hη
  obtain ⟨p1, p2, -⟩ := hP
  have k57 : ∀ x : Nat, x = WY η r g → f_X3_tooMany_57 k0 (nI k) (lN x) w = some (if alS η r g k ≤ 1000000000000000 then 0 else 1, w) := by
    intro x hx
    subst hx
    have hdiv : (1000000000000000 : Int64) / lN (WY η r g) = lN (1000000000000000 / WY η r g) := pk_lDiv (a := 1000000000000000) (by omega) (by omega) (by omega)
    rw [f_X3_tooMany_57, if_neg (fun z => by have := (lle0 (by omega)).mp z; omega), if_pos (fun z => by have := (leq0 (by omega)).mp z; omega), f_X3_tooMany_72, hdiv, show (1 : Int64) = lN 1 from rfl, show (1 : Int32) = nI 1 from rfl]
    exact tooMany_80 hη hg1 hg hH hk k 0 fu (by omega) (fu_gt (by omega)) (by rw [alS]; omega)
  have key : ∀ d i m, i + d = g → d < m → f_X3_tooMany_5 m k0 k1 (nI k) (lN (sm (pB η) (pW η) ^ i)) (nI i) w = some (if alS η r g k ≤ 1000000000000000 then 0 else 1, w) := by
    intro d
    induction d with
    | zero =>
      intro i m hi hm
      obtain ⟨m, rfl⟩ : ∃ m9, m = m9 + 1 := ⟨m - 1, by omega⟩
      have : i = g := by omega
      subst this
      rw [f_X3_tooMany_5, p1, if_pos ((le_nI (by omega) (by omega)).mpr (by omega)), p2]
      by_cases r0 : r = 0
      · rw [if_pos ((eq0 (by omega)).mpr r0)]
        by_cases g3 : i = 3
        · rw [if_pos ((eq3 (by omega)).mpr g3), f_X3_tooMany_55, show (6 : Int64) = lN 6 from rfl, lN_mul]
          exact k57 _ (by unfold WY tiO; rw [if_pos r0, if_pos g3])
        · rw [if_neg (fun z => g3 ((eq3 (by omega)).mp z)), f_X3_tooMany_55, nI_l (by omega), lN_mul]
          exact k57 _ (by unfold WY tiO; rw [if_pos r0, if_neg g3])
      · rw [if_neg (fun z => r0 ((eq0 (by omega)).mp z))]
        exact k57 _ (by unfold WY; rw [if_neg r0, Nat.mul_one])
    | succ d ih =>
      intro i m hi hm
      obtain ⟨m, rfl⟩ : ∃ m9, m = m9 + 1 := ⟨m - 1, by omega⟩
      have e := ih (i + 1) m (by omega) (by omega)
      rw [Nat.pow_succ] at e
      rw [f_X3_tooMany_5, p1, if_neg (fun q9 => absurd ((le_nI (by omega) (by omega)).mp q9) (by omega)), hH.2.2.2.2.1, nI_l (by omega), lN_mul, nI_1]
      exact e
  rw [f_X3_tooMany, show (1 : Int64) = lN 1 from rfl, show (0 : Int32) = nI 0 from rfl]
  exact key g 0 fu (by omega) (fu_gt (by omega))
end TM
/-- the chances' own state -/
def WX (w : GW) (η : HP) (most : Nat) : Prop := HX w η ∧ LIE w (pB η) most (fun _ => True) ∧ ∀ c, pB η ≤ c → c < 5 → gI w 113 c = 0
theorem fxH_2 (x : Nat) : fxH (fxH x) = fxH x := fxH_of (kd_H x)
section RW
variable {η : HP} {r h g fl : Nat}
/-- a row, right up to so many letters -/
def RWok (w : GW) (k4 : Nat) (η : HP) (r h g fl top : Nat) : Prop := ∃ A, INV η r h g top A ∧ ∀ c, c < 1287 → gL w k4 c = lN (sm 6 (fun s => nrm fl (A (c * 6 + s))))
theorem row_68 (hη : HPok η) (hg1 : 1 ≤ g) (hg : g ≤ 3) (hr : r ≤ 4) (hh : h ≤ 8) (hfl : fl = 0 ∨ fl = 1) {most top k2 k4 : Nat} (htop : top ≤ most) (hmost : most ≤ 8) (hrm : most ≤ sm (pB η) (pR η)) (hTM : fl = 0 → alS η r g top ≤ 1000000000000000) (hk : k4 ≠ 111) {w : GW} (hX : WX w η most) (hP : PCl w (fxP k2) r h g) : ∃ w', f_X0_rowOf_68 k2 (nI fl) k4 (nI top) w = some (k4, w') ∧ RWok w' k4 η r h g fl top ∧ KR k4 w w' ∧ HZ η w' := by
  obtain ⟨x1, x2, x3⟩ := hX
  have hf2 := fst_le hη (n := top + 1) (by omega)
  obtain ⟨w1, a1, a2, a3, a4⟩ := ready (H := fxH (gR w 3)) (P := k2) hη hg (show HCl w (fxH (fxH (gR w 3))) η by rw [fxH_2]; exact x1) hP
  have a21 : ∀ p j, gI w1 p j = gI w p j := a2.1
  have a22 : gR w1 3 = gR w 3 := a2.2.1 3
  have hD : DX w1 η r h g most := ⟨x1.of a21 a22, a3, a4, fun v b c d => by rw [a21]; exact x2 v b c d, fun c b d => by rw [a21]; exact x3 c b d⟩
  have key : ∀ d i m w, i + d = fst (pB η) (top + 1) * 6 → d < m → DX w η r h g most → WT w (fun _ => 0) fl i → ∃ w', f_X0_rowOf_93 m (nI fl) k4 (nI top) (nI (fst (pB η) (top + 1))) (nI i) w = some (k4, w') ∧ RWok w' k4 η r h g fl top ∧ KR k4 w w' ∧ HZ η w' := by
    intro d
    induction d with
    | zero =>
      intro i m w hi hm hD hW
      obtain ⟨m, rfl⟩ : ∃ m9, m = m9 + 1 := ⟨m - 1, by omega⟩
      rw [f_X0_rowOf_93, show (6 : Int32) = nI 6 from rfl, pk_mul, if_pos ((le_nI (by omega) (by omega)).mpr (by omega)), if_pos (by decide), show ix 0 = 0 from by decide, show (1 : Int32) = nI 1 from rfl]
      have hW1 : WT (sL w 111 0 1) (fun j => if j = 0 then 1 else 0) fl (fst (pB η) (top + 1) * 6) := by
        intro j hj
        rw [gL_sL]
        show _ = lN (nrm fl (if j = 0 then 1 else 0))
        by_cases q : j = 0
        · rw [if_pos ⟨rfl, q⟩, if_pos q]
          unfold nrm
          split <;> rfl
        · rw [if_neg (fun z => q z.2), if_neg q, hW j (by omega)]
      obtain ⟨A, w2, b1, b2, b3, b4, b5⟩ := row_127 (k4 := k4) (x6 := nI (fst (pB η) (top + 1))) hη hg1 hg hr hh hfl htop hmost hrm hTM top 0 fu (sL w 111 0 1) _ (by omega) (fu_gt (by omega)) (hD.oL (oL.st _ _ _ _) (by omega)) hW1 (INV_0 hη (if_pos rfl) (fun j hj => if_neg hj))
      obtain ⟨w3, c1, c2, c3⟩ := row_179 (η := η) (w := w2) (top := top) rfl (by omega) hk b4.2 1287 0 fu w2 (by omega) (fu_gt (by omega)) b3 (fun c hc => by omega)
      exact ⟨w3, by rw [b1, show (0 : Int32) = nI 0 from rfl]; exact c1, ⟨A, b4, c2⟩, ((KR.st (Or.inr (by omega))).tr b5).tr ⟨fun j => c3.1 110 j, fun q j _ _ h3 => c3.2.2 q j h3⟩, fun c x y => by rw [c3.1]; exact b2.2.2.2.2 c x y⟩
    | succ d ih =>
      intro i m w hi hm hD hW
      obtain ⟨m, rfl⟩ : ∃ m9, m = m9 + 1 := ⟨m - 1, by omega⟩
      rw [f_X0_rowOf_93, show (6 : Int32) = nI 6 from rfl, pk_mul, if_neg (fun q9 => absurd ((le_nI (by omega) (by omega)).mp q9) (by omega)), show (7722 : Nat) = 7722 from rfl, if_pos ((inb_nI (by omega)).mpr (by omega)), ix_nI (by omega), nI_1]
      obtain ⟨w', e1, e2, e3⟩ := ih (i + 1) m (sL w 111 i 0) (by omega) (by omega) (hD.oL (oL.st _ _ _ _) (by omega)) (fun j hj => by
        rw [gL_sL]
        by_cases q : j = i
        · rw [if_pos ⟨rfl, q⟩, nrm_0]; rfl
        · rw [if_neg (fun z => q z.2)]; exact hW j (by omega))
      exact ⟨w', e1, e2, (KR.st (Or.inr (by omega))).tr e3.1, e3.2⟩
  rw [f_X0_rowOf_68, a1, bind_some']
  show ∃ w', (f_X0_first (nI top + 1) w1).bind _ = _ ∧ _
  rw [nI_1, first hη hD.1.1 (by omega), bind_some']
  show ∃ w', f_X0_rowOf_93 fu (nI fl) k4 (nI top) (nI (fst (pB η) (top + 1))) 0 w1 = _ ∧ _
  rw [show (0 : Int32) = nI 0 from rfl]
  obtain ⟨w2, k1, k2, k3⟩ := key (fst (pB η) (top + 1) * 6) 0 fu w1 (by omega) (fu_gt (by omega)) hD (fun j hj => by omega)
  exact ⟨w2, k1, k2, KR.tr ⟨fun j => a21 110 j, fun q j h1 h2 h3 => a2.2.2 q j (by omega)⟩ k3.1, k3.2⟩
theorem row_40 (hη : HPok η) (hg1 : 1 ≤ g) (hg : g ≤ 3) (hr : r ≤ 4) (hh : h ≤ 8) (hfl : fl = 0 ∨ fl = 1) {most k2 k4 : Nat} (hmost : most ≤ 8) (hrm : most ≤ sm (pB η) (pR η)) (hk : k4 ≠ 111) {w : GW} (hX : WX w η most) (hP : PCl w (fxP k2) r h g) (hk2 : kd k2 = 4) : ∀ top m, top ≤ most → top < m → ∃ w' t, f_X0_rowOf_40 m k2 (nI fl) k4 (nI top) w = some (k4, w') ∧ t ≤ top ∧ RWok w' k4 η r h g fl t ∧ (∀ l, l ≤ top → (fl = 0 → alS η r g l ≤ 1000000000000000) → l ≤ t) ∧ KR k4 w w' ∧ HZ η w' := by
  intro top
  induction top with
  | zero =>
    intro m ht hm
    obtain ⟨m, rfl⟩ : ∃ m9, m = m9 + 1 := ⟨m - 1, by omega⟩
    obtain ⟨w', a1, a2, a3⟩ := row_68 (k2 := k2) (k4 := k4) hη hg1 hg hr hh hfl (Nat.zero_le _) hmost hrm (fun _ => by rw [alS]; omega) hk hX hP
    refine ⟨w', 0, ?_, Nat.le_refl _, a2, fun l hl _ => hl, a3⟩
    rw [f_X0_rowOf_40, if_pos ((le0 (by omega)).mpr rfl)]
    exact a1
  | succ top ih =>
    intro m ht hm
    obtain ⟨m, rfl⟩ : ∃ m9, m = m9 + 1 := ⟨m - 1, by omega⟩
    have hs : (fl = 0 → alS η r g (top + 1) ≤ 1000000000000000) → f_X0_rowOf_40 (m + 1) k2 (nI fl) k4 (nI (top + 1)) w = f_X0_rowOf_68 k2 (nI fl) k4 (nI (top + 1)) w → ∃ w' t, f_X0_rowOf_40 (m + 1) k2 (nI fl) k4 (nI (top + 1)) w = some (k4, w') ∧ t ≤ top + 1 ∧ RWok w' k4 η r h g fl t ∧ (∀ l, l ≤ top + 1 → (fl = 0 → alS η r g l ≤ 1000000000000000) → l ≤ t) ∧ KR k4 w w' ∧ HZ η w' := by
      intro h1 h2
      obtain ⟨w', a1, a2, a3⟩ := row_68 (k2 := k2) (k4 := k4) hη hg1 hg hr hh hfl ht hmost hrm h1 hk hX hP
      exact ⟨w', top + 1, by rw [h2, a1], Nat.le_refl _, a2, fun l hl _ => hl, a3⟩
    rcases hfl with rfl | rfl
    · have tm := tooMany (k := top + 1) hη hg1 hg hr hX.1 (show PCl w k2 r h g by rw [fxP_of hk2] at hP; exact hP) (by omega)
      by_cases q : alS η r g (top + 1) ≤ 1000000000000000
      · refine hs (fun _ => q) ?_
        rw [f_X0_rowOf_40, if_neg (fun z => by have := (le0 (by omega)).mp z; omega), if_pos (show nI 0 = 0 from rfl), tm, bind_some', if_pos q, if_pos rfl]
      · obtain ⟨w', t, a1, a2, a3, a4, a5⟩ := ih m (by omega) (by omega)
        refine ⟨w', t, ?_, by omega, a3, fun l hl hlt => ?_, a5⟩
        · rw [f_X0_rowOf_40, if_neg (fun z => by have := (le0 (by omega)).mp z; omega), if_pos (show nI 0 = 0 from rfl), tm, bind_some', if_neg q, if_neg one_ne, pk_m1]
          exact a1
        · have e := hlt rfl
          have : l ≠ top + 1 := fun z => q (by rw [← z]; exact e)
          exact a4 l (by omega) hlt
    · refine hs (fun z => by omega) ?_
      rw [f_X0_rowOf_40, if_neg (fun z => by have := (le0 (by omega)).mp z; omega), if_neg (show ¬ nI 1 = 0 from one_ne)]
/-- a row as it stands once it is built -/
def ROW (w : GW) (k4 : Nat) (η : HP) (r h g fl most : Nat) : Prop := ∃ t, t ≤ most ∧ RWok w k4 η r h g fl t ∧ ∀ l, l ≤ most → (fl = 0 → alS η r g l ≤ 1000000000000000) → l ≤ t
theorem rowOf (hη : HPok η) (hg1 : 1 ≤ g) (hg : g ≤ 3) (hr : r ≤ 4) (hh : h ≤ 8) (hfl : fl = 0 ∨ fl = 1) {L k2 i : Nat} (hi : i < 36) (hL : L < 1000) {w : GW} (hX : WX w η (ltS2 η L)) (h2 : gI w (fxH (gR w 3)) 2 = nI L) (hP : PCl w (fxP k2) r h g) (hk2 : kd k2 = 4) (hb : gI w 110 i = 0 ∨ (gI w 110 i = 1 ∧ ROW w (74 + i) η r h g fl (ltS2 η L))) : ∃ w', f_X0_rowOf (nI i) k2 (nI fl) w = some (74 + i, w') ∧ ROW w' (74 + i) η r h g fl (ltS2 η L) ∧ gI w' 110 i = 1 ∧ Sm (L_X0_rowOf k2) R_X0_rowOf w w' ∧ (∀ j, j ≠ i → gI w' 110 j = gI w 110 j) ∧ (∀ q j, 74 ≤ q → q < 110 → q ≠ 74 + i → gL w' q j = gL w q j) ∧ HZ η w' := by
  suffices H : ∃ w', f_X0_rowOf (nI i) k2 (nI fl) w = some (74 + i, w') ∧ ROW w' (74 + i) η r h g fl (ltS2 η L) ∧ gI w' 110 i = 1 ∧ (∀ j, j ≠ i → gI w' 110 j = gI w 110 j) ∧ (∀ q j, 74 ≤ q → q < 110 → q ≠ 74 + i → gL w' q j = gL w q j) ∧ HZ η w' by
    obtain ⟨w', e, e2, e3, e4⟩ := H
    exact ⟨w', e, e2, e3, fr_X0_rowOf _ _ _ w e, e4⟩
  rw [f_X0_rowOf, show (36 : Nat) = 36 from rfl, if_pos ((inb_nI (by omega)).mpr (by omega)), if_pos ((inb_nI (by omega)).mpr (by omega)), ix_nI (by omega)]
  rcases hb with hb | ⟨hb, hR⟩
  · rw [hb, if_pos rfl, if_pos ((inb_nI (by omega)).mpr (by omega))]
    have hX1 : WX (sI w 110 i 1) η (ltS2 η L) := ⟨hX.1.oN (by omega) (oN.st _ _ _ _), fun v a b c => by rw [gI_sI, if_neg (by omega)]; exact hX.2.1 v a b c, fun c a b => by rw [gI_sI, if_neg (by omega)]; exact hX.2.2 c a b⟩
    have hz := fxH_lt (gR w 3)
    have hz2 := fxP_z k2
    have e2 : gI (sI w 110 i 1) (fxH (gR (sI w 110 i 1) 3)) 2 = nI L := by rw [gR_sI, gI_sI, if_neg (by omega)]; exact h2
    have hP1 : PCl (sI w 110 i 1) (fxP k2) r h g := ⟨by rw [gI_sI, if_neg (by omega)]; exact hP.1, by rw [gI_sI, if_neg (by omega)]; exact hP.2.1, fun q => by rw [gI_sI, if_neg (by omega)]; exact hP.2.2 q⟩
    rw [e2, letters hη hX1.1 hL, bind_some']
    have hl8 : ltS2 η L ≤ 8 := Nat.min_le_right _ _
    have hlr : ltS2 η L ≤ sm (pB η) (pR η) := Nat.le_trans (Nat.min_le_left _ _) (Nat.min_le_right _ _)
    obtain ⟨w', t, a1, a2, a3, a4, a5, a6⟩ := row_40 (k2 := k2) (k4 := 74 + i) hη hg1 hg hr hh hfl hl8 hlr (by omega) hX1 hP1 hk2 (ltS2 η L) fu (Nat.le_refl _) (fu_gt (by omega))
    refine ⟨w', a1, ⟨t, a2, a3, a4⟩, ?_, fun j hj => ?_, fun q j h1 h2 h3 => ?_, a6⟩
    · rw [a5.1, gI_sI, if_pos ⟨rfl, rfl⟩]
    · rw [a5.1, gI_sI, if_neg (fun z => hj z.2)]
    · rw [a5.2 q j h1 h2 h3, gL_sI]
  · rw [hb, if_neg one_ne]
    exact ⟨w, rfl, hR, hb, fun _ _ => rfl, fun _ _ _ _ _ => rfl, hX.2.2⟩
end RW
