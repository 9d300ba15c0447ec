/-! a row of chances -/
theorem add_c {a b c d : Nat} (h : a = b) (h2 : c = d) : a + c = b + d := by rw [h, h2]
/-- no other row is written, and none is marked built -/
def KR (k4 : Nat) (w w' : GW) : Prop := (∀ j, gI w' 110 j = gI w 110 j) ∧ ∀ q j, 74 ≤ q → q < 110 → q ≠ k4 → gL w' q j = gL w q j
/-- beyond the boxes nothing is held -/
def HZ (η : HP) (w : GW) : Prop := ∀ c, pB η ≤ c → c < 5 → gI w 113 c = 0
theorem KR.rf {k4 : Nat} {w : GW} : KR k4 w w := ⟨fun _ => rfl, fun _ _ _ _ _ => rfl⟩
theorem KR.tr {k4 : Nat} {a b c : GW} (h : KR k4 a b) (h2 : KR k4 b c) : KR k4 a c := ⟨fun j => (h2.1 j).trans (h.1 j), fun q j x y z => (h2.2 q j x y z).trans (h.2 q j x y z)⟩
theorem KR.sm {k4 : Nat} {L : List (Nat × Nat × Nat)} {R : List Nat} {w w' : GW} (S : Sm L R w w') (h : ∀ q j, 74 ≤ q → q ≤ 110 → md L q j = false) : KR k4 w w' := ⟨fun j => S.I 110 j (h _ _ (by omega) (by omega)), fun q j x y z => S.L q j (h q j x (by omega))⟩
theorem KR.st {k4 q : Nat} {w : GW} {j : Nat} {v : Int64} (h : q = k4 ∨ 110 < q) : KR k4 w (sL w q j v) := ⟨fun _ => rfl, fun p i x y z => by rw [gL_sL, if_neg (by omega)]⟩
section RO
variable {η : HP} {r h g fl : Nat}
theorem alS_m (hη : HPok η) (hg1 : 1 ≤ g) (hg : g ≤ 3) {a b : Nat} (hab : a ≤ b) : alS η r g a ≤ alS η r g b := by
  obtain ⟨d, rfl⟩ : ∃ d, b = a + d := ⟨b - a, by omega⟩
  clear hab
  induction d with
  | zero => exact Nat.le_refl _
  | succ d ih =>
    refine Nat.le_trans ih ?_
    rw [← Nat.add_assoc, alS]
    have := (WY_le (r := r) hη hg1 hg).1
    split
    · omega
    · exact Nat.le_mul_of_pos_right _ (by omega)
theorem SL_pairs (hη : HPok η) {n : Nat} (hn : n ≤ 8) (A G : Nat → Nat) : SL η n A G = sm (fst (pB η) (n + 1) - fst (pB η) n) (fun e => sm 6 (fun s => A ((fst (pB η) n + e) * 6 + s) * G ((fst (pB η) n + e) * 6 + s))) := by
  have h1 := fst_le hη (n := n + 1) (by omega)
  have h2 : fst (pB η) n ≤ fst (pB η) (n + 1) := FN_m1 _ _
  unfold SL
  rw [show 7722 = 1287 * 6 from rfl, sm_pair, show 1287 = fst (pB η) n + ((fst (pB η) (n + 1) - fst (pB η) n) + (1287 - fst (pB η) (n + 1))) by omega, sm_app, sm_app, sm_z (n := fst (pB η) n) (fun i hi => sm_z (fun s hs => if_neg (fun q => by have := q.1; omega))), Nat.zero_add, sm_z (n := 1287 - fst (pB η) (n + 1)) (fun i hi => sm_z (fun s hs => if_neg (fun q => by have := q.2; omega))), Nat.add_zero]
  exact sm_c (fun e he => sm_c (fun s hs => if_pos ⟨by omega, by omega⟩))
theorem INV_lt (hη : HPok η) (hg1 : 1 ≤ g) (hg : g ≤ 3) {n l j : Nat} {A : Nat → Nat} (H : INV η r h g n A) (hl : l ≤ n) (h8 : l ≤ 8) (hj : lv η l j) : A j ≤ alS η r g l := by
  have e := INV_at hη hg1 H hl h8 hj
  have e2 : EL η r h g l (fun x => if cidx (pB η) x = j then 1 else 0) ≤ EL η r h g l (fun _ => 1) := EL_le (fun x _ => by split <;> omega)
  rw [EL_1 hη hg1 hg, ← e] at e2
  refine Nat.le_trans ?_ e2
  exact Nat.le_mul_of_pos_left _ (PF_pos hg1 l)
theorem row_144 (hη : HPok η) (hg1 : 1 ≤ g) (hg : g ≤ 3) (hr : r ≤ 4) (hh : h ≤ 8) (hfl : fl = 0 ∨ fl = 1) {most top n : Nat} {A0 : Nat → Nat} {k4 : Nat} {x6 : Int32} {k : Int32 → Nat → Int32 → Int32 → Int32 → GW → Option (Nat × GW)} (htop : top ≤ most) (hmost : most ≤ 8) (hrm : most ≤ sm (pB η) (pR η)) (hn : n < top) (hTM : fl = 0 → alS η r g top ≤ 1000000000000000) (H : INV η r h g n A0) : ∀ d i m w A, i + d = fst (pB η) (n + 1) → fst (pB η) n ≤ i → d < m → DX w η r h g most → WT w A fl (fst (pB η) (top + 1) * 6) → (∀ j, j < fst (pB η) (n + 1) * 6 → A j = A0 j) → ∃ A' w', f_X0_rowOf_144 k m (nI fl) k4 (nI top) x6 (nI (n + 1)) (nI i) w = k (nI fl) k4 (nI top) x6 (nI (n + 2)) w' ∧ DX w' η r h g most ∧ WT w' A' fl (fst (pB η) (top + 1) * 6) ∧ (∀ F, sm 7722 (fun j => A' j * F j) = sm 7722 (fun j => A j * F j) + sm d (fun e => sm 6 (fun s => A0 ((i + e) * 6 + s) * W1 η (UR η (i + e)) r h g (n + 1) s F))) ∧ (∀ j, j < fst (pB η) (n + 1) * 6 → A' j = A0 j) ∧ KR k4 w w' := by
  have hf1 := fst_le hη (n := n + 1) (by omega)
  have hf2 := fst_le hη (n := top + 1) (by omega)
  have hf3 : fst (pB η) (n + 1) ≤ fst (pB η) (top + 1) := FN_m _ (by omega)
  have j1 := hη.1
  intro d
  induction d with
  | zero =>
    intro i m w A hi hi0 hm hD hW hA
    obtain ⟨m, rfl⟩ : ∃ m9, m = m9 + 1 := ⟨m - 1, by omega⟩
    refine ⟨A, w, ?_, hD, hW, fun F => by rw [sm_0, Nat.add_zero], hA, KR.rf⟩
    rw [f_X0_rowOf_144, first hη hD.1.1 (by omega), bind_some']
    dsimp only
    rw [if_pos ((le_nI (by omega) (by omega)).mpr (by omega)), nI_1]
  | succ d ih =>
    intro i m w A hi hi0 hm hD hW hA
    obtain ⟨m, rfl⟩ : ∃ m9, m = m9 + 1 := ⟨m - 1, by omega⟩
    have hlow : ∀ s, s < 6 → A (i * 6 + s) = A0 (i * 6 + s) := fun s hs => hA _ (by omega)
    have hu : (∃ s, s < 6 ∧ A (i * 6 + s) ≠ 0) → ZB (pB η) (UR η i) ∧ rk (UR η i) (pB η) = i ∧ sm (pB η) (UR η i) = n := by
      rintro ⟨s, hs, h0⟩
      rw [hlow s hs] at h0
      obtain ⟨x, hx, hxj⟩ := INV_u hη hg1 H (Nat.le_refl _) (by omega) ⟨by omega, by omega⟩ h0
      obtain ⟨a1, a2, a3, a4⟩ := RK_more hη hg1 n (by omega) (by omega) x hx
      have h5 := dK_le a1
      rw [cidx_V hη.2.1] at hxj
      have e1 : rk (dV x) (pB η) = i := by omega
      rw [UR_of a3 e1]
      exact ⟨a3, e1, a2⟩
    obtain ⟨A1, w1, a1, a2, a3, a4, a5⟩ := goOn (n := n + 1) (i := i) (u := UR η i) hη hg1 hg hr hh hfl (by omega) hD hW (by omega) (by omega) (fun f0 s hs => by
      rw [hlow s hs]
      have e1 := INV_lt hη hg1 hg H (Nat.le_refl _) (by omega) (j := i * 6 + s) ⟨by omega, by omega⟩
      have e2 := alS_m (r := r) hη hg1 hg (show n ≤ top by omega)
      have e3 := hTM f0
      omega) (fun hne => by
      obtain ⟨b1, b2, b3⟩ := hu hne
      refine ⟨b1, b2, by omega, by omega, ?_⟩
      rw [b3]
      exact Nat.mul_le_mul (FN_m _ (by omega)) (Nat.le_refl _))
    obtain ⟨A', w', b1, b2, b3, b4, b5, b6⟩ := ih (i + 1) m w1 A1 (by omega) (by omega) (by omega) a2 a3 (fun j hj => by
      rw [a5 j (fun hne => by rw [(hu hne).2.2]; exact hj)]
      exact hA j hj)
    have S := fr_X0_goOn _ _ _ _ a1
    refine ⟨A', w', ?_, b2, b3, fun F => ?_, b5, (KR.sm S (fun q j h1 h2 => by simp [md, L_X0_goOn]; omega)).tr b6⟩
    · rw [f_X0_rowOf_144, first hη hD.1.1 (by omega), bind_some']
      dsimp only
      rw [if_neg (fun q9 => absurd ((le_nI (by omega) (by omega)).mp q9) (by omega)), a1, bind_some', nI_1]
      exact b1
    · rw [b4, a4, sm_first' d, Nat.add_assoc]
      refine add_c rfl (add_c ?_ ?_)
      · exact sm_c (fun s hs => by rw [hlow s hs]; rfl)
      · exact sm_c (fun e _ => by rw [show i + 1 + e = i + (e + 1) by omega])
theorem row_127 (hη : HPok η) (hg1 : 1 ≤ g) (hg : g ≤ 3) (hr : r ≤ 4) (hh : h ≤ 8) (hfl : fl = 0 ∨ fl = 1) {most top : Nat} {k4 : Nat} {x6 : Int32} (htop : top ≤ most) (hmost : most ≤ 8) (hrm : most ≤ sm (pB η) (pR η)) (hTM : fl = 0 → alS η r g top ≤ 1000000000000000) : ∀ d n m w A, n + d = top → d < m → DX w η r h g most → WT w A fl (fst (pB η) (top + 1) * 6) → INV η r h g n A → ∃ A' w', f_X0_rowOf_127 m (nI fl) k4 (nI top) x6 (nI (n + 1)) w = f_X0_rowOf_179 fu k4 x6 0 w' ∧ DX w' η r h g most ∧ WT w' A' fl (fst (pB η) (top + 1) * 6) ∧ INV η r h g top A' ∧ KR k4 w w' := by
  intro d
  induction d with
  | zero =>
    intro n m w A hn hm hD hW hI
    obtain ⟨m, rfl⟩ : ∃ m9, m = m9 + 1 := ⟨m - 1, by omega⟩
    have : n = top := by omega
    subst this
    refine ⟨A, w, ?_, hD, hW, hI, KR.rf⟩
    rw [f_X0_rowOf_127, if_pos ((lt_nI (by omega) (by omega)).mpr (by omega))]
  | succ d ih =>
    intro n m w A hn hm hD hW hI
    obtain ⟨m, rfl⟩ : ∃ m9, m = m9 + 1 := ⟨m - 1, by omega⟩
    have hf1 := fst_le hη (n := n + 1) (by omega)
    have hf2 : fst (pB η) n ≤ fst (pB η) (n + 1) := FN_m1 _ _
    obtain ⟨A1, w1, a1, a2, a3, a4, a5, a6⟩ := row_144 (k := f_X0_rowOf_127 m) (k4 := k4) (x6 := x6) hη hg1 hg hr hh hfl htop hmost hrm (show n < top by omega) hTM hI (fst (pB η) (n + 1) - fst (pB η) n) (fst (pB η) n) fu w A (by omega) (Nat.le_refl _) (fu_gt (by omega)) hD hW (fun _ _ => rfl)
    have hI1 : INV η r h g (n + 1) A1 := INV_s hη hg1 hg hr (by omega) (by omega) hI a5 (fun F => by
      rw [a4 F, SL_pairs hη (by omega)]
      refine add_c rfl ?_
      refine sm_c (fun e he => sm_c (fun s hs => ?_))
      rw [show ((fst (pB η) n + e) * 6 + s) / 6 = fst (pB η) n + e by omega, show ((fst (pB η) n + e) * 6 + s) % 6 = s by omega])
    obtain ⟨A', w', b1, b2, b3, b4, b5⟩ := ih (n + 1) m w1 A1 (by omega) (by omega) a2 a3 hI1
    refine ⟨A', w', ?_, b2, b3, b4, a6.tr b5⟩
    rw [f_X0_rowOf_127, if_neg (fun q9 => absurd ((lt_nI (by omega) (by omega)).mp q9) (by omega)), show (1 : Int32) = nI 1 from rfl, pk_sub (by omega), show n + 1 - 1 = n from rfl, first hη hD.1.1 (by omega), bind_some']
    dsimp only
    rw [a1]
    exact b1
theorem row_179 {w : GW} {M top k4 : Nat} {A : Nat → Nat} (hM : M = fst (pB η) (top + 1) * 6) (hM7 : M ≤ 7722) (hk : k4 ≠ 111) (hz : ∀ j, j < 7722 → M ≤ j → A j = 0) : ∀ d i m w, i + d = 1287 → d < m → WT w A fl M → (∀ c, c < i → gL w k4 c = lN (sm 6 (fun s => nrm fl (A (c * 6 + s))))) → ∃ w', f_X0_rowOf_179 m k4 (nI (fst (pB η) (top + 1))) (nI i) w = some (k4, w') ∧ (∀ c, c < 1287 → gL w' k4 c = lN (sm 6 (fun s => nrm fl (A (c * 6 + s))))) ∧ oL k4 w w' := by
  intro d
  induction d with
  | zero =>
    intro i m w hi hm hW h0
    obtain ⟨m, rfl⟩ : ∃ m9, m = m9 + 1 := ⟨m - 1, by omega⟩
    have : i = 1287 := by omega
    subst this
    refine ⟨w, ?_, h0, oL.rf⟩
    rw [f_X0_rowOf_179, show (1287 : Int32) = nI 1287 from rfl, if_pos ((le_nI (by omega) (by omega)).mpr (by omega))]
  | succ d ih =>
    intro i m w hi hm hW h0
    obtain ⟨m, rfl⟩ : ∃ m9, m = m9 + 1 := ⟨m - 1, by omega⟩
    have key : ∀ v : Int64, v = lN (sm 6 (fun s => nrm fl (A (i * 6 + s)))) → ∃ w', f_X0_rowOf_208 (f_X0_rowOf_179 m) k4 (nI (fst (pB η) (top + 1))) (nI i) v (nI i) k4 w = some (k4, w') ∧ (∀ c, c < 1287 → gL w' k4 c = lN (sm 6 (fun s => nrm fl (A (c * 6 + s))))) ∧ oL k4 w w' := by
      intro v hv
      rw [f_X0_rowOf_208, show (1287 : Nat) = 1287 from rfl, if_pos ((inb_nI (by omega)).mpr (by omega)), ix_nI (by omega), nI_1]
      obtain ⟨w', e1, e2, e3⟩ := ih (i + 1) m (sL w k4 i v) (by omega) (by omega) (fun j hj => by rw [gL_sL, if_neg (fun q => hk q.1.symm)]; exact hW j hj) (fun c hc => by
        rw [gL_sL]
        by_cases q : c = i
        · rw [if_pos ⟨rfl, q⟩, hv, q]
        · rw [if_neg (fun z => q z.2)]; exact h0 c (by omega))
      exact ⟨w', e1, e2, (oL.st _ _ _ _).tr e3⟩
    rw [f_X0_rowOf_179, show (1287 : Int32) = nI 1287 from rfl, if_neg (fun q9 => absurd ((le_nI (by omega) (by omega)).mp q9) (by omega))]
    by_cases q : fst (pB η) (top + 1) ≤ i
    · rw [if_pos ((le_nI (by omega) (by omega)).mpr (by omega))]
      refine key 0 ?_
      rw [sm_z (fun s hs => by rw [hz _ (by omega) (by omega), nrm_0])]
      rfl
    · rw [if_neg (fun q9 => absurd ((le_nI (by omega) (by omega)).mp q9) (by omega)), sumOf hM7 hW (by omega), bind_some']
      exact key _ rfl
end RO
