/-! counting over a row -/
section CN
variable {η : HP} {r h g : Nat}
theorem WX.sl {w : GW} {most : Nat} (H : WX w η most) (k j : Nat) (v : Int64) : WX (sL w k j v) η most := H
/-- one layout of a row -/
theorem row_at (hη : HPok η) (hg1 : 1 ≤ g) {t l : Nat} {A : Nat → Nat} (hI : INV η r h g t A) (hl : l ≤ t) (h8 : l ≤ 8) (hrm : l ≤ sm (pB η) (pR η)) {c : Nat} (hc1 : fst (pB η) l ≤ c) (hc2 : c < fst (pB η) (l + 1)) (h0 : sm 6 (fun s => A (c * 6 + s)) ≠ 0) : ZB (pB η) (UR η c) ∧ rk (UR η c) (pB η) = c ∧ sm (pB η) (UR η c) = l := by
  obtain ⟨s, hs, hs1⟩ := sm_pos.mp (show 0 < sm 6 (fun s => A (c * 6 + s)) by omega)
  obtain ⟨x, hx, hxj⟩ := INV_u hη hg1 hI hl h8 (j := c * 6 + s) ⟨by omega, by omega⟩ (by omega)
  obtain ⟨a1, a2, a3, a4⟩ := RK_more hη hg1 l h8 hrm x hx
  have h5 := dK_le a1
  rw [cidx_V hη.2.1] at hxj
  have e1 : rk (dV x) (pB η) = c := by omega
  rw [UR_of a3 e1]
  exact ⟨a3, e1, a2⟩
theorem row_EL (hη : HPok η) (hg1 : 1 ≤ g) {t l : Nat} {A : Nat → Nat} (hI : INV η r h g t A) (hl : l ≤ t) (h8 : l ≤ 8) (hrm : l ≤ sm (pB η) (pR η)) (G : (Nat → Nat) → Nat) : PF η r g l * sm (fst (pB η) (l + 1) - fst (pB η) l) (fun e => sm 6 (fun s => A ((fst (pB η) l + e) * 6 + s)) * G (UR η (fst (pB η) l + e))) = EL η r h g l (fun x => G (dV x)) := by
  have e1 := hI.1 l hl (fun j => G (UR η (j / 6)))
  rw [SL_pairs hη h8] at e1
  have e2 : EL η r h g l (fun x => G (UR η (cidx (pB η) x / 6))) = EL η r h g l (fun x => G (dV x)) := by
    refine EL_c l _ _ (fun x hx => ?_)
    obtain ⟨a1, a2, a3, a4⟩ := RK_more hη hg1 l h8 hrm x hx
    have h5 := dK_le a1
    rw [cidx_V hη.2.1, show (rk (dV x) (pB η) * 6 + dK x) / 6 = rk (dV x) (pB η) by omega, UR_of a3 rfl]
  rw [← e2, ← e1]
  refine mul_c (sm_c (fun e he => ?_))
  rw [← sm_mulr]
  refine sm_c (fun s hs => ?_)
  rw [show ((fst (pB η) l + e) * 6 + s) / 6 = fst (pB η) l + e by omega]
theorem row_lt (hη : HPok η) (hg1 : 1 ≤ g) (hg : g ≤ 3) {t l : Nat} {A : Nat → Nat} (hI : INV η r h g t A) (hl : l ≤ t) (h8 : l ≤ 8) (hrm : l ≤ sm (pB η) (pR η)) (hTM : alS η r g l ≤ 1000000000000000) {c : Nat} (hc1 : fst (pB η) l ≤ c) (hc2 : c < fst (pB η) (l + 1)) : sm 6 (fun s => A (c * 6 + s)) ≤ 1000000000000000 := by
  have e := row_EL hη hg1 hI hl h8 hrm (fun _ => 1)
  have e1 : EL η r h g l (fun _ => 1) = alS η r g l := EL_1 hη hg1 hg l
  rw [show (fun x => (fun _ => 1) (dV x)) = fun _ => 1 from rfl, e1] at e
  have t1 := sm_term (n := fst (pB η) (l + 1) - fst (pB η) l) (k := c - fst (pB η) l) (by omega) (fun e => sm 6 (fun s => A ((fst (pB η) l + e) * 6 + s)) * 1)
  rw [show fst (pB η) l + (c - fst (pB η) l) = c by omega, Nat.mul_one] at t1
  have t2 := PF_pos (η := η) (r := r) hg1 l
  have t3 := Nat.le_mul_of_pos_left (sm (fst (pB η) (l + 1) - fst (pB η) l) (fun e => sm 6 (fun s => A ((fst (pB η) l + e) * 6 + s)) * 1)) t2
  omega
theorem count (hη : HPok η) (hg1 : 1 ≤ g) (hg : g ≤ 3) {most t k i asked x y : Nat} {w : GW} (hX : WX w η most) (hmost : most ≤ 8) (hi : i < 36) (hk : k < 1000) (hl : ltS2 η k ≤ most) (hlt : ltS2 η k ≤ t) (hR : RWok w (74 + i) η r h g 0 t) (hTM : alS η r g (ltS2 η k) ≤ 1000000000000000) (ha : asked ≤ 7) (hx : x < 1048576) (hy : y < 1048576) (hx6 : asked = 6 → x < 5) : ∃ w' up al, f_X0_count (74 + i) (nI k) (nI asked) (nI x) (nI y) w = some ((), w') ∧ gL w' 72 9 = lN up ∧ gL w' 72 10 = lN al ∧ PF η r g (ltS2 η k) * al = alS η r g (ltS2 η k) ∧ PF η r g (ltS2 η k) * up = EL η r h g (ltS2 η k) (fun z => wo η asked x y (dV z)) ∧ oL 72 w w' := by
  obtain ⟨A, hI, hA⟩ := hR
  have h8 : ltS2 η k ≤ 8 := Nat.min_le_right _ _
  have hrm : ltS2 η k ≤ sm (pB η) (pR η) := Nat.le_trans (Nat.min_le_left _ _) (Nat.min_le_right _ _)
  have hlet : f_X0_letters (nI k) (sL (sL w 72 9 0) 72 10 0) = some (nI (ltS2 η k), sL (sL w 72 9 0) 72 10 0) := letters hη hX.1 hk
  generalize ltS2 η k = l at *
  have hf := fst_le hη (n := l + 1) (by omega)
  have hf1 : fst (pB η) l ≤ fst (pB η) (l + 1) := FN_m1 _ _
  have key : ∀ d e n w al up, e + d = fst (pB η) (l + 1) - fst (pB η) l → d < n → WX w η most → (∀ c, c < 1287 → gL w (74 + i) c = lN (sm 6 (fun s => nrm 0 (A (c * 6 + s))))) → gL w 72 10 = lN al → gL w 72 9 = lN up → ∃ w', f_X0_count_25 n (74 + i) (nI asked) (nI x) (nI y) (nI l) (nI (fst (pB η) l + e)) w = some ((), w') ∧ gL w' 72 9 = lN (up + sm d (fun f => sm 6 (fun s => A ((fst (pB η) l + (e + f)) * 6 + s)) * wo η asked x y (UR η (fst (pB η) l + (e + f))))) ∧ gL w' 72 10 = lN (al + sm d (fun f => sm 6 (fun s => A ((fst (pB η) l + (e + f)) * 6 + s)))) ∧ oL 72 w w' := by
    intro d
    induction d with
    | zero =>
      intro e n w al up he hn hX hA hal hup
      obtain ⟨n, rfl⟩ : ∃ m9, n = m9 + 1 := ⟨n - 1, by omega⟩
      refine ⟨w, ?_, by rw [sm_0, Nat.add_zero]; exact hup, by rw [sm_0, Nat.add_zero]; exact hal, oL.rf⟩
      rw [f_X0_count_25, nI_1, first hη hX.1.1 (by omega), bind_some']
      dsimp only
      rw [if_pos ((le_nI (by omega) (by omega)).mpr (by omega))]
    | succ d ih =>
      intro e n w al up he hn hX hA hal hup
      obtain ⟨n, rfl⟩ : ∃ m9, n = m9 + 1 := ⟨n - 1, by omega⟩
      have hrow : gL w (74 + i) (fst (pB η) l + e) = lN (sm 6 (fun s => A ((fst (pB η) l + e) * 6 + s))) := hA _ (by omega)
      have hlt2 := row_lt hη hg1 hg hI hlt h8 hrm hTM (c := fst (pB η) l + e) (by omega) (by omega)
      rw [f_X0_count_25, nI_1, first hη hX.1.1 (by omega), bind_some']
      dsimp only
      rw [if_neg (fun q9 => absurd ((le_nI (by omega) (by omega)).mp q9) (by omega)), show (1287 : Nat) = 1287 from rfl, if_pos ((inb_nI (by omega)).mpr (by omega)), ix_nI (by omega), hrow]
      have hsh : ∀ G : Nat → Nat, sm (d + 1) (fun f => G (e + f)) = G e + sm d (fun f => G (e + 1 + f)) := fun G => by
        rw [sm_first' d]
        refine add_c rfl (sm_c (fun f _ => by rw [show e + (f + 1) = e + 1 + f by omega]))
      by_cases q : sm 6 (fun s => A ((fst (pB η) l + e) * 6 + s)) = 0
      · rw [if_pos ((lle0 (by omega)).mpr q), f_X0_count_91, nI_1, Nat.add_assoc]
        obtain ⟨w', b1, b2, b3, b4⟩ := ih (e + 1) n w al up (by omega) (by omega) hX hA hal hup
        refine ⟨w', b1, ?_, ?_, b4⟩
        · rw [b2, hsh (fun f => sm 6 (fun s => A ((fst (pB η) l + f) * 6 + s)) * wo η asked x y (UR η (fst (pB η) l + f))), q, Nat.zero_mul, Nat.zero_add]
        · rw [b3, hsh (fun f => sm 6 (fun s => A ((fst (pB η) l + f) * 6 + s))), q, Nat.zero_add]
      · obtain ⟨z1, z2, z3⟩ := row_at hη hg1 hI hlt h8 hrm (c := fst (pB η) l + e) (by omega) (by omega) q
        have u8 : ∀ c, UR η (fst (pB η) l + e) c ≤ 8 := fun c => by have := ZB_le z1 c; omega
        have hlie : gI w 112 (fst (pB η) l + e) = nI (pkS (UR η (fst (pB η) l + e))) := by
          have := hX.2.1 _ z1 (by omega) trivial
          rw [z2] at this
          exact this
        have hwo := wo_lt (u := UR η (fst (pB η) l + e)) hη (asked := asked) (y := y) hx u8
        rw [if_neg (fun z => q ((lle0 (by omega)).mp z)), if_pos ((inb_nI (by omega)).mpr (by omega)), if_pos ((inb_nI (by omega)).mpr (by omega)), if_pos ((inb_nI (by omega)).mpr (by omega)), gI_sL, hlie, worth hη (show HX (sL w 72 10 _) η from hX.1) u8 ha hx hy hx6, bind_some']
        dsimp only
        rw [f_X0_count_91, gL_sL, gL_sL, if_neg (by omega), if_neg (by omega), hrow, hal, hup, nI_l (by omega), lN_add, lN_mul, lN_add, nI_1, Nat.add_assoc]
        obtain ⟨w', b1, b2, b3, b4⟩ := ih (e + 1) n (sL (sL w 72 10 (lN (al + sm 6 (fun s => A ((fst (pB η) l + e) * 6 + s))))) 72 9 (lN (up + sm 6 (fun s => A ((fst (pB η) l + e) * 6 + s)) * wo η asked x y (UR η (fst (pB η) l + e))))) _ _ (by omega) (by omega) hX (fun c hc => by rw [gL_sL, gL_sL, if_neg (by omega), if_neg (by omega)]; exact hA c hc) (by rw [gL_sL, gL_sL, if_neg (by omega), if_pos ⟨rfl, rfl⟩]) (by rw [gL_sL, if_pos ⟨rfl, rfl⟩])
        refine ⟨w', b1, ?_, ?_, ((oL.st _ _ _ _).tr (oL.st _ _ _ _)).tr b4⟩
        · rw [b2, hsh (fun f => sm 6 (fun s => A ((fst (pB η) l + f) * 6 + s)) * wo η asked x y (UR η (fst (pB η) l + f))), Nat.add_assoc]
        · rw [b3, hsh (fun f => sm 6 (fun s => A ((fst (pB η) l + f) * 6 + s))), Nat.add_assoc]
  obtain ⟨w', b1, b2, b3, b4⟩ := key (fst (pB η) (l + 1) - fst (pB η) l) 0 fu (sL (sL w 72 9 0) 72 10 0) 0 0 (by omega) (fu_gt (by omega)) hX (fun c hc => by rw [gL_sL, gL_sL, if_neg (by omega), if_neg (by omega)]; exact hA c hc) (by rw [gL_sL, if_pos ⟨rfl, rfl⟩]; rfl) (by rw [gL_sL, gL_sL, if_neg (by omega), if_pos ⟨rfl, rfl⟩]; rfl)
  refine ⟨w', _, _, ?_, b2, b3, ?_, ?_, ((oL.st _ _ _ _).tr (oL.st _ _ _ _)).tr b4⟩
  · rw [f_X0_count, hlet, bind_some']
    dsimp only
    rw [first hη (show HX (sL (sL w 72 9 0) 72 10 0) η from hX.1).1 (by omega), bind_some']
    exact b1
  · rw [Nat.zero_add, ← EL_1 hη hg1 hg (h := h) l]
    have e := row_EL hη hg1 hI hlt h8 hrm (fun _ => 1)
    refine Eq.trans (mul_c (sm_c (fun f _ => ?_))) e
    rw [Nat.zero_add, Nat.mul_one]
  · rw [Nat.zero_add]
    have e := row_EL hη hg1 hI hlt h8 hrm (wo η asked x y)
    refine Eq.trans (mul_c (sm_c (fun f _ => ?_))) e
    rw [Nat.zero_add]
end CN
