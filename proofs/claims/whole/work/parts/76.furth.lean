section FU
variable {η : HP} {r h g : Nat}
/-- v is no better than c: greater for the greatest, less for the least -/
def btr (ls v c : Nat) : Prop := if ls = 0 then v ≤ c else c ≤ v
theorem btr_rf (ls v : Nat) : btr ls v v := by unfold btr; split <;> omega
theorem btr_tr {ls a b c : Nat} (h1 : btr ls a b) (h2 : btr ls b c) : btr ls a c := by
  unfold btr at *
  split at h1
  · next q => rw [if_pos q] at h2 ⊢; omega
  · next q => rw [if_neg q] at h2 ⊢; omega
/-- the furthest so far -/
def FP (η : HP) (r h g l ls N : Nat) (cur : Option Nat) : Prop := (∀ x, RK η r h g l x → rk (dV x) (pB η) < N → ∃ v, cur = some v ∧ btr ls (flM (dV x) (pB η)) v) ∧ ∀ v, cur = some v → v ≤ 8 ∧ ∃ x, RK η r h g l x ∧ flM (dV x) (pB η) = v
theorem furthest (hη : HPok η) (hg1 : 1 ≤ g) (hg : g ≤ 3) {fl most t k k4 ls : Nat} {w : GW} (hfl : fl = 0 ∨ fl = 1) (hls : ls = 0 ∨ ls = 1) (hX : WX w η most) (hk : k < 1000) (hl : ltS2 η k ≤ most) (hlt : ltS2 η k ≤ t) (hR : RWok w k4 η r h g fl t) (hTM : fl = 0 → alS η r g (ltS2 η k) ≤ 1000000000000000) : ∃ v, f_X0_furthest k4 (nI k) (nI ls) w = some (nI v, w) ∧ v ≤ 8 ∧ (∃ x, RK η r h g (ltS2 η k) x ∧ flM (dV x) (pB η) = v) ∧ ∀ x, RK η r h g (ltS2 η k) x → btr ls (flM (dV x) (pB η)) v := by
  obtain ⟨A, hI, hA⟩ := hR
  have h8 : ltS2 η k ≤ 8 := Nat.min_le_right _ _
  have hrm : ltS2 η k ≤ sm (pB η) (pR η) := Nat.le_trans (Nat.min_le_left _ _) (Nat.min_le_right _ _)
  have hlet : f_X0_letters (nI k) w = some (nI (ltS2 η k), w) := letters hη hX.1 hk
  generalize ltS2 η k = l at *
  have hf := fst_le hη (n := l + 1) (by omega)
  have hf1 : fst (pB η) l ≤ fst (pB η) (l + 1) := FN_m1 _ _
  have j1 := hη.1
  have key : ∀ d e n cur, e + d = fst (pB η) (l + 1) - fst (pB η) l → d < n → FP η r h g l ls (fst (pB η) l + e) cur → ∃ cur', f_X0_furthest_18 n k4 (nI ls) (oI cur) (nI l) (nI (fst (pB η) l + e)) w = some (oI cur', w) ∧ FP η r h g l ls (fst (pB η) (l + 1)) cur' := by
    intro d
    induction d with
    | zero =>
      intro e n cur he hn hF
      obtain ⟨n, rfl⟩ : ∃ m9, n = m9 + 1 := ⟨n - 1, by omega⟩
      have e1 : fst (pB η) l + e = fst (pB η) (l + 1) := by omega
      refine ⟨cur, ?_, by rw [← e1]; exact hF⟩
      rw [f_X0_furthest_18, nI_1, first hη hX.1.1 (by omega), bind_some']
      dsimp only
      rw [if_pos ((le_nI (by omega) (by omega)).mpr (by omega))]
    | succ d ih =>
      intro e n cur he hn hF
      obtain ⟨n, rfl⟩ : ∃ m9, n = m9 + 1 := ⟨n - 1, by omega⟩
      have hsml := row_sml hη hg1 hg hfl hI hlt h8 hrm hTM (c := fst (pB η) l + e) (by omega) (by omega)
      have hm := row_MB hη hg1 hg hI hlt h8 hrm (c := fst (pB η) l + e) (by omega) (by omega)
      rw [f_X0_furthest_18, nI_1, first hη hX.1.1 (by omega), bind_some']
      dsimp only
      rw [if_neg (fun q9 => absurd ((le_nI (by omega) (by omega)).mp q9) (by omega)), show (1287 : Nat) = 1287 from rfl, if_pos ((inb_nI (by omega)).mpr (by omega)), ix_nI (by omega), show gL w k4 (fst (pB η) l + e) = lN (sm 6 (fun s => nrm fl (A ((fst (pB η) l + e) * 6 + s)))) from hA _ (by omega)]
      by_cases q : sm 6 (fun s => nrm fl (A ((fst (pB η) l + e) * 6 + s))) = 0
      · have hno : ¬ MB η r h g l (fst (pB η) l + e) := fun z => hm.mpr z (nrm_sum.mp q)
        rw [if_pos ((lle0 (by omega)).mpr q), f_X0_furthest_83, nI_1, Nat.add_assoc (fst (pB η) l)]
        refine ih (e + 1) n cur (by omega) (by omega) ⟨fun x hx hxl => hF.1 x hx ?_, hF.2⟩
        have : rk (dV x) (pB η) ≠ fst (pB η) l + e := fun z => hno ⟨x, hx, z⟩
        omega
      · obtain ⟨x0, hx0, hxc⟩ := hm.mp (fun z => q (nrm_sum.mpr z))
        obtain ⟨a1, a2, a3, a4⟩ := RK_more hη hg1 l h8 hrm x0 hx0
        have u8 : ∀ c, dV x0 c ≤ 8 := fun c => by have := ZB_le a3 c; omega
        have hlie : gI w 112 (fst (pB η) l + e) = nI (pkS (dV x0)) := by
          have := hX.2.1 _ a3 (by omega) trivial
          rw [hxc] at this
          exact this
        have hv8 := flM_le u8 (pB η)
        have huniq : ∀ x, RK η r h g l x → rk (dV x) (pB η) = fst (pB η) l + e → dV x = dV x0 := by
          intro x hx hxr
          obtain ⟨b1, b2, b3, b4⟩ := RK_more hη hg1 l h8 hrm x hx
          exact ZB_c b3 a3 (rk_inj (pB η) (hxr.trans hxc.symm))
        rw [if_neg (fun z => q ((lle0 (by omega)).mp z)), if_pos ((inb_nI (by omega)).mpr (by omega)), hlie, fullestOf hη hX.1 u8, bind_some']
        dsimp only
        have set : btr ls (flM (dV x0) (pB η)) (flM (dV x0) (pB η)) → (∀ v, cur = some v → btr ls v (flM (dV x0) (pB η))) → ∃ cur', f_X0_furthest_79 (f_X0_furthest_18 n) k4 (nI ls) (nI l) (nI (fst (pB η) l + e)) (nI (flM (dV x0) (pB η))) w = some (oI cur', w) ∧ FP η r h g l ls (fst (pB η) (l + 1)) cur' := by
          intro _ hb
          rw [f_X0_furthest_79, f_X0_furthest_83, nI_1, Nat.add_assoc (fst (pB η) l)]
          refine ih (e + 1) n (some (flM (dV x0) (pB η))) (by omega) (by omega) ⟨fun x hx hxl => ?_, fun v hv => by cases hv; exact ⟨hv8, x0, hx0, rfl⟩⟩
          by_cases z : rk (dV x) (pB η) = fst (pB η) l + e
          · rw [huniq x hx z]
            exact ⟨_, rfl, btr_rf _ _⟩
          · obtain ⟨v, hv, hvb⟩ := hF.1 x hx (by omega)
            exact ⟨_, rfl, btr_tr hvb (hb v hv)⟩
        have keep : ∀ v, cur = some v → btr ls (flM (dV x0) (pB η)) v → ∃ cur', f_X0_furthest_83 (f_X0_furthest_18 n) k4 (nI ls) (oI cur) (nI l) (nI (fst (pB η) l + e)) w = some (oI cur', w) ∧ FP η r h g l ls (fst (pB η) (l + 1)) cur' := by
          intro v hv hb
          rw [f_X0_furthest_83, nI_1, Nat.add_assoc (fst (pB η) l)]
          refine ih (e + 1) n cur (by omega) (by omega) ⟨fun x hx hxl => ?_, hF.2⟩
          by_cases z : rk (dV x) (pB η) = fst (pB η) l + e
          · rw [huniq x hx z]
            exact ⟨v, hv, hb⟩
          · exact hF.1 x hx (by omega)
        cases cur with
        | none =>
          rw [if_pos (show oI none < 0 from by decide)]
          exact set (btr_rf _ _) (fun v hv => by cases hv)
        | some v =>
          have hv := (hF.2 v rfl).1
          rw [if_neg (show ¬ oI (some v) < 0 from lt0_nI (by omega))]
          rcases hls with rfl | rfl
          · rw [if_pos (show nI 0 = 0 from rfl)]
            by_cases z : flM (dV x0) (pB η) ≤ v
            · rw [if_pos (show nI (flM (dV x0) (pB η)) ≤ oI (some v) from (le_nI (by omega) (by omega)).mpr z)]
              exact keep v rfl z
            · rw [if_neg (show ¬ nI (flM (dV x0) (pB η)) ≤ oI (some v) from fun y => z ((le_nI (by omega) (by omega)).mp y))]
              exact set (btr_rf _ _) (fun v' hv' => by cases hv'; show v ≤ _; omega)
          · rw [if_neg (show ¬ nI 1 = 0 from one_ne)]
            by_cases z : v ≤ flM (dV x0) (pB η)
            · rw [if_pos (show oI (some v) ≤ nI (flM (dV x0) (pB η)) from (le_nI (by omega) (by omega)).mpr z)]
              exact keep v rfl z
            · rw [if_neg (show ¬ oI (some v) ≤ nI (flM (dV x0) (pB η)) from fun y => z ((le_nI (by omega) (by omega)).mp y))]
              exact set (btr_rf _ _) (fun v' hv' => by cases hv'; show _ ≤ v; omega)
  have hlow : ∀ x, RK η r h g l x → fst (pB η) l ≤ rk (dV x) (pB η) ∧ rk (dV x) (pB η) < fst (pB η) (l + 1) := by
    intro x hx
    obtain ⟨b1, b2, b3, b4⟩ := RK_more hη hg1 l h8 hrm x hx
    exact (rk_lvl j1).mpr b2
  obtain ⟨cur, k1, k2⟩ := key (fst (pB η) (l + 1) - fst (pB η) l) 0 fu none (by omega) (fu_gt (by omega)) ⟨fun x hx hxl => by have := (hlow x hx).1; omega, fun v hv => by cases hv⟩
  obtain ⟨x1, hx1⟩ := RK_one (r := r) (h := h) hη hg1 hg l
  obtain ⟨v, hv, -⟩ := k2.1 x1 hx1 (hlow x1 hx1).2
  subst hv
  obtain ⟨v8, vx⟩ := k2.2 v rfl
  refine ⟨v, ?_, v8, vx, fun x hx => ?_⟩
  · rw [f_X0_furthest, hlet, bind_some']
    dsimp only
    rw [first hη hX.1.1 (by omega), bind_some']
    exact k1
  · obtain ⟨v2, e2, e3⟩ := k2.1 x hx (hlow x hx).2
    cases e2
    exact e3
end FU
