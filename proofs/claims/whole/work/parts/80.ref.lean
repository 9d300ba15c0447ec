/-! the reference's questions -/
section RF
variable {η : HP}
theorem dU_V {x : Nat} (c : Nat) (h : c < 5) : dU x c = dV x c := (dV_5 h).symm
theorem fullestOf9 {w : GW} {x : Nat} (hη : HPok η) (hB : gI w 133 0 = nI (pB η)) (hx : x < 354294) : ∃ w', f_X9_fullestOf (nI x) w = some (nI (flM (dV x) (pB η)), w') := by
  have j2 := hη.2.1
  have h8 : ∀ c, dV x c ≤ 8 := fun c => by unfold dV; split; exact dU_le x c; omega
  obtain ⟨w1, a1, a2⟩ := layApart_LK (w := w) hx
  have S := fr_X9_layApart _ _ a1
  have hB1 : gI w1 133 0 = nI (pB η) := by rw [S.I 133 0 rfl]; exact hB
  have hu : ∀ c, c < 5 → gI w1 137 c = nI (dV x c) := fun c hc => by rw [a2.1 c hc, dU_V c hc]
  have key : ∀ d i n, i + d = pB η → d < n → f_X9_fullestOf_9 n (nI (flM (dV x) i)) (nI i) w1 = some (nI (flM (dV x) (pB η)), w1) := by
    intro d
    induction d with
    | zero =>
      intro i n hi hn
      obtain ⟨n, rfl⟩ : ∃ m9, n = m9 + 1 := ⟨n - 1, by omega⟩
      have : i = pB η := by omega
      subst this
      rw [f_X9_fullestOf_9, if_pos (show inb _ _ from by decide), show ix (0 : Int32) = 0 from by decide, hB1, if_pos ((le_nI (by omega) (by omega)).mpr (by omega))]
    | succ d ih =>
      intro i n hi hn
      obtain ⟨n, rfl⟩ : ∃ m9, n = m9 + 1 := ⟨n - 1, by omega⟩
      have e := ih (i + 1) n (by omega) (by omega)
      have h1 := h8 i
      have h2 := flM_le h8 i
      rw [flM] at e
      rw [f_X9_fullestOf_9, if_pos (show inb _ _ from by decide), show ix (0 : Int32) = 0 from by decide, hB1, if_neg (fun q9 => absurd ((le_nI (by omega) (by omega)).mp q9) (by omega)), if_pos ((inb_nI (by omega)).mpr (by omega)), ix_nI (by omega), hu i (by omega)]
      by_cases q : dV x i ≤ flM (dV x) i
      · rw [if_pos ((le_nI (by omega) (by omega)).mpr (by omega)), f_X9_fullestOf_39, nI_1]
        rw [Nat.max_eq_left q] at e
        exact e
      · rw [if_neg (fun q9 => absurd ((le_nI (by omega) (by omega)).mp q9) (by omega)), if_pos ((inb_nI (by omega)).mpr (by omega)), f_X9_fullestOf_39, nI_1]
        rw [Nat.max_eq_right (by omega)] at e
        exact e
  refine ⟨w1, ?_⟩
  rw [f_X9_fullestOf, a1, bind_some', show (0 : Int32) = nI 0 from rfl]
  exact key (pB η) 0 fu (by omega) (fu_gt (by omega))
theorem emptyOf9 {w : GW} {x : Nat} (hη : HPok η) (hB : gI w 133 0 = nI (pB η)) (hx : x < 354294) : ∃ w', f_X9_emptyOf (nI x) w = some (nI (emM (dV x) (pB η)), w') := by
  have j2 := hη.2.1
  have h8 : ∀ c, dV x c ≤ 8 := fun c => by unfold dV; split; exact dU_le x c; omega
  obtain ⟨w1, a1, a2⟩ := layApart_LK (w := w) hx
  have S := fr_X9_layApart _ _ a1
  have hB1 : gI w1 133 0 = nI (pB η) := by rw [S.I 133 0 rfl]; exact hB
  have hu : ∀ c, c < 5 → gI w1 137 c = nI (dV x c) := fun c hc => by rw [a2.1 c hc, dU_V c hc]
  have key : ∀ d i n, i + d = pB η → d < n → f_X9_emptyOf_9 n (nI (emM (dV x) i)) (nI i) w1 = some (nI (emM (dV x) (pB η)), w1) := by
    intro d
    induction d with
    | zero =>
      intro i n hi hn
      obtain ⟨n, rfl⟩ : ∃ m9, n = m9 + 1 := ⟨n - 1, by omega⟩
      have : i = pB η := by omega
      subst this
      rw [f_X9_emptyOf_9, if_pos (show inb _ _ from by decide), show ix (0 : Int32) = 0 from by decide, hB1, if_pos ((le_nI (by omega) (by omega)).mpr (by omega))]
    | succ d ih =>
      intro i n hi hn
      obtain ⟨n, rfl⟩ : ∃ m9, n = m9 + 1 := ⟨n - 1, by omega⟩
      have e := ih (i + 1) n (by omega) (by omega)
      have h1 := h8 i
      unfold emM at e
      rw [sm_s] at e
      rw [f_X9_emptyOf_9, if_pos (show inb _ _ from by decide), show ix (0 : Int32) = 0 from by decide, hB1, if_neg (fun q9 => absurd ((le_nI (by omega) (by omega)).mp q9) (by omega)), if_pos ((inb_nI (by omega)).mpr (by omega)), ix_nI (by omega), hu i (by omega)]
      by_cases q : dV x i = 0
      · rw [if_pos ((eq0 (by omega)).mpr q), f_X9_emptyOf_34, show (1 : Int32) = nI 1 from rfl, nI_add, nI_add]
        rw [if_pos q] at e
        exact e
      · rw [if_neg (fun z => q ((eq0 (by omega)).mp z)), f_X9_emptyOf_34, show (0 : Int32) = nI 0 from rfl, nI_add, nI_1]
        rw [if_neg q] at e
        exact e
  refine ⟨w1, ?_⟩
  rw [f_X9_emptyOf, a1, bind_some', show (0 : Int32) = nI 0 from rfl]
  exact key (pB η) 0 fu (by omega) (fu_gt (by omega))
end RF
