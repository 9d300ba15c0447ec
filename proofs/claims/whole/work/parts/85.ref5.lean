section RF5
variable {η : HP} {N : Nat} {key way : Nat → Nat}
/-- what the reference measures: like the class, but for what is returned -/
def wo9 (η : HP) (k what : Nat) (u : Nat → Nat) : Nat := if what = 0 then flM u (pB η) else if what = 1 then emM u (pB η) else if what = 2 then k - sm (pB η) u else sqM u (pB η)
theorem measured9 {w : GW} {x k what : Nat} (hη : HPok η) (hB : gI w 133 0 = nI (pB η)) (hx : x < 354294) (hw : what ≤ 3) (hk : k < 1000) (hs : what = 2 → sm (pB η) (dV x) ≤ k) : ∃ w', f_X9_measured (nI x) (nI k) (nI what) w = some (nI (wo9 η k what (dV x)), w') := by
  have j2 := hη.2.1
  have h8 : ∀ c, dV x c ≤ 8 := fun c => by unfold dV; split; exact dU_le x c; omega
  rw [f_X9_measured]
  unfold wo9
  by_cases q0 : what = 0
  · rw [if_pos ((eq0 (by omega)).mpr q0), if_pos q0]
    obtain ⟨w', e⟩ := fullestOf9 (w := w) hη hB hx
    exact ⟨w', by rw [e]; rfl⟩
  rw [if_neg (fun z => q0 ((eq0 (by omega)).mp z)), if_neg q0]
  by_cases q1 : what = 1
  · rw [if_pos ((eq1 (by omega)).mpr q1), if_pos q1]
    obtain ⟨w', e⟩ := emptyOf9 (w := w) hη hB hx
    exact ⟨w', by rw [e]; rfl⟩
  rw [if_neg (fun z => q1 ((eq1 (by omega)).mp z)), if_neg q1]
  obtain ⟨w1, a1, a2⟩ := layApart_LK (w := w) hx
  have S := fr_X9_layApart _ _ a1
  have hB1 : gI w1 133 0 = nI (pB η) := by rw [S.I 133 0 rfl]; exact hB
  have hu : ∀ c, c < 5 → gI w1 137 c = nI (dV x c) := fun c hc => by rw [a2.1 c hc, dU_V c hc]
  refine ⟨w1, ?_⟩
  rw [a1, bind_some', show (0 : Int32) = nI 0 from rfl]
  by_cases q2 : what = 2
  · rw [if_pos q2]
    have key : ∀ d i n, i + d = pB η → d < n → f_X9_measured_32 n (nI k) (nI what) (nI (sm i (dV x))) (nI i) w1 = some (nI (k - sm (pB η) (dV x)), w1) := by
      intro d
      induction d with
      | zero =>
        intro i n hi hn
        obtain ⟨n, rfl⟩ : ∃ m9, n = m9 + 1 := ⟨n - 1, by omega⟩
        have : i = pB η := by omega
        subst this
        rw [f_X9_measured_32, if_pos (show inb _ _ from by decide), show ix (0 : Int32) = 0 from by decide, hB1, if_pos ((le_nI (by omega) (by omega)).mpr (by omega)), if_pos ((eq2 (by omega)).mpr q2), pk_sub (hs q2)]
      | succ d ih =>
        intro i n hi hn
        obtain ⟨n, rfl⟩ : ∃ m9, n = m9 + 1 := ⟨n - 1, by omega⟩
        have e := ih (i + 1) n (by omega) (by omega)
        rw [sm_s] at e
        rw [f_X9_measured_32, if_pos (show inb _ _ from by decide), show ix (0 : Int32) = 0 from by decide, hB1, if_neg (fun q9 => absurd ((le_nI (by omega) (by omega)).mp q9) (by omega)), if_pos ((eq2 (by omega)).mpr q2), if_pos ((inb_nI (by omega)).mpr (by omega)), ix_nI (by omega), hu i (by omega), f_X9_measured_75, nI_add, nI_1]
        exact e
    exact key (pB η) 0 fu (by omega) (fu_gt (by omega))
  · rw [if_neg q2]
    have key : ∀ d i n, i + d = pB η → d < n → f_X9_measured_32 n (nI k) (nI what) (nI (sqM (dV x) i)) (nI i) w1 = some (nI (sqM (dV x) (pB η)), w1) := by
      intro d
      induction d with
      | zero =>
        intro i n hi hn
        obtain ⟨n, rfl⟩ : ∃ m9, n = m9 + 1 := ⟨n - 1, by omega⟩
        have : i = pB η := by omega
        subst this
        rw [f_X9_measured_32, if_pos (show inb _ _ from by decide), show ix (0 : Int32) = 0 from by decide, hB1, if_pos ((le_nI (by omega) (by omega)).mpr (by omega)), if_neg (fun z => q2 ((eq2 (by omega)).mp z))]
      | succ d ih =>
        intro i n hi hn
        obtain ⟨n, rfl⟩ : ∃ m9, n = m9 + 1 := ⟨n - 1, by omega⟩
        have e := ih (i + 1) n (by omega) (by omega)
        unfold sqM at e
        rw [sm_s] at e
        rw [f_X9_measured_32, if_pos (show inb _ _ from by decide), show ix (0 : Int32) = 0 from by decide, hB1, if_neg (fun q9 => absurd ((le_nI (by omega) (by omega)).mp q9) (by omega)), if_neg (fun z => q2 ((eq2 (by omega)).mp z)), if_pos ((inb_nI (by omega)).mpr (by omega)), if_pos ((inb_nI (by omega)).mpr (by omega)), ix_nI (by omega), hu i (by omega), pk_mul, f_X9_measured_75, nI_add, nI_1]
        exact e
    exact key (pB η) 0 fu (by omega) (fu_gt (by omega))
end RF5
