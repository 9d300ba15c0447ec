section RF6
variable {η : HP} {N : Nat} {key way : Nat → Nat}
theorem wo9_lt (hη : HPok η) {k what : Nat} (hk : k < 1000) (x : Nat) : wo9 η k what (dV x) < 1048576 := by
  have j2 := hη.2.1
  have h8 : ∀ c, dV x c ≤ 8 := fun c => by unfold dV; split; exact dU_le x c; omega
  have h1 := flM_le h8 (pB η)
  have h2 := emM_le (dV x) (pB η)
  have h4 := sqM_le hη h8
  unfold wo9
  repeat' split
  all_goals omega
theorem mean9_loop {w : GW} {k what a lo : Nat} (hη : HPok η) (hB : gI w 133 0 = nI (pB η)) (hF : FT w N key way) (hV : ∀ s, s < N → key s < 354294) (hwh : what ≤ 3) (hk : k < 1000) (hsm : what = 2 → ∀ s, s < N → sm (pB η) (dV (key s)) ≤ k) (hlo : lo = 0 ∨ lo = 1) (ha : gL w 130 30 = lN a) (ha0 : 0 < a) (ha63 : a < 9223372036854775808) (ht : tot N key way (fun x => wo9 η k what (dV x)) < 9223372036854775808) : ∃ w', f_X9_mean_56 fu (nI k) (nI what) (nI lo) 0 0 w = some (lN (low (tot N key way (fun x => wo9 η k what (dV x))) a lo), w') ∧ gI w' 130 11 = gI w 130 11 := by
  have key : ∀ d i n w, i + d = N → d < n → gI w 133 0 = nI (pB η) → FT w N key way → gL w 130 30 = lN a → ∃ w', f_X9_mean_56 n (nI k) (nI what) (nI lo) (lN (sm i (fun s => way s * wo9 η k what (dV (key s))))) (nI i) w = some (lN (low (tot N key way (fun x => wo9 η k what (dV x))) a lo), w') ∧ gI w' 130 11 = gI w 130 11 := by
    intro d
    induction d with
    | zero =>
      intro i n w hi hn hB hF hal
      obtain ⟨n, rfl⟩ : ∃ m9, n = m9 + 1 := ⟨n - 1, by omega⟩
      have : i = N := by omega
      subst this
      have hN := hF.2.1
      refine ⟨w, ?_, rfl⟩
      have e : sm i (fun s => way s * wo9 η k what (dV (key s))) = tot i key way (fun x => wo9 η k what (dV x)) := rfl
      rw [f_X9_mean_56, hF.1, if_pos ((le_nI (by omega) (by omega)).mpr (by omega)), hal, e, lowest ht ha63 ha0 hlo]
      rfl
    | succ d ih =>
      intro i n w hi hn hB hF hal
      obtain ⟨n, rfl⟩ : ∃ m9, n = m9 + 1 := ⟨n - 1, by omega⟩
      have hN := hF.2.1
      obtain ⟨k1, k2⟩ := hF.2.2 i (by omega)
      obtain ⟨w1, a1⟩ := measured9 (w := w) (k := k) (what := what) hη hB (hV i (by omega)) hwh hk (fun q => hsm q i (by omega))
      have S := fr_X9_measured _ _ _ _ a1
      have hB1 : gI w1 133 0 = nI (pB η) := by rw [S.I 133 0 rfl]; exact hB
      have hF1 : FT w1 N key way := hF.sm S rfl (fun _ => rfl) (fun _ => rfl)
      have hlt := wo9_lt hη (what := what) hk (key i)
      obtain ⟨w', b1, b2⟩ := ih (i + 1) n w1 (by omega) (by omega) hB1 hF1 (by rw [S.L 130 30 rfl]; exact hal)
      refine ⟨w', ?_, b2.trans (S.I 130 11 rfl)⟩
      rw [sm_s] at b1
      rw [f_X9_mean_56, hF.1, if_neg (fun q9 => absurd ((le_nI (by omega) (by omega)).mp q9) (by omega)), show (8000 : Nat) = 8000 from rfl, if_pos ((inb_nI (by omega)).mpr (by omega)), if_pos ((inb_nI (by omega)).mpr (by omega)), ix_nI (by omega), k1, a1, bind_some']
      dsimp only
      rw [k2, nI_l (by omega), lN_mul, lN_add, nI_1]
      exact b1
  have hN := hF.2.1
  have e := key N 0 fu w (by omega) (fu_gt (by omega)) hB hF ha
  rw [sm_0] at e
  exact e
end RF6
