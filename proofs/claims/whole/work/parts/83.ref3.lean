section RF3
variable {η : HP} {N : Nat} {key way : Nat → Nat}
theorem empty9_loop {w : GW} {m a lo : Nat} (hη : HPok η) (hB : gI w 133 0 = nI (pB η)) (hF : FT w N key way) (hV : ∀ s, s < N → key s < 354294) (hm : m < 1000) (hlo : lo = 0 ∨ lo = 1) (ha : gL w 130 30 = lN a) (ha0 : 0 < a) (ha63 : a < 9223372036854775808) (ht : tot N key way (fun x => wo η 5 m 0 (dV x)) < 9223372036854775808) : ∃ w', f_X9_empty_37 fu (nI m) (nI lo) 0 0 w = some (lN (low (tot N key way (fun x => wo η 5 m 0 (dV x))) a lo), w') ∧ gI w' 130 11 = gI w 130 11 := by
  have key : ∀ d i n w, i + d = N → d < n → gI w 133 0 = nI (pB η) → FT w N key way → gL w 130 30 = lN a → ∃ w', f_X9_empty_37 n (nI m) (nI lo) (lN (sm i (fun s => way s * wo η 5 m 0 (dV (key s))))) (nI i) w = some (lN (low (tot N key way (fun x => wo η 5 m 0 (dV x))) a lo), w') ∧ gI w' 130 11 = gI w 130 11 := by
    intro d
    induction d with
    | zero =>
      intro i n w hi hn hB hF hal
      obtain ⟨n, rfl⟩ : ∃ m9, n = m9 + 1 := ⟨n - 1, by omega⟩
      have : i = N := by omega
      subst this
      have hN := hF.2.1
      refine ⟨w, ?_, rfl⟩
      have e : sm i (fun s => way s * wo η 5 m 0 (dV (key s))) = tot i key way (fun x => wo η 5 m 0 (dV x)) := rfl
      rw [f_X9_empty_37, hF.1, if_pos ((le_nI (by omega) (by omega)).mpr (by omega)), hal, e, lowest ht ha63 ha0 hlo]
      rfl
    | succ d ih =>
      intro i n w hi hn hB hF hal
      obtain ⟨n, rfl⟩ : ∃ m9, n = m9 + 1 := ⟨n - 1, by omega⟩
      have hN := hF.2.1
      obtain ⟨k1, k2⟩ := hF.2.2 i (by omega)
      obtain ⟨w1, a1⟩ := emptyOf9 (w := w) hη hB (hV i (by omega))
      have S := fr_X9_emptyOf _ _ a1
      have hB1 : gI w1 133 0 = nI (pB η) := by rw [S.I 133 0 rfl]; exact hB
      have hF1 : FT w1 N key way := hF.sm S rfl (fun _ => rfl) (fun _ => rfl)
      have hem := emM_le (dV (key i)) (pB η)
      have j2 := hη.2.1
      obtain ⟨w', b1, b2⟩ := ih (i + 1) n w1 (by omega) (by omega) hB1 hF1 (by rw [S.L 130 30 rfl]; exact hal)
      refine ⟨w', ?_, b2.trans (S.I 130 11 rfl)⟩
      rw [sm_s] at b1
      rw [f_X9_empty_37, hF.1, if_neg (fun q9 => absurd ((le_nI (by omega) (by omega)).mp q9) (by omega)), show (8000 : Nat) = 8000 from rfl, if_pos ((inb_nI (by omega)).mpr (by omega)), ix_nI (by omega), k1, a1, bind_some']
      dsimp only
      by_cases q : emM (dV (key i)) (pB η) = m
      · have hw : wo η 5 m 0 (dV (key i)) = 1 := by unfold wo; simp [q]
        rw [hw, Nat.mul_one] at b1
        rw [if_pos ((eq_nI (by omega) (by omega)).mpr (by omega)), if_pos ((inb_nI (by omega)).mpr (by omega)), f_X9_empty_74, (hF1.2.2 i (by omega)).2, lN_add, nI_1]
        exact b1
      · have hw : wo η 5 m 0 (dV (key i)) = 0 := by unfold wo; simp [q]
        rw [hw, Nat.mul_zero] at b1
        rw [if_neg (fun q9 => absurd ((eq_nI (by omega) (by omega)).mp q9) (by omega)), f_X9_empty_74, show (0 : Int64) = lN 0 from rfl, lN_add, nI_1]
        exact b1
  have hN := hF.2.1
  have e := key N 0 fu w (by omega) (fu_gt (by omega)) hB hF ha
  rw [sm_0] at e
  exact e
end RF3
