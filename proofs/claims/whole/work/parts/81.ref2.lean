section RF2
variable {η : HP} {N : Nat} {key way : Nat → Nat}
theorem FT.sm {L : List (Nat × Nat × Nat)} {R : List Nat} {w w' : GW} (H : FT w N key way) (S : Sm L R w w') (h1 : md L 130 28 = false) (h2 : ∀ j, md L 139 j = false) (h3 : ∀ j, md L 142 j = false) : FT w' N key way := ⟨(S.I 130 28 h1).trans H.1, H.2.1, fun s hs => ⟨(S.I 139 s (h2 s)).trans (H.2.2 s hs).1, (S.L 142 s (h3 s)).trans (H.2.2 s hs).2⟩⟩
theorem waysOfFullest {w : GW} {m : Nat} (hη : HPok η) (hB : gI w 133 0 = nI (pB η)) (hF : FT w N key way) (hV : ∀ s, s < N → key s < 354294) (hm : m < 1000) : ∃ w', f_X9_waysOfFullest (nI m) w = some (lN (tot N key way (fun x => wo η 4 m 0 (dV x))), w') := by
  have h8 : ∀ x c, dV x c ≤ 8 := fun x c => by unfold dV; split; exact dU_le x c; omega
  have key : ∀ d i n w, i + d = N → d < n → gI w 133 0 = nI (pB η) → FT w N key way → ∃ w', f_X9_waysOfFullest_5 n (nI m) (lN (sm i (fun s => way s * wo η 4 m 0 (dV (key s))))) (nI i) w = some (lN (tot N key way (fun x => wo η 4 m 0 (dV x))), w') := by
    intro d
    induction d with
    | zero =>
      intro i n w hi hn hB hF
      obtain ⟨n, rfl⟩ : ∃ m9, n = m9 + 1 := ⟨n - 1, by omega⟩
      have : i = N := by omega
      subst this
      have hN := hF.2.1
      refine ⟨w, ?_⟩
      rw [f_X9_waysOfFullest_5, hF.1, if_pos ((le_nI (by omega) (by omega)).mpr (by omega))]
      rfl
    | succ d ih =>
      intro i n w hi hn hB hF
      obtain ⟨n, rfl⟩ : ∃ m9, n = m9 + 1 := ⟨n - 1, by omega⟩
      have hN := hF.2.1
      obtain ⟨k1, k2⟩ := hF.2.2 i (by omega)
      obtain ⟨w1, a1⟩ := fullestOf9 (w := w) hη hB (hV i (by omega))
      have S := fr_X9_fullestOf _ _ a1
      have hB1 : gI w1 133 0 = nI (pB η) := by rw [S.I 133 0 rfl]; exact hB
      have hF1 : FT w1 N key way := hF.sm S rfl (fun _ => rfl) (fun _ => rfl)
      have hfl := flM_le (h8 (key i)) (pB η)
      obtain ⟨w', b1⟩ := ih (i + 1) n w1 (by omega) (by omega) hB1 hF1
      refine ⟨w', ?_⟩
      rw [sm_s] at b1
      rw [f_X9_waysOfFullest_5, hF.1, if_neg (fun q9 => absurd ((le_nI (by omega) (by omega)).mp q9) (by omega)), show (8000 : Nat) = 8000 from rfl, if_pos ((inb_nI (by omega)).mpr (by omega)), ix_nI (by omega), k1, a1, bind_some']
      dsimp only
      by_cases q : m ≤ flM (dV (key i)) (pB η)
      · have hw : wo η 4 m 0 (dV (key i)) = 1 := by unfold wo; simp [q]
        rw [hw, Nat.mul_one] at b1
        rw [if_neg (fun q9 => absurd ((lt_nI (by omega) (by omega)).mp q9) (by omega)), if_pos ((inb_nI (by omega)).mpr (by omega)), f_X9_waysOfFullest_41, (hF1.2.2 i (by omega)).2, lN_add, nI_1]
        exact b1
      · have hw : wo η 4 m 0 (dV (key i)) = 0 := by unfold wo; simp [q]
        rw [hw, Nat.mul_zero] at b1
        rw [if_pos ((lt_nI (by omega) (by omega)).mpr (by omega)), f_X9_waysOfFullest_41, show (0 : Int64) = lN 0 from rfl, lN_add, nI_1]
        exact b1
  have hN := hF.2.1
  rw [f_X9_waysOfFullest, show (0 : Int32) = nI 0 from rfl, show (0 : Int64) = lN 0 from rfl]
  exact key N 0 fu w (by omega) (fu_gt (by omega)) hB hF
end RF2
