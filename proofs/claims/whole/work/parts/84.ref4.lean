section RF4
variable {η : HP} {N : Nat} {key way : Nat → Nat}
theorem holds9_loop {w : GW} {b c a lo : Nat} (hη : HPok η) (hB : gI w 133 0 = nI (pB η)) (hF : FT w N key way) (hV : ∀ s, s < N → key s < 354294) (hb : b < 5) (hc : c < 1000) (hlo : lo = 0 ∨ lo = 1) (ha : gL w 130 30 = lN a) (ha0 : 0 < a) (ha63 : a < 9223372036854775808) (ht : tot N key way (fun x => wo η 6 b c (dV x)) < 9223372036854775808) : ∃ w', f_X9_holds_62 fu (nI b) (nI c) (nI lo) 0 0 w = some (lN (low (tot N key way (fun x => wo η 6 b c (dV x))) a lo), w') ∧ gI w' 130 11 = gI w 130 11 := by
  have key : ∀ d i n w, i + d = N → d < n → gI w 133 0 = nI (pB η) → FT w N key way → gL w 130 30 = lN a → ∃ w', f_X9_holds_62 n (nI b) (nI c) (nI lo) (lN (sm i (fun s => way s * wo η 6 b c (dV (key s))))) (nI i) w = some (lN (low (tot N key way (fun x => wo η 6 b c (dV x))) a lo), w') ∧ gI w' 130 11 = gI w 130 11 := by
    intro d
    induction d with
    | zero =>
      intro i n w hi hn hB hF hal
      obtain ⟨n, rfl⟩ : ∃ m9, n = m9 + 1 := ⟨n - 1, by omega⟩
      have : i = N := by omega
      subst this
      have hN := hF.2.1
      refine ⟨w, ?_, rfl⟩
      have e : sm i (fun s => way s * wo η 6 b c (dV (key s))) = tot i key way (fun x => wo η 6 b c (dV x)) := rfl
      rw [f_X9_holds_62, hF.1, if_pos ((le_nI (by omega) (by omega)).mpr (by omega)), hal, e, lowest ht ha63 ha0 hlo]
      rfl
    | succ d ih =>
      intro i n w hi hn hB hF hal
      obtain ⟨n, rfl⟩ : ∃ m9, n = m9 + 1 := ⟨n - 1, by omega⟩
      have hN := hF.2.1
      obtain ⟨k1, k2⟩ := hF.2.2 i (by omega)
      obtain ⟨w1, a1, a2⟩ := layApart_LK (w := w) (hV i (by omega))
      have S := fr_X9_layApart _ _ a1
      have hB1 : gI w1 133 0 = nI (pB η) := by rw [S.I 133 0 rfl]; exact hB
      have hF1 : FT w1 N key way := hF.sm S rfl (fun _ => rfl) (fun _ => rfl)
      have hu := a2.1 b hb
      have hu8 := dU_le (key i) b
      obtain ⟨w', b1, b2⟩ := ih (i + 1) n w1 (by omega) (by omega) hB1 hF1 (by rw [S.L 130 30 rfl]; exact hal)
      refine ⟨w', ?_, b2.trans (S.I 130 11 rfl)⟩
      rw [sm_s] at b1
      rw [f_X9_holds_62, hF.1, if_neg (fun q9 => absurd ((le_nI (by omega) (by omega)).mp q9) (by omega)), show (8000 : Nat) = 8000 from rfl, if_pos ((inb_nI (by omega)).mpr (by omega)), ix_nI (by omega), k1, a1, bind_some']
      dsimp only
      rw [if_pos ((inb_nI (by omega)).mpr (by omega)), ix_nI (by omega), hu]
      have hdv : dV (key i) b = dU (key i) b := dV_5 hb
      by_cases q : dU (key i) b = c
      · have hw : wo η 6 b c (dV (key i)) = 1 := by unfold wo; simp [hdv, q]
        rw [hw, Nat.mul_one] at b1
        rw [if_pos ((eq_nI (by omega) (by omega)).mpr (by omega)), if_pos ((inb_nI (by omega)).mpr (by omega)), f_X9_holds_106, (hF1.2.2 i (by omega)).2, lN_add, nI_1]
        exact b1
      · have hw : wo η 6 b c (dV (key i)) = 0 := by unfold wo; simp [hdv, q]
        rw [hw, Nat.mul_zero] at b1
        rw [if_neg (fun q9 => absurd ((eq_nI (by omega) (by omega)).mp q9) (by omega)), f_X9_holds_106, show (0 : Int64) = lN 0 from rfl, lN_add, nI_1]
        exact b1
  have hN := hF.2.1
  have e := key N 0 fu w (by omega) (fu_gt (by omega)) hB hF ha
  rw [sm_0] at e
  exact e
theorem worst9_loop {w : GW} {ls v0 : Nat} (hη : HPok η) (hls : ls = 0 ∨ ls = 1) (hB : gI w 133 0 = nI (pB η)) (hF : FT w N key way) (hV : ∀ s, s < N → key s < 354294) (hN1 : 1 ≤ N) (hv0 : v0 = flM (dV (key 0)) (pB η)) : ∃ w' v, f_X9_worst_40 fu (nI ls) (nI v0) 1 w = some (nI v, w') ∧ gI w' 130 11 = gI w 130 11 ∧ (∃ s, s < N ∧ flM (dV (key s)) (pB η) = v) ∧ ∀ s, s < N → btr ls (flM (dV (key s)) (pB η)) v := by
  have h8 : ∀ x c, dV x c ≤ 8 := fun x c => by unfold dV; split; exact dU_le x c; omega
  have key : ∀ d i n w v, i + d = N → d < n → gI w 133 0 = nI (pB η) → FT w N key way → v ≤ 8 → (∃ s, s < N ∧ flM (dV (key s)) (pB η) = v) → (∀ s, s < i → btr ls (flM (dV (key s)) (pB η)) v) → ∃ w' v', f_X9_worst_40 n (nI ls) (nI v) (nI i) w = some (nI v', w') ∧ gI w' 130 11 = gI w 130 11 ∧ (∃ s, s < N ∧ flM (dV (key s)) (pB η) = v') ∧ ∀ s, s < N → btr ls (flM (dV (key s)) (pB η)) v' := by
    intro d
    induction d with
    | zero =>
      intro i n w v hi hn hB hF hv8 hex hall
      obtain ⟨n, rfl⟩ : ∃ m9, n = m9 + 1 := ⟨n - 1, by omega⟩
      have : i = N := by omega
      subst this
      have hN := hF.2.1
      refine ⟨w, v, ?_, rfl, hex, hall⟩
      rw [f_X9_worst_40, hF.1, if_pos ((le_nI (by omega) (by omega)).mpr (by omega))]
    | succ d ih =>
      intro i n w v hi hn hB hF hv8 hex hall
      obtain ⟨n, rfl⟩ : ∃ m9, n = m9 + 1 := ⟨n - 1, by omega⟩
      have hN := hF.2.1
      obtain ⟨k1, k2⟩ := hF.2.2 i (by omega)
      obtain ⟨w1, a1⟩ := fullestOf9 (w := w) hη hB (hV i (by omega))
      have S := fr_X9_fullestOf _ _ a1
      have hB1 : gI w1 133 0 = nI (pB η) := by rw [S.I 133 0 rfl]; exact hB
      have hF1 : FT w1 N key way := hF.sm S rfl (fun _ => rfl) (fun _ => rfl)
      have hfl := flM_le (h8 (key i)) (pB η)
      have keep : btr ls (flM (dV (key i)) (pB η)) v → ∃ w' v', f_X9_worst_97 (f_X9_worst_40 n) (nI ls) (nI i) (nI v) w1 = some (nI v', w') ∧ gI w' 130 11 = gI w 130 11 ∧ (∃ s, s < N ∧ flM (dV (key s)) (pB η) = v') ∧ ∀ s, s < N → btr ls (flM (dV (key s)) (pB η)) v' := by
        intro hb
        rw [f_X9_worst_97, nI_1]
        rw [← S.I 130 11 rfl]
        refine ih (i + 1) n w1 v (by omega) (by omega) hB1 hF1 hv8 hex (fun s hs => ?_)
        by_cases z : s = i
        · subst z; exact hb
        · exact hall s (by omega)
      have set : btr ls v (flM (dV (key i)) (pB η)) → ∃ w' v', f_X9_worst_97 (f_X9_worst_40 n) (nI ls) (nI i) (nI (flM (dV (key i)) (pB η))) w1 = some (nI v', w') ∧ gI w' 130 11 = gI w 130 11 ∧ (∃ s, s < N ∧ flM (dV (key s)) (pB η) = v') ∧ ∀ s, s < N → btr ls (flM (dV (key s)) (pB η)) v' := by
        intro hb
        rw [f_X9_worst_97, nI_1]
        rw [← S.I 130 11 rfl]
        refine ih (i + 1) n w1 _ (by omega) (by omega) hB1 hF1 hfl ⟨i, by omega, rfl⟩ (fun s hs => ?_)
        by_cases z : s = i
        · subst z; exact btr_rf _ _
        · exact btr_tr (hall s (by omega)) hb
      rw [f_X9_worst_40, hF.1, if_neg (fun q9 => absurd ((le_nI (by omega) (by omega)).mp q9) (by omega)), show (8000 : Nat) = 8000 from rfl, if_pos ((inb_nI (by omega)).mpr (by omega)), ix_nI (by omega), k1, a1, bind_some']
      dsimp only
      rcases hls with rfl | rfl
      · rw [if_pos (show nI 0 = 0 from rfl)]
        by_cases z : flM (dV (key i)) (pB η) ≤ v
        · rw [if_pos ((le_nI (by omega) (by omega)).mpr (by omega))]; exact keep z
        · rw [if_neg (fun q9 => absurd ((le_nI (by omega) (by omega)).mp q9) (by omega))]; exact set (show v ≤ _ by omega)
      · rw [if_neg (show ¬ nI 1 = 0 from one_ne)]
        by_cases z : v ≤ flM (dV (key i)) (pB η)
        · rw [if_pos ((le_nI (by omega) (by omega)).mpr (by omega))]; exact keep z
        · rw [if_neg (fun q9 => absurd ((le_nI (by omega) (by omega)).mp q9) (by omega))]; exact set (show _ ≤ v by omega)
  have hN := hF.2.1
  have e := key (N - 1) 1 fu w v0 (by omega) (fu_gt (by omega)) hB hF (by rw [hv0]; exact flM_le (h8 _) _) ⟨0, by omega, hv0.symm⟩ (fun s hs => by
    have : s = 0 := by omega
    subst this
    rw [hv0]; exact btr_rf _ _)
  rw [← show (1 : Int32) = nI 1 from rfl] at e
  exact e
end RF4
