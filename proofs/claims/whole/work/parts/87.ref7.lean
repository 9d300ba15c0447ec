section RF7
variable {η : HP} {N : Nat} {key way : Nat → Nat}
/-- whether boxes lie as they are told to -/
def samL (u v : Nat → Nat) : Nat → Nat
  | 0 => 1
  | n + 1 => if samL u v n = 0 then 0 else if u n = v n then 1 else 0
theorem waysOfLay9 {w : GW} {y : Nat} {v : Nat → Nat} (hη : HPok η) (hB : gI w 133 0 = nI (pB η)) (hF : FT w N key way) (hV : ∀ s, s < N → key s < 354294) (hy : y < 8) (hv : ∀ b, b < 5 → gI w 133 (40 + 5 * y + b) = nI (v b)) (hv8 : ∀ b, v b ≤ 8) : ∃ w', f_X9_waysOfLay (nI y) w = some (lN (tot N key way (fun x => samL (dV x) v (pB η))), w') := by
  have j2 := hη.2.1
  have key : ∀ d i n w, i + d = N → d < n → gI w 133 0 = nI (pB η) → FT w N key way → (∀ b, b < 5 → gI w 133 (40 + 5 * y + b) = nI (v b)) → ∃ w', f_X9_waysOfLay_5 n (nI y) (lN (sm i (fun s => way s * samL (dV (key s)) v (pB η)))) (nI i) w = some (lN (tot N key way (fun x => samL (dV x) v (pB η))), w') := by
    intro d
    induction d with
    | zero =>
      intro i n w hi hn hB hF hv
      obtain ⟨n, rfl⟩ : ∃ m9, n = m9 + 1 := ⟨n - 1, by omega⟩
      have : i = N := by omega
      subst this
      have hN := hF.2.1
      refine ⟨w, ?_⟩
      rw [f_X9_waysOfLay_5, hF.1, if_pos ((le_nI (by omega) (by omega)).mpr (by omega))]
      rfl
    | succ d ih =>
      intro i n w hi hn hB hF hv
      obtain ⟨n, rfl⟩ : ∃ m9, n = m9 + 1 := ⟨n - 1, by omega⟩
      have hN := hF.2.1
      obtain ⟨k1, k2⟩ := hF.2.2 i (by omega)
      obtain ⟨w1, a1, a2⟩ := layApart_LK (w := w) (hV i (by omega))
      have S := fr_X9_layApart _ _ a1
      have hB1 : gI w1 133 0 = nI (pB η) := by rw [S.I 133 0 rfl]; exact hB
      have hF1 : FT w1 N key way := hF.sm S rfl (fun _ => rfl) (fun _ => rfl)
      have hv1 : ∀ b, b < 5 → gI w1 133 (40 + 5 * y + b) = nI (v b) := fun b hb => by rw [S.I 133 _ rfl]; exact hv b hb
      obtain ⟨w', b1⟩ := ih (i + 1) n w1 (by omega) (by omega) hB1 hF1 hv1
      rw [sm_s] at b1
      have s01 : ∀ m, samL (dV (key i)) v m = 0 ∨ samL (dV (key i)) v m = 1 := by
        intro m
        cases m with
        | zero => exact Or.inr rfl
        | succ m => unfold samL; split; exact Or.inl rfl; split; exact Or.inr rfl; exact Or.inl rfl
      have inner : ∀ e c m, c + e = pB η → e < m → f_X9_waysOfLay_31 (f_X9_waysOfLay_5 n) m (nI y) (lN (sm i (fun s => way s * samL (dV (key s)) v (pB η)))) (nI i) (nI (samL (dV (key i)) v c)) (nI c) w1 = some (lN (tot N key way (fun x => samL (dV x) v (pB η))), w') := by
        intro e
        induction e with
        | zero =>
          intro c m hc hm
          obtain ⟨m, rfl⟩ : ∃ m9, m = m9 + 1 := ⟨m - 1, by omega⟩
          have : c = pB η := by omega
          subst this
          rw [f_X9_waysOfLay_31, if_pos (show inb _ _ from by decide), show ix (0 : Int32) = 0 from by decide, hB1, if_pos ((le_nI (by omega) (by omega)).mpr (by omega))]
          rcases s01 (pB η) with z | z
          · rw [z, Nat.mul_zero] at b1
            rw [z, if_pos (show nI 0 = 0 from rfl), f_X9_waysOfLay_101, show (0 : Int64) = lN 0 from rfl, lN_add, nI_1]
            exact b1
          · rw [z, Nat.mul_one] at b1
            rw [z, if_neg (show ¬ nI 1 = 0 from one_ne), show (8000 : Nat) = 8000 from rfl, if_pos ((inb_nI (by omega)).mpr (by omega)), ix_nI (by omega), f_X9_waysOfLay_101, (hF1.2.2 i (by omega)).2, lN_add, nI_1]
            exact b1
        | succ e ihe =>
          intro c m hc hm
          obtain ⟨m, rfl⟩ : ∃ m9, m = m9 + 1 := ⟨m - 1, by omega⟩
          have x1 := ihe (c + 1) m (by omega) (by omega)
          rw [samL] at x1
          have hdv : gI w1 137 c = nI (dV (key i) c) := by rw [a2.1 c (by omega), dV_5 (by omega)]
          have h8 : dV (key i) c ≤ 8 := by rw [dV_5 (by omega)]; exact dU_le _ _
          have h8v := hv8 c
          rw [f_X9_waysOfLay_31, if_pos (show inb _ _ from by decide), show ix (0 : Int32) = 0 from by decide, hB1, if_neg (fun q9 => absurd ((le_nI (by omega) (by omega)).mp q9) (by omega))]
          rcases s01 c with z | z
          · rw [z, if_pos rfl] at x1
            rw [z, if_pos (show nI 0 = 0 from rfl), f_X9_waysOfLay_75, f_X9_waysOfLay_76, nI_1]
            exact x1
          · rw [z, if_neg (by decide)] at x1
            rw [z, if_neg (show ¬ nI 1 = 0 from one_ne), if_pos ((inb_nI (by omega)).mpr (by omega)), show (40 : Int32) = nI 40 from rfl, show (5 : Int32) = nI 5 from rfl, pk_mul, nI_add, nI_add, if_pos ((inb_nI (by omega)).mpr (by omega)), ix_nI (by omega), ix_nI (by omega), hdv, hv1 c (by omega)]
            by_cases q : dV (key i) c = v c
            · rw [if_pos q] at x1
              rw [if_pos ((eq_nI (by omega) (by omega)).mpr (by omega)), f_X9_waysOfLay_76, nI_1]
              exact x1
            · rw [if_neg q] at x1
              rw [if_neg (fun q9 => absurd ((eq_nI (by omega) (by omega)).mp q9) (by omega)), f_X9_waysOfLay_75, f_X9_waysOfLay_76, nI_1]
              exact x1
      refine ⟨w', ?_⟩
      rw [f_X9_waysOfLay_5, hF.1, if_neg (fun q9 => absurd ((le_nI (by omega) (by omega)).mp q9) (by omega)), show (8000 : Nat) = 8000 from rfl, if_pos ((inb_nI (by omega)).mpr (by omega)), ix_nI (by omega), k1, a1, bind_some', show (0 : Int32) = nI 0 from rfl, show (1 : Int32) = nI 1 from rfl]
      exact inner (pB η) 0 fu (by omega) (fu_gt (by omega))
  have hN := hF.2.1
  have e := key N 0 fu w (by omega) (fu_gt (by omega)) hB hF hv
  rw [sm_0] at e
  exact e
end RF7
