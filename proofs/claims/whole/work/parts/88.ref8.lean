section RF8
variable {η : HP} {N : Nat} {key way : Nat → Nat}
/-- how many values there are -/
theorem dist_sum (f : Nat → Nat) {M : Nat} : ∀ N, (∀ s, s < N → f s < M) → sm N (fun s => @ite _ (∀ o, o < s → f o ≠ f s) (Classical.propDecidable _) 1 0) = sm M (fun c => @ite _ (∃ s, s < N ∧ f s = c) (Classical.propDecidable _) 1 0) := by
  intro N
  induction N with
  | zero =>
    intro _
    rw [sm_0]
    exact (sm_z (fun c _ => if_neg (fun ⟨s, hs, _⟩ => by omega))).symm
  | succ N ih =>
    intro h
    rw [sm_s, ih (fun s hs => h s (by omega))]
    have hk := h N (by omega)
    have e := sm_up (n := M) (f := fun c => @ite _ (∃ s, s < N + 1 ∧ f s = c) (Classical.propDecidable _) 1 0) (g := fun c => @ite _ (∃ s, s < N ∧ f s = c) (Classical.propDecidable _) 1 0) (k := f N) hk (fun c _ hc => by
      by_cases z : ∃ s, s < N ∧ f s = c
      · obtain ⟨s, h1, h2⟩ := id z
        rw [if_pos z, if_pos ⟨s, by omega, h2⟩]
      · rw [if_neg z, if_neg (fun ⟨s, h1, h2⟩ => by
          by_cases q : s = N
          · subst q; exact hc h2.symm
          · exact z ⟨s, by omega, h2⟩)])
    have hex : ∃ s, s < N + 1 ∧ f s = f N := ⟨N, Nat.lt_succ_self N, rfl⟩
    rw [if_pos hex] at e
    by_cases z : ∃ s, s < N ∧ f s = f N
    · obtain ⟨s, h1, h2⟩ := id z
      rw [if_pos z] at e
      rw [if_neg (fun q => q s h1 h2)]
      omega
    · rw [if_neg z] at e
      rw [if_pos (fun o ho q => z ⟨o, ho, q⟩)]
      omega
theorem states9_loop {w : GW} (hF : FT w N key way) (hV : ∀ s, s < N → key s < 354294) : f_X9_states_28 fu 0 0 w = some (nI (sm N (fun s => @ite _ (∀ o, o < s → key o % 59049 ≠ key s % 59049) (Classical.propDecidable _) 1 0)), w) := by
  have hN := hF.2.1
  have key2 : ∀ d i n, i + d = N → d < n → f_X9_states_28 n (nI (sm i (fun s => @ite _ (∀ o, o < s → key o % 59049 ≠ key s % 59049) (Classical.propDecidable _) 1 0))) (nI i) w = some (nI (sm N (fun s => @ite _ (∀ o, o < s → key o % 59049 ≠ key s % 59049) (Classical.propDecidable _) 1 0)), w) := by
    intro d
    induction d with
    | zero =>
      intro i n hi hn
      obtain ⟨n, rfl⟩ : ∃ m9, n = m9 + 1 := ⟨n - 1, by omega⟩
      have : i = N := by omega
      subst this
      rw [f_X9_states_28, hF.1, if_pos ((le_nI (by omega) (by omega)).mpr (by omega))]
    | succ d ih =>
      intro i n hi hn
      obtain ⟨n, rfl⟩ : ∃ m9, n = m9 + 1 := ⟨n - 1, by omega⟩
      have e := ih (i + 1) n (by omega) (by omega)
      rw [sm_s] at e
      have yes : (∀ o, o < i → key o % 59049 ≠ key i % 59049) → f_X9_states_91 (f_X9_states_28 n) (nI (sm i (fun s => @ite _ (∀ o, o < s → key o % 59049 ≠ key s % 59049) (Classical.propDecidable _) 1 0))) (nI i) (nI 1) w = some (nI (sm N (fun s => @ite _ (∀ o, o < s → key o % 59049 ≠ key s % 59049) (Classical.propDecidable _) 1 0)), w) := by
        intro z
        rw [if_pos z] at e
        rw [f_X9_states_91, if_neg (show ¬ nI 1 = 0 from one_ne), f_X9_states_103, show (1 : Int32) = nI 1 from rfl, nI_add, nI_add]
        exact e
      have no : ¬ (∀ o, o < i → key o % 59049 ≠ key i % 59049) → f_X9_states_91 (f_X9_states_28 n) (nI (sm i (fun s => @ite _ (∀ o, o < s → key o % 59049 ≠ key s % 59049) (Classical.propDecidable _) 1 0))) (nI i) (nI 0) w = some (nI (sm N (fun s => @ite _ (∀ o, o < s → key o % 59049 ≠ key s % 59049) (Classical.propDecidable _) 1 0)), w) := by
        intro z
        rw [if_neg z, Nat.add_zero] at e
        rw [f_X9_states_91, if_pos (show nI 0 = 0 from rfl), f_X9_states_103, show (0 : Int32) = nI 0 from rfl, nI_add, Nat.add_zero, nI_1]
        exact e
      have inner : ∀ f o m, o + f = i → f < m → (∀ p, p < o → key p % 59049 ≠ key i % 59049) → f_X9_states_43 (f_X9_states_28 n) m (nI (sm i (fun s => @ite _ (∀ o, o < s → key o % 59049 ≠ key s % 59049) (Classical.propDecidable _) 1 0))) (nI i) (nI 1) (nI o) w = some (nI (sm N (fun s => @ite _ (∀ o, o < s → key o % 59049 ≠ key s % 59049) (Classical.propDecidable _) 1 0)), w) := by
        intro f
        induction f with
        | zero =>
          intro o m ho hm hp
          obtain ⟨m, rfl⟩ : ∃ m9, m = m9 + 1 := ⟨m - 1, by omega⟩
          have : o = i := by omega
          subst this
          rw [f_X9_states_43, if_pos ((le_nI (by omega) (by omega)).mpr (by omega))]
          exact yes hp
        | succ f ihf =>
          intro o m ho hm hp
          obtain ⟨m, rfl⟩ : ∃ m9, m = m9 + 1 := ⟨m - 1, by omega⟩
          obtain ⟨k1, -⟩ := hF.2.2 i (by omega)
          obtain ⟨k2, -⟩ := hF.2.2 o (by omega)
          have v1 := hV i (by omega)
          have v2 := hV o (by omega)
          rw [f_X9_states_43, if_neg (fun q9 => absurd ((le_nI (by omega) (by omega)).mp q9) (by omega)), if_neg (show ¬ nI 1 = 0 from one_ne), show (8000 : Nat) = 8000 from rfl, if_pos ((inb_nI (by omega)).mpr (by omega)), if_pos ((inb_nI (by omega)).mpr (by omega)), ix_nI (by omega), ix_nI (by omega), k1, k2, show (59049 : Int32) = nI 59049 from rfl, irm_nI (by omega) (by omega) (by omega), irm_nI (by omega) (by omega) (by omega)]
          by_cases q : key o % 59049 = key i % 59049
          · obtain ⟨m, rfl⟩ : ∃ m9, m = m9 + 1 := ⟨m - 1, by omega⟩
            rw [if_pos ((eq_nI (by omega) (by omega)).mpr (by omega)), f_X9_states_83, nI_1, f_X9_states_43]
            have n1 := no (fun z => z o (by omega) q)
            split
            · exact n1
            · rw [if_pos rfl]; exact n1
          · rw [if_neg (fun q9 => absurd ((eq_nI (by omega) (by omega)).mp q9) (by omega)), f_X9_states_83, nI_1]
            refine ihf (o + 1) m (by omega) (by omega) (fun p hp2 => ?_)
            by_cases z : p = o
            · subst z; exact q
            · exact hp p (by omega)
      rw [f_X9_states_28, hF.1, if_neg (fun q9 => absurd ((le_nI (by omega) (by omega)).mp q9) (by omega)), show (1 : Int32) = nI 1 from rfl, show (0 : Int32) = nI 0 from rfl]
      exact inner i 0 fu (by omega) (fu_gt (by omega)) (fun p hp => by omega)
  rw [show (0 : Int32) = nI 0 from rfl]
  exact key2 N 0 fu (by omega) (fu_gt (by omega))
end RF8
