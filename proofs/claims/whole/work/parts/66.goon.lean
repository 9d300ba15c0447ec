/-! one letter more, from one layout -/
theorem fxP_z (x : Nat) : fxP x ≤ 68 ∨ fxP x = 116 := by
  unfold fxP
  by_cases h : kd x = 4
  · rw [if_pos h]
    have h2 : x < 150 := kd_lt h (by decide)
    have key : ∀ x, x < 150 → kd x = 4 → x ≤ 68 ∨ x = 116 := by decide
    exact key x h2 h
  · rw [if_neg h]; exact Or.inl (Nat.le_refl _)
theorem HX.sm {L : List (Nat × Nat × Nat)} {R : List Nat} {w w' : GW} {η : HP} (h : HX w η) (S : Sm L R w w') (h1 : ∀ p j, p < 60 → md L p j = false) (h2 : 3 ∉ R) : HX w' η := by
  unfold HX
  rw [S.2 3 h2]
  exact HCl.of2 h (fun p j hp => S.I p j (h1 p j hp))
theorem CX.sm {L : List (Nat × Nat × Nat)} {R : List Nat} {w w' : GW} {η : HP} {r h g : Nat} (H : CX w η r h g) (S : Sm L R w w') (h1 : ∀ p j, p ≤ 68 ∨ p = 116 → md L p j = false) (h2 : 4 ∉ R) (h3 : 5 ∉ R) : CX w' η r h g := by
  unfold CX
  rw [S.2 4 h2, S.2 5 h3]
  refine ⟨HCl.of2 H.1 (fun p j hp => S.I p j (h1 p j (by omega))), ?_⟩
  have z := fxP_z (gR w 5)
  obtain ⟨p1, p2, p3⟩ := H.2
  exact ⟨(S.I _ _ (h1 _ _ z)).trans p1, (S.I _ _ (h1 _ _ z)).trans p2, fun q => (S.I _ _ (h1 _ _ z)).trans (p3 q)⟩
/-- the number of what lies behind a letter, if it goes from this box on -/
def lbS (η : HP) (u : Nat → Nat) (n b : Nat) : Option Nat := match goT (pB η) (pR η) u b with
  | none => none
  | some _ => some (rk (mvH η (ldH η u b) n) (pB η))
theorem goT_none {η : HP} (hη : HPok η) {u : Nat → Nat} {b : Nat} (hb : b < pB η) (h : sm (pB η) u < sm (pB η) (pR η)) : ∃ x, goT (pB η) (pR η) u b = some x := by
  have key : ∀ d b, b < pB η → goS (pB η) (pR η) u d b = none → ∀ e, e < d → (fun c => ¬ u c < pR η c) ((b + e) % pB η) := by
    intro d
    induction d with
    | zero => intro b _ _ e he; omega
    | succ d ih =>
      intro b hb hn e he
      rw [goS] at hn
      by_cases q : u b < pR η b
      · rw [if_pos q] at hn; cases hn
      · rw [if_neg q] at hn
        cases e with
        | zero => rw [Nat.add_zero, Nat.mod_eq_of_lt hb]; exact q
        | succ e =>
          have := ih (nx (pB η) b) (nx_lt hb) hn e (by omega)
          rw [← nx_mod hb, Nat.mod_add_mod] at this
          rw [show b + (e + 1) = b + 1 + e by omega]
          exact this
  cases q : goT (pB η) (pR η) u b with
  | some x => exact ⟨x, rfl⟩
  | none =>
    have k := key (pB η) b hb q
    have : sm (pB η) (pR η) ≤ sm (pB η) u := by
      refine sm_le (fun c hc => ?_)
      have k2 := k ((c + (pB η - b)) % pB η) (Nat.mod_lt _ (by omega))
      rw [Nat.add_mod_mod, show b + (c + (pB η - b)) = c + pB η by omega, Nat.add_mod_right, Nat.mod_eq_of_lt hc] at k2
      exact Nat.le_of_not_lt k2
    omega
theorem lieBehind {w : GW} {η : HP} {u : Nat → Nat} {b n : Nat} (hη : HPok η) (hH : HX w η) (hu : ∀ c, c < 5 → gI w 113 c = nI (u c)) (h7 : su u ≤ 7) (h8 : ∀ c, u c ≤ 8) (hb : b < pB η) (hn : n < 1000) : ∃ w', f_X0_lieBehind (nI b) (nI n) w = some (oI (lbS η u n b), w') ∧ Sm L_X0_lieBehind R_X0_lieBehind w w' := by
  obtain ⟨j1, j2, j3, j4, j5, j6, j7⟩ := id hη
  have hz := fxH_lt (gR w 3)
  have rf := roomFrom (k0 := fxH (gR w 3)) (k1 := 113) (u := u) hH.1 j2 hH.2.1 (fun c hc => hu c (by omega)) (fun c => (j3 c).2) h8 hb
  suffices H : ∃ w', f_X0_lieBehind (nI b) (nI n) w = some (oI (lbS η u n b), w') by
    obtain ⟨w', e⟩ := H
    exact ⟨w', e, fr_X0_lieBehind _ _ w e⟩
  rw [f_X0_lieBehind, rf, bind_some']
  dsimp only
  unfold lbS
  cases hgo : goT (pB η) (pR η) u b with
  | none =>
    rw [if_neg (show ¬ (0 : Int32) ≤ oI none from by decide)]
    exact ⟨_, rfl⟩
  | some t =>
    have ht := goS_some _ _ _ hb hgo
    have hut := h8 t
    rw [if_pos (show (0 : Int32) ≤ oI (some t) from nI_pos' (by omega))]
    show ∃ w', f_X0_lieBehind_22 fu (nI n) (nI t) 0 w = _
    have key : ∀ d i m w1, i + d = 5 → d < m → HX w1 η → (∀ c, c < 5 → gI w1 113 c = nI (u c)) → (∀ c, c < i → gI w1 114 c = nI (u c)) → ∃ w', f_X0_lieBehind_22 m (nI n) (nI t) (nI i) w1 = some (nI (rk (mvH η (ldH η u b) n) (pB η)), w') := by
      intro d
      induction d with
      | zero =>
        intro i m w1 hi hm hH1 hu1 h0
        obtain ⟨m, rfl⟩ : ∃ m9, m = m9 + 1 := ⟨m - 1, by omega⟩
        have : i = 5 := by omega
        subst this
        rw [f_X0_lieBehind_22, show (5 : Int32) = nI 5 from rfl, if_pos ((le_nI (by omega) (by omega)).mpr (by omega)), show (5 : Nat) = 5 from rfl, if_pos ((inb_nI (by omega)).mpr (by omega)), if_pos ((inb_nI (by omega)).mpr (by omega)), ix_nI (by omega), h0 t (by omega), nI_1]
        have hH2 : HX (sI w1 114 t (nI (u t + 1))) η := hH1.oN (by omega) (oN.st _ _ _ _)
        have hld : ldH η u b = fun c => if c = t then u t + 1 else u c := by
          funext c
          unfold ldH
          rw [hgo]
          unfold upM
          by_cases z : c = t
          · subst z; rw [if_pos rfl, if_pos rfl]
          · rw [if_neg (fun q => z (by cases q; rfl)), if_neg z]
        have hl8 : ∀ c, ldH η u b c ≤ 8 := ldH_le hη hb h8
        have hut2 : ∀ c, c < 5 → gI (sI w1 114 t (nI (u t + 1))) 114 c = nI (ldH η u b c) := by
          intro c hc
          rw [gI_sI, hld]
          by_cases z : c = t
          · rw [if_pos ⟨rfl, z⟩]; show _ = nI (if c = t then _ else _); rw [if_pos z]
          · rw [if_neg (fun q => z q.2), h0 c hc]; show _ = nI (if c = t then _ else _); rw [if_neg z]
        obtain ⟨w2, m1, m2⟩ := move (k0 := fxH (gR w1 3)) (k1 := 114) (u := ldH η u b) hH2.1 j1 j2 hH2.2.2.2.2.2.2.2 j7 hH2.2.1 hut2 (fun c => (j3 c).2) hl8 hn
        have S := fr_X3_move _ _ _ _ m1
        have hH3 : HX w2 η := hH2.sm S (fun p j hp => by simp [md, L_X3_move]; omega) (by decide)
        have hs : sm (pB η) (mvS (pB η) (pM η) (pR η) (ldH η u b) n) ≤ 8 := by
          have e1 : su (mvH η (ldH η u b) n) = su (ldH η u b) := mvH_su hη
          have e2 := ldH_su hη (u := u) hb
          have e3 := sm_mono (u := mvH η (ldH η u b) n) j2
          unfold su at e1 e2
          unfold mvH at e1 e3
          unfold su at h7
          omega
        show ∃ w', (f_X3_move (fxH (gR (sI w1 114 t (nI (u t + 1))) 3)) 114 (nI n) (sI w1 114 t (nI (u t + 1)))).bind _ = _
        rw [gR_sI, m1, bind_some', rank hη hH3.1 m2 hs, bind_some']
        exact ⟨_, rfl⟩
      | succ d ih =>
        intro i m w1 hi hm hH1 hu1 h0
        obtain ⟨m, rfl⟩ : ∃ m9, m = m9 + 1 := ⟨m - 1, by omega⟩
        rw [f_X0_lieBehind_22, show (5 : Int32) = nI 5 from rfl, if_neg (fun q9 => absurd ((le_nI (by omega) (by omega)).mp q9) (by omega)), show (5 : Nat) = 5 from rfl, if_pos ((inb_nI (by omega)).mpr (by omega)), if_pos ((inb_nI (by omega)).mpr (by omega)), ix_nI (by omega), hu1 i (by omega), nI_1]
        refine ih (i + 1) m _ (by omega) (by omega) (hH1.oN (by omega) (oN.st _ _ _ _)) (fun c hc => by rw [gI_sI, if_neg (by omega)]; exact hu1 c hc) (fun c hc => ?_)
        rw [gI_sI]
        by_cases z : c = i
        · rw [if_pos ⟨rfl, z⟩, z]
        · rw [if_neg (fun q => z q.2), h0 c (by omega)]
    rw [show (0 : Int32) = nI 0 from rfl]
    exact key 5 0 fu w (by omega) (fu_gt (by omega)) hH hu (fun c hc => by omega)
