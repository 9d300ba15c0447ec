/-! marks; the rest of what is asked -/
section MK
variable {w : GW}
/-- one day becomes another -/
theorem become8 {k0 k1 : Nat} {d : DS} (hk : k0 + 2 ≤ k1 ∨ k1 + 2 ≤ k0) (D : DYc w k1 d) : ∃ w', f_X2_become k0 k1 w = some ((), w') ∧ DYc w' k0 d := by
  obtain ⟨d0, d1, d2, d3, d4, d5⟩ := D
  have key : ∀ t i n (w : GW), i + t = 5 → t < n → gI w k0 0 = nI (yW d) → gI w k0 1 = nI (yS d) → gI w k0 2 = nI (yP d) → gI w k0 3 = nI (yP d - su (yU d)) → gI w k0 4 = nI (yK d) → (∀ b, b < 5 → gI w (k1 + 1) b = nI (yU d b)) → (∀ b, b < i → gI w (k0 + 1) b = nI (yU d b)) → ∃ w', f_X2_become_42 n k0 k1 (nI i) w = some ((), w') ∧ DYc w' k0 d := by
    intro t
    induction t with
    | zero =>
      intro i n w hi hn h0 h1 h2 h3 h4 h5 h6
      obtain ⟨n, rfl⟩ : ∃ m9, n = m9 + 1 := ⟨n - 1, by omega⟩
      exact ⟨w, by rw [f_X2_become_42, show (5 : Int32) = nI 5 from rfl, if_pos ((le_nI (by omega) (by omega)).mpr (by omega))], h0, h1, h2, h3, h4, fun b hb => h6 b (by omega)⟩
    | succ t ih =>
      intro i n w hi hn h0 h1 h2 h3 h4 h5 h6
      obtain ⟨n, rfl⟩ : ∃ m9, n = m9 + 1 := ⟨n - 1, by omega⟩
      rw [f_X2_become_42, show (5 : Int32) = nI 5 from rfl, if_neg (fun q9 => absurd ((le_nI (by omega) (by omega)).mp q9) (by omega)), if_pos ((inb_nI (by omega)).mpr (by omega)), if_pos ((inb_nI (by omega)).mpr (by omega)), ix_nI (by omega), h5 i (by omega), nI_1]
      refine ih (i + 1) n _ (by omega) (by omega) ?_ ?_ ?_ ?_ ?_ (fun b hb => ?_) (fun b hb => ?_)
      · rw [gI_sI, if_neg (by omega)]; exact h0
      · rw [gI_sI, if_neg (by omega)]; exact h1
      · rw [gI_sI, if_neg (by omega)]; exact h2
      · rw [gI_sI, if_neg (by omega)]; exact h3
      · rw [gI_sI, if_neg (by omega)]; exact h4
      · rw [gI_sI, if_neg (by omega)]; exact h5 b hb
      · rw [gI_sI]
        by_cases z : b = i
        · rw [if_pos ⟨rfl, z⟩, z]
        · rw [if_neg (fun y => z y.2)]; exact h6 b (by omega)
  have g : ∀ (w : GW) j (v : Int32) i, gI (sI w k0 j v) k1 i = gI w k1 i := fun w j v i => by rw [gI_sI, if_neg (by omega)]
  rw [f_X2_become]
  simp only [g, d0, d1, d2, d3, d4]
  rw [show (0 : Int32) = nI 0 from rfl]
  refine key 5 0 fu _ (by omega) (fu_gt (by omega)) ?_ ?_ ?_ ?_ ?_ (fun b hb => ?_) (fun b hb => by omega)
  · rw [gI_sI, if_neg (by omega), gI_sI, if_neg (by omega), gI_sI, if_neg (by omega), gI_sI, if_neg (by omega), gI_same]
  · rw [gI_sI, if_neg (by omega), gI_sI, if_neg (by omega), gI_sI, if_neg (by omega), gI_same]
  · rw [gI_sI, if_neg (by omega), gI_sI, if_neg (by omega), gI_same]
  · rw [gI_sI, if_neg (by omega), gI_same]
  · rw [gI_same]
  · rw [gI_sI, if_neg (by omega), gI_sI, if_neg (by omega), gI_sI, if_neg (by omega), gI_sI, if_neg (by omega), gI_sI, if_neg (by omega)]; exact d5 b hb
/-- nine cells, one by one -/
theorem DYm_9 {k k' o o' : Nat} {w w' : GW} {d : DS} (D : DYm w k o d) (h : ∀ j, j < 9 → gI w' k' (o' + j) = gI w k (o + j)) : DYm w' k' o' d := by
  obtain ⟨a, b, c, e, f⟩ := D
  exact ⟨fun y hy => (h y (by omega)).trans (a y hy), (h 5 (by omega)).trans b, (h 6 (by omega)).trans c, (h 7 (by omega)).trans e, (h 8 (by omega)).trans f⟩
theorem mark33 {mk : Nat} (hm : mk < 3) : ∀ t i n (w : GW), i + t = 9 → t < n → gI w 130 19 = nI mk → ∃ w', f_X9_mark_33 n (nI i) w = some (nI mk, w') ∧ gI w' 130 19 = nI (mk + 1) ∧ gI w' 130 11 = gI w 130 11 ∧ (∀ j, i ≤ j → j < 9 → gI w' 136 (9 * mk + j) = gI w 135 j) ∧ (∀ j, j < 9 * mk + i → gI w' 136 j = gI w 136 j) ∧ ∀ j, gI w' 135 j = gI w 135 j := by
  intro t
  induction t with
  | zero =>
    intro i n w hi hn h
    obtain ⟨n, rfl⟩ : ∃ m9, n = m9 + 1 := ⟨n - 1, by omega⟩
    refine ⟨sI w 130 19 (nI (mk + 1)), ?_, gI_same _ _ _ _, by rw [gI_sI, if_neg (by omega)], fun j h1 h2 => by omega, fun j _ => by rw [gI_sI, if_neg (by omega)], fun j => by rw [gI_sI, if_neg (by omega)]⟩
    rw [f_X9_mark_33, show (9 : Int32) = nI 9 from rfl, if_pos ((le_nI (by omega) (by omega)).mpr (by omega)), h, nI_1, gI_same, pB_m1 (by omega), Nat.add_sub_cancel]
  | succ t ih =>
    intro i n w hi hn h
    obtain ⟨n, rfl⟩ : ∃ m9, n = m9 + 1 := ⟨n - 1, by omega⟩
    obtain ⟨w', a, b, b', c, e, f⟩ := ih (i + 1) n (sI w 136 (9 * mk + i) (gI w 135 i)) (by omega) (by omega) (by rw [gI_sI, if_neg (by omega)]; exact h)
    refine ⟨w', ?_, b, by rw [b', gI_sI, if_neg (by omega)], fun j h1 h2 => ?_, fun j h1 => ?_, fun j => ?_⟩
    · rw [f_X9_mark_33, show (9 : Int32) = nI 9 from rfl, if_neg (fun q9 => absurd ((le_nI (by omega) (by omega)).mp q9) (by omega)), if_pos ((inb_nI (by omega)).mpr (by omega)), h, pk_mul, nI_add, if_pos ((inb_nI (by omega)).mpr (by omega)), ix_nI (by omega), ix_nI (by omega), nI_1]
      exact a
    · by_cases z : j = i
      · subst z
        rw [e _ (by omega), gI_same]
      · rw [c j (by omega) h2, gI_sI, if_neg (by omega)]
    · rw [e j (by omega), gI_sI, if_neg (by omega)]
    · rw [f j, gI_sI, if_neg (by omega)]
theorem back26 {m : Nat} (hm : m < 3) : ∀ t i n (w : GW), i + t = 9 → t < n → ∃ w', f_X9_back_26 n (nI m) (nI i) w = some (1, w') ∧ (∀ j, i ≤ j → j < 9 → gI w' 135 j = gI w 136 (9 * m + j)) ∧ (∀ j, j < i → gI w' 135 j = gI w 135 j) ∧ (∀ j, gI w' 136 j = gI w 136 j) ∧ gI w' 130 11 = gI w 130 11 ∧ gI w' 130 19 = gI w 130 19 := by
  intro t
  induction t with
  | zero =>
    intro i n w hi hn
    obtain ⟨n, rfl⟩ : ∃ m9, n = m9 + 1 := ⟨n - 1, by omega⟩
    refine ⟨w, by rw [f_X9_back_26, show (9 : Int32) = nI 9 from rfl, if_pos ((le_nI (by omega) (by omega)).mpr (by omega))], fun j h1 h2 => by omega, fun _ _ => rfl, fun _ => rfl, rfl, rfl⟩
  | succ t ih =>
    intro i n w hi hn
    obtain ⟨n, rfl⟩ : ∃ m9, n = m9 + 1 := ⟨n - 1, by omega⟩
    obtain ⟨w', a, b, c, e, f, g⟩ := ih (i + 1) n (sI w 135 i (gI w 136 (9 * m + i))) (by omega) (by omega)
    refine ⟨w', ?_, fun j h1 h2 => ?_, fun j h1 => ?_, fun j => ?_, ?_, ?_⟩
    · rw [f_X9_back_26, show (9 : Int32) = nI 9 from rfl, if_neg (fun q9 => absurd ((le_nI (by omega) (by omega)).mp q9) (by omega)), pk_mul, nI_add, if_pos ((inb_nI (by omega)).mpr (by omega)), if_pos ((inb_nI (by omega)).mpr (by omega)), ix_nI (by omega), ix_nI (by omega), nI_1]
      exact a
    · by_cases z : j = i
      · subst z
        rw [c _ (by omega), gI_same]
      · rw [b j (by omega) h2, gI_sI, if_neg (by omega)]
    · rw [c j (by omega), gI_sI, if_neg (by omega)]
    · rw [e j, gI_sI, if_neg (by omega)]
    · rw [f, gI_sI, if_neg (by omega)]
    · rw [g, gI_sI, if_neg (by omega)]
end MK
theorem s_mark {w : GW} (H : JJ w) : ST w f_X8_mark f_X9_mark := by
  obtain ⟨T, ⟨σ, d, mk, ms, S, C, M⟩ | H⟩ := H
  rotate_left
  · refine ST.z0 T H (-1) 1 ?_ (fun w1 h _ => ?_)
    · rw [f_X8_mark, H.1 0 (by omega), if_pos rfl]; rfl
    · rw [f_X9_mark, good9, bind_some', if_pos (show gI (gd9 w1) 130 14 = 0 from h)]; rfl
  have hs := S.1
  have hmk := S.2.2.1
  by_cases hm : mk < 3
  rotate_left
  · refine ST.r T S C M (-1) 3 ?_ (fun w1 M1 _ h19 => ?_)
    · rw [f_X8_mark, C.1.1, if_neg one_ne, C.2.2.2.1, show (3 : Int32) = nI 3 from rfl, if_neg (fun q9 => absurd ((lt_nI (by omega) (by omega)).mp q9) (by omega))]; rfl
    · rw [f_X9_mark, good9, bind_some', show gI (gd9 w1) 130 14 = 1 from M1.gd.1, if_neg one_ne, show gI (gd9 w1) 130 19 = nI mk from h19, show (3 : Int32) = nI 3 from rfl, if_pos ((eq_nI (by omega) (by omega)).mpr (by omega))]; rfl
  obtain ⟨w1, a1, a2⟩ := become8 (k0 := 124 + 2 * mk) (k1 := 121) (by omega) C.2.2.1
  have SB := fr_X2_become _ _ _ a1
  have g11 : gI w1 0 11 = nI mk := by rw [SB.I 0 11 (by simp [md, L_X2_become])]; exact C.2.2.2.1
  have e8 : f_X8_mark w = some (nI mk, sI (sI w1 0 11 (nI (mk + 1))) 0 12 0) := by
    have a1' : f_X2_become (123 + 1 + 2 * mk) 121 w = some ((), w1) := a1
    rw [f_X8_mark, C.1.1, if_neg one_ne, C.2.2.2.1, show (3 : Int32) = nI 3 from rfl, if_pos ((lt_nI (by omega) (by omega)).mpr (by omega)), if_pos ((inb_nI (by omega)).mpr (by omega)), ix_nI (by omega), a1', bind_some']
    dsimp only
    rw [g11, nI_1, gI_same, pB_m1 (by omega), Nat.add_sub_cancel]; rfl
  have S1 := fr_X8_mark _ e8
  have K : KD w (sI (sI w1 0 11 (nI (mk + 1))) 0 12 0) := KD.sm S1 (by decide) (by decide)
  have M1 : MHl (sI (sI w1 0 11 (nI (mk + 1))) 0 12 0) σ := M.1.kd K
  have h19 : gI (sI (sI w1 0 11 (nI (mk + 1))) 0 12 0) 130 19 = nI mk := by rw [K.1 _ _ (by omega) (by omega)]; exact M.2.2.1
  obtain ⟨w2, b1, b2, b2', b3, b4, b5⟩ := mark33 hm 9 0 fu (gd9 (sI (sI w1 0 11 (nI (mk + 1))) 0 12 0)) (by omega) (fu_gt (by omega)) h19
  have e9 : f_X9_mark (sI (sI w1 0 11 (nI (mk + 1))) 0 12 0) = some (nI mk, w2) := by
    rw [f_X9_mark, good9, bind_some', show gI (gd9 (sI (sI w1 0 11 (nI (mk + 1))) 0 12 0)) 130 14 = 1 from M1.gd.1, if_neg one_ne, show gI (gd9 (sI (sI w1 0 11 (nI (mk + 1))) 0 12 0)) 130 19 = nI mk from h19, show (3 : Int32) = nI 3 from rfl, if_neg (fun q9 => absurd ((eq_nI (by omega) (by omega)).mp q9) (by omega)), show (0 : Int32) = nI 0 from rfl]
    exact b1
  have S2 := fr_X9_mark _ e9
  have E : KE (sI (sI w1 0 11 (nI (mk + 1))) 0 12 0) w2 := KE.sm S2 (by decide) rfl
  have t2 : gI w2 130 11 = 0 := by rw [b2']; exact gd9_t
  have D1 : DYm (sI (sI w1 0 11 (nI (mk + 1))) 0 12 0) 135 0 d := M.2.1.kd K (by omega)
  refine ⟨_, _, w2, e8, e9, JJ.cl (ms := fun i => if i = mk then d else ms i) T C.1 C.2.1 M.1 K E (t := 0) (gI_same _ _ _ _) t2 (by decide) ⟨hs, S.2.1, by omega, fun i hi => ?_⟩ (C.2.2.1.of (fun j => ?_) (fun j => ?_)) (by rw [gI_sI, if_neg (by omega), gI_same]) (fun i hi => ?_) (D1.of (fun j => by rw [b5 j]; rfl)) b2 (fun i hi => ?_)⟩
  · show DOK σ (if i = mk then d else ms i)
    by_cases z : i = mk
    · rw [if_pos z]; exact S.2.1
    · rw [if_neg z]; exact S.2.2.2 i (by omega)
  · rw [gI_sI, if_neg (by omega), gI_sI, if_neg (by omega), SB.I _ _ (by simp [md, L_X2_become]; omega)]
  · rw [gI_sI, if_neg (by omega), gI_sI, if_neg (by omega), SB.I _ _ (by simp [md, L_X2_become]; omega)]
  · show DYc _ (124 + 2 * i) (if i = mk then d else ms i)
    by_cases z : i = mk
    · subst z
      rw [if_pos rfl]
      exact a2.of (fun j => by rw [gI_sI, if_neg (by omega), gI_sI, if_neg (by omega)]) (fun j => by rw [gI_sI, if_neg (by omega), gI_sI, if_neg (by omega)])
    · rw [if_neg z]
      exact (C.2.2.2.2 i (by omega)).of (fun j => by rw [gI_sI, if_neg (by omega), gI_sI, if_neg (by omega), SB.I _ _ (by simp [md, L_X2_become]; omega)]) (fun j => by rw [gI_sI, if_neg (by omega), gI_sI, if_neg (by omega), SB.I _ _ (by simp [md, L_X2_become]; omega)])
  · show DYm w2 136 (9 * i) (if i = mk then d else ms i)
    by_cases z : i = mk
    · subst z
      rw [if_pos rfl]
      exact DYm_9 D1 (fun j hj => by rw [b3 j (by omega) hj, Nat.zero_add]; rfl)
    · rw [if_neg z]
      exact DYm_9 ((M.2.2.2 i (by omega)).kd K (by omega)) (fun j hj => b4 _ (by omega))
