/-! back, and the rest -/
theorem s_back {w : GW} (H : JJ w) (x : Int32) : ST w (f_X8_back x) (f_X9_back x) := by
  have b18 : ∀ {y t : Int32} {w : GW}, t ≠ 0 → f_X8_back_18 y t w = some (0, sI w 0 12 t) := fun h => by rw [f_X8_back_18, gI_same, if_neg h]
  obtain ⟨T, ⟨σ, d, mk, ms, S, C, M⟩ | H⟩ := H
  rotate_left
  · refine ST.z0 T H 0 1 ?_ (fun w1 _ h19 => ?_)
    · rw [f_X8_back, f_X8_back_13, rgs_ite (x := x) (hi := 0) (fun ⟨n, h, _⟩ => by omega) (show gI w 0 11 = nI 0 from H.2.2.1) (by omega), b18 (by decide)]
    · rw [f_X9_back, good9, bind_some', show gI (gd9 w1) 130 19 = nI 0 from h19, within9s_f (x := x) (hi := 0) (fun ⟨n, h, _⟩ => by omega) (by omega), bind_some', if_pos rfl, isn9, bind_some']
  have hs := S.1
  have hmk := S.2.2.1
  rcases rgs_em x mk with ⟨m, hm, rfl⟩ | h1
  rotate_left
  · refine ST.r T S C M 0 1 ?_ (fun w1 M1 _ h19 => ?_)
    · rw [f_X8_back, f_X8_back_13, rgs_ite h1 C.2.2.2.1 (by omega), b18 (by decide)]
    · rw [f_X9_back, good9, bind_some', show gI (gd9 w1) 130 19 = nI mk from h19, within9s_f h1 (by omega), bind_some', if_pos rfl, isn9, bind_some']
  have Dm := (C.2.2.2.2 m hm).kc (KC.st (v := 0)) (by omega)
  obtain ⟨w1, a1, a2⟩ := become8 (k0 := 121) (k1 := 124 + 2 * m) (by omega) Dm
  have SB := fr_X2_become _ _ _ a1
  have e8 : f_X8_back (nI m) w = some (1, w1) := by
    have a1' : f_X2_become 121 (123 + 1 + 2 * m) (sI w 0 12 0) = some ((), w1) := a1
    rw [f_X8_back, rgs_itt hm C.2.2.2.1 (by omega), f_X8_back_18, gI_same, if_pos rfl, if_pos ((inb_nI (by omega)).mpr (by omega)), ix_nI (by omega), a1', bind_some']
  have S1 := fr_X8_back _ _ e8
  have K : KD w w1 := KD.sm S1 (by decide) (by decide)
  have h19 : gI (gd9 w1) 130 19 = nI mk := by
    show gI w1 130 19 = nI mk
    rw [K.1 _ _ (by omega) (by omega)]; exact M.2.2.1
  obtain ⟨w2, b1, b2, b3, b4, b5, b6⟩ := back26 (show m < 3 by omega) 9 0 fu (gd9 w1) (by omega) (fu_gt (by omega))
  have e9 : f_X9_back (nI m) w1 = some (1, w2) := by
    rw [f_X9_back, good9, bind_some', h19, within9s_t hm (by omega), bind_some', if_neg one_ne, show (0 : Int32) = nI 0 from rfl]
    exact b1
  have E : KE w1 w2 := KE.sm (fr_X9_back _ _ e9) (by decide) rfl
  refine ⟨_, _, w2, e8, e9, JJ.cl T C.1 C.2.1 M.1 K E (t := 0) ?_ (by rw [b5]; exact gd9_t) (by decide) ⟨hs, S.2.2.2 m hm, S.2.2⟩ a2 ?_ (fun i hi => ?_) (DYm_9 ((M.2.2.2 m hm).kd K (by omega)) (fun j hj => by rw [Nat.zero_add, b2 j (by omega) hj]; rfl)) (b6.trans h19) (fun i hi => ((M.2.2.2 i hi).kd K (by omega)).of (fun j => by rw [b4 j]; rfl))⟩
  · rw [SB.I 0 12 (by simp [md, L_X2_become]), gI_same]
  · rw [S1.I 0 11 rfl]; exact C.2.2.2.1
  · exact (C.2.2.2.2 i hi).of (fun j => S1.I _ j (by simp [md, L_X8_back]; omega)) (fun j => S1.I _ j (by simp [md, L_X8_back]; omega))
theorem s_box {w : GW} (H : JJ w) (x : Int32) : ST w (f_X8_box x) (f_X9_box x) := by
  have k8 : ∀ z, f_X8_box x w = some z → KC w z.2 := fun z hz => KC.sm (fr_X8_box _ _ hz) (by decide) (by decide)
  have k9 : ∀ w1 z, f_X9_box x w1 = some z → KM w1 z.2 := fun w1 z hz => KM.sm (fr_X9_box _ _ hz) (by decide) rfl
  obtain ⟨T, ⟨σ, d, mk, ms, S, C, M⟩ | H⟩ := H
  · exact ST.q T S C M (q_box ⟨S.1, C.1, C.2.1⟩ M.1 C.2.2.1 M.2.1 x) k8 k9
  · refine ST.z0 T H (-1) 1 ?_ (fun w1 h _ => ?_)
    · rw [f_X8_box, zB8 H, bind_some', if_pos rfl]; rfl
    · rw [f_X9_box, good9, bind_some', zB9 (show gI (gd9 w1) 130 14 = 0 from h), bind_some', if_pos rfl]; rfl
theorem s_recall {w : GW} (H : JJ w) : ST w f_X8_recall f_X9_recall := by
  have k8 : ∀ z, f_X8_recall w = some z → KC w z.2 := fun z hz => KC.sm (fr_X8_recall _ hz) (by decide) (by decide)
  have k9 : ∀ w1 z, f_X9_recall w1 = some z → KM w1 z.2 := fun w1 z hz => KM.sm (fr_X9_recall _ hz) (by decide) rfl
  obtain ⟨T, ⟨σ, d, mk, ms, S, C, M⟩ | H⟩ := H
  · exact ST.q T S C M (q_recall ⟨S.1, C.1, C.2.1⟩ M.1 S.2.1 C.2.2.1 M.2.1) k8 k9
  · refine ST.z0 T H (-1) 1 ?_ (fun w1 h _ => ?_)
    · rw [f_X8_recall, H.1 0 (by omega), if_pos rfl]; rfl
    · rw [f_X9_recall, good9, bind_some', if_pos (show gI (gd9 w1) 130 14 = 0 from h)]; rfl
theorem s_porter {w : GW} (H : JJ w) (x y : Int32) : ST w (f_X8_porter x y) (f_X9_porter x y) := by
  have k8 : ∀ z, f_X8_porter x y w = some z → KC w z.2 := fun z hz => KC.sm (fr_X8_porter _ _ _ hz) (by decide) (by decide)
  have k9 : ∀ w1 z, f_X9_porter x y w1 = some z → KM w1 z.2 := fun w1 z hz => KM.sm (fr_X9_porter _ _ _ hz) (by decide) rfl
  obtain ⟨T, ⟨σ, d, mk, ms, S, C, M⟩ | H⟩ := H
  · exact ST.q T S C M (q_porter ⟨S.1, C.1, C.2.1⟩ M.1 x y) k8 k9
  · refine ST.z0 T H (-1) 1 ?_ (fun w1 h _ => ?_)
    · rw [f_X8_porter, zP8 H, bind_some', if_pos rfl]; rfl
    · rw [f_X9_porter, good9, bind_some', zP9 (show gI (gd9 w1) 130 14 = 0 from h), bind_some', if_pos rfl]; rfl
theorem s_boxOf {w : GW} (H : JJ w) (x : Int32) {lo : Nat} (hlo : lo = 0 ∨ lo = 1) : ST w (f_X8_boxOf x (nI lo)) (f_X9_boxOf x (nI lo)) := by
  have k8 : ∀ z, f_X8_boxOf x (nI lo) w = some z → KC w z.2 := fun z hz => KC.sm (fr_X8_boxOf _ _ _ hz) (by decide) (by decide)
  have k9 : ∀ w1 z, f_X9_boxOf x (nI lo) w1 = some z → KM w1 z.2 := fun w1 z hz => KM.sm (fr_X9_boxOf _ _ _ hz) (by decide) rfl
  obtain ⟨T, ⟨σ, d, mk, ms, S, C, M⟩ | H⟩ := H
  · exact ST.q T S C M (q_boxOf ⟨S.1, C.1, C.2.1⟩ M.1 x hlo) k8 k9
  · refine ST.z0 T H (-1) 1 ?_ (fun w1 h _ => ?_)
    · rw [f_X8_boxOf, zB8 H, bind_some', if_pos rfl]; rfl
    · rw [f_X9_boxOf, good9, bind_some', zB9 (show gI (gd9 w1) 130 14 = 0 from h), bind_some', if_pos rfl]; rfl
theorem s_fault {w : GW} (H : JJ w) : ST w f_X8_fault f_X9_fault :=
  ⟨gI w 3 3, w, sI w 130 0 0, rfl, by rw [f_X9_fault, gI_sI, if_neg (by omega), H.1.2.1], H.th 0⟩
theorem s_trouble {w : GW} (H : JJ w) : ST w f_X8_trouble f_X9_trouble :=
  ⟨gI w 0 12, w, sI w 130 0 0, rfl, by rw [f_X9_trouble, gI_sI, if_neg (by omega), H.1.2.2.1], H.th 0⟩
theorem s_where {w : GW} (H : JJ w) : ST w f_X8_where f_X9_where := by
  by_cases z : gI w 0 12 = 4
  · refine ⟨gI w 3 4, w, sI w 130 0 0, by rw [f_X8_where, if_pos z], ?_, H.th 0⟩
    have g : ∀ p j, ¬ (p = 130 ∧ j = 0) → gI (sI w 130 0 0) p j = gI w p j := fun p j h => by rw [gI_sI, if_neg h]
    rw [f_X9_where, g 130 11 (by omega), ← H.1.2.2.1, if_pos z, g 130 10 (by omega), ← H.1.2.2.2.1 z]
  · refine ⟨-1, w, sI w 130 0 0, by rw [f_X8_where, if_neg z], ?_, H.th 0⟩
    have g : ∀ p j, ¬ (p = 130 ∧ j = 0) → gI (sI w 130 0 0) p j = gI w p j := fun p j h => by rw [gI_sI, if_neg h]
    rw [f_X9_where, g 130 11 (by omega), ← H.1.2.2.1, if_neg z]
theorem size43 {w : GW} {d : DS} {x : Int32} (D : DYm w 135 0 d) : ∀ t i n, i + t = 5 → t < n → f_X9_size_43 n x (nI (sm i (yU d))) (nI i) w = f_X9_size_43 1 x (nI (su (yU d))) 5 w := by
  intro t
  induction t with
  | zero =>
    intro i n hi hn
    obtain ⟨n, rfl⟩ : ∃ m9, n = m9 + 1 := ⟨n - 1, by omega⟩
    have : i = 5 := by omega
    subst this
    rw [f_X9_size_43, f_X9_size_43]
    rfl
  | succ t ih =>
    intro i n hi hn
    obtain ⟨n, rfl⟩ : ∃ m9, n = m9 + 1 := ⟨n - 1, by omega⟩
    have := D.1 i (by omega)
    rw [Nat.zero_add] at this
    rw [f_X9_size_43, show (5 : Int32) = nI 5 from rfl, if_neg (fun q9 => absurd ((le_nI (by omega) (by omega)).mp q9) (by omega)), if_pos ((inb_nI (by omega)).mpr (by omega)), ix_nI (by omega), this, nI_add, nI_1]
    exact ih (i + 1) n (by omega) (by omega)
theorem s_size {w : GW} (H : JJ w) (x : Int32) : ST w (f_X8_size x) (f_X9_size x) := by
  have H2 := H.th 0
  have fin : ∀ v, f_X8_size x w = some (v, w) → f_X9_size x w = some (v, sI w 130 0 0) → ST w (f_X8_size x) (f_X9_size x) := fun v a b => ⟨v, w, _, a, b, H2⟩
  have g : ∀ p j, ¬ (p = 130 ∧ j = 0) → gI (sI w 130 0 0) p j = gI w p j := fun p j h => by rw [gI_sI, if_neg h]
  obtain ⟨T, H⟩ := H
  obtain ⟨n, n1, n2, n3, _⟩ := T.1
  by_cases x9 : x = 9
  · subst x9
    refine fin (nI n) ?_ ?_
    · rw [f_X8_size, if_neg (by decide), if_neg (by decide), if_neg (by decide), if_neg (by decide), if_neg (by decide), if_neg (by decide), if_neg (by decide), if_neg (by decide), if_neg (by decide), if_pos rfl, n2]
    · rw [f_X9_size, if_pos rfl, g _ _ (by omega), n3]
  rcases H with ⟨σ, d, mk, ms, S, C, M⟩ | H
  · have hmk := S.2.2.1
    have h := S.2.1
    have hs := S.1
    have D9 : DYm (sI w 130 0 0) 135 0 d := M.2.1.of (fun j => g _ j (by omega))
    have e43 := size43 (x := x) D9 5 0 fu (by omega) (fu_gt (by omega))
    have d5 := M.2.1.2.1
    have d6 := M.2.1.2.2.1
    have d8 := M.2.1.2.2.2.2
    rw [Nat.zero_add] at d5 d6 d8
    obtain ⟨_, hsu⟩ := h.u8 hs
    have hle := h.2.2.2.2.2.1
    have hyl := h.2.2.1
    have hL := hs.2.1
    have e9 : f_X9_size x w = f_X9_size_43 1 x (nI (su (yU d))) 5 (sI w 130 0 0) := by
      rw [f_X9_size, if_neg x9, g 130 14 (by omega), M.1.1, if_neg one_ne, show (0 : Int32) = nI 0 from rfl]
      exact e43
    have e9' : f_X9_size x w = if x = 0 then some (nI (pB (zE σ)), sI w 130 0 0) else if x = 1 then some (nI (zL σ), sI w 130 0 0) else if x = 2 then some (nI (zP σ), sI w 130 0 0) else if x = 3 then some (nI (zY σ), sI w 130 0 0) else if x = 4 then some (nI (yW d), sI w 130 0 0) else if x = 5 then some (nI (yP d), sI w 130 0 0) else if x = 6 then some (nI (yP d - su (yU d)), sI w 130 0 0) else if x = 7 then some (nI (yS d), sI w 130 0 0) else if x = 8 then some (nI mk, sI w 130 0 0) else some (-1, sI w 130 0 0) := by
      rw [e9, f_X9_size_43, if_pos (show (5 : Int32) ≤ 5 from by decide)]
      simp only [if_pos (show inb 0 135 from by decide), if_pos (show inb 1 135 from by decide), if_pos (show inb 17 135 from by decide), if_pos (show inb 39 135 from by decide), if_pos (show inb 5 9 from by decide), if_pos (show inb 6 9 from by decide), if_pos (show inb 8 9 from by decide), show ix (0 : Int32) = 0 from by decide, show ix (1 : Int32) = 1 from by decide, show ix (17 : Int32) = 17 from by decide, show ix (39 : Int32) = 39 from by decide, show ix (5 : Int32) = 5 from by decide, show ix (6 : Int32) = 6 from by decide, show ix (8 : Int32) = 8 from by decide]
      rw [g 133 0 (by omega), g 133 1 (by omega), g 133 17 (by omega), g 133 39 (by omega), g 135 5 (by omega), g 135 6 (by omega), g 135 8 (by omega), g 130 19 (by omega), M.1.2.1.1, M.1.2.2.1, M.1.2.2.2.1, M.1.2.2.2.2.1, d5, d6, d8, M.2.2.1, pk_sub (by omega)]
    have e8 : f_X8_size x w = if x = 0 then some (nI (pB (zE σ)), w) else if x = 1 then some (nI (zL σ), w) else if x = 2 then some (nI (zP σ), w) else if x = 3 then some (nI (zY σ), w) else if x = 4 then some (nI (yW d), w) else if x = 5 then some (nI (yP d), w) else if x = 6 then some (nI (yP d - su (yU d)), w) else if x = 7 then some (nI (yS d), w) else if x = 8 then some (nI mk, w) else some (-1, w) := by
      rw [f_X8_size, C.1.2.1.1, C.1.2.2.1, C.1.2.2.2.1, C.1.2.2.2.2.1, C.2.2.1.1, C.2.2.1.2.1, C.2.2.1.2.2.1, C.2.2.1.2.2.2.1, C.2.2.2.1, if_neg x9]
    by_cases c0 : x = 0
    · exact fin _ (e8.trans (if_pos c0)) (e9'.trans (if_pos c0))
    rw [if_neg c0] at e8 e9'
    by_cases c1 : x = 1
    · exact fin _ (e8.trans (if_pos c1)) (e9'.trans (if_pos c1))
    rw [if_neg c1] at e8 e9'
    by_cases c2 : x = 2
    · exact fin _ (e8.trans (if_pos c2)) (e9'.trans (if_pos c2))
    rw [if_neg c2] at e8 e9'
    by_cases c3 : x = 3
    · exact fin _ (e8.trans (if_pos c3)) (e9'.trans (if_pos c3))
    rw [if_neg c3] at e8 e9'
    by_cases c4 : x = 4
    · exact fin _ (e8.trans (if_pos c4)) (e9'.trans (if_pos c4))
    rw [if_neg c4] at e8 e9'
    by_cases c5 : x = 5
    · exact fin _ (e8.trans (if_pos c5)) (e9'.trans (if_pos c5))
    rw [if_neg c5] at e8 e9'
    by_cases c6 : x = 6
    · exact fin _ (e8.trans (if_pos c6)) (e9'.trans (if_pos c6))
    rw [if_neg c6] at e8 e9'
    by_cases c7 : x = 7
    · exact fin _ (e8.trans (if_pos c7)) (e9'.trans (if_pos c7))
    rw [if_neg c7] at e8 e9'
    by_cases c8 : x = 8
    · exact fin _ (e8.trans (if_pos c8)) (e9'.trans (if_pos c8))
    rw [if_neg c8] at e8 e9'
    exact fin _ e8 e9'
  · have e8 : f_X8_size x w = if x = 0 then some (0, w) else if x = 1 then some (0, w) else if x = 2 then some (0, w) else if x = 3 then some (0, w) else if x = 4 then some (0, w) else if x = 5 then some (0, w) else if x = 6 then some (0, w) else if x = 7 then some (0, w) else if x = 8 then some (0, w) else some (-1, w) := by
      rw [f_X8_size, H.1 1 (by omega), H.1 2 (by omega), H.1 8 (by omega), H.1 9 (by omega), H.2.2.2.2 0 (by omega), H.2.2.2.2 1 (by omega), H.2.2.2.2 2 (by omega), H.2.2.2.2 3 (by omega), H.2.2.1, if_neg x9]
    have e9 : f_X9_size x w = (f_X9_within x 0 8 (sI w 130 0 0)).bind fun q22 => if q22.1 = 0 then some (-1, q22.2) else some (0, q22.2) := by
      rw [f_X9_size, if_neg x9, g 130 14 (by omega), H.2.1, if_pos rfl]
    rcases rg_em x 0 8 with ⟨k, _, hk, rfl⟩ | h
    · have e9' : f_X9_size (nI k) w = some (0, sI w 130 0 0) := by
        rw [e9, w9t (lo := 0) (hi := 8) (by omega) hk (by rfl) (by rfl) (by omega), bind_some', if_neg one_ne]
      refine fin 0 ?_ e9'
      rw [e8]
      have : k = 0 ∨ k = 1 ∨ k = 2 ∨ k = 3 ∨ k = 4 ∨ k = 5 ∨ k = 6 ∨ k = 7 ∨ k = 8 := by omega
      rcases this with rfl | rfl | rfl | rfl | rfl | rfl | rfl | rfl | rfl <;> rfl
    · have e9' : f_X9_size x w = some (-1, sI w 130 0 0) := by
        rw [e9, w9f h (by rfl) (by rfl) (by omega) (by omega), bind_some', if_pos rfl]
      refine fin (-1) ?_ e9'
      have ne : ∀ k, k ≤ 8 → x ≠ nI k := fun k hk e => h ⟨k, by omega, hk, e⟩
      rw [e8, if_neg (show ¬ x = 0 from ne 0 (by omega)), if_neg (show ¬ x = 1 from ne 1 (by omega)), if_neg (show ¬ x = 2 from ne 2 (by omega)), if_neg (show ¬ x = 3 from ne 3 (by omega)), if_neg (show ¬ x = 4 from ne 4 (by omega)), if_neg (show ¬ x = 5 from ne 5 (by omega)), if_neg (show ¬ x = 6 from ne 6 (by omega)), if_neg (show ¬ x = 7 from ne 7 (by omega)), if_neg (show ¬ x = 8 from ne 8 (by omega))]
