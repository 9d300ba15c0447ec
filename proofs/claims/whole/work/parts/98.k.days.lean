/-! days: class and reference alike, and the invariant stays -/
theorem isn9 (x : Int32) (w : GW) : f_X9_isNot x w = some (0, sI w 130 11 x) := rfl
theorem d28 {x1 x2 t : Int32} {w : GW} (h : t ≠ 0) : f_X8_day_28 x1 x2 t w = some (0, sI w 0 12 t) := by
  rw [f_X8_day_28, gI_same, if_neg h]
theorem d28_0 {x1 x2 : Int32} {w : GW} : f_X8_day_28 x1 x2 0 w = (f_X2_begin 121 x1 x2 (sI w 0 12 0)).bind fun q7 => some (1, q7.2) := by
  rw [f_X8_day_28, gI_same, if_pos rfl]
/-- a refused call that changes nothing but the trouble -/
theorem ST.r {α : Type} {w : GW} {σ : HS} {d : DS} {mk : Nat} {ms : Nat → DS} {f8 f9 : GW → Option (α × GW)} (T : JTx w) (S : SOK σ d mk ms) (C : CCl w σ d mk ms) (M : MMo w σ d mk ms) (v : α) (t : Int32) (h8 : f8 w = some (v, sI w 0 12 t)) (h9 : ∀ w1, MHl w1 σ → DYm w1 135 0 d → gI w1 130 19 = nI mk → f9 w1 = some (v, sI (gd9 w1) 130 11 t)) (t4 : t ≠ 4 := by decide) : ST w f8 f9 := by
  have K : KC w (sI w 0 12 t) := KC.st
  have e9 := h9 (sI w 0 12 t) (M.1.kc K) (M.2.1.kc K (by omega)) (by rw [gI_sI, if_neg (by omega)]; exact M.2.2.1)
  have hK : KM (sI w 0 12 t) (sI (gd9 (sI w 0 12 t)) 130 11 t) := by
    refine ⟨fun p j x => ⟨?_, rfl⟩, fun _ => rfl⟩
    rw [gI_sI, if_neg (by omega)]
    unfold gd9
    rw [gI_sI, if_neg (by omega), gI_sI, if_neg (by omega)]
  have hmk := S.2.2.1
  refine ⟨v, _, _, h8, e9, T.kk K hK (gI_same _ _ _ _) (gI_same _ _ _ _) t4, Or.inl ⟨σ, d, mk, ms, S, ⟨?_, (C.2.1.tr S.1).km S.1 hK, ?_, ?_, fun i hi => ?_⟩, ?_, ?_, ?_, fun i hi => ?_⟩⟩
  · have h1 := CHl.kc S.1 C.1 K
    exact h1.of S.1.2.2.1.2 S.1.2.2.2.1 (fun p j x y => (hK.1 p j (by omega)).1)
  · exact (C.2.2.1.kc K (by omega)).of (fun j => (hK.1 121 j (by omega)).1) (fun j => (hK.1 122 j (by omega)).1)
  · rw [(hK.1 0 11 (by omega)).1, gI_sI, if_neg (by omega)]; exact C.2.2.2.1
  · exact ((C.2.2.2.2 i hi).kc K (by omega)).of (fun j => (hK.1 _ j (by omega)).1) (fun j => (hK.1 _ j (by omega)).1)
  · exact (M.1.kc K).km hK
  · exact (M.2.1.kc K (by omega)).of (fun j => (hK.1 135 j (by omega)).1)
  · rw [(hK.1 130 19 (by omega)).1, gI_sI, if_neg (by omega)]; exact M.2.2.1
  · exact ((M.2.2.2 i hi).kc K (by omega)).of (fun j => (hK.1 136 j (by omega)).1)
/-- the same with no hall -/
theorem ST.z0 {α : Type} {w : GW} {f8 f9 : GW → Option (α × GW)} (T : JTx w) (H : J0 w) (v : α) (t : Int32) (h8 : f8 w = some (v, sI w 0 12 t)) (h9 : ∀ w1, gI w1 130 14 = 0 → gI w1 130 19 = 0 → f9 w1 = some (v, sI (gd9 w1) 130 11 t)) (t4 : t ≠ 4 := by decide) : ST w f8 f9 := by
  have K : KC w (sI w 0 12 t) := KC.st
  have e9 := h9 (sI w 0 12 t) (by rw [gI_sI, if_neg (by omega)]; exact H.2.1) (by rw [gI_sI, if_neg (by omega)]; exact H.2.2.2.1)
  have hK : KM (sI w 0 12 t) (sI (gd9 (sI w 0 12 t)) 130 11 t) := by
    refine ⟨fun p j x => ⟨?_, rfl⟩, fun _ => rfl⟩
    rw [gI_sI, if_neg (by omega)]
    unfold gd9
    rw [gI_sI, if_neg (by omega), gI_sI, if_neg (by omega)]
  exact ⟨v, _, _, h8, e9, T.kk K hK (gI_same _ _ _ _) (gI_same _ _ _ _) t4, Or.inr (H.kk K hK)⟩
theorem s_day {w : GW} (H : JJ w) (x1 x2 : Int32) : ST w (f_X8_day x1 x2) (f_X9_day x1 x2) := by
  obtain ⟨T, ⟨σ, d, mk, ms, S, C, M⟩ | H⟩ := H
  rotate_left
  · refine ST.z0 T H 0 1 ?_ (fun w1 h _ => ?_)
    · rw [f_X8_day, zP8 H, bind_some', if_pos rfl, d28 (by decide)]
    · rw [f_X9_day, good9, bind_some', zP9 (show gI (gd9 w1) 130 14 = 0 from h), bind_some', if_pos rfl, isn9, bind_some']
  have hs := S.1
  have CQw : CQ w σ := ⟨hs, C.1, C.2.1⟩
  rcases rg_em x1 0 (zP σ - 1) with ⟨p, _, hp, rfl⟩ | h1
  rotate_left
  · refine ST.r T S C M 0 1 ?_ (fun w1 M1 _ _ => ?_)
    · rw [f_X8_day, isP8_f CQw h1, bind_some', if_pos rfl, d28 (by decide)]
    · rw [f_X9_day, good9, bind_some', isP9_f hs M1.gd h1, bind_some', if_pos rfl, isn9, bind_some']
  have hp : p < zP σ := by have := hs.2.2.1; omega
  rcases rg_em x2 0 65536 with ⟨s, _, hs6, rfl⟩ | h2
  rotate_left
  · refine ST.r T S C M 0 2 ?_ (fun w1 M1 _ _ => ?_)
    · rw [f_X8_day, isP8_t CQw hp, bind_some', if_neg one_ne]
      dsimp only
      rw [f_X8_day_23]
      have e := rg_its (X := f_X8_day_28 (nI p) x2 2 w) (Y := f_X8_day_28 (nI p) x2 0 w) (lo := 0) (hi := 65537) (lo' := 0) (hi' := 65537) h2 rfl rfl (by omega) (by omega)
      rw [e, d28 (by decide)]
    · rw [f_X9_day, good9, bind_some', isP9_t hs M1.gd hp, bind_some', if_neg one_ne, w9f h2 (by rfl) (by rfl) (by omega) (by omega), bind_some', if_pos rfl, isn9, bind_some']
  obtain ⟨w1, a1, a2⟩ := begin8 (w := sI w 0 12 0) (p := p) (s := s)
  have e8 : f_X8_day (nI p) (nI s) w = some (1, w1) := by
    rw [f_X8_day, isP8_t CQw hp, bind_some', if_neg one_ne]
    dsimp only
    have e := rg_itst (X := f_X8_day_23 (nI p) (nI s) w) (Y := f_X8_day_28 (nI p) (nI s) 0 w) (n := s) (lo := 0) (hi := 65537) (lo' := 0) (hi' := 65537) (by omega) (by omega) rfl rfl (by omega)
    rw [e, d28_0, a1, bind_some']
  have S1 := fr_X8_day _ _ _ e8
  have S1' := fr_X2_begin _ _ _ _ a1
  have K : KD w w1 := KD.sm S1 (by decide) (by decide)
  obtain ⟨w2, b1, b2⟩ := begin9 (w := gd9 w1) (p := p) (s := s)
  have M1 : MHl w1 σ := M.1.kd K
  have e9 : f_X9_day (nI p) (nI s) w1 = some (1, w2) := by
    rw [f_X9_day, good9, bind_some', isP9_t hs M1.gd hp, bind_some', if_neg one_ne, w9t (lo := 0) (hi := 65536) (by omega) hs6 (by rfl) (by rfl) (by omega), bind_some', if_neg one_ne, b1, bind_some']
  have S2 := fr_X9_begin _ _ _ b1
  have E : KE w1 w2 := KE.sm (fr_X9_day _ _ _ e9) (by decide) rfl
  refine ⟨1, w1, w2, e8, e9, JJ.cl T C.1 C.2.1 M.1 K E (t := 0) ?_ ?_ (by decide) ⟨hs, d0_ok hs hp (by omega), S.2.2⟩ a2 ?_ (fun i hi => ?_) b2 ?_ (fun i hi => ?_)⟩
  · rw [S1'.I 0 12 rfl, gI_same]
  · rw [S2.I 130 11 rfl]; exact gd9_t
  · rw [S1.I 0 11 rfl]; exact C.2.2.2.1
  · have hmk := S.2.2.1
    exact (C.2.2.2.2 i hi).of (fun j => S1.I _ j (by simp [md, L_X8_day]; omega)) (fun j => S1.I _ j (by simp [md, L_X8_day]; omega))
  · rw [S2.I 130 19 rfl]
    show gI w1 130 19 = nI mk
    rw [K.1 _ _ (by omega) (by omega)]; exact M.2.2.1
  · exact ((M.2.2.2 i hi).kd K (by omega)).of (fun j => by rw [S2.I 136 j rfl]; rfl)
section PU
variable {σ : HS} {w : GW}
noncomputable def ptN (σ : HS) (d : DS) : Nat → DS
  | 0 => d
  | n + 1 => ptS σ (ptN σ d n)
theorem pt_P (d : DS) : yP (ptS σ d) = yP d + 1 ∧ yW (ptS σ d) = yW d := by
  unfold ptS
  rcases drS_dec (pE (zE σ)) (yP d + 1) with q | q
  · rw [if_pos q]; exact ⟨rfl, rfl⟩
  · rw [if_neg q]; exact ⟨rfl, rfl⟩
theorem ptN_P (d : DS) : ∀ n, yP (ptN σ d n) = yP d + n ∧ yW (ptN σ d n) = yW d := by
  intro n
  induction n with
  | zero => exact ⟨rfl, rfl⟩
  | succ n ih =>
    obtain ⟨a, b⟩ := pt_P (σ := σ) (ptN σ d n)
    exact ⟨by rw [ptN, a, ih.1]; omega, by rw [ptN, b, ih.2]⟩
theorem ptN_ok (hs : HSok σ) {d : DS} (h : DOK σ d) : ∀ n, yP d + n ≤ zL σ → DOK σ (ptN σ d n) := by
  intro n
  induction n with
  | zero => intro _; exact h
  | succ n ih =>
    intro hn
    exact pt_ok hs (ih (by omega)) (by rw [(ptN_P d n).1]; omega)
theorem put105 (hs : HSok σ) {d : DS} (h : DOK σ d) {c : Nat} (hc : yP d + c ≤ zL σ) : ∀ t i n (w : GW), i + t = c → t < n → CX w (zE σ) (zR σ (yW d)) (zH σ (yW d)) (zG σ (yW d)) → DYc w 121 (ptN σ d i) → ∃ w', f_X8_put_105 n (nI c) (nI i) w = some (nI c, w') ∧ DYc w' 121 (ptN σ d c) ∧ gI w' 0 12 = 0 := by
  have hL := hs.2.1
  intro t
  induction t with
  | zero =>
    intro i n w hi hn X D
    obtain ⟨n, rfl⟩ : ∃ m9, n = m9 + 1 := ⟨n - 1, by omega⟩
    have : i = c := by omega
    subst this
    refine ⟨sI w 0 12 0, ?_, D.of (fun j => by rw [gI_sI, if_neg (by omega)]) (fun j => by rw [gI_sI, if_neg (by omega)]), gI_same _ _ _ _⟩
    rw [f_X8_put_105, if_pos ((le_nI (by omega) (by omega)).mpr (by omega))]; rfl
  | succ t ih =>
    intro i n w hi hn X D
    obtain ⟨n, rfl⟩ : ∃ m9, n = m9 + 1 := ⟨n - 1, by omega⟩
    have X' : CX w (zE σ) (zR σ (yW (ptN σ d i))) (zH σ (yW (ptN σ d i))) (zG σ (yW (ptN σ d i))) := by rw [(ptN_P d i).2]; exact X
    obtain ⟨w1, a1, a2⟩ := putD8 hs (ptN_ok hs h i (by omega)) (by rw [(ptN_P d i).1]; omega) X' D
    have S := fr_X1_putByDraws _ _ a1
    obtain ⟨w', b1, b2, b3⟩ := ih (i + 1) n w1 (by omega) (by omega) (X.sm S (fun p j hp => by simp [md, L_X1_putByDraws]; omega) (by decide) (by decide)) a2
    refine ⟨w', ?_, b2, b3⟩
    rw [f_X8_put_105, if_neg (fun q9 => absurd ((le_nI (by omega) (by omega)).mp q9) (by omega)), a1, bind_some', nI_1]
    exact b1
theorem put58 (hs : HSok σ) {d : DS} (h : DOK σ d) {k c : Nat} (hk : k ≤ 8) (hc : c = min k (zL σ - yP d)) : ∀ t i n (w : GW), i + t = c → t < n → MHl w σ → DYm w 135 0 (ptN σ d i) → ∃ w', f_X9_put_58 n (nI k) (nI i) w = some (nI c, w') ∧ DYm w' 135 0 (ptN σ d c) ∧ gI w' 130 11 = gI w 130 11 ∧ ∀ j, gI w' 136 j = gI w 136 j ∧ gI w' 130 19 = gI w 130 19 := by
  have hL := hs.2.1
  have hyl := h.2.2.1
  intro t
  induction t with
  | zero =>
    intro i n w hi hn M D
    obtain ⟨n, rfl⟩ : ∃ m9, n = m9 + 1 := ⟨n - 1, by omega⟩
    have : i = c := by omega
    subst this
    refine ⟨w, ?_, D, rfl, fun _ => ⟨rfl, rfl⟩⟩
    have h6 := st6 D
    rw [(ptN_P d i).1] at h6
    rw [f_X9_put_58]
    by_cases z : k ≤ i
    · rw [if_pos ((le_nI (by omega) (by omega)).mpr (by omega))]
    · rw [if_neg (fun q9 => absurd ((le_nI (by omega) (by omega)).mp q9) (by omega)), if_pos (show inb _ _ from by decide), if_pos (show inb _ _ from by decide), show ix (1 : Int32) = 1 from by decide, show ix (6 : Int32) = 6 from by decide, M.2.2.1, h6, if_pos ((le_nI (by omega) (by omega)).mpr (by omega))]
  | succ t ih =>
    intro i n w hi hn M D
    obtain ⟨n, rfl⟩ : ∃ m9, n = m9 + 1 := ⟨n - 1, by omega⟩
    have h6 := st6 D
    rw [(ptN_P d i).1] at h6
    obtain ⟨w1, a1, a2⟩ := putO9 hs (ptN_ok hs h i (by omega)) (by rw [(ptN_P d i).1]; omega) M D
    have S := fr_X9_putOne _ a1
    obtain ⟨w', b1, b2, b3, b4⟩ := ih (i + 1) n w1 (by omega) (by omega) (M.of (S.I _ _ rfl) (fun j => S.I _ j rfl)) a2
    refine ⟨w', ?_, b2, b3.trans (S.I 130 11 rfl), fun j => ⟨(b4 j).1.trans (S.I 136 j rfl), (b4 j).2.trans (S.I 130 19 rfl)⟩⟩
    rw [f_X9_put_58, if_neg (fun q9 => absurd ((le_nI (by omega) (by omega)).mp q9) (by omega)), if_pos (show inb _ _ from by decide), if_pos (show inb _ _ from by decide), show ix (1 : Int32) = 1 from by decide, show ix (6 : Int32) = 6 from by decide, M.2.2.1, h6, if_neg (fun q9 => absurd ((le_nI (by omega) (by omega)).mp q9) (by omega)), a1, bind_some', nI_1]
    exact b1
end PU
theorem s_put {w : GW} (H : JJ w) (x : Int32) : ST w (f_X8_put x) (f_X9_put x) := by
  obtain ⟨T, ⟨σ, d, mk, ms, S, C, M⟩ | H⟩ := H
  rotate_left
  · refine ST.z0 T H (-1) 1 ?_ (fun w1 h _ => ?_)
    · rw [f_X8_put, H.1 0 (by omega), if_pos rfl]; rfl
    · rw [f_X9_put, good9, bind_some', if_pos (show gI (gd9 w1) 130 14 = 0 from h)]; rfl
  have hs := S.1
  have hL := hs.2.1
  have h := S.2.1
  have CQw : CQ w σ := ⟨hs, C.1, C.2.1⟩
  rcases rg_em x 1 8 with ⟨k, hk1, hk, rfl⟩ | h1
  rotate_left
  · refine ST.r T S C M (-1) 2 ?_ (fun w1 M1 _ _ => ?_)
    · rw [f_X8_put, C.1.1, if_neg one_ne, rg_ite h1 (by rfl) (by rfl) (by omega) (by omega)]; rfl
    · rw [f_X9_put, good9, bind_some', show gI (gd9 w1) 130 14 = 1 from M1.gd.1, if_neg one_ne, w9f h1 (by rfl) (by rfl) (by omega) (by omega), bind_some', if_pos rfl]; rfl
  have hyl := h.2.2.1
  have e9 : ∀ w1, MHl w1 σ → DYm w1 135 0 d → f_X9_put (nI k) w1 = if nI (yP d) = nI (zL σ) then (f_X9_no 6 (gd9 w1)).bind fun q17 => some (q17.1, q17.2) else f_X9_put_58 fu (nI k) 0 (gd9 w1) := by
    intro w1 M1 D1
    rw [f_X9_put, good9, bind_some', show gI (gd9 w1) 130 14 = 1 from M1.gd.1, if_neg one_ne, w9t (lo := 1) (hi := 8) hk1 hk (by rfl) (by rfl) (by omega), bind_some', if_neg one_ne, if_pos (show inb _ _ from by decide), if_pos (show inb _ _ from by decide), show ix (6 : Int32) = 6 from by decide, show ix (1 : Int32) = 1 from by decide]
    dsimp only
    rw [show gI (gd9 w1) 135 6 = nI (yP d) from st6 D1, M1.gd.2.2.1]
  by_cases hp : yP d < zL σ
  rotate_left
  · refine ST.r T S C M (-1) 6 ?_ (fun w1 M1 D1 _ => ?_)
    · rw [f_X8_put, C.1.1, if_neg one_ne, rg_itt (lo := 1) (hi := 8) hk1 hk (by rfl) (by rfl) (by omega), C.2.2.1.2.2.1, C.1.2.2.1, if_neg (fun q9 => absurd ((lt_nI (by omega) (by omega)).mp q9) (by omega))]; rfl
    · rw [e9 w1 M1 D1, if_pos ((eq_nI (by omega) (by omega)).mpr (by omega))]; rfl
  obtain ⟨w6, a1, a2, a3, a4, a5, a6⟩ := readyQ CQw h.1
  have D6 : DYc w6 121 (ptN σ d 0) := C.2.2.1.of (fun j => a4 _ j) (fun j => a4 _ j)
  obtain ⟨w1, b1, b2, b3⟩ := put105 hs h (c := min k (zL σ - yP d)) (by omega) (min k (zL σ - yP d)) 0 fu w6 (by omega) (fu_gt (by omega)) a2 D6
  have e8 : f_X8_put (nI k) w = some (nI (min k (zL σ - yP d)), w1) := by
    have h6 := hs.2.2.1.2
    have hw := h.1
    rw [f_X8_put, C.1.1, if_neg one_ne, rg_itt (lo := 1) (hi := 8) hk1 hk (by rfl) (by rfl) (by omega), C.2.2.1.2.2.1, C.1.2.2.1, if_pos ((lt_nI (by omega) (by omega)).mpr (by omega)), C.2.2.1.1, if_pos ((inb_nI (by omega)).mpr (by omega)), ix_nI (by omega), a1, bind_some']
    dsimp only
    rw [a5.2.1.2.2.1, show gI w6 121 2 = nI (yP d) from D6.2.2.1, pk_sub (by omega), jmin_nI (by omega) (by omega), show (0 : Int32) = nI 0 from rfl]
    exact b1
  have S1 := fr_X8_put _ _ e8
  have K : KD w w1 := KD.sm S1 (by decide) (by decide)
  have M1 : MHl w1 σ := M.1.kd K
  have D1 : DYm w1 135 0 d := M.2.1.kd K (by omega)
  obtain ⟨w2, c1, c2, c3, c4⟩ := put58 hs h hk (c := min k (zL σ - yP d)) rfl (min k (zL σ - yP d)) 0 fu (gd9 w1) (by omega) (fu_gt (by omega)) M1.gd (show DYm (gd9 w1) 135 0 d from D1)
  have e9' : f_X9_put (nI k) w1 = some (nI (min k (zL σ - yP d)), w2) := by
    rw [e9 w1 M1 D1, if_neg (fun q9 => absurd ((eq_nI (by omega) (by omega)).mp q9) (by omega))]
    exact c1
  have E : KE w1 w2 := KE.sm (fr_X9_put _ _ e9') (by decide) rfl
  have hmk := S.2.2.1
  refine ⟨_, w1, w2, e8, e9', JJ.cl T C.1 C.2.1 M.1 K E (t := 0) b3 (by rw [c3]; exact gd9_t) (by decide) ⟨hs, ptN_ok hs h _ (by omega), S.2.2⟩ b2 ?_ (fun i hi => ?_) c2 ?_ (fun i hi => ?_)⟩
  · rw [S1.I 0 11 rfl]; exact C.2.2.2.1
  · exact (C.2.2.2.2 i hi).of (fun j => S1.I _ j (by simp [md, L_X8_put]; omega)) (fun j => S1.I _ j (by simp [md, L_X8_put]; omega))
  · rw [(c4 0).2]
    show gI w1 130 19 = nI mk
    rw [K.1 _ _ (by omega) (by omega)]; exact M.2.2.1
  · exact ((M.2.2.2 i hi).kd K (by omega)).of (fun j => by rw [(c4 j).1]; rfl)
