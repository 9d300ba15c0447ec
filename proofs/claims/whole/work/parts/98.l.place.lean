/-! place, marks, and the rest of what is asked -/
section PL
variable {σ : HS} {w : GW}
theorem slB_ok (hs : HSok σ) {d : DS} (h : DOK σ d) {b s : Nat} (hS : slB (zE σ) (yU d) (cwD σ d) b s) : s ≤ 5 ∧ (zR σ (yW d) ≠ 4 → s = 0) ∧ goT (pB (zE σ)) (pR (zE σ)) (yU d) b = some b := by
  have hk := h.2.2.2.1
  have hB0 := hs.1.1
  have hg : ∃ t, t < pB (zE σ) ∧ goT (pB (zE σ)) (pR (zE σ)) (yU d) t = some b := by
    obtain ⟨t, t1, _, t3, _⟩ := hS
    exact ⟨t, t1, t3⟩
  obtain ⟨t, t1, t3⟩ := hg
  have hr := goS_some _ _ _ t1 t3
  have hb : goT (pB (zE σ)) (pR (zE σ)) (yU d) b = some b := by
    unfold goT
    obtain ⟨n, hn⟩ : ∃ n, pB (zE σ) = n + 1 := ⟨pB (zE σ) - 1, by omega⟩
    generalize hB : pB (zE σ) = B at hn
    rw [hn, goS, if_pos hr.2]
  refine ⟨by obtain ⟨_, _, x, _⟩ := hS; omega, fun z => ?_, hb⟩
  rcases drS_dec (pE (zE σ)) (yP d + 1) with q | q
  · obtain ⟨t, t1, t2, t3, t4⟩ := hS
    rw [cwD_door q, h.2.2.2.2.1 z] at t4
    by_cases y : t * 6 + s = pD (zE σ) * 6 + 0
    · omega
    · rw [if_neg y] at t4; omega
  · obtain ⟨m, m1, t, t1, t2, t3⟩ := (slB_S9 hs h q s).mp hS
    rw [← t3]
    unfold spU spS
    rw [if_neg z, h.2.2.2.2.1 z]
theorem nI_ge0 {s : Nat} (h : s < 2147483648) : (0 : Int32) ≤ nI s := (le_nI (a := 0) (by omega) h).mpr (Nat.zero_le _)
end PL
theorem s_place {w : GW} (H : JJ w) (x : Int32) : ST w (f_X8_place x) (f_X9_place x) := by
  obtain ⟨T, ⟨σ, d, mk, ms, S, C, M⟩ | H⟩ := H
  rotate_left
  · refine ST.z0 T H (-1) 1 ?_ (fun w1 h _ => ?_)
    · rw [f_X8_place, f_X8_isNextRefused, zB8 H, bind_some', if_pos rfl, inr36, bind_some']; rfl
    · rw [f_X9_place, good9, bind_some', zB9 (show gI (gd9 w1) 130 14 = 0 from h), bind_some', if_pos rfl]; rfl
  have hs := S.1
  have hL := hs.2.1
  have h := S.2.1
  have hB0 := hs.1.1
  have hB5 := hs.1.2.1
  have h6 := hs.2.2.1.2
  have hwho := h.1
  have CQw : CQ w σ := ⟨hs, C.1, C.2.1⟩
  rcases rg_em x 0 (pB (zE σ) - 1) with ⟨b, _, hb, rfl⟩ | h1
  rotate_left
  · refine ST.r T S C M (-1) 1 ?_ (fun w1 M1 _ _ => ?_)
    · rw [f_X8_place, inr_b CQw h1, bind_some', if_neg one_ne]
    · rw [f_X9_place, good9, bind_some', isB9_f hs M1.gd h1, bind_some', if_pos rfl]; rfl
  have hb : b < pB (zE σ) := by omega
  have hyl := h.2.2.1
  by_cases hp : yP d < zL σ
  rotate_left
  · refine ST.r T S C M (-1) 6 ?_ (fun w1 M1 D1 _ => ?_)
    · rw [f_X8_place, inr_l CQw C.2.2.1 h hb hp, bind_some', if_neg one_ne]
    · rw [f_X9_place, good9, bind_some', isB9_t hs M1.gd hb, bind_some', if_neg one_ne, if_pos (show inb _ _ from by decide), if_pos (show inb _ _ from by decide), show ix (6 : Int32) = 6 from by decide, show ix (1 : Int32) = 1 from by decide]
      dsimp only
      rw [show gI (gd9 w1) 135 6 = nI (yP d) from st6 D1, M1.gd.2.2.1, if_pos ((eq_nI (by omega) (by omega)).mpr (by omega))]; rfl
  obtain ⟨w6, w8, a1, a2, a3, a4, a5, a6, a7, a8⟩ := weighQ (CQw.st 0) (C.2.2.1.kc KC.st (by omega)) h hp
  obtain ⟨hu8, _⟩ := h.u8 hs
  have D8 : DYc w8 121 d := (C.2.2.1.kc (KC.st (v := 0)) (by omega)).of (fun j => a6 _ j) (fun j => a6 _ j)
  obtain ⟨v, b1, b2⟩ := slotB8 hs.1 a3 D8.2.2.2.2.2 hu8 a4 (cwD_lt hs d) (b := b) (by omega)
  have e8 : f_X8_place (nI b) w = if 0 ≤ v then (f_X2_land 121 (fxH (gR w8 0)) (nI b) v w8).bind fun q13 => if inb (nI b) 5 then (f_X8_fine (gI q13.2 (121 + 1) (ix (nI b))) q13.2).bind fun q16 => some (q16.1, q16.2) else none else (f_X8_refuse 5 w8).bind fun q18 => some (q18.1, q18.2) := by
    have a1' : f_X1_ready (fxH (gR (sI w 0 12 0) 0)) (fxH (gR (sI w 0 12 0) 0) + 4 + 1 + yW d) (sI w 0 12 0) = some ((), w6) := a1
    have d6 : DYc w6 121 d := (C.2.2.1.kc (KC.st (v := 0)) (by omega)).of (fun j => a5 _ j) (fun j => a5 _ j)
    have a2' : f_X1_weigh (121 + 1) (nI (yK d)) (nI (yP d + 1)) w6 = some ((), w8) := a2
    have b1' : f_X1_slotBehind (121 + 1) (nI b) w8 = some (v, w8) := b1
    rw [f_X8_place, inr_g CQw C.2.2.1 h hb hp, bind_some', if_pos rfl]
    dsimp only
    rw [show gI (sI w 0 12 0) 121 0 = nI (yW d) from (C.2.2.1.kc (KC.st (v := 0)) (by omega)).1, if_pos ((inb_nI (by omega)).mpr (by omega)), ix_nI (by omega), a1', bind_some']
    dsimp only
    rw [d6.2.2.2.2.1, d6.2.2.1, nI_1, a2', bind_some']
    dsimp only
    rw [b1', bind_some']
  have K08 : KC w w8 := KC.st.tr a8
  have e9 : ∀ w1, MHl w1 σ → DYm w1 135 0 d → f_X9_place (nI b) w1 = (f_X9_layGoes (nI b) (gd9 w1)).bind fun q10 => if (gL q10.2 130 37) = 0 then f_X9_place_64 q10.2 else if (gI q10.2 130 39) = (-6) then f_X9_place_64 q10.2 else (f_X9_layDay q10.2).bind fun q16 => (f_X9_moves (gI (sI (sI (sI q16.2 137 b ((gI q16.2 137 b) + 1)) 130 22 (gI (sI q16.2 137 b ((gI q16.2 137 b) + 1)) 130 39)) 135 6 ((gI (sI (sI q16.2 137 b ((gI q16.2 137 b) + 1)) 130 22 (gI (sI q16.2 137 b ((gI q16.2 137 b) + 1)) 130 39)) 135 6) + 1)) 135 6) (sI (sI (sI q16.2 137 b ((gI q16.2 137 b) + 1)) 130 22 (gI (sI q16.2 137 b ((gI q16.2 137 b) + 1)) 130 39)) 135 6 ((gI (sI (sI q16.2 137 b ((gI q16.2 137 b) + 1)) 130 22 (gI (sI q16.2 137 b ((gI q16.2 137 b) + 1)) 130 39)) 135 6) + 1))).bind fun q23 => (f_X9_keepDay q23.2).bind fun q25 => some ((gI q25.2 135 b), q25.2) := by
    intro w1 M1 D1
    rw [f_X9_place, good9, bind_some', isB9_t hs M1.gd hb, bind_some', if_neg one_ne, if_pos (show inb _ _ from by decide), if_pos (show inb _ _ from by decide), show ix (6 : Int32) = 6 from by decide, show ix (1 : Int32) = 1 from by decide]
    dsimp only
    have i5 : inb (nI b) 5 := (inb_nI (by omega)).mpr (by omega)
    have i9 : inb (nI b) 9 := (inb_nI (by omega)).mpr (by omega)
    have i6 : inb 6 9 := by decide
    have xb : ix (nI b) = b := ix_nI (by omega)
    have x6 : ix 6 = 6 := by decide
    rw [show gI (gd9 w1) 135 6 = nI (yP d) from st6 D1, M1.gd.2.2.1, if_neg (fun q9 => absurd ((eq_nI (by omega) (by omega)).mp q9) (by omega))]
    simp only [if_pos i5, if_pos i9, if_pos i6, xb, x6]
  rcases b2 with ⟨s, hs6, rfl, hone⟩ | ⟨rfl, hno⟩
  · obtain ⟨o1, o2, o3⟩ := slB_ok hs h hone.1
    have hH8 : HCl w8 (fxH (gR w8 0)) (zE σ) := a7.2.1.2.1
    obtain ⟨w9, c1, c2⟩ := land8 (sl := s) hs h hp hH8 D8 hb
    have SL := fr_X2_land _ _ _ _ _ c1
    have eL : ldH (zE σ) (yU d) b = upM (yU d) (some b) := by unfold ldH; rw [o3]
    have e8' : f_X8_place (nI b) w = some (nI (yU (lnS σ d (yS d) b s) b), sI w9 0 12 0) := by
      rw [e8, if_pos (nI_ge0 (by omega)), c1, bind_some', if_pos ((inb_nI (by omega)).mpr (by omega)), ix_nI (by omega)]
      show (f_X8_fine (gI w9 122 b) w9).bind _ = _
      rw [c2.2.2.2.2.2 b (by omega)]; rfl
    have S1 := fr_X8_place _ _ e8'
    have K : KD w (sI w9 0 12 0) := KD.sm S1 (by decide) (by decide)
    have M1 : MHl (sI w9 0 12 0) σ := M.1.kd K
    have D1 : DYm (sI w9 0 12 0) 135 0 d := M.2.1.kd K (by omega)
    obtain ⟨v2, W, A, K2, g1, g2, g3, g4, g5, g6, g7, g8, g9, g10, g11, g12⟩ := layGoes9 hs h hp M1.gd (show DYm (gd9 (sI w9 0 12 0)) 135 0 d from D1) hb
    have hW0 : W ≠ 0 := fun z => g10 z s hone.1
    have SG := fr_X9_layGoes _ _ g1
    rcases g9 hW0 with ⟨s', _, hK2, hone'⟩ | ⟨_, hno⟩
    rotate_left
    · exact absurd ⟨s, hone⟩ hno
    have hss : s' = s := hone.2 s' hone'.1
    subst hss
    obtain ⟨v3, l1, l2⟩ := layDay9 h.2.2.2.1 g12
    have SLD := fr_X9_layDay _ l1
    have L3 : LK (sI (sI (sI v3 137 b (nI (yU d b + 1))) 130 22 (kI s')) 135 6 (nI (yP d + 1))) (ldH (zE σ) (yU d) b) s' := by
      refine ⟨fun c hc => ?_, ?_⟩
      · rw [gI_sI, if_neg (by omega), gI_sI, if_neg (by omega), gI_sI, eL]
        unfold upM
        by_cases z : c = b
        · rw [if_pos ⟨rfl, z⟩, if_pos (by rw [z]), z]
        · rw [if_neg (fun y => z y.2), if_neg (fun y => z (by cases y; rfl))]
          exact l2.1 c hc
      · rw [gI_sI, if_neg (by omega), gI_same]
    have M3 : MHl (sI (sI (sI v3 137 b (nI (yU d b + 1))) 130 22 (kI s')) 135 6 (nI (yP d + 1))) σ := (g11.km (KM.sm SLD (by decide) rfl)).of (by rw [gI_sI, if_neg (by omega), gI_sI, if_neg (by omega), gI_sI, if_neg (by omega)]) (fun j => by rw [gI_sI, if_neg (by omega), gI_sI, if_neg (by omega), gI_sI, if_neg (by omega)])
    obtain ⟨v4, m1, m2⟩ := moves_LK (n := yP d + 1) hs.1 M3.2.1 L3 (ldH_le hs.1 hb hu8) (by omega)
    have SM := fr_X9_moves _ _ m1
    obtain ⟨v5, n1, n2, n3, n4⟩ := keepDay9 o1 m2
    have SK := fr_X9_keepDay _ n1
    have hl5 : gI v3 137 b = nI (yU d b) := l2.1 b (by omega)
    have h39 : gI (sI v3 137 b (nI (yU d b + 1))) 130 39 = kI s' := by rw [gI_sI, if_neg (by omega), SLD.I 130 39 rfl, g4, hK2]
    have h6' : gI (sI (sI v3 137 b (nI (yU d b + 1))) 130 22 (kI s')) 135 6 + 1 = nI (yP d + 1) := by
      rw [gI_sI, if_neg (by omega), gI_sI, if_neg (by omega), SLD.I 135 6 rfl, st6 g12, nI_1]
    have e9' : f_X9_place (nI b) (sI w9 0 12 0) = some (nI (yU (lnS σ d (yS d) b s') b), v5) := by
      rw [e9 _ M1 D1, g1, bind_some']
      dsimp only
      rw [g2, if_neg (fun y => hW0 ((leq0 (by omega)).mp y)), g4, hK2, if_neg (kI_m6 (by omega)), l1, bind_some']
      dsimp only
      rw [hl5, nI_1, h39, h6', gI_same, m1, bind_some']
      dsimp only
      rw [n1, bind_some']
      show some (gI v5 135 b, v5) = _
      rw [n2 b (by omega)]; rfl
    have E : KE (sI w9 0 12 0) v5 := KE.sm (fr_X9_place _ _ e9') (by decide) rfl
    have hmk := S.2.2.1
    have DK : DOK σ (lnS σ d (yS d) b s') := ln_ok hs h hp h.2.1 hb o1 o2
    have chain : ∀ p j, (p = 135 ∧ 5 ≤ j ∧ j ≠ 7 ∧ j ≠ 6) ∨ p = 136 ∨ (p = 130 ∧ (j = 11 ∨ j = 19)) → gI v5 p j = gI (gd9 (sI w9 0 12 0)) p j := by
      intro p j hpj
      have hz : gI v5 p j = gI v4 p j := by
        rcases hpj with ⟨rfl, q1, q2, _⟩ | rfl | ⟨rfl, _⟩
        · exact n4 j q1 q2
        · exact SK.I 136 j rfl
        · exact SK.I 130 j (by simp [md, L_X9_keepDay])
      rw [hz, SM.I p j (by simp [md, L_X9_moves]; omega), gI_sI, if_neg (by omega), gI_sI, if_neg (by omega), gI_sI, if_neg (by omega), SLD.I p j (by simp [md, L_X9_layDay]; omega), SG.I p j (by simp [md, L_X9_layGoes]; omega)]
    refine ⟨_, _, v5, e8', e9', JJ.cl T C.1 C.2.1 M.1 K E (t := 0) (gI_same _ _ _ _) (by rw [chain _ _ (by omega)]; exact gd9_t) (by decide) ⟨hs, DK, S.2.2⟩ (c2.of (fun j => by rw [gI_sI, if_neg (by omega)]) (fun j => by rw [gI_sI, if_neg (by omega)])) ?_ (fun i hi => ?_) ⟨fun c hc => ?_, ?_, ?_, ?_, ?_⟩ ?_ (fun i hi => ?_)⟩
    · rw [S1.I 0 11 rfl]; exact C.2.2.2.1
    · exact (C.2.2.2.2 i hi).of (fun j => S1.I _ j (by simp [md, L_X8_place]; omega)) (fun j => S1.I _ j (by simp [md, L_X8_place]; omega))
    · rw [Nat.zero_add]; exact n2 c hc
    · rw [chain _ _ (by omega)]; exact D1.2.1
    · rw [n4 _ (by omega) (by omega), SM.I _ _ rfl]
      exact gI_same _ _ _ _
    · rw [Nat.zero_add]; exact n3
    · rw [chain _ _ (by omega)]; exact D1.2.2.2.2
    · rw [chain _ _ (by omega)]
      show gI (sI w9 0 12 0) 130 19 = nI mk
      rw [K.1 _ _ (by omega) (by omega)]; exact M.2.2.1
    · exact ((M.2.2.2 i hi).kd K (by omega)).of (fun j => by rw [chain _ _ (by omega)]; rfl)
  · have e8' : f_X8_place (nI b) w = some (-1, sI w8 0 12 5) := by
      rw [e8, if_neg (by decide)]; rfl
    have S1 := fr_X8_place _ _ e8'
    have K : KD w (sI w8 0 12 5) := KD.sm S1 (by decide) (by decide)
    have M1 : MHl (sI w8 0 12 5) σ := M.1.kd K
    have D1 : DYm (sI w8 0 12 5) 135 0 d := M.2.1.kd K (by omega)
    obtain ⟨v2, W, A, K2, g1, g2, g3, g4, g5, g6, g7, g8, g9, g10, g11, g12⟩ := layGoes9 hs h hp M1.gd (show DYm (gd9 (sI w8 0 12 5)) 135 0 d from D1) hb
    have SG := fr_X9_layGoes _ _ g1
    have e9' : f_X9_place (nI b) (sI w8 0 12 5) = some (-1, sI v2 130 11 5) := by
      rw [e9 _ M1 D1, g1, bind_some']
      dsimp only
      rw [g2, g4]
      by_cases z : W = 0
      · rw [z, if_pos (show lN 0 = 0 from rfl)]; rfl
      · rw [if_neg (fun y => z ((leq0 (by omega)).mp y))]
        rcases g9 z with ⟨s', _, _, hone'⟩ | ⟨hK6, _⟩
        · exact absurd ⟨s', hone'⟩ hno
        · rw [hK6, if_pos rfl]; rfl
    have E : KE (sI w8 0 12 5) (sI v2 130 11 5) := KE.sm (fr_X9_place _ _ e9') (by decide) rfl
    have hmk := S.2.2.1
    refine ⟨_, _, _, e8', e9', JJ.cl T C.1 C.2.1 M.1 K E (t := 5) (gI_same _ _ _ _) (gI_same _ _ _ _) (by decide) S (D8.of (fun j => by rw [gI_sI, if_neg (by omega)]) (fun j => by rw [gI_sI, if_neg (by omega)])) ?_ (fun i hi => ?_) (g12.of (fun j => by rw [gI_sI, if_neg (by omega)])) ?_ (fun i hi => ?_)⟩
    · rw [S1.I 0 11 rfl]; exact C.2.2.2.1
    · exact (C.2.2.2.2 i hi).of (fun j => S1.I _ j (by simp [md, L_X8_place]; omega)) (fun j => S1.I _ j (by simp [md, L_X8_place]; omega))
    · rw [gI_sI, if_neg (by omega), SG.I 130 19 rfl]
      show gI (sI w8 0 12 5) 130 19 = nI mk
      rw [K.1 _ _ (by omega) (by omega)]; exact M.2.2.1
    · exact ((M.2.2.2 i hi).kd K (by omega)).of (fun j => by rw [gI_sI, if_neg (by omega), SG.I 136 j rfl]; rfl)
