/-! hall, class and reference -/
theorem s_hall {w : GW} (J : JJ w) (x : Int32) : ST w (f_X8_hall x) (f_X9_hall x) := by
  obtain ⟨⟨⟨T, hT, t1, t2, t3⟩, tf, tt, t4, tn⟩, K⟩ := J
  have hzH := fxH_z (gR w 1)
  have hz0 := fxH_z (gR w 0)
  rcases rg_em x 0 T with ⟨n, _, hn, rfl⟩ | hx
  · have hn9 : n ≤ 900 := by omega
    let tp : Nat → Nat := fun j => if j < T then ix (gI w 2 j) else 0
    have tpv : ∀ j, j < T → gI w 2 j = nI (tp j) ∧ tp j < 256 := fun j hj => by
      obtain ⟨_, c, hc, e⟩ := t3 j hj
      have : tp j = c := by
        show (if j < T then ix (gI w 2 j) else 0) = c
        rw [if_pos hj, e, ix_nI (by omega)]
      rw [this]
      exact ⟨e, hc⟩
    have htp : ∀ j, tp j < 256 := fun j => by
      by_cases z : j < T
      · exact (tpv j z).2
      · show (if j < T then ix (gI w 2 j) else 0) < 256
        rw [if_neg z]; omega
    obtain ⟨r, φ', A, B, Cc⟩ := loopJ (H := fxH (gR w 1)) hn9 htp (by omega) (n + 1) 0 φ0 (by omega) (Nat.zero_le _) WF0
    obtain ⟨b, wr, a, FR1, O⟩ := reads8 (w := w) (x := gR w 1) hn9 htp (fun j hj => (tpv j (by omega)).1) A
    have E8 : f_X8_hall (nI n) w = if b = 0 then (f_X8_refuse 4 (sI wr 1 3 0)).bind fun q15 => some (q15.1, q15.2) else (f_X0_begin (fxH (gR (sR (sR (sI wr 1 3 0) 0 (fxH (gR (sI wr 1 3 0) 1))) 1 (fxH (gR (sI wr 1 3 0) 0))) 0)) (sR (sR (sI wr 1 3 0) 0 (fxH (gR (sI wr 1 3 0) 1))) 1 (fxH (gR (sI wr 1 3 0) 0)))).bind fun q9 => (f_X2_begin 121 0 0 q9.2).bind fun q11 => (f_X8_fine (gI (sI q11.2 0 11 0) (fxH (gR (sI q11.2 0 11 0) 0)) 8) (sI q11.2 0 11 0)).bind fun q13 => some (q13.1, q13.2) := by
      rw [f_X8_hall, if_neg (lt0_nI (by omega)), t1, if_pos ((le_nI (by omega) (by omega)).mpr (by omega)), a, bind_some']
    have rest9 : ∀ w1, gI w1 130 2 = nI T → (∀ j, gI w1 131 j = gI w 131 j) → ∃ w', f_X9_hall (nI n) w1 = f_X9_hall_197 w' ∧ XM w' tp n r φ' ∧ FZ w1 w' ∧ gI w' 130 2 = 0 ∧ gI w' 130 11 = 0 := fun w1 h2 h3 => read9 hn9 htp ⟨hn, hT⟩ h2 (fun j hj => by rw [h3, ← (t3 j (by omega)).1]; exact (tpv j (by omega)).1) B
    cases r with
    | inl e =>
      obtain ⟨rfl, o1, o2⟩ := O
      have e8 : f_X8_hall (nI n) w = some (-1, sI (sI wr 1 3 0) 0 12 4) := by
        rw [E8, if_pos rfl, f_X8_refuse, bind_some']
      have g1 : ∀ p j, p ≠ 1 → p ≠ 3 → ¬ (p = 0 ∧ j = 12) → p < fxH (gR w 1) ∨ fxH (gR w 1) + 21 ≤ p → gI (sI (sI wr 1 3 0) 0 12 4) p j = gI w p j := fun p j h1 h3 h0 hr => by
        rw [gI_sI, if_neg (by omega), gI_sI, if_neg (by omega)]
        exact (FR1.1 p j h1 h3 hr).1
      obtain ⟨wz, z1, Z, F, z2, z3⟩ := rest9 (sI (sI wr 1 3 0) 0 12 4) (by rw [g1 _ _ (by omega) (by omega) (by omega) (by omega)]; exact t2) (fun j => g1 _ _ (by omega) (by omega) (by omega) (by omega))
      obtain ⟨_, _, y1, y2, y3⟩ := Z
      have e9 : f_X9_hall (nI n) (sI (sI wr 1 3 0) 0 12 4) = some (-1, sI wz 130 11 4) := by
        rw [z1, f_X9_hall_197, y1, if_neg one_ne, f_X9_no, bind_some']
      have g2 : ∀ p j, ¬ (p = 130 ∧ j = 11) → gI (sI wz 130 11 4) p j = gI wz p j := fun p j h => by rw [gI_sI, if_neg h]
      have g3 : ∀ p j, p ≠ 1 → p ≠ 3 → ¬ (p = 0 ∧ j = 12) → p < fxH (gR w 1) ∨ fxH (gR w 1) + 21 ≤ p → p ≤ 129 ∨ p = 131 ∨ p = 133 ∨ p = 135 ∨ p = 136 ∨ (p = 130 ∧ (j = 14 ∨ j = 19)) → gI (sI wz 130 11 4) p j = gI w p j := fun p j h1 h3 h0 hr hf => by
        rw [g2 _ _ (by omega), (F.1 p j hf).1]; exact g1 p j h1 h3 h0 hr
      have r3 : ∀ r, r ≠ 2 → gR (sI wz 130 11 4) r = gR w r := fun r hr => (F.2 r).trans (FR1.2.2 r hr)
      refine ⟨-1, _, _, e8, e9, ⟨⟨0, by omega, ?_, ?_, fun j hj => by omega⟩, ?_, ?_, fun _ => ?_, ?_⟩, JH.kp (w := w) (fun p j h => g3 p j (by omega) (by omega) (by omega) (by omega) (by omega)) (fun p j h1 h2 => ?_) (r3 0 (by omega)) (r3 3 (by omega)) K⟩
      · rw [g2 _ _ (by omega), (F.1 1 3 (by omega)).1, gI_sI, if_neg (by omega), gI_same]; rfl
      · rw [g2 _ _ (by omega)]; exact z2
      · rw [g2 _ _ (by omega), g2 _ _ (by omega), (F.1 3 3 (by omega)).1, gI_sI, if_neg (by omega), gI_sI, if_neg (by omega), o1, y2]
      · rw [g2 _ _ (by omega), (F.1 0 12 (by omega)).1, gI_same, gI_same]
      · rw [g2 _ _ (by omega), g2 _ _ (by omega), (F.1 3 4 (by omega)).1, gI_sI, if_neg (by omega), gI_sI, if_neg (by omega), o2, y3]
      · rw [r3 0 (by omega), r3 1 (by omega)]; exact tn
      · show gL wz p j = gL w p j
        rw [(F.1 p j (by omega)).2]
        exact (FR1.1 p j (by omega) (by omega) (by omega)).2
    | inr q =>
      obtain ⟨rfl, o1, D⟩ := O
      obtain ⟨hW, h80, h17⟩ := Cc q rfl
      obtain ⟨hs, v0, v1, vb, v36, v37, v38, v17, v39, vp, vy⟩ := sg_v hW h80 h17
      have hC := CHl.dr hW h80 h17 D
      have hP6 := hs.2.2.1.2
      have hY8 := hs.2.2.2.1
      have hL8 := hs.2.1
      generalize hσ : sgF φ' = σ at hs v0 v1 vb v36 v37 v38 v17 v39 vp vy hC hP6 hY8 hL8
      rw [if_neg one_ne] at E8
      have rw1 : gR wr 1 = gR w 1 := FR1.2.2 1 (by omega)
      have rw0 : gR wr 0 = gR w 0 := FR1.2.2 0 (by omega)
      generalize hS : sR (sR (sI wr 1 3 0) 0 (fxH (gR (sI wr 1 3 0) 1))) 1 (fxH (gR (sI wr 1 3 0) 0)) = wS at E8
      have sI0 : ∀ p j, ¬ (p = 1 ∧ j = 3) → gI wS p j = gI wr p j := fun p j h => by
        rw [← hS, gI_sR, gI_sR, gI_sI, if_neg h]
      have sL0 : ∀ p j, gL wS p j = gL wr p j := fun p j => by rw [← hS]; rfl
      have sR0 : gR wS 0 = fxH (gR w 1) := by rw [← hS, gR_sR, if_neg (by omega), gR_sR, if_pos rfl, gR_sI, rw1]
      have sR1 : gR wS 1 = fxH (gR w 0) := by rw [← hS, gR_sR, if_pos rfl, gR_sI, rw0]
      have s13 : gI wS 1 3 = 0 := by rw [← hS, gI_sR, gI_sR, gI_same]
      have hCS : CHl wS (fxH (gR w 1)) σ := hC.of hP6 hY8 (fun p j x y => sI0 p j (by omega))
      have hk1 : fxH (fxH (gR wS 0)) = fxH (gR w 1) := by rw [sR0, fxH_2, fxH_2]
      obtain ⟨wB, b1, b2, b3, b4, b5, b6, u', b7, b8⟩ := begin0 (w := wS) (k1 := fxH (gR wS 0)) (η := zE σ) (L := zL σ) hs.1 (by omega) (by rw [hk1]; exact hCS.2.1) (by rw [hk1]; exact hCS.2.2.1)
      obtain ⟨wD, d1, d2⟩ := begin8 (w := wB) (p := 0) (s := 0)
      have d1' : f_X2_begin 121 0 0 wB = some ((), wD) := d1
      have Sd := fr_X2_begin _ _ _ _ d1
      have gB : ∀ p j, p ≠ 110 → p ≠ 112 → p ≠ 113 → gI wB p j = gI wS p j ∧ gL wB p j = gL wS p j := fun p j h1 h2 h3 => b2.1 p j (by simp [md, L_X0_begin]; omega)
      have gD : ∀ p j, p ≠ 121 → p ≠ 122 → gI wD p j = gI wB p j ∧ gL wD p j = gL wB p j := fun p j h1 h2 => Sd.1 p j (by simp [md, L_X2_begin]; omega)
      have rB : ∀ r, r ≠ 3 → gR wB r = gR wS r := fun r hr => b2.2 r (by simp [R_X0_begin]; exact hr)
      have rD : ∀ r, gR wD r = gR wB r := fun r => Sd.2 r (by simp [R_X2_begin])
      have e8 : f_X8_hall (nI n) w = some (φ' 17, sI (sI wD 0 11 0) 0 12 0) := by
        rw [E8, b1, bind_some']
        dsimp only
        rw [d1', bind_some']
        dsimp only
        rw [f_X8_fine, bind_some', gR_sI, rD, rB 0 (by omega), sR0, fxH_2, gI_sI, if_neg (by omega), (gD _ _ (by omega) (by omega)).1, (gB _ _ (by omega) (by omega) (by omega)).1, hCS.2.2.2.1, v17]
      have g1 : ∀ p j, ¬ (p = 0 ∧ (j = 11 ∨ j = 12)) → ¬ (p = 1 ∧ j = 3) → p ≠ 110 → p ≠ 112 → p ≠ 113 → p ≠ 121 → p ≠ 122 → gI (sI (sI wD 0 11 0) 0 12 0) p j = gI wr p j := fun p j h1 h2 h3 h4 h5 h6 h7 => by
        rw [gI_sI, if_neg (by omega), gI_sI, if_neg (by omega), (gD p j h6 h7).1, (gB p j h3 h4 h5).1]
        exact sI0 p j h2
      obtain ⟨wz, z1, Z, F, z2, z3⟩ := rest9 (sI (sI wD 0 11 0) 0 12 0) (by rw [g1 _ _ (by omega) (by omega) (by omega) (by omega) (by omega) (by omega) (by omega), (FR1.1 130 2 (by omega) (by omega) (by omega)).1]; exact t2) (fun j => by rw [g1 _ _ (by omega) (by omega) (by omega) (by omega) (by omega) (by omega) (by omega), (FR1.1 131 j (by omega) (by omega) (by omega)).1])
      obtain ⟨x0, _, y1, y2, _⟩ := Z
      obtain ⟨w2, c1, c2, c3, c4, c5, c6, c7, c8⟩ := copy9 (w := wz) (φ := φ') x0
      have e9 : f_X9_hall (nI n) (sI (sI wD 0 11 0) 0 12 0) = some (φ' 17, w2) := by
        rw [z1, f_X9_hall_197, y1, if_pos rfl, c1]
      have g2 : ∀ p j, p ≤ 129 → gI w2 p j = gI (sI (sI wD 0 11 0) 0 12 0) p j := fun p j h => by
        rw [c6 p j (by omega) (by omega) (by omega)]; exact (F.1 p j (by omega)).1
      have r2 : ∀ r, gR w2 r = gR wD r := fun r => by rw [c8, F.2]; rfl
      have R0 : gR w2 0 = fxH (gR w 1) := by rw [r2, rD, rB 0 (by omega), sR0]
      have R1 : gR w2 1 = fxH (gR w 0) := by rw [r2, rD, rB 1 (by omega), sR1]
      have R3 : gR w2 3 = fxH (fxH (gR w 1)) := by rw [r2, rD, b4, sR0]
      have hC2 : CHl w2 (fxH (gR w2 0)) σ := by
        rw [R0, fxH_2]
        exact hC.of hP6 hY8 (fun p j x y => by rw [g2 _ _ (by omega)]; exact g1 _ _ (by omega) (by omega) (by omega) (by omega) (by omega) (by omega) (by omega))
      have g110 : ∀ p j, 110 ≤ p → p ≤ 113 → gI w2 p j = gI wB p j := fun p j h1 h2 => by
        rw [g2 _ _ (by omega), gI_sI, if_neg (by omega), gI_sI, if_neg (by omega)]
        exact (gD p j (by omega) (by omega)).1
      have hb0 : ∀ i, i < 36 → gI w2 110 i = 0 := fun i hi => by rw [g110 _ _ (by omega) (by omega)]; exact b5 i hi
      have hX2 : CCh w2 σ := by
        refine ⟨by rw [R3, R0, fxH_2, fxH_2], ⟨?_, fun v x y z => by rw [g110 _ _ (by omega) (by omega)]; exact b6 v x y z, fun c x y => ?_⟩, fun p hp => Or.inl (hb0 _ (by omega)), fun g h x y z => Or.inl (hb0 _ (by omega)), fun g x y => Or.inl (hb0 _ (by omega))⟩
        · unfold HX
          rw [R3, fxH_2, fxH_2]
          have := hC2.2.1
          rw [R0, fxH_2] at this
          exact this
        · rw [g110 _ _ (by omega) (by omega), b8 c y, b7 c x]; rfl
      have hd2 : DYc w2 121 (d0S 0 0) := d2.of (fun j => by rw [g2 _ _ (by omega), gI_sI, if_neg (by omega), gI_sI, if_neg (by omega)]) (fun j => by rw [g2 _ _ (by omega), gI_sI, if_neg (by omega), gI_sI, if_neg (by omega)])
      refine ⟨φ' 17, _, w2, e8, e9, ⟨⟨0, by omega, ?_, ?_, fun j hj => by omega⟩, ?_, ?_, fun h => ?_, ?_⟩, Or.inl ⟨σ, d0S 0 0, 0, fun _ => d0S 0 0, ⟨hs, d0_ok hs (by have := hs.2.2.1.1; omega) (by omega), by omega, fun i hi => by omega⟩, ⟨hC2, hX2, hd2, ?_, fun i hi => by omega⟩, ?_, c5, c4, fun i hi => by omega⟩⟩
      · rw [g2 _ _ (by omega), gI_sI, if_neg (by omega), gI_sI, if_neg (by omega), (gD _ _ (by omega) (by omega)).1, (gB _ _ (by omega) (by omega) (by omega)).1]; exact s13
      · rw [c6 _ _ (by omega) (by omega) (by omega)]; exact z2
      · rw [g2 _ _ (by omega), g1 _ _ (by omega) (by omega) (by omega) (by omega) (by omega) (by omega) (by omega), o1, c6 _ _ (by omega) (by omega) (by omega), y2]
      · rw [g2 _ _ (by omega), gI_same, c6 _ _ (by omega) (by omega) (by omega), z3]
      · rw [g2 _ _ (by omega), gI_same] at h
        exact absurd h (by decide)
      · rw [R0, R1, fxH_2, fxH_2]
        exact fun y => tn y.symm
      · rw [g2 _ _ (by omega), gI_sI, if_neg (by omega), gI_same]; rfl
      · rw [← hσ]
        exact MHl.dr hW h80 h17 c3 c2
  · have x9 := rg_no (by omega) (by omega) hx
    have e8 : f_X8_hall x w = some (-1, sI w 0 12 2) := by
      have e15 : f_X8_hall_15 w = some (-1, sI w 0 12 2) := by rw [f_X8_hall_15, f_X8_refuse, bind_some']
      rw [f_X8_hall]
      by_cases z : x < 0
      · rw [if_pos z]; exact e15
      · rw [if_neg z, t1, if_neg (fun q => ?_)]
        · exact e15
        · rcases x9 with y | y
          · exact z y
          · exact absurd y (nlt_le.mpr q)
    have e9 : f_X9_hall x (sI w 0 12 2) = some (-1, sI (sI (sI (sI w 0 12 2) 130 0 0) 130 11 0) 130 11 2) := by
      rw [f_X9_hall, f_X9_good, bind_some']
      dsimp only
      rw [show gI (sI (sI (sI w 0 12 2) 130 0 0) 130 11 0) 130 2 = nI T from by rw [gI_sI, if_neg (by omega), gI_sI, if_neg (by omega), gI_sI, if_neg (by omega)]; exact t2, w9f hx (by rfl) (by rfl) (by omega) (by omega), bind_some', if_pos rfl, f_X9_no, bind_some']
    have g : ∀ p j, ¬ (p = 0 ∧ j = 12) → ¬ (p = 130 ∧ (j = 0 ∨ j = 11)) → gI (sI (sI (sI (sI w 0 12 2) 130 0 0) 130 11 0) 130 11 2) p j = gI w p j := fun p j h1 h2 => by
      rw [gI_sI, if_neg (by omega), gI_sI, if_neg (by omega), gI_sI, if_neg (by omega), gI_sI, if_neg (by omega)]
    have g12 : gI (sI (sI (sI (sI w 0 12 2) 130 0 0) 130 11 0) 130 11 2) 0 12 = 2 := by
      rw [gI_sI, if_neg (by omega), gI_sI, if_neg (by omega), gI_sI, if_neg (by omega), gI_same]
    refine ⟨-1, _, _, e8, e9, ⟨⟨T, hT, (g _ _ (by omega) (by omega)).trans t1, (g _ _ (by omega) (by omega)).trans t2, fun j hj => ?_⟩, ?_, ?_, fun h => ?_, tn⟩, JH.kp (w := w) (fun p j h => g p j (by omega) (by omega)) (fun p j h1 h2 => rfl) rfl rfl K⟩
    · rw [g _ _ (by omega) (by omega), g _ _ (by omega) (by omega)]; exact t3 j hj
    · rw [g _ _ (by omega) (by omega), g _ _ (by omega) (by omega)]; exact tf
    · rw [g12, gI_same]
    · rw [g12] at h; exact absurd h (by decide)
