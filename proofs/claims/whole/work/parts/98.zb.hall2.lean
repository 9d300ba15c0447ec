/-! a hall read by both -/
/-- all that the invariant speaks of but the tape -/
theorem JH.kp {w w2 : GW} (k : ∀ p j, (fxH (gR w 0) ≤ p ∧ p < fxH (gR w 0) + 21) ∨ (110 ≤ p ∧ p ≤ 113) ∨ (121 ≤ p ∧ p ≤ 129) ∨ p = 133 ∨ p = 135 ∨ p = 136 ∨ (p = 0 ∧ j = 11) ∨ (p = 130 ∧ (j = 14 ∨ j = 19)) → gI w2 p j = gI w p j) (l : ∀ p j, 74 ≤ p → p < 110 → gL w2 p j = gL w p j) (r0 : gR w2 0 = gR w 0) (r3 : gR w2 3 = gR w 3) (h : JH w ∨ J0 w) : JH w2 ∨ J0 w2 := by
  have hz := fxH_z (gR w 0)
  have hcl : ∀ η, HCl w (fxH (gR w 0)) η → HCl w2 (fxH (gR w 0)) η := fun η ⟨h1, h2, h3, h4, h5, h6, h7, h8⟩ => ⟨(k _ _ (by omega)).trans h1, fun b hb => (k _ _ (by omega)).trans (h2 b hb), fun b hb => (k _ _ (by omega)).trans (h3 b hb), (k _ _ (by omega)).trans h4, (k _ _ (by omega)).trans h5, (k _ _ (by omega)).trans h6, (k _ _ (by omega)).trans h7, (k _ _ (by omega)).trans h8⟩
  rcases h with ⟨σ, d, mk, ms, S, C, M⟩ | ⟨z1, z2, z3, z4, z5⟩
  · have hmk := S.2.2.1
    have hp6 := S.1.2.2.1.2
    have hy8 := S.1.2.2.2.1
    obtain ⟨c1, c2, c3, c4, c5⟩ := C
    obtain ⟨m1, m2, m3, m4⟩ := M
    refine Or.inl ⟨σ, d, mk, ms, S, ⟨?_, ?_, ?_, ?_, fun i hi => ?_⟩, m1.of (k _ _ (by omega)) (fun j => k _ _ (by omega)), m2.of (fun j => k _ _ (by omega)), (k _ _ (by omega)).trans m3, fun i hi => (m4 i hi).of (fun j => k _ _ (by omega))⟩
    · obtain ⟨a, b, c, d, e, f, g⟩ := c1
      rw [r0]
      refine ⟨(k _ _ (by omega)).trans a, hcl _ b, (k _ _ (by omega)).trans c, (k _ _ (by omega)).trans d, (k _ _ (by omega)).trans e, fun p hp => ?_, fun y hy b hb => (k _ _ (by omega)).trans (g y hy b hb)⟩
      obtain ⟨f1, f2, f3⟩ := f p hp
      exact ⟨(k _ _ (by omega)).trans f1, (k _ _ (by omega)).trans f2, (k _ _ (by omega)).trans f3⟩
    · obtain ⟨a, ⟨b1, b2, b3⟩, c, d, e⟩ := c2
      refine ⟨by rw [r0, r3]; exact a, ⟨?_, fun v x y z => (k _ _ (by omega)).trans (b2 v x y z), fun c x y => (k _ _ (by omega)).trans (b3 c x y)⟩, fun p hp => (c p hp).of (k _ _ (by omega)) (fun j => l _ _ (by omega) (by omega)), fun g h x y z => (d g h x y z).of (k _ _ (by omega)) (fun j => l _ _ (by omega) (by omega)), fun g x y => (e g x y).of (k _ _ (by omega)) (fun j => l _ _ (by omega) (by omega))⟩
      unfold HX at b1 ⊢
      rw [r3, a]
      rw [a] at b1
      exact hcl _ b1
    · exact c3.of (fun j => k _ _ (by omega)) (fun j => k _ _ (by omega))
    · exact (k _ _ (by omega)).trans c4
    · exact (c5 i hi).of (fun j => k _ _ (by omega)) (fun j => k _ _ (by omega))
  · refine Or.inr ⟨fun j hj => ?_, (k _ _ (by omega)).trans z2, (k _ _ (by omega)).trans z3, (k _ _ (by omega)).trans z4, fun j hj => (k _ _ (by omega)).trans (z5 j hj)⟩
    rw [r0]
    exact (k _ _ (by omega)).trans (z1 j hj)
/-- the hall that a draft tells of -/
def sgF (φ : Nat → Int32) : HS := ((ix (φ 0), ix (φ 36), ix (φ 37), ix (φ 38), (fun b => if b < 5 then ix (φ (2 + b)) else 1), fun b => if b < 5 then ix (φ (7 + b)) else 1), (ix (φ 1), ix (φ 17), ix (φ 39)), (fun p => if p < ix (φ 17) then ix (φ (18 + p)) else 1), (fun p => if p < ix (φ 17) then ix (φ (24 + p)) else 0), (fun p => if p < ix (φ 17) ∧ φ (24 + p) = 2 then ix (φ (30 + p)) else 0), fun y b => if y < 8 ∧ b < 5 then ix (φ (40 + 5 * y + b)) else 0)
theorem rg_ix {x : Int32} {a b : Nat} (h : rg x a b) (hb : b < 2147483648) : a ≤ ix x ∧ ix x ≤ b ∧ x = nI (ix x) := by
  obtain ⟨n, h1, h2, rfl⟩ := h
  rw [ix_nI (by omega)]
  exact ⟨h1, h2, rfl⟩
/-- its parts -/
theorem sg_v {φ : Nat → Int32} (hW : WF φ) (h80 : φ 80 = 1) (h17 : φ 17 ≠ 0) : HSok (sgF φ) ∧ φ 0 = nI (pB (zE (sgF φ))) ∧ φ 1 = nI (zL (sgF φ)) ∧ (∀ b, b < 5 → φ (2 + b) = nI (pR (zE (sgF φ)) b) ∧ φ (7 + b) = nI (pW (zE (sgF φ)) b)) ∧ φ 36 = nI (pD (zE (sgF φ))) ∧ φ 37 = nI (pE (zE (sgF φ))) ∧ φ 38 = nI (pM (zE (sgF φ))) ∧ φ 17 = nI (zP (sgF φ)) ∧ φ 39 = nI (zY (sgF φ)) ∧ (∀ p, p < zP (sgF φ) → φ (18 + p) = nI (zG (sgF φ) p) ∧ φ (24 + p) = nI (zR (sgF φ) p) ∧ φ (30 + p) = paI (zR (sgF φ) p) (zH (sgF φ) p)) ∧ ∀ y b, y < 8 → b < 5 → φ (40 + 5 * y + b) = nI (zV (sgF φ) y b) := by
  obtain ⟨⟨B, a1, a2, a3⟩, wb, ⟨d1, d2, d3, d4⟩, P, p1, p2, p3⟩ := hW
  rcases a2 with h | ⟨_, b1, b2, b3, D, b4, b5⟩
  · rw [h80] at h; exact absurd h.1 one_ne
  have iB : ix (φ 0) = B := by rw [b2, ix_nI (by omega)]
  have iP : ix (φ 17) = P := by rw [p2, ix_nI (by omega)]
  have iD : ix (φ 36) = D := by rw [b5, ix_nI (by omega)]
  obtain ⟨l1, l2, l3⟩ := rg_ix b3 (by omega)
  obtain ⟨e1, e2, e3⟩ := rg_ix d1 (by omega)
  obtain ⟨m1, m2, m3⟩ := rg_ix d2 (by omega)
  obtain ⟨y1, y2, y3⟩ := rg_ix d3 (by omega)
  have hP1 : 1 ≤ P := by
    refine Nat.pos_of_ne_zero fun z => h17 ?_
    rw [p2, z]; rfl
  have eB : pB (zE (sgF φ)) = B := iB
  have eP : zP (sgF φ) = P := iP
  have eD : pD (zE (sgF φ)) = D := iD
  have vR : ∀ b, b < 5 → φ (2 + b) = nI (pR (zE (sgF φ)) b) ∧ 1 ≤ pR (zE (sgF φ)) b ∧ pR (zE (sgF φ)) b ≤ 8 := fun b hb => by
    obtain ⟨x1, x2, x3⟩ := rg_ix (wb b hb).1 (by omega)
    have : pR (zE (sgF φ)) b = ix (φ (2 + b)) := if_pos hb
    rw [this]
    exact ⟨x3, x1, x2⟩
  have vW : ∀ b, b < 5 → φ (7 + b) = nI (pW (zE (sgF φ)) b) ∧ 1 ≤ pW (zE (sgF φ)) b ∧ pW (zE (sgF φ)) b ≤ 3 := fun b hb => by
    obtain ⟨x1, x2, x3⟩ := rg_ix (wb b hb).2.1 (by omega)
    have : pW (zE (sgF φ)) b = ix (φ (7 + b)) := if_pos hb
    rw [this]
    exact ⟨x3, x1, x2⟩
  have vP : ∀ p, p < P → φ (18 + p) = nI (zG (sgF φ) p) ∧ φ (24 + p) = nI (zR (sgF φ) p) ∧ φ (30 + p) = paI (zR (sgF φ) p) (zH (sgF φ) p) ∧ (1 ≤ zG (sgF φ) p ∧ zG (sgF φ) p ≤ 3) ∧ zR (sgF φ) p ≤ 4 ∧ zH (sgF φ) p ≤ 8 := fun p hp => by
    obtain ⟨q1, ⟨r, h, r4, h8, r1, r2⟩, _⟩ := p3 p hp
    obtain ⟨x1, x2, x3⟩ := rg_ix q1 (by omega)
    have g1 : zG (sgF φ) p = ix (φ (18 + p)) := if_pos (by rw [iP]; exact hp)
    have g2 : zR (sgF φ) p = r := by
      have : zR (sgF φ) p = ix (φ (24 + p)) := if_pos (by rw [iP]; exact hp)
      rw [this, r1, ix_nI (by omega)]
    rw [g1, g2]
    by_cases z : r = 2
    · have g3 : zH (sgF φ) p = h := by
        have : zH (sgF φ) p = ix (φ (30 + p)) := if_pos ⟨by rw [iP]; exact hp, by rw [r1, z]; rfl⟩
        rw [this, r2]
        unfold paI
        rw [if_pos z, ix_nI (by omega)]
      rw [g3]
      exact ⟨x3, r1, r2, ⟨x1, x2⟩, r4, h8⟩
    · have g3 : zH (sgF φ) p = 0 := if_neg (fun q => z ((eq2 (by omega)).mp (r1.symm.trans q.2)))
      rw [g3]
      refine ⟨x3, r1, ?_, ⟨x1, x2⟩, r4, by omega⟩
      rw [r2]
      unfold paI
      rw [if_neg z, if_neg z]
  have vV : ∀ y b, y < 8 → b < 5 → φ (40 + 5 * y + b) = nI (zV (sgF φ) y b) ∧ zV (sgF φ) y b ≤ 8 := fun y b hy hb => by
    obtain ⟨x1, x2, x3⟩ := rg_ix (d4 y b hy hb) (by omega)
    have : zV (sgF φ) y b = ix (φ (40 + 5 * y + b)) := if_pos ⟨hy, hb⟩
    rw [this]
    exact ⟨x3, x2⟩
  refine ⟨⟨⟨by rw [eB]; exact b1, by rw [eB]; exact a1, fun b => ?_, fun b => ?_, by rw [eB, eD]; exact b4, e2, m2⟩, l2, by rw [eP]; exact ⟨hP1, p1⟩, y2, fun p => ?_, fun y => ⟨fun b => ?_, fun b hb => ?_⟩⟩, by rw [eB]; exact b2, l3, fun b hb => ⟨(vR b hb).1, (vW b hb).1⟩, by rw [eD]; exact b5, e3, m3, by rw [eP]; exact p2, y3, fun p hp => ?_, fun y b hy hb => (vV y b hy hb).1⟩
  · by_cases z : b < 5
    · exact (vR b z).2
    · have : pR (zE (sgF φ)) b = 1 := if_neg z
      omega
  · by_cases z : b < 5
    · exact (vW b z).2
    · have : pW (zE (sgF φ)) b = 1 := if_neg z
      omega
  · by_cases z : p < P
    · exact (vP p z).2.2.2
    · have g1 : zG (sgF φ) p = 1 := if_neg (by rw [iP]; exact z)
      have g2 : zR (sgF φ) p = 0 := if_neg (by rw [iP]; exact z)
      have g3 : zH (sgF φ) p = 0 := if_neg (fun q => z (by rw [iP] at q; exact q.1))
      rw [g1, g2, g3]
      omega
  · by_cases z : y < 8 ∧ b < 5
    · exact (vV y b z.1 z.2).2
    · have : zV (sgF φ) y b = 0 := if_neg z
      omega
  · by_cases z : y < 8 ∧ b < 5
    · have h1 := a3 y b z.1 (by rw [eB] at hb; exact hb) z.2
      have h2 : zV (sgF φ) y b = ix (φ (40 + 5 * y + b)) := if_pos z
      rw [h2, h1]; rfl
    · exact if_neg z
  · rw [eP] at hp
    exact ⟨(vP p hp).1, (vP p hp).2.1, (vP p hp).2.2.1⟩
/-- the class's hall is what was told -/
theorem CHl.dr {w : GW} {H : Nat} {φ : Nat → Int32} (hW : WF φ) (h80 : φ 80 = 1) (h17 : φ 17 ≠ 0) (D : DS2 w H φ) : CHl w H (sgF φ) := by
  obtain ⟨hs, v0, v1, vb, v36, v37, v38, v17, v39, vp, vy⟩ := sg_v hW h80 h17
  obtain ⟨⟨⟨a1, a2, a3, a4, a5, a6, a7, a8⟩, bb, c, d⟩, s3, s4⟩ := D
  have hB5 := hs.1.2.1
  have hP6 := hs.2.2.1.2
  have hY8 := hs.2.2.2.1
  have i0 : ix (φ 0) = pB (zE (sgF φ)) := by rw [v0, ix_nI (by omega)]
  have i17 : ix (φ 17) = zP (sgF φ) := by rw [v17, ix_nI (by omega)]
  refine ⟨a1.trans h80, ⟨a2.trans v0, fun b hb => (bb b (by omega)).1.trans (vb b (by omega)).1, fun b hb => (bb b (by omega)).2.1.trans (vb b (by omega)).2, ?_, ?_, a4.trans v36, a5.trans v37, a6.trans v38⟩, a3.trans v1, a7.trans v17, a8.trans v39, fun p hp => ?_, fun y hy b hb => (d y b (by omega) hb).trans (vy y b (by omega) hb)⟩
  · rw [s3, i0]
    congr 1
    refine sm_c (fun b hb => ?_)
    show ix (φ (2 + b)) = pR (zE (sgF φ)) b
    have := (hs.1.2.2.1 b).2
    rw [(vb b (by omega)).1, ix_nI (by omega)]
  · rw [s4, i0]
    congr 1
    refine sm_c (fun b hb => ?_)
    show ix (φ (7 + b)) = pW (zE (sgF φ)) b
    have := (hs.1.2.2.2.1 b).2
    rw [(vb b (by omega)).2, ix_nI (by omega)]
  · obtain ⟨x1, x2, x3, _⟩ := c p (by omega) (by omega)
    obtain ⟨y1, y2, y3⟩ := vp p hp
    exact ⟨x1.trans y1, x2.trans y2, x3.trans y3⟩
theorem MHl.dr {w : GW} {φ : Nat → Int32} (hW : WF φ) (h80 : φ 80 = 1) (h17 : φ 17 ≠ 0) (h14 : gI w 130 14 = 1) (h : ∀ j, j < 135 → gI w 133 j = φ j) : MHl w (sgF φ) := by
  obtain ⟨hs, v0, v1, vb, v36, v37, v38, v17, v39, vp, vy⟩ := sg_v hW h80 h17
  have hB5 := hs.1.2.1
  have hP6 := hs.2.2.1.2
  have hY8 := hs.2.2.2.1
  refine ⟨h14, ⟨(h _ (by omega)).trans v0, fun b hb => (h _ (by omega)).trans (vb b (by omega)).1, fun b hb => (h _ (by omega)).trans (vb b (by omega)).2, (h _ (by omega)).trans v36, (h _ (by omega)).trans v37, (h _ (by omega)).trans v38⟩, (h _ (by omega)).trans v1, (h _ (by omega)).trans v17, (h _ (by omega)).trans v39, fun p hp => ?_, fun y hy b hb => (h _ (by omega)).trans (vy y b (by omega) hb)⟩
  obtain ⟨y1, y2, y3⟩ := vp p hp
  exact ⟨(h _ (by omega)).trans y1, (h _ (by omega)).trans y2, (h _ (by omega)).trans y3⟩
/-- the reference takes the hall over -/
theorem copy9 {w : GW} {φ : Nat → Int32} (h : ∀ j, j < 135 → gI w 134 j = φ j) : ∃ w', f_X9_hall_212 fu 0 w = some (φ 17, w') ∧ (∀ j, j < 135 → gI w' 133 j = φ j) ∧ gI w' 130 14 = 1 ∧ gI w' 130 19 = 0 ∧ DYm w' 135 0 (d0S 0 0) ∧ (∀ q j, q ≠ 133 → q ≠ 135 → ¬ (q = 130 ∧ (j = 14 ∨ j = 19)) → gI w' q j = gI w q j) ∧ (∀ q j, q < 110 → gL w' q j = gL w q j) ∧ ∀ r, gR w' r = gR w r := by
  have key : ∀ d i m w, i + d = 135 → d < m → (∀ j, j < 135 → gI w 134 j = φ j) → (∀ j, j < i → gI w 133 j = φ j) → ∃ w', f_X9_hall_212 m (nI i) w = some (φ 17, w') ∧ (∀ j, j < 135 → gI w' 133 j = φ j) ∧ gI w' 130 14 = 1 ∧ gI w' 130 19 = 0 ∧ DYm w' 135 0 (d0S 0 0) ∧ (∀ q j, q ≠ 133 → q ≠ 135 → ¬ (q = 130 ∧ (j = 14 ∨ j = 19)) → gI w' q j = gI w q j) ∧ (∀ q j, q < 110 → gL w' q j = gL w q j) ∧ ∀ r, gR w' r = gR w r := by
    intro d
    induction d with
    | zero =>
      intro i m w hi hm h4 h3
      obtain ⟨m, rfl⟩ : ∃ m9, m = m9 + 1 := ⟨m - 1, by omega⟩
      obtain ⟨w', a, D⟩ := begin9 (w := sI (sI w 130 14 1) 130 19 0) (p := 0) (s := 0)
      have a' : f_X9_begin 0 0 (sI (sI w 130 14 1) 130 19 0) = some ((), w') := a
      have S := fr_X9_begin _ _ _ a
      have e133 : ∀ j, gI w' 133 j = gI w 133 j := fun j => by rw [S.I 133 j rfl, gI_sI, if_neg (by omega), gI_sI, if_neg (by omega)]
      refine ⟨w', ?_, fun j hj => ?_, ?_, ?_, D, fun q j h1 h2 h3 => ?_, fun q j hq => ?_, fun r => ?_⟩
      · rw [f_X9_hall_212, show (135 : Int32) = nI 135 from rfl, if_pos ((le_nI (by omega) (by omega)).mpr (by omega)), a', bind_some', if_pos (show inb _ _ from by decide), show ix (17 : Int32) = 17 from by decide]
        dsimp only
        rw [e133, h3 17 (by omega)]
      · rw [e133]; exact h3 j (by omega)
      · rw [S.I 130 14 rfl, gI_sI, if_neg (by omega), gI_same]
      · rw [S.I 130 19 rfl, gI_same]
      · rw [S.I q j (by simp [md, L_X9_begin]; omega), gI_sI, if_neg (by omega), gI_sI, if_neg (by omega)]
      · rw [S.L q j (by simp [md, L_X9_begin]; omega)]; rfl
      · rw [S.2 r (by simp [R_X9_begin])]; rfl
    | succ d ih =>
      intro i m w hi hm h4 h3
      obtain ⟨m, rfl⟩ : ∃ m9, m = m9 + 1 := ⟨m - 1, by omega⟩
      rw [f_X9_hall_212, show (135 : Int32) = nI 135 from rfl, if_neg (fun q9 => absurd ((le_nI (by omega) (by omega)).mp q9) (by omega)), if_pos ((inb_nI (by omega)).mpr (by omega)), if_pos ((inb_nI (by omega)).mpr (by omega)), ix_nI (by omega), nI_1, h4 i (by omega)]
      obtain ⟨w', t1, t2, t3, t4, t5, t6, t7, t8⟩ := ih (i + 1) m (sI w 133 i (φ i)) (by omega) (by omega) (fun j hj => by rw [gI_sI, if_neg (by omega)]; exact h4 j hj) (fun j hj => by
        rw [gI_sI]
        by_cases z : j = i
        · rw [if_pos ⟨rfl, z⟩, z]
        · rw [if_neg (fun q => z q.2)]; exact h3 j (by omega))
      refine ⟨w', t1, t2, t3, t4, t5, fun q j h1 h2 h5 => ?_, t7, t8⟩
      rw [t6 q j h1 h2 h5, gI_sI, if_neg (by omega)]
  rw [show (0 : Int32) = nI 0 from rfl]
  exact key 135 0 fu w (by omega) (fu_gt (by omega)) h (fun j hj => by omega)
