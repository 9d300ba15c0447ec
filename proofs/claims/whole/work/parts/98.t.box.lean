/-! the box's line, the lay's line -/
section BX
variable {tp : Nat → Nat} {n : Nat}
/-- where a line goes on, if it goes on -/
def RLe (n p : Nat) (r : RR) : Prop := ∀ p', r = .inr p' → p ≤ p' ∧ p' ≤ n
theorem RLe.w {p u : Nat} {r : RR} (h : RLe n p r) : RLe n p (sWr tp n u r) := by
  cases r with
  | inl e => exact h
  | inr p1 =>
    obtain ⟨h1, h2⟩ := h p1 rfl
    rcases tS_em (tp := tp) (n := n) u p1 with q | q
    · rw [sWr_t q]
      intro p' e
      cases e
      obtain ⟨a1, a2⟩ := tA_ge (tp := tp) h2
      obtain ⟨e1, e2, e3⟩ := tE_ge (tp := tp) h2
      omega
    · rw [sWr_f q]
      intro p' e
      cases e
theorem RLe.num {p lo hi : Nat} {r : RR} (h : RLe n p r) : RLe n p (sNr tp n lo hi r) := by
  cases r with
  | inl e => exact h
  | inr p1 =>
    obtain ⟨h1, h2⟩ := h p1 rfl
    by_cases q : tK tp n p1 = 2
    · by_cases z : lo ≤ tV tp n p1 ∧ tV tp n p1 ≤ hi
      · rw [(sN_t q z).1]
        intro p' e
        cases e
        obtain ⟨a1, a2⟩ := tA_ge (tp := tp) h2
        obtain ⟨e1, e2, e3⟩ := tE_ge (tp := tp) h2
        omega
      · rw [(sN_b q z).1]
        intro p' e
        cases e
    · rw [(sN_f q).1]
      intro p' e
      cases e
theorem RLe.i {p : Nat} (h : p ≤ n) : RLe n p (.inr p) := by
  intro p' e
  cases e
  exact ⟨Nat.le_refl _, h⟩
theorem RLe.e {p : Nat} {e : Nat × Nat} : RLe n p (.inl e) := by
  intro p' e
  cases e
/-- a line that both read alike; q is where its second token is -/
def LNJ (tp : Nat → Nat) (n H : Nat) (f8 : GW → Option (Int32 × GW)) (f9 : GW → Option (Unit × GW)) (p q : Nat) (φ : Nat → Int32) : Prop := ∃ r φ', (∀ w, fxH (gR w 2) = H → CT w tp n p → DC w H φ → ∃ b w', f8 w = some (b, w') ∧ LC tp n H w w' r φ' b) ∧ (∀ w, XM w tp n (.inr q) φ → ∃ w', f9 w = some ((), w') ∧ XM w' tp n r φ') ∧ RLe n q r ∧ ∀ p', r = .inr p' → WF φ'
theorem DC.setB {w : GW} {H k o b : Nat} {φ : Nat → Int32} {v : Int32} (h : (k = 1 ∧ o = 2) ∨ (k = 2 ∧ o = 7) ∨ (k = 3 ∧ o = 12)) (hb : b < 5) (D : DC w H φ) : DC (sI w (H + k) b v) H (up φ (o + b) v) := by
  obtain ⟨⟨a1, a2, a3, a4, a5, a6, a7, a8⟩, bb, c, d⟩ := D
  have g : ∀ k' x, k' ≠ H + k → gI (sI w (H + k) b v) k' x = gI w k' x := fun k' x z => by rw [gI_sI, if_neg (fun q => z q.1)]
  have f : ∀ k' x y, (k' = H + k → x = b → y = o + b) → (y = o + b → k' = H + k ∧ x = b) → gI w k' x = φ y → gI (sI w (H + k) b v) k' x = up φ (o + b) v y := fun k' x y z1 z2 e => by
    rw [gI_sI]
    by_cases q : k' = H + k ∧ x = b
    · rw [if_pos q, z1 q.1 q.2, up_s]
    · rw [if_neg q, up_n (fun z => q (z2 z))]; exact e
  have h17 : up φ (o + b) v 17 = φ 17 := up_n (by omega)
  refine ⟨⟨f _ _ _ (by omega) (by omega) a1, f _ _ _ (by omega) (by omega) a2, f _ _ _ (by omega) (by omega) a3, f _ _ _ (by omega) (by omega) a4, f _ _ _ (by omega) (by omega) a5, f _ _ _ (by omega) (by omega) a6, f _ _ _ (by omega) (by omega) a7, f _ _ _ (by omega) (by omega) a8⟩, fun x hx => ⟨f _ _ _ (by omega) (by omega) (bb x hx).1, f _ _ _ (by omega) (by omega) (bb x hx).2.1, f _ _ _ (by omega) (by omega) (bb x hx).2.2⟩, fun p h1 h2 => ?_, fun y x h1 h2 => ?_⟩
  · rw [h17] at h1
    rw [g _ _ (by omega), g _ _ (by omega), g _ _ (by omega), up_n (by omega), up_n (by omega), up_n (by omega), up_n (by omega), nmH_c _ (fun k _ => up_n (by omega))]
    exact c p h1 h2
  · rw [g _ _ (by omega), up_n (by omega)]; exact d y x h1 h2
theorem DC.setY {w : GW} {H y0 b : Nat} {φ : Nat → Int32} {v : Int32} (hy : y0 < 8) (hb : b < 5) (D : DC w H φ) : DC (sI w (H + 12 + 1 + y0) b v) H (up φ (40 + 5 * y0 + b) v) := by
  obtain ⟨⟨a1, a2, a3, a4, a5, a6, a7, a8⟩, bb, c, d⟩ := D
  have g : ∀ k' x, k' ≠ H + 12 + 1 + y0 → gI (sI w (H + 12 + 1 + y0) b v) k' x = gI w k' x := fun k' x z => by rw [gI_sI, if_neg (fun q => z q.1)]
  have h17 : up φ (40 + 5 * y0 + b) v 17 = φ 17 := up_n (by omega)
  refine ⟨⟨?_, ?_, ?_, ?_, ?_, ?_, ?_, ?_⟩, fun x hx => ?_, fun p h1 h2 => ?_, fun y x h1 h2 => ?_⟩
  · rw [g _ _ (by omega), up_n (by omega)]; exact a1
  · rw [g _ _ (by omega), up_n (by omega)]; exact a2
  · rw [g _ _ (by omega), up_n (by omega)]; exact a3
  · rw [g _ _ (by omega), up_n (by omega)]; exact a4
  · rw [g _ _ (by omega), up_n (by omega)]; exact a5
  · rw [g _ _ (by omega), up_n (by omega)]; exact a6
  · rw [g _ _ (by omega), up_n (by omega)]; exact a7
  · rw [g _ _ (by omega), up_n (by omega)]; exact a8
  · rw [g _ _ (by omega), g _ _ (by omega), g _ _ (by omega), up_n (by omega), up_n (by omega), up_n (by omega)]; exact bb x hx
  · rw [h17] at h1
    rw [g _ _ (by omega), g _ _ (by omega), g _ _ (by omega), up_n (by omega), up_n (by omega), up_n (by omega), up_n (by omega), nmH_c _ (fun k _ => up_n (by omega))]
    exact c p h1 h2
  · rw [gI_sI]
    by_cases q : y = y0 ∧ x = b
    · rw [if_pos ⟨by omega, q.2⟩, show 40 + 5 * y + x = 40 + 5 * y0 + b by omega, up_s]
    · rw [if_neg (by omega), up_n (by omega)]; exact d y x h1 h2
theorem boxJ (hn : n ≤ 900) (htp : ∀ j, tp j < 256) {H p B : Nat} {φ : Nat → Int32} (hz : 4 ≤ H) (hp : p ≤ n) (hk : tK tp n p ≠ 0) (h80 : φ 80 = 1) (hW : WF φ) (hB : 1 ≤ B ∧ B ≤ 5) (h0 : φ 0 = nI B) : LNJ tp n H f_X6_boxLine f_X9_boxLine p (tE tp n p) φ := by
  have hq := (tE_ge (tp := tp) hp).2.1
  generalize eq : tE tp n p = q at hq ⊢
  have eB : nI B - 1 = nI (B - 1) := pk_sub (b := 1) (by omega)
  have mk100 := mK_lt (tK tp n q)
  by_cases hg : tK tp n q = 2 ∧ tV tp n q < B
  · obtain ⟨hg1, hg2⟩ := hg
    have hv3 : tV tp n q < 5 := by omega
    have hb := hW.2.1 _ hv3
    generalize hv : tV tp n q = v at hg2 hv3 hb
    have head8 : ∀ w, fxH (gR w 2) = H → CT w tp n p → DC w H φ → ∃ w2, f_X6_boxLine w = (if φ (12 + v) = 0 then (f_X7_advance (sI w2 (H + 3) v 1)).bind fun q11 => (f_X6_word 4 q11.2).bind fun q13 => if q13.1 = 0 then some (0, q13.2) else (f_X6_whole 1 8 q13.2).bind fun q17 => if q17.1 = 0 then some (0, q17.2) else (f_X6_word 5 (sI q17.2 ((fxH (gR q17.2 2)) + 1) v (gI q17.2 3 2))).bind fun q22 => if q22.1 = 0 then some (0, q22.2) else (f_X6_whole 1 3 q22.2).bind fun q26 => if q26.1 = 0 then some (0, q26.2) else some (1, (sI q26.2 ((fxH (gR q26.2 2)) + 2) v (gI q26.2 3 2))) else (f_X6_wrong 3 w2).bind fun q31 => some (q31.1, q31.2)) ∧ F13 w w2 ∧ CT w2 tp n q ∧ DC w2 H φ ∧ fxH (gR w2 2) = H := by
      intro w hH C D
      obtain ⟨w1, a1, F1, _, C1, h1⟩ := advC hn htp hp C hk
      have D1 := D.f hz F1
      rw [eq] at C1 h1
      rcases isWhole8 (lo := 0) (hi := B - 1) hn (by omega) (by omega) h1 C1 with ⟨_, _, _, a2, C2, F2⟩ | ⟨e, w', z, _⟩
      · have D2 := D1.f hz F2
        rw [hv] at a2 C2 F2 D2
        refine ⟨_, ?_, F1.tr F2, C2, D2, by rw [F2.2.2, F1.2.2]; exact hH⟩
        have a2' : f_X6_isWhole 0 (nI B - 1) w1 = some (1, sI w1 3 2 (nI v)) := by rw [eB]; exact a2
        rw [f_X6_boxLine, hH, D.1.1, h80, if_neg one_ne, a1, bind_some']
        dsimp only
        rw [F1.2.2 2, hH, D1.1.2.1, h0, a2', bind_some', if_neg one_ne]
        dsimp only
        rw [gI_same, if_pos ((inb_nI (by omega)).mpr (by omega)), ix_nI (by omega), F2.2.2 2, F1.2.2 2, hH, (D2.2.1 v hv3).2.2]
        simp only [if_pos ((inb_nI (n := 5) (show v < 2147483648 by omega)).mpr hv3)]
      · rw [(sN_t hg1 (by omega)).1] at z
        cases z
    rcases hb.2.2 with h12 | h12
    · -- a box told for the first time
      refine ⟨sNr tp n 1 3 (sWr tp n 5 (sNr tp n 1 8 (sWr tp n 4 (.inr (tE tp n q))))), up (up (up φ (2 + v) (nI (sNv tp n 1 8 (sWr tp n 4 (.inr (tE tp n q)))))) (7 + v) (nI (sNv tp n 1 3 (sWr tp n 5 (sNr tp n 1 8 (sWr tp n 4 (.inr (tE tp n q)))))))) (12 + v) 1, fun w hH C D => ?_, fun w X => ?_, ?_, fun p' _ => ?_⟩
      · obtain ⟨w2, E, F2, C2, D2, hH2⟩ := head8 w hH C D
        rw [E, h12, if_pos rfl]
        have D3 : DC (sI w2 (H + 3) v 1) H (up φ (12 + v) 1) := D2.setB (by omega) hv3
        obtain ⟨w4, a4, F4, _, C4, h4⟩ := advC hn htp hq (C2.st (k := H + 3) (j := v) (v := 1) (by omega)) (by omega)
        rw [a4, bind_some']
        dsimp only
        have G4 : FC H w w4 := (F2.fc.tr (FC.st (by omega) (by omega) hz)).tr F4.fc
        obtain ⟨b5, w5, a5, O5⟩ := word8 (u := 4) hn htp (by omega) h4 C4
        rw [a5, bind_some']
        have G5 := G4.tr O5.1.fc
        rcases O5.cs with ⟨e, er, rfl, L⟩ | ⟨p5, er, rfl, h5, C5⟩
        · rw [er, if_pos rfl]
          exact ⟨0, w5, rfl, LC.e G5 rfl rfl L⟩
        obtain ⟨b6, w6, a6, O6, v6⟩ := whole8 (lo := 1) (hi := 8) hn htp (by omega) (by omega) h5 C5
        have a6' : f_X6_whole 1 8 w5 = _ := a6
        rw [er, if_neg one_ne]
        dsimp only
        rw [a6', bind_some']
        have G6 := G5.tr O6.1.fc
        rcases O6.cs with ⟨e, er6, rfl, L⟩ | ⟨p6, er6, rfl, h6, C6⟩
        · rw [er6, if_pos rfl]
          exact ⟨0, w6, rfl, LC.e G6 rfl rfl L⟩
        rw [er6, if_neg one_ne]
        dsimp only
        rw [G6.2.2 2, hH, v6 rfl]
        generalize sNv tp n 1 8 (.inr p5) = x
        have D6 := (((D3.f hz F4).f hz O5.1).f hz O6.1).setB (k := 1) (o := 2) (b := v) (v := nI x) (by omega) hv3
        have G7 := G6.tr (FC.st (k := H + 1) (j := v) (v := nI x) (by omega) (by omega) hz)
        obtain ⟨b7, w7, a7, O7⟩ := word8 (u := 5) hn htp (by omega) h6 (C6.st (k := H + 1) (j := v) (v := nI x) (by omega))
        rw [a7, bind_some']
        have G8 := G7.tr O7.1.fc
        rcases O7.cs with ⟨e, er, rfl, L⟩ | ⟨p7, er, rfl, h7, C7⟩
        · rw [er, if_pos rfl]
          exact ⟨0, w7, rfl, LC.e G8 rfl rfl L⟩
        obtain ⟨b8, w8, a8, O8, v8⟩ := whole8 (lo := 1) (hi := 3) hn htp (by omega) (by omega) h7 C7
        have a8' : f_X6_whole 1 3 w7 = _ := a8
        rw [er, if_neg one_ne]
        dsimp only
        rw [a8', bind_some']
        have G9 := G8.tr O8.1.fc
        rcases O8.cs with ⟨e, er8, rfl, L⟩ | ⟨p8, er8, rfl, h8, C8⟩
        · rw [er8, if_pos rfl]
          exact ⟨0, w8, rfl, LC.e G9 rfl rfl L⟩
        rw [er8, if_neg one_ne]
        dsimp only
        rw [G9.2.2 2, hH, v8 rfl]
        generalize sNv tp n 1 3 (.inr p7) = y
        have D9 := ((D6.f hz O7.1).f hz O8.1).setB (k := 2) (o := 7) (b := v) (v := nI y) (by omega) hv3
        refine ⟨1, _, rfl, LC.o (G9.tr (FC.st (by omega) (by omega) hz)) rfl rfl h8 (C8.st (by omega)) ?_⟩
        have : up (up (up φ (12 + v) 1) (2 + v) (nI x)) (7 + v) (nI y) = up (up (up φ (2 + v) (nI x)) (7 + v) (nI y)) (12 + v) 1 := by
          funext j
          unfold up
          by_cases z1 : j = 12 + v
          · rw [if_neg (by omega), if_neg (by omega), if_pos z1, if_pos z1]
          · rw [if_neg z1, if_neg z1]
        rw [← this]
        exact D9
      · have M := X.2.2.2.2.2
        have e6 : gI w 130 6 = 3 := by rw [M.2.2.2.1, hg1]; rfl
        have e7 : gI w 130 7 = nI v := by rw [M.2.2.2.2.2 hg1, hv]
        obtain ⟨w1, a1, X1⟩ := number9 (lo := 0) (hi := B - 1) hn htp (by omega) (by omega) X
        have a1' : f_X9_number 0 (nI B - 1) w = some (nI (sNv tp n 0 (B - 1) (.inr q)), w1) := by
          rw [eB]; exact a1
        rw [(sN_t hg1 (by omega)).1] at X1
        rw [(sN_t hg1 (by omega)).2, hv] at a1'
        obtain ⟨w2, a2, X2⟩ := told9 (u := 21) (lo := 1) (hi := 8) hn htp (by omega) (by omega) (by omega) X1
        rw [sWr_u (u := 21) (u' := 4) rfl] at a2 X2
        have a2' : f_X9_told 21 1 8 w1 = _ := a2
        obtain ⟨w3, a3, X3⟩ := told9 (u := 22) (lo := 1) (hi := 3) hn htp (by omega) (by omega) (by omega) (X2.set (i := 2 + v) (v := nI (sNv tp n 1 8 (sWr tp n 4 (.inr (tE tp n q))))))
        rw [sWr_u (u := 22) (u' := 5) rfl] at a3 X3
        have a3' : f_X9_told 22 1 3 (sI w2 134 (2 + v) (nI (sNv tp n 1 8 (sWr tp n 4 (.inr (tE tp n q)))))) = _ := a3
        refine ⟨_, ?_, (X3.set (i := 7 + v) (v := nI (sNv tp n 1 3 (sWr tp n 5 (sNr tp n 1 8 (sWr tp n 4 (.inr (tE tp n q)))))))).set⟩
        rw [f_X9_boxLine, X.2.2.1, if_pos rfl, e6, if_pos rfl, if_pos (show inb _ _ from by decide), show ix (0 : Int32) = 0 from by decide, X.1 0 (by omega), h0, e7, if_neg (fun q9 => absurd ((le_nI (by omega) (by omega)).mp q9) (by omega)), show (12 : Int32) = nI 12 from rfl, nI_add, if_pos ((inb_nI (by omega)).mpr (by omega)), ix_nI (by omega), X.1 _ (by omega), h12, if_neg (by decide), f_X9_boxLine_49, f_X9_boxLine_50, if_pos rfl, f_X9_boxLine_64, if_pos (show inb _ _ from by decide), show ix (0 : Int32) = 0 from by decide, X.1 0 (by omega), h0, a1', bind_some']
        dsimp only
        rw [X1.2.2.1, if_pos rfl, a2', bind_some']
        dsimp only
        rw [show (2 : Int32) = nI 2 from rfl, nI_add, if_pos ((inb_nI (by omega)).mpr (by omega)), ix_nI (by omega), a3', bind_some']
        dsimp only
        rw [show (7 : Int32) = nI 7 from rfl, nI_add, if_pos ((inb_nI (by omega)).mpr (by omega)), ix_nI (by omega), show (12 : Int32) = nI 12 from rfl, nI_add, if_pos ((inb_nI (by omega)).mpr (by omega)), ix_nI (by omega)]
      · refine RLe.num (RLe.w (RLe.num (RLe.w ?_)))
        intro p' e
        cases e
        obtain ⟨a1, a2⟩ := tA_ge (tp := tp) hq
        obtain ⟨e1, e2, e3⟩ := tE_ge (tp := tp) hq
        omega
      · obtain ⟨⟨B', w1⟩, w2, w3, w4⟩ := hW
        have hx := sNv_rg tp n (lo := 1) (hi := 8) (by omega) (sWr tp n 4 (.inr (tE tp n q)))
        have hy := sNv_rg tp n (lo := 1) (hi := 3) (by omega) (sWr tp n 5 (sNr tp n 1 8 (sWr tp n 4 (.inr (tE tp n q)))))
        generalize sNv tp n 1 8 (sWr tp n 4 (.inr (tE tp n q))) = x at hx ⊢
        generalize sNv tp n 1 3 (sWr tp n 5 (sNr tp n 1 8 (sWr tp n 4 (.inr (tE tp n q))))) = y at hy ⊢
        have gg : ∀ j, j ≠ 2 + v → j ≠ 7 + v → j ≠ 12 + v → up (up (up φ (2 + v) (nI x)) (7 + v) (nI y)) (12 + v) 1 j = φ j := fun j h1 h2 h3 => by
          rw [up_n h3, up_n h2, up_n h1]
        refine ⟨⟨B', w1.c fun j hj => gg j (by omega) (by omega) (by omega)⟩, fun b hb => ?_, w3.c fun j h1 h2 => gg j (by omega) (by omega) (by omega), w4.c fun j hj => gg j (by omega) (by omega) (by omega)⟩
        by_cases z : b = v
        · rw [z, up_n (show 2 + v ≠ 12 + v by omega), up_n (show 2 + v ≠ 7 + v by omega), up_s, up_n (show 7 + v ≠ 12 + v by omega), up_s, up_s]
          exact ⟨⟨x, hx.1, hx.2, rfl⟩, ⟨y, hy.1, hy.2, rfl⟩, Or.inr rfl⟩
        · rw [gg _ (by omega) (by omega) (by omega), gg _ (by omega) (by omega) (by omega), gg _ (by omega) (by omega) (by omega)]
          exact w2 b hb
    · -- again
      refine ⟨.inl (3, tA tp n q), φ, fun w hH C D => ?_, fun w X => ?_, RLe.e, fun p' e => by cases e⟩
      · obtain ⟨w2, E, F2, C2, D2, hH2⟩ := head8 w hH C D
        obtain ⟨w', a, L⟩ := no8 (H := H) (f := 3) (φ := φ) C2
        have a' : f_X6_wrong 3 w2 = _ := a
        rw [E, h12, if_neg one_ne, a', bind_some']
        exact ⟨0, w', rfl, LC.tr F2.fc L⟩
      · have M := X.2.2.2.2.2
        have e6 : gI w 130 6 = 3 := by rw [M.2.2.2.1, hg1]; rfl
        have e7 : gI w 130 7 = nI v := by rw [M.2.2.2.2.2 hg1, hv]
        obtain ⟨a, X2⟩ := X.wrong (f := 3) (a := tA tp n q)
        have a' : f_X9_wrong 3 (nI (tA tp n q)) w = _ := a
        obtain ⟨w1, a1, X1⟩ := number9 (lo := 0) (hi := B - 1) hn htp (by omega) (by omega) X2
        have a1' : f_X9_number 0 (nI B - 1) (sI (sI (sI w 130 13 1) 130 9 (nI 3)) 130 10 (nI (tA tp n q))) = some (nI (sNv tp n 0 (B - 1) (.inl (3, tA tp n q))), w1) := by
          rw [eB]; exact a1
        refine ⟨w1, ?_, X1⟩
        rw [f_X9_boxLine, X.2.2.1, if_pos rfl, e6, if_pos rfl, if_pos (show inb _ _ from by decide), show ix (0 : Int32) = 0 from by decide, X.1 0 (by omega), h0, e7, if_neg (fun q9 => absurd ((le_nI (by omega) (by omega)).mp q9) (by omega)), show (12 : Int32) = nI 12 from rfl, nI_add, if_pos ((inb_nI (by omega)).mpr (by omega)), ix_nI (by omega), X.1 _ (by omega), h12, if_pos rfl, f_X9_boxLine_50, if_neg one_ne, M.2.1, a', bind_some', f_X9_boxLine_64, if_pos (show inb _ _ from by decide), show ix (0 : Int32) = 0 from by decide, X2.1 0 (by omega), h0]
        dsimp only
        rw [a1', bind_some']
        dsimp only
        rw [X1.2.2.1, if_neg one_ne]
  · -- no number of a box
    have hs : ∃ e, sNr tp n 0 (B - 1) (.inr q) = .inl e := by
      by_cases z : tK tp n q = 2
      · exact ⟨_, (sN_b z (by omega)).1⟩
      · exact ⟨_, (sN_f z).1⟩
    obtain ⟨e, he⟩ := hs
    refine ⟨.inl e, φ, fun w hH C D => ?_, fun w X => ?_, RLe.e, fun p' e => by cases e⟩
    · obtain ⟨w1, a1, F1, _, C1, h1⟩ := advC hn htp hp C hk
      have D1 := D.f hz F1
      rw [eq] at C1 h1
      rcases isWhole8 (lo := 0) (hi := B - 1) hn (by omega) (by omega) h1 C1 with ⟨z1, _, z2, _, _, _⟩ | ⟨e2, w', z, a2, O2⟩
      · exact absurd ⟨z1, by omega⟩ hg
      · rw [he] at z
        cases z
        have a2' : f_X6_isWhole 0 (nI B - 1) w1 = some (0, w') := by rw [eB]; exact a2
        refine ⟨0, w', ?_, LC.tr F1.fc O2.lc⟩
        rw [f_X6_boxLine, hH, D.1.1, h80, if_neg one_ne, a1, bind_some']
        dsimp only
        rw [F1.2.2 2, hH, D1.1.2.1, h0, a2', bind_some', if_pos rfl]
    · have M := X.2.2.2.2.2
      obtain ⟨w1, a1, X1⟩ := number9 (lo := 0) (hi := B - 1) hn htp (by omega) (by omega) X
      have a1' : f_X9_number 0 (nI B - 1) w = some (nI (sNv tp n 0 (B - 1) (.inr q)), w1) := by
        rw [eB]; exact a1
      rw [he] at X1
      have fin : f_X9_boxLine_49 w = some ((), w1) := by
        rw [f_X9_boxLine_49, f_X9_boxLine_50, if_pos rfl, f_X9_boxLine_64, if_pos (show inb _ _ from by decide), show ix (0 : Int32) = 0 from by decide, X.1 0 (by omega), h0, a1', bind_some']
        dsimp only
        rw [X1.2.2.1, if_neg one_ne]
      refine ⟨w1, ?_, X1⟩
      rw [f_X9_boxLine, X.2.2.1, if_pos rfl, M.2.2.2.1]
      by_cases z : tK tp n q = 2
      · have hv := tV_lt hq z
        rw [z, if_pos (show nI (mK 2) = 3 from rfl), if_pos (show inb _ _ from by decide), show ix (0 : Int32) = 0 from by decide, X.1 0 (by omega), h0, M.2.2.2.2.2 z, if_pos ((le_nI (by omega) (by omega)).mpr (by omega)), fin]
      · rw [show (3 : Int32) = nI 3 from rfl, if_neg (fun y => z (mK_3.mp ((eq_nI (by omega) (by omega)).mp y))), fin]
end BX
