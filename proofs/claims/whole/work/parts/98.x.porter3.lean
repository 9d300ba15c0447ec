/-! the porter's line, both -/
section PR
variable {tp : Nat → Nat} {n : Nat}
theorem rule8_s (hn : n ≤ 900) {w : GW} {p k u : Nat} (hp : p ≤ n) (C : CT w tp n p) (hk : (u = 11 ∧ k = 0) ∨ (u = 12 ∧ k = 1) ∨ (u = 14 ∧ k = 3) ∨ (u = 15 ∧ k = 4)) (h : tS tp n u p) : f_X6_rule w = some (nI k, w) := by
  have f : ∀ u', u' < 34 → sLen u ≠ sLen u' → f_X7_says u' w = some (0, w) := fun u' h1 h2 => says_f hn h1 hp C (tS_len h h2)
  rw [f_X6_rule]
  rcases hk with ⟨rfl, rfl⟩ | ⟨rfl, rfl⟩ | ⟨rfl, rfl⟩ | ⟨rfl, rfl⟩
  · rw [says_t hn (by omega) hp C h, bind_some', if_neg one_ne]
    rfl
  · rw [f 11 (by omega) (by decide), bind_some', if_pos rfl]
    dsimp only
    rw [says_t hn (by omega) hp C h, bind_some', if_neg one_ne]
    rfl
  · rw [f 11 (by omega) (by decide), bind_some', if_pos rfl]
    dsimp only
    rw [f 12 (by omega) (by decide), bind_some', if_pos rfl]
    dsimp only
    rw [f 13 (by omega) (by decide), bind_some', if_pos rfl]
    dsimp only
    rw [says_t hn (by omega) hp C h, bind_some', if_neg one_ne]
    rfl
  · rw [f 11 (by omega) (by decide), bind_some', if_pos rfl]
    dsimp only
    rw [f 12 (by omega) (by decide), bind_some', if_pos rfl]
    dsimp only
    rw [f 13 (by omega) (by decide), bind_some', if_pos rfl]
    dsimp only
    rw [f 14 (by omega) (by decide), bind_some', if_pos rfl]
    dsimp only
    rw [says_t hn (by omega) hp C h, bind_some', if_neg one_ne]
    rfl
theorem rule8_z (hn : n ≤ 900) {w : GW} {p : Nat} (hp : p ≤ n) (C : CT w tp n p) (h : ¬ tS tp n 11 p ∧ ¬ tS tp n 12 p ∧ ¬ tS tp n 14 p ∧ ¬ tS tp n 15 p) : (tS tp n 13 p → f_X6_rule w = some (2, w)) ∧ (¬ tS tp n 13 p → f_X6_rule w = some (-1, w)) := by
  obtain ⟨h1, h2, h3, h4⟩ := h
  constructor
  · intro h5
    rw [f_X6_rule, says_f hn (by omega) hp C h1, bind_some', if_pos rfl]
    dsimp only
    rw [says_f hn (by omega) hp C h2, bind_some', if_pos rfl]
    dsimp only
    rw [says_t hn (by omega) hp C h5, bind_some', if_neg one_ne]
  · intro h5
    rw [f_X6_rule, says_f hn (by omega) hp C h1, bind_some', if_pos rfl]
    dsimp only
    rw [says_f hn (by omega) hp C h2, bind_some', if_pos rfl]
    dsimp only
    rw [says_f hn (by omega) hp C h5, bind_some', if_pos rfl]
    dsimp only
    rw [says_f hn (by omega) hp C h3, bind_some', if_pos rfl]
    dsimp only
    rw [says_f hn (by omega) hp C h4, bind_some', if_pos rfl]
/-- the reference stops at a name that is none -/
theorem bad9 {w : GW} {P q : Nat} {φ : Nat → Int32} (hP : P < 6) (X : XM w tp n (.inr q) φ) : ∃ w', f_X9_porterLine_88 (nI P) w = some ((), w') ∧ XM w' tp n (.inl (1, tA tp n q)) φ := by
  obtain ⟨a, X2⟩ := X.wrong (f := 1) (a := tA tp n q)
  have a' : f_X9_wrong 1 (nI (tA tp n q)) w = _ := a
  have hf : ∃ m, fu = m + 1 := ⟨fu - 1, by have : 0 < fu := (fu_gt (by omega)); omega⟩
  obtain ⟨m, hm⟩ := hf
  refine ⟨_, ?_, X2⟩
  rw [f_X9_porterLine_88, X.2.2.2.2.2.2.1, a', bind_some', f_X9_porterLine_97, hm, f_X9_porterLine_99, f_X9_porterLine_209, X2.2.2.1, if_neg one_ne]
  by_cases y : nI P ≤ 0
  · rw [if_pos y]
  · rw [if_neg y, if_neg one_ne]
theorem name9 (hn : n ≤ 900) {w : GW} {P q : Nat} {φ : Nat → Int32} (hP : P < 6) (h17 : φ 17 = nI P) (X : XM w tp n (.inr q) φ) : ((tK tp n q = 1 ∧ ¬ brd tp n q) → f_X9_porterLine w = f_X9_porterLine_97 (nI P) w) ∧ (¬ (tK tp n q = 1 ∧ ¬ brd tp n q) → f_X9_porterLine w = f_X9_porterLine_88 (nI P) w) := by
  have M := X.2.2.2.2.2
  have hq := X.2.2.2.2.1
  have hk := tK_5 (tp := tp) (n := n) q
  have mk100 := mK_lt (tK tp n q)
  have t : ∀ u, u < 34 → tS tp n u q → f_X9_isWord u w = some (1, w) := fun u hu z => isWord_t hn hu X z
  have f : ∀ u, u < 34 → ¬ tS tp n u q → f_X9_isWord u w = some (0, w) := fun u hu z => isWord_f hn hu X z
  have e75 : f_X9_porterLine_75 (nI P) 1 w = f_X9_porterLine_88 (nI P) w := by
    rw [f_X9_porterLine_75]
    by_cases z : gI w 130 6 = 2
    · rw [if_pos z, if_neg one_ne]
    · rw [if_neg z]
  have c : ∀ u u', strT.getD u [] = strT.getD u' [] → (tS tp n u q ↔ tS tp n u' q) := fun u u' h => tS_u h
  have hb : brd tp n q ↔ tS tp n 17 q ∨ tS tp n 20 q ∨ tS tp n 23 q ∨ tS tp n 24 q ∨ tS tp n 25 q ∨ tS tp n 26 q := by
    unfold brd
    rw [c 17 0 rfl, c 20 3 rfl, c 23 6 rfl, c 24 7 rfl, c 25 8 rfl, c 26 9 rfl]
  rw [hb, f_X9_porterLine, X.2.2.1, if_pos rfl, if_pos (show inb _ _ from by decide), show ix (17 : Int32) = 17 from by decide, X.1 17 (by omega), h17]
  rcases tS_em (tp := tp) (n := n) 17 q with z0 | z0
  · rw [t 17 (by omega) z0, bind_some', if_neg one_ne, f_X9_porterLine_70]
    exact ⟨fun y => absurd (Or.inl z0) y.2, fun _ => e75⟩
  rw [f 17 (by omega) z0, bind_some', if_pos rfl]
  dsimp only
  rcases tS_em (tp := tp) (n := n) 20 q with z3 | z3
  · rw [t 20 (by omega) z3, bind_some', if_neg one_ne, f_X9_porterLine_70]
    exact ⟨fun y => absurd (Or.inr (Or.inl z3)) y.2, fun _ => e75⟩
  rw [f 20 (by omega) z3, bind_some', if_pos rfl]
  dsimp only
  rcases tS_em (tp := tp) (n := n) 23 q with z6 | z6
  · rw [t 23 (by omega) z6, bind_some', if_neg one_ne, f_X9_porterLine_70]
    exact ⟨fun y => absurd (Or.inr (Or.inr (Or.inl z6))) y.2, fun _ => e75⟩
  rw [f 23 (by omega) z6, bind_some', if_pos rfl]
  dsimp only
  rcases tS_em (tp := tp) (n := n) 24 q with z7 | z7
  · rw [t 24 (by omega) z7, bind_some', if_neg one_ne, f_X9_porterLine_70]
    exact ⟨fun y => absurd (Or.inr (Or.inr (Or.inr (Or.inl z7)))) y.2, fun _ => e75⟩
  rw [f 24 (by omega) z7, bind_some', if_pos rfl]
  dsimp only
  rcases tS_em (tp := tp) (n := n) 25 q with z8 | z8
  · rw [t 25 (by omega) z8, bind_some', if_neg one_ne, f_X9_porterLine_70]
    exact ⟨fun y => absurd (Or.inr (Or.inr (Or.inr (Or.inr (Or.inl z8))))) y.2, fun _ => e75⟩
  rw [f 25 (by omega) z8, bind_some', if_pos rfl]
  dsimp only
  rcases tS_em (tp := tp) (n := n) 26 q with z9 | z9
  · rw [t 26 (by omega) z9, bind_some', if_neg one_ne, f_X9_porterLine_70]
    exact ⟨fun y => absurd (Or.inr (Or.inr (Or.inr (Or.inr (Or.inr z9))))) y.2, fun _ => e75⟩
  rw [f 26 (by omega) z9, bind_some', if_pos rfl]
  dsimp only
  have hnb : ¬ (tS tp n 17 q ∨ tS tp n 20 q ∨ tS tp n 23 q ∨ tS tp n 24 q ∨ tS tp n 25 q ∨ tS tp n 26 q) := by
    rintro (y | y | y | y | y | y)
    · exact z0 y
    · exact z3 y
    · exact z6 y
    · exact z7 y
    · exact z8 y
    · exact z9 y
  rw [f_X9_porterLine_75, M.2.2.2.1]
  constructor
  · rintro ⟨y, _⟩
    rw [y, if_pos (show nI (mK 1) = 2 from rfl), if_pos rfl]
  · intro y
    rw [show (2 : Int32) = nI 2 from rfl, if_neg (fun x => y ⟨mK_2.mp ((eq_nI (by omega) (by omega)).mp x), hnb⟩)]
/-- the reference's letters -/
theorem let9 (hn : n ≤ 900) (htp : ∀ j, tp j < 256) {P q : Nat} {φ : Nat → Int32} (hP : P < 6) (hq : q ≤ n) (h1 : tK tp n q = 1) : ∀ d i m w, i + d = tE tp n q - tA tp n q → d < m → XM w tp n (.inr q) (lF tp φ P (tA tp n q) i) → ∃ w', f_X9_porterLine_219 m (nI P) (nI i) w = ((f_X9_takes 28 w').bind fun q20 => if q20.1 = 0 then (f_X9_takes 29 q20.2).bind fun q24 => if q24.1 = 0 then (f_X9_takes 30 q24.2).bind fun q28 => if q28.1 = 0 then (f_X9_takes 31 q28.2).bind fun q32 => if q32.1 = 0 then (f_X9_told 32 0 8 (sI q32.2 134 (24 + P) 2)).bind fun q37 => f_X9_porterLine_414 (sI q37.2 134 (30 + P) q37.1) else f_X9_porterLine_414 (sI q32.2 134 (24 + P) 4) else f_X9_porterLine_414 (sI q28.2 134 (24 + P) 3) else f_X9_porterLine_414 (sI q24.2 134 (24 + P) 1) else f_X9_porterLine_414 (sI q20.2 134 (24 + P) 0)) ∧ XM w' tp n (sNr tp n 1 3 (sWr tp n 10 (.inr (tE tp n q)))) (f1F tp φ P (tA tp n q) (tE tp n q - tA tp n q) (sNv tp n 1 3 (sWr tp n 10 (.inr (tE tp n q))))) := by
  obtain ⟨k1, k2⟩ := tK_1 hq h1
  intro d
  induction d with
  | zero =>
    intro i m w hi hm X
    obtain ⟨m, rfl⟩ : ∃ m9, m = m9 + 1 := ⟨m - 1, by omega⟩
    obtain ⟨m8, m9⟩ := X.2.2.2.2.2.2.2.2.2.1 h1
    have ei : i = tE tp n q - tA tp n q := by omega
    subst ei
    obtain ⟨w2, a2, X2⟩ := (X.set (i := 81 + P) (v := nI (tE tp n q - tA tp n q))).next hn htp
    obtain ⟨w3, a3, X3⟩ := told9 (u := 27) (lo := 1) (hi := 3) hn htp (by omega) (by omega) (by omega) X2
    rw [sWr_u (u := 27) (u' := 10) rfl] at a3 X3
    have a3' : f_X9_told 27 1 3 w2 = _ := a3
    refine ⟨_, ?_, (X3.set (i := 18 + P) (v := nI (sNv tp n 1 3 (sWr tp n 10 (.inr (tE tp n q)))))).set (i := 30 + P) (v := -2)⟩
    rw [f_X9_porterLine_219, m8, if_pos ((le_nI (by omega) (by omega)).mpr (by omega)), show (81 : Int32) = nI 81 from rfl, nI_add, if_pos ((inb_nI (by omega)).mpr (by omega)), ix_nI (by omega), a2, bind_some']
    dsimp only
    rw [a3', bind_some', show (18 : Int32) = nI 18 from rfl, nI_add, if_pos ((inb_nI (by omega)).mpr (by omega)), ix_nI (by omega), show (30 : Int32) = nI 30 from rfl, nI_add, if_pos ((inb_nI (by omega)).mpr (by omega)), ix_nI (by omega)]
    have e24 : (24 : Int32) + nI P = nI (24 + P) := nI_add 24 P
    have in24 : inb (24 + nI P) 135 := by rw [e24]; exact (inb_nI (by omega)).mpr (by omega)
    have ix24 : ix (24 + nI P) = 24 + P := by rw [e24, ix_nI (by omega)]
    have in30 : inb (nI (30 + P)) 135 := (inb_nI (by omega)).mpr (by omega)
    simp only [if_pos in24, ix24, if_pos in30, ix_nI (show 30 + P < 2147483648 by omega)]
  | succ d ih =>
    intro i m w hi hm X
    obtain ⟨m, rfl⟩ : ∃ m9, m = m9 + 1 := ⟨m - 1, by omega⟩
    obtain ⟨m8, m9⟩ := X.2.2.2.2.2.2.2.2.2.1 h1
    rw [f_X9_porterLine_219, m8, if_neg (fun q9 => absurd ((le_nI (by omega) (by omega)).mp q9) (by omega)), if_pos ((inb_nI (by omega)).mpr (by omega)), show (8 : Int32) = nI 8 from rfl, pk_mul, show (87 : Int32) = nI 87 from rfl, nI_add, nI_add, if_pos ((inb_nI (by omega)).mpr (by omega)), ix_nI (by omega), ix_nI (by omega), m9 i (by omega), nI_1]
    exact ih (i + 1) m _ (by omega) (by omega) X.set
theorem porJ (hn : n ≤ 900) (htp : ∀ j, tp j < 256) {H p P : Nat} {φ : Nat → Int32} (hz : 4 ≤ H) (hp : p ≤ n) (hk : tK tp n p ≠ 0) (hW : WF φ) (hP : P < 6) (h17 : φ 17 = nI P) : LNJ tp n H f_X6_porterLine f_X9_porterLine p (tE tp n p) φ := by
  have hq := (tE_ge (tp := tp) hp).2.1
  have hWp : ∀ k, k < P → WFp φ k := by
    obtain ⟨P', q1, q2, q3⟩ := hW.2.2.2
    have : P' = P := (eq_nI (by omega) (by omega)).mp (q2.symm.trans h17)
    rw [← this]
    exact q3
  have head8 : ∀ w, fxH (gR w 2) = H → CT w tp n p → DC w H φ → ∃ w1, f_X7_advance w = some ((), w1) ∧ F13 w w1 ∧ CT w1 tp n (tE tp n p) ∧ DC w1 H φ := fun w hH C D => by
    obtain ⟨w1, a1, F1, _, C1, h1⟩ := advC hn htp hp C hk
    exact ⟨w1, a1, F1, C1, D.f hz F1⟩
  generalize tE tp n p = q at hq head8 ⊢
  by_cases hg : tK tp n q = 1 ∧ ¬ brd tp n q
  · obtain ⟨h1, h2⟩ := id hg
    obtain ⟨k1, k2⟩ := tK_1 hq h1
    by_cases hs : ∃ k, k < P ∧ smN tp n q φ k
    · refine ⟨.inl (3, tA tp n q), φ, fun w hH C D => ?_, fun w X => ?_, RLe.e, fun p' e => by cases e⟩
      · obtain ⟨w1, a1, F1, C1, D1⟩ := head8 w hH C D
        obtain ⟨w', a, L⟩ := no8 (H := H) (f := 3) (φ := φ) C1
        have a' : f_X6_wrong 3 w1 = _ := a
        refine ⟨0, w', ?_, LC.tr F1.fc L⟩
        rw [f_X6_porterLine, hH, D.1.2.2.2.2.2.2.1, h17, show (6 : Int32) = nI 6 from rfl, if_pos ((lt_nI (by omega) (by omega)).mpr (by omega)), a1, bind_some']
        dsimp only
        rw [isName8_t hn hq C1 h1 h2, bind_some', if_neg one_ne]
        dsimp only
        rw [F1.2.2 2, hH, C1.2.2.2.2.2.1 h1, hasN_t hq h1 (by omega) h17 hWp D1 hs, bind_some', if_neg one_ne]
        dsimp only
        rw [a', bind_some']
      · rw [(name9 hn hP h17 X).1 hg, f_X9_porterLine_97, show (0 : Int32) = nI 0 from rfl]
        rcases nm9 hn hq h1 (by omega) hWp X P 0 fu (by omega) (fu_gt (by omega)) with ⟨g1, _⟩ | ⟨_, w', g1, g2⟩
        · obtain ⟨k, y1, y2⟩ := hs
          exact absurd y2 (g1 k (by omega) y1)
        · exact ⟨w', g1, g2⟩
    · have hs' : ∀ k, k < P → ¬ smN tp n q φ k := fun k y1 y2 => hs ⟨k, y1, y2⟩
      have e2q := (tE_ge (tp := tp) hq).2.1
      have hgl := sNv_rg tp n (lo := 1) (hi := 3) (by omega) (sWr tp n 10 (.inr (tE tp n q)))
      have hle1 : RLe n q (sNr tp n 1 3 (sWr tp n 10 (.inr (tE tp n q)))) := RLe.num (RLe.w (fun p' e => by
        cases e
        obtain ⟨a1, a2⟩ := tA_ge (tp := tp) hq
        obtain ⟨e1, e2, e3⟩ := tE_ge (tp := tp) hq
        omega))
      have h17' : f1F tp φ P (tA tp n q) (tE tp n q - tA tp n q) (sNv tp n 1 3 (sWr tp n 10 (.inr (tE tp n q)))) 17 = nI P := by
        unfold f1F
        rw [up_n (by omega), up_n (by omega), up_n (by omega), lF_o _ (by omega)]
        exact h17
      -- the class up to the rule
      have mid8 : ∀ w, fxH (gR w 2) = H → CT w tp n p → DC w H φ → (∃ e w', sNr tp n 1 3 (sWr tp n 10 (.inr (tE tp n q))) = .inl e ∧ f_X6_porterLine w = some (0, w') ∧ FC H w w' ∧ gI w' 3 3 = nI e.1 ∧ gI w' 3 4 = nI e.2) ∨ ∃ p2 w2, sNr tp n 1 3 (sWr tp n 10 (.inr (tE tp n q))) = .inr p2 ∧ p2 ≤ n ∧ CT w2 tp n p2 ∧ FC H w w2 ∧ (∀ k j, 4 ≤ k → gI w2 k j = gI w k j) ∧ (∀ k j, 4 ≤ k → ¬ (k = H + 11 ∧ j = P) → gL w2 k j = gL w k j) ∧ gL w2 (H + 11) P = lN (tN tp n q) ∧ f_X6_porterLine w = (f_X6_rule w2).bind fun q23 => if 0 ≤ q23.1 then (f_X7_advance q23.2).bind fun q26 => if q23.1 = 2 then (f_X6_whole 0 8 q26.2).bind fun q33 => if q33.1 = 0 then some (0, q33.2) else f_X6_porterLine_150 (nI P) (nI (sNv tp n 1 3 (sWr tp n 10 (.inr (tE tp n q))))) q23.1 q33.2 else f_X6_porterLine_150 (nI P) (nI (sNv tp n 1 3 (sWr tp n 10 (.inr (tE tp n q))))) q23.1 q26.2 else (f_X6_wrong 1 q23.2).bind fun q37 => some (q37.1, q37.2) := by
        intro w hH C D
        obtain ⟨w1, a1, F1, C1, D1⟩ := head8 w hH C D
        obtain ⟨w3, a3, F3, _, C3, h3⟩ := advC hn htp hq (C1.stL (k := H + 11) (j := P) (v := lN (tN tp n q)) (by omega)) (by omega)
        obtain ⟨b4, w4, a4, O4⟩ := word8 (u := 10) hn htp (by omega) h3 C3
        have G3 : FC H w w3 := (F1.fc.tr (FC.stL (by omega) (by omega))).tr F3.fc
        have G4 := G3.tr O4.1.fc
        have E : f_X6_porterLine w = if b4 = 0 then some (0, w4) else (f_X6_whole 1 3 w4).bind fun q19 => if q19.1 = 0 then some (0, q19.2) else (f_X6_rule q19.2).bind fun q23 => if 0 ≤ q23.1 then (f_X7_advance q23.2).bind fun q26 => if q23.1 = 2 then (f_X6_whole 0 8 q26.2).bind fun q33 => if q33.1 = 0 then some (0, q33.2) else f_X6_porterLine_150 (nI P) (gI q19.2 3 2) q23.1 q33.2 else f_X6_porterLine_150 (nI P) (gI q19.2 3 2) q23.1 q26.2 else (f_X6_wrong 1 q23.2).bind fun q37 => some (q37.1, q37.2) := by
          rw [f_X6_porterLine, hH, D.1.2.2.2.2.2.2.1, h17, show (6 : Int32) = nI 6 from rfl, if_pos ((lt_nI (by omega) (by omega)).mpr (by omega)), a1, bind_some']
          dsimp only
          rw [isName8_t hn hq C1 h1 h2, bind_some', if_neg one_ne]
          dsimp only
          rw [F1.2.2 2, hH, C1.2.2.2.2.2.1 h1, hasN_f hq h1 (by omega) h17 hWp D1 hs', bind_some', if_pos rfl, if_pos ((inb_nI (by omega)).mpr (by omega)), ix_nI (by omega)]
          dsimp only
          rw [F1.2.2 2, hH, C1.2.2.2.2.2.1 h1, a3, bind_some']
          dsimp only
          rw [a4, bind_some']
        rw [E]
        rcases O4.cs with ⟨e, er, rfl, L⟩ | ⟨p4, er, rfl, h4, C4⟩
        · rw [er, if_pos rfl]
          exact Or.inl ⟨e, w4, rfl, rfl, G4, L⟩
        obtain ⟨b5, w5, a5, O5, v5⟩ := whole8 (lo := 1) (hi := 3) hn htp (by omega) (by omega) h4 C4
        have a5' : f_X6_whole 1 3 w4 = _ := a5
        have G5 := G4.tr O5.1.fc
        rw [er, if_neg one_ne, a5', bind_some']
        rcases O5.cs with ⟨e, er5, rfl, L⟩ | ⟨p5, er5, rfl, h5, C5⟩
        · rw [er5, if_pos rfl]
          exact Or.inl ⟨e, w5, rfl, rfl, G5, L⟩
        rw [er5, if_neg one_ne]
        dsimp only
        have F5 := (F3.tr O4.1).tr O5.1
        rw [v5 rfl]
        refine Or.inr ⟨p5, w5, rfl, h5, C5, G5, fun k j h => ?_, fun k j h hne => ?_, ?_, rfl⟩
        · rw [(F5.1 k j (by omega) (by omega)).1, gI_sL, (F1.1 k j (by omega) (by omega)).1]
        · rw [(F5.1 k j (by omega) (by omega)).2, gL_sL, if_neg hne, (F1.1 k j (by omega) (by omega)).2]
        · rw [(F5.1 _ _ (by omega) (by omega)).2, gL_same]
      -- the reference up to the rule
      have mid9 : ∀ w, XM w tp n (.inr q) φ → ∃ w', f_X9_porterLine w = ((f_X9_takes 28 w').bind fun q20 => if q20.1 = 0 then (f_X9_takes 29 q20.2).bind fun q24 => if q24.1 = 0 then (f_X9_takes 30 q24.2).bind fun q28 => if q28.1 = 0 then (f_X9_takes 31 q28.2).bind fun q32 => if q32.1 = 0 then (f_X9_told 32 0 8 (sI q32.2 134 (24 + P) 2)).bind fun q37 => f_X9_porterLine_414 (sI q37.2 134 (30 + P) q37.1) else f_X9_porterLine_414 (sI q32.2 134 (24 + P) 4) else f_X9_porterLine_414 (sI q28.2 134 (24 + P) 3) else f_X9_porterLine_414 (sI q24.2 134 (24 + P) 1) else f_X9_porterLine_414 (sI q20.2 134 (24 + P) 0)) ∧ XM w' tp n (sNr tp n 1 3 (sWr tp n 10 (.inr (tE tp n q)))) (f1F tp φ P (tA tp n q) (tE tp n q - tA tp n q) (sNv tp n 1 3 (sWr tp n 10 (.inr (tE tp n q))))) := by
        intro w X
        obtain ⟨w', g1, g2⟩ := let9 (φ := φ) hn htp hP hq h1 (tE tp n q - tA tp n q) 0 fu w (by omega) (fu_gt (by omega)) X
        refine ⟨w', ?_, g2⟩
        rw [(name9 hn hP h17 X).1 hg, f_X9_porterLine_97, show (0 : Int32) = nI 0 from rfl]
        rcases nm9 hn hq h1 (by omega) hWp X P 0 fu (by omega) (fu_gt (by omega)) with ⟨_, y2⟩ | ⟨⟨k, _, y1, y2⟩, _⟩
        · rw [y2, f_X9_porterLine_209, X.2.2.1, if_pos rfl, show (0 : Int32) = nI 0 from rfl]
          exact g1
        · exact absurd y2 (hs' k y1)
      generalize hgv : sNv tp n 1 3 (sWr tp n 10 (.inr (tE tp n q))) = g at hgl h17' mid8 mid9
      generalize hr1 : sNr tp n 1 3 (sWr tp n 10 (.inr (tE tp n q))) = r1 at hle1 mid8 mid9
      by_cases hsim : ∃ p2 u k, r1 = .inr p2 ∧ ((u = 11 ∧ k = 0) ∨ (u = 12 ∧ k = 1) ∨ (u = 14 ∧ k = 3) ∨ (u = 15 ∧ k = 4)) ∧ tS tp n u p2
      · obtain ⟨p2, u, k, y1, y2, y3⟩ := hsim
        subst y1
        have hp2 := (hle1 p2 rfl).2
        obtain ⟨d1, d2⟩ := tA_ge (tp := tp) hp2
        obtain ⟨d3, d4, d5⟩ := tE_ge (tp := tp) hp2
        refine ⟨.inr (tE tp n p2), fF tp φ P (tA tp n q) (tE tp n q - tA tp n q) g k 0, fun w hH C D => ?_, fun w X => ?_, fun p' e => ?_, fun p' _ => WF.por hP k1 h17 k2 hgl (by omega) (by omega) hW⟩
        · rcases mid8 w hH C D with ⟨e, w', z1, _⟩ | ⟨p2', w2, z1, z2, C2, G2, I2, L2, N2, E2⟩
          · cases z1
          · cases z1
            obtain ⟨w3, a3, F3, _, C3, h3⟩ := advC hn htp hp2 C2 (by have := y3.1; omega)
            obtain ⟨w', g1, g2⟩ := por150 (tp := tp) (n := n) (w0 := w) (w := w3) (g := g) (r := k) (h := 0) hz hP k1 h17 k2 hWp (by omega) hH h3 C3 D (G2.tr F3.fc) (fun k j h => by rw [(F3.1 k j (by omega) (by omega)).1]; exact I2 k j h) (fun k j h hne => by rw [(F3.1 k j (by omega) (by omega)).2]; exact L2 k j h hne) (by rw [(F3.1 _ _ (by omega) (by omega)).2]; exact N2) (fun z => by omega)
            refine ⟨1, w', ?_, g2⟩
            rw [E2, rule8_s hn hp2 C2 y2 y3, bind_some', show (0 : Int32) = nI 0 from rfl, if_pos ((le_nI (by omega) (by omega)).mpr (by omega))]
            dsimp only
            rw [a3, bind_some', show (2 : Int32) = nI 2 from rfl, if_neg (fun q9 => absurd ((eq_nI (by omega) (by omega)).mp q9) (by omega))]
            exact g1
        · obtain ⟨w2, g1, X2⟩ := mid9 w X
          obtain ⟨w3, g3, X3⟩ := rule9_s hn htp hP h17' X2 y2 y3
          rw [g1]
          rw [fF_s (by omega)] at X3
          exact ⟨w3, g3, X3⟩
        · cases e
          have := hle1 p2 rfl
          omega
      · have hno : ∀ p2, r1 = .inr p2 → ¬ tS tp n 11 p2 ∧ ¬ tS tp n 12 p2 ∧ ¬ tS tp n 14 p2 ∧ ¬ tS tp n 15 p2 := fun p2 y => ⟨fun z => hsim ⟨p2, 11, 0, y, Or.inl ⟨rfl, rfl⟩, z⟩, fun z => hsim ⟨p2, 12, 1, y, Or.inr (Or.inl ⟨rfl, rfl⟩), z⟩, fun z => hsim ⟨p2, 14, 3, y, Or.inr (Or.inr (Or.inl ⟨rfl, rfl⟩)), z⟩, fun z => hsim ⟨p2, 15, 4, y, Or.inr (Or.inr (Or.inr ⟨rfl, rfl⟩)), z⟩⟩
        have hh := sNv_rg tp n (lo := 0) (hi := 8) (by omega) (sWr tp n 13 r1)
        refine ⟨sNr tp n 0 8 (sWr tp n 13 r1), fF tp φ P (tA tp n q) (tE tp n q - tA tp n q) g 2 (sNv tp n 0 8 (sWr tp n 13 r1)), fun w hH C D => ?_, fun w X => ?_, hle1.w.num, fun p' _ => WF.por hP k1 h17 k2 hgl (by omega) hh.2 hW⟩
        · rcases mid8 w hH C D with ⟨e, w', z1, z2, z3, z4⟩ | ⟨p2, w2, z1, z2, C2, G2, I2, L2, N2, E2⟩
          · rw [z1]
            exact ⟨0, w', z2, LC.e z3 rfl rfl z4⟩
          · obtain ⟨s1, s2⟩ := rule8_z hn z2 C2 (hno p2 z1)
            rw [z1, E2]
            rcases tS_em (tp := tp) (n := n) 13 p2 with y | y
            · rw [s1 y, bind_some', if_pos (show (0 : Int32) ≤ 2 from by decide)]
              obtain ⟨w3, a3, F3, _, C3, h3⟩ := advC hn htp z2 C2 (by have := y.1; omega)
              obtain ⟨b4, w4, a4, O4, v4⟩ := whole8 (lo := 0) (hi := 8) hn htp (by omega) (by omega) h3 C3
              have a4' : f_X6_whole 0 8 w3 = _ := a4
              dsimp only
              rw [a3, bind_some', if_pos rfl]
              dsimp only
              rw [a4', bind_some', sWr_t y]
              have F4 := F3.tr O4.1
              rcases O4.cs with ⟨e, er, rfl, L⟩ | ⟨p4, er, rfl, h4, C4⟩
              · rw [er, if_pos rfl]
                exact ⟨0, w4, rfl, LC.e (G2.tr F4.fc) rfl rfl L⟩
              · rw [er, if_neg one_ne]
                obtain ⟨w', g1, g2⟩ := por150 (tp := tp) (n := n) (w0 := w) (w := w4) (g := g) (r := 2) (h := sNv tp n 0 8 (.inr (tE tp n p2))) hz hP k1 h17 k2 hWp (by omega) hH h4 C4 D (G2.tr F4.fc) (fun k j h => by rw [(F4.1 k j (by omega) (by omega)).1]; exact I2 k j h) (fun k j h hne => by rw [(F4.1 k j (by omega) (by omega)).2]; exact L2 k j h hne) (by rw [(F4.1 _ _ (by omega) (by omega)).2]; exact N2) (fun _ => v4 rfl)
                exact ⟨1, w', g1, g2⟩
            · rw [s2 y, bind_some', if_neg (show ¬ (0 : Int32) ≤ -1 from by decide), sWr_f y]
              obtain ⟨w', a, L⟩ := no8 (H := H) (f := 1) (φ := fF tp φ P (tA tp n q) (tE tp n q - tA tp n q) g 2 (sNv tp n 0 8 (.inl (1, tA tp n p2)))) C2
              have a' : f_X6_wrong 1 w2 = _ := a
              dsimp only
              rw [a', bind_some']
              exact ⟨0, w', rfl, LC.tr G2 L⟩
        · obtain ⟨w2, g1, X2⟩ := mid9 w X
          obtain ⟨w3, g3, X3⟩ := rule9_z hn htp hP h17' X2 hno
          rw [g1]
          exact ⟨w3, g3, X3⟩
  · refine ⟨.inl (1, tA tp n q), φ, fun w hH C D => ?_, fun w X => ?_, RLe.e, fun p' e => by cases e⟩
    · obtain ⟨w1, a1, F1, C1, D1⟩ := head8 w hH C D
      obtain ⟨w', a, L⟩ := no8 (H := H) (f := 1) (φ := φ) C1
      have a' : f_X6_wrong 1 w1 = _ := a
      refine ⟨0, w', ?_, LC.tr F1.fc L⟩
      rw [f_X6_porterLine, hH, D.1.2.2.2.2.2.2.1, h17, show (6 : Int32) = nI 6 from rfl, if_pos ((lt_nI (by omega) (by omega)).mpr (by omega)), a1, bind_some']
      dsimp only
      rw [isName8_f hn hq C1 hg, bind_some', if_pos rfl]
      dsimp only
      rw [a', bind_some']
    · rw [(name9 hn hP h17 X).2 hg]
      exact bad9 hP X
end PR
