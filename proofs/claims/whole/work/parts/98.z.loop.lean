/-! all lines, both; the sums; a draft cleared -/
/-- what reading leaves of the reference -/
def FM (w w' : GW) : Prop := (∀ q j, q ≤ 129 ∨ q = 131 ∨ q = 133 ∨ q = 135 ∨ q = 136 ∨ (q = 130 ∧ (j = 2 ∨ j = 3 ∨ j = 11 ∨ j = 14 ∨ j = 19)) → gI w' q j = gI w q j ∧ gL w' q j = gL w q j) ∧ ∀ r, gR w' r = gR w r
theorem FM.rf {w : GW} : FM w w := ⟨fun _ _ _ => ⟨rfl, rfl⟩, fun _ => rfl⟩
theorem FM.tr {a b c : GW} (h : FM a b) (h2 : FM b c) : FM a c := ⟨fun q j x => ⟨(h2.1 q j x).1.trans (h.1 q j x).1, (h2.1 q j x).2.trans (h.1 q j x).2⟩, fun r => (h2.2 r).trans (h.2 r)⟩
def qF (L : List (Nat × Nat × Nat)) : Bool := L.all (fun q => (decide (q.1 = 130) && decide (q.2.1 = 131) && decide (q.2.2 ≠ 0) && decide (q.2.2 ≠ 3) && decide (q.2.2 ≠ 4) && decide (q.2.2 ≠ 12) && decide (q.2.2 ≠ 15) && decide (q.2.2 ≠ 20)) || (decide (132 = q.1) && decide (q.2.1 = 133)) || (decide (134 = q.1) && decide (q.2.1 = 135)))
theorem FM.sm {L : List (Nat × Nat × Nat)} {R : List Nat} {w w' : GW} (S : Sm L R w w') (h : qF L = true) (hr : R = []) : FM w w' := by
  refine ⟨fun p j x => S.1 p j ?_, fun r => S.2 r (by rw [hr]; exact List.not_mem_nil)⟩
  cases hm : md L p j with
  | false => rfl
  | true =>
    obtain ⟨q, hq, a, b, c⟩ := md_ex hm
    have := List.all_eq_true.mp h q hq
    simp only [Bool.and_eq_true, Bool.or_eq_true, decide_eq_true_eq] at this
    omega
/-- a draft with its sums -/
def DS2 (w : GW) (H : Nat) (φ : Nat → Int32) : Prop := DC w H φ ∧ gI w H 3 = nI (sm (ix (φ 0)) (fun b => ix (φ (2 + b)))) ∧ gI w H 4 = nI (sm (ix (φ 0)) (fun b => ix (φ (7 + b))))
theorem sm_b {f : Nat → Nat} {c : Nat} : ∀ m, (∀ i, i < m → f i ≤ c) → sm m f ≤ m * c := by
  intro m
  induction m with
  | zero => intro _; exact Nat.zero_le _
  | succ m ih =>
    intro h
    have h1 := ih (fun i hi => h i (by omega))
    have h2 := h m (by omega)
    rw [sm_s, Nat.succ_mul]
    omega
theorem sumUp8 {w : GW} {H B : Nat} {φ : Nat → Int32} (hz : 4 ≤ H) (hW : WF φ) (hB : 1 ≤ B ∧ B ≤ 5) (h0 : φ 0 = nI B) (D : DC w H φ) : ∃ w', f_X3_sumUp H w = some ((), w') ∧ DS2 w' H φ ∧ FC H w w' ∧ gI w' 3 3 = gI w 3 3 := by
  have hb := hW.2.1
  have hv : ∀ b, b < 5 → φ (2 + b) = nI (ix (φ (2 + b))) ∧ φ (7 + b) = nI (ix (φ (7 + b))) ∧ ix (φ (2 + b)) ≤ 8 ∧ ix (φ (7 + b)) ≤ 3 := fun b h => by
    obtain ⟨⟨x, _, x2, x3⟩, ⟨y, _, y2, y3⟩, _⟩ := hb b h
    rw [x3, y3, ix_nI (by omega), ix_nI (by omega)]
    exact ⟨rfl, rfl, x2, y2⟩
  have hi0 : ix (φ 0) = B := by rw [h0, ix_nI (by omega)]
  have key : ∀ d i m w, i + d = B → d < m → DC w H φ → gI w H 3 = nI (sm i (fun b => ix (φ (2 + b)))) → gI w H 4 = nI (sm i (fun b => ix (φ (7 + b)))) → ∃ w', f_X3_sumUp_12 m H (nI i) w = some ((), w') ∧ DS2 w' H φ ∧ FC H w w' ∧ gI w' 3 3 = gI w 3 3 := by
    intro d
    induction d with
    | zero =>
      intro i m w hi hm D h3 h4
      obtain ⟨m, rfl⟩ : ∃ m9, m = m9 + 1 := ⟨m - 1, by omega⟩
      have : i = B := by omega
      subst this
      exact ⟨w, by rw [f_X3_sumUp_12, D.1.2.1, h0, if_pos ((le_nI (by omega) (by omega)).mpr (by omega))], ⟨D, by rw [hi0]; exact h3, by rw [hi0]; exact h4⟩, FC.rf, rfl⟩
    | succ d ih =>
      intro i m w hi hm D h3 h4
      obtain ⟨m, rfl⟩ : ∃ m9, m = m9 + 1 := ⟨m - 1, by omega⟩
      obtain ⟨v1, v2, v3, v4⟩ := hv i (by omega)
      have b1 := sm_b (f := fun b => ix (φ (2 + b))) (c := 8) i (fun j hj => (hv j (by omega)).2.2.1)
      have b2 := sm_b (f := fun b => ix (φ (7 + b))) (c := 3) i (fun j hj => (hv j (by omega)).2.2.2)
      have D2 : ∀ w (j : Nat) v, j = 3 ∨ j = 4 → DC w H φ → DC (sI w H j v) H φ := by
        intro w j v hj D
        obtain ⟨⟨a1, a2, a3, a4, a5, a6, a7, a8⟩, bb, c, d⟩ := D
        have g : ∀ k x, (k ≠ H ∨ x ≠ j) → gI (sI w H j v) k x = gI w k x := fun k x z => by rw [gI_sI, if_neg (fun q => z.elim (fun y => y q.1) (fun y => y q.2))]
        exact ⟨⟨(g _ _ (by omega)).trans a1, (g _ _ (by omega)).trans a2, (g _ _ (by omega)).trans a3, (g _ _ (by omega)).trans a4, (g _ _ (by omega)).trans a5, (g _ _ (by omega)).trans a6, (g _ _ (by omega)).trans a7, (g _ _ (by omega)).trans a8⟩, fun x hx => ⟨(g _ _ (by omega)).trans (bb x hx).1, (g _ _ (by omega)).trans (bb x hx).2.1, (g _ _ (by omega)).trans (bb x hx).2.2⟩, fun p h1 h2 => ⟨(g _ _ (by omega)).trans (c p h1 h2).1, (g _ _ (by omega)).trans (c p h1 h2).2.1, (g _ _ (by omega)).trans (c p h1 h2).2.2.1, (c p h1 h2).2.2.2⟩, fun y x h1 h2 => (g _ _ (by omega)).trans (d y x h1 h2)⟩
      have e1 : gI w (H + 1) i = nI (ix (φ (2 + i))) := (D.2.1 i (by omega)).1.trans v1
      have e2 : gI w (H + 2) i = nI (ix (φ (7 + i))) := (D.2.1 i (by omega)).2.1.trans v2
      rw [f_X3_sumUp_12, D.1.2.1, h0, if_neg (fun q9 => absurd ((le_nI (by omega) (by omega)).mp q9) (by omega)), if_pos ((inb_nI (by omega)).mpr (by omega)), if_pos ((inb_nI (by omega)).mpr (by omega)), ix_nI (by omega), h3, e1, nI_add, gI_sI, if_neg (by omega), gI_sI, if_neg (by omega), h4, e2, nI_add, nI_1]
      obtain ⟨w', t1, t2, t3, t4⟩ := ih (i + 1) m (sI (sI w H 3 (nI (sm i (fun b => ix (φ (2 + b))) + ix (φ (2 + i))))) H 4 (nI (sm i (fun b => ix (φ (7 + b))) + ix (φ (7 + i))))) (by omega) (by omega) (D2 _ 4 _ (Or.inr rfl) (D2 _ 3 _ (Or.inl rfl) D)) (by rw [gI_sI, if_neg (by omega), gI_same, sm_s]) (by rw [gI_same, sm_s])
      refine ⟨w', t1, t2, ((FC.st (by omega) (by omega) hz).tr (FC.st (by omega) (by omega) hz)).tr t3, ?_⟩
      rw [t4, gI_sI, if_neg (by omega), gI_sI, if_neg (by omega)]
  rw [f_X3_sumUp, show (0 : Int32) = nI 0 from rfl]
  have D0 : DC (sI (sI w H 3 0) H 4 0) H φ := by
    obtain ⟨⟨a1, a2, a3, a4, a5, a6, a7, a8⟩, bb, c, d⟩ := D
    have g : ∀ k x, (k ≠ H ∨ (x ≠ 3 ∧ x ≠ 4)) → gI (sI (sI w H 3 0) H 4 0) k x = gI w k x := fun k x z => by rw [gI_sI, if_neg (by omega), gI_sI, if_neg (by omega)]
    exact ⟨⟨(g _ _ (by omega)).trans a1, (g _ _ (by omega)).trans a2, (g _ _ (by omega)).trans a3, (g _ _ (by omega)).trans a4, (g _ _ (by omega)).trans a5, (g _ _ (by omega)).trans a6, (g _ _ (by omega)).trans a7, (g _ _ (by omega)).trans a8⟩, fun x hx => ⟨(g _ _ (by omega)).trans (bb x hx).1, (g _ _ (by omega)).trans (bb x hx).2.1, (g _ _ (by omega)).trans (bb x hx).2.2⟩, fun p h1 h2 => ⟨(g _ _ (by omega)).trans (c p h1 h2).1, (g _ _ (by omega)).trans (c p h1 h2).2.1, (g _ _ (by omega)).trans (c p h1 h2).2.2.1, (c p h1 h2).2.2.2⟩, fun y x h1 h2 => (g _ _ (by omega)).trans (d y x h1 h2)⟩
  obtain ⟨w', t1, t2, t3, t4⟩ := key B 0 fu (sI (sI w H 3 0) H 4 0) (by omega) (fu_gt (by omega)) D0 (by rw [gI_sI, if_neg (by omega), gI_same]; rfl) (by rw [gI_same]; rfl)
  refine ⟨w', t1, t2, ((FC.st (by omega) (by omega) hz).tr (FC.st (by omega) (by omega) hz)).tr t3, ?_⟩
  rw [t4, gI_sI, if_neg (by omega), gI_sI, if_neg (by omega)]
section LO
variable {tp : Nat → Nat} {n : Nat}
/-- the class has read the text -/
def TC (H : Nat) (w w' : GW) (r : RR) (φ : Nat → Int32) (b : Int32) : Prop := FC H w w' ∧ match r with
  | .inl e => b = 0 ∧ gI w' 3 3 = nI e.1 ∧ gI w' 3 4 = nI e.2
  | .inr _ => b = 1 ∧ gI w' 3 3 = 0 ∧ DS2 w' H φ
theorem TC.tr {H : Nat} {w w1 w' : GW} {r : RR} {b : Int32} {φ : Nat → Int32} (F : FC H w w1) (L : TC H w1 w' r φ b) : TC H w w' r φ b := ⟨F.tr L.1, L.2⟩
theorem e197 {w : GW} {e : Nat × Nat} {φ : Nat → Int32} (X : XM w tp n (.inl e) φ) {m : Nat} (hm : 0 < m) : f_X9_hall_110 m w = f_X9_hall_197 w := by
  obtain ⟨m, rfl⟩ : ∃ m9, m = m9 + 1 := ⟨m - 1, by omega⟩
  rw [f_X9_hall_110, X.2.2.1, if_neg one_ne, f_X9_hall_137, X.2.2.1, if_neg one_ne, f_X9_hall_160, X.2.2.1, if_neg one_ne]
theorem loopJ (hn : n ≤ 900) (htp : ∀ j, tp j < 256) {H : Nat} (hz : 4 ≤ H) : ∀ d p φ, n - p < d → p ≤ n → WF φ → ∃ r φ', (∀ w m x, fxH (gR w 2) = H → CT w tp n p → DC w H φ → x ≤ p → n - p < m → ∃ b w', f_X6_reads_32 m (nI x) w = some (b, w') ∧ TC H w w' r φ' b) ∧ (∀ w m, XM w tp n (.inr p) φ → n - p < m → ∃ w1 w', f_X9_readLine w = some ((), w1) ∧ f_X9_hall_110 m w1 = f_X9_hall_197 w' ∧ XM w' tp n r φ' ∧ FM w w') ∧ ∀ p', r = .inr p' → WF φ' ∧ φ' 80 = 1 ∧ φ' 17 ≠ 0 := by
  intro d
  induction d with
  | zero => intro p φ h; omega
  | succ d ih =>
    intro p φ hd hp hW
    obtain ⟨r1, φ1, g1, g2, g3, g4⟩ := lineJ hn htp hz hp hW
    have F9 : ∀ w w1, f_X9_readLine w = some ((), w1) → FM w w1 := fun w w1 h => FM.sm (fr_X9_readLine _ h) (by decide) rfl
    cases r1 with
    | inl e =>
      refine ⟨.inl e, φ1, fun w m x hH C D hx hm => ?_, fun w m X hm => ?_, fun p' e => by cases e⟩
      · obtain ⟨m, rfl⟩ : ∃ m9, m = m9 + 1 := ⟨m - 1, by omega⟩
        obtain ⟨b, w', a, L⟩ := g1 w hH C D
        obtain ⟨L1, rfl, L2⟩ := L
        refine ⟨0, w', ?_, L1, rfl, L2⟩
        rw [f_X6_reads_32, show (900 : Int32) = nI 900 from rfl, if_neg (fun q9 => absurd ((lt_nI (by omega) (by omega)).mp q9) (by omega)), a, bind_some', if_pos rfl]
      · obtain ⟨w1, a, X1⟩ := g2 w X
        exact ⟨w1, w1, a, e197 X1 (by omega), X1, F9 _ _ a⟩
    | inr p1 =>
      obtain ⟨hp1, hp1n⟩ := g3 p1 rfl
      have hW1 := g4 p1 rfl
      have hk := tK_5 (tp := tp) (n := n) p1
      have mk100 := mK_lt (tK tp n p1)
      have head8 : ∀ w m x, fxH (gR w 2) = H → CT w tp n p → DC w H φ → x ≤ p → ∃ w1, f_X6_reads_32 (m + 1) (nI x) w = (if nI (tK tp n p1) = 0 then (f_X6_ends w1).bind fun q20 => some (q20.1, q20.2) else if nI (tK tp n p1) = 3 then (f_X7_advance w1).bind fun q15 => f_X6_reads_32 m (nI (x + 1)) q15.2 else (f_X6_wrong 1 w1).bind fun q17 => some (q17.1, q17.2)) ∧ FC H w w1 ∧ CT w1 tp n p1 ∧ DC w1 H φ1 := by
        intro w m x hH C D hx
        obtain ⟨b, w1, a, L⟩ := g1 w hH C D
        obtain ⟨L1, rfl, _, L2, L3⟩ := L
        refine ⟨w1, ?_, L1, L2, L3⟩
        rw [f_X6_reads_32, show (900 : Int32) = nI 900 from rfl, if_neg (fun q9 => absurd ((lt_nI (by omega) (by omega)).mp q9) (by omega)), a, bind_some', if_neg one_ne]
        dsimp only
        rw [L2.2.2.1, nI_1]
      -- a fault after the line
      have wrg : ∀ f, (∀ w m, XM w tp n (.inr p1) φ1 → 0 < m → ∃ w', f_X9_hall_110 m w = f_X9_hall_197 w' ∧ XM w' tp n (.inl (f, tA tp n p1)) φ1 ∧ FM w w') → (∀ w, fxH (gR w 2) = H → CT w tp n p1 → DC w H φ1 → ∀ m x, (if nI (tK tp n p1) = 0 then (f_X6_ends w).bind fun q20 => some (q20.1, q20.2) else if nI (tK tp n p1) = 3 then (f_X7_advance w).bind fun q15 => f_X6_reads_32 m (nI (x + 1)) q15.2 else (f_X6_wrong 1 w).bind fun q17 => some (q17.1, q17.2)) = (f_X6_wrong (nI f) w).bind fun q17 => some (q17.1, q17.2)) → ∃ r φ', (∀ w m x, fxH (gR w 2) = H → CT w tp n p → DC w H φ → x ≤ p → n - p < m → ∃ b w', f_X6_reads_32 m (nI x) w = some (b, w') ∧ TC H w w' r φ' b) ∧ (∀ w m, XM w tp n (.inr p) φ → n - p < m → ∃ w1 w', f_X9_readLine w = some ((), w1) ∧ f_X9_hall_110 m w1 = f_X9_hall_197 w' ∧ XM w' tp n r φ' ∧ FM w w') ∧ ∀ p', r = .inr p' → WF φ' ∧ φ' 80 = 1 ∧ φ' 17 ≠ 0 := by
        intro f k9 k8
        refine ⟨.inl (f, tA tp n p1), φ1, fun w m x hH C D hx hm => ?_, fun w m X hm => ?_, fun p' e => by cases e⟩
        · obtain ⟨m, rfl⟩ : ∃ m9, m = m9 + 1 := ⟨m - 1, by omega⟩
          obtain ⟨w1, E, F1, C1, D1⟩ := head8 w m x hH C D hx
          rw [E, k8 w1 (by rw [F1.2.2]; exact hH) C1 D1 m x]
          obtain ⟨w', a, L⟩ := no8 (H := H) (f := f) (φ := φ1) C1
          rw [a, bind_some']
          exact ⟨0, w', rfl, TC.tr F1 L⟩
        · obtain ⟨w1, a, X1⟩ := g2 w X
          obtain ⟨w', b, X2, F2⟩ := k9 w1 m X1 (by omega)
          exact ⟨w1, w', a, b, X2, (F9 _ _ a).tr F2⟩
      have wr9 : ∀ f w, XM w tp n (.inr p1) φ1 → XM (sI (sI (sI w 130 13 1) 130 9 (nI f)) 130 10 (nI (tA tp n p1))) tp n (.inl (f, tA tp n p1)) φ1 ∧ FM w (sI (sI (sI w 130 13 1) 130 9 (nI f)) 130 10 (nI (tA tp n p1))) := fun f w X => by
        refine ⟨(X.wrong (f := f) (a := tA tp n p1)).2, fun q j h => ⟨?_, rfl⟩, fun _ => rfl⟩
        rw [gI_sI, if_neg (by omega), gI_sI, if_neg (by omega), gI_sI, if_neg (by omega)]
      by_cases k0 : tK tp n p1 = 0
      · -- the end of the text
        obtain ⟨P, hP6, h17, _⟩ := hW1.2.2.2
        by_cases hok : φ1 80 = 0 ∨ P = 0
        · refine wrg 6 (fun w m X hm => ?_) (fun w hH C D m x => ?_)
          · obtain ⟨X2, F2⟩ := wr9 6 w X
            refine ⟨_, ?_, X2, F2⟩
            have a' : f_X9_wrong 6 (nI (tA tp n p1)) w = _ := (X.wrong (f := 6) (a := tA tp n p1)).1
            have e187 : f_X9_hall_187 w = f_X9_hall_197 (sI (sI (sI w 130 13 1) 130 9 (nI 6)) 130 10 (nI (tA tp n p1))) := by
              rw [f_X9_hall_187, X.2.2.2.2.2.2.1, a', bind_some']
            obtain ⟨m, rfl⟩ : ∃ m9, m = m9 + 1 := ⟨m - 1, by omega⟩
            rw [f_X9_hall_110, X.2.2.1, if_pos rfl, X.2.2.2.2.2.2.2.2.1, k0, if_neg (by decide), f_X9_hall_137, X.2.2.1, if_pos rfl, X.2.2.2.2.2.2.2.2.1, k0, if_pos (show nI (mK 0) = 0 from rfl), f_X9_hall_160, X.2.2.1, if_pos rfl, if_pos (show inb _ _ from by decide), show ix (80 : Int32) = 80 from by decide, X.1 80 (by omega)]
            by_cases y : φ1 80 = 0
            · rw [if_pos y]; exact e187
            · have hP0 : P = 0 := hok.resolve_left y
              rw [if_neg y, if_pos (show inb _ _ from by decide), show ix (17 : Int32) = 17 from by decide, X.1 17 (by omega), h17, hP0, if_pos (show nI 0 = 0 from rfl)]
              exact e187
          · have e20 : f_X6_ends w = f_X6_ends_20 w := by
              rw [f_X6_ends, hH, D.1.1]
              by_cases y : φ1 80 = 0
              · rw [if_pos y]
              · have hP0 : P = 0 := hok.resolve_left y
                rw [if_neg y, D.1.2.2.2.2.2.2.1, h17, hP0, if_pos (show nI 0 = 0 from rfl)]
            have a := (wrong8 (f := 6) C).1
            have a' : f_X6_wrong 6 w = _ := a
            rw [k0, if_pos (show nI 0 = 0 from rfl), e20, f_X6_ends_20, a', a]
            rfl
        · have h80 : φ1 80 = 1 := by
            rcases hW1.b with h | h
            · exact absurd (Or.inl h) hok
            · exact h.1
          have hP0 : P ≠ 0 := fun y => hok (Or.inr y)
          have h17n : ¬ φ1 17 = 0 := fun y => hP0 ((eq0 (by omega)).mp (h17.symm.trans y))
          obtain ⟨B, hB, h0⟩ : ∃ B, (1 ≤ B ∧ B ≤ 5) ∧ φ1 0 = nI B := by
            rcases hW1.b with h | h
            · exact absurd (Or.inl h) hok
            · exact h.2
          refine ⟨.inr p1, φ1, fun w m x hH C D hx hm => ?_, fun w m X hm => ?_, fun p' _ => ⟨hW1, h80, h17n⟩⟩
          · obtain ⟨m, rfl⟩ : ∃ m9, m = m9 + 1 := ⟨m - 1, by omega⟩
            obtain ⟨w1, E, F1, C1, D1⟩ := head8 w m x hH C D hx
            obtain ⟨w2, a2, S2, F2, h3⟩ := sumUp8 hz hW1 hB h0 D1
            refine ⟨1, w2, ?_, F1.tr F2, rfl, by rw [h3]; exact C1.2.2.2.2.2.2, S2⟩
            rw [E, k0, if_pos (show nI 0 = 0 from rfl), f_X6_ends, F1.2.2 2, hH, D1.1.1, h80, if_neg one_ne, D1.1.2.2.2.2.2.2.1, if_neg h17n, a2, bind_some', bind_some']
          · obtain ⟨w1, a, X1⟩ := g2 w X
            refine ⟨w1, w1, a, ?_, X1, F9 _ _ a⟩
            obtain ⟨m, rfl⟩ : ∃ m9, m = m9 + 1 := ⟨m - 1, by omega⟩
            rw [f_X9_hall_110, X1.2.2.1, if_pos rfl, X1.2.2.2.2.2.2.2.2.1, k0, if_neg (by decide), f_X9_hall_137, X1.2.2.1, if_pos rfl, X1.2.2.2.2.2.2.2.2.1, k0, if_pos (show nI (mK 0) = 0 from rfl), f_X9_hall_160, X1.2.2.1, if_pos rfl, if_pos (show inb _ _ from by decide), show ix (80 : Int32) = 80 from by decide, X1.1 80 (by omega), h80, if_neg one_ne, if_pos (show inb _ _ from by decide), show ix (17 : Int32) = 17 from by decide, X1.1 17 (by omega), if_neg h17n]
      · by_cases k3 : tK tp n p1 = 3
        · -- the next line
          obtain ⟨b1, b2⟩ := tA_ge (tp := tp) hp1n
          obtain ⟨c1, c2, c3⟩ := tE_ge (tp := tp) hp1n
          have c4 := c3 k0
          obtain ⟨r, φ', i1, i2, i3⟩ := ih (tE tp n p1) φ1 (by omega) c2 hW1
          refine ⟨r, φ', fun w m x hH C D hx hm => ?_, fun w m X hm => ?_, i3⟩
          · obtain ⟨m, rfl⟩ : ∃ m9, m = m9 + 1 := ⟨m - 1, by omega⟩
            obtain ⟨w1, E, F1, C1, D1⟩ := head8 w m x hH C D hx
            obtain ⟨w2, a2, F2, _, C2, h2⟩ := advC hn htp hp1n C1 k0
            obtain ⟨b, w', t1, t2⟩ := i1 w2 m (x + 1) (by rw [F2.2.2, F1.2.2]; exact hH) C2 (D1.f hz F2) (by omega) (by omega)
            refine ⟨b, w', ?_, TC.tr (F1.tr F2.fc) t2⟩
            rw [E, k3, if_neg (by decide), if_pos (show nI 3 = 3 from rfl), a2, bind_some']
            exact t1
          · obtain ⟨w1, a, X1⟩ := g2 w X
            obtain ⟨w2, a2, X2⟩ := X1.next hn htp
            obtain ⟨m, rfl⟩ : ∃ m9, m = m9 + 1 := ⟨m - 1, by omega⟩
            obtain ⟨w3, w', t1, t2, t3, t4⟩ := i2 w2 m X2 (by omega)
            refine ⟨w1, w', a, ?_, t3, ((F9 _ _ a).tr (FM.sm (fr_X9_next _ a2) (by decide) rfl)).tr t4⟩
            rw [f_X9_hall_110, X1.2.2.1, if_pos rfl, X1.2.2.2.2.2.2.2.2.1, k3, if_pos (show nI (mK 3) = 59 from rfl), a2, bind_some']
            dsimp only
            rw [t1, bind_some']
            exact t2
        · refine wrg 1 (fun w m X hm => ?_) (fun w hH C D m x => ?_)
          · obtain ⟨X2, F2⟩ := wr9 1 w X
            refine ⟨_, ?_, X2, F2⟩
            have a' : f_X9_wrong 1 (nI (tA tp n p1)) w = _ := (X.wrong (f := 1) (a := tA tp n p1)).1
            obtain ⟨m, rfl⟩ : ∃ m9, m = m9 + 1 := ⟨m - 1, by omega⟩
            rw [f_X9_hall_110, X.2.2.1, if_pos rfl, X.2.2.2.2.2.2.2.2.1, show (59 : Int32) = nI 59 from rfl, if_neg (fun q => k3 (mK_59.mp ((eq_nI (by omega) (by omega)).mp q))), f_X9_hall_137, X.2.2.1, if_pos rfl, X.2.2.2.2.2.2.2.2.1, if_neg (fun q => k0 (mK_0.mp ((eq0 (by omega)).mp q))), X.2.2.2.2.2.2.1, a', bind_some', f_X9_hall_160, X2.2.2.1, if_neg one_ne]
          · rw [if_neg (fun q => k0 ((eq0 (by omega)).mp q)), if_neg (fun q => k3 ((eq3 (by omega)).mp q))]
            rfl
end LO
