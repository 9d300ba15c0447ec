def L_X0_letters : List (Nat × Nat × Nat) := []
def R_X0_letters : List Nat := []
theorem fr_X0_letters (x1 : Int32) (w : GW) {z : Int32 × GW} : f_X0_letters x1 w = some z → Sm L_X0_letters R_X0_letters w z.2 := by
  intro  hz
  rw [f_X0_letters] at hz
  cases hz
  exact Sm.rf
def L_X0_rank (k1 : Nat) : List (Nat × Nat × Nat) := []
def R_X0_rank : List Nat := []
theorem fr_X0_rank_7 {z : Int32 × GW} (k1 : Nat) : ∀ (n9 : Nat), (∀ (x2 : Int32) (x3 : Int32) (x4 : Int32) (w : GW), f_X0_rank_7 n9 k1 x2 x3 x4 w = some z → Sm (L_X0_rank k1) R_X0_rank w z.2) := by
  intro n9
  induction n9 with
  | zero =>
    intro x2 x3 x4 w hz
    rw [f_X0_rank_7] at hz
    cases hz
  | succ n9 ih =>
    intro x2 x3 x4 w hz
    rw [f_X0_rank_7] at hz
    rcases bri hz with hz | hz
    · cases hz
      exact Sm.rf
    · obtain ⟨h1, hz⟩ := ck hz
      rcases bri hz with hz | hz
      · obtain ⟨h2, hz⟩ := ck hz
        exact (Sm.rf).tr (ih (x2 + (gI w k1 (ix x4))) (x3 + (fewA (ix ((x4 * 10) + (x2 + (gI w k1 (ix x4))))))) (x4 + 1) _  hz)
      · cases hz
        exact Sm.rf
theorem fr_X0_rank (k1 : Nat) (w : GW) {z : Int32 × GW} : f_X0_rank k1 w = some z → Sm (L_X0_rank k1) R_X0_rank w z.2 := by
  intro  hz
  rw [f_X0_rank] at hz
  exact (Sm.rf).tr (fr_X0_rank_7 k1 fu 0 0 0 _ hz)
def L_X8_pack (k0 : Nat) : List (Nat × Nat × Nat) := []
def R_X8_pack : List Nat := []
theorem fr_X8_pack_4 {z : Int32 × GW} (k0 : Nat) : ∀ (n9 : Nat), (∀ (x1 : Int32) (x2 : Int32) (w : GW), f_X8_pack_4 n9 k0 x1 x2 w = some z → Sm (L_X8_pack k0) R_X8_pack w z.2) := by
  intro n9
  induction n9 with
  | zero =>
    intro x1 x2 w hz
    rw [f_X8_pack_4] at hz
    cases hz
  | succ n9 ih =>
    intro x1 x2 w hz
    rw [f_X8_pack_4] at hz
    rcases bri hz with hz | hz
    · cases hz
      exact Sm.rf
    · rcases bri hz with hz | hz
      · cases hz
        exact Sm.rf
      · obtain ⟨h1, hz⟩ := ck hz
        exact (Sm.rf).tr (ih (x1 ||| ((gI w k0 (ix x2)) <<< ((4 * x2) &&& 31))) (x2 + 1) _  hz)
theorem fr_X8_pack (k0 : Nat) (w : GW) {z : Int32 × GW} : f_X8_pack k0 w = some z → Sm (L_X8_pack k0) R_X8_pack w z.2 := by
  intro  hz
  rw [f_X8_pack] at hz
  exact (Sm.rf).tr (fr_X8_pack_4 k0 fu 0 0 _ hz)
def L_X0_countOn : List (Nat × Nat × Nat) := [(113, 114, 0)]
def R_X0_countOn : List Nat := []
theorem fr_X0_countOn_32 {z : Int32 × GW} : ∀ (n9 : Nat), (∀ (x1 : Int32) (x2 : Int32) (x3 : Int32) (w : GW), f_X0_countOn_32 n9 x1 x2 x3 w = some z → Sm L_X0_countOn R_X0_countOn w z.2) := by
  intro n9
  induction n9 with
  | zero =>
    intro x1 x2 x3 w hz
    rw [f_X0_countOn_32] at hz
    cases hz
  | succ n9 ih =>
    intro x1 x2 x3 w hz
    rw [f_X0_countOn_32] at hz
    rcases bri hz with hz | hz
    · cases hz
      exact Sm.rf
    · rcases bri hz with hz | hz
      · obtain ⟨h1, hz⟩ := ck hz
        obtain ⟨h2, hz⟩ := ck hz
        exact ((Sm.rf.wI (lo := 113) (hi := 114) (c9 := 0) (show _ ∈ L_X0_countOn from by simp [L_X0_countOn]) (by decide) (by decide) (Or.inl rfl))).tr (ih x1 (x2 - (gI w 113 (ix x3))) (x3 + 1) _  hz)
      · obtain ⟨h3, hz⟩ := ck hz
        obtain ⟨h4, hz⟩ := ck hz
        cases hz
        exact (Sm.rf.wI (lo := 113) (hi := 114) (c9 := 0) (show _ ∈ L_X0_countOn from by simp [L_X0_countOn]) (by decide) (by decide) (Or.inl rfl))
theorem fr_X0_countOn_4 {z : Int32 × GW} : ∀ (n9 : Nat), (∀ (x1 : Int32) (x2 : Int32) (x3 : Int32) (w : GW), f_X0_countOn_4 n9 x1 x2 x3 w = some z → Sm L_X0_countOn R_X0_countOn w z.2) := by
  intro n9
  induction n9 with
  | zero =>
    intro x1 x2 x3 w hz
    rw [f_X0_countOn_4] at hz
    cases hz
  | succ n9 ih =>
    intro x1 x2 x3 w hz
    rw [f_X0_countOn_4] at hz
    rcases bri hz with hz | hz
    · exact (Sm.rf).tr (fr_X0_countOn_32 fu x1 x2 0 _ hz)
    · obtain ⟨h5, hz⟩ := ck hz
      exact (Sm.rf).tr (ih x1 (x2 + (gI w 113 (ix x3))) (x3 + 1) _  hz)
theorem fr_X0_countOn (x1 : Int32) (w : GW) {z : Int32 × GW} : f_X0_countOn x1 w = some z → Sm L_X0_countOn R_X0_countOn w z.2 := by
  intro  hz
  rw [f_X0_countOn] at hz
  exact (Sm.rf).tr (fr_X0_countOn_4 fu x1 0 0 _ hz)
def L_X0_begin (k1 : Nat) : List (Nat × Nat × Nat) := [(110, 111, 0), (112, 113, 0), (113, 114, 0)]
def R_X0_begin : List Nat := [3]
theorem fr_X0_begin_104 {z : Unit × GW} (k1 : Nat) {k_63 : Int32 → Int32 → Int32 → GW → Option (Unit × GW)} (Hk_63 : (∀ (x2 : Int32) (x3 : Int32) (x4 : Int32) (w : GW), k_63 x2 x3 x4 w = some z → Sm (L_X0_begin k1) R_X0_begin w z.2)) : (∀ (x2 : Int32) (x4 : Int32) (w : GW), f_X0_begin_104 k_63 x2 x4 w = some z → Sm (L_X0_begin k1) R_X0_begin w z.2) := by
  intro x2 x4 w hz
  rw [f_X0_begin_104] at hz
  obtain ⟨q5, e6, hz⟩ := bd hz
  have ie6 : Sub L_X0_countOn (L_X0_begin k1) := by
    unfold L_X0_countOn
    exact (Sub.cons (lo2 := 113) (hi2 := 114) (c2 := 0) (show _ ∈ (L_X0_begin k1) from by simp [L_X0_begin]) (by omega) (by omega) (Or.inl rfl) Sub.nil)
  exact ((Sm.rf.call (fr_X0_countOn x2 _ (z := q5)  e6) ie6 (show ∀ r ∈ R_X0_countOn, r ∈ R_X0_begin from by decide))).tr (Hk_63 x2 q5.1 (x4 + 1) _  hz)
theorem fr_X0_begin_63 {z : Unit × GW} (k1 : Nat) : ∀ (n9 : Nat), (∀ (x2 : Int32) (x3 : Int32) (x4 : Int32) (w : GW), f_X0_begin_63 n9 x2 x3 x4 w = some z → Sm (L_X0_begin k1) R_X0_begin w z.2) := by
  intro n9
  induction n9 with
  | zero =>
    intro x2 x3 x4 w hz
    rw [f_X0_begin_63] at hz
    cases hz
  | succ n9 ih =>
    intro x2 x3 x4 w hz
    rw [f_X0_begin_63] at hz
    rcases bri hz with hz | hz
    · cases hz
      exact Sm.rf
    · rcases bri hz with hz | hz
      · cases hz
        exact Sm.rf
      · obtain ⟨q3, e4, hz⟩ := bd hz
        have ie4 : Sub (L_X0_rank 113) (L_X0_begin k1) := by
          unfold L_X0_rank
          exact Sub.nil
        rcases bri hz with hz | hz
        · exact ((Sm.rf.call (fr_X0_rank 113 _ (z := q3) e4) ie4 (show ∀ r ∈ R_X0_rank, r ∈ R_X0_begin from by decide))).tr (fr_X0_begin_104 k1 ih x2 x4 _ hz)
        · obtain ⟨q7, e8, hz⟩ := bd hz
          have ie8 : Sub (L_X8_pack 113) (L_X0_begin k1) := by
            unfold L_X8_pack
            exact Sub.nil
          obtain ⟨h9, hz⟩ := ck hz
          exact ((((Sm.rf.call (fr_X0_rank 113 _ (z := q3) e4) ie4 (show ∀ r ∈ R_X0_rank, r ∈ R_X0_begin from by decide)).call (fr_X8_pack 113 _ (z := q7) e8) ie8 (show ∀ r ∈ R_X8_pack, r ∈ R_X0_begin from by decide)).wI (lo := 112) (hi := 113) (c9 := 0) (show _ ∈ (L_X0_begin k1) from by simp [L_X0_begin]) (by decide) (by decide) (Or.inl rfl))).tr (fr_X0_begin_104 k1 ih x2 x4 _ hz)
theorem fr_X0_begin_28 {z : Unit × GW} (k1 : Nat) : ∀ (n9 : Nat), (∀ (x2 : Int32) (w : GW), f_X0_begin_28 n9 x2 w = some z → Sm (L_X0_begin k1) R_X0_begin w z.2) := by
  intro n9
  induction n9 with
  | zero =>
    intro x2 w hz
    rw [f_X0_begin_28] at hz
    cases hz
  | succ n9 ih =>
    intro x2 w hz
    rw [f_X0_begin_28] at hz
    rcases bri hz with hz | hz
    · obtain ⟨q1, e2, hz⟩ := bd hz
      have ie2 : Sub L_X0_letters (L_X0_begin k1) := by
        unfold L_X0_letters
        exact Sub.nil
      exact ((Sm.rf.call (fr_X0_letters (gI w (fxH (gR w 3)) 2) _ (z := q1) e2) ie2 (show ∀ r ∈ R_X0_letters, r ∈ R_X0_begin from by decide))).tr (fr_X0_begin_63 k1 fu q1.1 1 0 _ hz)
    · obtain ⟨h10, hz⟩ := ck hz
      exact ((Sm.rf.wI (lo := 113) (hi := 114) (c9 := 0) (show _ ∈ (L_X0_begin k1) from by simp [L_X0_begin]) (by decide) (by decide) (Or.inl rfl))).tr (ih (x2 + 1) _  hz)
theorem fr_X0_begin_7 {z : Unit × GW} (k1 : Nat) : ∀ (n9 : Nat), (∀ (x2 : Int32) (w : GW), f_X0_begin_7 n9 x2 w = some z → Sm (L_X0_begin k1) R_X0_begin w z.2) := by
  intro n9
  induction n9 with
  | zero =>
    intro x2 w hz
    rw [f_X0_begin_7] at hz
    cases hz
  | succ n9 ih =>
    intro x2 w hz
    rw [f_X0_begin_7] at hz
    rcases bri hz with hz | hz
    · exact (Sm.rf).tr (fr_X0_begin_28 k1 fu 0 _ hz)
    · obtain ⟨h11, hz⟩ := ck hz
      exact ((Sm.rf.wI (lo := 110) (hi := 111) (c9 := 0) (show _ ∈ (L_X0_begin k1) from by simp [L_X0_begin]) (by decide) (by decide) (Or.inl rfl))).tr (ih (x2 + 1) _  hz)
theorem fr_X0_begin (k1 : Nat) (w : GW) {z : Unit × GW} : f_X0_begin k1 w = some z → Sm (L_X0_begin k1) R_X0_begin w z.2 := by
  intro  hz
  rw [f_X0_begin] at hz
  exact ((Sm.rf.wR (show 3 ∈ R_X0_begin from by simp [R_X0_begin]))).tr (fr_X0_begin_7 k1 fu 0 _ hz)
def L_X0_first : List (Nat × Nat × Nat) := []
def R_X0_first : List Nat := []
theorem fr_X0_first (x1 : Int32) (w : GW) {z : Int32 × GW} : f_X0_first x1 w = some z → Sm L_X0_first R_X0_first w z.2 := by
  intro  hz
  rw [f_X0_first] at hz
  rcases bri hz with hz | hz
  · cases hz
    exact Sm.rf
  · obtain ⟨h1, hz⟩ := ck hz
    cases hz
    exact Sm.rf
def L_X3_isDoors (k0 : Nat) : List (Nat × Nat × Nat) := []
def R_X3_isDoors : List Nat := []
theorem fr_X3_isDoors (k0 : Nat) (x1 : Int32) (w : GW) {z : Int32 × GW} : f_X3_isDoors k0 x1 w = some z → Sm (L_X3_isDoors k0) R_X3_isDoors w z.2 := by
  intro  hz
  rw [f_X3_isDoors] at hz
  rcases bri hz with hz | hz
  · cases hz
    exact Sm.rf
  · obtain ⟨-, hz⟩ := ck hz
    rcases bri hz with hz | hz
    · cases hz
      exact Sm.rf
    · cases hz
      exact Sm.rf
def L_X3_tooMany (k0 : Nat) (k1 : Nat) : List (Nat × Nat × Nat) := []
def R_X3_tooMany : List Nat := []
theorem fr_X3_tooMany_111 {z : Int32 × GW} (k0 : Nat) (k1 : Nat) {k_80 : Nat → Int32 → Int64 → Int64 → Int64 → Int32 → GW → Option (Int32 × GW)} (Hk_80 : (∀ (x2 : Int32) (x3 : Int64) (x5 : Int64) (x7 : Int64) (x9 : Int32) (w : GW), k_80 k0 x2 x3 x5 x7 x9 w = some z → Sm (L_X3_tooMany k0 k1) R_X3_tooMany w z.2)) : (∀ (x2 : Int32) (x3 : Int64) (x5 : Int64) (x7 : Int64) (x9 : Int32) (w : GW), f_X3_tooMany_111 k_80 k0 x2 x3 x5 x7 x9 w = some z → Sm (L_X3_tooMany k0 k1) R_X3_tooMany w z.2) := by
  intro x2 x3 x5 x7 x9 w hz
  rw [f_X3_tooMany_111] at hz
  exact (Sm.rf).tr (Hk_80 x2 x3 x5 x7 (x9 + 1) _  hz)
theorem fr_X3_tooMany_80 {z : Int32 × GW} (k0 : Nat) (k1 : Nat) : ∀ (n9 : Nat), (∀ (x2 : Int32) (x3 : Int64) (x5 : Int64) (x7 : Int64) (x9 : Int32) (w : GW), f_X3_tooMany_80 n9 k0 x2 x3 x5 x7 x9 w = some z → Sm (L_X3_tooMany k0 k1) R_X3_tooMany w z.2) := by
  intro n9
  induction n9 with
  | zero =>
    intro x2 x3 x5 x7 x9 w hz
    rw [f_X3_tooMany_80] at hz
    cases hz
  | succ n9 ih =>
    intro x2 x3 x5 x7 x9 w hz
    rw [f_X3_tooMany_80] at hz
    rcases bri hz with hz | hz
    · cases hz
      exact Sm.rf
    · obtain ⟨q1, e2, hz⟩ := bd hz
      have ie2 : Sub (L_X3_isDoors k0) (L_X3_tooMany k0 k1) := by
        unfold L_X3_isDoors
        exact Sub.nil
      rcases bri hz with hz | hz
      · rcases bri hz with hz | hz
        · exact ((Sm.rf.call (fr_X3_isDoors k0 x9 _ (z := q1) e2) ie2 (show ∀ r ∈ R_X3_isDoors, r ∈ R_X3_tooMany from by decide))).tr (fr_X3_tooMany_111 k0 k1 ih x2 x3 x5 (x7 * x3) x9 _ hz)
        · cases hz
          exact (Sm.rf.call (fr_X3_isDoors k0 x9 _ (z := q1)  e2) ie2 (show ∀ r ∈ R_X3_isDoors, r ∈ R_X3_tooMany from by decide))
      · exact ((Sm.rf.call (fr_X3_isDoors k0 x9 _ (z := q1) e2) ie2 (show ∀ r ∈ R_X3_isDoors, r ∈ R_X3_tooMany from by decide))).tr (fr_X3_tooMany_111 k0 k1 ih x2 x3 x5 x7 x9 _ hz)
theorem fr_X3_tooMany_72 {z : Int32 × GW} (k0 : Nat) (k1 : Nat) : (∀ (x2 : Int32) (x3 : Int64) (t0 : Int64) (w : GW), f_X3_tooMany_72 k0 x2 x3 t0 w = some z → Sm (L_X3_tooMany k0 k1) R_X3_tooMany w z.2) := by
  intro x2 x3 t0 w hz
  rw [f_X3_tooMany_72] at hz
  exact (Sm.rf).tr (fr_X3_tooMany_80 k0 k1 fu x2 x3 t0 1 1 _ hz)
theorem fr_X3_tooMany_57 {z : Int32 × GW} (k0 : Nat) (k1 : Nat) : (∀ (x2 : Int32) (x3 : Int64) (w : GW), f_X3_tooMany_57 k0 x2 x3 w = some z → Sm (L_X3_tooMany k0 k1) R_X3_tooMany w z.2) := by
  intro x2 x3 w hz
  rw [f_X3_tooMany_57] at hz
  rcases bri hz with hz | hz
  · exact (Sm.rf).tr (fr_X3_tooMany_72 k0 k1 x2 x3 0 _ hz)
  · obtain ⟨-, hz⟩ := ck hz
    exact (Sm.rf).tr (fr_X3_tooMany_72 k0 k1 x2 x3 (1000000000000000 / x3) _ hz)
theorem fr_X3_tooMany_55 {z : Int32 × GW} (k0 : Nat) (k1 : Nat) : (∀ (x2 : Int32) (t0 : Int64) (t1 : Int64) (w : GW), f_X3_tooMany_55 k0 x2 t0 t1 w = some z → Sm (L_X3_tooMany k0 k1) R_X3_tooMany w z.2) := by
  intro x2 t0 t1 w hz
  rw [f_X3_tooMany_55] at hz
  exact (Sm.rf).tr (fr_X3_tooMany_57 k0 k1 x2 (t1 * t0) _ hz)
theorem fr_X3_tooMany_5 {z : Int32 × GW} (k0 : Nat) (k1 : Nat) : ∀ (n9 : Nat), (∀ (x2 : Int32) (x3 : Int64) (x5 : Int32) (w : GW), f_X3_tooMany_5 n9 k0 k1 x2 x3 x5 w = some z → Sm (L_X3_tooMany k0 k1) R_X3_tooMany w z.2) := by
  intro n9
  induction n9 with
  | zero =>
    intro x2 x3 x5 w hz
    rw [f_X3_tooMany_5] at hz
    cases hz
  | succ n9 ih =>
    intro x2 x3 x5 w hz
    rw [f_X3_tooMany_5] at hz
    rcases bri hz with hz | hz
    · rcases bri hz with hz | hz
      · rcases bri hz with hz | hz
        · exact (Sm.rf).tr (fr_X3_tooMany_55 k0 k1 x2 6 x3 _ hz)
        · exact (Sm.rf).tr (fr_X3_tooMany_55 k0 k1 x2 ((gI w k1 0).toInt64) x3 _ hz)
      · exact (Sm.rf).tr (fr_X3_tooMany_57 k0 k1 x2 x3 _ hz)
    · exact (Sm.rf).tr (ih x2 (x3 * ((gI w k0 4).toInt64)) (x5 + 1) _  hz)
theorem fr_X3_tooMany (k0 : Nat) (k1 : Nat) (x2 : Int32) (w : GW) {z : Int32 × GW} : f_X3_tooMany k0 k1 x2 w = some z → Sm (L_X3_tooMany k0 k1) R_X3_tooMany w z.2 := by
  intro  hz
  rw [f_X3_tooMany] at hz
  exact (Sm.rf).tr (fr_X3_tooMany_5 k0 k1 fu x2 1 0 _ hz)
def L_X1_waysOfOneMore : List (Nat × Nat × Nat) := []
def R_X1_waysOfOneMore : List Nat := []
theorem fr_X1_waysOfOneMore_61 {z : Int64 × GW} {k_5 : Int32 → Int64 → Int32 → GW → Option (Int64 × GW)} (Hk_5 : (∀ (x1 : Int32) (x2 : Int64) (x4 : Int32) (w : GW), k_5 x1 x2 x4 w = some z → Sm L_X1_waysOfOneMore R_X1_waysOfOneMore w z.2)) : (∀ (x1 : Int32) (x2 : Int64) (x4 : Int32) (w : GW), f_X1_waysOfOneMore_61 k_5 x1 x2 x4 w = some z → Sm L_X1_waysOfOneMore R_X1_waysOfOneMore w z.2) := by
  intro x1 x2 x4 w hz
  rw [f_X1_waysOfOneMore_61] at hz
  exact (Sm.rf).tr (Hk_5 x1 x2 (x4 + 1) _  hz)
theorem fr_X1_waysOfOneMore_5 {z : Int64 × GW} : ∀ (n9 : Nat), (∀ (x1 : Int32) (x2 : Int64) (x4 : Int32) (w : GW), f_X1_waysOfOneMore_5 n9 x1 x2 x4 w = some z → Sm L_X1_waysOfOneMore R_X1_waysOfOneMore w z.2) := by
  intro n9
  induction n9 with
  | zero =>
    intro x1 x2 x4 w hz
    rw [f_X1_waysOfOneMore_5] at hz
    cases hz
  | succ n9 ih =>
    intro x1 x2 x4 w hz
    rw [f_X1_waysOfOneMore_5] at hz
    rcases bri hz with hz | hz
    · cases hz
      exact Sm.rf
    · rcases bri hz with hz | hz
      · exact (Sm.rf).tr (fr_X1_waysOfOneMore_61 ih x1 x2 x4 _ hz)
      · obtain ⟨h1, hz⟩ := ck hz
        obtain ⟨h2, hz⟩ := ck hz
        obtain ⟨h3, hz⟩ := ck hz
        exact (Sm.rf).tr (fr_X1_waysOfOneMore_61 ih x1 (x2 + (((gL w 69 (ix x1)) + (gL w 69 (ix (x1 ^^^ ((1 : Int32) <<< (x4 &&& 31)))))) * ((gI w ((fxH (gR w 4)) + 2) (ix x4)).toInt64))) x4 _ hz)
theorem fr_X1_waysOfOneMore (x1 : Int32) (w : GW) {z : Int64 × GW} : f_X1_waysOfOneMore x1 w = some z → Sm L_X1_waysOfOneMore R_X1_waysOfOneMore w z.2 := by
  intro  hz
  rw [f_X1_waysOfOneMore] at hz
  exact (Sm.rf).tr (fr_X1_waysOfOneMore_5 fu x1 0 0 _ hz)
def L_X1_ready (k1 : Nat) (k2 : Nat) : List (Nat × Nat × Nat) := [(69, 70, 0)]
def R_X1_ready : List Nat := [4, 5]
theorem fr_X1_ready_71 {z : Unit × GW} (k1 : Nat) (k2 : Nat) {k_54 : Int32 → Int32 → GW → Option (Unit × GW)} (Hk_54 : (∀ (x3 : Int32) (x4 : Int32) (w : GW), k_54 x3 x4 w = some z → Sm (L_X1_ready k1 k2) R_X1_ready w z.2)) : ∀ (n9 : Nat), (∀ (x3 : Int32) (x4 : Int32) (x5 : Int32) (w : GW), f_X1_ready_71 k_54 n9 x3 x4 x5 w = some z → Sm (L_X1_ready k1 k2) R_X1_ready w z.2) := by
  intro n9
  induction n9 with
  | zero =>
    intro x3 x4 x5 w hz
    rw [f_X1_ready_71] at hz
    cases hz
  | succ n9 ih =>
    intro x3 x4 x5 w hz
    rw [f_X1_ready_71] at hz
    rcases bri hz with hz | hz
    · exact (Sm.rf).tr (Hk_54 x3 (x4 + 1) _  hz)
    · obtain ⟨q2, e3, hz⟩ := bd hz
      have ie3 : Sub L_X1_waysOfOneMore (L_X1_ready k1 k2) := by
        unfold L_X1_waysOfOneMore
        exact Sub.nil
      obtain ⟨h4, hz⟩ := ck hz
      exact (((Sm.rf.call (fr_X1_waysOfOneMore x5 _ (z := q2)  e3) ie3 (show ∀ r ∈ R_X1_waysOfOneMore, r ∈ R_X1_ready from by decide)).wL (lo := 69) (hi := 70) (c9 := 0) (show _ ∈ (L_X1_ready k1 k2) from by simp [L_X1_ready]) (by decide) (by decide) (Or.inl rfl))).tr (ih x3 x4 (x5 + (-1)) _  hz)
theorem fr_X1_ready_54 {z : Unit × GW} (k1 : Nat) (k2 : Nat) : ∀ (n9 : Nat), (∀ (x3 : Int32) (x4 : Int32) (w : GW), f_X1_ready_54 n9 x3 x4 w = some z → Sm (L_X1_ready k1 k2) R_X1_ready w z.2) := by
  intro n9
  induction n9 with
  | zero =>
    intro x3 x4 w hz
    rw [f_X1_ready_54] at hz
    cases hz
  | succ n9 ih =>
    intro x3 x4 w hz
    rw [f_X1_ready_54] at hz
    rcases bri hz with hz | hz
    · cases hz
      exact Sm.rf
    · exact (Sm.rf).tr (fr_X1_ready_71 k1 k2 ih fu x3 x4 (x3 - 1) _ hz)
theorem fr_X1_ready_23 {z : Unit × GW} (k1 : Nat) (k2 : Nat) : ∀ (n9 : Nat), (∀ (x3 : Int32) (x4 : Int32) (w : GW), f_X1_ready_23 n9 x3 x4 w = some z → Sm (L_X1_ready k1 k2) R_X1_ready w z.2) := by
  intro n9
  induction n9 with
  | zero =>
    intro x3 x4 w hz
    rw [f_X1_ready_23] at hz
    cases hz
  | succ n9 ih =>
    intro x3 x4 w hz
    rw [f_X1_ready_23] at hz
    rcases bri hz with hz | hz
    · obtain ⟨h1, hz⟩ := ck hz
      exact ((Sm.rf.wL (lo := 69) (hi := 70) (c9 := 0) (show _ ∈ (L_X1_ready k1 k2) from by simp [L_X1_ready]) (by decide) (by decide) (Or.inl rfl))).tr (fr_X1_ready_54 k1 k2 fu x3 0 _ hz)
    · obtain ⟨h5, hz⟩ := ck hz
      exact ((Sm.rf.wL (lo := 69) (hi := 70) (c9 := 0) (show _ ∈ (L_X1_ready k1 k2) from by simp [L_X1_ready]) (by decide) (by decide) (Or.inl rfl))).tr (ih x3 (x4 + 1) _  hz)
theorem fr_X1_ready (k1 : Nat) (k2 : Nat) (w : GW) {z : Unit × GW} : f_X1_ready k1 k2 w = some z → Sm (L_X1_ready k1 k2) R_X1_ready w z.2 := by
  intro  hz
  rw [f_X1_ready] at hz
  exact (((Sm.rf.wR (show 4 ∈ R_X1_ready from by simp [R_X1_ready])).wR (show 5 ∈ R_X1_ready from by simp [R_X1_ready]))).tr (fr_X1_ready_23 k1 k2 fu ((1 : Int32) <<< ((gI (sR (sR w 4 k1) 5 k2) (fxH (gR (sR (sR w 4 k1) 5 k2) 4)) 1) &&& 31)) 1 _ hz)
def L_X0_sumOfSlots : List (Nat × Nat × Nat) := []
def R_X0_sumOfSlots : List Nat := []
theorem fr_X0_sumOfSlots_5 {z : Int64 × GW} : ∀ (n9 : Nat), (∀ (x1 : Int32) (x2 : Int64) (x4 : Int32) (w : GW), f_X0_sumOfSlots_5 n9 x1 x2 x4 w = some z → Sm L_X0_sumOfSlots R_X0_sumOfSlots w z.2) := by
  intro n9
  induction n9 with
  | zero =>
    intro x1 x2 x4 w hz
    rw [f_X0_sumOfSlots_5] at hz
    cases hz
  | succ n9 ih =>
    intro x1 x2 x4 w hz
    rw [f_X0_sumOfSlots_5] at hz
    rcases bri hz with hz | hz
    · cases hz
      exact Sm.rf
    · obtain ⟨h1, hz⟩ := ck hz
      exact (Sm.rf).tr (ih x1 (x2 + (gL w 111 (ix ((x1 * 6) + x4)))) (x4 + 1) _  hz)
theorem fr_X0_sumOfSlots (x1 : Int32) (w : GW) {z : Int64 × GW} : f_X0_sumOfSlots x1 w = some z → Sm L_X0_sumOfSlots R_X0_sumOfSlots w z.2 := by
  intro  hz
  rw [f_X0_sumOfSlots] at hz
  exact (Sm.rf).tr (fr_X0_sumOfSlots_5 fu x1 0 0 _ hz)
def L_X3_roomFrom (k0 : Nat) (k1 : Nat) : List (Nat × Nat × Nat) := []
def R_X3_roomFrom : List Nat := []
theorem fr_X3_roomFrom_57 {z : Int32 × GW} (k0 : Nat) (k1 : Nat) {k_5 : Nat → Nat → Int32 → Int32 → GW → Option (Int32 × GW)} (Hk_5 : (∀ (x3 : Int32) (x4 : Int32) (w : GW), k_5 k0 k1 x3 x4 w = some z → Sm (L_X3_roomFrom k0 k1) R_X3_roomFrom w z.2)) : (∀ (x4 : Int32) (t0 : Int32) (w : GW), f_X3_roomFrom_57 k_5 k0 k1 x4 t0 w = some z → Sm (L_X3_roomFrom k0 k1) R_X3_roomFrom w z.2) := by
  intro x4 t0 w hz
  rw [f_X3_roomFrom_57] at hz
  exact (Sm.rf).tr (Hk_5 t0 (x4 + 1) _  hz)
theorem fr_X3_roomFrom_5 {z : Int32 × GW} (k0 : Nat) (k1 : Nat) : ∀ (n9 : Nat), (∀ (x3 : Int32) (x4 : Int32) (w : GW), f_X3_roomFrom_5 n9 k0 k1 x3 x4 w = some z → Sm (L_X3_roomFrom k0 k1) R_X3_roomFrom w z.2) := by
  intro n9
  induction n9 with
  | zero =>
    intro x3 x4 w hz
    rw [f_X3_roomFrom_5] at hz
    cases hz
  | succ n9 ih =>
    intro x3 x4 w hz
    rw [f_X3_roomFrom_5] at hz
    rcases bri hz with hz | hz
    · cases hz
      exact Sm.rf
    · rcases bri hz with hz | hz
      · cases hz
        exact Sm.rf
      · rcases bri hz with hz | hz
        · cases hz
          exact Sm.rf
        · obtain ⟨h1, hz⟩ := ck hz
          obtain ⟨h2, hz⟩ := ck hz
          rcases bri hz with hz | hz
          · rcases bri hz with hz | hz
            · exact (Sm.rf).tr (fr_X3_roomFrom_57 k0 k1 ih x4 0 _ hz)
            · exact (Sm.rf).tr (fr_X3_roomFrom_57 k0 k1 ih x4 (x3 + 1) _ hz)
          · cases hz
            exact Sm.rf
theorem fr_X3_roomFrom (k0 : Nat) (k1 : Nat) (x2 : Int32) (w : GW) {z : Int32 × GW} : f_X3_roomFrom k0 k1 x2 w = some z → Sm (L_X3_roomFrom k0 k1) R_X3_roomFrom w z.2 := by
  intro  hz
  rw [f_X3_roomFrom] at hz
  exact (Sm.rf).tr (fr_X3_roomFrom_5 k0 k1 fu x2 0 _ hz)
def L_X3_move (k0 : Nat) (k1 : Nat) : List (Nat × Nat × Nat) := [(k1, (k1 + 1), 0)]
def R_X3_move : List Nat := []
theorem fr_X3_move_69 {z : Unit × GW} (k0 : Nat) (k1 : Nat) {k_25 : Nat → Nat → Int32 → Int32 → Int32 → GW → Option (Unit × GW)} (Hk_25 : (∀ (x3 : Int32) (x4 : Int32) (x5 : Int32) (w : GW), k_25 k0 k1 x3 x4 x5 w = some z → Sm (L_X3_move k0 k1) R_X3_move w z.2)) : (∀ (x3 : Int32) (x5 : Int32) (t0 : Int32) (w : GW), f_X3_move_69 k_25 k0 k1 x3 x5 t0 w = some z → Sm (L_X3_move k0 k1) R_X3_move w z.2) := by
  intro x3 x5 t0 w hz
  rw [f_X3_move_69] at hz
  exact (Sm.rf).tr (Hk_25 x3 t0 (x5 + 1) _  hz)
theorem fr_X3_move_50 {z : Unit × GW} (k0 : Nat) (k1 : Nat) {k_25 : Nat → Nat → Int32 → Int32 → Int32 → GW → Option (Unit × GW)} (Hk_25 : (∀ (x3 : Int32) (x4 : Int32) (x5 : Int32) (w : GW), k_25 k0 k1 x3 x4 x5 w = some z → Sm (L_X3_move k0 k1) R_X3_move w z.2)) : (∀ (x4 : Int32) (x5 : Int32) (t0 : Int32) (w : GW), f_X3_move_50 k_25 k0 k1 x4 x5 t0 w = some z → Sm (L_X3_move k0 k1) R_X3_move w z.2) := by
  intro x4 x5 t0 w hz
  rw [f_X3_move_50] at hz
  obtain ⟨h11, hz⟩ := ck hz
  obtain ⟨h12, hz⟩ := ck hz
  rcases bri hz with hz | hz
  · exact (Sm.rf).tr (fr_X3_move_69 k0 k1 Hk_25 t0 x5 x4 _ hz)
  · exact (Sm.rf).tr (fr_X3_move_69 k0 k1 Hk_25 t0 x5 x5 _ hz)
theorem fr_X3_move_25 {z : Unit × GW} (k0 : Nat) (k1 : Nat) : ∀ (n9 : Nat), (∀ (x3 : Int32) (x4 : Int32) (x5 : Int32) (w : GW), f_X3_move_25 n9 k0 k1 x3 x4 x5 w = some z → Sm (L_X3_move k0 k1) R_X3_move w z.2) := by
  intro n9
  induction n9 with
  | zero =>
    intro x3 x4 x5 w hz
    rw [f_X3_move_25] at hz
    cases hz
  | succ n9 ih =>
    intro x3 x4 x5 w hz
    rw [f_X3_move_25] at hz
    rcases bri hz with hz | hz
    · obtain ⟨h1, hz⟩ := ck hz
      obtain ⟨h2, hz⟩ := ck hz
      rcases bri hz with hz | hz
      · cases hz
        exact Sm.rf
      · obtain ⟨h3, hz⟩ := ck hz
        obtain ⟨h4, hz⟩ := ck hz
        rcases bri hz with hz | hz
        · cases hz
          exact Sm.rf
        · obtain ⟨h5, hz⟩ := ck hz
          obtain ⟨h6, hz⟩ := ck hz
          obtain ⟨h7, hz⟩ := ck hz
          obtain ⟨h8, hz⟩ := ck hz
          cases hz
          exact ((Sm.rf.wI (lo := k1) (hi := (k1 + 1)) (c9 := 0) (show _ ∈ (L_X3_move k0 k1) from by simp [L_X3_move]) (Nat.le_refl _) (Nat.lt_succ_self _) (Or.inl rfl)).wI (lo := k1) (hi := (k1 + 1)) (c9 := 0) (show _ ∈ (L_X3_move k0 k1) from by simp [L_X3_move]) (Nat.le_refl _) (Nat.lt_succ_self _) (Or.inl rfl))
    · obtain ⟨h9, hz⟩ := ck hz
      obtain ⟨h10, hz⟩ := ck hz
      rcases bri hz with hz | hz
      · exact (Sm.rf).tr (fr_X3_move_50 k0 k1 ih x4 x5 x3 _ hz)
      · exact (Sm.rf).tr (fr_X3_move_50 k0 k1 ih x4 x5 x5 _ hz)
theorem fr_X3_move (k0 : Nat) (k1 : Nat) (x2 : Int32) (w : GW) {z : Unit × GW} : f_X3_move k0 k1 x2 w = some z → Sm (L_X3_move k0 k1) R_X3_move w z.2 := by
  intro  hz
  rw [f_X3_move] at hz
  rcases bri hz with hz | hz
  · cases hz
    exact Sm.rf
  · obtain ⟨-, hz⟩ := ck hz
    rcases bri hz with hz | hz
    · exact (Sm.rf).tr (fr_X3_move_25 k0 k1 fu 0 0 1 _ hz)
    · cases hz
      exact Sm.rf
def L_X0_lieBehind : List (Nat × Nat × Nat) := [(114, 115, 0)]
def R_X0_lieBehind : List Nat := []
theorem fr_X0_lieBehind_22 {z : Int32 × GW} : ∀ (n9 : Nat), (∀ (x2 : Int32) (x3 : Int32) (x4 : Int32) (w : GW), f_X0_lieBehind_22 n9 x2 x3 x4 w = some z → Sm L_X0_lieBehind R_X0_lieBehind w z.2) := by
  intro n9
  induction n9 with
  | zero =>
    intro x2 x3 x4 w hz
    rw [f_X0_lieBehind_22] at hz
    cases hz
  | succ n9 ih =>
    intro x2 x3 x4 w hz
    rw [f_X0_lieBehind_22] at hz
    rcases bri hz with hz | hz
    · obtain ⟨h3, hz⟩ := ck hz
      obtain ⟨h4, hz⟩ := ck hz
      obtain ⟨q5, e6, hz⟩ := bd hz
      have ie6 : Sub (L_X3_move (fxH (gR (sI w 114 (ix x3) ((gI w 114 (ix x3)) + 1)) 3)) 114) L_X0_lieBehind := by
        unfold L_X3_move
        exact (Sub.cons (lo2 := 114) (hi2 := 115) (c2 := 0) (show _ ∈ L_X0_lieBehind from by simp [L_X0_lieBehind]) (by omega) (by omega) (Or.inl rfl) Sub.nil)
      obtain ⟨q7, e8, hz⟩ := bd hz
      have ie8 : Sub (L_X0_rank 114) L_X0_lieBehind := by
        unfold L_X0_rank
        exact Sub.nil
      cases hz
      exact (((Sm.rf.wI (lo := 114) (hi := 115) (c9 := 0) (show _ ∈ L_X0_lieBehind from by simp [L_X0_lieBehind]) (by decide) (by decide) (Or.inl rfl)).call (fr_X3_move (fxH (gR (sI w 114 (ix x3) ((gI w 114 (ix x3)) + 1)) 3)) 114 x2 _ (z := q5)  e6) ie6 (show ∀ r ∈ R_X3_move, r ∈ R_X0_lieBehind from by decide)).call (fr_X0_rank 114 _ (z := q7)  e8) ie8 (show ∀ r ∈ R_X0_rank, r ∈ R_X0_lieBehind from by decide))
    · obtain ⟨h9, hz⟩ := ck hz
      obtain ⟨h10, hz⟩ := ck hz
      exact ((Sm.rf.wI (lo := 114) (hi := 115) (c9 := 0) (show _ ∈ L_X0_lieBehind from by simp [L_X0_lieBehind]) (by decide) (by decide) (Or.inl rfl))).tr (ih x2 x3 (x4 + 1) _  hz)
theorem fr_X0_lieBehind (x1 : Int32) (x2 : Int32) (w : GW) {z : Int32 × GW} : f_X0_lieBehind x1 x2 w = some z → Sm L_X0_lieBehind R_X0_lieBehind w z.2 := by
  intro  hz
  rw [f_X0_lieBehind] at hz
  obtain ⟨q1, e2, hz⟩ := bd hz
  have ie2 : Sub (L_X3_roomFrom (fxH (gR w 3)) 113) L_X0_lieBehind := by
    unfold L_X3_roomFrom
    exact Sub.nil
  rcases bri hz with hz | hz
  · exact ((Sm.rf.call (fr_X3_roomFrom (fxH (gR w 3)) 113 x1 _ (z := q1) e2) ie2 (show ∀ r ∈ R_X3_roomFrom, r ∈ R_X0_lieBehind from by decide))).tr (fr_X0_lieBehind_22 fu x2 q1.1 0 _ hz)
  · cases hz
    exact (Sm.rf.call (fr_X3_roomFrom (fxH (gR w 3)) 113 x1 _ (z := q1)  e2) ie2 (show ∀ r ∈ R_X3_roomFrom, r ∈ R_X0_lieBehind from by decide))
def L_X1_mixed : List (Nat × Nat × Nat) := []
def R_X1_mixed : List Nat := []
theorem fr_X1_mixed_9 {z : Int64 × GW} : ∀ (n9 : Nat), (∀ (x0 : Int64) (x2 : Int64) (x4 : Int32) (x5 : Int64) (x7 : Int64) (x9 : Int32) (w : GW), f_X1_mixed_9 n9 x0 x2 x4 x5 x7 x9 w = some z → Sm L_X1_mixed R_X1_mixed w z.2) := by
  intro n9
  induction n9 with
  | zero =>
    intro x0 x2 x4 x5 x7 x9 w hz
    rw [f_X1_mixed_9] at hz
    cases hz
  | succ n9 ih =>
    intro x0 x2 x4 x5 x7 x9 w hz
    rw [f_X1_mixed_9] at hz
    rcases bri hz with hz | hz
    · cases hz
      exact Sm.rf
    · exact (Sm.rf).tr (ih x0 x2 x4 ((x5 * x0) + x7) (x7 * x2) (x9 + 1) _  hz)
theorem fr_X1_mixed (x0 : Int64) (x2 : Int64) (x4 : Int32) (w : GW) {z : Int64 × GW} : f_X1_mixed x0 x2 x4 w = some z → Sm L_X1_mixed R_X1_mixed w z.2 := by
  intro  hz
  rw [f_X1_mixed] at hz
  exact (Sm.rf).tr (fr_X1_mixed_9 fu x0 x2 x4 0 1 0 _ hz)
def L_X1_weighLots (k1 : Nat) : List (Nat × Nat × Nat) := [(71, 72, 0)]
def R_X1_weighLots : List Nat := []
theorem fr_X1_weighLots_88 {z : Unit × GW} (k1 : Nat) {k_2 : Nat → Int32 → GW → Option (Unit × GW)} (Hk_2 : (∀ (x2 : Int32) (w : GW), k_2 k1 x2 w = some z → Sm (L_X1_weighLots k1) R_X1_weighLots w z.2)) {k_21 : Nat → Int32 → Int64 → Int64 → Int32 → GW → Option (Unit × GW)} (Hk_21 : (∀ (x2 : Int32) (x3 : Int64) (x5 : Int64) (x7 : Int32) (w : GW), k_21 k1 x2 x3 x5 x7 w = some z → Sm (L_X1_weighLots k1) R_X1_weighLots w z.2)) : (∀ (x2 : Int32) (x3 : Int64) (x7 : Int32) (t0 : Int64) (t1 : Int64) (w : GW), f_X1_weighLots_88 k_2 k_21 k1 x2 x3 x7 t0 t1 w = some z → Sm (L_X1_weighLots k1) R_X1_weighLots w z.2) := by
  intro x2 x3 x7 t0 t1 w hz
  rw [f_X1_weighLots_88] at hz
  exact (Sm.rf).tr (Hk_21 x2 x3 (t1 + t0) (x7 + 1) _  hz)
theorem fr_X1_weighLots_59 {z : Unit × GW} (k1 : Nat) {k_2 : Nat → Int32 → GW → Option (Unit × GW)} (Hk_2 : (∀ (x2 : Int32) (w : GW), k_2 k1 x2 w = some z → Sm (L_X1_weighLots k1) R_X1_weighLots w z.2)) {k_21 : Nat → Int32 → Int64 → Int64 → Int32 → GW → Option (Unit × GW)} (Hk_21 : (∀ (x2 : Int32) (x3 : Int64) (x5 : Int64) (x7 : Int32) (w : GW), k_21 k1 x2 x3 x5 x7 w = some z → Sm (L_X1_weighLots k1) R_X1_weighLots w z.2)) : (∀ (x2 : Int32) (x5 : Int64) (x7 : Int32) (t0 : Int64) (t1 : Int64) (w : GW), f_X1_weighLots_59 k_2 k_21 k1 x2 x5 x7 t0 t1 w = some z → Sm (L_X1_weighLots k1) R_X1_weighLots w z.2) := by
  intro x2 x5 x7 t0 t1 w hz
  rw [f_X1_weighLots_59] at hz
  obtain ⟨h7, hz⟩ := ck hz
  obtain ⟨h8, hz⟩ := ck hz
  rcases bri hz with hz | hz
  · exact (Sm.rf).tr (fr_X1_weighLots_88 k1 Hk_2 Hk_21 x2 (t1 + t0) x7 0 x5 _ hz)
  · obtain ⟨h9, hz⟩ := ck hz
    exact (Sm.rf).tr (fr_X1_weighLots_88 k1 Hk_2 Hk_21 x2 (t1 + t0) x7 ((gI w ((fxH (gR w 4)) + 2) (ix x7)).toInt64) x5 _ hz)
theorem fr_X1_weighLots_21 {z : Unit × GW} (k1 : Nat) {k_2 : Nat → Int32 → GW → Option (Unit × GW)} (Hk_2 : (∀ (x2 : Int32) (w : GW), k_2 k1 x2 w = some z → Sm (L_X1_weighLots k1) R_X1_weighLots w z.2)) : ∀ (n9 : Nat), (∀ (x2 : Int32) (x3 : Int64) (x5 : Int64) (x7 : Int32) (w : GW), f_X1_weighLots_21 k_2 n9 k1 x2 x3 x5 x7 w = some z → Sm (L_X1_weighLots k1) R_X1_weighLots w z.2) := by
  intro n9
  induction n9 with
  | zero =>
    intro x2 x3 x5 x7 w hz
    rw [f_X1_weighLots_21] at hz
    cases hz
  | succ n9 ih =>
    intro x2 x3 x5 x7 w hz
    rw [f_X1_weighLots_21] at hz
    rcases bri hz with hz | hz
    · obtain ⟨h1, hz⟩ := ck hz
      obtain ⟨q2, e3, hz⟩ := bd hz
      have ie3 : Sub L_X1_mixed (L_X1_weighLots k1) := by
        unfold L_X1_mixed
        exact Sub.nil
      obtain ⟨h4, hz⟩ := ck hz
      exact (((Sm.rf.call (fr_X1_mixed x5 x3 (gI w (fxP (gR w 5)) 0) _ (z := q2)  e3) ie3 (show ∀ r ∈ R_X1_mixed, r ∈ R_X1_weighLots from by decide)).wL (lo := 71) (hi := 72) (c9 := 0) (show _ ∈ (L_X1_weighLots k1) from by simp [L_X1_weighLots]) (by decide) (by decide) (Or.inl rfl))).tr (Hk_2 (x2 + 1) _  hz)
    · obtain ⟨h5, hz⟩ := ck hz
      obtain ⟨h6, hz⟩ := ck hz
      rcases bri hz with hz | hz
      · exact (Sm.rf).tr (fr_X1_weighLots_59 k1 Hk_2 ih x2 x5 x7 0 x3 _ hz)
      · obtain ⟨h10, hz⟩ := ck hz
        exact (Sm.rf).tr (fr_X1_weighLots_59 k1 Hk_2 ih x2 x5 x7 ((gI w ((fxH (gR w 4)) + 2) (ix x7)).toInt64) x3 _ hz)
theorem fr_X1_weighLots_2 {z : Unit × GW} (k1 : Nat) : ∀ (n9 : Nat), (∀ (x2 : Int32) (w : GW), f_X1_weighLots_2 n9 k1 x2 w = some z → Sm (L_X1_weighLots k1) R_X1_weighLots w z.2) := by
  intro n9
  induction n9 with
  | zero =>
    intro x2 w hz
    rw [f_X1_weighLots_2] at hz
    cases hz
  | succ n9 ih =>
    intro x2 w hz
    rw [f_X1_weighLots_2] at hz
    rcases bri hz with hz | hz
    · cases hz
      exact Sm.rf
    · exact (Sm.rf).tr (fr_X1_weighLots_21 k1 ih fu x2 0 0 0 _ hz)
theorem fr_X1_weighLots (k1 : Nat) (w : GW) {z : Unit × GW} : f_X1_weighLots k1 w = some z → Sm (L_X1_weighLots k1) R_X1_weighLots w z.2 := by
  intro  hz
  rw [f_X1_weighLots] at hz
  exact (Sm.rf).tr (fr_X1_weighLots_2 k1 fu 0 _ hz)
def L_X1_weighLazy (k1 : Nat) : List (Nat × Nat × Nat) := [(71, 72, 0)]
def R_X1_weighLazy : List Nat := []
theorem fr_X1_weighLazy_96 {z : Unit × GW} (k1 : Nat) {k_58 : Nat → Int64 → Int32 → GW → Option (Unit × GW)} (Hk_58 : (∀ (x2 : Int64) (x4 : Int32) (w : GW), k_58 k1 x2 x4 w = some z → Sm (L_X1_weighLazy k1) R_X1_weighLazy w z.2)) : (∀ (x2 : Int64) (x4 : Int32) (t0 : Int64) (w : GW), f_X1_weighLazy_96 k_58 k1 x2 x4 t0 w = some z → Sm (L_X1_weighLazy k1) R_X1_weighLazy w z.2) := by
  intro x2 x4 t0 w hz
  rw [f_X1_weighLazy_96] at hz
  obtain ⟨h2, hz⟩ := ck hz
  obtain ⟨q3, e4, hz⟩ := bd hz
  have ie4 : Sub L_X1_mixed (L_X1_weighLazy k1) := by
    unfold L_X1_mixed
    exact Sub.nil
  obtain ⟨h5, hz⟩ := ck hz
  exact (((Sm.rf.call (fr_X1_mixed t0 x2 (gI w (fxP (gR w 5)) 0) _ (z := q3)  e4) ie4 (show ∀ r ∈ R_X1_mixed, r ∈ R_X1_weighLazy from by decide)).wL (lo := 71) (hi := 72) (c9 := 0) (show _ ∈ (L_X1_weighLazy k1) from by simp [L_X1_weighLazy]) (by decide) (by decide) (Or.inl rfl))).tr (Hk_58 x2 (x4 + 1) _  hz)
theorem fr_X1_weighLazy_58 {z : Unit × GW} (k1 : Nat) : ∀ (n9 : Nat), (∀ (x2 : Int64) (x4 : Int32) (w : GW), f_X1_weighLazy_58 n9 k1 x2 x4 w = some z → Sm (L_X1_weighLazy k1) R_X1_weighLazy w z.2) := by
  intro n9
  induction n9 with
  | zero =>
    intro x2 x4 w hz
    rw [f_X1_weighLazy_58] at hz
    cases hz
  | succ n9 ih =>
    intro x2 x4 w hz
    rw [f_X1_weighLazy_58] at hz
    rcases bri hz with hz | hz
    · cases hz
      exact Sm.rf
    · obtain ⟨h1, hz⟩ := ck hz
      rcases bri hz with hz | hz
      · exact (Sm.rf).tr (fr_X1_weighLazy_96 k1 ih x2 x4 ((gI w (fxH (gR w 4)) 4).toInt64) _ hz)
      · exact (Sm.rf).tr (fr_X1_weighLazy_96 k1 ih x2 x4 0 _ hz)
theorem fr_X1_weighLazy_47 {z : Unit × GW} (k1 : Nat) {k_5 : Nat → Int64 → Int32 → GW → Option (Unit × GW)} (Hk_5 : (∀ (x2 : Int64) (x4 : Int32) (w : GW), k_5 k1 x2 x4 w = some z → Sm (L_X1_weighLazy k1) R_X1_weighLazy w z.2)) : (∀ (x4 : Int32) (t0 : Int64) (t1 : Int64) (w : GW), f_X1_weighLazy_47 k_5 k1 x4 t0 t1 w = some z → Sm (L_X1_weighLazy k1) R_X1_weighLazy w z.2) := by
  intro x4 t0 t1 w hz
  rw [f_X1_weighLazy_47] at hz
  exact (Sm.rf).tr (Hk_5 (t1 + t0) (x4 + 1) _  hz)
theorem fr_X1_weighLazy_5 {z : Unit × GW} (k1 : Nat) : ∀ (n9 : Nat), (∀ (x2 : Int64) (x4 : Int32) (w : GW), f_X1_weighLazy_5 n9 k1 x2 x4 w = some z → Sm (L_X1_weighLazy k1) R_X1_weighLazy w z.2) := by
  intro n9
  induction n9 with
  | zero =>
    intro x2 x4 w hz
    rw [f_X1_weighLazy_5] at hz
    cases hz
  | succ n9 ih =>
    intro x2 x4 w hz
    rw [f_X1_weighLazy_5] at hz
    rcases bri hz with hz | hz
    · exact (Sm.rf).tr (fr_X1_weighLazy_58 k1 fu x2 0 _ hz)
    · obtain ⟨h6, hz⟩ := ck hz
      rcases bri hz with hz | hz
      · exact (Sm.rf).tr (fr_X1_weighLazy_47 k1 ih x4 0 x2 _ hz)
      · obtain ⟨h7, hz⟩ := ck hz
        exact (Sm.rf).tr (fr_X1_weighLazy_47 k1 ih x4 ((gI w ((fxH (gR w 4)) + 2) (ix x4)).toInt64) x2 _ hz)
theorem fr_X1_weighLazy (k1 : Nat) (w : GW) {z : Unit × GW} : f_X1_weighLazy k1 w = some z → Sm (L_X1_weighLazy k1) R_X1_weighLazy w z.2 := by
  intro  hz
  rw [f_X1_weighLazy] at hz
  exact (Sm.rf).tr (fr_X1_weighLazy_5 k1 fu 0 0 _ hz)
def L_X1_lookedAt : List (Nat × Nat × Nat) := []
def R_X1_lookedAt : List Nat := []
theorem fr_X1_lookedAt (x1 : Int32) (x2 : Int32) (w : GW) {z : Int32 × GW} : f_X1_lookedAt x1 x2 w = some z → Sm L_X1_lookedAt R_X1_lookedAt w z.2 := by
  intro  hz
  rw [f_X1_lookedAt] at hz
  rcases bri hz with hz | hz
  · cases hz
    exact Sm.rf
  · rcases bri hz with hz | hz
    · rcases bri hz with hz | hz
      · cases hz
        exact Sm.rf
      · cases hz
        exact Sm.rf
    · cases hz
      exact Sm.rf
def L_X1_emptiest (k1 : Nat) : List (Nat × Nat × Nat) := []
def R_X1_emptiest : List Nat := []
theorem fr_X1_emptiest_71 {z : Int32 × GW} (k1 : Nat) {k_9 : Nat → Int32 → Int32 → Int32 → Int32 → Int32 → GW → Option (Int32 × GW)} (Hk_9 : (∀ (x2 : Int32) (x3 : Int32) (x4 : Int32) (x5 : Int32) (x6 : Int32) (w : GW), k_9 k1 x2 x3 x4 x5 x6 w = some z → Sm (L_X1_emptiest k1) R_X1_emptiest w z.2)) : (∀ (x2 : Int32) (x3 : Int32) (x4 : Int32) (x5 : Int32) (x6 : Int32) (w : GW), f_X1_emptiest_71 k_9 k1 x2 x3 x4 x5 x6 w = some z → Sm (L_X1_emptiest k1) R_X1_emptiest w z.2) := by
  intro x2 x3 x4 x5 x6 w hz
  rw [f_X1_emptiest_71] at hz
  exact (Sm.rf).tr (Hk_9 x2 x3 x4 x5 (x6 + 1) _  hz)
theorem fr_X1_emptiest_63 {z : Int32 × GW} (k1 : Nat) {k_9 : Nat → Int32 → Int32 → Int32 → Int32 → Int32 → GW → Option (Int32 × GW)} (Hk_9 : (∀ (x2 : Int32) (x3 : Int32) (x4 : Int32) (x5 : Int32) (x6 : Int32) (w : GW), k_9 k1 x2 x3 x4 x5 x6 w = some z → Sm (L_X1_emptiest k1) R_X1_emptiest w z.2)) : (∀ (x2 : Int32) (x3 : Int32) (x6 : Int32) (x7 : Int32) (w : GW), f_X1_emptiest_63 k_9 k1 x2 x3 x6 x7 w = some z → Sm (L_X1_emptiest k1) R_X1_emptiest w z.2) := by
  intro x2 x3 x6 x7 w hz
  rw [f_X1_emptiest_63] at hz
  exact (Sm.rf).tr (fr_X1_emptiest_71 k1 Hk_9 x2 x3 x6 x7 x6 _ hz)
theorem fr_X1_emptiest_49 {z : Int32 × GW} (k1 : Nat) {k_9 : Nat → Int32 → Int32 → Int32 → Int32 → Int32 → GW → Option (Int32 × GW)} (Hk_9 : (∀ (x2 : Int32) (x3 : Int32) (x4 : Int32) (x5 : Int32) (x6 : Int32) (w : GW), k_9 k1 x2 x3 x4 x5 x6 w = some z → Sm (L_X1_emptiest k1) R_X1_emptiest w z.2)) : (∀ (x2 : Int32) (x3 : Int32) (x4 : Int32) (x5 : Int32) (x6 : Int32) (t0 : Int32) (w : GW), f_X1_emptiest_49 k_9 k1 x2 x3 x4 x5 x6 t0 w = some z → Sm (L_X1_emptiest k1) R_X1_emptiest w z.2) := by
  intro x2 x3 x4 x5 x6 t0 w hz
  rw [f_X1_emptiest_49] at hz
  rcases bri hz with hz | hz
  · exact (Sm.rf).tr (fr_X1_emptiest_63 k1 Hk_9 x2 x3 x6 t0 _ hz)
  · rcases bri hz with hz | hz
    · exact (Sm.rf).tr (fr_X1_emptiest_71 k1 Hk_9 x2 x3 x4 x5 x6 _ hz)
    · exact (Sm.rf).tr (fr_X1_emptiest_63 k1 Hk_9 x2 x3 x6 t0 _ hz)
theorem fr_X1_emptiest_9 {z : Int32 × GW} (k1 : Nat) : ∀ (n9 : Nat), (∀ (x2 : Int32) (x3 : Int32) (x4 : Int32) (x5 : Int32) (x6 : Int32) (w : GW), f_X1_emptiest_9 n9 k1 x2 x3 x4 x5 x6 w = some z → Sm (L_X1_emptiest k1) R_X1_emptiest w z.2) := by
  intro n9
  induction n9 with
  | zero =>
    intro x2 x3 x4 x5 x6 w hz
    rw [f_X1_emptiest_9] at hz
    cases hz
  | succ n9 ih =>
    intro x2 x3 x4 x5 x6 w hz
    rw [f_X1_emptiest_9] at hz
    rcases bri hz with hz | hz
    · cases hz
      exact Sm.rf
    · rcases bri hz with hz | hz
      · exact (Sm.rf).tr (fr_X1_emptiest_71 k1 ih x2 x3 x4 x5 x6 _ hz)
      · rcases bri hz with hz | hz
        · obtain ⟨h2, hz⟩ := ck hz
          exact (Sm.rf).tr (fr_X1_emptiest_49 k1 ih x2 x3 x4 x5 x6 ((gI w k1 (ix x6)) + 1) _ hz)
        · obtain ⟨h1, hz⟩ := ck hz
          exact (Sm.rf).tr (fr_X1_emptiest_49 k1 ih x2 x3 x4 x5 x6 (gI w k1 (ix x6)) _ hz)
theorem fr_X1_emptiest (k1 : Nat) (x2 : Int32) (x3 : Int32) (w : GW) {z : Int32 × GW} : f_X1_emptiest k1 x2 x3 w = some z → Sm (L_X1_emptiest k1) R_X1_emptiest w z.2 := by
  intro  hz
  rw [f_X1_emptiest] at hz
  exact (Sm.rf).tr (fr_X1_emptiest_9 k1 fu x2 x3 (-1) 0 0 _ hz)
def L_X1_weighSeen (k1 : Nat) : List (Nat × Nat × Nat) := [(71, 72, 0)]
def R_X1_weighSeen : List Nat := []
theorem fr_X1_weighSeen_118 {z : Unit × GW} (k1 : Nat) {k_13 : Nat → Int32 → Int32 → Int32 → GW → Option (Unit × GW)} (Hk_13 : (∀ (x2 : Int32) (x3 : Int32) (x4 : Int32) (w : GW), k_13 k1 x2 x3 x4 w = some z → Sm (L_X1_weighSeen k1) R_X1_weighSeen w z.2)) : (∀ (x2 : Int32) (x3 : Int32) (x4 : Int32) (w : GW), f_X1_weighSeen_118 k_13 k1 x2 x3 x4 w = some z → Sm (L_X1_weighSeen k1) R_X1_weighSeen w z.2) := by
  intro x2 x3 x4 w hz
  rw [f_X1_weighSeen_118] at hz
  exact (Sm.rf).tr (Hk_13 x2 x3 (x4 + 1) _  hz)
theorem fr_X1_weighSeen_88 {z : Unit × GW} (k1 : Nat) {k_13 : Nat → Int32 → Int32 → Int32 → GW → Option (Unit × GW)} (Hk_13 : (∀ (x2 : Int32) (x3 : Int32) (x4 : Int32) (w : GW), k_13 k1 x2 x3 x4 w = some z → Sm (L_X1_weighSeen k1) R_X1_weighSeen w z.2)) : (∀ (x2 : Int32) (x3 : Int32) (x4 : Int32) (x6 : Int32) (t0 : Int32) (w : GW), f_X1_weighSeen_88 k_13 k1 x2 x3 x4 x6 t0 w = some z → Sm (L_X1_weighSeen k1) R_X1_weighSeen w z.2) := by
  intro x2 x3 x4 x6 t0 w hz
  rw [f_X1_weighSeen_88] at hz
  rcases bri hz with hz | hz
  · exact (Sm.rf).tr (fr_X1_weighSeen_118 k1 Hk_13 x2 x3 x4 _ hz)
  · obtain ⟨h8, hz⟩ := ck hz
    obtain ⟨h9, hz⟩ := ck hz
    obtain ⟨h10, hz⟩ := ck hz
    exact ((Sm.rf.wL (lo := 71) (hi := 72) (c9 := 0) (show _ ∈ (L_X1_weighSeen k1) from by simp [L_X1_weighSeen]) (by decide) (by decide) (Or.inl rfl))).tr (fr_X1_weighSeen_118 k1 Hk_13 x2 x3 x4 _ hz)
theorem fr_X1_weighSeen_13 {z : Unit × GW} (k1 : Nat) : ∀ (n9 : Nat), (∀ (x2 : Int32) (x3 : Int32) (x4 : Int32) (w : GW), f_X1_weighSeen_13 n9 k1 x2 x3 x4 w = some z → Sm (L_X1_weighSeen k1) R_X1_weighSeen w z.2) := by
  intro n9
  induction n9 with
  | zero =>
    intro x2 x3 x4 w hz
    rw [f_X1_weighSeen_13] at hz
    cases hz
  | succ n9 ih =>
    intro x2 x3 x4 w hz
    rw [f_X1_weighSeen_13] at hz
    rcases bri hz with hz | hz
    · cases hz
      exact Sm.rf
    · obtain ⟨h1, hz⟩ := ck hz
      rcases bri hz with hz | hz
      · exact (Sm.rf).tr (fr_X1_weighSeen_118 k1 ih x2 x3 x4 _ hz)
      · obtain ⟨q2, e3, hz⟩ := bd hz
        have ie3 : Sub L_X1_lookedAt (L_X1_weighSeen k1) := by
          unfold L_X1_lookedAt
          exact Sub.nil
        obtain ⟨q4, e5, hz⟩ := bd hz
        have ie5 : Sub (L_X1_emptiest k1) (L_X1_weighSeen k1) := by
          unfold L_X1_emptiest
          exact Sub.nil
        obtain ⟨q6, e7, hz⟩ := bd hz
        have ie7 : Sub (L_X3_roomFrom (fxH (gR q4.2 4)) k1) (L_X1_weighSeen k1) := by
          unfold L_X3_roomFrom
          exact Sub.nil
        rcases bri hz with hz | hz
        · obtain ⟨q11, e12, hz⟩ := bd hz
          have ie12 : Sub (L_X1_emptiest k1) (L_X1_weighSeen k1) := by
            unfold L_X1_emptiest
            exact Sub.nil
          exact (((((Sm.rf.call (fr_X1_lookedAt x4 x2 _ (z := q2) e3) ie3 (show ∀ r ∈ R_X1_lookedAt, r ∈ R_X1_weighSeen from by decide)).call (fr_X1_emptiest k1 q2.1 (-1) _ (z := q4) e5) ie5 (show ∀ r ∈ R_X1_emptiest, r ∈ R_X1_weighSeen from by decide)).call (fr_X3_roomFrom (fxH (gR q4.2 4)) k1 q4.1 _ (z := q6) e7) ie7 (show ∀ r ∈ R_X3_roomFrom, r ∈ R_X1_weighSeen from by decide)).call (fr_X1_emptiest k1 q2.1 q6.1 _ (z := q11) e12) ie12 (show ∀ r ∈ R_X1_emptiest, r ∈ R_X1_weighSeen from by decide))).tr (fr_X1_weighSeen_88 k1 ih x2 x3 x4 q4.1 (q11.1 + 1) _ hz)
        · exact ((((Sm.rf.call (fr_X1_lookedAt x4 x2 _ (z := q2) e3) ie3 (show ∀ r ∈ R_X1_lookedAt, r ∈ R_X1_weighSeen from by decide)).call (fr_X1_emptiest k1 q2.1 (-1) _ (z := q4) e5) ie5 (show ∀ r ∈ R_X1_emptiest, r ∈ R_X1_weighSeen from by decide)).call (fr_X3_roomFrom (fxH (gR q4.2 4)) k1 q4.1 _ (z := q6) e7) ie7 (show ∀ r ∈ R_X3_roomFrom, r ∈ R_X1_weighSeen from by decide))).tr (fr_X1_weighSeen_88 k1 ih x2 x3 x4 q4.1 0 _ hz)
theorem fr_X1_weighSeen (k1 : Nat) (x2 : Int32) (w : GW) {z : Unit × GW} : f_X1_weighSeen k1 x2 w = some z → Sm (L_X1_weighSeen k1) R_X1_weighSeen w z.2 := by
  intro  hz
  rw [f_X1_weighSeen] at hz
  exact (Sm.rf).tr (fr_X1_weighSeen_13 k1 fu x2 ((1 : Int32) <<< ((gI w (fxH (gR w 4)) 1) &&& 31)) 1 _ hz)
def L_X1_weigh (k1 : Nat) : List (Nat × Nat × Nat) := [(71, 72, 0)]
def R_X1_weigh : List Nat := []
theorem fr_X1_weigh_3 {z : Unit × GW} (k1 : Nat) : ∀ (n9 : Nat), (∀ (x2 : Int32) (x3 : Int32) (x4 : Int32) (w : GW), f_X1_weigh_3 n9 k1 x2 x3 x4 w = some z → Sm (L_X1_weigh k1) R_X1_weigh w z.2) := by
  intro n9
  induction n9 with
  | zero =>
    intro x2 x3 x4 w hz
    rw [f_X1_weigh_3] at hz
    cases hz
  | succ n9 ih =>
    intro x2 x3 x4 w hz
    rw [f_X1_weigh_3] at hz
    rcases bri hz with hz | hz
    · obtain ⟨q1, e2, hz⟩ := bd hz
      have ie2 : Sub (L_X3_isDoors (fxH (gR w 4))) (L_X1_weigh k1) := by
        unfold L_X3_isDoors
        exact Sub.nil
      rcases bri hz with hz | hz
      · rcases bri hz with hz | hz
        · obtain ⟨q7, e8, hz⟩ := bd hz
          have ie8 : Sub (L_X1_weighLots k1) (L_X1_weigh k1) := by
            unfold L_X1_weighLots
            exact (Sub.cons (lo2 := 71) (hi2 := 72) (c2 := 0) (show _ ∈ (L_X1_weigh k1) from by simp [L_X1_weigh]) (by omega) (by omega) (Or.inl rfl) Sub.nil)
          cases hz
          exact ((Sm.rf.call (fr_X3_isDoors (fxH (gR w 4)) x3 _ (z := q1)  e2) ie2 (show ∀ r ∈ R_X3_isDoors, r ∈ R_X1_weigh from by decide)).call (fr_X1_weighLots k1 _ (z := q7)  e8) ie8 (show ∀ r ∈ R_X1_weighLots, r ∈ R_X1_weigh from by decide))
        · rcases bri hz with hz | hz
          · obtain ⟨q5, e6, hz⟩ := bd hz
            have ie6 : Sub (L_X1_weighLazy k1) (L_X1_weigh k1) := by
              unfold L_X1_weighLazy
              exact (Sub.cons (lo2 := 71) (hi2 := 72) (c2 := 0) (show _ ∈ (L_X1_weigh k1) from by simp [L_X1_weigh]) (by omega) (by omega) (Or.inl rfl) Sub.nil)
            cases hz
            exact ((Sm.rf.call (fr_X3_isDoors (fxH (gR w 4)) x3 _ (z := q1)  e2) ie2 (show ∀ r ∈ R_X3_isDoors, r ∈ R_X1_weigh from by decide)).call (fr_X1_weighLazy k1 _ (z := q5)  e6) ie6 (show ∀ r ∈ R_X1_weighLazy, r ∈ R_X1_weigh from by decide))
          · obtain ⟨q3, e4, hz⟩ := bd hz
            have ie4 : Sub (L_X1_weighSeen k1) (L_X1_weigh k1) := by
              unfold L_X1_weighSeen
              exact (Sub.cons (lo2 := 71) (hi2 := 72) (c2 := 0) (show _ ∈ (L_X1_weigh k1) from by simp [L_X1_weigh]) (by omega) (by omega) (Or.inl rfl) Sub.nil)
            cases hz
            exact ((Sm.rf.call (fr_X3_isDoors (fxH (gR w 4)) x3 _ (z := q1)  e2) ie2 (show ∀ r ∈ R_X3_isDoors, r ∈ R_X1_weigh from by decide)).call (fr_X1_weighSeen k1 x2 _ (z := q3)  e4) ie4 (show ∀ r ∈ R_X1_weighSeen, r ∈ R_X1_weigh from by decide))
      · obtain ⟨h9, hz⟩ := ck hz
        cases hz
        exact ((Sm.rf.call (fr_X3_isDoors (fxH (gR w 4)) x3 _ (z := q1)  e2) ie2 (show ∀ r ∈ R_X3_isDoors, r ∈ R_X1_weigh from by decide)).wL (lo := 71) (hi := 72) (c9 := 0) (show _ ∈ (L_X1_weigh k1) from by simp [L_X1_weigh]) (by decide) (by decide) (Or.inl rfl))
    · obtain ⟨h10, hz⟩ := ck hz
      exact ((Sm.rf.wL (lo := 71) (hi := 72) (c9 := 0) (show _ ∈ (L_X1_weigh k1) from by simp [L_X1_weigh]) (by decide) (by decide) (Or.inl rfl))).tr (ih x2 x3 (x4 + 1) _  hz)
theorem fr_X1_weigh (k1 : Nat) (x2 : Int32) (x3 : Int32) (w : GW) {z : Unit × GW} : f_X1_weigh k1 x2 x3 w = some z → Sm (L_X1_weigh k1) R_X1_weigh w z.2 := by
  intro  hz
  rw [f_X1_weigh] at hz
  exact (Sm.rf).tr (fr_X1_weigh_3 k1 fu x2 x3 0 _ hz)
def L_X0_passOn : List (Nat × Nat × Nat) := [(111, 112, 0)]
def R_X0_passOn : List Nat := []
theorem fr_X0_passOn_86 {z : Unit × GW} {k_13 : Int32 → Int64 → Int32 → Int32 → GW → Option (Unit × GW)} (Hk_13 : (∀ (x1 : Int32) (x2 : Int64) (x4 : Int32) (x5 : Int32) (w : GW), k_13 x1 x2 x4 x5 w = some z → Sm L_X0_passOn R_X0_passOn w z.2)) : (∀ (x1 : Int32) (x2 : Int64) (x4 : Int32) (x5 : Int32) (w : GW), f_X0_passOn_86 k_13 x1 x2 x4 x5 w = some z → Sm L_X0_passOn R_X0_passOn w z.2) := by
  intro x1 x2 x4 x5 w hz
  rw [f_X0_passOn_86] at hz
  exact (Sm.rf).tr (Hk_13 x1 x2 x4 (x5 + 1) _  hz)
theorem fr_X0_passOn_85 {z : Unit × GW} {k_13 : Int32 → Int64 → Int32 → Int32 → GW → Option (Unit × GW)} (Hk_13 : (∀ (x1 : Int32) (x2 : Int64) (x4 : Int32) (x5 : Int32) (w : GW), k_13 x1 x2 x4 x5 w = some z → Sm L_X0_passOn R_X0_passOn w z.2)) : (∀ (x1 : Int32) (x2 : Int64) (x4 : Int32) (x5 : Int32) (t0 : Int64) (t1 : Int32) (w : GW), f_X0_passOn_85 k_13 x1 x2 x4 x5 t0 t1 w = some z → Sm L_X0_passOn R_X0_passOn w z.2) := by
  intro x1 x2 x4 x5 t0 t1 w hz
  rw [f_X0_passOn_85] at hz
  obtain ⟨h5, hz⟩ := ck hz
  exact ((Sm.rf.wL (lo := 111) (hi := 112) (c9 := 0) (show _ ∈ L_X0_passOn from by simp [L_X0_passOn]) (by decide) (by decide) (Or.inl rfl))).tr (fr_X0_passOn_86 Hk_13 x1 x2 x4 x5 _ hz)
theorem fr_X0_passOn_13 {z : Unit × GW} : ∀ (n9 : Nat), (∀ (x1 : Int32) (x2 : Int64) (x4 : Int32) (x5 : Int32) (w : GW), f_X0_passOn_13 n9 x1 x2 x4 x5 w = some z → Sm L_X0_passOn R_X0_passOn w z.2) := by
  intro n9
  induction n9 with
  | zero =>
    intro x1 x2 x4 x5 w hz
    rw [f_X0_passOn_13] at hz
    cases hz
  | succ n9 ih =>
    intro x1 x2 x4 x5 w hz
    rw [f_X0_passOn_13] at hz
    rcases bri hz with hz | hz
    · cases hz
      exact Sm.rf
    · obtain ⟨h2, hz⟩ := ck hz
      rcases bri hz with hz | hz
      · exact (Sm.rf).tr (fr_X0_passOn_86 ih x1 x2 x4 x5 _ hz)
      · obtain ⟨h3, hz⟩ := ck hz
        rcases bri hz with hz | hz
        · obtain ⟨h4, hz⟩ := ck hz
          exact (Sm.rf).tr (fr_X0_passOn_85 ih x1 x2 x4 x5 ((gL w 111 (ix (((gI w 115 (ix x1)) * 6) + x5))) + (x2 * (gL w 71 (ix ((x1 * 6) + x5))))) (((gI w 115 (ix x1)) * 6) + x5) _ hz)
        · exact (Sm.rf).tr (fr_X0_passOn_85 ih x1 x2 x4 x5 1 (((gI w 115 (ix x1)) * 6) + x5) _ hz)
theorem fr_X0_passOn (x1 : Int32) (x2 : Int64) (x4 : Int32) (w : GW) {z : Unit × GW} : f_X0_passOn x1 x2 x4 w = some z → Sm L_X0_passOn R_X0_passOn w z.2 := by
  intro  hz
  rw [f_X0_passOn] at hz
  obtain ⟨h1, hz⟩ := ck hz
  rcases bri hz with hz | hz
  · exact (Sm.rf).tr (fr_X0_passOn_13 fu x1 x2 x4 0 _ hz)
  · cases hz
    exact Sm.rf
def L_X0_goOn : List (Nat × Nat × Nat) := [(111, 112, 0), (113, 114, 0), (114, 115, 0), (115, 116, 0), (71, 72, 0)]
def R_X0_goOn : List Nat := []
theorem fr_X0_goOn_163 {z : Unit × GW} {k_91 : Int32 → Int32 → Int32 → Int32 → GW → Option (Unit × GW)} (Hk_91 : (∀ (x1 : Int32) (x2 : Int32) (x3 : Int32) (x4 : Int32) (w : GW), k_91 x1 x2 x3 x4 w = some z → Sm L_X0_goOn R_X0_goOn w z.2)) : (∀ (x1 : Int32) (x2 : Int32) (x3 : Int32) (x4 : Int32) (w : GW), f_X0_goOn_163 k_91 x1 x2 x3 x4 w = some z → Sm L_X0_goOn R_X0_goOn w z.2) := by
  intro x1 x2 x3 x4 w hz
  rw [f_X0_goOn_163] at hz
  exact (Sm.rf).tr (Hk_91 x1 x2 x3 (x4 + 1) _  hz)
theorem fr_X0_goOn_136 {z : Unit × GW} {k_91 : Int32 → Int32 → Int32 → Int32 → GW → Option (Unit × GW)} (Hk_91 : (∀ (x1 : Int32) (x2 : Int32) (x3 : Int32) (x4 : Int32) (w : GW), k_91 x1 x2 x3 x4 w = some z → Sm L_X0_goOn R_X0_goOn w z.2)) : ∀ (n9 : Nat), (∀ (x1 : Int32) (x2 : Int32) (x3 : Int32) (x4 : Int32) (x5 : Int64) (x7 : Int32) (w : GW), f_X0_goOn_136 k_91 n9 x1 x2 x3 x4 x5 x7 w = some z → Sm L_X0_goOn R_X0_goOn w z.2) := by
  intro n9
  induction n9 with
  | zero =>
    intro x1 x2 x3 x4 x5 x7 w hz
    rw [f_X0_goOn_136] at hz
    cases hz
  | succ n9 ih =>
    intro x1 x2 x3 x4 x5 x7 w hz
    rw [f_X0_goOn_136] at hz
    rcases bri hz with hz | hz
    · exact (Sm.rf).tr (fr_X0_goOn_163 Hk_91 x1 x2 x3 x4 _ hz)
    · obtain ⟨q6, e7, hz⟩ := bd hz
      have ie7 : Sub L_X0_passOn L_X0_goOn := by
        unfold L_X0_passOn
        exact (Sub.cons (lo2 := 111) (hi2 := 112) (c2 := 0) (show _ ∈ L_X0_goOn from by simp [L_X0_goOn]) (by omega) (by omega) (Or.inl rfl) Sub.nil)
      exact ((Sm.rf.call (fr_X0_passOn x7 x5 x3 _ (z := q6)  e7) ie7 (show ∀ r ∈ R_X0_passOn, r ∈ R_X0_goOn from by decide))).tr (ih x1 x2 x3 x4 x5 (x7 + 1) _  hz)
theorem fr_X0_goOn_91 {z : Unit × GW} : ∀ (n9 : Nat), (∀ (x1 : Int32) (x2 : Int32) (x3 : Int32) (x4 : Int32) (w : GW), f_X0_goOn_91 n9 x1 x2 x3 x4 w = some z → Sm L_X0_goOn R_X0_goOn w z.2) := by
  intro n9
  induction n9 with
  | zero =>
    intro x1 x2 x3 x4 w hz
    rw [f_X0_goOn_91] at hz
    cases hz
  | succ n9 ih =>
    intro x1 x2 x3 x4 w hz
    rw [f_X0_goOn_91] at hz
    rcases bri hz with hz | hz
    · cases hz
      exact Sm.rf
    · obtain ⟨h3, hz⟩ := ck hz
      rcases bri hz with hz | hz
      · exact (Sm.rf).tr (fr_X0_goOn_163 ih x1 x2 x3 x4 _ hz)
      · obtain ⟨q4, e5, hz⟩ := bd hz
        have ie5 : Sub (L_X1_weigh 113) L_X0_goOn := by
          unfold L_X1_weigh
          exact (Sub.cons (lo2 := 71) (hi2 := 72) (c2 := 0) (show _ ∈ L_X0_goOn from by simp [L_X0_goOn]) (by omega) (by omega) (Or.inl rfl) Sub.nil)
        exact ((Sm.rf.call (fr_X1_weigh 113 x4 x2 _ (z := q4) e5) ie5 (show ∀ r ∈ R_X1_weigh, r ∈ R_X0_goOn from by decide))).tr (fr_X0_goOn_136 ih fu x1 x2 x3 x4 (gL w 111 (ix ((x1 * 6) + x4))) 0 _ hz)
theorem fr_X0_goOn_56 {z : Unit × GW} : ∀ (n9 : Nat), (∀ (x1 : Int32) (x2 : Int32) (x3 : Int32) (x4 : Int32) (w : GW), f_X0_goOn_56 n9 x1 x2 x3 x4 w = some z → Sm L_X0_goOn R_X0_goOn w z.2) := by
  intro n9
  induction n9 with
  | zero =>
    intro x1 x2 x3 x4 w hz
    rw [f_X0_goOn_56] at hz
    cases hz
  | succ n9 ih =>
    intro x1 x2 x3 x4 w hz
    rw [f_X0_goOn_56] at hz
    rcases bri hz with hz | hz
    · exact (Sm.rf).tr (fr_X0_goOn_91 fu x1 x2 x3 0 _ hz)
    · obtain ⟨q8, e9, hz⟩ := bd hz
      have ie9 : Sub L_X0_lieBehind L_X0_goOn := by
        unfold L_X0_lieBehind
        exact (Sub.cons (lo2 := 114) (hi2 := 115) (c2 := 0) (show _ ∈ L_X0_goOn from by simp [L_X0_goOn]) (by omega) (by omega) (Or.inl rfl) Sub.nil)
      obtain ⟨h10, hz⟩ := ck hz
      exact (((Sm.rf.call (fr_X0_lieBehind x4 x2 _ (z := q8)  e9) ie9 (show ∀ r ∈ R_X0_lieBehind, r ∈ R_X0_goOn from by decide)).wI (lo := 115) (hi := 116) (c9 := 0) (show _ ∈ L_X0_goOn from by simp [L_X0_goOn]) (by decide) (by decide) (Or.inl rfl))).tr (ih x1 x2 x3 (x4 + 1) _  hz)
theorem fr_X0_goOn_14 {z : Unit × GW} : ∀ (n9 : Nat), (∀ (x1 : Int32) (x2 : Int32) (x3 : Int32) (x4 : Int32) (w : GW), f_X0_goOn_14 n9 x1 x2 x3 x4 w = some z → Sm L_X0_goOn R_X0_goOn w z.2) := by
  intro n9
  induction n9 with
  | zero =>
    intro x1 x2 x3 x4 w hz
    rw [f_X0_goOn_14] at hz
    cases hz
  | succ n9 ih =>
    intro x1 x2 x3 x4 w hz
    rw [f_X0_goOn_14] at hz
    rcases bri hz with hz | hz
    · exact (Sm.rf).tr (fr_X0_goOn_56 fu x1 x2 x3 0 _ hz)
    · obtain ⟨h11, hz⟩ := ck hz
      obtain ⟨h12, hz⟩ := ck hz
      exact ((Sm.rf.wI (lo := 113) (hi := 114) (c9 := 0) (show _ ∈ L_X0_goOn from by simp [L_X0_goOn]) (by decide) (by decide) (Or.inl rfl))).tr (ih x1 x2 x3 (x4 + 1) _  hz)
theorem fr_X0_goOn (x1 : Int32) (x2 : Int32) (x3 : Int32) (w : GW) {z : Unit × GW} : f_X0_goOn x1 x2 x3 w = some z → Sm L_X0_goOn R_X0_goOn w z.2 := by
  intro  hz
  rw [f_X0_goOn] at hz
  obtain ⟨q1, e2, hz⟩ := bd hz
  have ie2 : Sub L_X0_sumOfSlots L_X0_goOn := by
    unfold L_X0_sumOfSlots
    exact Sub.nil
  rcases bri hz with hz | hz
  · cases hz
    exact (Sm.rf.call (fr_X0_sumOfSlots x1 _ (z := q1)  e2) ie2 (show ∀ r ∈ R_X0_sumOfSlots, r ∈ R_X0_goOn from by decide))
  · exact ((Sm.rf.call (fr_X0_sumOfSlots x1 _ (z := q1) e2) ie2 (show ∀ r ∈ R_X0_sumOfSlots, r ∈ R_X0_goOn from by decide))).tr (fr_X0_goOn_14 fu x1 x2 x3 0 _ hz)
def L_X0_rowOf (k2 : Nat) : List (Nat × Nat × Nat) := [(110, 111, 0), (111, 112, 0), (113, 114, 0), (114, 115, 0), (115, 116, 0), (69, 70, 0), (71, 72, 0), (74, 110, 0)]
def R_X0_rowOf : List Nat := [4, 5]
theorem fr_X0_rowOf_208 {z : Nat × GW} (k2 : Nat) {k_179 : Nat → Int32 → Int32 → GW → Option (Nat × GW)} (Hk_179 : (∀ (k4 : Nat) (x6 : Int32) (x7 : Int32) (w : GW), kd k4 = 25 → k_179 k4 x6 x7 w = some z → Sm (L_X0_rowOf k2) R_X0_rowOf w z.2)) : (∀ (k4 : Nat) (x6 : Int32) (x7 : Int32) (t0 : Int64) (t1 : Int32) (t2 : Nat) (w : GW), kd k4 = 25 → kd t2 = 25 → f_X0_rowOf_208 k_179 k4 x6 x7 t0 t1 t2 w = some z → Sm (L_X0_rowOf k2) R_X0_rowOf w z.2) := by
  intro k4 x6 x7 t0 t1 t2 w hk4 ht2 hz
  rw [f_X0_rowOf_208] at hz
  obtain ⟨h11, hz⟩ := ck hz
  exact ((Sm.rf.wL (lo := 74) (hi := 110) (c9 := 0) (show _ ∈ (L_X0_rowOf k2) from by simp [L_X0_rowOf]) (rng25 ht2).1 (rng25 ht2).2 (Or.inl rfl))).tr (Hk_179 k4 x6 (x7 + 1) _ hk4 hz)
theorem fr_X0_rowOf_179 {z : Nat × GW} (k2 : Nat) : ∀ (n9 : Nat), (∀ (k4 : Nat) (x6 : Int32) (x7 : Int32) (w : GW), kd k4 = 25 → f_X0_rowOf_179 n9 k4 x6 x7 w = some z → Sm (L_X0_rowOf k2) R_X0_rowOf w z.2) := by
  intro n9
  induction n9 with
  | zero =>
    intro k4 x6 x7 w hk4 hz
    rw [f_X0_rowOf_179] at hz
    cases hz
  | succ n9 ih =>
    intro k4 x6 x7 w hk4 hz
    rw [f_X0_rowOf_179] at hz
    rcases bri hz with hz | hz
    · cases hz
      exact Sm.rf
    · rcases bri hz with hz | hz
      · exact (Sm.rf).tr (fr_X0_rowOf_208 k2 ih k4 x6 x7 0 x7 k4 _ hk4 hk4 hz)
      · obtain ⟨q12, e13, hz⟩ := bd hz
        have ie13 : Sub L_X0_sumOfSlots (L_X0_rowOf k2) := by
          unfold L_X0_sumOfSlots
          exact Sub.nil
        exact ((Sm.rf.call (fr_X0_sumOfSlots x7 _ (z := q12) e13) ie13 (show ∀ r ∈ R_X0_sumOfSlots, r ∈ R_X0_rowOf from by decide))).tr (fr_X0_rowOf_208 k2 ih k4 x6 x7 q12.1 x7 k4 _ hk4 hk4 hz)
theorem fr_X0_rowOf_144 {z : Nat × GW} (k2 : Nat) {k_127 : Int32 → Nat → Int32 → Int32 → Int32 → GW → Option (Nat × GW)} (Hk_127 : (∀ (x3 : Int32) (k4 : Nat) (x5 : Int32) (x6 : Int32) (x7 : Int32) (w : GW), kd k4 = 25 → k_127 x3 k4 x5 x6 x7 w = some z → Sm (L_X0_rowOf k2) R_X0_rowOf w z.2)) : ∀ (n9 : Nat), (∀ (x3 : Int32) (k4 : Nat) (x5 : Int32) (x6 : Int32) (x7 : Int32) (x8 : Int32) (w : GW), kd k4 = 25 → f_X0_rowOf_144 k_127 n9 x3 k4 x5 x6 x7 x8 w = some z → Sm (L_X0_rowOf k2) R_X0_rowOf w z.2) := by
  intro n9
  induction n9 with
  | zero =>
    intro x3 k4 x5 x6 x7 x8 w hk4 hz
    rw [f_X0_rowOf_144] at hz
    cases hz
  | succ n9 ih =>
    intro x3 k4 x5 x6 x7 x8 w hk4 hz
    rw [f_X0_rowOf_144] at hz
    obtain ⟨q16, e17, hz⟩ := bd hz
    have ie17 : Sub L_X0_first (L_X0_rowOf k2) := by
      unfold L_X0_first
      exact Sub.nil
    rcases bri hz with hz | hz
    · exact ((Sm.rf.call (fr_X0_first x7 _ (z := q16)  e17) ie17 (show ∀ r ∈ R_X0_first, r ∈ R_X0_rowOf from by decide))).tr (Hk_127 x3 k4 x5 x6 (x7 + 1) _ hk4 hz)
    · obtain ⟨q18, e19, hz⟩ := bd hz
      have ie19 : Sub L_X0_goOn (L_X0_rowOf k2) := by
        unfold L_X0_goOn
        exact (Sub.cons (lo2 := 111) (hi2 := 112) (c2 := 0) (show _ ∈ (L_X0_rowOf k2) from by simp [L_X0_rowOf]) (by omega) (by omega) (Or.inl rfl) (Sub.cons (lo2 := 113) (hi2 := 114) (c2 := 0) (show _ ∈ (L_X0_rowOf k2) from by simp [L_X0_rowOf]) (by omega) (by omega) (Or.inl rfl) (Sub.cons (lo2 := 114) (hi2 := 115) (c2 := 0) (show _ ∈ (L_X0_rowOf k2) from by simp [L_X0_rowOf]) (by omega) (by omega) (Or.inl rfl) (Sub.cons (lo2 := 115) (hi2 := 116) (c2 := 0) (show _ ∈ (L_X0_rowOf k2) from by simp [L_X0_rowOf]) (by omega) (by omega) (Or.inl rfl) (Sub.cons (lo2 := 71) (hi2 := 72) (c2 := 0) (show _ ∈ (L_X0_rowOf k2) from by simp [L_X0_rowOf]) (by omega) (by omega) (Or.inl rfl) Sub.nil)))))
      exact (((Sm.rf.call (fr_X0_first x7 _ (z := q16)  e17) ie17 (show ∀ r ∈ R_X0_first, r ∈ R_X0_rowOf from by decide)).call (fr_X0_goOn x8 x7 x3 _ (z := q18)  e19) ie19 (show ∀ r ∈ R_X0_goOn, r ∈ R_X0_rowOf from by decide))).tr (ih x3 k4 x5 x6 x7 (x8 + 1) _ hk4 hz)
theorem fr_X0_rowOf_127 {z : Nat × GW} (k2 : Nat) : ∀ (n9 : Nat), (∀ (x3 : Int32) (k4 : Nat) (x5 : Int32) (x6 : Int32) (x7 : Int32) (w : GW), kd k4 = 25 → f_X0_rowOf_127 n9 x3 k4 x5 x6 x7 w = some z → Sm (L_X0_rowOf k2) R_X0_rowOf w z.2) := by
  intro n9
  induction n9 with
  | zero =>
    intro x3 k4 x5 x6 x7 w hk4 hz
    rw [f_X0_rowOf_127] at hz
    cases hz
  | succ n9 ih =>
    intro x3 k4 x5 x6 x7 w hk4 hz
    rw [f_X0_rowOf_127] at hz
    rcases bri hz with hz | hz
    · exact (Sm.rf).tr (fr_X0_rowOf_179 k2 fu k4 x6 0 _ hk4 hz)
    · obtain ⟨q14, e15, hz⟩ := bd hz
      have ie15 : Sub L_X0_first (L_X0_rowOf k2) := by
        unfold L_X0_first
        exact Sub.nil
      exact ((Sm.rf.call (fr_X0_first (x7 - 1) _ (z := q14) e15) ie15 (show ∀ r ∈ R_X0_first, r ∈ R_X0_rowOf from by decide))).tr (fr_X0_rowOf_144 k2 ih fu x3 k4 x5 x6 x7 q14.1 _ hk4 hz)
theorem fr_X0_rowOf_93 {z : Nat × GW} (k2 : Nat) : ∀ (n9 : Nat), (∀ (x3 : Int32) (k4 : Nat) (x5 : Int32) (x6 : Int32) (x7 : Int32) (w : GW), kd k4 = 25 → f_X0_rowOf_93 n9 x3 k4 x5 x6 x7 w = some z → Sm (L_X0_rowOf k2) R_X0_rowOf w z.2) := by
  intro n9
  induction n9 with
  | zero =>
    intro x3 k4 x5 x6 x7 w hk4 hz
    rw [f_X0_rowOf_93] at hz
    cases hz
  | succ n9 ih =>
    intro x3 k4 x5 x6 x7 w hk4 hz
    rw [f_X0_rowOf_93] at hz
    rcases bri hz with hz | hz
    · obtain ⟨h10, hz⟩ := ck hz
      exact ((Sm.rf.wL (lo := 111) (hi := 112) (c9 := 0) (show _ ∈ (L_X0_rowOf k2) from by simp [L_X0_rowOf]) (by decide) (by decide) (Or.inl rfl))).tr (fr_X0_rowOf_127 k2 fu x3 k4 x5 x6 1 _ hk4 hz)
    · obtain ⟨h20, hz⟩ := ck hz
      exact ((Sm.rf.wL (lo := 111) (hi := 112) (c9 := 0) (show _ ∈ (L_X0_rowOf k2) from by simp [L_X0_rowOf]) (by decide) (by decide) (Or.inl rfl))).tr (ih x3 k4 x5 x6 (x7 + 1) _ hk4 hz)
theorem fr_X0_rowOf_68 {z : Nat × GW} (k2 : Nat) : (∀ (x3 : Int32) (k4 : Nat) (x5 : Int32) (w : GW), kd k4 = 25 → f_X0_rowOf_68 k2 x3 k4 x5 w = some z → Sm (L_X0_rowOf k2) R_X0_rowOf w z.2) := by
  intro x3 k4 x5 w hk4 hz
  rw [f_X0_rowOf_68] at hz
  obtain ⟨q6, e7, hz⟩ := bd hz
  have ie7 : Sub (L_X1_ready (fxH (gR w 3)) k2) (L_X0_rowOf k2) := by
    unfold L_X1_ready
    exact (Sub.cons (lo2 := 69) (hi2 := 70) (c2 := 0) (show _ ∈ (L_X0_rowOf k2) from by simp [L_X0_rowOf]) (by omega) (by omega) (Or.inl rfl) Sub.nil)
  obtain ⟨q8, e9, hz⟩ := bd hz
  have ie9 : Sub L_X0_first (L_X0_rowOf k2) := by
    unfold L_X0_first
    exact Sub.nil
  exact (((Sm.rf.call (fr_X1_ready (fxH (gR w 3)) k2 _ (z := q6) e7) ie7 (show ∀ r ∈ R_X1_ready, r ∈ R_X0_rowOf from by decide)).call (fr_X0_first (x5 + 1) _ (z := q8) e9) ie9 (show ∀ r ∈ R_X0_first, r ∈ R_X0_rowOf from by decide))).tr (fr_X0_rowOf_93 k2 fu x3 k4 x5 q8.1 0 _ hk4 hz)
theorem fr_X0_rowOf_40 {z : Nat × GW} (k2 : Nat) : ∀ (n9 : Nat), (∀ (x3 : Int32) (k4 : Nat) (x5 : Int32) (w : GW), kd k4 = 25 → f_X0_rowOf_40 n9 k2 x3 k4 x5 w = some z → Sm (L_X0_rowOf k2) R_X0_rowOf w z.2) := by
  intro n9
  induction n9 with
  | zero =>
    intro x3 k4 x5 w hk4 hz
    rw [f_X0_rowOf_40] at hz
    cases hz
  | succ n9 ih =>
    intro x3 k4 x5 w hk4 hz
    rw [f_X0_rowOf_40] at hz
    rcases bri hz with hz | hz
    · exact (Sm.rf).tr (fr_X0_rowOf_68 k2 x3 k4 x5 _ hk4 hz)
    · rcases bri hz with hz | hz
      · obtain ⟨q21, e22, hz⟩ := bd hz
        have ie22 : Sub (L_X3_tooMany (fxH (gR w 3)) k2) (L_X0_rowOf k2) := by
          unfold L_X3_tooMany
          exact Sub.nil
        rcases bri hz with hz | hz
        · exact ((Sm.rf.call (fr_X3_tooMany (fxH (gR w 3)) k2 x5 _ (z := q21) e22) ie22 (show ∀ r ∈ R_X3_tooMany, r ∈ R_X0_rowOf from by decide))).tr (fr_X0_rowOf_68 k2 x3 k4 x5 _ hk4 hz)
        · exact ((Sm.rf.call (fr_X3_tooMany (fxH (gR w 3)) k2 x5 _ (z := q21)  e22) ie22 (show ∀ r ∈ R_X3_tooMany, r ∈ R_X0_rowOf from by decide))).tr (ih x3 k4 (x5 + (-1)) _ hk4 hz)
      · exact (Sm.rf).tr (fr_X0_rowOf_68 k2 x3 k4 x5 _ hk4 hz)
theorem fr_X0_rowOf (x1 : Int32) (k2 : Nat) (x3 : Int32) (w : GW) {z : Nat × GW} : f_X0_rowOf x1 k2 x3 w = some z → Sm (L_X0_rowOf k2) R_X0_rowOf w z.2 := by
  intro  hz
  rw [f_X0_rowOf] at hz
  obtain ⟨h1, hz⟩ := ck hz
  have gh1 : ix x1 < 36 := h1.2
  obtain ⟨h2, hz⟩ := ck hz
  rcases bri hz with hz | hz
  · obtain ⟨h3, hz⟩ := ck hz
    obtain ⟨q4, e5, hz⟩ := bd hz
    have ie5 : Sub L_X0_letters (L_X0_rowOf k2) := by
      unfold L_X0_letters
      exact Sub.nil
    exact (((Sm.rf.wI (lo := 110) (hi := 111) (c9 := 0) (show _ ∈ (L_X0_rowOf k2) from by simp [L_X0_rowOf]) (by decide) (by decide) (Or.inl rfl)).call (fr_X0_letters (gI (sI w 110 (ix x1) 1) (fxH (gR (sI w 110 (ix x1) 1) 3)) 2) _ (z := q4) e5) ie5 (show ∀ r ∈ R_X0_letters, r ∈ R_X0_rowOf from by decide))).tr (fr_X0_rowOf_40 k2 fu x3 (73 + 1 + ix x1) q4.1 _ (kd_el34 (by decide) (h1).2) hz)
  · cases hz
    exact Sm.rf
def L_X0_fullestOf : List (Nat × Nat × Nat) := []
def R_X0_fullestOf : List Nat := []
theorem fr_X0_fullestOf_4 {z : Int32 × GW} : ∀ (n9 : Nat), (∀ (x1 : Int32) (x2 : Int32) (x3 : Int32) (w : GW), f_X0_fullestOf_4 n9 x1 x2 x3 w = some z → Sm L_X0_fullestOf R_X0_fullestOf w z.2) := by
  intro n9
  induction n9 with
  | zero =>
    intro x1 x2 x3 w hz
    rw [f_X0_fullestOf_4] at hz
    cases hz
  | succ n9 ih =>
    intro x1 x2 x3 w hz
    rw [f_X0_fullestOf_4] at hz
    rcases bri hz with hz | hz
    · cases hz
      exact Sm.rf
    · exact (Sm.rf).tr (ih x1 (jmax x2 ((x1 >>> ((4 * x3) &&& 31)) &&& 15)) (x3 + 1) _  hz)
theorem fr_X0_fullestOf (x1 : Int32) (w : GW) {z : Int32 × GW} : f_X0_fullestOf x1 w = some z → Sm L_X0_fullestOf R_X0_fullestOf w z.2 := by
  intro  hz
  rw [f_X0_fullestOf] at hz
  exact (Sm.rf).tr (fr_X0_fullestOf_4 fu x1 0 0 _ hz)
def L_X0_emptyOf : List (Nat × Nat × Nat) := []
def R_X0_emptyOf : List Nat := []
theorem fr_X0_emptyOf_32 {z : Int32 × GW} {k_4 : Int32 → Int32 → Int32 → GW → Option (Int32 × GW)} (Hk_4 : (∀ (x1 : Int32) (x2 : Int32) (x3 : Int32) (w : GW), k_4 x1 x2 x3 w = some z → Sm L_X0_emptyOf R_X0_emptyOf w z.2)) : (∀ (x1 : Int32) (x3 : Int32) (t0 : Int32) (t1 : Int32) (w : GW), f_X0_emptyOf_32 k_4 x1 x3 t0 t1 w = some z → Sm L_X0_emptyOf R_X0_emptyOf w z.2) := by
  intro x1 x3 t0 t1 w hz
  rw [f_X0_emptyOf_32] at hz
  exact (Sm.rf).tr (Hk_4 x1 (t1 + t0) (x3 + 1) _  hz)
theorem fr_X0_emptyOf_4 {z : Int32 × GW} : ∀ (n9 : Nat), (∀ (x1 : Int32) (x2 : Int32) (x3 : Int32) (w : GW), f_X0_emptyOf_4 n9 x1 x2 x3 w = some z → Sm L_X0_emptyOf R_X0_emptyOf w z.2) := by
  intro n9
  induction n9 with
  | zero =>
    intro x1 x2 x3 w hz
    rw [f_X0_emptyOf_4] at hz
    cases hz
  | succ n9 ih =>
    intro x1 x2 x3 w hz
    rw [f_X0_emptyOf_4] at hz
    rcases bri hz with hz | hz
    · cases hz
      exact Sm.rf
    · rcases bri hz with hz | hz
      · exact (Sm.rf).tr (fr_X0_emptyOf_32 ih x1 x3 1 x2 _ hz)
      · exact (Sm.rf).tr (fr_X0_emptyOf_32 ih x1 x3 0 x2 _ hz)
theorem fr_X0_emptyOf (x1 : Int32) (w : GW) {z : Int32 × GW} : f_X0_emptyOf x1 w = some z → Sm L_X0_emptyOf R_X0_emptyOf w z.2 := by
  intro  hz
  rw [f_X0_emptyOf] at hz
  exact (Sm.rf).tr (fr_X0_emptyOf_4 fu x1 0 0 _ hz)
def L_X0_squaresOf : List (Nat × Nat × Nat) := []
def R_X0_squaresOf : List Nat := []
theorem fr_X0_squaresOf_4 {z : Int32 × GW} : ∀ (n9 : Nat), (∀ (x1 : Int32) (x2 : Int32) (x3 : Int32) (w : GW), f_X0_squaresOf_4 n9 x1 x2 x3 w = some z → Sm L_X0_squaresOf R_X0_squaresOf w z.2) := by
  intro n9
  induction n9 with
  | zero =>
    intro x1 x2 x3 w hz
    rw [f_X0_squaresOf_4] at hz
    cases hz
  | succ n9 ih =>
    intro x1 x2 x3 w hz
    rw [f_X0_squaresOf_4] at hz
    rcases bri hz with hz | hz
    · cases hz
      exact Sm.rf
    · exact (Sm.rf).tr (ih x1 (x2 + (((x1 >>> ((4 * x3) &&& 31)) &&& 15) * ((x1 >>> ((4 * x3) &&& 31)) &&& 15))) (x3 + 1) _  hz)
theorem fr_X0_squaresOf (x1 : Int32) (w : GW) {z : Int32 × GW} : f_X0_squaresOf x1 w = some z → Sm L_X0_squaresOf R_X0_squaresOf w z.2 := by
  intro  hz
  rw [f_X0_squaresOf] at hz
  exact (Sm.rf).tr (fr_X0_squaresOf_4 fu x1 0 0 _ hz)
def L_X0_worth : List (Nat × Nat × Nat) := []
def R_X0_worth : List Nat := []
theorem fr_X0_worth (x1 : Int32) (x2 : Int32) (x3 : Int32) (x4 : Int32) (w : GW) {z : Int32 × GW} : f_X0_worth x1 x2 x3 x4 w = some z → Sm L_X0_worth R_X0_worth w z.2 := by
  intro  hz
  rw [f_X0_worth] at hz
  rcases bri hz with hz | hz
  · obtain ⟨q1, e2, hz⟩ := bd hz
    have ie2 : Sub L_X0_fullestOf L_X0_worth := by
      unfold L_X0_fullestOf
      exact Sub.nil
    cases hz
    exact (Sm.rf.call (fr_X0_fullestOf x2 _ (z := q1)  e2) ie2 (show ∀ r ∈ R_X0_fullestOf, r ∈ R_X0_worth from by decide))
  rcases bri hz with hz | hz
  · obtain ⟨q3, e4, hz⟩ := bd hz
    have ie4 : Sub L_X0_emptyOf L_X0_worth := by
      unfold L_X0_emptyOf
      exact Sub.nil
    cases hz
    exact (Sm.rf.call (fr_X0_emptyOf x2 _ (z := q3)  e4) ie4 (show ∀ r ∈ R_X0_emptyOf, r ∈ R_X0_worth from by decide))
  rcases bri hz with hz | hz
  · cases hz
    exact Sm.rf
  rcases bri hz with hz | hz
  · obtain ⟨q5, e6, hz⟩ := bd hz
    have ie6 : Sub L_X0_squaresOf L_X0_worth := by
      unfold L_X0_squaresOf
      exact Sub.nil
    cases hz
    exact (Sm.rf.call (fr_X0_squaresOf x2 _ (z := q5)  e6) ie6 (show ∀ r ∈ R_X0_squaresOf, r ∈ R_X0_worth from by decide))
  rcases bri hz with hz | hz
  · obtain ⟨q7, e8, hz⟩ := bd hz
    have ie8 : Sub L_X0_fullestOf L_X0_worth := by
      unfold L_X0_fullestOf
      exact Sub.nil
    rcases bri hz with hz | hz
    · cases hz
      exact (Sm.rf.call (fr_X0_fullestOf x2 _ (z := q7)  e8) ie8 (show ∀ r ∈ R_X0_fullestOf, r ∈ R_X0_worth from by decide))
    · cases hz
      exact (Sm.rf.call (fr_X0_fullestOf x2 _ (z := q7)  e8) ie8 (show ∀ r ∈ R_X0_fullestOf, r ∈ R_X0_worth from by decide))
  rcases bri hz with hz | hz
  · obtain ⟨q9, e10, hz⟩ := bd hz
    have ie10 : Sub L_X0_emptyOf L_X0_worth := by
      unfold L_X0_emptyOf
      exact Sub.nil
    rcases bri hz with hz | hz
    · cases hz
      exact (Sm.rf.call (fr_X0_emptyOf x2 _ (z := q9)  e10) ie10 (show ∀ r ∈ R_X0_emptyOf, r ∈ R_X0_worth from by decide))
    · cases hz
      exact (Sm.rf.call (fr_X0_emptyOf x2 _ (z := q9)  e10) ie10 (show ∀ r ∈ R_X0_emptyOf, r ∈ R_X0_worth from by decide))
  rcases bri hz with hz | hz
  · rcases bri hz with hz | hz
    · cases hz
      exact Sm.rf
    · cases hz
      exact Sm.rf
  rcases bri hz with hz | hz
  · cases hz
    exact Sm.rf
  · cases hz
    exact Sm.rf
def L_X0_count (k1 : Nat) : List (Nat × Nat × Nat) := [(72, 73, 10), (72, 73, 11)]
def R_X0_count : List Nat := []
theorem fr_X0_count_91 {z : Unit × GW} (k1 : Nat) {k_25 : Nat → Int32 → Int32 → Int32 → Int32 → Int32 → GW → Option (Unit × GW)} (Hk_25 : (∀ (x3 : Int32) (x4 : Int32) (x5 : Int32) (x6 : Int32) (x7 : Int32) (w : GW), k_25 k1 x3 x4 x5 x6 x7 w = some z → Sm (L_X0_count k1) R_X0_count w z.2)) : (∀ (x3 : Int32) (x4 : Int32) (x5 : Int32) (x6 : Int32) (x7 : Int32) (w : GW), f_X0_count_91 k_25 k1 x3 x4 x5 x6 x7 w = some z → Sm (L_X0_count k1) R_X0_count w z.2) := by
  intro x3 x4 x5 x6 x7 w hz
  rw [f_X0_count_91] at hz
  exact (Sm.rf).tr (Hk_25 x3 x4 x5 x6 (x7 + 1) _  hz)
theorem fr_X0_count_25 {z : Unit × GW} (k1 : Nat) : ∀ (n9 : Nat), (∀ (x3 : Int32) (x4 : Int32) (x5 : Int32) (x6 : Int32) (x7 : Int32) (w : GW), f_X0_count_25 n9 k1 x3 x4 x5 x6 x7 w = some z → Sm (L_X0_count k1) R_X0_count w z.2) := by
  intro n9
  induction n9 with
  | zero =>
    intro x3 x4 x5 x6 x7 w hz
    rw [f_X0_count_25] at hz
    cases hz
  | succ n9 ih =>
    intro x3 x4 x5 x6 x7 w hz
    rw [f_X0_count_25] at hz
    obtain ⟨q5, e6, hz⟩ := bd hz
    have ie6 : Sub L_X0_first (L_X0_count k1) := by
      unfold L_X0_first
      exact Sub.nil
    rcases bri hz with hz | hz
    · cases hz
      exact (Sm.rf.call (fr_X0_first (x6 + 1) _ (z := q5)  e6) ie6 (show ∀ r ∈ R_X0_first, r ∈ R_X0_count from by decide))
    · obtain ⟨h7, hz⟩ := ck hz
      rcases bri hz with hz | hz
      · exact ((Sm.rf.call (fr_X0_first (x6 + 1) _ (z := q5) e6) ie6 (show ∀ r ∈ R_X0_first, r ∈ R_X0_count from by decide))).tr (fr_X0_count_91 k1 ih x3 x4 x5 x6 x7 _ hz)
      · obtain ⟨h8, hz⟩ := ck hz
        obtain ⟨h9, hz⟩ := ck hz
        obtain ⟨h10, hz⟩ := ck hz
        obtain ⟨q11, e12, hz⟩ := bd hz
        have ie12 : Sub L_X0_worth (L_X0_count k1) := by
          unfold L_X0_worth
          exact Sub.nil
        exact (((((Sm.rf.call (fr_X0_first (x6 + 1) _ (z := q5) e6) ie6 (show ∀ r ∈ R_X0_first, r ∈ R_X0_count from by decide)).wL (lo := 72) (hi := 73) (c9 := 11) (show _ ∈ (L_X0_count k1) from by simp [L_X0_count]) (by decide) (by decide) (Or.inr rfl)).call (fr_X0_worth x3 (gI (sL q5.2 72 10 ((gL q5.2 72 10) + (gL q5.2 k1 (ix x7)))) 112 (ix x7)) x4 x5 _ (z := q11) e12) ie12 (show ∀ r ∈ R_X0_worth, r ∈ R_X0_count from by decide)).wL (lo := 72) (hi := 73) (c9 := 10) (show _ ∈ (L_X0_count k1) from by simp [L_X0_count]) (by decide) (by decide) (Or.inr rfl))).tr (fr_X0_count_91 k1 ih x3 x4 x5 x6 x7 _ hz)
theorem fr_X0_count (k1 : Nat) (x2 : Int32) (x3 : Int32) (x4 : Int32) (x5 : Int32) (w : GW) {z : Unit × GW} : f_X0_count k1 x2 x3 x4 x5 w = some z → Sm (L_X0_count k1) R_X0_count w z.2 := by
  intro  hz
  rw [f_X0_count] at hz
  obtain ⟨q1, e2, hz⟩ := bd hz
  have ie2 : Sub L_X0_letters (L_X0_count k1) := by
    unfold L_X0_letters
    exact Sub.nil
  obtain ⟨q3, e4, hz⟩ := bd hz
  have ie4 : Sub L_X0_first (L_X0_count k1) := by
    unfold L_X0_first
    exact Sub.nil
  exact (((((Sm.rf.wL (lo := 72) (hi := 73) (c9 := 10) (show _ ∈ (L_X0_count k1) from by simp [L_X0_count]) (by decide) (by decide) (Or.inr rfl)).wL (lo := 72) (hi := 73) (c9 := 11) (show _ ∈ (L_X0_count k1) from by simp [L_X0_count]) (by decide) (by decide) (Or.inr rfl)).call (fr_X0_letters x2 _ (z := q1) e2) ie2 (show ∀ r ∈ R_X0_letters, r ∈ R_X0_count from by decide)).call (fr_X0_first q1.1 _ (z := q3) e4) ie4 (show ∀ r ∈ R_X0_first, r ∈ R_X0_count from by decide))).tr (fr_X0_count_25 k1 fu x3 x4 x5 q1.1 q3.1 _ hz)
def L_X0_waysToLie (k1 : Nat) : List (Nat × Nat × Nat) := []
def R_X0_waysToLie : List Nat := []
theorem fr_X0_waysToLie_45 {z : Int32 × GW} (k1 : Nat) {k_17 : Nat → Int32 → Int32 → Int32 → GW → Option (Int32 × GW)} (Hk_17 : (∀ (x3 : Int32) (x4 : Int32) (x5 : Int32) (w : GW), k_17 k1 x3 x4 x5 w = some z → Sm (L_X0_waysToLie k1) R_X0_waysToLie w z.2)) : (∀ (x4 : Int32) (x5 : Int32) (t0 : Int32) (t1 : Int32) (w : GW), f_X0_waysToLie_45 k_17 k1 x4 x5 t0 t1 w = some z → Sm (L_X0_waysToLie k1) R_X0_waysToLie w z.2) := by
  intro x4 x5 t0 t1 w hz
  rw [f_X0_waysToLie_45] at hz
  exact (Sm.rf).tr (Hk_17 (t1 + t0) x4 (x5 + 1) _  hz)
theorem fr_X0_waysToLie_17 {z : Int32 × GW} (k1 : Nat) : ∀ (n9 : Nat), (∀ (x3 : Int32) (x4 : Int32) (x5 : Int32) (w : GW), f_X0_waysToLie_17 n9 k1 x3 x4 x5 w = some z → Sm (L_X0_waysToLie k1) R_X0_waysToLie w z.2) := by
  intro n9
  induction n9 with
  | zero =>
    intro x3 x4 x5 w hz
    rw [f_X0_waysToLie_17] at hz
    cases hz
  | succ n9 ih =>
    intro x3 x4 x5 w hz
    rw [f_X0_waysToLie_17] at hz
    obtain ⟨q5, e6, hz⟩ := bd hz
    have ie6 : Sub L_X0_first (L_X0_waysToLie k1) := by
      unfold L_X0_first
      exact Sub.nil
    rcases bri hz with hz | hz
    · cases hz
      exact (Sm.rf.call (fr_X0_first (x4 + 1) _ (z := q5)  e6) ie6 (show ∀ r ∈ R_X0_first, r ∈ R_X0_waysToLie from by decide))
    · obtain ⟨h7, hz⟩ := ck hz
      rcases bri hz with hz | hz
      · exact ((Sm.rf.call (fr_X0_first (x4 + 1) _ (z := q5) e6) ie6 (show ∀ r ∈ R_X0_first, r ∈ R_X0_waysToLie from by decide))).tr (fr_X0_waysToLie_45 k1 ih x4 x5 0 x3 _ hz)
      · exact ((Sm.rf.call (fr_X0_first (x4 + 1) _ (z := q5) e6) ie6 (show ∀ r ∈ R_X0_first, r ∈ R_X0_waysToLie from by decide))).tr (fr_X0_waysToLie_45 k1 ih x4 x5 1 x3 _ hz)
theorem fr_X0_waysToLie (k1 : Nat) (x2 : Int32) (w : GW) {z : Int32 × GW} : f_X0_waysToLie k1 x2 w = some z → Sm (L_X0_waysToLie k1) R_X0_waysToLie w z.2 := by
  intro  hz
  rw [f_X0_waysToLie] at hz
  obtain ⟨q1, e2, hz⟩ := bd hz
  have ie2 : Sub L_X0_letters (L_X0_waysToLie k1) := by
    unfold L_X0_letters
    exact Sub.nil
  obtain ⟨q3, e4, hz⟩ := bd hz
  have ie4 : Sub L_X0_first (L_X0_waysToLie k1) := by
    unfold L_X0_first
    exact Sub.nil
  exact (((Sm.rf.call (fr_X0_letters x2 _ (z := q1) e2) ie2 (show ∀ r ∈ R_X0_letters, r ∈ R_X0_waysToLie from by decide)).call (fr_X0_first q1.1 _ (z := q3) e4) ie4 (show ∀ r ∈ R_X0_first, r ∈ R_X0_waysToLie from by decide))).tr (fr_X0_waysToLie_17 k1 fu 0 q1.1 q3.1 _ hz)
def L_X0_furthest (k1 : Nat) : List (Nat × Nat × Nat) := []
def R_X0_furthest : List Nat := []
theorem fr_X0_furthest_83 {z : Int32 × GW} (k1 : Nat) {k_18 : Nat → Int32 → Int32 → Int32 → Int32 → GW → Option (Int32 × GW)} (Hk_18 : (∀ (x3 : Int32) (x4 : Int32) (x5 : Int32) (x6 : Int32) (w : GW), k_18 k1 x3 x4 x5 x6 w = some z → Sm (L_X0_furthest k1) R_X0_furthest w z.2)) : (∀ (x3 : Int32) (x4 : Int32) (x5 : Int32) (x6 : Int32) (w : GW), f_X0_furthest_83 k_18 k1 x3 x4 x5 x6 w = some z → Sm (L_X0_furthest k1) R_X0_furthest w z.2) := by
  intro x3 x4 x5 x6 w hz
  rw [f_X0_furthest_83] at hz
  exact (Sm.rf).tr (Hk_18 x3 x4 x5 (x6 + 1) _  hz)
theorem fr_X0_furthest_79 {z : Int32 × GW} (k1 : Nat) {k_18 : Nat → Int32 → Int32 → Int32 → Int32 → GW → Option (Int32 × GW)} (Hk_18 : (∀ (x3 : Int32) (x4 : Int32) (x5 : Int32) (x6 : Int32) (w : GW), k_18 k1 x3 x4 x5 x6 w = some z → Sm (L_X0_furthest k1) R_X0_furthest w z.2)) : (∀ (x3 : Int32) (x5 : Int32) (x6 : Int32) (x7 : Int32) (w : GW), f_X0_furthest_79 k_18 k1 x3 x5 x6 x7 w = some z → Sm (L_X0_furthest k1) R_X0_furthest w z.2) := by
  intro x3 x5 x6 x7 w hz
  rw [f_X0_furthest_79] at hz
  exact (Sm.rf).tr (fr_X0_furthest_83 k1 Hk_18 x3 x7 x5 x6 _ hz)
theorem fr_X0_furthest_18 {z : Int32 × GW} (k1 : Nat) : ∀ (n9 : Nat), (∀ (x3 : Int32) (x4 : Int32) (x5 : Int32) (x6 : Int32) (w : GW), f_X0_furthest_18 n9 k1 x3 x4 x5 x6 w = some z → Sm (L_X0_furthest k1) R_X0_furthest w z.2) := by
  intro n9
  induction n9 with
  | zero =>
    intro x3 x4 x5 x6 w hz
    rw [f_X0_furthest_18] at hz
    cases hz
  | succ n9 ih =>
    intro x3 x4 x5 x6 w hz
    rw [f_X0_furthest_18] at hz
    obtain ⟨q5, e6, hz⟩ := bd hz
    have ie6 : Sub L_X0_first (L_X0_furthest k1) := by
      unfold L_X0_first
      exact Sub.nil
    rcases bri hz with hz | hz
    · cases hz
      exact (Sm.rf.call (fr_X0_first (x5 + 1) _ (z := q5)  e6) ie6 (show ∀ r ∈ R_X0_first, r ∈ R_X0_furthest from by decide))
    · obtain ⟨h7, hz⟩ := ck hz
      rcases bri hz with hz | hz
      · exact ((Sm.rf.call (fr_X0_first (x5 + 1) _ (z := q5) e6) ie6 (show ∀ r ∈ R_X0_first, r ∈ R_X0_furthest from by decide))).tr (fr_X0_furthest_83 k1 ih x3 x4 x5 x6 _ hz)
      · obtain ⟨h8, hz⟩ := ck hz
        obtain ⟨q9, e10, hz⟩ := bd hz
        have ie10 : Sub L_X0_fullestOf (L_X0_furthest k1) := by
          unfold L_X0_fullestOf
          exact Sub.nil
        rcases bri hz with hz | hz
        · exact (((Sm.rf.call (fr_X0_first (x5 + 1) _ (z := q5) e6) ie6 (show ∀ r ∈ R_X0_first, r ∈ R_X0_furthest from by decide)).call (fr_X0_fullestOf (gI q5.2 112 (ix x6)) _ (z := q9) e10) ie10 (show ∀ r ∈ R_X0_fullestOf, r ∈ R_X0_furthest from by decide))).tr (fr_X0_furthest_79 k1 ih x3 x5 x6 q9.1 _ hz)
        · rcases bri hz with hz | hz
          · rcases bri hz with hz | hz
            · exact (((Sm.rf.call (fr_X0_first (x5 + 1) _ (z := q5) e6) ie6 (show ∀ r ∈ R_X0_first, r ∈ R_X0_furthest from by decide)).call (fr_X0_fullestOf (gI q5.2 112 (ix x6)) _ (z := q9) e10) ie10 (show ∀ r ∈ R_X0_fullestOf, r ∈ R_X0_furthest from by decide))).tr (fr_X0_furthest_83 k1 ih x3 x4 x5 x6 _ hz)
            · exact (((Sm.rf.call (fr_X0_first (x5 + 1) _ (z := q5) e6) ie6 (show ∀ r ∈ R_X0_first, r ∈ R_X0_furthest from by decide)).call (fr_X0_fullestOf (gI q5.2 112 (ix x6)) _ (z := q9) e10) ie10 (show ∀ r ∈ R_X0_fullestOf, r ∈ R_X0_furthest from by decide))).tr (fr_X0_furthest_79 k1 ih x3 x5 x6 q9.1 _ hz)
          · rcases bri hz with hz | hz
            · exact (((Sm.rf.call (fr_X0_first (x5 + 1) _ (z := q5) e6) ie6 (show ∀ r ∈ R_X0_first, r ∈ R_X0_furthest from by decide)).call (fr_X0_fullestOf (gI q5.2 112 (ix x6)) _ (z := q9) e10) ie10 (show ∀ r ∈ R_X0_fullestOf, r ∈ R_X0_furthest from by decide))).tr (fr_X0_furthest_83 k1 ih x3 x4 x5 x6 _ hz)
            · exact (((Sm.rf.call (fr_X0_first (x5 + 1) _ (z := q5) e6) ie6 (show ∀ r ∈ R_X0_first, r ∈ R_X0_furthest from by decide)).call (fr_X0_fullestOf (gI q5.2 112 (ix x6)) _ (z := q9) e10) ie10 (show ∀ r ∈ R_X0_fullestOf, r ∈ R_X0_furthest from by decide))).tr (fr_X0_furthest_79 k1 ih x3 x5 x6 q9.1 _ hz)
theorem fr_X0_furthest (k1 : Nat) (x2 : Int32) (x3 : Int32) (w : GW) {z : Int32 × GW} : f_X0_furthest k1 x2 x3 w = some z → Sm (L_X0_furthest k1) R_X0_furthest w z.2 := by
  intro  hz
  rw [f_X0_furthest] at hz
  obtain ⟨q1, e2, hz⟩ := bd hz
  have ie2 : Sub L_X0_letters (L_X0_furthest k1) := by
    unfold L_X0_letters
    exact Sub.nil
  obtain ⟨q3, e4, hz⟩ := bd hz
  have ie4 : Sub L_X0_first (L_X0_furthest k1) := by
    unfold L_X0_first
    exact Sub.nil
  exact (((Sm.rf.call (fr_X0_letters x2 _ (z := q1) e2) ie2 (show ∀ r ∈ R_X0_letters, r ∈ R_X0_furthest from by decide)).call (fr_X0_first q1.1 _ (z := q3) e4) ie4 (show ∀ r ∈ R_X0_first, r ∈ R_X0_furthest from by decide))).tr (fr_X0_furthest_18 k1 fu x3 (-1) q1.1 q3.1 _ hz)
def L_X1_allWays : List (Nat × Nat × Nat) := []
def R_X1_allWays : List Nat := []
theorem fr_X1_allWays_4 {z : Int64 × GW} : ∀ (n9 : Nat), (∀ (x1 : Int64) (x3 : Int32) (w : GW), f_X1_allWays_4 n9 x1 x3 w = some z → Sm L_X1_allWays R_X1_allWays w z.2) := by
  intro n9
  induction n9 with
  | zero =>
    intro x1 x3 w hz
    rw [f_X1_allWays_4] at hz
    cases hz
  | succ n9 ih =>
    intro x1 x3 w hz
    rw [f_X1_allWays_4] at hz
    rcases bri hz with hz | hz
    · cases hz
      exact Sm.rf
    · obtain ⟨h1, hz⟩ := ck hz
      exact (Sm.rf).tr (ih (x1 + (gL w 71 (ix x3))) (x3 + 1) _  hz)
theorem fr_X1_allWays  (w : GW) {z : Int64 × GW} : f_X1_allWays w = some z → Sm L_X1_allWays R_X1_allWays w z.2 := by
  intro  hz
  rw [f_X1_allWays] at hz
  exact (Sm.rf).tr (fr_X1_allWays_4 fu 0 0 _ hz)
def L_X1_waysTo (k1 : Nat) : List (Nat × Nat × Nat) := []
def R_X1_waysTo : List Nat := []
theorem fr_X1_waysTo_63 {z : Int64 × GW} (k1 : Nat) {k_5 : Nat → Int32 → Int64 → Int32 → GW → Option (Int64 × GW)} (Hk_5 : (∀ (x2 : Int32) (x3 : Int64) (x5 : Int32) (w : GW), k_5 k1 x2 x3 x5 w = some z → Sm (L_X1_waysTo k1) R_X1_waysTo w z.2)) : (∀ (x2 : Int32) (x3 : Int64) (x5 : Int32) (w : GW), f_X1_waysTo_63 k_5 k1 x2 x3 x5 w = some z → Sm (L_X1_waysTo k1) R_X1_waysTo w z.2) := by
  intro x2 x3 x5 w hz
  rw [f_X1_waysTo_63] at hz
  exact (Sm.rf).tr (Hk_5 x2 x3 (x5 + 1) _  hz)
theorem fr_X1_waysTo_34 {z : Int64 × GW} (k1 : Nat) {k_5 : Nat → Int32 → Int64 → Int32 → GW → Option (Int64 × GW)} (Hk_5 : (∀ (x2 : Int32) (x3 : Int64) (x5 : Int32) (w : GW), k_5 k1 x2 x3 x5 w = some z → Sm (L_X1_waysTo k1) R_X1_waysTo w z.2)) : ∀ (n9 : Nat), (∀ (x2 : Int32) (x3 : Int64) (x5 : Int32) (x6 : Int32) (w : GW), f_X1_waysTo_34 k_5 n9 k1 x2 x3 x5 x6 w = some z → Sm (L_X1_waysTo k1) R_X1_waysTo w z.2) := by
  intro n9
  induction n9 with
  | zero =>
    intro x2 x3 x5 x6 w hz
    rw [f_X1_waysTo_34] at hz
    cases hz
  | succ n9 ih =>
    intro x2 x3 x5 x6 w hz
    rw [f_X1_waysTo_34] at hz
    rcases bri hz with hz | hz
    · exact (Sm.rf).tr (fr_X1_waysTo_63 k1 Hk_5 x2 x3 x5 _ hz)
    · obtain ⟨h3, hz⟩ := ck hz
      exact (Sm.rf).tr (ih x2 (x3 + (gL w 71 (ix ((x5 * 6) + x6)))) x5 (x6 + 1) _  hz)
theorem fr_X1_waysTo_5 {z : Int64 × GW} (k1 : Nat) : ∀ (n9 : Nat), (∀ (x2 : Int32) (x3 : Int64) (x5 : Int32) (w : GW), f_X1_waysTo_5 n9 k1 x2 x3 x5 w = some z → Sm (L_X1_waysTo k1) R_X1_waysTo w z.2) := by
  intro n9
  induction n9 with
  | zero =>
    intro x2 x3 x5 w hz
    rw [f_X1_waysTo_5] at hz
    cases hz
  | succ n9 ih =>
    intro x2 x3 x5 w hz
    rw [f_X1_waysTo_5] at hz
    rcases bri hz with hz | hz
    · cases hz
      exact Sm.rf
    · obtain ⟨q1, e2, hz⟩ := bd hz
      have ie2 : Sub (L_X3_roomFrom (fxH (gR w 4)) k1) (L_X1_waysTo k1) := by
        unfold L_X3_roomFrom
        exact Sub.nil
      rcases bri hz with hz | hz
      · exact ((Sm.rf.call (fr_X3_roomFrom (fxH (gR w 4)) k1 x5 _ (z := q1) e2) ie2 (show ∀ r ∈ R_X3_roomFrom, r ∈ R_X1_waysTo from by decide))).tr (fr_X1_waysTo_34 k1 ih fu x2 x3 x5 0 _ hz)
      · exact ((Sm.rf.call (fr_X3_roomFrom (fxH (gR w 4)) k1 x5 _ (z := q1) e2) ie2 (show ∀ r ∈ R_X3_roomFrom, r ∈ R_X1_waysTo from by decide))).tr (fr_X1_waysTo_63 k1 ih x2 x3 x5 _ hz)
theorem fr_X1_waysTo (k1 : Nat) (x2 : Int32) (w : GW) {z : Int64 × GW} : f_X1_waysTo k1 x2 w = some z → Sm (L_X1_waysTo k1) R_X1_waysTo w z.2 := by
  intro  hz
  rw [f_X1_waysTo] at hz
  exact (Sm.rf).tr (fr_X1_waysTo_5 k1 fu x2 0 0 _ hz)
def L_X1_slotBehind (k1 : Nat) : List (Nat × Nat × Nat) := []
def R_X1_slotBehind : List Nat := []
theorem fr_X1_slotBehind_80 {z : Int32 × GW} (k1 : Nat) {k_5 : Nat → Int32 → Int32 → Int32 → GW → Option (Int32 × GW)} (Hk_5 : (∀ (x2 : Int32) (x3 : Int32) (x4 : Int32) (w : GW), k_5 k1 x2 x3 x4 w = some z → Sm (L_X1_slotBehind k1) R_X1_slotBehind w z.2)) : (∀ (x2 : Int32) (x3 : Int32) (x4 : Int32) (w : GW), f_X1_slotBehind_80 k_5 k1 x2 x3 x4 w = some z → Sm (L_X1_slotBehind k1) R_X1_slotBehind w z.2) := by
  intro x2 x3 x4 w hz
  rw [f_X1_slotBehind_80] at hz
  exact (Sm.rf).tr (Hk_5 x2 x3 (x4 + 1) _  hz)
theorem fr_X1_slotBehind_74 {z : Int32 × GW} (k1 : Nat) {k_5 : Nat → Int32 → Int32 → Int32 → GW → Option (Int32 × GW)} (Hk_5 : (∀ (x2 : Int32) (x3 : Int32) (x4 : Int32) (w : GW), k_5 k1 x2 x3 x4 w = some z → Sm (L_X1_slotBehind k1) R_X1_slotBehind w z.2)) {k_34 : Nat → Int32 → Int32 → Int32 → Int32 → GW → Option (Int32 × GW)} (Hk_34 : (∀ (x2 : Int32) (x3 : Int32) (x4 : Int32) (x5 : Int32) (w : GW), k_34 k1 x2 x3 x4 x5 w = some z → Sm (L_X1_slotBehind k1) R_X1_slotBehind w z.2)) : (∀ (x2 : Int32) (x3 : Int32) (x4 : Int32) (x5 : Int32) (w : GW), f_X1_slotBehind_74 k_5 k_34 k1 x2 x3 x4 x5 w = some z → Sm (L_X1_slotBehind k1) R_X1_slotBehind w z.2) := by
  intro x2 x3 x4 x5 w hz
  rw [f_X1_slotBehind_74] at hz
  exact (Sm.rf).tr (Hk_34 x2 x3 x4 (x5 + 1) _  hz)
theorem fr_X1_slotBehind_71 {z : Int32 × GW} (k1 : Nat) {k_5 : Nat → Int32 → Int32 → Int32 → GW → Option (Int32 × GW)} (Hk_5 : (∀ (x2 : Int32) (x3 : Int32) (x4 : Int32) (w : GW), k_5 k1 x2 x3 x4 w = some z → Sm (L_X1_slotBehind k1) R_X1_slotBehind w z.2)) {k_34 : Nat → Int32 → Int32 → Int32 → Int32 → GW → Option (Int32 × GW)} (Hk_34 : (∀ (x2 : Int32) (x3 : Int32) (x4 : Int32) (x5 : Int32) (w : GW), k_34 k1 x2 x3 x4 x5 w = some z → Sm (L_X1_slotBehind k1) R_X1_slotBehind w z.2)) : (∀ (x2 : Int32) (x4 : Int32) (x5 : Int32) (w : GW), f_X1_slotBehind_71 k_5 k_34 k1 x2 x4 x5 w = some z → Sm (L_X1_slotBehind k1) R_X1_slotBehind w z.2) := by
  intro x2 x4 x5 w hz
  rw [f_X1_slotBehind_71] at hz
  exact (Sm.rf).tr (fr_X1_slotBehind_74 k1 Hk_5 Hk_34 x2 x5 x4 x5 _ hz)
theorem fr_X1_slotBehind_34 {z : Int32 × GW} (k1 : Nat) {k_5 : Nat → Int32 → Int32 → Int32 → GW → Option (Int32 × GW)} (Hk_5 : (∀ (x2 : Int32) (x3 : Int32) (x4 : Int32) (w : GW), k_5 k1 x2 x3 x4 w = some z → Sm (L_X1_slotBehind k1) R_X1_slotBehind w z.2)) : ∀ (n9 : Nat), (∀ (x2 : Int32) (x3 : Int32) (x4 : Int32) (x5 : Int32) (w : GW), f_X1_slotBehind_34 k_5 n9 k1 x2 x3 x4 x5 w = some z → Sm (L_X1_slotBehind k1) R_X1_slotBehind w z.2) := by
  intro n9
  induction n9 with
  | zero =>
    intro x2 x3 x4 x5 w hz
    rw [f_X1_slotBehind_34] at hz
    cases hz
  | succ n9 ih =>
    intro x2 x3 x4 x5 w hz
    rw [f_X1_slotBehind_34] at hz
    rcases bri hz with hz | hz
    · exact (Sm.rf).tr (fr_X1_slotBehind_80 k1 Hk_5 x2 x3 x4 _ hz)
    · obtain ⟨h3, hz⟩ := ck hz
      rcases bri hz with hz | hz
      · exact (Sm.rf).tr (fr_X1_slotBehind_74 k1 Hk_5 ih x2 x3 x4 x5 _ hz)
      · rcases bri hz with hz | hz
        · exact (Sm.rf).tr (fr_X1_slotBehind_71 k1 Hk_5 ih x2 x4 x5 _ hz)
        · rcases bri hz with hz | hz
          · exact (Sm.rf).tr (fr_X1_slotBehind_71 k1 Hk_5 ih x2 x4 x5 _ hz)
          · cases hz
            exact Sm.rf
theorem fr_X1_slotBehind_5 {z : Int32 × GW} (k1 : Nat) : ∀ (n9 : Nat), (∀ (x2 : Int32) (x3 : Int32) (x4 : Int32) (w : GW), f_X1_slotBehind_5 n9 k1 x2 x3 x4 w = some z → Sm (L_X1_slotBehind k1) R_X1_slotBehind w z.2) := by
  intro n9
  induction n9 with
  | zero =>
    intro x2 x3 x4 w hz
    rw [f_X1_slotBehind_5] at hz
    cases hz
  | succ n9 ih =>
    intro x2 x3 x4 w hz
    rw [f_X1_slotBehind_5] at hz
    rcases bri hz with hz | hz
    · cases hz
      exact Sm.rf
    · obtain ⟨q1, e2, hz⟩ := bd hz
      have ie2 : Sub (L_X3_roomFrom (fxH (gR w 4)) k1) (L_X1_slotBehind k1) := by
        unfold L_X3_roomFrom
        exact Sub.nil
      rcases bri hz with hz | hz
      · exact ((Sm.rf.call (fr_X3_roomFrom (fxH (gR w 4)) k1 x4 _ (z := q1) e2) ie2 (show ∀ r ∈ R_X3_roomFrom, r ∈ R_X1_slotBehind from by decide))).tr (fr_X1_slotBehind_34 k1 ih fu x2 x3 x4 0 _ hz)
      · exact ((Sm.rf.call (fr_X3_roomFrom (fxH (gR w 4)) k1 x4 _ (z := q1) e2) ie2 (show ∀ r ∈ R_X3_roomFrom, r ∈ R_X1_slotBehind from by decide))).tr (fr_X1_slotBehind_80 k1 ih x2 x3 x4 _ hz)
theorem fr_X1_slotBehind (k1 : Nat) (x2 : Int32) (w : GW) {z : Int32 × GW} : f_X1_slotBehind k1 x2 w = some z → Sm (L_X1_slotBehind k1) R_X1_slotBehind w z.2 := by
  intro  hz
  rw [f_X1_slotBehind] at hz
  exact (Sm.rf).tr (fr_X1_slotBehind_5 k1 fu x2 (-1) 0 _ hz)
def L_X2_land (k0 : Nat) (k1 : Nat) : List (Nat × Nat × Nat) := [((k0 + 1), (k0 + 2), 0), (k0, (k0 + 1), 3), (k0, (k0 + 1), 4), (k0, (k0 + 1), 5)]
def R_X2_land : List Nat := []
theorem fr_X2_land_40 {z : Unit × GW} (k0 : Nat) (k1 : Nat) : (∀ (x3 : Int32) (w : GW), f_X2_land_40 k0 k1 x3 w = some z → Sm (L_X2_land k0 k1) R_X2_land w z.2) := by
  intro x3 w hz
  rw [f_X2_land_40] at hz
  obtain ⟨q5, e6, hz⟩ := bd hz
  have ie6 : Sub (L_X3_move k1 (k0 + 1)) (L_X2_land k0 k1) := by
    unfold L_X3_move
    exact (Sub.cons (lo2 := (k0 + 1)) (hi2 := (k0 + 2)) (c2 := 0) (show _ ∈ (L_X2_land k0 k1) from by simp [L_X2_land]) (by omega) (by omega) (Or.inl rfl) Sub.nil)
  cases hz
  exact (((Sm.rf.wI (lo := k0) (hi := (k0 + 1)) (c9 := 3) (show _ ∈ (L_X2_land k0 k1) from by simp [L_X2_land]) (Nat.le_refl _) (Nat.lt_succ_self _) (Or.inr rfl)).wI (lo := k0) (hi := (k0 + 1)) (c9 := 5) (show _ ∈ (L_X2_land k0 k1) from by simp [L_X2_land]) (Nat.le_refl _) (Nat.lt_succ_self _) (Or.inr rfl)).call (fr_X3_move k1 (k0 + 1) (gI (sI (sI w k0 2 ((gI w k0 2) + 1)) k0 4 x3) k0 2) _ (z := q5)  e6) ie6 (show ∀ r ∈ R_X3_move, r ∈ R_X2_land from by decide))
theorem fr_X2_land (k0 : Nat) (k1 : Nat) (x2 : Int32) (x3 : Int32) (w : GW) {z : Unit × GW} : f_X2_land k0 k1 x2 x3 w = some z → Sm (L_X2_land k0 k1) R_X2_land w z.2 := by
  intro  hz
  rw [f_X2_land] at hz
  obtain ⟨q1, e2, hz⟩ := bd hz
  have ie2 : Sub (L_X3_roomFrom k1 (k0 + 1)) (L_X2_land k0 k1) := by
    unfold L_X3_roomFrom
    exact Sub.nil
  rcases bri hz with hz | hz
  · obtain ⟨h3, hz⟩ := ck hz
    obtain ⟨h4, hz⟩ := ck hz
    exact (((Sm.rf.call (fr_X3_roomFrom k1 (k0 + 1) x2 _ (z := q1) e2) ie2 (show ∀ r ∈ R_X3_roomFrom, r ∈ R_X2_land from by decide)).wI (lo := (k0 + 1)) (hi := (k0 + 2)) (c9 := 0) (show _ ∈ (L_X2_land k0 k1) from by simp [L_X2_land]) (Nat.le_refl _) (by omega) (Or.inl rfl))).tr (fr_X2_land_40 k0 k1 x3 _ hz)
  · exact (((Sm.rf.call (fr_X3_roomFrom k1 (k0 + 1) x2 _ (z := q1) e2) ie2 (show ∀ r ∈ R_X3_roomFrom, r ∈ R_X2_land from by decide)).wI (lo := k0) (hi := (k0 + 1)) (c9 := 4) (show _ ∈ (L_X2_land k0 k1) from by simp [L_X2_land]) (Nat.le_refl _) (Nat.lt_succ_self _) (Or.inr rfl))).tr (fr_X2_land_40 k0 k1 x3 _ hz)
def L_X2_draw (k0 : Nat) : List (Nat × Nat × Nat) := [(k0, (k0 + 1), 2)]
def R_X2_draw : List Nat := []
theorem fr_X2_draw (k0 : Nat) (w : GW) {z : Int32 × GW} : f_X2_draw k0 w = some z → Sm (L_X2_draw k0) R_X2_draw w z.2 := by
  intro  hz
  rw [f_X2_draw] at hz
  cases hz
  exact (Sm.rf.wI (lo := k0) (hi := (k0 + 1)) (c9 := 2) (show _ ∈ (L_X2_draw k0) from by simp [L_X2_draw]) (Nat.le_refl _) (Nat.lt_succ_self _) (Or.inr rfl))
def L_X1_glance (k1 : Nat) : List (Nat × Nat × Nat) := [(k1, (k1 + 1), 2)]
def R_X1_glance : List Nat := []
theorem fr_X1_glance_29 {z : Int32 × GW} (k1 : Nat) : ∀ (n9 : Nat), (∀ (x2 : Int32) (x3 : Int32) (w : GW), f_X1_glance_29 n9 x2 x3 w = some z → Sm (L_X1_glance k1) R_X1_glance w z.2) := by
  intro n9
  induction n9 with
  | zero =>
    intro x2 x3 w hz
    rw [f_X1_glance_29] at hz
    cases hz
  | succ n9 ih =>
    intro x2 x3 w hz
    rw [f_X1_glance_29] at hz
    rcases bri hz with hz | hz
    · cases hz
      exact Sm.rf
    · obtain ⟨h1, hz⟩ := ck hz
      rcases bri hz with hz | hz
      · cases hz
        exact Sm.rf
      · obtain ⟨h2, hz⟩ := ck hz
        exact (Sm.rf).tr (ih (x2 - (gI w ((fxH (gR w 4)) + 2) (ix x3))) (x3 + 1) _  hz)
theorem fr_X1_glance_26 {z : Int32 × GW} (k1 : Nat) : (∀ (t0 : Int32) (w : GW), f_X1_glance_26 t0 w = some z → Sm (L_X1_glance k1) R_X1_glance w z.2) := by
  intro t0 w hz
  rw [f_X1_glance_26] at hz
  exact (Sm.rf).tr (fr_X1_glance_29 k1 fu t0 0 _ hz)
theorem fr_X1_glance (k1 : Nat) (w : GW) {z : Int32 × GW} : f_X1_glance k1 w = some z → Sm (L_X1_glance k1) R_X1_glance w z.2 := by
  intro  hz
  rw [f_X1_glance] at hz
  rcases bri hz with hz | hz
  · exact (Sm.rf).tr (fr_X1_glance_26 k1 0 _ hz)
  · obtain ⟨q3, e4, hz⟩ := bd hz
    have ie4 : Sub (L_X2_draw k1) (L_X1_glance k1) := by
      unfold L_X2_draw
      exact (Sub.cons (lo2 := k1) (hi2 := (k1 + 1)) (c2 := 2) (show _ ∈ (L_X1_glance k1) from by simp [L_X1_glance]) (by omega) (by omega) (Or.inr rfl) Sub.nil)
    obtain ⟨-, hz⟩ := ck hz
    exact ((Sm.rf.call (fr_X2_draw k1 _ (z := q3) e4) ie4 (show ∀ r ∈ R_X2_draw, r ∈ R_X1_glance from by decide))).tr (fr_X1_glance_26 k1 (irm q3.1 (gI q3.2 (fxH (gR q3.2 4)) 4)) _ hz)
def L_X1_byLot (k1 : Nat) : List (Nat × Nat × Nat) := [(k1, (k1 + 1), 2)]
def R_X1_byLot : List Nat := []
theorem fr_X1_byLot_147 {z : Int32 × GW} (k1 : Nat) {k_97 : Nat → Int32 → Int32 → Int32 → GW → Option (Int32 × GW)} (Hk_97 : (∀ (x2 : Int32) (x4 : Int32) (x5 : Int32) (w : GW), k_97 k1 x2 x4 x5 w = some z → Sm (L_X1_byLot k1) R_X1_byLot w z.2)) : (∀ (x2 : Int32) (x4 : Int32) (x5 : Int32) (w : GW), f_X1_byLot_147 k_97 k1 x2 x4 x5 w = some z → Sm (L_X1_byLot k1) R_X1_byLot w z.2) := by
  intro x2 x4 x5 w hz
  rw [f_X1_byLot_147] at hz
  exact (Sm.rf).tr (Hk_97 x2 x4 (x5 + 1) _  hz)
theorem fr_X1_byLot_97 {z : Int32 × GW} (k1 : Nat) : ∀ (n9 : Nat), (∀ (x2 : Int32) (x4 : Int32) (x5 : Int32) (w : GW), f_X1_byLot_97 n9 k1 x2 x4 x5 w = some z → Sm (L_X1_byLot k1) R_X1_byLot w z.2) := by
  intro n9
  induction n9 with
  | zero =>
    intro x2 x4 x5 w hz
    rw [f_X1_byLot_97] at hz
    cases hz
  | succ n9 ih =>
    intro x2 x4 x5 w hz
    rw [f_X1_byLot_97] at hz
    rcases bri hz with hz | hz
    · cases hz
      exact Sm.rf
    · rcases bri hz with hz | hz
      · cases hz
        exact Sm.rf
      · obtain ⟨h1, hz⟩ := ck hz
        obtain ⟨h2, hz⟩ := ck hz
        rcases bri hz with hz | hz
        · rcases bri hz with hz | hz
          · obtain ⟨h3, hz⟩ := ck hz
            cases hz
            exact Sm.rf
          · exact (Sm.rf).tr (fr_X1_byLot_147 k1 ih x2 (x4 + (-1)) x5 _ hz)
        · exact (Sm.rf).tr (fr_X1_byLot_147 k1 ih x2 x4 x5 _ hz)
theorem fr_X1_byLot_92 {z : Int32 × GW} (k1 : Nat) : (∀ (x2 : Int32) (t0 : Int32) (w : GW), f_X1_byLot_92 k1 x2 t0 w = some z → Sm (L_X1_byLot k1) R_X1_byLot w z.2) := by
  intro x2 t0 w hz
  rw [f_X1_byLot_92] at hz
  exact (Sm.rf).tr (fr_X1_byLot_97 k1 fu x2 t0 0 _ hz)
theorem fr_X1_byLot_77 {z : Int32 × GW} (k1 : Nat) : (∀ (x2 : Int32) (x3 : Int32) (w : GW), f_X1_byLot_77 k1 x2 x3 w = some z → Sm (L_X1_byLot k1) R_X1_byLot w z.2) := by
  intro x2 x3 w hz
  rw [f_X1_byLot_77] at hz
  rcases bri hz with hz | hz
  · exact (Sm.rf).tr (fr_X1_byLot_92 k1 x2 0 _ hz)
  · obtain ⟨q4, e5, hz⟩ := bd hz
    have ie5 : Sub (L_X2_draw k1) (L_X1_byLot k1) := by
      unfold L_X2_draw
      exact (Sub.cons (lo2 := k1) (hi2 := (k1 + 1)) (c2 := 2) (show _ ∈ (L_X1_byLot k1) from by simp [L_X1_byLot]) (by omega) (by omega) (Or.inr rfl) Sub.nil)
    obtain ⟨-, hz⟩ := ck hz
    exact ((Sm.rf.call (fr_X2_draw k1 _ (z := q4) e5) ie5 (show ∀ r ∈ R_X2_draw, r ∈ R_X1_byLot from by decide))).tr (fr_X1_byLot_92 k1 x2 (irm q4.1 x3) _ hz)
theorem fr_X1_byLot_63 {z : Int32 × GW} (k1 : Nat) {k_8 : Nat → Int32 → Int32 → Int32 → GW → Option (Int32 × GW)} (Hk_8 : (∀ (x2 : Int32) (x3 : Int32) (x4 : Int32) (w : GW), k_8 k1 x2 x3 x4 w = some z → Sm (L_X1_byLot k1) R_X1_byLot w z.2)) : (∀ (x2 : Int32) (x4 : Int32) (x5 : Int32) (t0 : Int32) (w : GW), f_X1_byLot_63 k_8 k1 x2 x4 x5 t0 w = some z → Sm (L_X1_byLot k1) R_X1_byLot w z.2) := by
  intro x2 x4 x5 t0 w hz
  rw [f_X1_byLot_63] at hz
  exact (Sm.rf).tr (Hk_8 (jmin x2 x5) t0 (x4 + 1) _  hz)
theorem fr_X1_byLot_8 {z : Int32 × GW} (k1 : Nat) : ∀ (n9 : Nat), (∀ (x2 : Int32) (x3 : Int32) (x4 : Int32) (w : GW), f_X1_byLot_8 n9 k1 x2 x3 x4 w = some z → Sm (L_X1_byLot k1) R_X1_byLot w z.2) := by
  intro n9
  induction n9 with
  | zero =>
    intro x2 x3 x4 w hz
    rw [f_X1_byLot_8] at hz
    cases hz
  | succ n9 ih =>
    intro x2 x3 x4 w hz
    rw [f_X1_byLot_8] at hz
    rcases bri hz with hz | hz
    · exact (Sm.rf).tr (fr_X1_byLot_77 k1 x2 x3 _ hz)
    · rcases bri hz with hz | hz
      · exact (Sm.rf).tr (fr_X1_byLot_77 k1 x2 x3 _ hz)
      · obtain ⟨h6, hz⟩ := ck hz
        obtain ⟨h7, hz⟩ := ck hz
        rcases bri hz with hz | hz
        · rcases bri hz with hz | hz
          · exact (Sm.rf).tr (fr_X1_byLot_63 k1 ih x2 x4 (gI w (k1 + 1) (ix (gI w 70 (ix x4)))) (x3 + 1) _ hz)
          · exact (Sm.rf).tr (fr_X1_byLot_63 k1 ih x2 x4 (gI w (k1 + 1) (ix (gI w 70 (ix x4)))) x3 _ hz)
        · exact (Sm.rf).tr (fr_X1_byLot_63 k1 ih x2 x4 (gI w (k1 + 1) (ix (gI w 70 (ix x4)))) 1 _ hz)
theorem fr_X1_byLot (k1 : Nat) (w : GW) {z : Int32 × GW} : f_X1_byLot k1 w = some z → Sm (L_X1_byLot k1) R_X1_byLot w z.2 := by
  intro  hz
  rw [f_X1_byLot] at hz
  exact (Sm.rf).tr (fr_X1_byLot_8 k1 fu 9 0 0 _ hz)
def L_X1_firstNotFuller (k1 : Nat) : List (Nat × Nat × Nat) := []
def R_X1_firstNotFuller : List Nat := []
theorem fr_X1_firstNotFuller_4 {z : Int32 × GW} (k1 : Nat) : ∀ (n9 : Nat), (∀ (x2 : Int32) (x3 : Int32) (w : GW), f_X1_firstNotFuller_4 n9 k1 x2 x3 w = some z → Sm (L_X1_firstNotFuller k1) R_X1_firstNotFuller w z.2) := by
  intro n9
  induction n9 with
  | zero =>
    intro x2 x3 w hz
    rw [f_X1_firstNotFuller_4] at hz
    cases hz
  | succ n9 ih =>
    intro x2 x3 w hz
    rw [f_X1_firstNotFuller_4] at hz
    rcases bri hz with hz | hz
    · cases hz
      exact Sm.rf
    · rcases bri hz with hz | hz
      · cases hz
        exact Sm.rf
      · obtain ⟨h1, hz⟩ := ck hz
        obtain ⟨h2, hz⟩ := ck hz
        rcases bri hz with hz | hz
        · exact (Sm.rf).tr (ih (gI w 70 (ix x3)) (x3 + 1) _  hz)
        · cases hz
          exact Sm.rf
theorem fr_X1_firstNotFuller (k1 : Nat) (w : GW) {z : Int32 × GW} : f_X1_firstNotFuller k1 w = some z → Sm (L_X1_firstNotFuller k1) R_X1_firstNotFuller w z.2 := by
  intro  hz
  rw [f_X1_firstNotFuller] at hz
  exact (Sm.rf).tr (fr_X1_firstNotFuller_4 k1 fu (-1) 0 _ hz)
def L_X1_putByDraws (k1 : Nat) : List (Nat × Nat × Nat) := [((k1 + 1), (k1 + 2), 0), (70, 71, 0), (k1, (k1 + 1), 2), (k1, (k1 + 1), 3), (k1, (k1 + 1), 4), (k1, (k1 + 1), 5)]
def R_X1_putByDraws : List Nat := []
theorem fr_X1_putByDraws_193 {z : Unit × GW} (k1 : Nat) : (∀ (x4 : Int32) (t0 : Int32) (w : GW), f_X1_putByDraws_193 k1 x4 t0 w = some z → Sm (L_X1_putByDraws k1) R_X1_putByDraws w z.2) := by
  intro x4 t0 w hz
  rw [f_X1_putByDraws_193] at hz
  obtain ⟨q9, e10, hz⟩ := bd hz
  have ie10 : Sub (L_X2_land k1 (fxH (gR w 4))) (L_X1_putByDraws k1) := by
    unfold L_X2_land
    exact (Sub.cons (lo2 := (k1 + 1)) (hi2 := (k1 + 2)) (c2 := 0) (show _ ∈ (L_X1_putByDraws k1) from by simp [L_X1_putByDraws]) (by omega) (by omega) (Or.inl rfl) (Sub.cons (lo2 := k1) (hi2 := (k1 + 1)) (c2 := 3) (show _ ∈ (L_X1_putByDraws k1) from by simp [L_X1_putByDraws]) (by omega) (by omega) (Or.inr rfl) (Sub.cons (lo2 := k1) (hi2 := (k1 + 1)) (c2 := 4) (show _ ∈ (L_X1_putByDraws k1) from by simp [L_X1_putByDraws]) (by omega) (by omega) (Or.inr rfl) (Sub.cons (lo2 := k1) (hi2 := (k1 + 1)) (c2 := 5) (show _ ∈ (L_X1_putByDraws k1) from by simp [L_X1_putByDraws]) (by omega) (by omega) (Or.inr rfl) Sub.nil))))
  cases hz
  exact (Sm.rf.call (fr_X2_land k1 (fxH (gR w 4)) x4 t0 _ (z := q9)  e10) ie10 (show ∀ r ∈ R_X2_land, r ∈ R_X1_putByDraws from by decide))
theorem fr_X1_putByDraws_150 {z : Unit × GW} (k1 : Nat) : (∀ (x3 : Int32) (x4 : Int32) (w : GW), f_X1_putByDraws_150 k1 x3 x4 w = some z → Sm (L_X1_putByDraws k1) R_X1_putByDraws w z.2) := by
  intro x3 x4 w hz
  rw [f_X1_putByDraws_150] at hz
  obtain ⟨q7, e8, hz⟩ := bd hz
  have ie8 : Sub (L_X3_roomFrom (fxH (gR w 4)) (k1 + 1)) (L_X1_putByDraws k1) := by
    unfold L_X3_roomFrom
    exact Sub.nil
  rcases bri hz with hz | hz
  · obtain ⟨q11, e12, hz⟩ := bd hz
    have ie12 : Sub (L_X1_emptiest (k1 + 1)) (L_X1_putByDraws k1) := by
      unfold L_X1_emptiest
      exact Sub.nil
    exact (((Sm.rf.call (fr_X3_roomFrom (fxH (gR w 4)) (k1 + 1) x4 _ (z := q7) e8) ie8 (show ∀ r ∈ R_X3_roomFrom, r ∈ R_X1_putByDraws from by decide)).call (fr_X1_emptiest (k1 + 1) x3 q7.1 _ (z := q11) e12) ie12 (show ∀ r ∈ R_X1_emptiest, r ∈ R_X1_putByDraws from by decide))).tr (fr_X1_putByDraws_193 k1 x4 (q11.1 + 1) _ hz)
  · exact ((Sm.rf.call (fr_X3_roomFrom (fxH (gR w 4)) (k1 + 1) x4 _ (z := q7) e8) ie8 (show ∀ r ∈ R_X3_roomFrom, r ∈ R_X1_putByDraws from by decide))).tr (fr_X1_putByDraws_193 k1 x4 0 _ hz)
theorem fr_X1_putByDraws_84 {z : Unit × GW} (k1 : Nat) : (∀ (x2 : Int32) (w : GW), f_X1_putByDraws_84 k1 x2 w = some z → Sm (L_X1_putByDraws k1) R_X1_putByDraws w z.2) := by
  intro x2 w hz
  rw [f_X1_putByDraws_84] at hz
  obtain ⟨q3, e4, hz⟩ := bd hz
  have ie4 : Sub L_X1_lookedAt (L_X1_putByDraws k1) := by
    unfold L_X1_lookedAt
    exact Sub.nil
  rcases bri hz with hz | hz
  · obtain ⟨q15, e16, hz⟩ := bd hz
    have ie16 : Sub (L_X1_byLot k1) (L_X1_putByDraws k1) := by
      unfold L_X1_byLot
      exact (Sub.cons (lo2 := k1) (hi2 := (k1 + 1)) (c2 := 2) (show _ ∈ (L_X1_putByDraws k1) from by simp [L_X1_putByDraws]) (by omega) (by omega) (Or.inr rfl) Sub.nil)
    exact (((Sm.rf.call (fr_X1_lookedAt x2 (gI w k1 4) _ (z := q3) e4) ie4 (show ∀ r ∈ R_X1_lookedAt, r ∈ R_X1_putByDraws from by decide)).call (fr_X1_byLot k1 _ (z := q15) e16) ie16 (show ∀ r ∈ R_X1_byLot, r ∈ R_X1_putByDraws from by decide))).tr (fr_X1_putByDraws_150 k1 q3.1 q15.1 _ hz)
  · rcases bri hz with hz | hz
    · obtain ⟨q13, e14, hz⟩ := bd hz
      have ie14 : Sub (L_X1_firstNotFuller (k1 + 1)) (L_X1_putByDraws k1) := by
        unfold L_X1_firstNotFuller
        exact Sub.nil
      exact (((Sm.rf.call (fr_X1_lookedAt x2 (gI w k1 4) _ (z := q3) e4) ie4 (show ∀ r ∈ R_X1_lookedAt, r ∈ R_X1_putByDraws from by decide)).call (fr_X1_firstNotFuller (k1 + 1) _ (z := q13) e14) ie14 (show ∀ r ∈ R_X1_firstNotFuller, r ∈ R_X1_putByDraws from by decide))).tr (fr_X1_putByDraws_150 k1 q3.1 q13.1 _ hz)
    · obtain ⟨q5, e6, hz⟩ := bd hz
      have ie6 : Sub (L_X1_emptiest (k1 + 1)) (L_X1_putByDraws k1) := by
        unfold L_X1_emptiest
        exact Sub.nil
      exact (((Sm.rf.call (fr_X1_lookedAt x2 (gI w k1 4) _ (z := q3) e4) ie4 (show ∀ r ∈ R_X1_lookedAt, r ∈ R_X1_putByDraws from by decide)).call (fr_X1_emptiest (k1 + 1) q3.1 (-1) _ (z := q5) e6) ie6 (show ∀ r ∈ R_X1_emptiest, r ∈ R_X1_putByDraws from by decide))).tr (fr_X1_putByDraws_150 k1 q3.1 q5.1 _ hz)
theorem fr_X1_putByDraws_40 {z : Unit × GW} (k1 : Nat) : ∀ (n9 : Nat), (∀ (x2 : Int32) (x3 : Int32) (w : GW), f_X1_putByDraws_40 n9 k1 x2 x3 w = some z → Sm (L_X1_putByDraws k1) R_X1_putByDraws w z.2) := by
  intro n9
  induction n9 with
  | zero =>
    intro x2 x3 w hz
    rw [f_X1_putByDraws_40] at hz
    cases hz
  | succ n9 ih =>
    intro x2 x3 w hz
    rw [f_X1_putByDraws_40] at hz
    rcases bri hz with hz | hz
    · exact (Sm.rf).tr (fr_X1_putByDraws_84 k1 x2 _ hz)
    · rcases bri hz with hz | hz
      · exact (Sm.rf).tr (fr_X1_putByDraws_84 k1 x2 _ hz)
      · obtain ⟨q17, e18, hz⟩ := bd hz
        have ie18 : Sub (L_X1_glance k1) (L_X1_putByDraws k1) := by
          unfold L_X1_glance
          exact (Sub.cons (lo2 := k1) (hi2 := (k1 + 1)) (c2 := 2) (show _ ∈ (L_X1_putByDraws k1) from by simp [L_X1_putByDraws]) (by omega) (by omega) (Or.inr rfl) Sub.nil)
        obtain ⟨h19, hz⟩ := ck hz
        obtain ⟨h20, hz⟩ := ck hz
        exact (((Sm.rf.call (fr_X1_glance k1 _ (z := q17)  e18) ie18 (show ∀ r ∈ R_X1_glance, r ∈ R_X1_putByDraws from by decide)).wI (lo := 70) (hi := 71) (c9 := 0) (show _ ∈ (L_X1_putByDraws k1) from by simp [L_X1_putByDraws]) (by decide) (by decide) (Or.inl rfl))).tr (ih (x2 ||| ((1 : Int32) <<< ((gI (sI q17.2 70 (ix x3) q17.1) 70 (ix x3)) &&& 31))) (x3 + 1) _  hz)
theorem fr_X1_putByDraws (k1 : Nat) (w : GW) {z : Unit × GW} : f_X1_putByDraws k1 w = some z → Sm (L_X1_putByDraws k1) R_X1_putByDraws w z.2 := by
  intro  hz
  rw [f_X1_putByDraws] at hz
  obtain ⟨q1, e2, hz⟩ := bd hz
  have ie2 : Sub (L_X3_isDoors (fxH (gR w 4))) (L_X1_putByDraws k1) := by
    unfold L_X3_isDoors
    exact Sub.nil
  rcases bri hz with hz | hz
  · exact ((Sm.rf.call (fr_X3_isDoors (fxH (gR w 4)) ((gI w k1 2) + 1) _ (z := q1) e2) ie2 (show ∀ r ∈ R_X3_isDoors, r ∈ R_X1_putByDraws from by decide))).tr (fr_X1_putByDraws_40 k1 fu 0 0 _ hz)
  · obtain ⟨q21, e22, hz⟩ := bd hz
    have ie22 : Sub (L_X2_land k1 (fxH (gR q1.2 4))) (L_X1_putByDraws k1) := by
      unfold L_X2_land
      exact (Sub.cons (lo2 := (k1 + 1)) (hi2 := (k1 + 2)) (c2 := 0) (show _ ∈ (L_X1_putByDraws k1) from by simp [L_X1_putByDraws]) (by omega) (by omega) (Or.inl rfl) (Sub.cons (lo2 := k1) (hi2 := (k1 + 1)) (c2 := 3) (show _ ∈ (L_X1_putByDraws k1) from by simp [L_X1_putByDraws]) (by omega) (by omega) (Or.inr rfl) (Sub.cons (lo2 := k1) (hi2 := (k1 + 1)) (c2 := 4) (show _ ∈ (L_X1_putByDraws k1) from by simp [L_X1_putByDraws]) (by omega) (by omega) (Or.inr rfl) (Sub.cons (lo2 := k1) (hi2 := (k1 + 1)) (c2 := 5) (show _ ∈ (L_X1_putByDraws k1) from by simp [L_X1_putByDraws]) (by omega) (by omega) (Or.inr rfl) Sub.nil))))
    cases hz
    exact ((Sm.rf.call (fr_X3_isDoors (fxH (gR w 4)) ((gI w k1 2) + 1) _ (z := q1)  e2) ie2 (show ∀ r ∈ R_X3_isDoors, r ∈ R_X1_putByDraws from by decide)).call (fr_X2_land k1 (fxH (gR q1.2 4)) (gI q1.2 (fxH (gR q1.2 4)) 5) (gI q1.2 k1 4) _ (z := q21)  e22) ie22 (show ∀ r ∈ R_X2_land, r ∈ R_X1_putByDraws from by decide))
def L_X2_begin (k0 : Nat) : List (Nat × Nat × Nat) := [((k0 + 1), (k0 + 2), 0), (k0, (k0 + 1), 1), (k0, (k0 + 1), 2), (k0, (k0 + 1), 3), (k0, (k0 + 1), 4), (k0, (k0 + 1), 5)]
def R_X2_begin : List Nat := []
theorem fr_X2_begin_27 {z : Unit × GW} (k0 : Nat) : ∀ (n9 : Nat), (∀ (x3 : Int32) (w : GW), f_X2_begin_27 n9 k0 x3 w = some z → Sm (L_X2_begin k0) R_X2_begin w z.2) := by
  intro n9
  induction n9 with
  | zero =>
    intro x3 w hz
    rw [f_X2_begin_27] at hz
    cases hz
  | succ n9 ih =>
    intro x3 w hz
    rw [f_X2_begin_27] at hz
    rcases bri hz with hz | hz
    · cases hz
      exact Sm.rf
    · obtain ⟨h1, hz⟩ := ck hz
      exact ((Sm.rf.wI (lo := (k0 + 1)) (hi := (k0 + 2)) (c9 := 0) (show _ ∈ (L_X2_begin k0) from by simp [L_X2_begin]) (Nat.le_refl _) (by omega) (Or.inl rfl))).tr (ih (x3 + 1) _  hz)
theorem fr_X2_begin (k0 : Nat) (x1 : Int32) (x2 : Int32) (w : GW) {z : Unit × GW} : f_X2_begin k0 x1 x2 w = some z → Sm (L_X2_begin k0) R_X2_begin w z.2 := by
  intro  hz
  rw [f_X2_begin] at hz
  exact ((((((Sm.rf.wI (lo := k0) (hi := (k0 + 1)) (c9 := 1) (show _ ∈ (L_X2_begin k0) from by simp [L_X2_begin]) (Nat.le_refl _) (Nat.lt_succ_self _) (Or.inr rfl)).wI (lo := k0) (hi := (k0 + 1)) (c9 := 2) (show _ ∈ (L_X2_begin k0) from by simp [L_X2_begin]) (Nat.le_refl _) (Nat.lt_succ_self _) (Or.inr rfl)).wI (lo := k0) (hi := (k0 + 1)) (c9 := 3) (show _ ∈ (L_X2_begin k0) from by simp [L_X2_begin]) (Nat.le_refl _) (Nat.lt_succ_self _) (Or.inr rfl)).wI (lo := k0) (hi := (k0 + 1)) (c9 := 4) (show _ ∈ (L_X2_begin k0) from by simp [L_X2_begin]) (Nat.le_refl _) (Nat.lt_succ_self _) (Or.inr rfl)).wI (lo := k0) (hi := (k0 + 1)) (c9 := 5) (show _ ∈ (L_X2_begin k0) from by simp [L_X2_begin]) (Nat.le_refl _) (Nat.lt_succ_self _) (Or.inr rfl))).tr (fr_X2_begin_27 k0 fu 0 _ hz)
def L_X2_become (k0 : Nat) (k1 : Nat) : List (Nat × Nat × Nat) := [((k0 + 1), (k0 + 2), 0), (k0, (k0 + 1), 1), (k0, (k0 + 1), 2), (k0, (k0 + 1), 3), (k0, (k0 + 1), 4), (k0, (k0 + 1), 5)]
def R_X2_become : List Nat := []
theorem fr_X2_become_42 {z : Unit × GW} (k0 : Nat) (k1 : Nat) : ∀ (n9 : Nat), (∀ (x2 : Int32) (w : GW), f_X2_become_42 n9 k0 k1 x2 w = some z → Sm (L_X2_become k0 k1) R_X2_become w z.2) := by
  intro n9
  induction n9 with
  | zero =>
    intro x2 w hz
    rw [f_X2_become_42] at hz
    cases hz
  | succ n9 ih =>
    intro x2 w hz
    rw [f_X2_become_42] at hz
    rcases bri hz with hz | hz
    · cases hz
      exact Sm.rf
    · obtain ⟨h1, hz⟩ := ck hz
      obtain ⟨h2, hz⟩ := ck hz
      exact ((Sm.rf.wI (lo := (k0 + 1)) (hi := (k0 + 2)) (c9 := 0) (show _ ∈ (L_X2_become k0 k1) from by simp [L_X2_become]) (Nat.le_refl _) (by omega) (Or.inl rfl))).tr (ih (x2 + 1) _  hz)
theorem fr_X2_become (k0 : Nat) (k1 : Nat) (w : GW) {z : Unit × GW} : f_X2_become k0 k1 w = some z → Sm (L_X2_become k0 k1) R_X2_become w z.2 := by
  intro  hz
  rw [f_X2_become] at hz
  exact ((((((Sm.rf.wI (lo := k0) (hi := (k0 + 1)) (c9 := 1) (show _ ∈ (L_X2_become k0 k1) from by simp [L_X2_become]) (Nat.le_refl _) (Nat.lt_succ_self _) (Or.inr rfl)).wI (lo := k0) (hi := (k0 + 1)) (c9 := 2) (show _ ∈ (L_X2_become k0 k1) from by simp [L_X2_become]) (Nat.le_refl _) (Nat.lt_succ_self _) (Or.inr rfl)).wI (lo := k0) (hi := (k0 + 1)) (c9 := 3) (show _ ∈ (L_X2_become k0 k1) from by simp [L_X2_become]) (Nat.le_refl _) (Nat.lt_succ_self _) (Or.inr rfl)).wI (lo := k0) (hi := (k0 + 1)) (c9 := 4) (show _ ∈ (L_X2_become k0 k1) from by simp [L_X2_become]) (Nat.le_refl _) (Nat.lt_succ_self _) (Or.inr rfl)).wI (lo := k0) (hi := (k0 + 1)) (c9 := 5) (show _ ∈ (L_X2_become k0 k1) from by simp [L_X2_become]) (Nat.le_refl _) (Nat.lt_succ_self _) (Or.inr rfl))).tr (fr_X2_become_42 k0 k1 fu 0 _ hz)
def L_X3_clear (k0 : Nat) : List (Nat × Nat × Nat) := [((k0 + 1), (k0 + 2), 0), ((k0 + 13), (k0 + 21), 0), ((k0 + 2), (k0 + 3), 0), ((k0 + 3), (k0 + 4), 0), (k0, (k0 + 1), 1), (k0, (k0 + 1), 10), (k0, (k0 + 1), 2), (k0, (k0 + 1), 3), (k0, (k0 + 1), 6), (k0, (k0 + 1), 7), (k0, (k0 + 1), 8), (k0, (k0 + 1), 9)]
def R_X3_clear : List Nat := []
theorem fr_X3_clear_85 {z : Unit × GW} (k0 : Nat) {k_77 : Nat → Int32 → GW → Option (Unit × GW)} (Hk_77 : (∀ (x1 : Int32) (w : GW), k_77 k0 x1 w = some z → Sm (L_X3_clear k0) R_X3_clear w z.2)) : ∀ (n9 : Nat), (∀ (x1 : Int32) (x2 : Int32) (w : GW), f_X3_clear_85 k_77 n9 k0 x1 x2 w = some z → Sm (L_X3_clear k0) R_X3_clear w z.2) := by
  intro n9
  induction n9 with
  | zero =>
    intro x1 x2 w hz
    rw [f_X3_clear_85] at hz
    cases hz
  | succ n9 ih =>
    intro x1 x2 w hz
    rw [f_X3_clear_85] at hz
    rcases bri hz with hz | hz
    · exact (Sm.rf).tr (Hk_77 (x1 + 1) _  hz)
    · obtain ⟨h1, hz⟩ := ck hz
      have gh1 : ix x1 < 8 := h1.2
      obtain ⟨h2, hz⟩ := ck hz
      exact ((Sm.rf.wI (lo := (k0 + 13)) (hi := (k0 + 21)) (c9 := 0) (show _ ∈ (L_X3_clear k0) from by simp [L_X3_clear]) (by omega) (by omega) (Or.inl rfl))).tr (ih x1 (x2 + 1) _  hz)
theorem fr_X3_clear_77 {z : Unit × GW} (k0 : Nat) : ∀ (n9 : Nat), (∀ (x1 : Int32) (w : GW), f_X3_clear_77 n9 k0 x1 w = some z → Sm (L_X3_clear k0) R_X3_clear w z.2) := by
  intro n9
  induction n9 with
  | zero =>
    intro x1 w hz
    rw [f_X3_clear_77] at hz
    cases hz
  | succ n9 ih =>
    intro x1 w hz
    rw [f_X3_clear_77] at hz
    rcases bri hz with hz | hz
    · cases hz
      exact Sm.rf
    · exact (Sm.rf).tr (fr_X3_clear_85 k0 ih fu x1 0 _ hz)
theorem fr_X3_clear_42 {z : Unit × GW} (k0 : Nat) : ∀ (n9 : Nat), (∀ (x1 : Int32) (w : GW), f_X3_clear_42 n9 k0 x1 w = some z → Sm (L_X3_clear k0) R_X3_clear w z.2) := by
  intro n9
  induction n9 with
  | zero =>
    intro x1 w hz
    rw [f_X3_clear_42] at hz
    cases hz
  | succ n9 ih =>
    intro x1 w hz
    rw [f_X3_clear_42] at hz
    rcases bri hz with hz | hz
    · exact (Sm.rf).tr (fr_X3_clear_77 k0 fu 0 _ hz)
    · obtain ⟨h3, hz⟩ := ck hz
      obtain ⟨h4, hz⟩ := ck hz
      obtain ⟨h5, hz⟩ := ck hz
      exact ((((Sm.rf.wI (lo := (k0 + 1)) (hi := (k0 + 2)) (c9 := 0) (show _ ∈ (L_X3_clear k0) from by simp [L_X3_clear]) (Nat.le_refl _) (by omega) (Or.inl rfl)).wI (lo := (k0 + 2)) (hi := (k0 + 3)) (c9 := 0) (show _ ∈ (L_X3_clear k0) from by simp [L_X3_clear]) (Nat.le_refl _) (by omega) (Or.inl rfl)).wI (lo := (k0 + 3)) (hi := (k0 + 4)) (c9 := 0) (show _ ∈ (L_X3_clear k0) from by simp [L_X3_clear]) (Nat.le_refl _) (by omega) (Or.inl rfl))).tr (ih (x1 + 1) _  hz)
theorem fr_X3_clear (k0 : Nat) (w : GW) {z : Unit × GW} : f_X3_clear k0 w = some z → Sm (L_X3_clear k0) R_X3_clear w z.2 := by
  intro  hz
  rw [f_X3_clear] at hz
  exact (((((((((Sm.rf.wI (lo := k0) (hi := (k0 + 1)) (c9 := 1) (show _ ∈ (L_X3_clear k0) from by simp [L_X3_clear]) (Nat.le_refl _) (Nat.lt_succ_self _) (Or.inr rfl)).wI (lo := k0) (hi := (k0 + 1)) (c9 := 2) (show _ ∈ (L_X3_clear k0) from by simp [L_X3_clear]) (Nat.le_refl _) (Nat.lt_succ_self _) (Or.inr rfl)).wI (lo := k0) (hi := (k0 + 1)) (c9 := 3) (show _ ∈ (L_X3_clear k0) from by simp [L_X3_clear]) (Nat.le_refl _) (Nat.lt_succ_self _) (Or.inr rfl)).wI (lo := k0) (hi := (k0 + 1)) (c9 := 6) (show _ ∈ (L_X3_clear k0) from by simp [L_X3_clear]) (Nat.le_refl _) (Nat.lt_succ_self _) (Or.inr rfl)).wI (lo := k0) (hi := (k0 + 1)) (c9 := 7) (show _ ∈ (L_X3_clear k0) from by simp [L_X3_clear]) (Nat.le_refl _) (Nat.lt_succ_self _) (Or.inr rfl)).wI (lo := k0) (hi := (k0 + 1)) (c9 := 8) (show _ ∈ (L_X3_clear k0) from by simp [L_X3_clear]) (Nat.le_refl _) (Nat.lt_succ_self _) (Or.inr rfl)).wI (lo := k0) (hi := (k0 + 1)) (c9 := 9) (show _ ∈ (L_X3_clear k0) from by simp [L_X3_clear]) (Nat.le_refl _) (Nat.lt_succ_self _) (Or.inr rfl)).wI (lo := k0) (hi := (k0 + 1)) (c9 := 10) (show _ ∈ (L_X3_clear k0) from by simp [L_X3_clear]) (Nat.le_refl _) (Nat.lt_succ_self _) (Or.inr rfl))).tr (fr_X3_clear_42 k0 fu 0 _ hz)
def L_X3_sumUp (k0 : Nat) : List (Nat × Nat × Nat) := [(k0, (k0 + 1), 4), (k0, (k0 + 1), 5)]
def R_X3_sumUp : List Nat := []
theorem fr_X3_sumUp_12 {z : Unit × GW} (k0 : Nat) : ∀ (n9 : Nat), (∀ (x1 : Int32) (w : GW), f_X3_sumUp_12 n9 k0 x1 w = some z → Sm (L_X3_sumUp k0) R_X3_sumUp w z.2) := by
  intro n9
  induction n9 with
  | zero =>
    intro x1 w hz
    rw [f_X3_sumUp_12] at hz
    cases hz
  | succ n9 ih =>
    intro x1 w hz
    rw [f_X3_sumUp_12] at hz
    rcases bri hz with hz | hz
    · cases hz
      exact Sm.rf
    · obtain ⟨h1, hz⟩ := ck hz
      obtain ⟨h2, hz⟩ := ck hz
      exact (((Sm.rf.wI (lo := k0) (hi := (k0 + 1)) (c9 := 4) (show _ ∈ (L_X3_sumUp k0) from by simp [L_X3_sumUp]) (Nat.le_refl _) (Nat.lt_succ_self _) (Or.inr rfl)).wI (lo := k0) (hi := (k0 + 1)) (c9 := 5) (show _ ∈ (L_X3_sumUp k0) from by simp [L_X3_sumUp]) (Nat.le_refl _) (Nat.lt_succ_self _) (Or.inr rfl))).tr (ih (x1 + 1) _  hz)
theorem fr_X3_sumUp (k0 : Nat) (w : GW) {z : Unit × GW} : f_X3_sumUp k0 w = some z → Sm (L_X3_sumUp k0) R_X3_sumUp w z.2 := by
  intro  hz
  rw [f_X3_sumUp] at hz
  exact (((Sm.rf.wI (lo := k0) (hi := (k0 + 1)) (c9 := 4) (show _ ∈ (L_X3_sumUp k0) from by simp [L_X3_sumUp]) (Nat.le_refl _) (Nat.lt_succ_self _) (Or.inr rfl)).wI (lo := k0) (hi := (k0 + 1)) (c9 := 5) (show _ ∈ (L_X3_sumUp k0) from by simp [L_X3_sumUp]) (Nat.le_refl _) (Nat.lt_succ_self _) (Or.inr rfl))).tr (fr_X3_sumUp_12 k0 fu 0 _ hz)
def L_X3_hasName (k0 : Nat) : List (Nat × Nat × Nat) := []
def R_X3_hasName : List Nat := []
theorem fr_X3_hasName_2 {z : Int32 × GW} (k0 : Nat) : ∀ (n9 : Nat), (∀ (x1 : Int64) (x3 : Int32) (w : GW), f_X3_hasName_2 n9 k0 x1 x3 w = some z → Sm (L_X3_hasName k0) R_X3_hasName w z.2) := by
  intro n9
  induction n9 with
  | zero =>
    intro x1 x3 w hz
    rw [f_X3_hasName_2] at hz
    cases hz
  | succ n9 ih =>
    intro x1 x3 w hz
    rw [f_X3_hasName_2] at hz
    rcases bri hz with hz | hz
    · cases hz
      exact Sm.rf
    · obtain ⟨h1, hz⟩ := ck hz
      rcases bri hz with hz | hz
      · cases hz
        exact Sm.rf
      · exact (Sm.rf).tr (ih x1 (x3 + 1) _  hz)
theorem fr_X3_hasName (k0 : Nat) (x1 : Int64) (w : GW) {z : Int32 × GW} : f_X3_hasName k0 x1 w = some z → Sm (L_X3_hasName k0) R_X3_hasName w z.2 := by
  intro  hz
  rw [f_X3_hasName] at hz
  exact (Sm.rf).tr (fr_X3_hasName_2 k0 fu x1 0 _ hz)
def L_X4_become (k0 : Nat) : List (Nat × Nat × Nat) := [(k0, (k0 + 1), 1), (k0, (k0 + 1), 2), (k0, (k0 + 1), 3)]
def R_X4_become : List Nat := []
theorem fr_X4_become (k0 : Nat) (x1 : Int32) (x2 : Int32) (x3 : Int32) (w : GW) {z : Unit × GW} : f_X4_become k0 x1 x2 x3 w = some z → Sm (L_X4_become k0) R_X4_become w z.2 := by
  intro  hz
  rw [f_X4_become] at hz
  cases hz
  exact (((Sm.rf.wI (lo := k0) (hi := (k0 + 1)) (c9 := 1) (show _ ∈ (L_X4_become k0) from by simp [L_X4_become]) (Nat.le_refl _) (Nat.lt_succ_self _) (Or.inr rfl)).wI (lo := k0) (hi := (k0 + 1)) (c9 := 2) (show _ ∈ (L_X4_become k0) from by simp [L_X4_become]) (Nat.le_refl _) (Nat.lt_succ_self _) (Or.inr rfl)).wI (lo := k0) (hi := (k0 + 1)) (c9 := 3) (show _ ∈ (L_X4_become k0) from by simp [L_X4_become]) (Nat.le_refl _) (Nat.lt_succ_self _) (Or.inr rfl))
def L_X5_become (k0 : Nat) : List (Nat × Nat × Nat) := [((k0 + 1), (k0 + 2), 0)]
def R_X5_become : List Nat := []
theorem fr_X5_become_2 {z : Unit × GW} (k0 : Nat) : ∀ (n9 : Nat), (∀ (x1 : Int64) (x3 : Int32) (w : GW), f_X5_become_2 n9 k0 x1 x3 w = some z → Sm (L_X5_become k0) R_X5_become w z.2) := by
  intro n9
  induction n9 with
  | zero =>
    intro x1 x3 w hz
    rw [f_X5_become_2] at hz
    cases hz
  | succ n9 ih =>
    intro x1 x3 w hz
    rw [f_X5_become_2] at hz
    rcases bri hz with hz | hz
    · obtain ⟨h1, hz⟩ := ck hz
      cases hz
      exact (Sm.rf.wL (lo := (k0 + 1)) (hi := (k0 + 2)) (c9 := 0) (show _ ∈ (L_X5_become k0) from by simp [L_X5_become]) (Nat.le_refl _) (by omega) (Or.inl rfl))
    · obtain ⟨h2, hz⟩ := ck hz
      exact ((Sm.rf.wL (lo := (k0 + 1)) (hi := (k0 + 2)) (c9 := 0) (show _ ∈ (L_X5_become k0) from by simp [L_X5_become]) (Nat.le_refl _) (by omega) (Or.inl rfl))).tr (ih x1 (x3 + 1) _  hz)
theorem fr_X5_become (k0 : Nat) (x1 : Int64) (w : GW) {z : Unit × GW} : f_X5_become k0 x1 w = some z → Sm (L_X5_become k0) R_X5_become w z.2 := by
  intro  hz
  rw [f_X5_become] at hz
  exact (Sm.rf).tr (fr_X5_become_2 k0 fu x1 0 _ hz)
def L_X5_copy (k0 : Nat) (k1 : Nat) : List (Nat × Nat × Nat) := [((k0 + 1), (k0 + 2), 0)]
def R_X5_copy : List Nat := []
theorem fr_X5_copy_2 {z : Unit × GW} (k0 : Nat) (k1 : Nat) : ∀ (n9 : Nat), (∀ (x2 : Int32) (w : GW), f_X5_copy_2 n9 k0 k1 x2 w = some z → Sm (L_X5_copy k0 k1) R_X5_copy w z.2) := by
  intro n9
  induction n9 with
  | zero =>
    intro x2 w hz
    rw [f_X5_copy_2] at hz
    cases hz
  | succ n9 ih =>
    intro x2 w hz
    rw [f_X5_copy_2] at hz
    rcases bri hz with hz | hz
    · cases hz
      exact Sm.rf
    · obtain ⟨h1, hz⟩ := ck hz
      obtain ⟨h2, hz⟩ := ck hz
      exact ((Sm.rf.wL (lo := (k0 + 1)) (hi := (k0 + 2)) (c9 := 0) (show _ ∈ (L_X5_copy k0 k1) from by simp [L_X5_copy]) (Nat.le_refl _) (by omega) (Or.inl rfl))).tr (ih (x2 + 1) _  hz)
theorem fr_X5_copy (k0 : Nat) (k1 : Nat) (w : GW) {z : Unit × GW} : f_X5_copy k0 k1 w = some z → Sm (L_X5_copy k0 k1) R_X5_copy w z.2 := by
  intro  hz
  rw [f_X5_copy] at hz
  exact (Sm.rf).tr (fr_X5_copy_2 k0 k1 fu 0 _ hz)
def L_X5_multiply (k0 : Nat) : List (Nat × Nat × Nat) := [((k0 + 1), (k0 + 2), 0)]
def R_X5_multiply : List Nat := []
theorem fr_X5_multiply_117 {z : Unit × GW} (k0 : Nat) : ∀ (n9 : Nat), (∀ (x9 : Int64) (x11 : Int32) (w : GW), f_X5_multiply_117 n9 k0 x9 x11 w = some z → Sm (L_X5_multiply k0) R_X5_multiply w z.2) := by
  intro n9
  induction n9 with
  | zero =>
    intro x9 x11 w hz
    rw [f_X5_multiply_117] at hz
    cases hz
  | succ n9 ih =>
    intro x9 x11 w hz
    rw [f_X5_multiply_117] at hz
    rcases bri hz with hz | hz
    · cases hz
      exact Sm.rf
    · obtain ⟨h1, hz⟩ := ck hz
      obtain ⟨h2, hz⟩ := ck hz
      exact ((Sm.rf.wL (lo := (k0 + 1)) (hi := (k0 + 2)) (c9 := 0) (show _ ∈ (L_X5_multiply k0) from by simp [L_X5_multiply]) (Nat.le_refl _) (by omega) (Or.inl rfl))).tr (ih (((gL w (k0 + 1) (ix x11)) + x9) >>> ((24 : Int32).toInt64 &&& 63)) (x11 + 1) _  hz)
theorem fr_X5_multiply_93 {z : Unit × GW} (k0 : Nat) {k_26 : Nat → Int64 → Int64 → Int64 → Int32 → GW → Option (Unit × GW)} (Hk_26 : (∀ (x3 : Int64) (x5 : Int64) (x7 : Int64) (x9 : Int32) (w : GW), k_26 k0 x3 x5 x7 x9 w = some z → Sm (L_X5_multiply k0) R_X5_multiply w z.2)) : (∀ (x3 : Int64) (x5 : Int64) (x7 : Int64) (x9 : Int32) (t0 : Int64) (t1 : Int64) (w : GW), f_X5_multiply_93 k_26 k0 x3 x5 x7 x9 t0 t1 w = some z → Sm (L_X5_multiply k0) R_X5_multiply w z.2) := by
  intro x3 x5 x7 x9 t0 t1 w hz
  rw [f_X5_multiply_93] at hz
  obtain ⟨h4, hz⟩ := ck hz
  exact ((Sm.rf.wL (lo := (k0 + 1)) (hi := (k0 + 2)) (c9 := 0) (show _ ∈ (L_X5_multiply k0) from by simp [L_X5_multiply]) (Nat.le_refl _) (by omega) (Or.inl rfl))).tr (Hk_26 x3 x5 x7 (x9 + (-1)) _  hz)
theorem fr_X5_multiply_66 {z : Unit × GW} (k0 : Nat) {k_26 : Nat → Int64 → Int64 → Int64 → Int32 → GW → Option (Unit × GW)} (Hk_26 : (∀ (x3 : Int64) (x5 : Int64) (x7 : Int64) (x9 : Int32) (w : GW), k_26 k0 x3 x5 x7 x9 w = some z → Sm (L_X5_multiply k0) R_X5_multiply w z.2)) : (∀ (x3 : Int64) (x5 : Int64) (x7 : Int64) (x9 : Int32) (t0 : Int64) (t1 : Int64) (w : GW), f_X5_multiply_66 k_26 k0 x3 x5 x7 x9 t0 t1 w = some z → Sm (L_X5_multiply k0) R_X5_multiply w z.2) := by
  intro x3 x5 x7 x9 t0 t1 w hz
  rw [f_X5_multiply_66] at hz
  rcases bri hz with hz | hz
  · exact (Sm.rf).tr (fr_X5_multiply_93 k0 Hk_26 x3 x5 x7 x9 0 (t1 + t0) _ hz)
  · obtain ⟨h5, hz⟩ := ck hz
    exact (Sm.rf).tr (fr_X5_multiply_93 k0 Hk_26 x3 x5 x7 x9 ((gL w (k0 + 1) (ix (x9 - 2))) * x7) (t1 + t0) _ hz)
theorem fr_X5_multiply_26 {z : Unit × GW} (k0 : Nat) : ∀ (n9 : Nat), (∀ (x3 : Int64) (x5 : Int64) (x7 : Int64) (x9 : Int32) (w : GW), f_X5_multiply_26 n9 k0 x3 x5 x7 x9 w = some z → Sm (L_X5_multiply k0) R_X5_multiply w z.2) := by
  intro n9
  induction n9 with
  | zero =>
    intro x3 x5 x7 x9 w hz
    rw [f_X5_multiply_26] at hz
    cases hz
  | succ n9 ih =>
    intro x3 x5 x7 x9 w hz
    rw [f_X5_multiply_26] at hz
    rcases bri hz with hz | hz
    · exact (Sm.rf).tr (fr_X5_multiply_117 k0 fu 0 0 _ hz)
    · obtain ⟨h3, hz⟩ := ck hz
      rcases bri hz with hz | hz
      · exact (Sm.rf).tr (fr_X5_multiply_66 k0 ih x3 x5 x7 x9 0 ((gL w (k0 + 1) (ix x9)) * x3) _ hz)
      · obtain ⟨h6, hz⟩ := ck hz
        exact (Sm.rf).tr (fr_X5_multiply_66 k0 ih x3 x5 x7 x9 ((gL w (k0 + 1) (ix (x9 - 1))) * x5) ((gL w (k0 + 1) (ix x9)) * x3) _ hz)
theorem fr_X5_multiply (k0 : Nat) (x1 : Int64) (w : GW) {z : Unit × GW} : f_X5_multiply k0 x1 w = some z → Sm (L_X5_multiply k0) R_X5_multiply w z.2 := by
  intro  hz
  rw [f_X5_multiply] at hz
  exact (Sm.rf).tr (fr_X5_multiply_26 k0 fu (x1 &&& 16777215) ((x1 >>> ((24 : Int32).toInt64 &&& 63)) &&& 16777215) (x1 >>> ((48 : Int32).toInt64 &&& 63)) 17 _ hz)
def L_X5_isAbove (k0 : Nat) (k1 : Nat) : List (Nat × Nat × Nat) := []
def R_X5_isAbove : List Nat := []
theorem fr_X5_isAbove_3 {z : Int32 × GW} (k0 : Nat) (k1 : Nat) : ∀ (n9 : Nat), (∀ (x2 : Int32) (w : GW), f_X5_isAbove_3 n9 k0 k1 x2 w = some z → Sm (L_X5_isAbove k0 k1) R_X5_isAbove w z.2) := by
  intro n9
  induction n9 with
  | zero =>
    intro x2 w hz
    rw [f_X5_isAbove_3] at hz
    cases hz
  | succ n9 ih =>
    intro x2 w hz
    rw [f_X5_isAbove_3] at hz
    rcases bri hz with hz | hz
    · cases hz
      exact Sm.rf
    · obtain ⟨h1, hz⟩ := ck hz
      obtain ⟨h2, hz⟩ := ck hz
      rcases bri hz with hz | hz
      · exact (Sm.rf).tr (ih (x2 + (-1)) _  hz)
      · obtain ⟨h3, hz⟩ := ck hz
        obtain ⟨h4, hz⟩ := ck hz
        rcases bri hz with hz | hz
        · cases hz
          exact Sm.rf
        · cases hz
          exact Sm.rf
theorem fr_X5_isAbove (k0 : Nat) (k1 : Nat) (w : GW) {z : Int32 × GW} : f_X5_isAbove k0 k1 w = some z → Sm (L_X5_isAbove k0 k1) R_X5_isAbove w z.2 := by
  intro  hz
  rw [f_X5_isAbove] at hz
  exact (Sm.rf).tr (fr_X5_isAbove_3 k0 k1 fu 17 _ hz)
def L_X7_add : List (Nat × Nat × Nat) := [(1, 2, 4), (2, 3, 0)]
def R_X7_add : List Nat := []
theorem fr_X7_add_43 {z : Unit × GW} {k_3 : Int32 → Int32 → GW → Option (Unit × GW)} (Hk_3 : (∀ (x1 : Int32) (x2 : Int32) (w : GW), k_3 x1 x2 w = some z → Sm L_X7_add R_X7_add w z.2)) : (∀ (x1 : Int32) (x2 : Int32) (w : GW), f_X7_add_43 k_3 x1 x2 w = some z → Sm L_X7_add R_X7_add w z.2) := by
  intro x1 x2 w hz
  rw [f_X7_add_43] at hz
  exact (Sm.rf).tr (Hk_3 x1 (x2 + (-8)) _  hz)
theorem fr_X7_add_3 {z : Unit × GW} : ∀ (n9 : Nat), (∀ (x1 : Int32) (x2 : Int32) (w : GW), f_X7_add_3 n9 x1 x2 w = some z → Sm L_X7_add R_X7_add w z.2) := by
  intro n9
  induction n9 with
  | zero =>
    intro x1 x2 w hz
    rw [f_X7_add_3] at hz
    cases hz
  | succ n9 ih =>
    intro x1 x2 w hz
    rw [f_X7_add_3] at hz
    rcases bri hz with hz | hz
    · cases hz
      exact Sm.rf
    · rcases bri hz with hz | hz
      · exact (Sm.rf).tr (fr_X7_add_43 ih x1 x2 _ hz)
      · obtain ⟨h1, hz⟩ := ck hz
        exact (((Sm.rf.wI (lo := 2) (hi := 3) (c9 := 0) (show _ ∈ L_X7_add from by simp [L_X7_add]) (by decide) (by decide) (Or.inl rfl)).wI (lo := 1) (hi := 2) (c9 := 4) (show _ ∈ L_X7_add from by simp [L_X7_add]) (by decide) (by decide) (Or.inr rfl))).tr (fr_X7_add_43 ih x1 x2 _ hz)
theorem fr_X7_add (x1 : Int32) (w : GW) {z : Unit × GW} : f_X7_add x1 w = some z → Sm L_X7_add R_X7_add w z.2 := by
  intro  hz
  rw [f_X7_add] at hz
  exact (Sm.rf).tr (fr_X7_add_3 fu x1 24 _ hz)
def L_X7_isLetter : List (Nat × Nat × Nat) := []
def R_X7_isLetter : List Nat := []
theorem fr_X7_isLetter (x0 : Int32) (w : GW) {z : Int32 × GW} : f_X7_isLetter x0 w = some z → Sm L_X7_isLetter R_X7_isLetter w z.2 := by
  intro  hz
  rw [f_X7_isLetter] at hz
  rcases bri hz with hz | hz
  · cases hz
    exact Sm.rf
  · rcases bri hz with hz | hz
    · cases hz
      exact Sm.rf
    · cases hz
      exact Sm.rf
def L_X7_word : List (Nat × Nat × Nat) := [(1, 2, 3), (1, 2, 6), (1, 2, 8)]
def R_X7_word : List Nat := []
theorem fr_X7_word_79 {z : Unit × GW} : (∀ (x1 : Int32) (t0 : Int32) (w : GW), f_X7_word_79 x1 t0 w = some z → Sm L_X7_word R_X7_word w z.2) := by
  intro x1 t0 w hz
  rw [f_X7_word_79] at hz
  cases hz
  exact ((Sm.rf.wI (lo := 1) (hi := 2) (c9 := 6) (show _ ∈ L_X7_word from by simp [L_X7_word]) (by decide) (by decide) (Or.inr rfl)).wI (lo := 1) (hi := 2) (c9 := 3) (show _ ∈ L_X7_word from by simp [L_X7_word]) (by decide) (by decide) (Or.inr rfl))
theorem fr_X7_word_62 {z : Unit × GW} : (∀ (x1 : Int32) (w : GW), f_X7_word_62 x1 w = some z → Sm L_X7_word R_X7_word w z.2) := by
  intro x1 w hz
  rw [f_X7_word_62] at hz
  rcases bri hz with hz | hz
  · exact (Sm.rf).tr (fr_X7_word_79 x1 1 _ hz)
  · exact (Sm.rf).tr (fr_X7_word_79 x1 5 _ hz)
theorem fr_X7_word_10 {z : Unit × GW} : ∀ (n9 : Nat), (∀ (x1 : Int32) (w : GW), f_X7_word_10 n9 x1 w = some z → Sm L_X7_word R_X7_word w z.2) := by
  intro n9
  induction n9 with
  | zero =>
    intro x1 w hz
    rw [f_X7_word_10] at hz
    cases hz
  | succ n9 ih =>
    intro x1 w hz
    rw [f_X7_word_10] at hz
    rcases bri hz with hz | hz
    · exact (Sm.rf).tr (fr_X7_word_62 x1 _ hz)
    · obtain ⟨h1, hz⟩ := ck hz
      obtain ⟨q2, e3, hz⟩ := bd hz
      have ie3 : Sub L_X7_isLetter L_X7_word := by
        unfold L_X7_isLetter
        exact Sub.nil
      rcases bri hz with hz | hz
      · exact ((Sm.rf.call (fr_X7_isLetter (gI w 2 (ix x1)) _ (z := q2) e3) ie3 (show ∀ r ∈ R_X7_isLetter, r ∈ R_X7_word from by decide))).tr (fr_X7_word_62 x1 _ hz)
      · obtain ⟨h4, hz⟩ := ck hz
        exact (((Sm.rf.call (fr_X7_isLetter (gI w 2 (ix x1)) _ (z := q2)  e3) ie3 (show ∀ r ∈ R_X7_isLetter, r ∈ R_X7_word from by decide)).wL (lo := 1) (hi := 2) (c9 := 8) (show _ ∈ L_X7_word from by simp [L_X7_word]) (by decide) (by decide) (Or.inr rfl))).tr (ih (x1 + 1) _  hz)
theorem fr_X7_word  (w : GW) {z : Unit × GW} : f_X7_word w = some z → Sm L_X7_word R_X7_word w z.2 := by
  intro  hz
  rw [f_X7_word] at hz
  exact ((Sm.rf.wL (lo := 1) (hi := 2) (c9 := 8) (show _ ∈ L_X7_word from by simp [L_X7_word]) (by decide) (by decide) (Or.inr rfl))).tr (fr_X7_word_10 fu (gI w 1 4) _ hz)
def L_X7_isDigit : List (Nat × Nat × Nat) := []
def R_X7_isDigit : List Nat := []
theorem fr_X7_isDigit (x0 : Int32) (w : GW) {z : Int32 × GW} : f_X7_isDigit x0 w = some z → Sm L_X7_isDigit R_X7_isDigit w z.2 := by
  intro  hz
  rw [f_X7_isDigit] at hz
  rcases bri hz with hz | hz
  · cases hz
    exact Sm.rf
  · rcases bri hz with hz | hz
    · cases hz
      exact Sm.rf
    · cases hz
      exact Sm.rf
def L_X7_whole : List (Nat × Nat × Nat) := [(1, 2, 3), (1, 2, 6), (1, 2, 7)]
def R_X7_whole : List Nat := []
theorem fr_X7_whole_73 {z : Unit × GW} : (∀ (x1 : Int32) (t0 : Int32) (w : GW), f_X7_whole_73 x1 t0 w = some z → Sm L_X7_whole R_X7_whole w z.2) := by
  intro x1 t0 w hz
  rw [f_X7_whole_73] at hz
  cases hz
  exact ((Sm.rf.wI (lo := 1) (hi := 2) (c9 := 6) (show _ ∈ L_X7_whole from by simp [L_X7_whole]) (by decide) (by decide) (Or.inr rfl)).wI (lo := 1) (hi := 2) (c9 := 3) (show _ ∈ L_X7_whole from by simp [L_X7_whole]) (by decide) (by decide) (Or.inr rfl))
theorem fr_X7_whole_57 {z : Unit × GW} : (∀ (x1 : Int32) (w : GW), f_X7_whole_57 x1 w = some z → Sm L_X7_whole R_X7_whole w z.2) := by
  intro x1 w hz
  rw [f_X7_whole_57] at hz
  rcases bri hz with hz | hz
  · exact (Sm.rf).tr (fr_X7_whole_73 x1 2 _ hz)
  · exact (Sm.rf).tr (fr_X7_whole_73 x1 5 _ hz)
theorem fr_X7_whole_10 {z : Unit × GW} : ∀ (n9 : Nat), (∀ (x1 : Int32) (w : GW), f_X7_whole_10 n9 x1 w = some z → Sm L_X7_whole R_X7_whole w z.2) := by
  intro n9
  induction n9 with
  | zero =>
    intro x1 w hz
    rw [f_X7_whole_10] at hz
    cases hz
  | succ n9 ih =>
    intro x1 w hz
    rw [f_X7_whole_10] at hz
    rcases bri hz with hz | hz
    · exact (Sm.rf).tr (fr_X7_whole_57 x1 _ hz)
    · obtain ⟨h1, hz⟩ := ck hz
      obtain ⟨q2, e3, hz⟩ := bd hz
      have ie3 : Sub L_X7_isDigit L_X7_whole := by
        unfold L_X7_isDigit
        exact Sub.nil
      rcases bri hz with hz | hz
      · exact ((Sm.rf.call (fr_X7_isDigit (gI w 2 (ix x1)) _ (z := q2) e3) ie3 (show ∀ r ∈ R_X7_isDigit, r ∈ R_X7_whole from by decide))).tr (fr_X7_whole_57 x1 _ hz)
      · obtain ⟨h4, hz⟩ := ck hz
        exact (((Sm.rf.call (fr_X7_isDigit (gI w 2 (ix x1)) _ (z := q2)  e3) ie3 (show ∀ r ∈ R_X7_isDigit, r ∈ R_X7_whole from by decide)).wI (lo := 1) (hi := 2) (c9 := 7) (show _ ∈ L_X7_whole from by simp [L_X7_whole]) (by decide) (by decide) (Or.inr rfl))).tr (ih (x1 + 1) _  hz)
theorem fr_X7_whole  (w : GW) {z : Unit × GW} : f_X7_whole w = some z → Sm L_X7_whole R_X7_whole w z.2 := by
  intro  hz
  rw [f_X7_whole] at hz
  exact ((Sm.rf.wI (lo := 1) (hi := 2) (c9 := 7) (show _ ∈ L_X7_whole from by simp [L_X7_whole]) (by decide) (by decide) (Or.inr rfl))).tr (fr_X7_whole_10 fu (gI w 1 4) _ hz)
def L_X7_advance : List (Nat × Nat × Nat) := [(1, 2, 3), (1, 2, 5), (1, 2, 6), (1, 2, 7), (1, 2, 8)]
def R_X7_advance : List Nat := []
theorem fr_X7_advance_121 {z : Unit × GW} : (∀ (x1 : Int32) (t0 : Int32) (w : GW), f_X7_advance_121 x1 t0 w = some z → Sm L_X7_advance R_X7_advance w z.2) := by
  intro x1 t0 w hz
  rw [f_X7_advance_121] at hz
  cases hz
  exact ((Sm.rf.wI (lo := 1) (hi := 2) (c9 := 6) (show _ ∈ L_X7_advance from by simp [L_X7_advance]) (by decide) (by decide) (Or.inr rfl)).wI (lo := 1) (hi := 2) (c9 := 3) (show _ ∈ L_X7_advance from by simp [L_X7_advance]) (by decide) (by decide) (Or.inr rfl))
theorem fr_X7_advance_30 {z : Unit × GW} : (∀ (x1 : Int32) (w : GW), f_X7_advance_30 x1 w = some z → Sm L_X7_advance R_X7_advance w z.2) := by
  intro x1 w hz
  rw [f_X7_advance_30] at hz
  rcases bri hz with hz | hz
  · obtain ⟨h1, hz⟩ := ck hz
    obtain ⟨q2, e3, hz⟩ := bd hz
    have ie3 : Sub L_X7_isLetter L_X7_advance := by
      unfold L_X7_isLetter
      exact Sub.nil
    rcases bri hz with hz | hz
    · obtain ⟨h4, hz⟩ := ck hz
      obtain ⟨q5, e6, hz⟩ := bd hz
      have ie6 : Sub L_X7_isDigit L_X7_advance := by
        unfold L_X7_isDigit
        exact Sub.nil
      rcases bri hz with hz | hz
      · obtain ⟨h7, hz⟩ := ck hz
        rcases bri hz with hz | hz
        · exact ((((Sm.rf.wI (lo := 1) (hi := 2) (c9 := 5) (show _ ∈ L_X7_advance from by simp [L_X7_advance]) (by decide) (by decide) (Or.inr rfl)).call (fr_X7_isLetter (gI (sI w 1 4 x1) 2 (ix x1)) _ (z := q2) e3) ie3 (show ∀ r ∈ R_X7_isLetter, r ∈ R_X7_advance from by decide)).call (fr_X7_isDigit (gI q2.2 2 (ix x1)) _ (z := q5) e6) ie6 (show ∀ r ∈ R_X7_isDigit, r ∈ R_X7_advance from by decide))).tr (fr_X7_advance_121 x1 3 _ hz)
        · obtain ⟨h8, hz⟩ := ck hz
          rcases bri hz with hz | hz
          · exact ((((Sm.rf.wI (lo := 1) (hi := 2) (c9 := 5) (show _ ∈ L_X7_advance from by simp [L_X7_advance]) (by decide) (by decide) (Or.inr rfl)).call (fr_X7_isLetter (gI (sI w 1 4 x1) 2 (ix x1)) _ (z := q2) e3) ie3 (show ∀ r ∈ R_X7_isLetter, r ∈ R_X7_advance from by decide)).call (fr_X7_isDigit (gI q2.2 2 (ix x1)) _ (z := q5) e6) ie6 (show ∀ r ∈ R_X7_isDigit, r ∈ R_X7_advance from by decide))).tr (fr_X7_advance_121 x1 4 _ hz)
          · exact ((((Sm.rf.wI (lo := 1) (hi := 2) (c9 := 5) (show _ ∈ L_X7_advance from by simp [L_X7_advance]) (by decide) (by decide) (Or.inr rfl)).call (fr_X7_isLetter (gI (sI w 1 4 x1) 2 (ix x1)) _ (z := q2) e3) ie3 (show ∀ r ∈ R_X7_isLetter, r ∈ R_X7_advance from by decide)).call (fr_X7_isDigit (gI q2.2 2 (ix x1)) _ (z := q5) e6) ie6 (show ∀ r ∈ R_X7_isDigit, r ∈ R_X7_advance from by decide))).tr (fr_X7_advance_121 x1 5 _ hz)
      · obtain ⟨q9, e10, hz⟩ := bd hz
        have ie10 : Sub L_X7_whole L_X7_advance := by
          unfold L_X7_whole
          exact (Sub.cons (lo2 := 1) (hi2 := 2) (c2 := 3) (show _ ∈ L_X7_advance from by simp [L_X7_advance]) (by omega) (by omega) (Or.inr rfl) (Sub.cons (lo2 := 1) (hi2 := 2) (c2 := 6) (show _ ∈ L_X7_advance from by simp [L_X7_advance]) (by omega) (by omega) (Or.inr rfl) (Sub.cons (lo2 := 1) (hi2 := 2) (c2 := 7) (show _ ∈ L_X7_advance from by simp [L_X7_advance]) (by omega) (by omega) (Or.inr rfl) Sub.nil)))
        cases hz
        exact ((((Sm.rf.wI (lo := 1) (hi := 2) (c9 := 5) (show _ ∈ L_X7_advance from by simp [L_X7_advance]) (by decide) (by decide) (Or.inr rfl)).call (fr_X7_isLetter (gI (sI w 1 4 x1) 2 (ix x1)) _ (z := q2)  e3) ie3 (show ∀ r ∈ R_X7_isLetter, r ∈ R_X7_advance from by decide)).call (fr_X7_isDigit (gI q2.2 2 (ix x1)) _ (z := q5)  e6) ie6 (show ∀ r ∈ R_X7_isDigit, r ∈ R_X7_advance from by decide)).call (fr_X7_whole  _ (z := q9)  e10) ie10 (show ∀ r ∈ R_X7_whole, r ∈ R_X7_advance from by decide))
    · obtain ⟨q11, e12, hz⟩ := bd hz
      have ie12 : Sub L_X7_word L_X7_advance := by
        unfold L_X7_word
        exact (Sub.cons (lo2 := 1) (hi2 := 2) (c2 := 3) (show _ ∈ L_X7_advance from by simp [L_X7_advance]) (by omega) (by omega) (Or.inr rfl) (Sub.cons (lo2 := 1) (hi2 := 2) (c2 := 6) (show _ ∈ L_X7_advance from by simp [L_X7_advance]) (by omega) (by omega) (Or.inr rfl) (Sub.cons (lo2 := 1) (hi2 := 2) (c2 := 8) (show _ ∈ L_X7_advance from by simp [L_X7_advance]) (by omega) (by omega) (Or.inr rfl) Sub.nil)))
      cases hz
      exact (((Sm.rf.wI (lo := 1) (hi := 2) (c9 := 5) (show _ ∈ L_X7_advance from by simp [L_X7_advance]) (by decide) (by decide) (Or.inr rfl)).call (fr_X7_isLetter (gI (sI w 1 4 x1) 2 (ix x1)) _ (z := q2)  e3) ie3 (show ∀ r ∈ R_X7_isLetter, r ∈ R_X7_advance from by decide)).call (fr_X7_word  _ (z := q11)  e12) ie12 (show ∀ r ∈ R_X7_word, r ∈ R_X7_advance from by decide))
  · cases hz
    exact ((Sm.rf.wI (lo := 1) (hi := 2) (c9 := 5) (show _ ∈ L_X7_advance from by simp [L_X7_advance]) (by decide) (by decide) (Or.inr rfl)).wI (lo := 1) (hi := 2) (c9 := 6) (show _ ∈ L_X7_advance from by simp [L_X7_advance]) (by decide) (by decide) (Or.inr rfl))
theorem fr_X7_advance_5 {z : Unit × GW} : ∀ (n9 : Nat), (∀ (x1 : Int32) (w : GW), f_X7_advance_5 n9 x1 w = some z → Sm L_X7_advance R_X7_advance w z.2) := by
  intro n9
  induction n9 with
  | zero =>
    intro x1 w hz
    rw [f_X7_advance_5] at hz
    cases hz
  | succ n9 ih =>
    intro x1 w hz
    rw [f_X7_advance_5] at hz
    rcases bri hz with hz | hz
    · exact (Sm.rf).tr (fr_X7_advance_30 x1 _ hz)
    · obtain ⟨h13, hz⟩ := ck hz
      rcases bri hz with hz | hz
      · exact (Sm.rf).tr (ih (x1 + 1) _  hz)
      · exact (Sm.rf).tr (fr_X7_advance_30 x1 _ hz)
theorem fr_X7_advance  (w : GW) {z : Unit × GW} : f_X7_advance w = some z → Sm L_X7_advance R_X7_advance w z.2 := by
  intro  hz
  rw [f_X7_advance] at hz
  exact (Sm.rf).tr (fr_X7_advance_5 fu (gI w 1 2) _ hz)
def L_X7_begin : List (Nat × Nat × Nat) := [(1, 2, 2), (1, 2, 3), (1, 2, 5), (1, 2, 6), (1, 2, 7), (1, 2, 8)]
def R_X7_begin : List Nat := []
theorem fr_X7_begin (x1 : Int32) (w : GW) {z : Unit × GW} : f_X7_begin x1 w = some z → Sm L_X7_begin R_X7_begin w z.2 := by
  intro  hz
  rw [f_X7_begin] at hz
  obtain ⟨q1, e2, hz⟩ := bd hz
  have ie2 : Sub L_X7_advance L_X7_begin := by
    unfold L_X7_advance
    exact (Sub.cons (lo2 := 1) (hi2 := 2) (c2 := 3) (show _ ∈ L_X7_begin from by simp [L_X7_begin]) (by omega) (by omega) (Or.inr rfl) (Sub.cons (lo2 := 1) (hi2 := 2) (c2 := 5) (show _ ∈ L_X7_begin from by simp [L_X7_begin]) (by omega) (by omega) (Or.inr rfl) (Sub.cons (lo2 := 1) (hi2 := 2) (c2 := 6) (show _ ∈ L_X7_begin from by simp [L_X7_begin]) (by omega) (by omega) (Or.inr rfl) (Sub.cons (lo2 := 1) (hi2 := 2) (c2 := 7) (show _ ∈ L_X7_begin from by simp [L_X7_begin]) (by omega) (by omega) (Or.inr rfl) (Sub.cons (lo2 := 1) (hi2 := 2) (c2 := 8) (show _ ∈ L_X7_begin from by simp [L_X7_begin]) (by omega) (by omega) (Or.inr rfl) Sub.nil)))))
  cases hz
  exact (((Sm.rf.wI (lo := 1) (hi := 2) (c9 := 2) (show _ ∈ L_X7_begin from by simp [L_X7_begin]) (by decide) (by decide) (Or.inr rfl)).wI (lo := 1) (hi := 2) (c9 := 3) (show _ ∈ L_X7_begin from by simp [L_X7_begin]) (by decide) (by decide) (Or.inr rfl)).call (fr_X7_advance  _ (z := q1)  e2) ie2 (show ∀ r ∈ R_X7_advance, r ∈ R_X7_begin from by decide))
def L_X7_says : List (Nat × Nat × Nat) := []
def R_X7_says : List Nat := []
theorem fr_X7_says_28 {z : Int32 × GW} : ∀ (n9 : Nat), (∀ (u1 : Nat) (x2 : Int32) (w : GW), f_X7_says_28 n9 u1 x2 w = some z → Sm L_X7_says R_X7_says w z.2) := by
  intro n9
  induction n9 with
  | zero =>
    intro u1 x2 w hz
    rw [f_X7_says_28] at hz
    cases hz
  | succ n9 ih =>
    intro u1 x2 w hz
    rw [f_X7_says_28] at hz
    rcases bri hz with hz | hz
    · cases hz
      exact Sm.rf
    · obtain ⟨h1, hz⟩ := ck hz
      obtain ⟨-, hz⟩ := ck hz
      rcases bri hz with hz | hz
      · exact (Sm.rf).tr (ih u1 (x2 + 1) _  hz)
      · cases hz
        exact Sm.rf
theorem fr_X7_says (u1 : Nat) (w : GW) {z : Int32 × GW} : f_X7_says u1 w = some z → Sm L_X7_says R_X7_says w z.2 := by
  intro  hz
  rw [f_X7_says] at hz
  rcases bri hz with hz | hz
  · rcases bri hz with hz | hz
    · exact (Sm.rf).tr (fr_X7_says_28 fu u1 0 _ hz)
    · cases hz
      exact Sm.rf
  · cases hz
    exact Sm.rf
def L_X8_feed : List (Nat × Nat × Nat) := [(1, 2, 4), (2, 3, 0)]
def R_X8_feed : List Nat := []
theorem fr_X8_feed (x1 : Int32) (x2 : Int32) (x3 : Int32) (x4 : Int32) (x5 : Int32) (w : GW) {z : Int32 × GW} : f_X8_feed x1 x2 x3 x4 x5 w = some z → Sm L_X8_feed R_X8_feed w z.2 := by
  intro  hz
  rw [f_X8_feed] at hz
  rcases bri hz with hz | hz
  · obtain ⟨q1, e2, hz⟩ := bd hz
    have ie2 : Sub L_X7_add L_X8_feed := by
      unfold L_X7_add
      exact (Sub.cons (lo2 := 1) (hi2 := 2) (c2 := 4) (show _ ∈ L_X8_feed from by simp [L_X8_feed]) (by omega) (by omega) (Or.inr rfl) (Sub.cons (lo2 := 2) (hi2 := 3) (c2 := 0) (show _ ∈ L_X8_feed from by simp [L_X8_feed]) (by omega) (by omega) (Or.inl rfl) Sub.nil))
    obtain ⟨q3, e4, hz⟩ := bd hz
    have ie4 : Sub L_X7_add L_X8_feed := by
      unfold L_X7_add
      exact (Sub.cons (lo2 := 1) (hi2 := 2) (c2 := 4) (show _ ∈ L_X8_feed from by simp [L_X8_feed]) (by omega) (by omega) (Or.inr rfl) (Sub.cons (lo2 := 2) (hi2 := 3) (c2 := 0) (show _ ∈ L_X8_feed from by simp [L_X8_feed]) (by omega) (by omega) (Or.inl rfl) Sub.nil))
    obtain ⟨q5, e6, hz⟩ := bd hz
    have ie6 : Sub L_X7_add L_X8_feed := by
      unfold L_X7_add
      exact (Sub.cons (lo2 := 1) (hi2 := 2) (c2 := 4) (show _ ∈ L_X8_feed from by simp [L_X8_feed]) (by omega) (by omega) (Or.inr rfl) (Sub.cons (lo2 := 2) (hi2 := 3) (c2 := 0) (show _ ∈ L_X8_feed from by simp [L_X8_feed]) (by omega) (by omega) (Or.inl rfl) Sub.nil))
    obtain ⟨q7, e8, hz⟩ := bd hz
    have ie8 : Sub L_X7_add L_X8_feed := by
      unfold L_X7_add
      exact (Sub.cons (lo2 := 1) (hi2 := 2) (c2 := 4) (show _ ∈ L_X8_feed from by simp [L_X8_feed]) (by omega) (by omega) (Or.inr rfl) (Sub.cons (lo2 := 2) (hi2 := 3) (c2 := 0) (show _ ∈ L_X8_feed from by simp [L_X8_feed]) (by omega) (by omega) (Or.inl rfl) Sub.nil))
    obtain ⟨q9, e10, hz⟩ := bd hz
    have ie10 : Sub L_X7_add L_X8_feed := by
      unfold L_X7_add
      exact (Sub.cons (lo2 := 1) (hi2 := 2) (c2 := 4) (show _ ∈ L_X8_feed from by simp [L_X8_feed]) (by omega) (by omega) (Or.inr rfl) (Sub.cons (lo2 := 2) (hi2 := 3) (c2 := 0) (show _ ∈ L_X8_feed from by simp [L_X8_feed]) (by omega) (by omega) (Or.inl rfl) Sub.nil))
    cases hz
    exact (((((Sm.rf.call (fr_X7_add x1 _ (z := q1)  e2) ie2 (show ∀ r ∈ R_X7_add, r ∈ R_X8_feed from by decide)).call (fr_X7_add x2 _ (z := q3)  e4) ie4 (show ∀ r ∈ R_X7_add, r ∈ R_X8_feed from by decide)).call (fr_X7_add x3 _ (z := q5)  e6) ie6 (show ∀ r ∈ R_X7_add, r ∈ R_X8_feed from by decide)).call (fr_X7_add x4 _ (z := q7)  e8) ie8 (show ∀ r ∈ R_X7_add, r ∈ R_X8_feed from by decide)).call (fr_X7_add x5 _ (z := q9)  e10) ie10 (show ∀ r ∈ R_X7_add, r ∈ R_X8_feed from by decide))
  · cases hz
    exact Sm.rf
def L_X8_fault : List (Nat × Nat × Nat) := []
def R_X8_fault : List Nat := []
theorem fr_X8_fault  (w : GW) {z : Int32 × GW} : f_X8_fault w = some z → Sm L_X8_fault R_X8_fault w z.2 := by
  intro  hz
  rw [f_X8_fault] at hz
  cases hz
  exact Sm.rf
def L_X8_where : List (Nat × Nat × Nat) := []
def R_X8_where : List Nat := []
theorem fr_X8_where  (w : GW) {z : Int32 × GW} : f_X8_where w = some z → Sm L_X8_where R_X8_where w z.2 := by
  intro  hz
  rw [f_X8_where] at hz
  rcases bri hz with hz | hz
  · cases hz
    exact Sm.rf
  · cases hz
    exact Sm.rf
def L_X8_isPorter : List (Nat × Nat × Nat) := []
def R_X8_isPorter : List Nat := []
theorem fr_X8_isPorter (x1 : Int32) (w : GW) {z : Int32 × GW} : f_X8_isPorter x1 w = some z → Sm L_X8_isPorter R_X8_isPorter w z.2 := by
  intro  hz
  rw [f_X8_isPorter] at hz
  rcases bri hz with hz | hz
  · cases hz
    exact Sm.rf
  · rcases bri hz with hz | hz
    · cases hz
      exact Sm.rf
    · cases hz
      exact Sm.rf
def L_X8_refuse : List (Nat × Nat × Nat) := [(0, 1, 13)]
def R_X8_refuse : List Nat := []
theorem fr_X8_refuse (x1 : Int32) (w : GW) {z : Int32 × GW} : f_X8_refuse x1 w = some z → Sm L_X8_refuse R_X8_refuse w z.2 := by
  intro  hz
  rw [f_X8_refuse] at hz
  cases hz
  exact (Sm.rf.wI (lo := 0) (hi := 1) (c9 := 13) (show _ ∈ L_X8_refuse from by simp [L_X8_refuse]) (by decide) (by decide) (Or.inr rfl))
def L_X8_isCount : List (Nat × Nat × Nat) := []
def R_X8_isCount : List Nat := []
theorem fr_X8_isCount (x1 : Int32) (w : GW) {z : Int32 × GW} : f_X8_isCount x1 w = some z → Sm L_X8_isCount R_X8_isCount w z.2 := by
  intro  hz
  rw [f_X8_isCount] at hz
  rcases bri hz with hz | hz
  · cases hz
    exact Sm.rf
  · rcases bri hz with hz | hz
    · cases hz
      exact Sm.rf
    · cases hz
      exact Sm.rf
def L_X8_isFullest : List (Nat × Nat × Nat) := []
def R_X8_isFullest : List Nat := []
theorem fr_X8_isFullest (x0 : Int32) (w : GW) {z : Int32 × GW} : f_X8_isFullest x0 w = some z → Sm L_X8_isFullest R_X8_isFullest w z.2 := by
  intro  hz
  rw [f_X8_isFullest] at hz
  rcases bri hz with hz | hz
  · cases hz
    exact Sm.rf
  · rcases bri hz with hz | hz
    · cases hz
      exact Sm.rf
    · cases hz
      exact Sm.rf
def L_X8_isTooMany : List (Nat × Nat × Nat) := []
def R_X8_isTooMany : List Nat := []
theorem fr_X8_isTooMany (x1 : Int32) (x2 : Int32) (w : GW) {z : Int32 × GW} : f_X8_isTooMany x1 x2 w = some z → Sm L_X8_isTooMany R_X8_isTooMany w z.2 := by
  intro  hz
  rw [f_X8_isTooMany] at hz
  obtain ⟨h1, hz⟩ := ck hz
  have gh1 : ix x1 < 6 := h1.2
  obtain ⟨q2, e3, hz⟩ := bd hz
  have ie3 : Sub (L_X3_tooMany (fxH (gR w 0)) (((fxH (gR w 0)) + 4) + 1 + ix x1)) L_X8_isTooMany := by
    unfold L_X3_tooMany
    exact Sub.nil
  cases hz
  exact (Sm.rf.call (fr_X3_tooMany (fxH (gR w 0)) (((fxH (gR w 0)) + 4) + 1 + ix x1) x2 _ (z := q2)  e3) ie3 (show ∀ r ∈ R_X3_tooMany, r ∈ R_X8_isTooMany from by decide))
def L_X8_common : List (Nat × Nat × Nat) := []
def R_X8_common : List Nat := []
theorem fr_X8_common_9 {z : Int64 × GW} : ∀ (n9 : Nat), (∀ (x4 : Int64) (x6 : Int64) (x8 : Int32) (w : GW), f_X8_common_9 n9 x4 x6 x8 w = some z → Sm L_X8_common R_X8_common w z.2) := by
  intro n9
  induction n9 with
  | zero =>
    intro x4 x6 x8 w hz
    rw [f_X8_common_9] at hz
    cases hz
  | succ n9 ih =>
    intro x4 x6 x8 w hz
    rw [f_X8_common_9] at hz
    rcases bri hz with hz | hz
    · cases hz
      exact Sm.rf
    · rcases bri hz with hz | hz
      · cases hz
        exact Sm.rf
      · obtain ⟨-, hz⟩ := ck hz
        exact (Sm.rf).tr (ih x6 (lrm x4 x6) (x8 + 1) _  hz)
theorem fr_X8_common (x0 : Int64) (x2 : Int64) (w : GW) {z : Int64 × GW} : f_X8_common x0 x2 w = some z → Sm L_X8_common R_X8_common w z.2 := by
  intro  hz
  rw [f_X8_common] at hz
  exact (Sm.rf).tr (fr_X8_common_9 fu x0 x2 0 _ hz)
def L_X8_told : List (Nat × Nat × Nat) := [(0, 1, 13)]
def R_X8_told : List Nat := []
theorem fr_X8_told_15 {z : Int64 × GW} : (∀ (x1 : Int64) (x3 : Int64) (t0 : Int64) (w : GW), f_X8_told_15 x1 x3 t0 w = some z → Sm L_X8_told R_X8_told w z.2) := by
  intro x1 x3 t0 w hz
  rw [f_X8_told_15] at hz
  obtain ⟨q1, e2, hz⟩ := bd hz
  have ie2 : Sub L_X8_common L_X8_told := by
    unfold L_X8_common
    exact Sub.nil
  rcases bri hz with hz | hz
  · cases hz
    exact (Sm.rf.call (fr_X8_common x1 x3 _ (z := q1)  e2) ie2 (show ∀ r ∈ R_X8_common, r ∈ R_X8_told from by decide))
  · obtain ⟨-, hz⟩ := ck hz
    cases hz
    exact (Sm.rf.call (fr_X8_common x1 x3 _ (z := q1)  e2) ie2 (show ∀ r ∈ R_X8_common, r ∈ R_X8_told from by decide))
theorem fr_X8_told (x1 : Int64) (x3 : Int64) (x5 : Int32) (w : GW) {z : Int64 × GW} : f_X8_told x1 x3 x5 w = some z → Sm L_X8_told R_X8_told w z.2 := by
  intro  hz
  rw [f_X8_told] at hz
  rcases bri hz with hz | hz
  · exact ((Sm.rf.wI (lo := 0) (hi := 1) (c9 := 13) (show _ ∈ L_X8_told from by simp [L_X8_told]) (by decide) (by decide) (Or.inr rfl))).tr (fr_X8_told_15 x1 x3 x1 _ hz)
  · exact ((Sm.rf.wI (lo := 0) (hi := 1) (c9 := 13) (show _ ∈ L_X8_told from by simp [L_X8_told]) (by decide) (by decide) (Or.inr rfl))).tr (fr_X8_told_15 x1 x3 x3 _ hz)
def L_X8_chance : List (Nat × Nat × Nat) := [(0, 1, 13), (110, 111, 0), (111, 112, 0), (113, 114, 0), (114, 115, 0), (115, 116, 0), (69, 70, 0), (71, 72, 0), (72, 73, 10), (72, 73, 11), (74, 110, 0)]
def R_X8_chance : List Nat := [4, 5]
theorem fr_X8_chance (x1 : Int32) (x2 : Int32) (x3 : Int32) (x4 : Int32) (x5 : Int32) (x6 : Int32) (w : GW) {z : Int64 × GW} : f_X8_chance x1 x2 x3 x4 x5 x6 w = some z → Sm L_X8_chance R_X8_chance w z.2 := by
  intro  hz
  rw [f_X8_chance] at hz
  obtain ⟨q1, e2, hz⟩ := bd hz
  have ie2 : Sub L_X8_isTooMany L_X8_chance := by
    unfold L_X8_isTooMany
    exact Sub.nil
  rcases bri hz with hz | hz
  · obtain ⟨h3, hz⟩ := ck hz
    have gh3 : ix x1 < 6 := h3.2
    obtain ⟨q4, e5, hz⟩ := bd hz
    have ie5 : Sub (L_X0_rowOf (((fxH (gR q1.2 0)) + 4) + 1 + ix x1)) L_X8_chance := by
      unfold L_X0_rowOf
      exact (Sub.cons (lo2 := 110) (hi2 := 111) (c2 := 0) (show _ ∈ L_X8_chance from by simp [L_X8_chance]) (by omega) (by omega) (Or.inl rfl) (Sub.cons (lo2 := 111) (hi2 := 112) (c2 := 0) (show _ ∈ L_X8_chance from by simp [L_X8_chance]) (by omega) (by omega) (Or.inl rfl) (Sub.cons (lo2 := 113) (hi2 := 114) (c2 := 0) (show _ ∈ L_X8_chance from by simp [L_X8_chance]) (by omega) (by omega) (Or.inl rfl) (Sub.cons (lo2 := 114) (hi2 := 115) (c2 := 0) (show _ ∈ L_X8_chance from by simp [L_X8_chance]) (by omega) (by omega) (Or.inl rfl) (Sub.cons (lo2 := 115) (hi2 := 116) (c2 := 0) (show _ ∈ L_X8_chance from by simp [L_X8_chance]) (by omega) (by omega) (Or.inl rfl) (Sub.cons (lo2 := 69) (hi2 := 70) (c2 := 0) (show _ ∈ L_X8_chance from by simp [L_X8_chance]) (by omega) (by omega) (Or.inl rfl) (Sub.cons (lo2 := 71) (hi2 := 72) (c2 := 0) (show _ ∈ L_X8_chance from by simp [L_X8_chance]) (by omega) (by omega) (Or.inl rfl) (Sub.cons (lo2 := 74) (hi2 := 110) (c2 := 0) (show _ ∈ L_X8_chance from by simp [L_X8_chance]) (by omega) (by omega) (Or.inl rfl) Sub.nil))))))))
    obtain ⟨q6, e7, hz⟩ := bd hz
    have ie7 : Sub (L_X0_count q4.1) L_X8_chance := by
      unfold L_X0_count
      exact (Sub.cons (lo2 := 72) (hi2 := 73) (c2 := 10) (show _ ∈ L_X8_chance from by simp [L_X8_chance]) (by omega) (by omega) (Or.inr rfl) (Sub.cons (lo2 := 72) (hi2 := 73) (c2 := 11) (show _ ∈ L_X8_chance from by simp [L_X8_chance]) (by omega) (by omega) (Or.inr rfl) Sub.nil))
    obtain ⟨q8, e9, hz⟩ := bd hz
    have ie9 : Sub L_X8_told L_X8_chance := by
      unfold L_X8_told
      exact (Sub.cons (lo2 := 0) (hi2 := 1) (c2 := 13) (show _ ∈ L_X8_chance from by simp [L_X8_chance]) (by omega) (by omega) (Or.inr rfl) Sub.nil)
    cases hz
    exact ((((Sm.rf.call (fr_X8_isTooMany x1 x2 _ (z := q1)  e2) ie2 (show ∀ r ∈ R_X8_isTooMany, r ∈ R_X8_chance from by decide)).call (fr_X0_rowOf x1 (((fxH (gR q1.2 0)) + 4) + 1 + ix x1) 0 _ (z := q4)  e5) ie5 (show ∀ r ∈ R_X0_rowOf, r ∈ R_X8_chance from by decide)).call (fr_X0_count q4.1 x2 x3 x4 x5 _ (z := q6)  e7) ie7 (show ∀ r ∈ R_X0_count, r ∈ R_X8_chance from by decide)).call (fr_X8_told (gL q6.2 72 9) (gL q6.2 72 10) x6 _ (z := q8)  e9) ie9 (show ∀ r ∈ R_X8_told, r ∈ R_X8_chance from by decide))
  · obtain ⟨q10, e11, hz⟩ := bd hz
    have ie11 : Sub L_X8_refuse L_X8_chance := by
      unfold L_X8_refuse
      exact (Sub.cons (lo2 := 0) (hi2 := 1) (c2 := 13) (show _ ∈ L_X8_chance from by simp [L_X8_chance]) (by omega) (by omega) (Or.inr rfl) Sub.nil)
    cases hz
    exact ((Sm.rf.call (fr_X8_isTooMany x1 x2 _ (z := q1)  e2) ie2 (show ∀ r ∈ R_X8_isTooMany, r ∈ R_X8_chance from by decide)).call (fr_X8_refuse 3 _ (z := q10)  e11) ie11 (show ∀ r ∈ R_X8_refuse, r ∈ R_X8_chance from by decide))
