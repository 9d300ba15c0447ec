def L_X9_lays : List (Nat × Nat × Nat) := [(130, 131, 23), (130, 131, 29), (130, 131, 30), (130, 131, 31), (137, 138, 0), (138, 139, 0), (139, 140, 0), (140, 141, 0), (141, 142, 0), (142, 143, 0), (143, 144, 0)]
def R_X9_lays : List Nat := []
theorem fr_X9_lays_199 {z : Int32 × GW} {k_95 : Int32 → Int32 → Int32 → Int32 → Int32 → Int32 → GW → Option (Int32 × GW)} (Hk_95 : (∀ (x1 : Int32) (x2 : Int32) (x3 : Int32) (x4 : Int32) (x5 : Int32) (x8 : Int32) (w : GW), k_95 x1 x2 x3 x4 x5 x8 w = some z → Sm L_X9_lays R_X9_lays w z.2)) : ∀ (n9 : Nat), (∀ (x1 : Int32) (x2 : Int32) (x3 : Int32) (x4 : Int32) (x5 : Int32) (x8 : Int32) (x9 : Int32) (w : GW), f_X9_lays_199 k_95 n9 x1 x2 x3 x4 x5 x8 x9 w = some z → Sm L_X9_lays R_X9_lays w z.2) := by
  intro n9
  induction n9 with
  | zero =>
    intro x1 x2 x3 x4 x5 x8 x9 w hz
    rw [f_X9_lays_199] at hz
    cases hz
  | succ n9 ih =>
    intro x1 x2 x3 x4 x5 x8 x9 w hz
    rw [f_X9_lays_199] at hz
    rcases bri hz with hz | hz
    · exact (Sm.rf).tr (Hk_95 x1 x2 x3 x4 x5 (x8 + 1) _  hz)
    · obtain ⟨h7, hz⟩ := ck hz
      obtain ⟨h8, hz⟩ := ck hz
      obtain ⟨h9, hz⟩ := ck hz
      obtain ⟨h10, hz⟩ := ck hz
      exact (((Sm.rf.wI (lo := 139) (hi := 140) (c9 := 0) (show _ ∈ L_X9_lays from by simp [L_X9_lays]) (by decide) (by decide) (Or.inl rfl)).wL (lo := 142) (hi := 143) (c9 := 0) (show _ ∈ L_X9_lays from by simp [L_X9_lays]) (by decide) (by decide) (Or.inl rfl))).tr (ih x1 x2 x3 x4 x5 x8 (x9 + 1) _  hz)
theorem fr_X9_lays_182 {z : Int32 × GW} {k_95 : Int32 → Int32 → Int32 → Int32 → Int32 → Int32 → GW → Option (Int32 × GW)} (Hk_95 : (∀ (x1 : Int32) (x2 : Int32) (x3 : Int32) (x4 : Int32) (x5 : Int32) (x8 : Int32) (w : GW), k_95 x1 x2 x3 x4 x5 x8 w = some z → Sm L_X9_lays R_X9_lays w z.2)) {k_109 : Int32 → Int32 → Int32 → Int32 → Int32 → Int32 → Int32 → GW → Option (Int32 × GW)} (Hk_109 : (∀ (x1 : Int32) (x2 : Int32) (x3 : Int32) (x4 : Int32) (x5 : Int32) (x8 : Int32) (x9 : Int32) (w : GW), k_109 x1 x2 x3 x4 x5 x8 x9 w = some z → Sm L_X9_lays R_X9_lays w z.2)) : (∀ (x1 : Int32) (x2 : Int32) (x3 : Int32) (x4 : Int32) (x5 : Int32) (x8 : Int32) (x9 : Int32) (w : GW), f_X9_lays_182 k_95 k_109 x1 x2 x3 x4 x5 x8 x9 w = some z → Sm L_X9_lays R_X9_lays w z.2) := by
  intro x1 x2 x3 x4 x5 x8 x9 w hz
  rw [f_X9_lays_182] at hz
  exact (Sm.rf).tr (Hk_109 x1 x2 x3 x4 x5 x8 (x9 + 1) _  hz)
theorem fr_X9_lays_177 {z : Int32 × GW} {k_95 : Int32 → Int32 → Int32 → Int32 → Int32 → Int32 → GW → Option (Int32 × GW)} (Hk_95 : (∀ (x1 : Int32) (x2 : Int32) (x3 : Int32) (x4 : Int32) (x5 : Int32) (x8 : Int32) (w : GW), k_95 x1 x2 x3 x4 x5 x8 w = some z → Sm L_X9_lays R_X9_lays w z.2)) {k_109 : Int32 → Int32 → Int32 → Int32 → Int32 → Int32 → Int32 → GW → Option (Int32 × GW)} (Hk_109 : (∀ (x1 : Int32) (x2 : Int32) (x3 : Int32) (x4 : Int32) (x5 : Int32) (x8 : Int32) (x9 : Int32) (w : GW), k_109 x1 x2 x3 x4 x5 x8 x9 w = some z → Sm L_X9_lays R_X9_lays w z.2)) : (∀ (x1 : Int32) (x2 : Int32) (x3 : Int32) (x4 : Int32) (x5 : Int32) (x8 : Int32) (x9 : Int32) (t0 : Int64) (t1 : Int32) (t2 : Int32) (t3 : Int32) (t4 : Int32) (w : GW), f_X9_lays_177 k_95 k_109 x1 x2 x3 x4 x5 x8 x9 t0 t1 t2 t3 t4 w = some z → Sm L_X9_lays R_X9_lays w z.2) := by
  intro x1 x2 x3 x4 x5 x8 x9 t0 t1 t2 t3 t4 w hz
  rw [f_X9_lays_177] at hz
  obtain ⟨q14, e15, hz⟩ := bd hz
  have ie15 : Sub L_X9_byGlances L_X9_lays := by
    unfold L_X9_byGlances
    exact (Sub.cons (lo2 := 130) (hi2 := 131) (c2 := 23) (show _ ∈ L_X9_lays from by simp [L_X9_lays]) (by omega) (by omega) (Or.inr rfl) (Sub.cons (lo2 := 130) (hi2 := 131) (c2 := 30) (show _ ∈ L_X9_lays from by simp [L_X9_lays]) (by omega) (by omega) (Or.inr rfl) (Sub.cons (lo2 := 137) (hi2 := 138) (c2 := 0) (show _ ∈ L_X9_lays from by simp [L_X9_lays]) (by omega) (by omega) (Or.inl rfl) (Sub.cons (lo2 := 138) (hi2 := 139) (c2 := 0) (show _ ∈ L_X9_lays from by simp [L_X9_lays]) (by omega) (by omega) (Or.inl rfl) (Sub.cons (lo2 := 140) (hi2 := 141) (c2 := 0) (show _ ∈ L_X9_lays from by simp [L_X9_lays]) (by omega) (by omega) (Or.inl rfl) (Sub.cons (lo2 := 141) (hi2 := 142) (c2 := 0) (show _ ∈ L_X9_lays from by simp [L_X9_lays]) (by omega) (by omega) (Or.inl rfl) (Sub.cons (lo2 := 143) (hi2 := 144) (c2 := 0) (show _ ∈ L_X9_lays from by simp [L_X9_lays]) (by omega) (by omega) (Or.inl rfl) Sub.nil)))))))
  exact ((Sm.rf.call (fr_X9_byGlances t4 t3 t2 t1 t0 x8 _ (z := q14) e15) ie15 (show ∀ r ∈ R_X9_byGlances, r ∈ R_X9_lays from by decide))).tr (fr_X9_lays_182 Hk_95 Hk_109 x1 x2 x3 x4 x5 x8 x9 _ hz)
theorem fr_X9_lays_109 {z : Int32 × GW} {k_95 : Int32 → Int32 → Int32 → Int32 → Int32 → Int32 → GW → Option (Int32 × GW)} (Hk_95 : (∀ (x1 : Int32) (x2 : Int32) (x3 : Int32) (x4 : Int32) (x5 : Int32) (x8 : Int32) (w : GW), k_95 x1 x2 x3 x4 x5 x8 w = some z → Sm L_X9_lays R_X9_lays w z.2)) : ∀ (n9 : Nat), (∀ (x1 : Int32) (x2 : Int32) (x3 : Int32) (x4 : Int32) (x5 : Int32) (x8 : Int32) (x9 : Int32) (w : GW), f_X9_lays_109 k_95 n9 x1 x2 x3 x4 x5 x8 x9 w = some z → Sm L_X9_lays R_X9_lays w z.2) := by
  intro n9
  induction n9 with
  | zero =>
    intro x1 x2 x3 x4 x5 x8 x9 w hz
    rw [f_X9_lays_109] at hz
    cases hz
  | succ n9 ih =>
    intro x1 x2 x3 x4 x5 x8 x9 w hz
    rw [f_X9_lays_109] at hz
    rcases bri hz with hz | hz
    · exact ((Sm.rf.wI (lo := 130) (hi := 131) (c9 := 29) (show _ ∈ L_X9_lays from by simp [L_X9_lays]) (by decide) (by decide) (Or.inr rfl))).tr (fr_X9_lays_199 Hk_95 fu x1 x2 x3 x4 x5 x8 0 _ hz)
    · obtain ⟨q11, e12, hz⟩ := bd hz
      have ie12 : Sub L_X9_isDoor L_X9_lays := by
        unfold L_X9_isDoor
        exact Sub.nil
      rcases bri hz with hz | hz
      · obtain ⟨h13, hz⟩ := ck hz
        rcases bri hz with hz | hz
        · exact ((Sm.rf.call (fr_X9_isDoor x8 _ (z := q11) e12) ie12 (show ∀ r ∈ R_X9_isDoor, r ∈ R_X9_lays from by decide))).tr (fr_X9_lays_177 Hk_95 ih x1 x2 x3 x4 x5 x8 x9 0 (gI q11.2 139 (ix x9)) x3 x2 x1 _ hz)
        · obtain ⟨h16, hz⟩ := ck hz
          exact ((Sm.rf.call (fr_X9_isDoor x8 _ (z := q11) e12) ie12 (show ∀ r ∈ R_X9_isDoor, r ∈ R_X9_lays from by decide))).tr (fr_X9_lays_177 Hk_95 ih x1 x2 x3 x4 x5 x8 x9 (gL q11.2 142 (ix x9)) (gI q11.2 139 (ix x9)) x3 x2 x1 _ hz)
      · obtain ⟨h17, hz⟩ := ck hz
        obtain ⟨h18, hz⟩ := ck hz
        obtain ⟨q19, e20, hz⟩ := bd hz
        have ie20 : Sub L_X9_byDoor L_X9_lays := by
          unfold L_X9_byDoor
          exact (Sub.cons (lo2 := 130) (hi2 := 131) (c2 := 23) (show _ ∈ L_X9_lays from by simp [L_X9_lays]) (by omega) (by omega) (Or.inr rfl) (Sub.cons (lo2 := 130) (hi2 := 131) (c2 := 30) (show _ ∈ L_X9_lays from by simp [L_X9_lays]) (by omega) (by omega) (Or.inr rfl) (Sub.cons (lo2 := 137) (hi2 := 138) (c2 := 0) (show _ ∈ L_X9_lays from by simp [L_X9_lays]) (by omega) (by omega) (Or.inl rfl) (Sub.cons (lo2 := 140) (hi2 := 141) (c2 := 0) (show _ ∈ L_X9_lays from by simp [L_X9_lays]) (by omega) (by omega) (Or.inl rfl) (Sub.cons (lo2 := 141) (hi2 := 142) (c2 := 0) (show _ ∈ L_X9_lays from by simp [L_X9_lays]) (by omega) (by omega) (Or.inl rfl) (Sub.cons (lo2 := 143) (hi2 := 144) (c2 := 0) (show _ ∈ L_X9_lays from by simp [L_X9_lays]) (by omega) (by omega) (Or.inl rfl) Sub.nil))))))
        exact (((Sm.rf.call (fr_X9_isDoor x8 _ (z := q11) e12) ie12 (show ∀ r ∈ R_X9_isDoor, r ∈ R_X9_lays from by decide)).call (fr_X9_byDoor (gI q11.2 139 (ix x9)) (gL q11.2 142 (ix x9)) x8 _ (z := q19) e20) ie20 (show ∀ r ∈ R_X9_byDoor, r ∈ R_X9_lays from by decide))).tr (fr_X9_lays_182 Hk_95 ih x1 x2 x3 x4 x5 x8 x9 _ hz)
theorem fr_X9_lays_95 {z : Int32 × GW} : ∀ (n9 : Nat), (∀ (x1 : Int32) (x2 : Int32) (x3 : Int32) (x4 : Int32) (x5 : Int32) (x8 : Int32) (w : GW), f_X9_lays_95 n9 x1 x2 x3 x4 x5 x8 w = some z → Sm L_X9_lays R_X9_lays w z.2) := by
  intro n9
  induction n9 with
  | zero =>
    intro x1 x2 x3 x4 x5 x8 w hz
    rw [f_X9_lays_95] at hz
    cases hz
  | succ n9 ih =>
    intro x1 x2 x3 x4 x5 x8 w hz
    rw [f_X9_lays_95] at hz
    rcases bri hz with hz | hz
    · cases hz
      exact Sm.rf
    · obtain ⟨q5, e6, hz⟩ := bd hz
      have ie6 : Sub L_X9_clearSlots L_X9_lays := by
        unfold L_X9_clearSlots
        exact (Sub.cons (lo2 := 130) (hi2 := 131) (c2 := 30) (show _ ∈ L_X9_lays from by simp [L_X9_lays]) (by omega) (by omega) (Or.inr rfl) (Sub.cons (lo2 := 141) (hi2 := 142) (c2 := 0) (show _ ∈ L_X9_lays from by simp [L_X9_lays]) (by omega) (by omega) (Or.inl rfl) Sub.nil))
      exact ((Sm.rf.call (fr_X9_clearSlots _ (z := q5) e6) ie6 (show ∀ r ∈ R_X9_clearSlots, r ∈ R_X9_lays from by decide))).tr (fr_X9_lays_109 ih fu x1 x2 x3 x4 x5 x8 0 _ hz)
theorem fr_X9_lays_92 {z : Int32 × GW} : (∀ (x1 : Int32) (x2 : Int32) (x3 : Int32) (x4 : Int32) (x5 : Int32) (w : GW), f_X9_lays_92 x1 x2 x3 x4 x5 w = some z → Sm L_X9_lays R_X9_lays w z.2) := by
  intro x1 x2 x3 x4 x5 w hz
  rw [f_X9_lays_92] at hz
  exact (Sm.rf).tr (fr_X9_lays_95 fu x1 x2 x3 x4 x5 1 _ hz)
theorem fr_X9_lays_86 {z : Int32 × GW} {k_35 : Int32 → Int32 → Int32 → Int32 → Int32 → Int64 → Int32 → GW → Option (Int32 × GW)} (Hk_35 : (∀ (x1 : Int32) (x2 : Int32) (x3 : Int32) (x4 : Int32) (x5 : Int32) (x6 : Int64) (x8 : Int32) (w : GW), k_35 x1 x2 x3 x4 x5 x6 x8 w = some z → Sm L_X9_lays R_X9_lays w z.2)) : (∀ (x1 : Int32) (x2 : Int32) (x3 : Int32) (x4 : Int32) (x5 : Int32) (x6 : Int64) (x8 : Int32) (w : GW), f_X9_lays_86 k_35 x1 x2 x3 x4 x5 x6 x8 w = some z → Sm L_X9_lays R_X9_lays w z.2) := by
  intro x1 x2 x3 x4 x5 x6 x8 w hz
  rw [f_X9_lays_86] at hz
  exact (Sm.rf).tr (Hk_35 x1 x2 x3 x4 x5 x6 (x8 + 1) _  hz)
theorem fr_X9_lays_35 {z : Int32 × GW} : ∀ (n9 : Nat), (∀ (x1 : Int32) (x2 : Int32) (x3 : Int32) (x4 : Int32) (x5 : Int32) (x6 : Int64) (x8 : Int32) (w : GW), f_X9_lays_35 n9 x1 x2 x3 x4 x5 x6 x8 w = some z → Sm L_X9_lays R_X9_lays w z.2) := by
  intro n9
  induction n9 with
  | zero =>
    intro x1 x2 x3 x4 x5 x6 x8 w hz
    rw [f_X9_lays_35] at hz
    cases hz
  | succ n9 ih =>
    intro x1 x2 x3 x4 x5 x6 x8 w hz
    rw [f_X9_lays_35] at hz
    rcases bri hz with hz | hz
    · exact (Sm.rf).tr (fr_X9_lays_92 x1 x2 x3 x4 x5 _ hz)
    · rcases bri hz with hz | hz
      · exact (Sm.rf).tr (fr_X9_lays_92 x1 x2 x3 x4 x5 _ hz)
      · obtain ⟨q21, e22, hz⟩ := bd hz
        have ie22 : Sub L_X9_isDoor L_X9_lays := by
          unfold L_X9_isDoor
          exact Sub.nil
        rcases bri hz with hz | hz
        · obtain ⟨-, hz⟩ := ck hz
          rcases bri hz with hz | hz
          · exact (((Sm.rf.call (fr_X9_isDoor x8 _ (z := q21) e22) ie22 (show ∀ r ∈ R_X9_isDoor, r ∈ R_X9_lays from by decide)).wL (lo := 130) (hi := 131) (c9 := 31) (show _ ∈ L_X9_lays from by simp [L_X9_lays]) (by decide) (by decide) (Or.inr rfl))).tr (fr_X9_lays_86 ih x1 x2 x3 x4 x5 x6 x8 _ hz)
          · cases hz
            exact (Sm.rf.call (fr_X9_isDoor x8 _ (z := q21)  e22) ie22 (show ∀ r ∈ R_X9_isDoor, r ∈ R_X9_lays from by decide))
        · exact ((Sm.rf.call (fr_X9_isDoor x8 _ (z := q21) e22) ie22 (show ∀ r ∈ R_X9_isDoor, r ∈ R_X9_lays from by decide))).tr (fr_X9_lays_86 ih x1 x2 x3 x4 x5 x6 x8 _ hz)
theorem fr_X9_lays (x1 : Int32) (x2 : Int32) (x3 : Int32) (x4 : Int32) (x5 : Int32) (w : GW) {z : Int32 × GW} : f_X9_lays x1 x2 x3 x4 x5 w = some z → Sm L_X9_lays R_X9_lays w z.2 := by
  intro  hz
  rw [f_X9_lays] at hz
  obtain ⟨h1, hz⟩ := ck hz
  obtain ⟨h2, hz⟩ := ck hz
  obtain ⟨q3, e4, hz⟩ := bd hz
  have ie4 : Sub L_X9_waysOf L_X9_lays := by
    unfold L_X9_waysOf
    exact Sub.nil
  exact ((((((Sm.rf.wI (lo := 130) (hi := 131) (c9 := 29) (show _ ∈ L_X9_lays from by simp [L_X9_lays]) (by decide) (by decide) (Or.inr rfl)).wI (lo := 139) (hi := 140) (c9 := 0) (show _ ∈ L_X9_lays from by simp [L_X9_lays]) (by decide) (by decide) (Or.inl rfl)).wL (lo := 142) (hi := 143) (c9 := 0) (show _ ∈ L_X9_lays from by simp [L_X9_lays]) (by decide) (by decide) (Or.inl rfl)).wL (lo := 130) (hi := 131) (c9 := 31) (show _ ∈ L_X9_lays from by simp [L_X9_lays]) (by decide) (by decide) (Or.inr rfl)).call (fr_X9_waysOf x1 x3 _ (z := q3) e4) ie4 (show ∀ r ∈ R_X9_waysOf, r ∈ R_X9_lays from by decide))).tr (fr_X9_lays_35 fu x1 x2 x3 x4 x5 q3.1 1 _ hz)
def L_X9_laysBy : List (Nat × Nat × Nat) := [(130, 131, 23), (130, 131, 29), (130, 131, 30), (130, 131, 31), (137, 138, 0), (138, 139, 0), (139, 140, 0), (140, 141, 0), (141, 142, 0), (142, 143, 0), (143, 144, 0)]
def R_X9_laysBy : List Nat := []
theorem fr_X9_laysBy (x1 : Int32) (x2 : Int32) (w : GW) {z : Int32 × GW} : f_X9_laysBy x1 x2 w = some z → Sm L_X9_laysBy R_X9_laysBy w z.2 := by
  intro  hz
  rw [f_X9_laysBy] at hz
  obtain ⟨h1, hz⟩ := ck hz
  obtain ⟨h2, hz⟩ := ck hz
  obtain ⟨h3, hz⟩ := ck hz
  obtain ⟨q4, e5, hz⟩ := bd hz
  have ie5 : Sub L_X9_lays L_X9_laysBy := by
    unfold L_X9_lays
    exact (Sub.cons (lo2 := 130) (hi2 := 131) (c2 := 23) (show _ ∈ L_X9_laysBy from by simp [L_X9_laysBy]) (by omega) (by omega) (Or.inr rfl) (Sub.cons (lo2 := 130) (hi2 := 131) (c2 := 29) (show _ ∈ L_X9_laysBy from by simp [L_X9_laysBy]) (by omega) (by omega) (Or.inr rfl) (Sub.cons (lo2 := 130) (hi2 := 131) (c2 := 30) (show _ ∈ L_X9_laysBy from by simp [L_X9_laysBy]) (by omega) (by omega) (Or.inr rfl) (Sub.cons (lo2 := 130) (hi2 := 131) (c2 := 31) (show _ ∈ L_X9_laysBy from by simp [L_X9_laysBy]) (by omega) (by omega) (Or.inr rfl) (Sub.cons (lo2 := 137) (hi2 := 138) (c2 := 0) (show _ ∈ L_X9_laysBy from by simp [L_X9_laysBy]) (by omega) (by omega) (Or.inl rfl) (Sub.cons (lo2 := 138) (hi2 := 139) (c2 := 0) (show _ ∈ L_X9_laysBy from by simp [L_X9_laysBy]) (by omega) (by omega) (Or.inl rfl) (Sub.cons (lo2 := 139) (hi2 := 140) (c2 := 0) (show _ ∈ L_X9_laysBy from by simp [L_X9_laysBy]) (by omega) (by omega) (Or.inl rfl) (Sub.cons (lo2 := 140) (hi2 := 141) (c2 := 0) (show _ ∈ L_X9_laysBy from by simp [L_X9_laysBy]) (by omega) (by omega) (Or.inl rfl) (Sub.cons (lo2 := 141) (hi2 := 142) (c2 := 0) (show _ ∈ L_X9_laysBy from by simp [L_X9_laysBy]) (by omega) (by omega) (Or.inl rfl) (Sub.cons (lo2 := 142) (hi2 := 143) (c2 := 0) (show _ ∈ L_X9_laysBy from by simp [L_X9_laysBy]) (by omega) (by omega) (Or.inl rfl) (Sub.cons (lo2 := 143) (hi2 := 144) (c2 := 0) (show _ ∈ L_X9_laysBy from by simp [L_X9_laysBy]) (by omega) (by omega) (Or.inl rfl) Sub.nil)))))))))))
  cases hz
  exact (Sm.rf.call (fr_X9_lays (gI w 133 (ix (24 + x1))) (gI w 133 (ix (30 + x1))) (gI w 133 (ix (18 + x1))) x2 1 _ (z := q4)  e5) ie5 (show ∀ r ∈ R_X9_lays, r ∈ R_X9_laysBy from by decide))
def L_X9_fullestOf : List (Nat × Nat × Nat) := [(130, 131, 23), (137, 138, 0)]
def R_X9_fullestOf : List Nat := []
theorem fr_X9_fullestOf_39 {z : Int32 × GW} {k_9 : Int32 → Int32 → GW → Option (Int32 × GW)} (Hk_9 : (∀ (x2 : Int32) (x3 : Int32) (w : GW), k_9 x2 x3 w = some z → Sm L_X9_fullestOf R_X9_fullestOf w z.2)) : (∀ (x3 : Int32) (t0 : Int32) (w : GW), f_X9_fullestOf_39 k_9 x3 t0 w = some z → Sm L_X9_fullestOf R_X9_fullestOf w z.2) := by
  intro x3 t0 w hz
  rw [f_X9_fullestOf_39] at hz
  exact (Sm.rf).tr (Hk_9 t0 (x3 + 1) _  hz)
theorem fr_X9_fullestOf_9 {z : Int32 × GW} : ∀ (n9 : Nat), (∀ (x2 : Int32) (x3 : Int32) (w : GW), f_X9_fullestOf_9 n9 x2 x3 w = some z → Sm L_X9_fullestOf R_X9_fullestOf w z.2) := by
  intro n9
  induction n9 with
  | zero =>
    intro x2 x3 w hz
    rw [f_X9_fullestOf_9] at hz
    cases hz
  | succ n9 ih =>
    intro x2 x3 w hz
    rw [f_X9_fullestOf_9] at hz
    obtain ⟨h3, hz⟩ := ck hz
    rcases bri hz with hz | hz
    · cases hz
      exact Sm.rf
    · obtain ⟨h4, hz⟩ := ck hz
      rcases bri hz with hz | hz
      · exact (Sm.rf).tr (fr_X9_fullestOf_39 ih x3 x2 _ hz)
      · obtain ⟨h5, hz⟩ := ck hz
        exact (Sm.rf).tr (fr_X9_fullestOf_39 ih x3 (gI w 137 (ix x3)) _ hz)
theorem fr_X9_fullestOf (x1 : Int32) (w : GW) {z : Int32 × GW} : f_X9_fullestOf x1 w = some z → Sm L_X9_fullestOf R_X9_fullestOf w z.2 := by
  intro  hz
  rw [f_X9_fullestOf] at hz
  obtain ⟨q1, e2, hz⟩ := bd hz
  have ie2 : Sub L_X9_layApart L_X9_fullestOf := by
    unfold L_X9_layApart
    exact (Sub.cons (lo2 := 130) (hi2 := 131) (c2 := 23) (show _ ∈ L_X9_fullestOf from by simp [L_X9_fullestOf]) (by omega) (by omega) (Or.inr rfl) (Sub.cons (lo2 := 137) (hi2 := 138) (c2 := 0) (show _ ∈ L_X9_fullestOf from by simp [L_X9_fullestOf]) (by omega) (by omega) (Or.inl rfl) Sub.nil))
  exact ((Sm.rf.call (fr_X9_layApart x1 _ (z := q1) e2) ie2 (show ∀ r ∈ R_X9_layApart, r ∈ R_X9_fullestOf from by decide))).tr (fr_X9_fullestOf_9 fu 0 0 _ hz)
def L_X9_waysOfFullest : List (Nat × Nat × Nat) := [(130, 131, 23), (137, 138, 0)]
def R_X9_waysOfFullest : List Nat := []
theorem fr_X9_waysOfFullest_41 {z : Int64 × GW} {k_5 : Int32 → Int64 → Int32 → GW → Option (Int64 × GW)} (Hk_5 : (∀ (x1 : Int32) (x2 : Int64) (x4 : Int32) (w : GW), k_5 x1 x2 x4 w = some z → Sm L_X9_waysOfFullest R_X9_waysOfFullest w z.2)) : (∀ (x1 : Int32) (x4 : Int32) (t0 : Int64) (t1 : Int64) (w : GW), f_X9_waysOfFullest_41 k_5 x1 x4 t0 t1 w = some z → Sm L_X9_waysOfFullest R_X9_waysOfFullest w z.2) := by
  intro x1 x4 t0 t1 w hz
  rw [f_X9_waysOfFullest_41] at hz
  exact (Sm.rf).tr (Hk_5 x1 (t1 + t0) (x4 + 1) _  hz)
theorem fr_X9_waysOfFullest_5 {z : Int64 × GW} : ∀ (n9 : Nat), (∀ (x1 : Int32) (x2 : Int64) (x4 : Int32) (w : GW), f_X9_waysOfFullest_5 n9 x1 x2 x4 w = some z → Sm L_X9_waysOfFullest R_X9_waysOfFullest w z.2) := by
  intro n9
  induction n9 with
  | zero =>
    intro x1 x2 x4 w hz
    rw [f_X9_waysOfFullest_5] at hz
    cases hz
  | succ n9 ih =>
    intro x1 x2 x4 w hz
    rw [f_X9_waysOfFullest_5] at hz
    rcases bri hz with hz | hz
    · cases hz
      exact Sm.rf
    · obtain ⟨h1, hz⟩ := ck hz
      obtain ⟨q2, e3, hz⟩ := bd hz
      have ie3 : Sub L_X9_fullestOf L_X9_waysOfFullest := by
        unfold L_X9_fullestOf
        exact (Sub.cons (lo2 := 130) (hi2 := 131) (c2 := 23) (show _ ∈ L_X9_waysOfFullest from by simp [L_X9_waysOfFullest]) (by omega) (by omega) (Or.inr rfl) (Sub.cons (lo2 := 137) (hi2 := 138) (c2 := 0) (show _ ∈ L_X9_waysOfFullest from by simp [L_X9_waysOfFullest]) (by omega) (by omega) (Or.inl rfl) Sub.nil))
      rcases bri hz with hz | hz
      · exact ((Sm.rf.call (fr_X9_fullestOf (gI w 139 (ix x4)) _ (z := q2) e3) ie3 (show ∀ r ∈ R_X9_fullestOf, r ∈ R_X9_waysOfFullest from by decide))).tr (fr_X9_waysOfFullest_41 ih x1 x4 0 x2 _ hz)
      · obtain ⟨h4, hz⟩ := ck hz
        exact ((Sm.rf.call (fr_X9_fullestOf (gI w 139 (ix x4)) _ (z := q2) e3) ie3 (show ∀ r ∈ R_X9_fullestOf, r ∈ R_X9_waysOfFullest from by decide))).tr (fr_X9_waysOfFullest_41 ih x1 x4 (gL q2.2 142 (ix x4)) x2 _ hz)
theorem fr_X9_waysOfFullest (x1 : Int32) (w : GW) {z : Int64 × GW} : f_X9_waysOfFullest x1 w = some z → Sm L_X9_waysOfFullest R_X9_waysOfFullest w z.2 := by
  intro  hz
  rw [f_X9_waysOfFullest] at hz
  exact (Sm.rf).tr (fr_X9_waysOfFullest_5 fu x1 0 0 _ hz)
def L_X9_common : List (Nat × Nat × Nat) := []
def R_X9_common : List Nat := []
theorem fr_X9_common_6 {z : Int64 × GW} : ∀ (n9 : Nat), (∀ (x4 : Int64) (x6 : Int64) (w : GW), f_X9_common_6 n9 x4 x6 w = some z → Sm L_X9_common R_X9_common w z.2) := by
  intro n9
  induction n9 with
  | zero =>
    intro x4 x6 w hz
    rw [f_X9_common_6] at hz
    cases hz
  | succ n9 ih =>
    intro x4 x6 w hz
    rw [f_X9_common_6] at hz
    rcases bri hz with hz | hz
    · cases hz
      exact Sm.rf
    · obtain ⟨-, hz⟩ := ck hz
      exact (Sm.rf).tr (ih x6 (lrm x4 x6) _  hz)
theorem fr_X9_common (x0 : Int64) (x2 : Int64) (w : GW) {z : Int64 × GW} : f_X9_common x0 x2 w = some z → Sm L_X9_common R_X9_common w z.2 := by
  intro  hz
  rw [f_X9_common] at hz
  exact (Sm.rf).tr (fr_X9_common_6 fu x0 x2 _ hz)
def L_X9_lowest : List (Nat × Nat × Nat) := []
def R_X9_lowest : List Nat := []
theorem fr_X9_lowest (x0 : Int64) (x2 : Int64) (x4 : Int32) (w : GW) {z : Int64 × GW} : f_X9_lowest x0 x2 x4 w = some z → Sm L_X9_lowest R_X9_lowest w z.2 := by
  intro  hz
  rw [f_X9_lowest] at hz
  obtain ⟨q1, e2, hz⟩ := bd hz
  have ie2 : Sub L_X9_common L_X9_lowest := by
    unfold L_X9_common
    exact Sub.nil
  rcases bri hz with hz | hz
  · obtain ⟨-, hz⟩ := ck hz
    cases hz
    exact (Sm.rf.call (fr_X9_common x0 x2 _ (z := q1)  e2) ie2 (show ∀ r ∈ R_X9_common, r ∈ R_X9_lowest from by decide))
  · obtain ⟨-, hz⟩ := ck hz
    cases hz
    exact (Sm.rf.call (fr_X9_common x0 x2 _ (z := q1)  e2) ie2 (show ∀ r ∈ R_X9_common, r ∈ R_X9_lowest from by decide))
def L_X9_chanceWhy : List (Nat × Nat × Nat) := [(130, 131, 23), (130, 131, 29), (130, 131, 30), (130, 131, 31), (137, 138, 0), (138, 139, 0), (139, 140, 0), (140, 141, 0), (141, 142, 0), (142, 143, 0), (143, 144, 0)]
def R_X9_chanceWhy : List Nat := []
theorem fr_X9_chanceWhy (x1 : Int32) (x2 : Int32) (x3 : Int32) (w : GW) {z : Int32 × GW} : f_X9_chanceWhy x1 x2 x3 w = some z → Sm L_X9_chanceWhy R_X9_chanceWhy w z.2 := by
  intro  hz
  rw [f_X9_chanceWhy] at hz
  obtain ⟨q1, e2, hz⟩ := bd hz
  have ie2 : Sub L_X9_isPorter L_X9_chanceWhy := by
    unfold L_X9_isPorter
    exact Sub.nil
  rcases bri hz with hz | hz
  · cases hz
    exact (Sm.rf.call (fr_X9_isPorter x1 _ (z := q1)  e2) ie2 (show ∀ r ∈ R_X9_isPorter, r ∈ R_X9_chanceWhy from by decide))
  · obtain ⟨h3, hz⟩ := ck hz
    obtain ⟨q4, e5, hz⟩ := bd hz
    have ie5 : Sub L_X9_within L_X9_chanceWhy := by
      unfold L_X9_within
      exact Sub.nil
    rcases bri hz with hz | hz
    · cases hz
      exact ((Sm.rf.call (fr_X9_isPorter x1 _ (z := q1)  e2) ie2 (show ∀ r ∈ R_X9_isPorter, r ∈ R_X9_chanceWhy from by decide)).call (fr_X9_within x2 0 (gI q1.2 133 (ix 1)) _ (z := q4)  e5) ie5 (show ∀ r ∈ R_X9_within, r ∈ R_X9_chanceWhy from by decide))
    · rcases bri hz with hz | hz
      · cases hz
        exact ((Sm.rf.call (fr_X9_isPorter x1 _ (z := q1)  e2) ie2 (show ∀ r ∈ R_X9_isPorter, r ∈ R_X9_chanceWhy from by decide)).call (fr_X9_within x2 0 (gI q1.2 133 (ix 1)) _ (z := q4)  e5) ie5 (show ∀ r ∈ R_X9_within, r ∈ R_X9_chanceWhy from by decide))
      · obtain ⟨q6, e7, hz⟩ := bd hz
        have ie7 : Sub L_X9_laysBy L_X9_chanceWhy := by
          unfold L_X9_laysBy
          exact (Sub.cons (lo2 := 130) (hi2 := 131) (c2 := 23) (show _ ∈ L_X9_chanceWhy from by simp [L_X9_chanceWhy]) (by omega) (by omega) (Or.inr rfl) (Sub.cons (lo2 := 130) (hi2 := 131) (c2 := 29) (show _ ∈ L_X9_chanceWhy from by simp [L_X9_chanceWhy]) (by omega) (by omega) (Or.inr rfl) (Sub.cons (lo2 := 130) (hi2 := 131) (c2 := 30) (show _ ∈ L_X9_chanceWhy from by simp [L_X9_chanceWhy]) (by omega) (by omega) (Or.inr rfl) (Sub.cons (lo2 := 130) (hi2 := 131) (c2 := 31) (show _ ∈ L_X9_chanceWhy from by simp [L_X9_chanceWhy]) (by omega) (by omega) (Or.inr rfl) (Sub.cons (lo2 := 137) (hi2 := 138) (c2 := 0) (show _ ∈ L_X9_chanceWhy from by simp [L_X9_chanceWhy]) (by omega) (by omega) (Or.inl rfl) (Sub.cons (lo2 := 138) (hi2 := 139) (c2 := 0) (show _ ∈ L_X9_chanceWhy from by simp [L_X9_chanceWhy]) (by omega) (by omega) (Or.inl rfl) (Sub.cons (lo2 := 139) (hi2 := 140) (c2 := 0) (show _ ∈ L_X9_chanceWhy from by simp [L_X9_chanceWhy]) (by omega) (by omega) (Or.inl rfl) (Sub.cons (lo2 := 140) (hi2 := 141) (c2 := 0) (show _ ∈ L_X9_chanceWhy from by simp [L_X9_chanceWhy]) (by omega) (by omega) (Or.inl rfl) (Sub.cons (lo2 := 141) (hi2 := 142) (c2 := 0) (show _ ∈ L_X9_chanceWhy from by simp [L_X9_chanceWhy]) (by omega) (by omega) (Or.inl rfl) (Sub.cons (lo2 := 142) (hi2 := 143) (c2 := 0) (show _ ∈ L_X9_chanceWhy from by simp [L_X9_chanceWhy]) (by omega) (by omega) (Or.inl rfl) (Sub.cons (lo2 := 143) (hi2 := 144) (c2 := 0) (show _ ∈ L_X9_chanceWhy from by simp [L_X9_chanceWhy]) (by omega) (by omega) (Or.inl rfl) Sub.nil)))))))))))
        rcases bri hz with hz | hz
        · cases hz
          exact (((Sm.rf.call (fr_X9_isPorter x1 _ (z := q1)  e2) ie2 (show ∀ r ∈ R_X9_isPorter, r ∈ R_X9_chanceWhy from by decide)).call (fr_X9_within x2 0 (gI q1.2 133 (ix 1)) _ (z := q4)  e5) ie5 (show ∀ r ∈ R_X9_within, r ∈ R_X9_chanceWhy from by decide)).call (fr_X9_laysBy x1 x2 _ (z := q6)  e7) ie7 (show ∀ r ∈ R_X9_laysBy, r ∈ R_X9_chanceWhy from by decide))
        · cases hz
          exact (((Sm.rf.call (fr_X9_isPorter x1 _ (z := q1)  e2) ie2 (show ∀ r ∈ R_X9_isPorter, r ∈ R_X9_chanceWhy from by decide)).call (fr_X9_within x2 0 (gI q1.2 133 (ix 1)) _ (z := q4)  e5) ie5 (show ∀ r ∈ R_X9_within, r ∈ R_X9_chanceWhy from by decide)).call (fr_X9_laysBy x1 x2 _ (z := q6)  e7) ie7 (show ∀ r ∈ R_X9_laysBy, r ∈ R_X9_chanceWhy from by decide))
def L_X9_fullest : List (Nat × Nat × Nat) := [(130, 131, 1), (130, 131, 12), (130, 131, 23), (130, 131, 29), (130, 131, 30), (130, 131, 31), (137, 138, 0), (138, 139, 0), (139, 140, 0), (140, 141, 0), (141, 142, 0), (142, 143, 0), (143, 144, 0)]
def R_X9_fullest : List Nat := []
theorem fr_X9_fullest (x1 : Int32) (x2 : Int32) (x3 : Int32) (x4 : Int32) (w : GW) {z : Int64 × GW} : f_X9_fullest x1 x2 x3 x4 w = some z → Sm L_X9_fullest R_X9_fullest w z.2 := by
  intro  hz
  rw [f_X9_fullest] at hz
  obtain ⟨q1, e2, hz⟩ := bd hz
  have ie2 : Sub L_X9_good L_X9_fullest := by
    unfold L_X9_good
    exact (Sub.cons (lo2 := 130) (hi2 := 131) (c2 := 1) (show _ ∈ L_X9_fullest from by simp [L_X9_fullest]) (by omega) (by omega) (Or.inr rfl) (Sub.cons (lo2 := 130) (hi2 := 131) (c2 := 12) (show _ ∈ L_X9_fullest from by simp [L_X9_fullest]) (by omega) (by omega) (Or.inr rfl) Sub.nil))
  obtain ⟨q3, e4, hz⟩ := bd hz
  have ie4 : Sub L_X9_within L_X9_fullest := by
    unfold L_X9_within
    exact Sub.nil
  obtain ⟨q5, e6, hz⟩ := bd hz
  have ie6 : Sub L_X9_chanceWhy L_X9_fullest := by
    unfold L_X9_chanceWhy
    exact (Sub.cons (lo2 := 130) (hi2 := 131) (c2 := 23) (show _ ∈ L_X9_fullest from by simp [L_X9_fullest]) (by omega) (by omega) (Or.inr rfl) (Sub.cons (lo2 := 130) (hi2 := 131) (c2 := 29) (show _ ∈ L_X9_fullest from by simp [L_X9_fullest]) (by omega) (by omega) (Or.inr rfl) (Sub.cons (lo2 := 130) (hi2 := 131) (c2 := 30) (show _ ∈ L_X9_fullest from by simp [L_X9_fullest]) (by omega) (by omega) (Or.inr rfl) (Sub.cons (lo2 := 130) (hi2 := 131) (c2 := 31) (show _ ∈ L_X9_fullest from by simp [L_X9_fullest]) (by omega) (by omega) (Or.inr rfl) (Sub.cons (lo2 := 137) (hi2 := 138) (c2 := 0) (show _ ∈ L_X9_fullest from by simp [L_X9_fullest]) (by omega) (by omega) (Or.inl rfl) (Sub.cons (lo2 := 138) (hi2 := 139) (c2 := 0) (show _ ∈ L_X9_fullest from by simp [L_X9_fullest]) (by omega) (by omega) (Or.inl rfl) (Sub.cons (lo2 := 139) (hi2 := 140) (c2 := 0) (show _ ∈ L_X9_fullest from by simp [L_X9_fullest]) (by omega) (by omega) (Or.inl rfl) (Sub.cons (lo2 := 140) (hi2 := 141) (c2 := 0) (show _ ∈ L_X9_fullest from by simp [L_X9_fullest]) (by omega) (by omega) (Or.inl rfl) (Sub.cons (lo2 := 141) (hi2 := 142) (c2 := 0) (show _ ∈ L_X9_fullest from by simp [L_X9_fullest]) (by omega) (by omega) (Or.inl rfl) (Sub.cons (lo2 := 142) (hi2 := 143) (c2 := 0) (show _ ∈ L_X9_fullest from by simp [L_X9_fullest]) (by omega) (by omega) (Or.inl rfl) (Sub.cons (lo2 := 143) (hi2 := 144) (c2 := 0) (show _ ∈ L_X9_fullest from by simp [L_X9_fullest]) (by omega) (by omega) (Or.inl rfl) Sub.nil)))))))))))
  rcases bri hz with hz | hz
  · obtain ⟨q7, e8, hz⟩ := bd hz
    have ie8 : Sub L_X9_waysOfFullest L_X9_fullest := by
      unfold L_X9_waysOfFullest
      exact (Sub.cons (lo2 := 130) (hi2 := 131) (c2 := 23) (show _ ∈ L_X9_fullest from by simp [L_X9_fullest]) (by omega) (by omega) (Or.inr rfl) (Sub.cons (lo2 := 137) (hi2 := 138) (c2 := 0) (show _ ∈ L_X9_fullest from by simp [L_X9_fullest]) (by omega) (by omega) (Or.inl rfl) Sub.nil))
    obtain ⟨q9, e10, hz⟩ := bd hz
    have ie10 : Sub L_X9_lowest L_X9_fullest := by
      unfold L_X9_lowest
      exact Sub.nil
    cases hz
    exact (((((Sm.rf.call (fr_X9_good  _ (z := q1)  e2) ie2 (show ∀ r ∈ R_X9_good, r ∈ R_X9_fullest from by decide)).call (fr_X9_within x3 0 9 _ (z := q3)  e4) ie4 (show ∀ r ∈ R_X9_within, r ∈ R_X9_fullest from by decide)).call (fr_X9_chanceWhy x1 x2 q3.1 _ (z := q5)  e6) ie6 (show ∀ r ∈ R_X9_chanceWhy, r ∈ R_X9_fullest from by decide)).call (fr_X9_waysOfFullest x3 _ (z := q7)  e8) ie8 (show ∀ r ∈ R_X9_waysOfFullest, r ∈ R_X9_fullest from by decide)).call (fr_X9_lowest q7.1 (gL q7.2 130 30) x4 _ (z := q9)  e10) ie10 (show ∀ r ∈ R_X9_lowest, r ∈ R_X9_fullest from by decide))
  · obtain ⟨q11, e12, hz⟩ := bd hz
    have ie12 : Sub L_X9_no L_X9_fullest := by
      unfold L_X9_no
      exact (Sub.cons (lo2 := 130) (hi2 := 131) (c2 := 12) (show _ ∈ L_X9_fullest from by simp [L_X9_fullest]) (by omega) (by omega) (Or.inr rfl) Sub.nil)
    cases hz
    exact ((((Sm.rf.call (fr_X9_good  _ (z := q1)  e2) ie2 (show ∀ r ∈ R_X9_good, r ∈ R_X9_fullest from by decide)).call (fr_X9_within x3 0 9 _ (z := q3)  e4) ie4 (show ∀ r ∈ R_X9_within, r ∈ R_X9_fullest from by decide)).call (fr_X9_chanceWhy x1 x2 q3.1 _ (z := q5)  e6) ie6 (show ∀ r ∈ R_X9_chanceWhy, r ∈ R_X9_fullest from by decide)).call (fr_X9_no q5.1 _ (z := q11)  e12) ie12 (show ∀ r ∈ R_X9_no, r ∈ R_X9_fullest from by decide))
def L_X9_emptyOf : List (Nat × Nat × Nat) := [(130, 131, 23), (137, 138, 0)]
def R_X9_emptyOf : List Nat := []
theorem fr_X9_emptyOf_34 {z : Int32 × GW} {k_9 : Int32 → Int32 → GW → Option (Int32 × GW)} (Hk_9 : (∀ (x2 : Int32) (x3 : Int32) (w : GW), k_9 x2 x3 w = some z → Sm L_X9_emptyOf R_X9_emptyOf w z.2)) : (∀ (x3 : Int32) (t0 : Int32) (t1 : Int32) (w : GW), f_X9_emptyOf_34 k_9 x3 t0 t1 w = some z → Sm L_X9_emptyOf R_X9_emptyOf w z.2) := by
  intro x3 t0 t1 w hz
  rw [f_X9_emptyOf_34] at hz
  exact (Sm.rf).tr (Hk_9 (t1 + t0) (x3 + 1) _  hz)
theorem fr_X9_emptyOf_9 {z : Int32 × GW} : ∀ (n9 : Nat), (∀ (x2 : Int32) (x3 : Int32) (w : GW), f_X9_emptyOf_9 n9 x2 x3 w = some z → Sm L_X9_emptyOf R_X9_emptyOf w z.2) := by
  intro n9
  induction n9 with
  | zero =>
    intro x2 x3 w hz
    rw [f_X9_emptyOf_9] at hz
    cases hz
  | succ n9 ih =>
    intro x2 x3 w hz
    rw [f_X9_emptyOf_9] at hz
    obtain ⟨h3, hz⟩ := ck hz
    rcases bri hz with hz | hz
    · cases hz
      exact Sm.rf
    · obtain ⟨h4, hz⟩ := ck hz
      rcases bri hz with hz | hz
      · exact (Sm.rf).tr (fr_X9_emptyOf_34 ih x3 1 x2 _ hz)
      · exact (Sm.rf).tr (fr_X9_emptyOf_34 ih x3 0 x2 _ hz)
theorem fr_X9_emptyOf (x1 : Int32) (w : GW) {z : Int32 × GW} : f_X9_emptyOf x1 w = some z → Sm L_X9_emptyOf R_X9_emptyOf w z.2 := by
  intro  hz
  rw [f_X9_emptyOf] at hz
  obtain ⟨q1, e2, hz⟩ := bd hz
  have ie2 : Sub L_X9_layApart L_X9_emptyOf := by
    unfold L_X9_layApart
    exact (Sub.cons (lo2 := 130) (hi2 := 131) (c2 := 23) (show _ ∈ L_X9_emptyOf from by simp [L_X9_emptyOf]) (by omega) (by omega) (Or.inr rfl) (Sub.cons (lo2 := 137) (hi2 := 138) (c2 := 0) (show _ ∈ L_X9_emptyOf from by simp [L_X9_emptyOf]) (by omega) (by omega) (Or.inl rfl) Sub.nil))
  exact ((Sm.rf.call (fr_X9_layApart x1 _ (z := q1) e2) ie2 (show ∀ r ∈ R_X9_layApart, r ∈ R_X9_emptyOf from by decide))).tr (fr_X9_emptyOf_9 fu 0 0 _ hz)
def L_X9_empty : List (Nat × Nat × Nat) := [(130, 131, 1), (130, 131, 12), (130, 131, 23), (130, 131, 29), (130, 131, 30), (130, 131, 31), (137, 138, 0), (138, 139, 0), (139, 140, 0), (140, 141, 0), (141, 142, 0), (142, 143, 0), (143, 144, 0)]
def R_X9_empty : List Nat := []
theorem fr_X9_empty_74 {z : Int64 × GW} {k_37 : Int32 → Int32 → Int64 → Int32 → GW → Option (Int64 × GW)} (Hk_37 : (∀ (x3 : Int32) (x4 : Int32) (x6 : Int64) (x8 : Int32) (w : GW), k_37 x3 x4 x6 x8 w = some z → Sm L_X9_empty R_X9_empty w z.2)) : (∀ (x3 : Int32) (x4 : Int32) (x8 : Int32) (t0 : Int64) (t1 : Int64) (w : GW), f_X9_empty_74 k_37 x3 x4 x8 t0 t1 w = some z → Sm L_X9_empty R_X9_empty w z.2) := by
  intro x3 x4 x8 t0 t1 w hz
  rw [f_X9_empty_74] at hz
  exact (Sm.rf).tr (Hk_37 x3 x4 (t1 + t0) (x8 + 1) _  hz)
theorem fr_X9_empty_37 {z : Int64 × GW} : ∀ (n9 : Nat), (∀ (x3 : Int32) (x4 : Int32) (x6 : Int64) (x8 : Int32) (w : GW), f_X9_empty_37 n9 x3 x4 x6 x8 w = some z → Sm L_X9_empty R_X9_empty w z.2) := by
  intro n9
  induction n9 with
  | zero =>
    intro x3 x4 x6 x8 w hz
    rw [f_X9_empty_37] at hz
    cases hz
  | succ n9 ih =>
    intro x3 x4 x6 x8 w hz
    rw [f_X9_empty_37] at hz
    rcases bri hz with hz | hz
    · obtain ⟨q7, e8, hz⟩ := bd hz
      have ie8 : Sub L_X9_lowest L_X9_empty := by
        unfold L_X9_lowest
        exact Sub.nil
      cases hz
      exact (Sm.rf.call (fr_X9_lowest x6 (gL w 130 30) x4 _ (z := q7)  e8) ie8 (show ∀ r ∈ R_X9_lowest, r ∈ R_X9_empty from by decide))
    · obtain ⟨h9, hz⟩ := ck hz
      obtain ⟨q10, e11, hz⟩ := bd hz
      have ie11 : Sub L_X9_emptyOf L_X9_empty := by
        unfold L_X9_emptyOf
        exact (Sub.cons (lo2 := 130) (hi2 := 131) (c2 := 23) (show _ ∈ L_X9_empty from by simp [L_X9_empty]) (by omega) (by omega) (Or.inr rfl) (Sub.cons (lo2 := 137) (hi2 := 138) (c2 := 0) (show _ ∈ L_X9_empty from by simp [L_X9_empty]) (by omega) (by omega) (Or.inl rfl) Sub.nil))
      rcases bri hz with hz | hz
      · obtain ⟨h12, hz⟩ := ck hz
        exact ((Sm.rf.call (fr_X9_emptyOf (gI w 139 (ix x8)) _ (z := q10) e11) ie11 (show ∀ r ∈ R_X9_emptyOf, r ∈ R_X9_empty from by decide))).tr (fr_X9_empty_74 ih x3 x4 x8 (gL q10.2 142 (ix x8)) x6 _ hz)
      · exact ((Sm.rf.call (fr_X9_emptyOf (gI w 139 (ix x8)) _ (z := q10) e11) ie11 (show ∀ r ∈ R_X9_emptyOf, r ∈ R_X9_empty from by decide))).tr (fr_X9_empty_74 ih x3 x4 x8 0 x6 _ hz)
theorem fr_X9_empty (x1 : Int32) (x2 : Int32) (x3 : Int32) (x4 : Int32) (w : GW) {z : Int64 × GW} : f_X9_empty x1 x2 x3 x4 w = some z → Sm L_X9_empty R_X9_empty w z.2 := by
  intro  hz
  rw [f_X9_empty] at hz
  obtain ⟨q1, e2, hz⟩ := bd hz
  have ie2 : Sub L_X9_good L_X9_empty := by
    unfold L_X9_good
    exact (Sub.cons (lo2 := 130) (hi2 := 131) (c2 := 1) (show _ ∈ L_X9_empty from by simp [L_X9_empty]) (by omega) (by omega) (Or.inr rfl) (Sub.cons (lo2 := 130) (hi2 := 131) (c2 := 12) (show _ ∈ L_X9_empty from by simp [L_X9_empty]) (by omega) (by omega) (Or.inr rfl) Sub.nil))
  obtain ⟨q3, e4, hz⟩ := bd hz
  have ie4 : Sub L_X9_within L_X9_empty := by
    unfold L_X9_within
    exact Sub.nil
  obtain ⟨q5, e6, hz⟩ := bd hz
  have ie6 : Sub L_X9_chanceWhy L_X9_empty := by
    unfold L_X9_chanceWhy
    exact (Sub.cons (lo2 := 130) (hi2 := 131) (c2 := 23) (show _ ∈ L_X9_empty from by simp [L_X9_empty]) (by omega) (by omega) (Or.inr rfl) (Sub.cons (lo2 := 130) (hi2 := 131) (c2 := 29) (show _ ∈ L_X9_empty from by simp [L_X9_empty]) (by omega) (by omega) (Or.inr rfl) (Sub.cons (lo2 := 130) (hi2 := 131) (c2 := 30) (show _ ∈ L_X9_empty from by simp [L_X9_empty]) (by omega) (by omega) (Or.inr rfl) (Sub.cons (lo2 := 130) (hi2 := 131) (c2 := 31) (show _ ∈ L_X9_empty from by simp [L_X9_empty]) (by omega) (by omega) (Or.inr rfl) (Sub.cons (lo2 := 137) (hi2 := 138) (c2 := 0) (show _ ∈ L_X9_empty from by simp [L_X9_empty]) (by omega) (by omega) (Or.inl rfl) (Sub.cons (lo2 := 138) (hi2 := 139) (c2 := 0) (show _ ∈ L_X9_empty from by simp [L_X9_empty]) (by omega) (by omega) (Or.inl rfl) (Sub.cons (lo2 := 139) (hi2 := 140) (c2 := 0) (show _ ∈ L_X9_empty from by simp [L_X9_empty]) (by omega) (by omega) (Or.inl rfl) (Sub.cons (lo2 := 140) (hi2 := 141) (c2 := 0) (show _ ∈ L_X9_empty from by simp [L_X9_empty]) (by omega) (by omega) (Or.inl rfl) (Sub.cons (lo2 := 141) (hi2 := 142) (c2 := 0) (show _ ∈ L_X9_empty from by simp [L_X9_empty]) (by omega) (by omega) (Or.inl rfl) (Sub.cons (lo2 := 142) (hi2 := 143) (c2 := 0) (show _ ∈ L_X9_empty from by simp [L_X9_empty]) (by omega) (by omega) (Or.inl rfl) (Sub.cons (lo2 := 143) (hi2 := 144) (c2 := 0) (show _ ∈ L_X9_empty from by simp [L_X9_empty]) (by omega) (by omega) (Or.inl rfl) Sub.nil)))))))))))
  rcases bri hz with hz | hz
  · exact ((((Sm.rf.call (fr_X9_good _ (z := q1) e2) ie2 (show ∀ r ∈ R_X9_good, r ∈ R_X9_empty from by decide)).call (fr_X9_within x3 0 5 _ (z := q3) e4) ie4 (show ∀ r ∈ R_X9_within, r ∈ R_X9_empty from by decide)).call (fr_X9_chanceWhy x1 x2 q3.1 _ (z := q5) e6) ie6 (show ∀ r ∈ R_X9_chanceWhy, r ∈ R_X9_empty from by decide))).tr (fr_X9_empty_37 fu x3 x4 0 0 _ hz)
  · obtain ⟨q13, e14, hz⟩ := bd hz
    have ie14 : Sub L_X9_no L_X9_empty := by
      unfold L_X9_no
      exact (Sub.cons (lo2 := 130) (hi2 := 131) (c2 := 12) (show _ ∈ L_X9_empty from by simp [L_X9_empty]) (by omega) (by omega) (Or.inr rfl) Sub.nil)
    cases hz
    exact ((((Sm.rf.call (fr_X9_good  _ (z := q1)  e2) ie2 (show ∀ r ∈ R_X9_good, r ∈ R_X9_empty from by decide)).call (fr_X9_within x3 0 5 _ (z := q3)  e4) ie4 (show ∀ r ∈ R_X9_within, r ∈ R_X9_empty from by decide)).call (fr_X9_chanceWhy x1 x2 q3.1 _ (z := q5)  e6) ie6 (show ∀ r ∈ R_X9_chanceWhy, r ∈ R_X9_empty from by decide)).call (fr_X9_no q5.1 _ (z := q13)  e14) ie14 (show ∀ r ∈ R_X9_no, r ∈ R_X9_empty from by decide))
def L_X9_holds : List (Nat × Nat × Nat) := [(130, 131, 1), (130, 131, 12), (130, 131, 23), (130, 131, 29), (130, 131, 30), (130, 131, 31), (137, 138, 0), (138, 139, 0), (139, 140, 0), (140, 141, 0), (141, 142, 0), (142, 143, 0), (143, 144, 0)]
def R_X9_holds : List Nat := []
theorem fr_X9_holds_20 {z : Int64 × GW} : (∀ (w : GW), f_X9_holds_20 w = some z → Sm L_X9_holds R_X9_holds w z.2) := by
  intro w hz
  rw [f_X9_holds_20] at hz
  obtain ⟨q5, e6, hz⟩ := bd hz
  have ie6 : Sub L_X9_no L_X9_holds := by
    unfold L_X9_no
    exact (Sub.cons (lo2 := 130) (hi2 := 131) (c2 := 12) (show _ ∈ L_X9_holds from by simp [L_X9_holds]) (by omega) (by omega) (Or.inr rfl) Sub.nil)
  cases hz
  exact (Sm.rf.call (fr_X9_no 1 _ (z := q5)  e6) ie6 (show ∀ r ∈ R_X9_no, r ∈ R_X9_holds from by decide))
theorem fr_X9_holds_106 {z : Int64 × GW} {k_62 : Int32 → Int32 → Int32 → Int64 → Int32 → GW → Option (Int64 × GW)} (Hk_62 : (∀ (x3 : Int32) (x4 : Int32) (x5 : Int32) (x7 : Int64) (x9 : Int32) (w : GW), k_62 x3 x4 x5 x7 x9 w = some z → Sm L_X9_holds R_X9_holds w z.2)) : (∀ (x3 : Int32) (x4 : Int32) (x5 : Int32) (x9 : Int32) (t0 : Int64) (t1 : Int64) (w : GW), f_X9_holds_106 k_62 x3 x4 x5 x9 t0 t1 w = some z → Sm L_X9_holds R_X9_holds w z.2) := by
  intro x3 x4 x5 x9 t0 t1 w hz
  rw [f_X9_holds_106] at hz
  exact (Sm.rf).tr (Hk_62 x3 x4 x5 (t1 + t0) (x9 + 1) _  hz)
theorem fr_X9_holds_62 {z : Int64 × GW} : ∀ (n9 : Nat), (∀ (x3 : Int32) (x4 : Int32) (x5 : Int32) (x7 : Int64) (x9 : Int32) (w : GW), f_X9_holds_62 n9 x3 x4 x5 x7 x9 w = some z → Sm L_X9_holds R_X9_holds w z.2) := by
  intro n9
  induction n9 with
  | zero =>
    intro x3 x4 x5 x7 x9 w hz
    rw [f_X9_holds_62] at hz
    cases hz
  | succ n9 ih =>
    intro x3 x4 x5 x7 x9 w hz
    rw [f_X9_holds_62] at hz
    rcases bri hz with hz | hz
    · obtain ⟨q13, e14, hz⟩ := bd hz
      have ie14 : Sub L_X9_lowest L_X9_holds := by
        unfold L_X9_lowest
        exact Sub.nil
      cases hz
      exact (Sm.rf.call (fr_X9_lowest x7 (gL w 130 30) x5 _ (z := q13)  e14) ie14 (show ∀ r ∈ R_X9_lowest, r ∈ R_X9_holds from by decide))
    · obtain ⟨h15, hz⟩ := ck hz
      obtain ⟨q16, e17, hz⟩ := bd hz
      have ie17 : Sub L_X9_layApart L_X9_holds := by
        unfold L_X9_layApart
        exact (Sub.cons (lo2 := 130) (hi2 := 131) (c2 := 23) (show _ ∈ L_X9_holds from by simp [L_X9_holds]) (by omega) (by omega) (Or.inr rfl) (Sub.cons (lo2 := 137) (hi2 := 138) (c2 := 0) (show _ ∈ L_X9_holds from by simp [L_X9_holds]) (by omega) (by omega) (Or.inl rfl) Sub.nil))
      obtain ⟨h18, hz⟩ := ck hz
      rcases bri hz with hz | hz
      · obtain ⟨h19, hz⟩ := ck hz
        exact ((Sm.rf.call (fr_X9_layApart (gI w 139 (ix x9)) _ (z := q16) e17) ie17 (show ∀ r ∈ R_X9_layApart, r ∈ R_X9_holds from by decide))).tr (fr_X9_holds_106 ih x3 x4 x5 x9 (gL q16.2 142 (ix x9)) x7 _ hz)
      · exact ((Sm.rf.call (fr_X9_layApart (gI w 139 (ix x9)) _ (z := q16) e17) ie17 (show ∀ r ∈ R_X9_layApart, r ∈ R_X9_holds from by decide))).tr (fr_X9_holds_106 ih x3 x4 x5 x9 0 x7 _ hz)
theorem fr_X9_holds (x1 : Int32) (x2 : Int32) (x3 : Int32) (x4 : Int32) (x5 : Int32) (w : GW) {z : Int64 × GW} : f_X9_holds x1 x2 x3 x4 x5 w = some z → Sm L_X9_holds R_X9_holds w z.2 := by
  intro  hz
  rw [f_X9_holds] at hz
  obtain ⟨q1, e2, hz⟩ := bd hz
  have ie2 : Sub L_X9_good L_X9_holds := by
    unfold L_X9_good
    exact (Sub.cons (lo2 := 130) (hi2 := 131) (c2 := 1) (show _ ∈ L_X9_holds from by simp [L_X9_holds]) (by omega) (by omega) (Or.inr rfl) (Sub.cons (lo2 := 130) (hi2 := 131) (c2 := 12) (show _ ∈ L_X9_holds from by simp [L_X9_holds]) (by omega) (by omega) (Or.inr rfl) Sub.nil))
  obtain ⟨q3, e4, hz⟩ := bd hz
  have ie4 : Sub L_X9_isPorter L_X9_holds := by
    unfold L_X9_isPorter
    exact Sub.nil
  rcases bri hz with hz | hz
  · exact (((Sm.rf.call (fr_X9_good _ (z := q1) e2) ie2 (show ∀ r ∈ R_X9_good, r ∈ R_X9_holds from by decide)).call (fr_X9_isPorter x1 _ (z := q3) e4) ie4 (show ∀ r ∈ R_X9_isPorter, r ∈ R_X9_holds from by decide))).tr (fr_X9_holds_20 _ hz)
  · obtain ⟨q7, e8, hz⟩ := bd hz
    have ie8 : Sub L_X9_isBox L_X9_holds := by
      unfold L_X9_isBox
      exact Sub.nil
    rcases bri hz with hz | hz
    · exact ((((Sm.rf.call (fr_X9_good _ (z := q1) e2) ie2 (show ∀ r ∈ R_X9_good, r ∈ R_X9_holds from by decide)).call (fr_X9_isPorter x1 _ (z := q3) e4) ie4 (show ∀ r ∈ R_X9_isPorter, r ∈ R_X9_holds from by decide)).call (fr_X9_isBox x3 _ (z := q7) e8) ie8 (show ∀ r ∈ R_X9_isBox, r ∈ R_X9_holds from by decide))).tr (fr_X9_holds_20 _ hz)
    · obtain ⟨q9, e10, hz⟩ := bd hz
      have ie10 : Sub L_X9_within L_X9_holds := by
        unfold L_X9_within
        exact Sub.nil
      obtain ⟨q11, e12, hz⟩ := bd hz
      have ie12 : Sub L_X9_chanceWhy L_X9_holds := by
        unfold L_X9_chanceWhy
        exact (Sub.cons (lo2 := 130) (hi2 := 131) (c2 := 23) (show _ ∈ L_X9_holds from by simp [L_X9_holds]) (by omega) (by omega) (Or.inr rfl) (Sub.cons (lo2 := 130) (hi2 := 131) (c2 := 29) (show _ ∈ L_X9_holds from by simp [L_X9_holds]) (by omega) (by omega) (Or.inr rfl) (Sub.cons (lo2 := 130) (hi2 := 131) (c2 := 30) (show _ ∈ L_X9_holds from by simp [L_X9_holds]) (by omega) (by omega) (Or.inr rfl) (Sub.cons (lo2 := 130) (hi2 := 131) (c2 := 31) (show _ ∈ L_X9_holds from by simp [L_X9_holds]) (by omega) (by omega) (Or.inr rfl) (Sub.cons (lo2 := 137) (hi2 := 138) (c2 := 0) (show _ ∈ L_X9_holds from by simp [L_X9_holds]) (by omega) (by omega) (Or.inl rfl) (Sub.cons (lo2 := 138) (hi2 := 139) (c2 := 0) (show _ ∈ L_X9_holds from by simp [L_X9_holds]) (by omega) (by omega) (Or.inl rfl) (Sub.cons (lo2 := 139) (hi2 := 140) (c2 := 0) (show _ ∈ L_X9_holds from by simp [L_X9_holds]) (by omega) (by omega) (Or.inl rfl) (Sub.cons (lo2 := 140) (hi2 := 141) (c2 := 0) (show _ ∈ L_X9_holds from by simp [L_X9_holds]) (by omega) (by omega) (Or.inl rfl) (Sub.cons (lo2 := 141) (hi2 := 142) (c2 := 0) (show _ ∈ L_X9_holds from by simp [L_X9_holds]) (by omega) (by omega) (Or.inl rfl) (Sub.cons (lo2 := 142) (hi2 := 143) (c2 := 0) (show _ ∈ L_X9_holds from by simp [L_X9_holds]) (by omega) (by omega) (Or.inl rfl) (Sub.cons (lo2 := 143) (hi2 := 144) (c2 := 0) (show _ ∈ L_X9_holds from by simp [L_X9_holds]) (by omega) (by omega) (Or.inl rfl) Sub.nil)))))))))))
      rcases bri hz with hz | hz
      · exact ((((((Sm.rf.call (fr_X9_good _ (z := q1) e2) ie2 (show ∀ r ∈ R_X9_good, r ∈ R_X9_holds from by decide)).call (fr_X9_isPorter x1 _ (z := q3) e4) ie4 (show ∀ r ∈ R_X9_isPorter, r ∈ R_X9_holds from by decide)).call (fr_X9_isBox x3 _ (z := q7) e8) ie8 (show ∀ r ∈ R_X9_isBox, r ∈ R_X9_holds from by decide)).call (fr_X9_within x4 0 8 _ (z := q9) e10) ie10 (show ∀ r ∈ R_X9_within, r ∈ R_X9_holds from by decide)).call (fr_X9_chanceWhy x1 x2 q9.1 _ (z := q11) e12) ie12 (show ∀ r ∈ R_X9_chanceWhy, r ∈ R_X9_holds from by decide))).tr (fr_X9_holds_62 fu x3 x4 x5 0 0 _ hz)
      · obtain ⟨q20, e21, hz⟩ := bd hz
        have ie21 : Sub L_X9_no L_X9_holds := by
          unfold L_X9_no
          exact (Sub.cons (lo2 := 130) (hi2 := 131) (c2 := 12) (show _ ∈ L_X9_holds from by simp [L_X9_holds]) (by omega) (by omega) (Or.inr rfl) Sub.nil)
        cases hz
        exact ((((((Sm.rf.call (fr_X9_good  _ (z := q1)  e2) ie2 (show ∀ r ∈ R_X9_good, r ∈ R_X9_holds from by decide)).call (fr_X9_isPorter x1 _ (z := q3)  e4) ie4 (show ∀ r ∈ R_X9_isPorter, r ∈ R_X9_holds from by decide)).call (fr_X9_isBox x3 _ (z := q7)  e8) ie8 (show ∀ r ∈ R_X9_isBox, r ∈ R_X9_holds from by decide)).call (fr_X9_within x4 0 8 _ (z := q9)  e10) ie10 (show ∀ r ∈ R_X9_within, r ∈ R_X9_holds from by decide)).call (fr_X9_chanceWhy x1 x2 q9.1 _ (z := q11)  e12) ie12 (show ∀ r ∈ R_X9_chanceWhy, r ∈ R_X9_holds from by decide)).call (fr_X9_no q11.1 _ (z := q20)  e21) ie21 (show ∀ r ∈ R_X9_no, r ∈ R_X9_holds from by decide))
def L_X9_measured : List (Nat × Nat × Nat) := [(130, 131, 23), (137, 138, 0)]
def R_X9_measured : List Nat := []
theorem fr_X9_measured_75 {z : Int32 × GW} {k_32 : Int32 → Int32 → Int32 → Int32 → GW → Option (Int32 × GW)} (Hk_32 : (∀ (x2 : Int32) (x3 : Int32) (x4 : Int32) (x5 : Int32) (w : GW), k_32 x2 x3 x4 x5 w = some z → Sm L_X9_measured R_X9_measured w z.2)) : (∀ (x2 : Int32) (x3 : Int32) (x5 : Int32) (t0 : Int32) (t1 : Int32) (w : GW), f_X9_measured_75 k_32 x2 x3 x5 t0 t1 w = some z → Sm L_X9_measured R_X9_measured w z.2) := by
  intro x2 x3 x5 t0 t1 w hz
  rw [f_X9_measured_75] at hz
  exact (Sm.rf).tr (Hk_32 x2 x3 (t1 + t0) (x5 + 1) _  hz)
theorem fr_X9_measured_32 {z : Int32 × GW} : ∀ (n9 : Nat), (∀ (x2 : Int32) (x3 : Int32) (x4 : Int32) (x5 : Int32) (w : GW), f_X9_measured_32 n9 x2 x3 x4 x5 w = some z → Sm L_X9_measured R_X9_measured w z.2) := by
  intro n9
  induction n9 with
  | zero =>
    intro x2 x3 x4 x5 w hz
    rw [f_X9_measured_32] at hz
    cases hz
  | succ n9 ih =>
    intro x2 x3 x4 x5 w hz
    rw [f_X9_measured_32] at hz
    obtain ⟨h3, hz⟩ := ck hz
    rcases bri hz with hz | hz
    · rcases bri hz with hz | hz
      · cases hz
        exact Sm.rf
      · cases hz
        exact Sm.rf
    · rcases bri hz with hz | hz
      · obtain ⟨h6, hz⟩ := ck hz
        exact (Sm.rf).tr (fr_X9_measured_75 ih x2 x3 x5 (gI w 137 (ix x5)) x4 _ hz)
      · obtain ⟨h4, hz⟩ := ck hz
        obtain ⟨h5, hz⟩ := ck hz
        exact (Sm.rf).tr (fr_X9_measured_75 ih x2 x3 x5 ((gI w 137 (ix x5)) * (gI w 137 (ix x5))) x4 _ hz)
theorem fr_X9_measured (x1 : Int32) (x2 : Int32) (x3 : Int32) (w : GW) {z : Int32 × GW} : f_X9_measured x1 x2 x3 w = some z → Sm L_X9_measured R_X9_measured w z.2 := by
  intro  hz
  rw [f_X9_measured] at hz
  rcases bri hz with hz | hz
  · obtain ⟨q9, e10, hz⟩ := bd hz
    have ie10 : Sub L_X9_fullestOf L_X9_measured := by
      unfold L_X9_fullestOf
      exact (Sub.cons (lo2 := 130) (hi2 := 131) (c2 := 23) (show _ ∈ L_X9_measured from by simp [L_X9_measured]) (by omega) (by omega) (Or.inr rfl) (Sub.cons (lo2 := 137) (hi2 := 138) (c2 := 0) (show _ ∈ L_X9_measured from by simp [L_X9_measured]) (by omega) (by omega) (Or.inl rfl) Sub.nil))
    cases hz
    exact (Sm.rf.call (fr_X9_fullestOf x1 _ (z := q9)  e10) ie10 (show ∀ r ∈ R_X9_fullestOf, r ∈ R_X9_measured from by decide))
  · rcases bri hz with hz | hz
    · obtain ⟨q7, e8, hz⟩ := bd hz
      have ie8 : Sub L_X9_emptyOf L_X9_measured := by
        unfold L_X9_emptyOf
        exact (Sub.cons (lo2 := 130) (hi2 := 131) (c2 := 23) (show _ ∈ L_X9_measured from by simp [L_X9_measured]) (by omega) (by omega) (Or.inr rfl) (Sub.cons (lo2 := 137) (hi2 := 138) (c2 := 0) (show _ ∈ L_X9_measured from by simp [L_X9_measured]) (by omega) (by omega) (Or.inl rfl) Sub.nil))
      cases hz
      exact (Sm.rf.call (fr_X9_emptyOf x1 _ (z := q7)  e8) ie8 (show ∀ r ∈ R_X9_emptyOf, r ∈ R_X9_measured from by decide))
    · obtain ⟨q1, e2, hz⟩ := bd hz
      have ie2 : Sub L_X9_layApart L_X9_measured := by
        unfold L_X9_layApart
        exact (Sub.cons (lo2 := 130) (hi2 := 131) (c2 := 23) (show _ ∈ L_X9_measured from by simp [L_X9_measured]) (by omega) (by omega) (Or.inr rfl) (Sub.cons (lo2 := 137) (hi2 := 138) (c2 := 0) (show _ ∈ L_X9_measured from by simp [L_X9_measured]) (by omega) (by omega) (Or.inl rfl) Sub.nil))
      exact ((Sm.rf.call (fr_X9_layApart x1 _ (z := q1) e2) ie2 (show ∀ r ∈ R_X9_layApart, r ∈ R_X9_measured from by decide))).tr (fr_X9_measured_32 fu x2 x3 0 0 _ hz)
def L_X9_mean : List (Nat × Nat × Nat) := [(130, 131, 1), (130, 131, 12), (130, 131, 23), (130, 131, 29), (130, 131, 30), (130, 131, 31), (137, 138, 0), (138, 139, 0), (139, 140, 0), (140, 141, 0), (141, 142, 0), (142, 143, 0), (143, 144, 0)]
def R_X9_mean : List Nat := []
theorem fr_X9_mean_21 {z : Int64 × GW} : (∀ (w : GW), f_X9_mean_21 w = some z → Sm L_X9_mean R_X9_mean w z.2) := by
  intro w hz
  rw [f_X9_mean_21] at hz
  obtain ⟨q5, e6, hz⟩ := bd hz
  have ie6 : Sub L_X9_no L_X9_mean := by
    unfold L_X9_no
    exact (Sub.cons (lo2 := 130) (hi2 := 131) (c2 := 12) (show _ ∈ L_X9_mean from by simp [L_X9_mean]) (by omega) (by omega) (Or.inr rfl) Sub.nil)
  cases hz
  exact (Sm.rf.call (fr_X9_no 1 _ (z := q5)  e6) ie6 (show ∀ r ∈ R_X9_no, r ∈ R_X9_mean from by decide))
theorem fr_X9_mean_56 {z : Int64 × GW} : ∀ (n9 : Nat), (∀ (x2 : Int32) (x3 : Int32) (x4 : Int32) (x6 : Int64) (x8 : Int32) (w : GW), f_X9_mean_56 n9 x2 x3 x4 x6 x8 w = some z → Sm L_X9_mean R_X9_mean w z.2) := by
  intro n9
  induction n9 with
  | zero =>
    intro x2 x3 x4 x6 x8 w hz
    rw [f_X9_mean_56] at hz
    cases hz
  | succ n9 ih =>
    intro x2 x3 x4 x6 x8 w hz
    rw [f_X9_mean_56] at hz
    rcases bri hz with hz | hz
    · obtain ⟨q11, e12, hz⟩ := bd hz
      have ie12 : Sub L_X9_lowest L_X9_mean := by
        unfold L_X9_lowest
        exact Sub.nil
      cases hz
      exact (Sm.rf.call (fr_X9_lowest x6 (gL w 130 30) x4 _ (z := q11)  e12) ie12 (show ∀ r ∈ R_X9_lowest, r ∈ R_X9_mean from by decide))
    · obtain ⟨h13, hz⟩ := ck hz
      obtain ⟨h14, hz⟩ := ck hz
      obtain ⟨q15, e16, hz⟩ := bd hz
      have ie16 : Sub L_X9_measured L_X9_mean := by
        unfold L_X9_measured
        exact (Sub.cons (lo2 := 130) (hi2 := 131) (c2 := 23) (show _ ∈ L_X9_mean from by simp [L_X9_mean]) (by omega) (by omega) (Or.inr rfl) (Sub.cons (lo2 := 137) (hi2 := 138) (c2 := 0) (show _ ∈ L_X9_mean from by simp [L_X9_mean]) (by omega) (by omega) (Or.inl rfl) Sub.nil))
      exact ((Sm.rf.call (fr_X9_measured (gI w 139 (ix x8)) x2 x3 _ (z := q15)  e16) ie16 (show ∀ r ∈ R_X9_measured, r ∈ R_X9_mean from by decide))).tr (ih x2 x3 x4 (x6 + ((gL w 142 (ix x8)) * (q15.1.toInt64))) (x8 + 1) _  hz)
theorem fr_X9_mean (x1 : Int32) (x2 : Int32) (x3 : Int32) (x4 : Int32) (w : GW) {z : Int64 × GW} : f_X9_mean x1 x2 x3 x4 w = some z → Sm L_X9_mean R_X9_mean w z.2 := by
  intro  hz
  rw [f_X9_mean] at hz
  obtain ⟨q1, e2, hz⟩ := bd hz
  have ie2 : Sub L_X9_good L_X9_mean := by
    unfold L_X9_good
    exact (Sub.cons (lo2 := 130) (hi2 := 131) (c2 := 1) (show _ ∈ L_X9_mean from by simp [L_X9_mean]) (by omega) (by omega) (Or.inr rfl) (Sub.cons (lo2 := 130) (hi2 := 131) (c2 := 12) (show _ ∈ L_X9_mean from by simp [L_X9_mean]) (by omega) (by omega) (Or.inr rfl) Sub.nil))
  obtain ⟨q3, e4, hz⟩ := bd hz
  have ie4 : Sub L_X9_isPorter L_X9_mean := by
    unfold L_X9_isPorter
    exact Sub.nil
  rcases bri hz with hz | hz
  · exact (((Sm.rf.call (fr_X9_good _ (z := q1) e2) ie2 (show ∀ r ∈ R_X9_good, r ∈ R_X9_mean from by decide)).call (fr_X9_isPorter x1 _ (z := q3) e4) ie4 (show ∀ r ∈ R_X9_isPorter, r ∈ R_X9_mean from by decide))).tr (fr_X9_mean_21 _ hz)
  · obtain ⟨q7, e8, hz⟩ := bd hz
    have ie8 : Sub L_X9_within L_X9_mean := by
      unfold L_X9_within
      exact Sub.nil
    rcases bri hz with hz | hz
    · exact ((((Sm.rf.call (fr_X9_good _ (z := q1) e2) ie2 (show ∀ r ∈ R_X9_good, r ∈ R_X9_mean from by decide)).call (fr_X9_isPorter x1 _ (z := q3) e4) ie4 (show ∀ r ∈ R_X9_isPorter, r ∈ R_X9_mean from by decide)).call (fr_X9_within x3 0 3 _ (z := q7) e8) ie8 (show ∀ r ∈ R_X9_within, r ∈ R_X9_mean from by decide))).tr (fr_X9_mean_21 _ hz)
    · obtain ⟨q9, e10, hz⟩ := bd hz
      have ie10 : Sub L_X9_chanceWhy L_X9_mean := by
        unfold L_X9_chanceWhy
        exact (Sub.cons (lo2 := 130) (hi2 := 131) (c2 := 23) (show _ ∈ L_X9_mean from by simp [L_X9_mean]) (by omega) (by omega) (Or.inr rfl) (Sub.cons (lo2 := 130) (hi2 := 131) (c2 := 29) (show _ ∈ L_X9_mean from by simp [L_X9_mean]) (by omega) (by omega) (Or.inr rfl) (Sub.cons (lo2 := 130) (hi2 := 131) (c2 := 30) (show _ ∈ L_X9_mean from by simp [L_X9_mean]) (by omega) (by omega) (Or.inr rfl) (Sub.cons (lo2 := 130) (hi2 := 131) (c2 := 31) (show _ ∈ L_X9_mean from by simp [L_X9_mean]) (by omega) (by omega) (Or.inr rfl) (Sub.cons (lo2 := 137) (hi2 := 138) (c2 := 0) (show _ ∈ L_X9_mean from by simp [L_X9_mean]) (by omega) (by omega) (Or.inl rfl) (Sub.cons (lo2 := 138) (hi2 := 139) (c2 := 0) (show _ ∈ L_X9_mean from by simp [L_X9_mean]) (by omega) (by omega) (Or.inl rfl) (Sub.cons (lo2 := 139) (hi2 := 140) (c2 := 0) (show _ ∈ L_X9_mean from by simp [L_X9_mean]) (by omega) (by omega) (Or.inl rfl) (Sub.cons (lo2 := 140) (hi2 := 141) (c2 := 0) (show _ ∈ L_X9_mean from by simp [L_X9_mean]) (by omega) (by omega) (Or.inl rfl) (Sub.cons (lo2 := 141) (hi2 := 142) (c2 := 0) (show _ ∈ L_X9_mean from by simp [L_X9_mean]) (by omega) (by omega) (Or.inl rfl) (Sub.cons (lo2 := 142) (hi2 := 143) (c2 := 0) (show _ ∈ L_X9_mean from by simp [L_X9_mean]) (by omega) (by omega) (Or.inl rfl) (Sub.cons (lo2 := 143) (hi2 := 144) (c2 := 0) (show _ ∈ L_X9_mean from by simp [L_X9_mean]) (by omega) (by omega) (Or.inl rfl) Sub.nil)))))))))))
      rcases bri hz with hz | hz
      · exact (((((Sm.rf.call (fr_X9_good _ (z := q1) e2) ie2 (show ∀ r ∈ R_X9_good, r ∈ R_X9_mean from by decide)).call (fr_X9_isPorter x1 _ (z := q3) e4) ie4 (show ∀ r ∈ R_X9_isPorter, r ∈ R_X9_mean from by decide)).call (fr_X9_within x3 0 3 _ (z := q7) e8) ie8 (show ∀ r ∈ R_X9_within, r ∈ R_X9_mean from by decide)).call (fr_X9_chanceWhy x1 x2 1 _ (z := q9) e10) ie10 (show ∀ r ∈ R_X9_chanceWhy, r ∈ R_X9_mean from by decide))).tr (fr_X9_mean_56 fu x2 x3 x4 0 0 _ hz)
      · obtain ⟨q17, e18, hz⟩ := bd hz
        have ie18 : Sub L_X9_no L_X9_mean := by
          unfold L_X9_no
          exact (Sub.cons (lo2 := 130) (hi2 := 131) (c2 := 12) (show _ ∈ L_X9_mean from by simp [L_X9_mean]) (by omega) (by omega) (Or.inr rfl) Sub.nil)
        cases hz
        exact (((((Sm.rf.call (fr_X9_good  _ (z := q1)  e2) ie2 (show ∀ r ∈ R_X9_good, r ∈ R_X9_mean from by decide)).call (fr_X9_isPorter x1 _ (z := q3)  e4) ie4 (show ∀ r ∈ R_X9_isPorter, r ∈ R_X9_mean from by decide)).call (fr_X9_within x3 0 3 _ (z := q7)  e8) ie8 (show ∀ r ∈ R_X9_within, r ∈ R_X9_mean from by decide)).call (fr_X9_chanceWhy x1 x2 1 _ (z := q9)  e10) ie10 (show ∀ r ∈ R_X9_chanceWhy, r ∈ R_X9_mean from by decide)).call (fr_X9_no q9.1 _ (z := q17)  e18) ie18 (show ∀ r ∈ R_X9_no, r ∈ R_X9_mean from by decide))
def L_X9_states : List (Nat × Nat × Nat) := [(130, 131, 1), (130, 131, 12), (130, 131, 23), (130, 131, 29), (130, 131, 30), (130, 131, 31), (137, 138, 0), (138, 139, 0), (139, 140, 0), (140, 141, 0), (141, 142, 0), (142, 143, 0), (143, 144, 0)]
def R_X9_states : List Nat := []
theorem fr_X9_states_103 {z : Int32 × GW} {k_28 : Int32 → Int32 → GW → Option (Int32 × GW)} (Hk_28 : (∀ (x4 : Int32) (x5 : Int32) (w : GW), k_28 x4 x5 w = some z → Sm L_X9_states R_X9_states w z.2)) : (∀ (x5 : Int32) (t0 : Int32) (t1 : Int32) (w : GW), f_X9_states_103 k_28 x5 t0 t1 w = some z → Sm L_X9_states R_X9_states w z.2) := by
  intro x5 t0 t1 w hz
  rw [f_X9_states_103] at hz
  exact (Sm.rf).tr (Hk_28 (t1 + t0) (x5 + 1) _  hz)
theorem fr_X9_states_91 {z : Int32 × GW} {k_28 : Int32 → Int32 → GW → Option (Int32 × GW)} (Hk_28 : (∀ (x4 : Int32) (x5 : Int32) (w : GW), k_28 x4 x5 w = some z → Sm L_X9_states R_X9_states w z.2)) : (∀ (x4 : Int32) (x5 : Int32) (x6 : Int32) (w : GW), f_X9_states_91 k_28 x4 x5 x6 w = some z → Sm L_X9_states R_X9_states w z.2) := by
  intro x4 x5 x6 w hz
  rw [f_X9_states_91] at hz
  rcases bri hz with hz | hz
  · exact (Sm.rf).tr (fr_X9_states_103 Hk_28 x5 0 x4 _ hz)
  · exact (Sm.rf).tr (fr_X9_states_103 Hk_28 x5 1 x4 _ hz)
theorem fr_X9_states_83 {z : Int32 × GW} {k_28 : Int32 → Int32 → GW → Option (Int32 × GW)} (Hk_28 : (∀ (x4 : Int32) (x5 : Int32) (w : GW), k_28 x4 x5 w = some z → Sm L_X9_states R_X9_states w z.2)) {k_43 : Int32 → Int32 → Int32 → Int32 → GW → Option (Int32 × GW)} (Hk_43 : (∀ (x4 : Int32) (x5 : Int32) (x6 : Int32) (x7 : Int32) (w : GW), k_43 x4 x5 x6 x7 w = some z → Sm L_X9_states R_X9_states w z.2)) : (∀ (x4 : Int32) (x5 : Int32) (x7 : Int32) (t0 : Int32) (w : GW), f_X9_states_83 k_28 k_43 x4 x5 x7 t0 w = some z → Sm L_X9_states R_X9_states w z.2) := by
  intro x4 x5 x7 t0 w hz
  rw [f_X9_states_83] at hz
  exact (Sm.rf).tr (Hk_43 x4 x5 t0 (x7 + 1) _  hz)
theorem fr_X9_states_43 {z : Int32 × GW} {k_28 : Int32 → Int32 → GW → Option (Int32 × GW)} (Hk_28 : (∀ (x4 : Int32) (x5 : Int32) (w : GW), k_28 x4 x5 w = some z → Sm L_X9_states R_X9_states w z.2)) : ∀ (n9 : Nat), (∀ (x4 : Int32) (x5 : Int32) (x6 : Int32) (x7 : Int32) (w : GW), f_X9_states_43 k_28 n9 x4 x5 x6 x7 w = some z → Sm L_X9_states R_X9_states w z.2) := by
  intro n9
  induction n9 with
  | zero =>
    intro x4 x5 x6 x7 w hz
    rw [f_X9_states_43] at hz
    cases hz
  | succ n9 ih =>
    intro x4 x5 x6 x7 w hz
    rw [f_X9_states_43] at hz
    rcases bri hz with hz | hz
    · exact (Sm.rf).tr (fr_X9_states_91 Hk_28 x4 x5 x6 _ hz)
    · rcases bri hz with hz | hz
      · exact (Sm.rf).tr (fr_X9_states_91 Hk_28 x4 x5 x6 _ hz)
      · obtain ⟨h5, hz⟩ := ck hz
        obtain ⟨h6, hz⟩ := ck hz
        rcases bri hz with hz | hz
        · exact (Sm.rf).tr (fr_X9_states_83 Hk_28 ih x4 x5 x7 0 _ hz)
        · exact (Sm.rf).tr (fr_X9_states_83 Hk_28 ih x4 x5 x7 1 _ hz)
theorem fr_X9_states_28 {z : Int32 × GW} : ∀ (n9 : Nat), (∀ (x4 : Int32) (x5 : Int32) (w : GW), f_X9_states_28 n9 x4 x5 w = some z → Sm L_X9_states R_X9_states w z.2) := by
  intro n9
  induction n9 with
  | zero =>
    intro x4 x5 w hz
    rw [f_X9_states_28] at hz
    cases hz
  | succ n9 ih =>
    intro x4 x5 w hz
    rw [f_X9_states_28] at hz
    rcases bri hz with hz | hz
    · cases hz
      exact Sm.rf
    · exact (Sm.rf).tr (fr_X9_states_43 ih fu x4 x5 1 0 _ hz)
theorem fr_X9_states (x1 : Int32) (x2 : Int32) (w : GW) {z : Int32 × GW} : f_X9_states x1 x2 w = some z → Sm L_X9_states R_X9_states w z.2 := by
  intro  hz
  rw [f_X9_states] at hz
  obtain ⟨q1, e2, hz⟩ := bd hz
  have ie2 : Sub L_X9_good L_X9_states := by
    unfold L_X9_good
    exact (Sub.cons (lo2 := 130) (hi2 := 131) (c2 := 1) (show _ ∈ L_X9_states from by simp [L_X9_states]) (by omega) (by omega) (Or.inr rfl) (Sub.cons (lo2 := 130) (hi2 := 131) (c2 := 12) (show _ ∈ L_X9_states from by simp [L_X9_states]) (by omega) (by omega) (Or.inr rfl) Sub.nil))
  obtain ⟨q3, e4, hz⟩ := bd hz
  have ie4 : Sub L_X9_chanceWhy L_X9_states := by
    unfold L_X9_chanceWhy
    exact (Sub.cons (lo2 := 130) (hi2 := 131) (c2 := 23) (show _ ∈ L_X9_states from by simp [L_X9_states]) (by omega) (by omega) (Or.inr rfl) (Sub.cons (lo2 := 130) (hi2 := 131) (c2 := 29) (show _ ∈ L_X9_states from by simp [L_X9_states]) (by omega) (by omega) (Or.inr rfl) (Sub.cons (lo2 := 130) (hi2 := 131) (c2 := 30) (show _ ∈ L_X9_states from by simp [L_X9_states]) (by omega) (by omega) (Or.inr rfl) (Sub.cons (lo2 := 130) (hi2 := 131) (c2 := 31) (show _ ∈ L_X9_states from by simp [L_X9_states]) (by omega) (by omega) (Or.inr rfl) (Sub.cons (lo2 := 137) (hi2 := 138) (c2 := 0) (show _ ∈ L_X9_states from by simp [L_X9_states]) (by omega) (by omega) (Or.inl rfl) (Sub.cons (lo2 := 138) (hi2 := 139) (c2 := 0) (show _ ∈ L_X9_states from by simp [L_X9_states]) (by omega) (by omega) (Or.inl rfl) (Sub.cons (lo2 := 139) (hi2 := 140) (c2 := 0) (show _ ∈ L_X9_states from by simp [L_X9_states]) (by omega) (by omega) (Or.inl rfl) (Sub.cons (lo2 := 140) (hi2 := 141) (c2 := 0) (show _ ∈ L_X9_states from by simp [L_X9_states]) (by omega) (by omega) (Or.inl rfl) (Sub.cons (lo2 := 141) (hi2 := 142) (c2 := 0) (show _ ∈ L_X9_states from by simp [L_X9_states]) (by omega) (by omega) (Or.inl rfl) (Sub.cons (lo2 := 142) (hi2 := 143) (c2 := 0) (show _ ∈ L_X9_states from by simp [L_X9_states]) (by omega) (by omega) (Or.inl rfl) (Sub.cons (lo2 := 143) (hi2 := 144) (c2 := 0) (show _ ∈ L_X9_states from by simp [L_X9_states]) (by omega) (by omega) (Or.inl rfl) Sub.nil)))))))))))
  rcases bri hz with hz | hz
  · exact (((Sm.rf.call (fr_X9_good _ (z := q1) e2) ie2 (show ∀ r ∈ R_X9_good, r ∈ R_X9_states from by decide)).call (fr_X9_chanceWhy x1 x2 1 _ (z := q3) e4) ie4 (show ∀ r ∈ R_X9_chanceWhy, r ∈ R_X9_states from by decide))).tr (fr_X9_states_28 fu 0 0 _ hz)
  · obtain ⟨q7, e8, hz⟩ := bd hz
    have ie8 : Sub L_X9_no L_X9_states := by
      unfold L_X9_no
      exact (Sub.cons (lo2 := 130) (hi2 := 131) (c2 := 12) (show _ ∈ L_X9_states from by simp [L_X9_states]) (by omega) (by omega) (Or.inr rfl) Sub.nil)
    cases hz
    exact (((Sm.rf.call (fr_X9_good  _ (z := q1)  e2) ie2 (show ∀ r ∈ R_X9_good, r ∈ R_X9_states from by decide)).call (fr_X9_chanceWhy x1 x2 1 _ (z := q3)  e4) ie4 (show ∀ r ∈ R_X9_chanceWhy, r ∈ R_X9_states from by decide)).call (fr_X9_no q3.1 _ (z := q7)  e8) ie8 (show ∀ r ∈ R_X9_no, r ∈ R_X9_states from by decide))
def L_X9_worst : List (Nat × Nat × Nat) := [(130, 131, 1), (130, 131, 12), (130, 131, 23), (130, 131, 29), (130, 131, 30), (130, 131, 31), (137, 138, 0), (138, 139, 0), (139, 140, 0), (140, 141, 0), (141, 142, 0), (142, 143, 0), (143, 144, 0)]
def R_X9_worst : List Nat := []
theorem fr_X9_worst_97 {z : Int32 × GW} {k_40 : Int32 → Int32 → Int32 → GW → Option (Int32 × GW)} (Hk_40 : (∀ (x3 : Int32) (x5 : Int32) (x6 : Int32) (w : GW), k_40 x3 x5 x6 w = some z → Sm L_X9_worst R_X9_worst w z.2)) : (∀ (x3 : Int32) (x6 : Int32) (t0 : Int32) (w : GW), f_X9_worst_97 k_40 x3 x6 t0 w = some z → Sm L_X9_worst R_X9_worst w z.2) := by
  intro x3 x6 t0 w hz
  rw [f_X9_worst_97] at hz
  exact (Sm.rf).tr (Hk_40 x3 t0 (x6 + 1) _  hz)
theorem fr_X9_worst_40 {z : Int32 × GW} : ∀ (n9 : Nat), (∀ (x3 : Int32) (x5 : Int32) (x6 : Int32) (w : GW), f_X9_worst_40 n9 x3 x5 x6 w = some z → Sm L_X9_worst R_X9_worst w z.2) := by
  intro n9
  induction n9 with
  | zero =>
    intro x3 x5 x6 w hz
    rw [f_X9_worst_40] at hz
    cases hz
  | succ n9 ih =>
    intro x3 x5 x6 w hz
    rw [f_X9_worst_40] at hz
    rcases bri hz with hz | hz
    · cases hz
      exact Sm.rf
    · obtain ⟨h8, hz⟩ := ck hz
      obtain ⟨q9, e10, hz⟩ := bd hz
      have ie10 : Sub L_X9_fullestOf L_X9_worst := by
        unfold L_X9_fullestOf
        exact (Sub.cons (lo2 := 130) (hi2 := 131) (c2 := 23) (show _ ∈ L_X9_worst from by simp [L_X9_worst]) (by omega) (by omega) (Or.inr rfl) (Sub.cons (lo2 := 137) (hi2 := 138) (c2 := 0) (show _ ∈ L_X9_worst from by simp [L_X9_worst]) (by omega) (by omega) (Or.inl rfl) Sub.nil))
      rcases bri hz with hz | hz
      · rcases bri hz with hz | hz
        · exact ((Sm.rf.call (fr_X9_fullestOf (gI w 139 (ix x6)) _ (z := q9) e10) ie10 (show ∀ r ∈ R_X9_fullestOf, r ∈ R_X9_worst from by decide))).tr (fr_X9_worst_97 ih x3 x6 x5 _ hz)
        · exact ((Sm.rf.call (fr_X9_fullestOf (gI w 139 (ix x6)) _ (z := q9) e10) ie10 (show ∀ r ∈ R_X9_fullestOf, r ∈ R_X9_worst from by decide))).tr (fr_X9_worst_97 ih x3 x6 q9.1 _ hz)
      · rcases bri hz with hz | hz
        · exact ((Sm.rf.call (fr_X9_fullestOf (gI w 139 (ix x6)) _ (z := q9) e10) ie10 (show ∀ r ∈ R_X9_fullestOf, r ∈ R_X9_worst from by decide))).tr (fr_X9_worst_97 ih x3 x6 x5 _ hz)
        · exact ((Sm.rf.call (fr_X9_fullestOf (gI w 139 (ix x6)) _ (z := q9) e10) ie10 (show ∀ r ∈ R_X9_fullestOf, r ∈ R_X9_worst from by decide))).tr (fr_X9_worst_97 ih x3 x6 q9.1 _ hz)
theorem fr_X9_worst (x1 : Int32) (x2 : Int32) (x3 : Int32) (w : GW) {z : Int32 × GW} : f_X9_worst x1 x2 x3 w = some z → Sm L_X9_worst R_X9_worst w z.2 := by
  intro  hz
  rw [f_X9_worst] at hz
  obtain ⟨q1, e2, hz⟩ := bd hz
  have ie2 : Sub L_X9_good L_X9_worst := by
    unfold L_X9_good
    exact (Sub.cons (lo2 := 130) (hi2 := 131) (c2 := 1) (show _ ∈ L_X9_worst from by simp [L_X9_worst]) (by omega) (by omega) (Or.inr rfl) (Sub.cons (lo2 := 130) (hi2 := 131) (c2 := 12) (show _ ∈ L_X9_worst from by simp [L_X9_worst]) (by omega) (by omega) (Or.inr rfl) Sub.nil))
  obtain ⟨q3, e4, hz⟩ := bd hz
  have ie4 : Sub L_X9_chanceWhy L_X9_worst := by
    unfold L_X9_chanceWhy
    exact (Sub.cons (lo2 := 130) (hi2 := 131) (c2 := 23) (show _ ∈ L_X9_worst from by simp [L_X9_worst]) (by omega) (by omega) (Or.inr rfl) (Sub.cons (lo2 := 130) (hi2 := 131) (c2 := 29) (show _ ∈ L_X9_worst from by simp [L_X9_worst]) (by omega) (by omega) (Or.inr rfl) (Sub.cons (lo2 := 130) (hi2 := 131) (c2 := 30) (show _ ∈ L_X9_worst from by simp [L_X9_worst]) (by omega) (by omega) (Or.inr rfl) (Sub.cons (lo2 := 130) (hi2 := 131) (c2 := 31) (show _ ∈ L_X9_worst from by simp [L_X9_worst]) (by omega) (by omega) (Or.inr rfl) (Sub.cons (lo2 := 137) (hi2 := 138) (c2 := 0) (show _ ∈ L_X9_worst from by simp [L_X9_worst]) (by omega) (by omega) (Or.inl rfl) (Sub.cons (lo2 := 138) (hi2 := 139) (c2 := 0) (show _ ∈ L_X9_worst from by simp [L_X9_worst]) (by omega) (by omega) (Or.inl rfl) (Sub.cons (lo2 := 139) (hi2 := 140) (c2 := 0) (show _ ∈ L_X9_worst from by simp [L_X9_worst]) (by omega) (by omega) (Or.inl rfl) (Sub.cons (lo2 := 140) (hi2 := 141) (c2 := 0) (show _ ∈ L_X9_worst from by simp [L_X9_worst]) (by omega) (by omega) (Or.inl rfl) (Sub.cons (lo2 := 141) (hi2 := 142) (c2 := 0) (show _ ∈ L_X9_worst from by simp [L_X9_worst]) (by omega) (by omega) (Or.inl rfl) (Sub.cons (lo2 := 142) (hi2 := 143) (c2 := 0) (show _ ∈ L_X9_worst from by simp [L_X9_worst]) (by omega) (by omega) (Or.inl rfl) (Sub.cons (lo2 := 143) (hi2 := 144) (c2 := 0) (show _ ∈ L_X9_worst from by simp [L_X9_worst]) (by omega) (by omega) (Or.inl rfl) Sub.nil)))))))))))
  rcases bri hz with hz | hz
  · obtain ⟨h5, hz⟩ := ck hz
    obtain ⟨q6, e7, hz⟩ := bd hz
    have ie7 : Sub L_X9_fullestOf L_X9_worst := by
      unfold L_X9_fullestOf
      exact (Sub.cons (lo2 := 130) (hi2 := 131) (c2 := 23) (show _ ∈ L_X9_worst from by simp [L_X9_worst]) (by omega) (by omega) (Or.inr rfl) (Sub.cons (lo2 := 137) (hi2 := 138) (c2 := 0) (show _ ∈ L_X9_worst from by simp [L_X9_worst]) (by omega) (by omega) (Or.inl rfl) Sub.nil))
    exact ((((Sm.rf.call (fr_X9_good _ (z := q1) e2) ie2 (show ∀ r ∈ R_X9_good, r ∈ R_X9_worst from by decide)).call (fr_X9_chanceWhy x1 x2 1 _ (z := q3) e4) ie4 (show ∀ r ∈ R_X9_chanceWhy, r ∈ R_X9_worst from by decide)).call (fr_X9_fullestOf (gI q3.2 139 (ix 0)) _ (z := q6) e7) ie7 (show ∀ r ∈ R_X9_fullestOf, r ∈ R_X9_worst from by decide))).tr (fr_X9_worst_40 fu x3 q6.1 1 _ hz)
  · obtain ⟨q11, e12, hz⟩ := bd hz
    have ie12 : Sub L_X9_no L_X9_worst := by
      unfold L_X9_no
      exact (Sub.cons (lo2 := 130) (hi2 := 131) (c2 := 12) (show _ ∈ L_X9_worst from by simp [L_X9_worst]) (by omega) (by omega) (Or.inr rfl) Sub.nil)
    cases hz
    exact (((Sm.rf.call (fr_X9_good  _ (z := q1)  e2) ie2 (show ∀ r ∈ R_X9_good, r ∈ R_X9_worst from by decide)).call (fr_X9_chanceWhy x1 x2 1 _ (z := q3)  e4) ie4 (show ∀ r ∈ R_X9_chanceWhy, r ∈ R_X9_worst from by decide)).call (fr_X9_no q3.1 _ (z := q11)  e12) ie12 (show ∀ r ∈ R_X9_no, r ∈ R_X9_worst from by decide))
def L_X9_waysOfLay : List (Nat × Nat × Nat) := [(130, 131, 23), (137, 138, 0)]
def R_X9_waysOfLay : List Nat := []
theorem fr_X9_waysOfLay_101 {z : Int64 × GW} {k_5 : Int32 → Int64 → Int32 → GW → Option (Int64 × GW)} (Hk_5 : (∀ (x1 : Int32) (x2 : Int64) (x4 : Int32) (w : GW), k_5 x1 x2 x4 w = some z → Sm L_X9_waysOfLay R_X9_waysOfLay w z.2)) : (∀ (x1 : Int32) (x4 : Int32) (t0 : Int64) (t1 : Int64) (w : GW), f_X9_waysOfLay_101 k_5 x1 x4 t0 t1 w = some z → Sm L_X9_waysOfLay R_X9_waysOfLay w z.2) := by
  intro x1 x4 t0 t1 w hz
  rw [f_X9_waysOfLay_101] at hz
  exact (Sm.rf).tr (Hk_5 x1 (t1 + t0) (x4 + 1) _  hz)
theorem fr_X9_waysOfLay_76 {z : Int64 × GW} {k_5 : Int32 → Int64 → Int32 → GW → Option (Int64 × GW)} (Hk_5 : (∀ (x1 : Int32) (x2 : Int64) (x4 : Int32) (w : GW), k_5 x1 x2 x4 w = some z → Sm L_X9_waysOfLay R_X9_waysOfLay w z.2)) {k_31 : Int32 → Int64 → Int32 → Int32 → Int32 → GW → Option (Int64 × GW)} (Hk_31 : (∀ (x1 : Int32) (x2 : Int64) (x4 : Int32) (x5 : Int32) (x6 : Int32) (w : GW), k_31 x1 x2 x4 x5 x6 w = some z → Sm L_X9_waysOfLay R_X9_waysOfLay w z.2)) : (∀ (x1 : Int32) (x2 : Int64) (x4 : Int32) (x6 : Int32) (t0 : Int32) (w : GW), f_X9_waysOfLay_76 k_5 k_31 x1 x2 x4 x6 t0 w = some z → Sm L_X9_waysOfLay R_X9_waysOfLay w z.2) := by
  intro x1 x2 x4 x6 t0 w hz
  rw [f_X9_waysOfLay_76] at hz
  exact (Sm.rf).tr (Hk_31 x1 x2 x4 t0 (x6 + 1) _  hz)
theorem fr_X9_waysOfLay_75 {z : Int64 × GW} {k_5 : Int32 → Int64 → Int32 → GW → Option (Int64 × GW)} (Hk_5 : (∀ (x1 : Int32) (x2 : Int64) (x4 : Int32) (w : GW), k_5 x1 x2 x4 w = some z → Sm L_X9_waysOfLay R_X9_waysOfLay w z.2)) {k_31 : Int32 → Int64 → Int32 → Int32 → Int32 → GW → Option (Int64 × GW)} (Hk_31 : (∀ (x1 : Int32) (x2 : Int64) (x4 : Int32) (x5 : Int32) (x6 : Int32) (w : GW), k_31 x1 x2 x4 x5 x6 w = some z → Sm L_X9_waysOfLay R_X9_waysOfLay w z.2)) : (∀ (x1 : Int32) (x2 : Int64) (x4 : Int32) (x6 : Int32) (w : GW), f_X9_waysOfLay_75 k_5 k_31 x1 x2 x4 x6 w = some z → Sm L_X9_waysOfLay R_X9_waysOfLay w z.2) := by
  intro x1 x2 x4 x6 w hz
  rw [f_X9_waysOfLay_75] at hz
  exact (Sm.rf).tr (fr_X9_waysOfLay_76 Hk_5 Hk_31 x1 x2 x4 x6 0 _ hz)
theorem fr_X9_waysOfLay_31 {z : Int64 × GW} {k_5 : Int32 → Int64 → Int32 → GW → Option (Int64 × GW)} (Hk_5 : (∀ (x1 : Int32) (x2 : Int64) (x4 : Int32) (w : GW), k_5 x1 x2 x4 w = some z → Sm L_X9_waysOfLay R_X9_waysOfLay w z.2)) : ∀ (n9 : Nat), (∀ (x1 : Int32) (x2 : Int64) (x4 : Int32) (x5 : Int32) (x6 : Int32) (w : GW), f_X9_waysOfLay_31 k_5 n9 x1 x2 x4 x5 x6 w = some z → Sm L_X9_waysOfLay R_X9_waysOfLay w z.2) := by
  intro n9
  induction n9 with
  | zero =>
    intro x1 x2 x4 x5 x6 w hz
    rw [f_X9_waysOfLay_31] at hz
    cases hz
  | succ n9 ih =>
    intro x1 x2 x4 x5 x6 w hz
    rw [f_X9_waysOfLay_31] at hz
    obtain ⟨h4, hz⟩ := ck hz
    rcases bri hz with hz | hz
    · rcases bri hz with hz | hz
      · exact (Sm.rf).tr (fr_X9_waysOfLay_101 Hk_5 x1 x4 0 x2 _ hz)
      · obtain ⟨h5, hz⟩ := ck hz
        exact (Sm.rf).tr (fr_X9_waysOfLay_101 Hk_5 x1 x4 (gL w 142 (ix x4)) x2 _ hz)
    · rcases bri hz with hz | hz
      · exact (Sm.rf).tr (fr_X9_waysOfLay_75 Hk_5 ih x1 x2 x4 x6 _ hz)
      · obtain ⟨h6, hz⟩ := ck hz
        obtain ⟨h7, hz⟩ := ck hz
        rcases bri hz with hz | hz
        · exact (Sm.rf).tr (fr_X9_waysOfLay_76 Hk_5 ih x1 x2 x4 x6 1 _ hz)
        · exact (Sm.rf).tr (fr_X9_waysOfLay_75 Hk_5 ih x1 x2 x4 x6 _ hz)
theorem fr_X9_waysOfLay_5 {z : Int64 × GW} : ∀ (n9 : Nat), (∀ (x1 : Int32) (x2 : Int64) (x4 : Int32) (w : GW), f_X9_waysOfLay_5 n9 x1 x2 x4 w = some z → Sm L_X9_waysOfLay R_X9_waysOfLay w z.2) := by
  intro n9
  induction n9 with
  | zero =>
    intro x1 x2 x4 w hz
    rw [f_X9_waysOfLay_5] at hz
    cases hz
  | succ n9 ih =>
    intro x1 x2 x4 w hz
    rw [f_X9_waysOfLay_5] at hz
    rcases bri hz with hz | hz
    · cases hz
      exact Sm.rf
    · obtain ⟨h1, hz⟩ := ck hz
      obtain ⟨q2, e3, hz⟩ := bd hz
      have ie3 : Sub L_X9_layApart L_X9_waysOfLay := by
        unfold L_X9_layApart
        exact (Sub.cons (lo2 := 130) (hi2 := 131) (c2 := 23) (show _ ∈ L_X9_waysOfLay from by simp [L_X9_waysOfLay]) (by omega) (by omega) (Or.inr rfl) (Sub.cons (lo2 := 137) (hi2 := 138) (c2 := 0) (show _ ∈ L_X9_waysOfLay from by simp [L_X9_waysOfLay]) (by omega) (by omega) (Or.inl rfl) Sub.nil))
      exact ((Sm.rf.call (fr_X9_layApart (gI w 139 (ix x4)) _ (z := q2) e3) ie3 (show ∀ r ∈ R_X9_layApart, r ∈ R_X9_waysOfLay from by decide))).tr (fr_X9_waysOfLay_31 ih fu x1 x2 x4 1 0 _ hz)
theorem fr_X9_waysOfLay (x1 : Int32) (w : GW) {z : Int64 × GW} : f_X9_waysOfLay x1 w = some z → Sm L_X9_waysOfLay R_X9_waysOfLay w z.2 := by
  intro  hz
  rw [f_X9_waysOfLay] at hz
  exact (Sm.rf).tr (fr_X9_waysOfLay_5 fu x1 0 0 _ hz)
def L_X9_lies : List (Nat × Nat × Nat) := [(130, 131, 1), (130, 131, 12), (130, 131, 23), (130, 131, 29), (130, 131, 30), (130, 131, 31), (137, 138, 0), (138, 139, 0), (139, 140, 0), (140, 141, 0), (141, 142, 0), (142, 143, 0), (143, 144, 0)]
def R_X9_lies : List Nat := []
theorem fr_X9_lies_29 {z : Int64 × GW} : (∀ (w : GW), f_X9_lies_29 w = some z → Sm L_X9_lies R_X9_lies w z.2) := by
  intro w hz
  rw [f_X9_lies_29] at hz
  obtain ⟨q5, e6, hz⟩ := bd hz
  have ie6 : Sub L_X9_no L_X9_lies := by
    unfold L_X9_no
    exact (Sub.cons (lo2 := 130) (hi2 := 131) (c2 := 12) (show _ ∈ L_X9_lies from by simp [L_X9_lies]) (by omega) (by omega) (Or.inr rfl) Sub.nil)
  cases hz
  exact (Sm.rf.call (fr_X9_no 1 _ (z := q5)  e6) ie6 (show ∀ r ∈ R_X9_no, r ∈ R_X9_lies from by decide))
theorem fr_X9_lies (x1 : Int32) (x2 : Int32) (x3 : Int32) (w : GW) {z : Int64 × GW} : f_X9_lies x1 x2 x3 w = some z → Sm L_X9_lies R_X9_lies w z.2 := by
  intro  hz
  rw [f_X9_lies] at hz
  obtain ⟨q1, e2, hz⟩ := bd hz
  have ie2 : Sub L_X9_good L_X9_lies := by
    unfold L_X9_good
    exact (Sub.cons (lo2 := 130) (hi2 := 131) (c2 := 1) (show _ ∈ L_X9_lies from by simp [L_X9_lies]) (by omega) (by omega) (Or.inr rfl) (Sub.cons (lo2 := 130) (hi2 := 131) (c2 := 12) (show _ ∈ L_X9_lies from by simp [L_X9_lies]) (by omega) (by omega) (Or.inr rfl) Sub.nil))
  obtain ⟨q3, e4, hz⟩ := bd hz
  have ie4 : Sub L_X9_isPorter L_X9_lies := by
    unfold L_X9_isPorter
    exact Sub.nil
  rcases bri hz with hz | hz
  · exact (((Sm.rf.call (fr_X9_good _ (z := q1) e2) ie2 (show ∀ r ∈ R_X9_good, r ∈ R_X9_lies from by decide)).call (fr_X9_isPorter x1 _ (z := q3) e4) ie4 (show ∀ r ∈ R_X9_isPorter, r ∈ R_X9_lies from by decide))).tr (fr_X9_lies_29 _ hz)
  · obtain ⟨h7, hz⟩ := ck hz
    obtain ⟨q8, e9, hz⟩ := bd hz
    have ie9 : Sub L_X9_within L_X9_lies := by
      unfold L_X9_within
      exact Sub.nil
    rcases bri hz with hz | hz
    · exact ((((Sm.rf.call (fr_X9_good _ (z := q1) e2) ie2 (show ∀ r ∈ R_X9_good, r ∈ R_X9_lies from by decide)).call (fr_X9_isPorter x1 _ (z := q3) e4) ie4 (show ∀ r ∈ R_X9_isPorter, r ∈ R_X9_lies from by decide)).call (fr_X9_within x2 0 ((gI q3.2 133 (ix 39)) - 1) _ (z := q8) e9) ie9 (show ∀ r ∈ R_X9_within, r ∈ R_X9_lies from by decide))).tr (fr_X9_lies_29 _ hz)
    · obtain ⟨h10, hz⟩ := ck hz
      obtain ⟨q11, e12, hz⟩ := bd hz
      have ie12 : Sub L_X9_laysBy L_X9_lies := by
        unfold L_X9_laysBy
        exact (Sub.cons (lo2 := 130) (hi2 := 131) (c2 := 23) (show _ ∈ L_X9_lies from by simp [L_X9_lies]) (by omega) (by omega) (Or.inr rfl) (Sub.cons (lo2 := 130) (hi2 := 131) (c2 := 29) (show _ ∈ L_X9_lies from by simp [L_X9_lies]) (by omega) (by omega) (Or.inr rfl) (Sub.cons (lo2 := 130) (hi2 := 131) (c2 := 30) (show _ ∈ L_X9_lies from by simp [L_X9_lies]) (by omega) (by omega) (Or.inr rfl) (Sub.cons (lo2 := 130) (hi2 := 131) (c2 := 31) (show _ ∈ L_X9_lies from by simp [L_X9_lies]) (by omega) (by omega) (Or.inr rfl) (Sub.cons (lo2 := 137) (hi2 := 138) (c2 := 0) (show _ ∈ L_X9_lies from by simp [L_X9_lies]) (by omega) (by omega) (Or.inl rfl) (Sub.cons (lo2 := 138) (hi2 := 139) (c2 := 0) (show _ ∈ L_X9_lies from by simp [L_X9_lies]) (by omega) (by omega) (Or.inl rfl) (Sub.cons (lo2 := 139) (hi2 := 140) (c2 := 0) (show _ ∈ L_X9_lies from by simp [L_X9_lies]) (by omega) (by omega) (Or.inl rfl) (Sub.cons (lo2 := 140) (hi2 := 141) (c2 := 0) (show _ ∈ L_X9_lies from by simp [L_X9_lies]) (by omega) (by omega) (Or.inl rfl) (Sub.cons (lo2 := 141) (hi2 := 142) (c2 := 0) (show _ ∈ L_X9_lies from by simp [L_X9_lies]) (by omega) (by omega) (Or.inl rfl) (Sub.cons (lo2 := 142) (hi2 := 143) (c2 := 0) (show _ ∈ L_X9_lies from by simp [L_X9_lies]) (by omega) (by omega) (Or.inl rfl) (Sub.cons (lo2 := 143) (hi2 := 144) (c2 := 0) (show _ ∈ L_X9_lies from by simp [L_X9_lies]) (by omega) (by omega) (Or.inl rfl) Sub.nil)))))))))))
      rcases bri hz with hz | hz
      · obtain ⟨q13, e14, hz⟩ := bd hz
        have ie14 : Sub L_X9_no L_X9_lies := by
          unfold L_X9_no
          exact (Sub.cons (lo2 := 130) (hi2 := 131) (c2 := 12) (show _ ∈ L_X9_lies from by simp [L_X9_lies]) (by omega) (by omega) (Or.inr rfl) Sub.nil)
        cases hz
        exact (((((Sm.rf.call (fr_X9_good  _ (z := q1)  e2) ie2 (show ∀ r ∈ R_X9_good, r ∈ R_X9_lies from by decide)).call (fr_X9_isPorter x1 _ (z := q3)  e4) ie4 (show ∀ r ∈ R_X9_isPorter, r ∈ R_X9_lies from by decide)).call (fr_X9_within x2 0 ((gI q3.2 133 (ix 39)) - 1) _ (z := q8)  e9) ie9 (show ∀ r ∈ R_X9_within, r ∈ R_X9_lies from by decide)).call (fr_X9_laysBy x1 (gI q8.2 133 (ix 1)) _ (z := q11)  e12) ie12 (show ∀ r ∈ R_X9_laysBy, r ∈ R_X9_lies from by decide)).call (fr_X9_no 3 _ (z := q13)  e14) ie14 (show ∀ r ∈ R_X9_no, r ∈ R_X9_lies from by decide))
      · obtain ⟨q15, e16, hz⟩ := bd hz
        have ie16 : Sub L_X9_waysOfLay L_X9_lies := by
          unfold L_X9_waysOfLay
          exact (Sub.cons (lo2 := 130) (hi2 := 131) (c2 := 23) (show _ ∈ L_X9_lies from by simp [L_X9_lies]) (by omega) (by omega) (Or.inr rfl) (Sub.cons (lo2 := 137) (hi2 := 138) (c2 := 0) (show _ ∈ L_X9_lies from by simp [L_X9_lies]) (by omega) (by omega) (Or.inl rfl) Sub.nil))
        obtain ⟨q17, e18, hz⟩ := bd hz
        have ie18 : Sub L_X9_lowest L_X9_lies := by
          unfold L_X9_lowest
          exact Sub.nil
        cases hz
        exact ((((((Sm.rf.call (fr_X9_good  _ (z := q1)  e2) ie2 (show ∀ r ∈ R_X9_good, r ∈ R_X9_lies from by decide)).call (fr_X9_isPorter x1 _ (z := q3)  e4) ie4 (show ∀ r ∈ R_X9_isPorter, r ∈ R_X9_lies from by decide)).call (fr_X9_within x2 0 ((gI q3.2 133 (ix 39)) - 1) _ (z := q8)  e9) ie9 (show ∀ r ∈ R_X9_within, r ∈ R_X9_lies from by decide)).call (fr_X9_laysBy x1 (gI q8.2 133 (ix 1)) _ (z := q11)  e12) ie12 (show ∀ r ∈ R_X9_laysBy, r ∈ R_X9_lies from by decide)).call (fr_X9_waysOfLay x2 _ (z := q15)  e16) ie16 (show ∀ r ∈ R_X9_waysOfLay, r ∈ R_X9_lies from by decide)).call (fr_X9_lowest q15.1 (gL q15.2 130 30) x3 _ (z := q17)  e18) ie18 (show ∀ r ∈ R_X9_lowest, r ∈ R_X9_lies from by decide))
def L_X9_setBig (k0 : Nat) : List (Nat × Nat × Nat) := [(k0, (k0 + 1), 0)]
def R_X9_setBig : List Nat := []
theorem fr_X9_setBig_2 {z : Unit × GW} (k0 : Nat) : ∀ (n9 : Nat), (∀ (x1 : Int32) (w : GW), f_X9_setBig_2 n9 k0 x1 w = some z → Sm (L_X9_setBig k0) R_X9_setBig w z.2) := by
  intro n9
  induction n9 with
  | zero =>
    intro x1 w hz
    rw [f_X9_setBig_2] at hz
    cases hz
  | succ n9 ih =>
    intro x1 w hz
    rw [f_X9_setBig_2] at hz
    rcases bri hz with hz | hz
    · obtain ⟨h1, hz⟩ := ck hz
      cases hz
      exact (Sm.rf.wI (lo := k0) (hi := (k0 + 1)) (c9 := 0) (show _ ∈ (L_X9_setBig k0) from by simp [L_X9_setBig]) (Nat.le_refl _) (Nat.lt_succ_self _) (Or.inl rfl))
    · obtain ⟨h2, hz⟩ := ck hz
      exact ((Sm.rf.wI (lo := k0) (hi := (k0 + 1)) (c9 := 0) (show _ ∈ (L_X9_setBig k0) from by simp [L_X9_setBig]) (Nat.le_refl _) (Nat.lt_succ_self _) (Or.inl rfl))).tr (ih (x1 + 1) _  hz)
theorem fr_X9_setBig (k0 : Nat) (w : GW) {z : Unit × GW} : f_X9_setBig k0 w = some z → Sm (L_X9_setBig k0) R_X9_setBig w z.2 := by
  intro  hz
  rw [f_X9_setBig] at hz
  exact (Sm.rf).tr (fr_X9_setBig_2 k0 fu 0 _ hz)
def L_X9_timesBig (k1 : Nat) : List (Nat × Nat × Nat) := [(146, 147, 0), (k1, (k1 + 1), 0)]
def R_X9_timesBig : List Nat := []
theorem fr_X9_timesBig_134 {z : Unit × GW} (k1 : Nat) : ∀ (n9 : Nat), (∀ (x7 : Int32) (w : GW), f_X9_timesBig_134 n9 k1 x7 w = some z → Sm (L_X9_timesBig k1) R_X9_timesBig w z.2) := by
  intro n9
  induction n9 with
  | zero =>
    intro x7 w hz
    rw [f_X9_timesBig_134] at hz
    cases hz
  | succ n9 ih =>
    intro x7 w hz
    rw [f_X9_timesBig_134] at hz
    rcases bri hz with hz | hz
    · cases hz
      exact Sm.rf
    · obtain ⟨h1, hz⟩ := ck hz
      obtain ⟨h2, hz⟩ := ck hz
      exact ((Sm.rf.wI (lo := k1) (hi := (k1 + 1)) (c9 := 0) (show _ ∈ (L_X9_timesBig k1) from by simp [L_X9_timesBig]) (Nat.le_refl _) (Nat.lt_succ_self _) (Or.inl rfl))).tr (ih (x7 + 1) _  hz)
theorem fr_X9_timesBig_51 {z : Unit × GW} (k1 : Nat) {k_30 : Nat → Int64 → Int32 → GW → Option (Unit × GW)} (Hk_30 : (∀ (x4 : Int64) (x6 : Int32) (w : GW), k_30 k1 x4 x6 w = some z → Sm (L_X9_timesBig k1) R_X9_timesBig w z.2)) : ∀ (n9 : Nat), (∀ (x4 : Int64) (x6 : Int32) (x7 : Int64) (x9 : Int64) (x11 : Int32) (w : GW), f_X9_timesBig_51 k_30 n9 k1 x4 x6 x7 x9 x11 w = some z → Sm (L_X9_timesBig k1) R_X9_timesBig w z.2) := by
  intro n9
  induction n9 with
  | zero =>
    intro x4 x6 x7 x9 x11 w hz
    rw [f_X9_timesBig_51] at hz
    cases hz
  | succ n9 ih =>
    intro x4 x6 x7 x9 x11 w hz
    rw [f_X9_timesBig_51] at hz
    rcases bri hz with hz | hz
    · exact (Sm.rf).tr (Hk_30 (x4 / 1000000000) (x6 + 1) _  hz)
    · obtain ⟨h3, hz⟩ := ck hz
      obtain ⟨h4, hz⟩ := ck hz
      obtain ⟨h5, hz⟩ := ck hz
      exact ((Sm.rf.wI (lo := 146) (hi := 147) (c9 := 0) (show _ ∈ (L_X9_timesBig k1) from by simp [L_X9_timesBig]) (by decide) (by decide) (Or.inl rfl))).tr (ih x4 x6 x7 (((((gI w 146 (ix (x11 + x6))).toInt64) + (((gI w k1 (ix x11)).toInt64) * x7)) + x9) / 1000000000) (x11 + 1) _  hz)
theorem fr_X9_timesBig_30 {z : Unit × GW} (k1 : Nat) : ∀ (n9 : Nat), (∀ (x4 : Int64) (x6 : Int32) (w : GW), f_X9_timesBig_30 n9 k1 x4 x6 w = some z → Sm (L_X9_timesBig k1) R_X9_timesBig w z.2) := by
  intro n9
  induction n9 with
  | zero =>
    intro x4 x6 w hz
    rw [f_X9_timesBig_30] at hz
    cases hz
  | succ n9 ih =>
    intro x4 x6 w hz
    rw [f_X9_timesBig_30] at hz
    rcases bri hz with hz | hz
    · exact (Sm.rf).tr (fr_X9_timesBig_134 k1 fu 0 _ hz)
    · exact (Sm.rf).tr (fr_X9_timesBig_51 k1 ih fu x4 x6 (lrm x4 1000000000) 0 0 _ hz)
theorem fr_X9_timesBig_3 {z : Unit × GW} (k1 : Nat) : ∀ (n9 : Nat), (∀ (x2 : Int64) (x4 : Int32) (w : GW), f_X9_timesBig_3 n9 k1 x2 x4 w = some z → Sm (L_X9_timesBig k1) R_X9_timesBig w z.2) := by
  intro n9
  induction n9 with
  | zero =>
    intro x2 x4 w hz
    rw [f_X9_timesBig_3] at hz
    cases hz
  | succ n9 ih =>
    intro x2 x4 w hz
    rw [f_X9_timesBig_3] at hz
    rcases bri hz with hz | hz
    · exact (Sm.rf).tr (fr_X9_timesBig_30 k1 fu x2 0 _ hz)
    · obtain ⟨h6, hz⟩ := ck hz
      exact ((Sm.rf.wI (lo := 146) (hi := 147) (c9 := 0) (show _ ∈ (L_X9_timesBig k1) from by simp [L_X9_timesBig]) (by decide) (by decide) (Or.inl rfl))).tr (ih x2 (x4 + 1) _  hz)
theorem fr_X9_timesBig (k1 : Nat) (x2 : Int64) (w : GW) {z : Unit × GW} : f_X9_timesBig k1 x2 w = some z → Sm (L_X9_timesBig k1) R_X9_timesBig w z.2 := by
  intro  hz
  rw [f_X9_timesBig] at hz
  exact (Sm.rf).tr (fr_X9_timesBig_3 k1 fu x2 0 _ hz)
def L_X9_compareBig (k0 : Nat) (k1 : Nat) : List (Nat × Nat × Nat) := []
def R_X9_compareBig : List Nat := []
theorem fr_X9_compareBig_3 {z : Int32 × GW} (k0 : Nat) (k1 : Nat) : ∀ (n9 : Nat), (∀ (x2 : Int32) (w : GW), f_X9_compareBig_3 n9 k0 k1 x2 w = some z → Sm (L_X9_compareBig k0 k1) R_X9_compareBig w z.2) := by
  intro n9
  induction n9 with
  | zero =>
    intro x2 w hz
    rw [f_X9_compareBig_3] at hz
    cases hz
  | succ n9 ih =>
    intro x2 w hz
    rw [f_X9_compareBig_3] at hz
    rcases bri hz with hz | hz
    · cases hz
      exact Sm.rf
    · obtain ⟨h1, hz⟩ := ck hz
      obtain ⟨h2, hz⟩ := ck hz
      rcases bri hz with hz | hz
      · exact (Sm.rf).tr (ih (x2 + (-1)) _  hz)
      · obtain ⟨h3, hz⟩ := ck hz
        obtain ⟨h4, hz⟩ := ck hz
        rcases bri hz with hz | hz
        · cases hz
          exact Sm.rf
        · cases hz
          exact Sm.rf
theorem fr_X9_compareBig (k0 : Nat) (k1 : Nat) (w : GW) {z : Int32 × GW} : f_X9_compareBig k0 k1 w = some z → Sm (L_X9_compareBig k0 k1) R_X9_compareBig w z.2 := by
  intro  hz
  rw [f_X9_compareBig] at hz
  exact (Sm.rf).tr (fr_X9_compareBig_3 k0 k1 fu 59 _ hz)
def L_X9_compare : List (Nat × Nat × Nat) := [(130, 131, 1), (130, 131, 12), (130, 131, 23), (130, 131, 29), (130, 131, 30), (130, 131, 31), (137, 138, 0), (138, 139, 0), (139, 140, 0), (140, 141, 0), (141, 142, 0), (142, 143, 0), (143, 144, 0), (144, 145, 0), (145, 146, 0), (146, 147, 0)]
def R_X9_compare : List Nat := []
theorem fr_X9_compare_20 {z : Int32 × GW} : (∀ (w : GW), f_X9_compare_20 w = some z → Sm L_X9_compare R_X9_compare w z.2) := by
  intro w hz
  rw [f_X9_compare_20] at hz
  obtain ⟨q5, e6, hz⟩ := bd hz
  have ie6 : Sub L_X9_no L_X9_compare := by
    unfold L_X9_no
    exact (Sub.cons (lo2 := 130) (hi2 := 131) (c2 := 12) (show _ ∈ L_X9_compare from by simp [L_X9_compare]) (by omega) (by omega) (Or.inr rfl) Sub.nil)
  cases hz
  exact (Sm.rf.call (fr_X9_no 1 _ (z := q5)  e6) ie6 (show ∀ r ∈ R_X9_no, r ∈ R_X9_compare from by decide))
theorem fr_X9_compare (x1 : Int32) (x2 : Int32) (x3 : Int32) (x4 : Int32) (w : GW) {z : Int32 × GW} : f_X9_compare x1 x2 x3 x4 w = some z → Sm L_X9_compare R_X9_compare w z.2 := by
  intro  hz
  rw [f_X9_compare] at hz
  obtain ⟨q1, e2, hz⟩ := bd hz
  have ie2 : Sub L_X9_good L_X9_compare := by
    unfold L_X9_good
    exact (Sub.cons (lo2 := 130) (hi2 := 131) (c2 := 1) (show _ ∈ L_X9_compare from by simp [L_X9_compare]) (by omega) (by omega) (Or.inr rfl) (Sub.cons (lo2 := 130) (hi2 := 131) (c2 := 12) (show _ ∈ L_X9_compare from by simp [L_X9_compare]) (by omega) (by omega) (Or.inr rfl) Sub.nil))
  obtain ⟨q3, e4, hz⟩ := bd hz
  have ie4 : Sub L_X9_isPorter L_X9_compare := by
    unfold L_X9_isPorter
    exact Sub.nil
  rcases bri hz with hz | hz
  · exact (((Sm.rf.call (fr_X9_good _ (z := q1) e2) ie2 (show ∀ r ∈ R_X9_good, r ∈ R_X9_compare from by decide)).call (fr_X9_isPorter x1 _ (z := q3) e4) ie4 (show ∀ r ∈ R_X9_isPorter, r ∈ R_X9_compare from by decide))).tr (fr_X9_compare_20 _ hz)
  · obtain ⟨q7, e8, hz⟩ := bd hz
    have ie8 : Sub L_X9_isPorter L_X9_compare := by
      unfold L_X9_isPorter
      exact Sub.nil
    rcases bri hz with hz | hz
    · exact ((((Sm.rf.call (fr_X9_good _ (z := q1) e2) ie2 (show ∀ r ∈ R_X9_good, r ∈ R_X9_compare from by decide)).call (fr_X9_isPorter x1 _ (z := q3) e4) ie4 (show ∀ r ∈ R_X9_isPorter, r ∈ R_X9_compare from by decide)).call (fr_X9_isPorter x2 _ (z := q7) e8) ie8 (show ∀ r ∈ R_X9_isPorter, r ∈ R_X9_compare from by decide))).tr (fr_X9_compare_20 _ hz)
    · obtain ⟨q9, e10, hz⟩ := bd hz
      have ie10 : Sub L_X9_within L_X9_compare := by
        unfold L_X9_within
        exact Sub.nil
      obtain ⟨q11, e12, hz⟩ := bd hz
      have ie12 : Sub L_X9_chanceWhy L_X9_compare := by
        unfold L_X9_chanceWhy
        exact (Sub.cons (lo2 := 130) (hi2 := 131) (c2 := 23) (show _ ∈ L_X9_compare from by simp [L_X9_compare]) (by omega) (by omega) (Or.inr rfl) (Sub.cons (lo2 := 130) (hi2 := 131) (c2 := 29) (show _ ∈ L_X9_compare from by simp [L_X9_compare]) (by omega) (by omega) (Or.inr rfl) (Sub.cons (lo2 := 130) (hi2 := 131) (c2 := 30) (show _ ∈ L_X9_compare from by simp [L_X9_compare]) (by omega) (by omega) (Or.inr rfl) (Sub.cons (lo2 := 130) (hi2 := 131) (c2 := 31) (show _ ∈ L_X9_compare from by simp [L_X9_compare]) (by omega) (by omega) (Or.inr rfl) (Sub.cons (lo2 := 137) (hi2 := 138) (c2 := 0) (show _ ∈ L_X9_compare from by simp [L_X9_compare]) (by omega) (by omega) (Or.inl rfl) (Sub.cons (lo2 := 138) (hi2 := 139) (c2 := 0) (show _ ∈ L_X9_compare from by simp [L_X9_compare]) (by omega) (by omega) (Or.inl rfl) (Sub.cons (lo2 := 139) (hi2 := 140) (c2 := 0) (show _ ∈ L_X9_compare from by simp [L_X9_compare]) (by omega) (by omega) (Or.inl rfl) (Sub.cons (lo2 := 140) (hi2 := 141) (c2 := 0) (show _ ∈ L_X9_compare from by simp [L_X9_compare]) (by omega) (by omega) (Or.inl rfl) (Sub.cons (lo2 := 141) (hi2 := 142) (c2 := 0) (show _ ∈ L_X9_compare from by simp [L_X9_compare]) (by omega) (by omega) (Or.inl rfl) (Sub.cons (lo2 := 142) (hi2 := 143) (c2 := 0) (show _ ∈ L_X9_compare from by simp [L_X9_compare]) (by omega) (by omega) (Or.inl rfl) (Sub.cons (lo2 := 143) (hi2 := 144) (c2 := 0) (show _ ∈ L_X9_compare from by simp [L_X9_compare]) (by omega) (by omega) (Or.inl rfl) Sub.nil)))))))))))
      rcases bri hz with hz | hz
      · obtain ⟨q13, e14, hz⟩ := bd hz
        have ie14 : Sub L_X9_waysOfFullest L_X9_compare := by
          unfold L_X9_waysOfFullest
          exact (Sub.cons (lo2 := 130) (hi2 := 131) (c2 := 23) (show _ ∈ L_X9_compare from by simp [L_X9_compare]) (by omega) (by omega) (Or.inr rfl) (Sub.cons (lo2 := 137) (hi2 := 138) (c2 := 0) (show _ ∈ L_X9_compare from by simp [L_X9_compare]) (by omega) (by omega) (Or.inl rfl) Sub.nil))
        obtain ⟨q15, e16, hz⟩ := bd hz
        have ie16 : Sub L_X9_laysBy L_X9_compare := by
          unfold L_X9_laysBy
          exact (Sub.cons (lo2 := 130) (hi2 := 131) (c2 := 23) (show _ ∈ L_X9_compare from by simp [L_X9_compare]) (by omega) (by omega) (Or.inr rfl) (Sub.cons (lo2 := 130) (hi2 := 131) (c2 := 29) (show _ ∈ L_X9_compare from by simp [L_X9_compare]) (by omega) (by omega) (Or.inr rfl) (Sub.cons (lo2 := 130) (hi2 := 131) (c2 := 30) (show _ ∈ L_X9_compare from by simp [L_X9_compare]) (by omega) (by omega) (Or.inr rfl) (Sub.cons (lo2 := 130) (hi2 := 131) (c2 := 31) (show _ ∈ L_X9_compare from by simp [L_X9_compare]) (by omega) (by omega) (Or.inr rfl) (Sub.cons (lo2 := 137) (hi2 := 138) (c2 := 0) (show _ ∈ L_X9_compare from by simp [L_X9_compare]) (by omega) (by omega) (Or.inl rfl) (Sub.cons (lo2 := 138) (hi2 := 139) (c2 := 0) (show _ ∈ L_X9_compare from by simp [L_X9_compare]) (by omega) (by omega) (Or.inl rfl) (Sub.cons (lo2 := 139) (hi2 := 140) (c2 := 0) (show _ ∈ L_X9_compare from by simp [L_X9_compare]) (by omega) (by omega) (Or.inl rfl) (Sub.cons (lo2 := 140) (hi2 := 141) (c2 := 0) (show _ ∈ L_X9_compare from by simp [L_X9_compare]) (by omega) (by omega) (Or.inl rfl) (Sub.cons (lo2 := 141) (hi2 := 142) (c2 := 0) (show _ ∈ L_X9_compare from by simp [L_X9_compare]) (by omega) (by omega) (Or.inl rfl) (Sub.cons (lo2 := 142) (hi2 := 143) (c2 := 0) (show _ ∈ L_X9_compare from by simp [L_X9_compare]) (by omega) (by omega) (Or.inl rfl) (Sub.cons (lo2 := 143) (hi2 := 144) (c2 := 0) (show _ ∈ L_X9_compare from by simp [L_X9_compare]) (by omega) (by omega) (Or.inl rfl) Sub.nil)))))))))))
        rcases bri hz with hz | hz
        · obtain ⟨q33, e34, hz⟩ := bd hz
          have ie34 : Sub L_X9_no L_X9_compare := by
            unfold L_X9_no
            exact (Sub.cons (lo2 := 130) (hi2 := 131) (c2 := 12) (show _ ∈ L_X9_compare from by simp [L_X9_compare]) (by omega) (by omega) (Or.inr rfl) Sub.nil)
          cases hz
          exact ((((((((Sm.rf.call (fr_X9_good  _ (z := q1)  e2) ie2 (show ∀ r ∈ R_X9_good, r ∈ R_X9_compare from by decide)).call (fr_X9_isPorter x1 _ (z := q3)  e4) ie4 (show ∀ r ∈ R_X9_isPorter, r ∈ R_X9_compare from by decide)).call (fr_X9_isPorter x2 _ (z := q7)  e8) ie8 (show ∀ r ∈ R_X9_isPorter, r ∈ R_X9_compare from by decide)).call (fr_X9_within x4 0 9 _ (z := q9)  e10) ie10 (show ∀ r ∈ R_X9_within, r ∈ R_X9_compare from by decide)).call (fr_X9_chanceWhy x1 x3 q9.1 _ (z := q11)  e12) ie12 (show ∀ r ∈ R_X9_chanceWhy, r ∈ R_X9_compare from by decide)).call (fr_X9_waysOfFullest x4 _ (z := q13)  e14) ie14 (show ∀ r ∈ R_X9_waysOfFullest, r ∈ R_X9_compare from by decide)).call (fr_X9_laysBy x2 x3 _ (z := q15)  e16) ie16 (show ∀ r ∈ R_X9_laysBy, r ∈ R_X9_compare from by decide)).call (fr_X9_no 3 _ (z := q33)  e34) ie34 (show ∀ r ∈ R_X9_no, r ∈ R_X9_compare from by decide))
        · obtain ⟨q17, e18, hz⟩ := bd hz
          have ie18 : Sub (L_X9_setBig 144) L_X9_compare := by
            unfold L_X9_setBig
            exact (Sub.cons (lo2 := 144) (hi2 := 145) (c2 := 0) (show _ ∈ L_X9_compare from by simp [L_X9_compare]) (by omega) (by omega) (Or.inl rfl) Sub.nil)
          obtain ⟨q19, e20, hz⟩ := bd hz
          have ie20 : Sub (L_X9_timesBig 144) L_X9_compare := by
            unfold L_X9_timesBig
            exact (Sub.cons (lo2 := 146) (hi2 := 147) (c2 := 0) (show _ ∈ L_X9_compare from by simp [L_X9_compare]) (by omega) (by omega) (Or.inl rfl) (Sub.cons (lo2 := 144) (hi2 := 145) (c2 := 0) (show _ ∈ L_X9_compare from by simp [L_X9_compare]) (by omega) (by omega) (Or.inl rfl) Sub.nil))
          obtain ⟨q21, e22, hz⟩ := bd hz
          have ie22 : Sub (L_X9_timesBig 144) L_X9_compare := by
            unfold L_X9_timesBig
            exact (Sub.cons (lo2 := 146) (hi2 := 147) (c2 := 0) (show _ ∈ L_X9_compare from by simp [L_X9_compare]) (by omega) (by omega) (Or.inl rfl) (Sub.cons (lo2 := 144) (hi2 := 145) (c2 := 0) (show _ ∈ L_X9_compare from by simp [L_X9_compare]) (by omega) (by omega) (Or.inl rfl) Sub.nil))
          obtain ⟨q23, e24, hz⟩ := bd hz
          have ie24 : Sub (L_X9_setBig 145) L_X9_compare := by
            unfold L_X9_setBig
            exact (Sub.cons (lo2 := 145) (hi2 := 146) (c2 := 0) (show _ ∈ L_X9_compare from by simp [L_X9_compare]) (by omega) (by omega) (Or.inl rfl) Sub.nil)
          obtain ⟨q25, e26, hz⟩ := bd hz
          have ie26 : Sub L_X9_waysOfFullest L_X9_compare := by
            unfold L_X9_waysOfFullest
            exact (Sub.cons (lo2 := 130) (hi2 := 131) (c2 := 23) (show _ ∈ L_X9_compare from by simp [L_X9_compare]) (by omega) (by omega) (Or.inr rfl) (Sub.cons (lo2 := 137) (hi2 := 138) (c2 := 0) (show _ ∈ L_X9_compare from by simp [L_X9_compare]) (by omega) (by omega) (Or.inl rfl) Sub.nil))
          obtain ⟨q27, e28, hz⟩ := bd hz
          have ie28 : Sub (L_X9_timesBig 145) L_X9_compare := by
            unfold L_X9_timesBig
            exact (Sub.cons (lo2 := 146) (hi2 := 147) (c2 := 0) (show _ ∈ L_X9_compare from by simp [L_X9_compare]) (by omega) (by omega) (Or.inl rfl) (Sub.cons (lo2 := 145) (hi2 := 146) (c2 := 0) (show _ ∈ L_X9_compare from by simp [L_X9_compare]) (by omega) (by omega) (Or.inl rfl) Sub.nil))
          obtain ⟨q29, e30, hz⟩ := bd hz
          have ie30 : Sub (L_X9_timesBig 145) L_X9_compare := by
            unfold L_X9_timesBig
            exact (Sub.cons (lo2 := 146) (hi2 := 147) (c2 := 0) (show _ ∈ L_X9_compare from by simp [L_X9_compare]) (by omega) (by omega) (Or.inl rfl) (Sub.cons (lo2 := 145) (hi2 := 146) (c2 := 0) (show _ ∈ L_X9_compare from by simp [L_X9_compare]) (by omega) (by omega) (Or.inl rfl) Sub.nil))
          obtain ⟨q31, e32, hz⟩ := bd hz
          have ie32 : Sub (L_X9_compareBig 144 145) L_X9_compare := by
            unfold L_X9_compareBig
            exact Sub.nil
          cases hz
          exact (((((((((((((((Sm.rf.call (fr_X9_good  _ (z := q1)  e2) ie2 (show ∀ r ∈ R_X9_good, r ∈ R_X9_compare from by decide)).call (fr_X9_isPorter x1 _ (z := q3)  e4) ie4 (show ∀ r ∈ R_X9_isPorter, r ∈ R_X9_compare from by decide)).call (fr_X9_isPorter x2 _ (z := q7)  e8) ie8 (show ∀ r ∈ R_X9_isPorter, r ∈ R_X9_compare from by decide)).call (fr_X9_within x4 0 9 _ (z := q9)  e10) ie10 (show ∀ r ∈ R_X9_within, r ∈ R_X9_compare from by decide)).call (fr_X9_chanceWhy x1 x3 q9.1 _ (z := q11)  e12) ie12 (show ∀ r ∈ R_X9_chanceWhy, r ∈ R_X9_compare from by decide)).call (fr_X9_waysOfFullest x4 _ (z := q13)  e14) ie14 (show ∀ r ∈ R_X9_waysOfFullest, r ∈ R_X9_compare from by decide)).call (fr_X9_laysBy x2 x3 _ (z := q15)  e16) ie16 (show ∀ r ∈ R_X9_laysBy, r ∈ R_X9_compare from by decide)).call (fr_X9_setBig 144 _ (z := q17)  e18) ie18 (show ∀ r ∈ R_X9_setBig, r ∈ R_X9_compare from by decide)).call (fr_X9_timesBig 144 q13.1 _ (z := q19)  e20) ie20 (show ∀ r ∈ R_X9_timesBig, r ∈ R_X9_compare from by decide)).call (fr_X9_timesBig 144 (gL q19.2 130 30) _ (z := q21)  e22) ie22 (show ∀ r ∈ R_X9_timesBig, r ∈ R_X9_compare from by decide)).call (fr_X9_setBig 145 _ (z := q23)  e24) ie24 (show ∀ r ∈ R_X9_setBig, r ∈ R_X9_compare from by decide)).call (fr_X9_waysOfFullest x4 _ (z := q25)  e26) ie26 (show ∀ r ∈ R_X9_waysOfFullest, r ∈ R_X9_compare from by decide)).call (fr_X9_timesBig 145 q25.1 _ (z := q27)  e28) ie28 (show ∀ r ∈ R_X9_timesBig, r ∈ R_X9_compare from by decide)).call (fr_X9_timesBig 145 (gL q13.2 130 30) _ (z := q29)  e30) ie30 (show ∀ r ∈ R_X9_timesBig, r ∈ R_X9_compare from by decide)).call (fr_X9_compareBig 144 145 _ (z := q31)  e32) ie32 (show ∀ r ∈ R_X9_compareBig, r ∈ R_X9_compare from by decide))
      · obtain ⟨q35, e36, hz⟩ := bd hz
        have ie36 : Sub L_X9_no L_X9_compare := by
          unfold L_X9_no
          exact (Sub.cons (lo2 := 130) (hi2 := 131) (c2 := 12) (show _ ∈ L_X9_compare from by simp [L_X9_compare]) (by omega) (by omega) (Or.inr rfl) Sub.nil)
        cases hz
        exact ((((((Sm.rf.call (fr_X9_good  _ (z := q1)  e2) ie2 (show ∀ r ∈ R_X9_good, r ∈ R_X9_compare from by decide)).call (fr_X9_isPorter x1 _ (z := q3)  e4) ie4 (show ∀ r ∈ R_X9_isPorter, r ∈ R_X9_compare from by decide)).call (fr_X9_isPorter x2 _ (z := q7)  e8) ie8 (show ∀ r ∈ R_X9_isPorter, r ∈ R_X9_compare from by decide)).call (fr_X9_within x4 0 9 _ (z := q9)  e10) ie10 (show ∀ r ∈ R_X9_within, r ∈ R_X9_compare from by decide)).call (fr_X9_chanceWhy x1 x3 q9.1 _ (z := q11)  e12) ie12 (show ∀ r ∈ R_X9_chanceWhy, r ∈ R_X9_compare from by decide)).call (fr_X9_no q11.1 _ (z := q35)  e36) ie36 (show ∀ r ∈ R_X9_no, r ∈ R_X9_compare from by decide))
def L_X9_boundWhy : List (Nat × Nat × Nat) := []
def R_X9_boundWhy : List Nat := []
theorem fr_X9_boundWhy (x1 : Int32) (x2 : Int32) (w : GW) {z : Int32 × GW} : f_X9_boundWhy x1 x2 w = some z → Sm L_X9_boundWhy R_X9_boundWhy w z.2 := by
  intro  hz
  rw [f_X9_boundWhy] at hz
  rcases bri hz with hz | hz
  · cases hz
    exact Sm.rf
  · obtain ⟨h1, hz⟩ := ck hz
    obtain ⟨q2, e3, hz⟩ := bd hz
    have ie3 : Sub L_X9_within L_X9_boundWhy := by
      unfold L_X9_within
      exact Sub.nil
    rcases bri hz with hz | hz
    · cases hz
      exact (Sm.rf.call (fr_X9_within x1 0 (gI w 133 (ix 1)) _ (z := q2)  e3) ie3 (show ∀ r ∈ R_X9_within, r ∈ R_X9_boundWhy from by decide))
    · obtain ⟨q4, e5, hz⟩ := bd hz
      have ie5 : Sub L_X9_within L_X9_boundWhy := by
        unfold L_X9_within
        exact Sub.nil
      rcases bri hz with hz | hz
      · cases hz
        exact ((Sm.rf.call (fr_X9_within x1 0 (gI w 133 (ix 1)) _ (z := q2)  e3) ie3 (show ∀ r ∈ R_X9_within, r ∈ R_X9_boundWhy from by decide)).call (fr_X9_within x2 1 9 _ (z := q4)  e5) ie5 (show ∀ r ∈ R_X9_within, r ∈ R_X9_boundWhy from by decide))
      · cases hz
        exact ((Sm.rf.call (fr_X9_within x1 0 (gI w 133 (ix 1)) _ (z := q2)  e3) ie3 (show ∀ r ∈ R_X9_within, r ∈ R_X9_boundWhy from by decide)).call (fr_X9_within x2 1 9 _ (z := q4)  e5) ie5 (show ∀ r ∈ R_X9_within, r ∈ R_X9_boundWhy from by decide))
def L_X9_never : List (Nat × Nat × Nat) := [(130, 131, 1), (130, 131, 12), (130, 131, 23), (130, 131, 29), (130, 131, 30), (130, 131, 31), (137, 138, 0), (138, 139, 0), (139, 140, 0), (140, 141, 0), (141, 142, 0), (142, 143, 0), (143, 144, 0)]
def R_X9_never : List Nat := []
theorem fr_X9_never_80 {z : Int32 × GW} {k_24 : Int32 → Int32 → Int32 → GW → Option (Int32 × GW)} (Hk_24 : (∀ (x1 : Int32) (x2 : Int32) (x4 : Int32) (w : GW), k_24 x1 x2 x4 w = some z → Sm L_X9_never R_X9_never w z.2)) {k_46 : Int32 → Int32 → Int32 → Int32 → Int32 → GW → Option (Int32 × GW)} (Hk_46 : (∀ (x1 : Int32) (x2 : Int32) (x4 : Int32) (x5 : Int32) (x6 : Int32) (w : GW), k_46 x1 x2 x4 x5 x6 w = some z → Sm L_X9_never R_X9_never w z.2)) : (∀ (x1 : Int32) (x2 : Int32) (x4 : Int32) (x6 : Int32) (t0 : Int32) (w : GW), f_X9_never_80 k_24 k_46 x1 x2 x4 x6 t0 w = some z → Sm L_X9_never R_X9_never w z.2) := by
  intro x1 x2 x4 x6 t0 w hz
  rw [f_X9_never_80] at hz
  exact (Sm.rf).tr (Hk_46 x1 x2 x4 t0 (x6 + 1) _  hz)
theorem fr_X9_never_79 {z : Int32 × GW} {k_24 : Int32 → Int32 → Int32 → GW → Option (Int32 × GW)} (Hk_24 : (∀ (x1 : Int32) (x2 : Int32) (x4 : Int32) (w : GW), k_24 x1 x2 x4 w = some z → Sm L_X9_never R_X9_never w z.2)) {k_46 : Int32 → Int32 → Int32 → Int32 → Int32 → GW → Option (Int32 × GW)} (Hk_46 : (∀ (x1 : Int32) (x2 : Int32) (x4 : Int32) (x5 : Int32) (x6 : Int32) (w : GW), k_46 x1 x2 x4 x5 x6 w = some z → Sm L_X9_never R_X9_never w z.2)) : (∀ (x1 : Int32) (x2 : Int32) (x4 : Int32) (x6 : Int32) (w : GW), f_X9_never_79 k_24 k_46 x1 x2 x4 x6 w = some z → Sm L_X9_never R_X9_never w z.2) := by
  intro x1 x2 x4 x6 w hz
  rw [f_X9_never_79] at hz
  exact (Sm.rf).tr (fr_X9_never_80 Hk_24 Hk_46 x1 x2 x4 x6 0 _ hz)
theorem fr_X9_never_46 {z : Int32 × GW} {k_24 : Int32 → Int32 → Int32 → GW → Option (Int32 × GW)} (Hk_24 : (∀ (x1 : Int32) (x2 : Int32) (x4 : Int32) (w : GW), k_24 x1 x2 x4 w = some z → Sm L_X9_never R_X9_never w z.2)) : ∀ (n9 : Nat), (∀ (x1 : Int32) (x2 : Int32) (x4 : Int32) (x5 : Int32) (x6 : Int32) (w : GW), f_X9_never_46 k_24 n9 x1 x2 x4 x5 x6 w = some z → Sm L_X9_never R_X9_never w z.2) := by
  intro n9
  induction n9 with
  | zero =>
    intro x1 x2 x4 x5 x6 w hz
    rw [f_X9_never_46] at hz
    cases hz
  | succ n9 ih =>
    intro x1 x2 x4 x5 x6 w hz
    rw [f_X9_never_46] at hz
    rcases bri hz with hz | hz
    · rcases bri hz with hz | hz
      · exact (Sm.rf).tr (Hk_24 x1 x2 (x4 + 1) _  hz)
      · cases hz
        exact Sm.rf
    · rcases bri hz with hz | hz
      · exact (Sm.rf).tr (fr_X9_never_79 Hk_24 ih x1 x2 x4 x6 _ hz)
      · obtain ⟨h7, hz⟩ := ck hz
        obtain ⟨q8, e9, hz⟩ := bd hz
        have ie9 : Sub L_X9_fullestOf L_X9_never := by
          unfold L_X9_fullestOf
          exact (Sub.cons (lo2 := 130) (hi2 := 131) (c2 := 23) (show _ ∈ L_X9_never from by simp [L_X9_never]) (by omega) (by omega) (Or.inr rfl) (Sub.cons (lo2 := 137) (hi2 := 138) (c2 := 0) (show _ ∈ L_X9_never from by simp [L_X9_never]) (by omega) (by omega) (Or.inl rfl) Sub.nil))
        rcases bri hz with hz | hz
        · exact ((Sm.rf.call (fr_X9_fullestOf (gI w 139 (ix x6)) _ (z := q8) e9) ie9 (show ∀ r ∈ R_X9_fullestOf, r ∈ R_X9_never from by decide))).tr (fr_X9_never_79 Hk_24 ih x1 x2 x4 x6 _ hz)
        · exact ((Sm.rf.call (fr_X9_fullestOf (gI w 139 (ix x6)) _ (z := q8) e9) ie9 (show ∀ r ∈ R_X9_fullestOf, r ∈ R_X9_never from by decide))).tr (fr_X9_never_80 Hk_24 ih x1 x2 x4 x6 1 _ hz)
theorem fr_X9_never_24 {z : Int32 × GW} : ∀ (n9 : Nat), (∀ (x1 : Int32) (x2 : Int32) (x4 : Int32) (w : GW), f_X9_never_24 n9 x1 x2 x4 w = some z → Sm L_X9_never R_X9_never w z.2) := by
  intro n9
  induction n9 with
  | zero =>
    intro x1 x2 x4 w hz
    rw [f_X9_never_24] at hz
    cases hz
  | succ n9 ih =>
    intro x1 x2 x4 w hz
    rw [f_X9_never_24] at hz
    rcases bri hz with hz | hz
    · cases hz
      exact Sm.rf
    · obtain ⟨q5, e6, hz⟩ := bd hz
      have ie6 : Sub L_X9_lays L_X9_never := by
        unfold L_X9_lays
        exact (Sub.cons (lo2 := 130) (hi2 := 131) (c2 := 23) (show _ ∈ L_X9_never from by simp [L_X9_never]) (by omega) (by omega) (Or.inr rfl) (Sub.cons (lo2 := 130) (hi2 := 131) (c2 := 29) (show _ ∈ L_X9_never from by simp [L_X9_never]) (by omega) (by omega) (Or.inr rfl) (Sub.cons (lo2 := 130) (hi2 := 131) (c2 := 30) (show _ ∈ L_X9_never from by simp [L_X9_never]) (by omega) (by omega) (Or.inr rfl) (Sub.cons (lo2 := 130) (hi2 := 131) (c2 := 31) (show _ ∈ L_X9_never from by simp [L_X9_never]) (by omega) (by omega) (Or.inr rfl) (Sub.cons (lo2 := 137) (hi2 := 138) (c2 := 0) (show _ ∈ L_X9_never from by simp [L_X9_never]) (by omega) (by omega) (Or.inl rfl) (Sub.cons (lo2 := 138) (hi2 := 139) (c2 := 0) (show _ ∈ L_X9_never from by simp [L_X9_never]) (by omega) (by omega) (Or.inl rfl) (Sub.cons (lo2 := 139) (hi2 := 140) (c2 := 0) (show _ ∈ L_X9_never from by simp [L_X9_never]) (by omega) (by omega) (Or.inl rfl) (Sub.cons (lo2 := 140) (hi2 := 141) (c2 := 0) (show _ ∈ L_X9_never from by simp [L_X9_never]) (by omega) (by omega) (Or.inl rfl) (Sub.cons (lo2 := 141) (hi2 := 142) (c2 := 0) (show _ ∈ L_X9_never from by simp [L_X9_never]) (by omega) (by omega) (Or.inl rfl) (Sub.cons (lo2 := 142) (hi2 := 143) (c2 := 0) (show _ ∈ L_X9_never from by simp [L_X9_never]) (by omega) (by omega) (Or.inl rfl) (Sub.cons (lo2 := 143) (hi2 := 144) (c2 := 0) (show _ ∈ L_X9_never from by simp [L_X9_never]) (by omega) (by omega) (Or.inl rfl) Sub.nil)))))))))))
      exact ((Sm.rf.call (fr_X9_lays 1 (-2) x4 x1 0 _ (z := q5) e6) ie6 (show ∀ r ∈ R_X9_lays, r ∈ R_X9_never from by decide))).tr (fr_X9_never_46 ih fu x1 x2 x4 q5.1 0 _ hz)
theorem fr_X9_never (x1 : Int32) (x2 : Int32) (w : GW) {z : Int32 × GW} : f_X9_never x1 x2 w = some z → Sm L_X9_never R_X9_never w z.2 := by
  intro  hz
  rw [f_X9_never] at hz
  obtain ⟨q1, e2, hz⟩ := bd hz
  have ie2 : Sub L_X9_good L_X9_never := by
    unfold L_X9_good
    exact (Sub.cons (lo2 := 130) (hi2 := 131) (c2 := 1) (show _ ∈ L_X9_never from by simp [L_X9_never]) (by omega) (by omega) (Or.inr rfl) (Sub.cons (lo2 := 130) (hi2 := 131) (c2 := 12) (show _ ∈ L_X9_never from by simp [L_X9_never]) (by omega) (by omega) (Or.inr rfl) Sub.nil))
  obtain ⟨q3, e4, hz⟩ := bd hz
  have ie4 : Sub L_X9_boundWhy L_X9_never := by
    unfold L_X9_boundWhy
    exact Sub.nil
  rcases bri hz with hz | hz
  · exact (((Sm.rf.call (fr_X9_good _ (z := q1) e2) ie2 (show ∀ r ∈ R_X9_good, r ∈ R_X9_never from by decide)).call (fr_X9_boundWhy x1 x2 _ (z := q3) e4) ie4 (show ∀ r ∈ R_X9_boundWhy, r ∈ R_X9_never from by decide))).tr (fr_X9_never_24 fu x1 x2 1 _ hz)
  · obtain ⟨q10, e11, hz⟩ := bd hz
    have ie11 : Sub L_X9_no L_X9_never := by
      unfold L_X9_no
      exact (Sub.cons (lo2 := 130) (hi2 := 131) (c2 := 12) (show _ ∈ L_X9_never from by simp [L_X9_never]) (by omega) (by omega) (Or.inr rfl) Sub.nil)
    cases hz
    exact (((Sm.rf.call (fr_X9_good  _ (z := q1)  e2) ie2 (show ∀ r ∈ R_X9_good, r ∈ R_X9_never from by decide)).call (fr_X9_boundWhy x1 x2 _ (z := q3)  e4) ie4 (show ∀ r ∈ R_X9_boundWhy, r ∈ R_X9_never from by decide)).call (fr_X9_no q3.1 _ (z := q10)  e11) ie11 (show ∀ r ∈ R_X9_no, r ∈ R_X9_never from by decide))
def L_X9_findBest : List (Nat × Nat × Nat) := [(130, 131, 23), (130, 131, 29), (130, 131, 30), (130, 131, 31), (130, 131, 35), (137, 138, 0), (138, 139, 0), (139, 140, 0), (140, 141, 0), (141, 142, 0), (142, 143, 0), (143, 144, 0)]
def R_X9_findBest : List Nat := []
theorem fr_X9_findBest_63 {z : Int32 × GW} {k_6 : Int32 → Int32 → Int32 → Int32 → Int32 → GW → Option (Int32 × GW)} (Hk_6 : (∀ (x1 : Int32) (x2 : Int32) (x3 : Int32) (x4 : Int32) (x5 : Int32) (w : GW), k_6 x1 x2 x3 x4 x5 w = some z → Sm L_X9_findBest R_X9_findBest w z.2)) : (∀ (x1 : Int32) (x2 : Int32) (x3 : Int32) (x4 : Int32) (x5 : Int32) (w : GW), f_X9_findBest_63 k_6 x1 x2 x3 x4 x5 w = some z → Sm L_X9_findBest R_X9_findBest w z.2) := by
  intro x1 x2 x3 x4 x5 w hz
  rw [f_X9_findBest_63] at hz
  exact (Sm.rf).tr (Hk_6 x1 x2 x3 x4 (x5 + 1) _  hz)
theorem fr_X9_findBest_53 {z : Int32 × GW} {k_6 : Int32 → Int32 → Int32 → Int32 → Int32 → GW → Option (Int32 × GW)} (Hk_6 : (∀ (x1 : Int32) (x2 : Int32) (x3 : Int32) (x4 : Int32) (x5 : Int32) (w : GW), k_6 x1 x2 x3 x4 x5 w = some z → Sm L_X9_findBest R_X9_findBest w z.2)) : (∀ (x1 : Int32) (x2 : Int32) (x3 : Int32) (x5 : Int32) (x6 : Int64) (w : GW), f_X9_findBest_53 k_6 x1 x2 x3 x5 x6 w = some z → Sm L_X9_findBest R_X9_findBest w z.2) := by
  intro x1 x2 x3 x5 x6 w hz
  rw [f_X9_findBest_53] at hz
  exact ((Sm.rf.wL (lo := 130) (hi := 131) (c9 := 35) (show _ ∈ L_X9_findBest from by simp [L_X9_findBest]) (by decide) (by decide) (Or.inr rfl))).tr (fr_X9_findBest_63 Hk_6 x1 x2 x3 x5 x5 _ hz)
theorem fr_X9_findBest_6 {z : Int32 × GW} : ∀ (n9 : Nat), (∀ (x1 : Int32) (x2 : Int32) (x3 : Int32) (x4 : Int32) (x5 : Int32) (w : GW), f_X9_findBest_6 n9 x1 x2 x3 x4 x5 w = some z → Sm L_X9_findBest R_X9_findBest w z.2) := by
  intro n9
  induction n9 with
  | zero =>
    intro x1 x2 x3 x4 x5 w hz
    rw [f_X9_findBest_6] at hz
    cases hz
  | succ n9 ih =>
    intro x1 x2 x3 x4 x5 w hz
    rw [f_X9_findBest_6] at hz
    rcases bri hz with hz | hz
    · cases hz
      exact Sm.rf
    · obtain ⟨q1, e2, hz⟩ := bd hz
      have ie2 : Sub L_X9_lays L_X9_findBest := by
        unfold L_X9_lays
        exact (Sub.cons (lo2 := 130) (hi2 := 131) (c2 := 23) (show _ ∈ L_X9_findBest from by simp [L_X9_findBest]) (by omega) (by omega) (Or.inr rfl) (Sub.cons (lo2 := 130) (hi2 := 131) (c2 := 29) (show _ ∈ L_X9_findBest from by simp [L_X9_findBest]) (by omega) (by omega) (Or.inr rfl) (Sub.cons (lo2 := 130) (hi2 := 131) (c2 := 30) (show _ ∈ L_X9_findBest from by simp [L_X9_findBest]) (by omega) (by omega) (Or.inr rfl) (Sub.cons (lo2 := 130) (hi2 := 131) (c2 := 31) (show _ ∈ L_X9_findBest from by simp [L_X9_findBest]) (by omega) (by omega) (Or.inr rfl) (Sub.cons (lo2 := 137) (hi2 := 138) (c2 := 0) (show _ ∈ L_X9_findBest from by simp [L_X9_findBest]) (by omega) (by omega) (Or.inl rfl) (Sub.cons (lo2 := 138) (hi2 := 139) (c2 := 0) (show _ ∈ L_X9_findBest from by simp [L_X9_findBest]) (by omega) (by omega) (Or.inl rfl) (Sub.cons (lo2 := 139) (hi2 := 140) (c2 := 0) (show _ ∈ L_X9_findBest from by simp [L_X9_findBest]) (by omega) (by omega) (Or.inl rfl) (Sub.cons (lo2 := 140) (hi2 := 141) (c2 := 0) (show _ ∈ L_X9_findBest from by simp [L_X9_findBest]) (by omega) (by omega) (Or.inl rfl) (Sub.cons (lo2 := 141) (hi2 := 142) (c2 := 0) (show _ ∈ L_X9_findBest from by simp [L_X9_findBest]) (by omega) (by omega) (Or.inl rfl) (Sub.cons (lo2 := 142) (hi2 := 143) (c2 := 0) (show _ ∈ L_X9_findBest from by simp [L_X9_findBest]) (by omega) (by omega) (Or.inl rfl) (Sub.cons (lo2 := 143) (hi2 := 144) (c2 := 0) (show _ ∈ L_X9_findBest from by simp [L_X9_findBest]) (by omega) (by omega) (Or.inl rfl) Sub.nil)))))))))))
      rcases bri hz with hz | hz
      · cases hz
        exact (Sm.rf.call (fr_X9_lays 2 x5 x1 x2 1 _ (z := q1)  e2) ie2 (show ∀ r ∈ R_X9_lays, r ∈ R_X9_findBest from by decide))
      · obtain ⟨q3, e4, hz⟩ := bd hz
        have ie4 : Sub L_X9_waysOfFullest L_X9_findBest := by
          unfold L_X9_waysOfFullest
          exact (Sub.cons (lo2 := 130) (hi2 := 131) (c2 := 23) (show _ ∈ L_X9_findBest from by simp [L_X9_findBest]) (by omega) (by omega) (Or.inr rfl) (Sub.cons (lo2 := 137) (hi2 := 138) (c2 := 0) (show _ ∈ L_X9_findBest from by simp [L_X9_findBest]) (by omega) (by omega) (Or.inl rfl) Sub.nil))
        rcases bri hz with hz | hz
        · exact (((Sm.rf.call (fr_X9_lays 2 x5 x1 x2 1 _ (z := q1) e2) ie2 (show ∀ r ∈ R_X9_lays, r ∈ R_X9_findBest from by decide)).call (fr_X9_waysOfFullest x3 _ (z := q3) e4) ie4 (show ∀ r ∈ R_X9_waysOfFullest, r ∈ R_X9_findBest from by decide))).tr (fr_X9_findBest_53 ih x1 x2 x3 x5 q3.1 _ hz)
        · rcases bri hz with hz | hz
          · exact (((Sm.rf.call (fr_X9_lays 2 x5 x1 x2 1 _ (z := q1) e2) ie2 (show ∀ r ∈ R_X9_lays, r ∈ R_X9_findBest from by decide)).call (fr_X9_waysOfFullest x3 _ (z := q3) e4) ie4 (show ∀ r ∈ R_X9_waysOfFullest, r ∈ R_X9_findBest from by decide))).tr (fr_X9_findBest_53 ih x1 x2 x3 x5 q3.1 _ hz)
          · exact (((Sm.rf.call (fr_X9_lays 2 x5 x1 x2 1 _ (z := q1) e2) ie2 (show ∀ r ∈ R_X9_lays, r ∈ R_X9_findBest from by decide)).call (fr_X9_waysOfFullest x3 _ (z := q3) e4) ie4 (show ∀ r ∈ R_X9_waysOfFullest, r ∈ R_X9_findBest from by decide))).tr (fr_X9_findBest_63 ih x1 x2 x3 x4 x5 _ hz)
theorem fr_X9_findBest (x1 : Int32) (x2 : Int32) (x3 : Int32) (w : GW) {z : Int32 × GW} : f_X9_findBest x1 x2 x3 w = some z → Sm L_X9_findBest R_X9_findBest w z.2 := by
  intro  hz
  rw [f_X9_findBest] at hz
  exact (Sm.rf).tr (fr_X9_findBest_6 fu x1 x2 x3 (-1) 0 _ hz)
def L_X9_bestWhy : List (Nat × Nat × Nat) := []
def R_X9_bestWhy : List Nat := []
theorem fr_X9_bestWhy (x1 : Int32) (x2 : Int32) (x3 : Int32) (w : GW) {z : Int32 × GW} : f_X9_bestWhy x1 x2 x3 w = some z → Sm L_X9_bestWhy R_X9_bestWhy w z.2 := by
  intro  hz
  rw [f_X9_bestWhy] at hz
  rcases bri hz with hz | hz
  · cases hz
    exact Sm.rf
  · obtain ⟨h1, hz⟩ := ck hz
    obtain ⟨q2, e3, hz⟩ := bd hz
    have ie3 : Sub L_X9_within L_X9_bestWhy := by
      unfold L_X9_within
      exact Sub.nil
    rcases bri hz with hz | hz
    · cases hz
      exact (Sm.rf.call (fr_X9_within x2 0 (gI w 133 (ix 1)) _ (z := q2)  e3) ie3 (show ∀ r ∈ R_X9_within, r ∈ R_X9_bestWhy from by decide))
    · obtain ⟨q4, e5, hz⟩ := bd hz
      have ie5 : Sub L_X9_within L_X9_bestWhy := by
        unfold L_X9_within
        exact Sub.nil
      rcases bri hz with hz | hz
      · cases hz
        exact ((Sm.rf.call (fr_X9_within x2 0 (gI w 133 (ix 1)) _ (z := q2)  e3) ie3 (show ∀ r ∈ R_X9_within, r ∈ R_X9_bestWhy from by decide)).call (fr_X9_within x3 0 9 _ (z := q4)  e5) ie5 (show ∀ r ∈ R_X9_within, r ∈ R_X9_bestWhy from by decide))
      · obtain ⟨q6, e7, hz⟩ := bd hz
        have ie7 : Sub L_X9_within L_X9_bestWhy := by
          unfold L_X9_within
          exact Sub.nil
        rcases bri hz with hz | hz
        · cases hz
          exact (((Sm.rf.call (fr_X9_within x2 0 (gI w 133 (ix 1)) _ (z := q2)  e3) ie3 (show ∀ r ∈ R_X9_within, r ∈ R_X9_bestWhy from by decide)).call (fr_X9_within x3 0 9 _ (z := q4)  e5) ie5 (show ∀ r ∈ R_X9_within, r ∈ R_X9_bestWhy from by decide)).call (fr_X9_within x1 1 3 _ (z := q6)  e7) ie7 (show ∀ r ∈ R_X9_within, r ∈ R_X9_bestWhy from by decide))
        · cases hz
          exact (((Sm.rf.call (fr_X9_within x2 0 (gI w 133 (ix 1)) _ (z := q2)  e3) ie3 (show ∀ r ∈ R_X9_within, r ∈ R_X9_bestWhy from by decide)).call (fr_X9_within x3 0 9 _ (z := q4)  e5) ie5 (show ∀ r ∈ R_X9_within, r ∈ R_X9_bestWhy from by decide)).call (fr_X9_within x1 1 3 _ (z := q6)  e7) ie7 (show ∀ r ∈ R_X9_within, r ∈ R_X9_bestWhy from by decide))
def L_X9_best : List (Nat × Nat × Nat) := [(130, 131, 1), (130, 131, 12), (130, 131, 23), (130, 131, 29), (130, 131, 30), (130, 131, 31), (130, 131, 35), (137, 138, 0), (138, 139, 0), (139, 140, 0), (140, 141, 0), (141, 142, 0), (142, 143, 0), (143, 144, 0)]
def R_X9_best : List Nat := []
theorem fr_X9_best (x1 : Int32) (x2 : Int32) (x3 : Int32) (w : GW) {z : Int32 × GW} : f_X9_best x1 x2 x3 w = some z → Sm L_X9_best R_X9_best w z.2 := by
  intro  hz
  rw [f_X9_best] at hz
  obtain ⟨q1, e2, hz⟩ := bd hz
  have ie2 : Sub L_X9_good L_X9_best := by
    unfold L_X9_good
    exact (Sub.cons (lo2 := 130) (hi2 := 131) (c2 := 1) (show _ ∈ L_X9_best from by simp [L_X9_best]) (by omega) (by omega) (Or.inr rfl) (Sub.cons (lo2 := 130) (hi2 := 131) (c2 := 12) (show _ ∈ L_X9_best from by simp [L_X9_best]) (by omega) (by omega) (Or.inr rfl) Sub.nil))
  obtain ⟨q3, e4, hz⟩ := bd hz
  have ie4 : Sub L_X9_bestWhy L_X9_best := by
    unfold L_X9_bestWhy
    exact Sub.nil
  rcases bri hz with hz | hz
  · obtain ⟨q5, e6, hz⟩ := bd hz
    have ie6 : Sub L_X9_findBest L_X9_best := by
      unfold L_X9_findBest
      exact (Sub.cons (lo2 := 130) (hi2 := 131) (c2 := 23) (show _ ∈ L_X9_best from by simp [L_X9_best]) (by omega) (by omega) (Or.inr rfl) (Sub.cons (lo2 := 130) (hi2 := 131) (c2 := 29) (show _ ∈ L_X9_best from by simp [L_X9_best]) (by omega) (by omega) (Or.inr rfl) (Sub.cons (lo2 := 130) (hi2 := 131) (c2 := 30) (show _ ∈ L_X9_best from by simp [L_X9_best]) (by omega) (by omega) (Or.inr rfl) (Sub.cons (lo2 := 130) (hi2 := 131) (c2 := 31) (show _ ∈ L_X9_best from by simp [L_X9_best]) (by omega) (by omega) (Or.inr rfl) (Sub.cons (lo2 := 130) (hi2 := 131) (c2 := 35) (show _ ∈ L_X9_best from by simp [L_X9_best]) (by omega) (by omega) (Or.inr rfl) (Sub.cons (lo2 := 137) (hi2 := 138) (c2 := 0) (show _ ∈ L_X9_best from by simp [L_X9_best]) (by omega) (by omega) (Or.inl rfl) (Sub.cons (lo2 := 138) (hi2 := 139) (c2 := 0) (show _ ∈ L_X9_best from by simp [L_X9_best]) (by omega) (by omega) (Or.inl rfl) (Sub.cons (lo2 := 139) (hi2 := 140) (c2 := 0) (show _ ∈ L_X9_best from by simp [L_X9_best]) (by omega) (by omega) (Or.inl rfl) (Sub.cons (lo2 := 140) (hi2 := 141) (c2 := 0) (show _ ∈ L_X9_best from by simp [L_X9_best]) (by omega) (by omega) (Or.inl rfl) (Sub.cons (lo2 := 141) (hi2 := 142) (c2 := 0) (show _ ∈ L_X9_best from by simp [L_X9_best]) (by omega) (by omega) (Or.inl rfl) (Sub.cons (lo2 := 142) (hi2 := 143) (c2 := 0) (show _ ∈ L_X9_best from by simp [L_X9_best]) (by omega) (by omega) (Or.inl rfl) (Sub.cons (lo2 := 143) (hi2 := 144) (c2 := 0) (show _ ∈ L_X9_best from by simp [L_X9_best]) (by omega) (by omega) (Or.inl rfl) Sub.nil))))))))))))
    rcases bri hz with hz | hz
    · cases hz
      exact (((Sm.rf.call (fr_X9_good  _ (z := q1)  e2) ie2 (show ∀ r ∈ R_X9_good, r ∈ R_X9_best from by decide)).call (fr_X9_bestWhy x1 x2 x3 _ (z := q3)  e4) ie4 (show ∀ r ∈ R_X9_bestWhy, r ∈ R_X9_best from by decide)).call (fr_X9_findBest x1 x2 x3 _ (z := q5)  e6) ie6 (show ∀ r ∈ R_X9_findBest, r ∈ R_X9_best from by decide))
    · obtain ⟨q7, e8, hz⟩ := bd hz
      have ie8 : Sub L_X9_no L_X9_best := by
        unfold L_X9_no
        exact (Sub.cons (lo2 := 130) (hi2 := 131) (c2 := 12) (show _ ∈ L_X9_best from by simp [L_X9_best]) (by omega) (by omega) (Or.inr rfl) Sub.nil)
      cases hz
      exact ((((Sm.rf.call (fr_X9_good  _ (z := q1)  e2) ie2 (show ∀ r ∈ R_X9_good, r ∈ R_X9_best from by decide)).call (fr_X9_bestWhy x1 x2 x3 _ (z := q3)  e4) ie4 (show ∀ r ∈ R_X9_bestWhy, r ∈ R_X9_best from by decide)).call (fr_X9_findBest x1 x2 x3 _ (z := q5)  e6) ie6 (show ∀ r ∈ R_X9_findBest, r ∈ R_X9_best from by decide)).call (fr_X9_no 3 _ (z := q7)  e8) ie8 (show ∀ r ∈ R_X9_no, r ∈ R_X9_best from by decide))
  · obtain ⟨q9, e10, hz⟩ := bd hz
    have ie10 : Sub L_X9_no L_X9_best := by
      unfold L_X9_no
      exact (Sub.cons (lo2 := 130) (hi2 := 131) (c2 := 12) (show _ ∈ L_X9_best from by simp [L_X9_best]) (by omega) (by omega) (Or.inr rfl) Sub.nil)
    cases hz
    exact (((Sm.rf.call (fr_X9_good  _ (z := q1)  e2) ie2 (show ∀ r ∈ R_X9_good, r ∈ R_X9_best from by decide)).call (fr_X9_bestWhy x1 x2 x3 _ (z := q3)  e4) ie4 (show ∀ r ∈ R_X9_bestWhy, r ∈ R_X9_best from by decide)).call (fr_X9_no q3.1 _ (z := q9)  e10) ie10 (show ∀ r ∈ R_X9_no, r ∈ R_X9_best from by decide))
def L_X9_bestChance : List (Nat × Nat × Nat) := [(130, 131, 1), (130, 131, 12), (130, 131, 23), (130, 131, 29), (130, 131, 30), (130, 131, 31), (130, 131, 35), (137, 138, 0), (138, 139, 0), (139, 140, 0), (140, 141, 0), (141, 142, 0), (142, 143, 0), (143, 144, 0)]
def R_X9_bestChance : List Nat := []
theorem fr_X9_bestChance (x1 : Int32) (x2 : Int32) (x3 : Int32) (x4 : Int32) (w : GW) {z : Int64 × GW} : f_X9_bestChance x1 x2 x3 x4 w = some z → Sm L_X9_bestChance R_X9_bestChance w z.2 := by
  intro  hz
  rw [f_X9_bestChance] at hz
  obtain ⟨q1, e2, hz⟩ := bd hz
  have ie2 : Sub L_X9_good L_X9_bestChance := by
    unfold L_X9_good
    exact (Sub.cons (lo2 := 130) (hi2 := 131) (c2 := 1) (show _ ∈ L_X9_bestChance from by simp [L_X9_bestChance]) (by omega) (by omega) (Or.inr rfl) (Sub.cons (lo2 := 130) (hi2 := 131) (c2 := 12) (show _ ∈ L_X9_bestChance from by simp [L_X9_bestChance]) (by omega) (by omega) (Or.inr rfl) Sub.nil))
  obtain ⟨q3, e4, hz⟩ := bd hz
  have ie4 : Sub L_X9_bestWhy L_X9_bestChance := by
    unfold L_X9_bestWhy
    exact Sub.nil
  rcases bri hz with hz | hz
  · obtain ⟨q5, e6, hz⟩ := bd hz
    have ie6 : Sub L_X9_findBest L_X9_bestChance := by
      unfold L_X9_findBest
      exact (Sub.cons (lo2 := 130) (hi2 := 131) (c2 := 23) (show _ ∈ L_X9_bestChance from by simp [L_X9_bestChance]) (by omega) (by omega) (Or.inr rfl) (Sub.cons (lo2 := 130) (hi2 := 131) (c2 := 29) (show _ ∈ L_X9_bestChance from by simp [L_X9_bestChance]) (by omega) (by omega) (Or.inr rfl) (Sub.cons (lo2 := 130) (hi2 := 131) (c2 := 30) (show _ ∈ L_X9_bestChance from by simp [L_X9_bestChance]) (by omega) (by omega) (Or.inr rfl) (Sub.cons (lo2 := 130) (hi2 := 131) (c2 := 31) (show _ ∈ L_X9_bestChance from by simp [L_X9_bestChance]) (by omega) (by omega) (Or.inr rfl) (Sub.cons (lo2 := 130) (hi2 := 131) (c2 := 35) (show _ ∈ L_X9_bestChance from by simp [L_X9_bestChance]) (by omega) (by omega) (Or.inr rfl) (Sub.cons (lo2 := 137) (hi2 := 138) (c2 := 0) (show _ ∈ L_X9_bestChance from by simp [L_X9_bestChance]) (by omega) (by omega) (Or.inl rfl) (Sub.cons (lo2 := 138) (hi2 := 139) (c2 := 0) (show _ ∈ L_X9_bestChance from by simp [L_X9_bestChance]) (by omega) (by omega) (Or.inl rfl) (Sub.cons (lo2 := 139) (hi2 := 140) (c2 := 0) (show _ ∈ L_X9_bestChance from by simp [L_X9_bestChance]) (by omega) (by omega) (Or.inl rfl) (Sub.cons (lo2 := 140) (hi2 := 141) (c2 := 0) (show _ ∈ L_X9_bestChance from by simp [L_X9_bestChance]) (by omega) (by omega) (Or.inl rfl) (Sub.cons (lo2 := 141) (hi2 := 142) (c2 := 0) (show _ ∈ L_X9_bestChance from by simp [L_X9_bestChance]) (by omega) (by omega) (Or.inl rfl) (Sub.cons (lo2 := 142) (hi2 := 143) (c2 := 0) (show _ ∈ L_X9_bestChance from by simp [L_X9_bestChance]) (by omega) (by omega) (Or.inl rfl) (Sub.cons (lo2 := 143) (hi2 := 144) (c2 := 0) (show _ ∈ L_X9_bestChance from by simp [L_X9_bestChance]) (by omega) (by omega) (Or.inl rfl) Sub.nil))))))))))))
    rcases bri hz with hz | hz
    · obtain ⟨q7, e8, hz⟩ := bd hz
      have ie8 : Sub L_X9_lowest L_X9_bestChance := by
        unfold L_X9_lowest
        exact Sub.nil
      cases hz
      exact ((((Sm.rf.call (fr_X9_good  _ (z := q1)  e2) ie2 (show ∀ r ∈ R_X9_good, r ∈ R_X9_bestChance from by decide)).call (fr_X9_bestWhy x1 x2 x3 _ (z := q3)  e4) ie4 (show ∀ r ∈ R_X9_bestWhy, r ∈ R_X9_bestChance from by decide)).call (fr_X9_findBest x1 x2 x3 _ (z := q5)  e6) ie6 (show ∀ r ∈ R_X9_findBest, r ∈ R_X9_bestChance from by decide)).call (fr_X9_lowest (gL q5.2 130 34) (gL q5.2 130 30) x4 _ (z := q7)  e8) ie8 (show ∀ r ∈ R_X9_lowest, r ∈ R_X9_bestChance from by decide))
    · obtain ⟨q9, e10, hz⟩ := bd hz
      have ie10 : Sub L_X9_no L_X9_bestChance := by
        unfold L_X9_no
        exact (Sub.cons (lo2 := 130) (hi2 := 131) (c2 := 12) (show _ ∈ L_X9_bestChance from by simp [L_X9_bestChance]) (by omega) (by omega) (Or.inr rfl) Sub.nil)
      cases hz
      exact ((((Sm.rf.call (fr_X9_good  _ (z := q1)  e2) ie2 (show ∀ r ∈ R_X9_good, r ∈ R_X9_bestChance from by decide)).call (fr_X9_bestWhy x1 x2 x3 _ (z := q3)  e4) ie4 (show ∀ r ∈ R_X9_bestWhy, r ∈ R_X9_bestChance from by decide)).call (fr_X9_findBest x1 x2 x3 _ (z := q5)  e6) ie6 (show ∀ r ∈ R_X9_findBest, r ∈ R_X9_bestChance from by decide)).call (fr_X9_no 3 _ (z := q9)  e10) ie10 (show ∀ r ∈ R_X9_no, r ∈ R_X9_bestChance from by decide))
  · obtain ⟨q11, e12, hz⟩ := bd hz
    have ie12 : Sub L_X9_no L_X9_bestChance := by
      unfold L_X9_no
      exact (Sub.cons (lo2 := 130) (hi2 := 131) (c2 := 12) (show _ ∈ L_X9_bestChance from by simp [L_X9_bestChance]) (by omega) (by omega) (Or.inr rfl) Sub.nil)
    cases hz
    exact (((Sm.rf.call (fr_X9_good  _ (z := q1)  e2) ie2 (show ∀ r ∈ R_X9_good, r ∈ R_X9_bestChance from by decide)).call (fr_X9_bestWhy x1 x2 x3 _ (z := q3)  e4) ie4 (show ∀ r ∈ R_X9_bestWhy, r ∈ R_X9_bestChance from by decide)).call (fr_X9_no q3.1 _ (z := q11)  e12) ie12 (show ∀ r ∈ R_X9_no, r ∈ R_X9_bestChance from by decide))
def L_X9_isLikelier : List (Nat × Nat × Nat) := [(144, 145, 0), (145, 146, 0), (146, 147, 0)]
def R_X9_isLikelier : List Nat := []
theorem fr_X9_isLikelier_16 {z : Int32 × GW} : ∀ (n9 : Nat), (∀ (x1 : Int32) (x2 : Int32) (x3 : Int32) (w : GW), f_X9_isLikelier_16 n9 x1 x2 x3 w = some z → Sm L_X9_isLikelier R_X9_isLikelier w z.2) := by
  intro n9
  induction n9 with
  | zero =>
    intro x1 x2 x3 w hz
    rw [f_X9_isLikelier_16] at hz
    cases hz
  | succ n9 ih =>
    intro x1 x2 x3 w hz
    rw [f_X9_isLikelier_16] at hz
    obtain ⟨h5, hz⟩ := ck hz
    rcases bri hz with hz | hz
    · obtain ⟨q6, e7, hz⟩ := bd hz
      have ie7 : Sub (L_X9_compareBig 144 145) L_X9_isLikelier := by
        unfold L_X9_compareBig
        exact Sub.nil
      rcases bri hz with hz | hz
      · cases hz
        exact (Sm.rf.call (fr_X9_compareBig 144 145 _ (z := q6)  e7) ie7 (show ∀ r ∈ R_X9_compareBig, r ∈ R_X9_isLikelier from by decide))
      · cases hz
        exact (Sm.rf.call (fr_X9_compareBig 144 145 _ (z := q6)  e7) ie7 (show ∀ r ∈ R_X9_compareBig, r ∈ R_X9_isLikelier from by decide))
    · obtain ⟨h8, hz⟩ := ck hz
      obtain ⟨q9, e10, hz⟩ := bd hz
      have ie10 : Sub (L_X9_timesBig 144) L_X9_isLikelier := by
        unfold L_X9_timesBig
        exact (Sub.cons (lo2 := 146) (hi2 := 147) (c2 := 0) (show _ ∈ L_X9_isLikelier from by simp [L_X9_isLikelier]) (by omega) (by omega) (Or.inl rfl) (Sub.cons (lo2 := 144) (hi2 := 145) (c2 := 0) (show _ ∈ L_X9_isLikelier from by simp [L_X9_isLikelier]) (by omega) (by omega) (Or.inl rfl) Sub.nil))
      obtain ⟨h11, hz⟩ := ck hz
      obtain ⟨q12, e13, hz⟩ := bd hz
      have ie13 : Sub (L_X9_timesBig 144) L_X9_isLikelier := by
        unfold L_X9_timesBig
        exact (Sub.cons (lo2 := 146) (hi2 := 147) (c2 := 0) (show _ ∈ L_X9_isLikelier from by simp [L_X9_isLikelier]) (by omega) (by omega) (Or.inl rfl) (Sub.cons (lo2 := 144) (hi2 := 145) (c2 := 0) (show _ ∈ L_X9_isLikelier from by simp [L_X9_isLikelier]) (by omega) (by omega) (Or.inl rfl) Sub.nil))
      obtain ⟨h14, hz⟩ := ck hz
      obtain ⟨q15, e16, hz⟩ := bd hz
      have ie16 : Sub (L_X9_timesBig 145) L_X9_isLikelier := by
        unfold L_X9_timesBig
        exact (Sub.cons (lo2 := 146) (hi2 := 147) (c2 := 0) (show _ ∈ L_X9_isLikelier from by simp [L_X9_isLikelier]) (by omega) (by omega) (Or.inl rfl) (Sub.cons (lo2 := 145) (hi2 := 146) (c2 := 0) (show _ ∈ L_X9_isLikelier from by simp [L_X9_isLikelier]) (by omega) (by omega) (Or.inl rfl) Sub.nil))
      obtain ⟨h17, hz⟩ := ck hz
      obtain ⟨q18, e19, hz⟩ := bd hz
      have ie19 : Sub (L_X9_timesBig 145) L_X9_isLikelier := by
        unfold L_X9_timesBig
        exact (Sub.cons (lo2 := 146) (hi2 := 147) (c2 := 0) (show _ ∈ L_X9_isLikelier from by simp [L_X9_isLikelier]) (by omega) (by omega) (Or.inl rfl) (Sub.cons (lo2 := 145) (hi2 := 146) (c2 := 0) (show _ ∈ L_X9_isLikelier from by simp [L_X9_isLikelier]) (by omega) (by omega) (Or.inl rfl) Sub.nil))
      exact (((((Sm.rf.call (fr_X9_timesBig 144 (gL w 147 (ix ((8 * x1) + x3))) _ (z := q9)  e10) ie10 (show ∀ r ∈ R_X9_timesBig, r ∈ R_X9_isLikelier from by decide)).call (fr_X9_timesBig 144 (gL q9.2 148 (ix x2)) _ (z := q12)  e13) ie13 (show ∀ r ∈ R_X9_timesBig, r ∈ R_X9_isLikelier from by decide)).call (fr_X9_timesBig 145 (gL q12.2 147 (ix ((8 * x2) + x3))) _ (z := q15)  e16) ie16 (show ∀ r ∈ R_X9_timesBig, r ∈ R_X9_isLikelier from by decide)).call (fr_X9_timesBig 145 (gL q15.2 148 (ix x1)) _ (z := q18)  e19) ie19 (show ∀ r ∈ R_X9_timesBig, r ∈ R_X9_isLikelier from by decide))).tr (ih x1 x2 (x3 + 1) _  hz)
theorem fr_X9_isLikelier (x1 : Int32) (x2 : Int32) (w : GW) {z : Int32 × GW} : f_X9_isLikelier x1 x2 w = some z → Sm L_X9_isLikelier R_X9_isLikelier w z.2 := by
  intro  hz
  rw [f_X9_isLikelier] at hz
  obtain ⟨q1, e2, hz⟩ := bd hz
  have ie2 : Sub (L_X9_setBig 144) L_X9_isLikelier := by
    unfold L_X9_setBig
    exact (Sub.cons (lo2 := 144) (hi2 := 145) (c2 := 0) (show _ ∈ L_X9_isLikelier from by simp [L_X9_isLikelier]) (by omega) (by omega) (Or.inl rfl) Sub.nil)
  obtain ⟨q3, e4, hz⟩ := bd hz
  have ie4 : Sub (L_X9_setBig 145) L_X9_isLikelier := by
    unfold L_X9_setBig
    exact (Sub.cons (lo2 := 145) (hi2 := 146) (c2 := 0) (show _ ∈ L_X9_isLikelier from by simp [L_X9_isLikelier]) (by omega) (by omega) (Or.inl rfl) Sub.nil)
  exact (((Sm.rf.call (fr_X9_setBig 144 _ (z := q1) e2) ie2 (show ∀ r ∈ R_X9_setBig, r ∈ R_X9_isLikelier from by decide)).call (fr_X9_setBig 145 _ (z := q3) e4) ie4 (show ∀ r ∈ R_X9_setBig, r ∈ R_X9_isLikelier from by decide))).tr (fr_X9_isLikelier_16 fu x1 x2 0 _ hz)
def L_X9_likely : List (Nat × Nat × Nat) := [(130, 131, 1), (130, 131, 12), (130, 131, 23), (130, 131, 29), (130, 131, 30), (130, 131, 31), (137, 138, 0), (138, 139, 0), (139, 140, 0), (140, 141, 0), (141, 142, 0), (142, 143, 0), (143, 144, 0), (144, 145, 0), (145, 146, 0), (146, 147, 0), (147, 148, 0), (148, 149, 0)]
def R_X9_likely : List Nat := []
theorem fr_X9_likely_205 {z : Int32 × GW} {k_123 : Int32 → Int32 → GW → Option (Int32 × GW)} (Hk_123 : (∀ (x1 : Int32) (x2 : Int32) (w : GW), k_123 x1 x2 w = some z → Sm L_X9_likely R_X9_likely w z.2)) : (∀ (x1 : Int32) (x2 : Int32) (w : GW), f_X9_likely_205 k_123 x1 x2 w = some z → Sm L_X9_likely R_X9_likely w z.2) := by
  intro x1 x2 w hz
  rw [f_X9_likely_205] at hz
  exact (Sm.rf).tr (Hk_123 x1 (x2 + 1) _  hz)
theorem fr_X9_likely_203 {z : Int32 × GW} {k_123 : Int32 → Int32 → GW → Option (Int32 × GW)} (Hk_123 : (∀ (x1 : Int32) (x2 : Int32) (w : GW), k_123 x1 x2 w = some z → Sm L_X9_likely R_X9_likely w z.2)) : (∀ (x2 : Int32) (w : GW), f_X9_likely_203 k_123 x2 w = some z → Sm L_X9_likely R_X9_likely w z.2) := by
  intro x2 w hz
  rw [f_X9_likely_203] at hz
  exact (Sm.rf).tr (fr_X9_likely_205 Hk_123 x2 x2 _ hz)
theorem fr_X9_likely_177 {z : Int32 × GW} {k_123 : Int32 → Int32 → GW → Option (Int32 × GW)} (Hk_123 : (∀ (x1 : Int32) (x2 : Int32) (w : GW), k_123 x1 x2 w = some z → Sm L_X9_likely R_X9_likely w z.2)) {k_139 : Int32 → Int32 → Int32 → Int32 → GW → Option (Int32 × GW)} (Hk_139 : (∀ (x1 : Int32) (x2 : Int32) (x3 : Int32) (x4 : Int32) (w : GW), k_139 x1 x2 x3 x4 w = some z → Sm L_X9_likely R_X9_likely w z.2)) : (∀ (x1 : Int32) (x2 : Int32) (x4 : Int32) (t0 : Int32) (w : GW), f_X9_likely_177 k_123 k_139 x1 x2 x4 t0 w = some z → Sm L_X9_likely R_X9_likely w z.2) := by
  intro x1 x2 x4 t0 w hz
  rw [f_X9_likely_177] at hz
  exact (Sm.rf).tr (Hk_139 x1 x2 t0 (x4 + 1) _  hz)
theorem fr_X9_likely_176 {z : Int32 × GW} {k_123 : Int32 → Int32 → GW → Option (Int32 × GW)} (Hk_123 : (∀ (x1 : Int32) (x2 : Int32) (w : GW), k_123 x1 x2 w = some z → Sm L_X9_likely R_X9_likely w z.2)) {k_139 : Int32 → Int32 → Int32 → Int32 → GW → Option (Int32 × GW)} (Hk_139 : (∀ (x1 : Int32) (x2 : Int32) (x3 : Int32) (x4 : Int32) (w : GW), k_139 x1 x2 x3 x4 w = some z → Sm L_X9_likely R_X9_likely w z.2)) : (∀ (x1 : Int32) (x2 : Int32) (x4 : Int32) (w : GW), f_X9_likely_176 k_123 k_139 x1 x2 x4 w = some z → Sm L_X9_likely R_X9_likely w z.2) := by
  intro x1 x2 x4 w hz
  rw [f_X9_likely_176] at hz
  exact (Sm.rf).tr (fr_X9_likely_177 Hk_123 Hk_139 x1 x2 x4 0 _ hz)
theorem fr_X9_likely_139 {z : Int32 × GW} {k_123 : Int32 → Int32 → GW → Option (Int32 × GW)} (Hk_123 : (∀ (x1 : Int32) (x2 : Int32) (w : GW), k_123 x1 x2 w = some z → Sm L_X9_likely R_X9_likely w z.2)) : ∀ (n9 : Nat), (∀ (x1 : Int32) (x2 : Int32) (x3 : Int32) (x4 : Int32) (w : GW), f_X9_likely_139 k_123 n9 x1 x2 x3 x4 w = some z → Sm L_X9_likely R_X9_likely w z.2) := by
  intro n9
  induction n9 with
  | zero =>
    intro x1 x2 x3 x4 w hz
    rw [f_X9_likely_139] at hz
    cases hz
  | succ n9 ih =>
    intro x1 x2 x3 x4 w hz
    rw [f_X9_likely_139] at hz
    obtain ⟨h6, hz⟩ := ck hz
    rcases bri hz with hz | hz
    · rcases bri hz with hz | hz
      · exact (Sm.rf).tr (fr_X9_likely_205 Hk_123 x1 x2 _ hz)
      · rcases bri hz with hz | hz
        · exact (Sm.rf).tr (fr_X9_likely_203 Hk_123 x2 _ hz)
        · obtain ⟨q7, e8, hz⟩ := bd hz
          have ie8 : Sub L_X9_isLikelier L_X9_likely := by
            unfold L_X9_isLikelier
            exact (Sub.cons (lo2 := 144) (hi2 := 145) (c2 := 0) (show _ ∈ L_X9_likely from by simp [L_X9_likely]) (by omega) (by omega) (Or.inl rfl) (Sub.cons (lo2 := 145) (hi2 := 146) (c2 := 0) (show _ ∈ L_X9_likely from by simp [L_X9_likely]) (by omega) (by omega) (Or.inl rfl) (Sub.cons (lo2 := 146) (hi2 := 147) (c2 := 0) (show _ ∈ L_X9_likely from by simp [L_X9_likely]) (by omega) (by omega) (Or.inl rfl) Sub.nil)))
          rcases bri hz with hz | hz
          · exact ((Sm.rf.call (fr_X9_isLikelier x2 x1 _ (z := q7) e8) ie8 (show ∀ r ∈ R_X9_isLikelier, r ∈ R_X9_likely from by decide))).tr (fr_X9_likely_205 Hk_123 x1 x2 _ hz)
          · exact ((Sm.rf.call (fr_X9_isLikelier x2 x1 _ (z := q7) e8) ie8 (show ∀ r ∈ R_X9_isLikelier, r ∈ R_X9_likely from by decide))).tr (fr_X9_likely_203 Hk_123 x2 _ hz)
    · rcases bri hz with hz | hz
      · exact (Sm.rf).tr (fr_X9_likely_176 Hk_123 ih x1 x2 x4 _ hz)
      · obtain ⟨h9, hz⟩ := ck hz
        rcases bri hz with hz | hz
        · exact (Sm.rf).tr (fr_X9_likely_176 Hk_123 ih x1 x2 x4 _ hz)
        · exact (Sm.rf).tr (fr_X9_likely_177 Hk_123 ih x1 x2 x4 1 _ hz)
theorem fr_X9_likely_123 {z : Int32 × GW} : ∀ (n9 : Nat), (∀ (x1 : Int32) (x2 : Int32) (w : GW), f_X9_likely_123 n9 x1 x2 w = some z → Sm L_X9_likely R_X9_likely w z.2) := by
  intro n9
  induction n9 with
  | zero =>
    intro x1 x2 w hz
    rw [f_X9_likely_123] at hz
    cases hz
  | succ n9 ih =>
    intro x1 x2 w hz
    rw [f_X9_likely_123] at hz
    obtain ⟨h5, hz⟩ := ck hz
    rcases bri hz with hz | hz
    · cases hz
      exact Sm.rf
    · exact (Sm.rf).tr (fr_X9_likely_139 ih fu x1 x2 1 0 _ hz)
theorem fr_X9_likely_79 {z : Int32 × GW} {k_36 : Int32 → GW → Option (Int32 × GW)} (Hk_36 : (∀ (x1 : Int32) (w : GW), k_36 x1 w = some z → Sm L_X9_likely R_X9_likely w z.2)) : ∀ (n9 : Nat), (∀ (x1 : Int32) (x2 : Int32) (w : GW), f_X9_likely_79 k_36 n9 x1 x2 w = some z → Sm L_X9_likely R_X9_likely w z.2) := by
  intro n9
  induction n9 with
  | zero =>
    intro x1 x2 w hz
    rw [f_X9_likely_79] at hz
    cases hz
  | succ n9 ih =>
    intro x1 x2 w hz
    rw [f_X9_likely_79] at hz
    obtain ⟨h14, hz⟩ := ck hz
    rcases bri hz with hz | hz
    · exact (Sm.rf).tr (Hk_36 (x1 + 1) _  hz)
    · obtain ⟨q15, e16, hz⟩ := bd hz
      have ie16 : Sub L_X9_waysOfLay L_X9_likely := by
        unfold L_X9_waysOfLay
        exact (Sub.cons (lo2 := 130) (hi2 := 131) (c2 := 23) (show _ ∈ L_X9_likely from by simp [L_X9_likely]) (by omega) (by omega) (Or.inr rfl) (Sub.cons (lo2 := 137) (hi2 := 138) (c2 := 0) (show _ ∈ L_X9_likely from by simp [L_X9_likely]) (by omega) (by omega) (Or.inl rfl) Sub.nil))
      obtain ⟨h17, hz⟩ := ck hz
      exact (((Sm.rf.call (fr_X9_waysOfLay x2 _ (z := q15)  e16) ie16 (show ∀ r ∈ R_X9_waysOfLay, r ∈ R_X9_likely from by decide)).wL (lo := 147) (hi := 148) (c9 := 0) (show _ ∈ L_X9_likely from by simp [L_X9_likely]) (by decide) (by decide) (Or.inl rfl))).tr (ih x1 (x2 + 1) _  hz)
theorem fr_X9_likely_36 {z : Int32 × GW} : ∀ (n9 : Nat), (∀ (x1 : Int32) (w : GW), f_X9_likely_36 n9 x1 w = some z → Sm L_X9_likely R_X9_likely w z.2) := by
  intro n9
  induction n9 with
  | zero =>
    intro x1 w hz
    rw [f_X9_likely_36] at hz
    cases hz
  | succ n9 ih =>
    intro x1 w hz
    rw [f_X9_likely_36] at hz
    obtain ⟨h4, hz⟩ := ck hz
    rcases bri hz with hz | hz
    · exact (Sm.rf).tr (fr_X9_likely_123 fu (-2) 0 _ hz)
    · obtain ⟨h10, hz⟩ := ck hz
      obtain ⟨q11, e12, hz⟩ := bd hz
      have ie12 : Sub L_X9_laysBy L_X9_likely := by
        unfold L_X9_laysBy
        exact (Sub.cons (lo2 := 130) (hi2 := 131) (c2 := 23) (show _ ∈ L_X9_likely from by simp [L_X9_likely]) (by omega) (by omega) (Or.inr rfl) (Sub.cons (lo2 := 130) (hi2 := 131) (c2 := 29) (show _ ∈ L_X9_likely from by simp [L_X9_likely]) (by omega) (by omega) (Or.inr rfl) (Sub.cons (lo2 := 130) (hi2 := 131) (c2 := 30) (show _ ∈ L_X9_likely from by simp [L_X9_likely]) (by omega) (by omega) (Or.inr rfl) (Sub.cons (lo2 := 130) (hi2 := 131) (c2 := 31) (show _ ∈ L_X9_likely from by simp [L_X9_likely]) (by omega) (by omega) (Or.inr rfl) (Sub.cons (lo2 := 137) (hi2 := 138) (c2 := 0) (show _ ∈ L_X9_likely from by simp [L_X9_likely]) (by omega) (by omega) (Or.inl rfl) (Sub.cons (lo2 := 138) (hi2 := 139) (c2 := 0) (show _ ∈ L_X9_likely from by simp [L_X9_likely]) (by omega) (by omega) (Or.inl rfl) (Sub.cons (lo2 := 139) (hi2 := 140) (c2 := 0) (show _ ∈ L_X9_likely from by simp [L_X9_likely]) (by omega) (by omega) (Or.inl rfl) (Sub.cons (lo2 := 140) (hi2 := 141) (c2 := 0) (show _ ∈ L_X9_likely from by simp [L_X9_likely]) (by omega) (by omega) (Or.inl rfl) (Sub.cons (lo2 := 141) (hi2 := 142) (c2 := 0) (show _ ∈ L_X9_likely from by simp [L_X9_likely]) (by omega) (by omega) (Or.inl rfl) (Sub.cons (lo2 := 142) (hi2 := 143) (c2 := 0) (show _ ∈ L_X9_likely from by simp [L_X9_likely]) (by omega) (by omega) (Or.inl rfl) (Sub.cons (lo2 := 143) (hi2 := 144) (c2 := 0) (show _ ∈ L_X9_likely from by simp [L_X9_likely]) (by omega) (by omega) (Or.inl rfl) Sub.nil)))))))))))
      rcases bri hz with hz | hz
      · obtain ⟨q18, e19, hz⟩ := bd hz
        have ie19 : Sub L_X9_no L_X9_likely := by
          unfold L_X9_no
          exact (Sub.cons (lo2 := 130) (hi2 := 131) (c2 := 12) (show _ ∈ L_X9_likely from by simp [L_X9_likely]) (by omega) (by omega) (Or.inr rfl) Sub.nil)
        cases hz
        exact ((Sm.rf.call (fr_X9_laysBy x1 (gI w 133 (ix 1)) _ (z := q11)  e12) ie12 (show ∀ r ∈ R_X9_laysBy, r ∈ R_X9_likely from by decide)).call (fr_X9_no 3 _ (z := q18)  e19) ie19 (show ∀ r ∈ R_X9_no, r ∈ R_X9_likely from by decide))
      · obtain ⟨h13, hz⟩ := ck hz
        exact (((Sm.rf.call (fr_X9_laysBy x1 (gI w 133 (ix 1)) _ (z := q11) e12) ie12 (show ∀ r ∈ R_X9_laysBy, r ∈ R_X9_likely from by decide)).wL (lo := 148) (hi := 149) (c9 := 0) (show _ ∈ L_X9_likely from by simp [L_X9_likely]) (by decide) (by decide) (Or.inl rfl))).tr (fr_X9_likely_79 ih fu x1 0 _ hz)
theorem fr_X9_likely  (w : GW) {z : Int32 × GW} : f_X9_likely w = some z → Sm L_X9_likely R_X9_likely w z.2 := by
  intro  hz
  rw [f_X9_likely] at hz
  obtain ⟨q1, e2, hz⟩ := bd hz
  have ie2 : Sub L_X9_good L_X9_likely := by
    unfold L_X9_good
    exact (Sub.cons (lo2 := 130) (hi2 := 131) (c2 := 1) (show _ ∈ L_X9_likely from by simp [L_X9_likely]) (by omega) (by omega) (Or.inr rfl) (Sub.cons (lo2 := 130) (hi2 := 131) (c2 := 12) (show _ ∈ L_X9_likely from by simp [L_X9_likely]) (by omega) (by omega) (Or.inr rfl) Sub.nil))
  rcases bri hz with hz | hz
  · obtain ⟨q22, e23, hz⟩ := bd hz
    have ie23 : Sub L_X9_no L_X9_likely := by
      unfold L_X9_no
      exact (Sub.cons (lo2 := 130) (hi2 := 131) (c2 := 12) (show _ ∈ L_X9_likely from by simp [L_X9_likely]) (by omega) (by omega) (Or.inr rfl) Sub.nil)
    cases hz
    exact ((Sm.rf.call (fr_X9_good  _ (z := q1)  e2) ie2 (show ∀ r ∈ R_X9_good, r ∈ R_X9_likely from by decide)).call (fr_X9_no 1 _ (z := q22)  e23) ie23 (show ∀ r ∈ R_X9_no, r ∈ R_X9_likely from by decide))
  · obtain ⟨h3, hz⟩ := ck hz
    rcases bri hz with hz | hz
    · obtain ⟨q20, e21, hz⟩ := bd hz
      have ie21 : Sub L_X9_no L_X9_likely := by
        unfold L_X9_no
        exact (Sub.cons (lo2 := 130) (hi2 := 131) (c2 := 12) (show _ ∈ L_X9_likely from by simp [L_X9_likely]) (by omega) (by omega) (Or.inr rfl) Sub.nil)
      cases hz
      exact ((Sm.rf.call (fr_X9_good  _ (z := q1)  e2) ie2 (show ∀ r ∈ R_X9_good, r ∈ R_X9_likely from by decide)).call (fr_X9_no 6 _ (z := q20)  e21) ie21 (show ∀ r ∈ R_X9_no, r ∈ R_X9_likely from by decide))
    · exact ((Sm.rf.call (fr_X9_good _ (z := q1) e2) ie2 (show ∀ r ∈ R_X9_good, r ∈ R_X9_likely from by decide))).tr (fr_X9_likely_36 fu 0 _ hz)
def L_X9_cannot : List (Nat × Nat × Nat) := [(130, 131, 1), (130, 131, 12), (130, 131, 23), (130, 131, 29), (130, 131, 30), (130, 131, 31), (137, 138, 0), (138, 139, 0), (139, 140, 0), (140, 141, 0), (141, 142, 0), (142, 143, 0), (143, 144, 0)]
def R_X9_cannot : List Nat := []
theorem fr_X9_cannot_71 {z : Int32 × GW} {k_42 : Int32 → Int32 → GW → Option (Int32 × GW)} (Hk_42 : (∀ (x2 : Int32) (x3 : Int32) (w : GW), k_42 x2 x3 w = some z → Sm L_X9_cannot R_X9_cannot w z.2)) : (∀ (x3 : Int32) (t0 : Int32) (t1 : Int32) (w : GW), f_X9_cannot_71 k_42 x3 t0 t1 w = some z → Sm L_X9_cannot R_X9_cannot w z.2) := by
  intro x3 t0 t1 w hz
  rw [f_X9_cannot_71] at hz
  exact (Sm.rf).tr (Hk_42 (t1 ||| t0) (x3 + 1) _  hz)
theorem fr_X9_cannot_42 {z : Int32 × GW} : ∀ (n9 : Nat), (∀ (x2 : Int32) (x3 : Int32) (w : GW), f_X9_cannot_42 n9 x2 x3 w = some z → Sm L_X9_cannot R_X9_cannot w z.2) := by
  intro n9
  induction n9 with
  | zero =>
    intro x2 x3 w hz
    rw [f_X9_cannot_42] at hz
    cases hz
  | succ n9 ih =>
    intro x2 x3 w hz
    rw [f_X9_cannot_42] at hz
    obtain ⟨h8, hz⟩ := ck hz
    rcases bri hz with hz | hz
    · cases hz
      exact Sm.rf
    · obtain ⟨q9, e10, hz⟩ := bd hz
      have ie10 : Sub L_X9_waysOfLay L_X9_cannot := by
        unfold L_X9_waysOfLay
        exact (Sub.cons (lo2 := 130) (hi2 := 131) (c2 := 23) (show _ ∈ L_X9_cannot from by simp [L_X9_cannot]) (by omega) (by omega) (Or.inr rfl) (Sub.cons (lo2 := 137) (hi2 := 138) (c2 := 0) (show _ ∈ L_X9_cannot from by simp [L_X9_cannot]) (by omega) (by omega) (Or.inl rfl) Sub.nil))
      rcases bri hz with hz | hz
      · exact ((Sm.rf.call (fr_X9_waysOfLay x3 _ (z := q9) e10) ie10 (show ∀ r ∈ R_X9_waysOfLay, r ∈ R_X9_cannot from by decide))).tr (fr_X9_cannot_71 ih x3 ((1 : Int32) <<< (x3 &&& 31)) x2 _ hz)
      · exact ((Sm.rf.call (fr_X9_waysOfLay x3 _ (z := q9) e10) ie10 (show ∀ r ∈ R_X9_waysOfLay, r ∈ R_X9_cannot from by decide))).tr (fr_X9_cannot_71 ih x3 0 x2 _ hz)
theorem fr_X9_cannot (x1 : Int32) (w : GW) {z : Int32 × GW} : f_X9_cannot x1 w = some z → Sm L_X9_cannot R_X9_cannot w z.2 := by
  intro  hz
  rw [f_X9_cannot] at hz
  obtain ⟨q1, e2, hz⟩ := bd hz
  have ie2 : Sub L_X9_good L_X9_cannot := by
    unfold L_X9_good
    exact (Sub.cons (lo2 := 130) (hi2 := 131) (c2 := 1) (show _ ∈ L_X9_cannot from by simp [L_X9_cannot]) (by omega) (by omega) (Or.inr rfl) (Sub.cons (lo2 := 130) (hi2 := 131) (c2 := 12) (show _ ∈ L_X9_cannot from by simp [L_X9_cannot]) (by omega) (by omega) (Or.inr rfl) Sub.nil))
  obtain ⟨q3, e4, hz⟩ := bd hz
  have ie4 : Sub L_X9_isPorter L_X9_cannot := by
    unfold L_X9_isPorter
    exact Sub.nil
  rcases bri hz with hz | hz
  · obtain ⟨q13, e14, hz⟩ := bd hz
    have ie14 : Sub L_X9_no L_X9_cannot := by
      unfold L_X9_no
      exact (Sub.cons (lo2 := 130) (hi2 := 131) (c2 := 12) (show _ ∈ L_X9_cannot from by simp [L_X9_cannot]) (by omega) (by omega) (Or.inr rfl) Sub.nil)
    cases hz
    exact (((Sm.rf.call (fr_X9_good  _ (z := q1)  e2) ie2 (show ∀ r ∈ R_X9_good, r ∈ R_X9_cannot from by decide)).call (fr_X9_isPorter x1 _ (z := q3)  e4) ie4 (show ∀ r ∈ R_X9_isPorter, r ∈ R_X9_cannot from by decide)).call (fr_X9_no 1 _ (z := q13)  e14) ie14 (show ∀ r ∈ R_X9_no, r ∈ R_X9_cannot from by decide))
  · obtain ⟨h5, hz⟩ := ck hz
    obtain ⟨q6, e7, hz⟩ := bd hz
    have ie7 : Sub L_X9_laysBy L_X9_cannot := by
      unfold L_X9_laysBy
      exact (Sub.cons (lo2 := 130) (hi2 := 131) (c2 := 23) (show _ ∈ L_X9_cannot from by simp [L_X9_cannot]) (by omega) (by omega) (Or.inr rfl) (Sub.cons (lo2 := 130) (hi2 := 131) (c2 := 29) (show _ ∈ L_X9_cannot from by simp [L_X9_cannot]) (by omega) (by omega) (Or.inr rfl) (Sub.cons (lo2 := 130) (hi2 := 131) (c2 := 30) (show _ ∈ L_X9_cannot from by simp [L_X9_cannot]) (by omega) (by omega) (Or.inr rfl) (Sub.cons (lo2 := 130) (hi2 := 131) (c2 := 31) (show _ ∈ L_X9_cannot from by simp [L_X9_cannot]) (by omega) (by omega) (Or.inr rfl) (Sub.cons (lo2 := 137) (hi2 := 138) (c2 := 0) (show _ ∈ L_X9_cannot from by simp [L_X9_cannot]) (by omega) (by omega) (Or.inl rfl) (Sub.cons (lo2 := 138) (hi2 := 139) (c2 := 0) (show _ ∈ L_X9_cannot from by simp [L_X9_cannot]) (by omega) (by omega) (Or.inl rfl) (Sub.cons (lo2 := 139) (hi2 := 140) (c2 := 0) (show _ ∈ L_X9_cannot from by simp [L_X9_cannot]) (by omega) (by omega) (Or.inl rfl) (Sub.cons (lo2 := 140) (hi2 := 141) (c2 := 0) (show _ ∈ L_X9_cannot from by simp [L_X9_cannot]) (by omega) (by omega) (Or.inl rfl) (Sub.cons (lo2 := 141) (hi2 := 142) (c2 := 0) (show _ ∈ L_X9_cannot from by simp [L_X9_cannot]) (by omega) (by omega) (Or.inl rfl) (Sub.cons (lo2 := 142) (hi2 := 143) (c2 := 0) (show _ ∈ L_X9_cannot from by simp [L_X9_cannot]) (by omega) (by omega) (Or.inl rfl) (Sub.cons (lo2 := 143) (hi2 := 144) (c2 := 0) (show _ ∈ L_X9_cannot from by simp [L_X9_cannot]) (by omega) (by omega) (Or.inl rfl) Sub.nil)))))))))))
    rcases bri hz with hz | hz
    · obtain ⟨q11, e12, hz⟩ := bd hz
      have ie12 : Sub L_X9_no L_X9_cannot := by
        unfold L_X9_no
        exact (Sub.cons (lo2 := 130) (hi2 := 131) (c2 := 12) (show _ ∈ L_X9_cannot from by simp [L_X9_cannot]) (by omega) (by omega) (Or.inr rfl) Sub.nil)
      cases hz
      exact ((((Sm.rf.call (fr_X9_good  _ (z := q1)  e2) ie2 (show ∀ r ∈ R_X9_good, r ∈ R_X9_cannot from by decide)).call (fr_X9_isPorter x1 _ (z := q3)  e4) ie4 (show ∀ r ∈ R_X9_isPorter, r ∈ R_X9_cannot from by decide)).call (fr_X9_laysBy x1 (gI q3.2 133 (ix 1)) _ (z := q6)  e7) ie7 (show ∀ r ∈ R_X9_laysBy, r ∈ R_X9_cannot from by decide)).call (fr_X9_no 3 _ (z := q11)  e12) ie12 (show ∀ r ∈ R_X9_no, r ∈ R_X9_cannot from by decide))
    · exact ((((Sm.rf.call (fr_X9_good _ (z := q1) e2) ie2 (show ∀ r ∈ R_X9_good, r ∈ R_X9_cannot from by decide)).call (fr_X9_isPorter x1 _ (z := q3) e4) ie4 (show ∀ r ∈ R_X9_isPorter, r ∈ R_X9_cannot from by decide)).call (fr_X9_laysBy x1 (gI q3.2 133 (ix 1)) _ (z := q6) e7) ie7 (show ∀ r ∈ R_X9_laysBy, r ∈ R_X9_cannot from by decide))).tr (fr_X9_cannot_42 fu 0 0 _ hz)
def L_X9_layDay : List (Nat × Nat × Nat) := [(130, 131, 23), (137, 138, 0)]
def R_X9_layDay : List Nat := []
theorem fr_X9_layDay_2 {z : Unit × GW} : ∀ (n9 : Nat), (∀ (x1 : Int32) (w : GW), f_X9_layDay_2 n9 x1 w = some z → Sm L_X9_layDay R_X9_layDay w z.2) := by
  intro n9
  induction n9 with
  | zero =>
    intro x1 w hz
    rw [f_X9_layDay_2] at hz
    cases hz
  | succ n9 ih =>
    intro x1 w hz
    rw [f_X9_layDay_2] at hz
    rcases bri hz with hz | hz
    · obtain ⟨h1, hz⟩ := ck hz
      rcases bri hz with hz | hz
      · cases hz
        exact (Sm.rf.wI (lo := 130) (hi := 131) (c9 := 23) (show _ ∈ L_X9_layDay from by simp [L_X9_layDay]) (by decide) (by decide) (Or.inr rfl))
      · obtain ⟨h2, hz⟩ := ck hz
        cases hz
        exact (Sm.rf.wI (lo := 130) (hi := 131) (c9 := 23) (show _ ∈ L_X9_layDay from by simp [L_X9_layDay]) (by decide) (by decide) (Or.inr rfl))
    · obtain ⟨h3, hz⟩ := ck hz
      obtain ⟨h4, hz⟩ := ck hz
      exact ((Sm.rf.wI (lo := 137) (hi := 138) (c9 := 0) (show _ ∈ L_X9_layDay from by simp [L_X9_layDay]) (by decide) (by decide) (Or.inl rfl))).tr (ih (x1 + 1) _  hz)
theorem fr_X9_layDay  (w : GW) {z : Unit × GW} : f_X9_layDay w = some z → Sm L_X9_layDay R_X9_layDay w z.2 := by
  intro  hz
  rw [f_X9_layDay] at hz
  exact (Sm.rf).tr (fr_X9_layDay_2 fu 0 _ hz)
def L_X9_keepDay : List (Nat × Nat × Nat) := [(135, 136, 0)]
def R_X9_keepDay : List Nat := []
theorem fr_X9_keepDay_2 {z : Unit × GW} : ∀ (n9 : Nat), (∀ (x1 : Int32) (w : GW), f_X9_keepDay_2 n9 x1 w = some z → Sm L_X9_keepDay R_X9_keepDay w z.2) := by
  intro n9
  induction n9 with
  | zero =>
    intro x1 w hz
    rw [f_X9_keepDay_2] at hz
    cases hz
  | succ n9 ih =>
    intro x1 w hz
    rw [f_X9_keepDay_2] at hz
    rcases bri hz with hz | hz
    · rcases bri hz with hz | hz
      · obtain ⟨h1, hz⟩ := ck hz
        cases hz
        exact (Sm.rf.wI (lo := 135) (hi := 136) (c9 := 0) (show _ ∈ L_X9_keepDay from by simp [L_X9_keepDay]) (by decide) (by decide) (Or.inl rfl))
      · obtain ⟨h2, hz⟩ := ck hz
        cases hz
        exact (Sm.rf.wI (lo := 135) (hi := 136) (c9 := 0) (show _ ∈ L_X9_keepDay from by simp [L_X9_keepDay]) (by decide) (by decide) (Or.inl rfl))
    · obtain ⟨h3, hz⟩ := ck hz
      obtain ⟨h4, hz⟩ := ck hz
      exact ((Sm.rf.wI (lo := 135) (hi := 136) (c9 := 0) (show _ ∈ L_X9_keepDay from by simp [L_X9_keepDay]) (by decide) (by decide) (Or.inl rfl))).tr (ih (x1 + 1) _  hz)
theorem fr_X9_keepDay  (w : GW) {z : Unit × GW} : f_X9_keepDay w = some z → Sm L_X9_keepDay R_X9_keepDay w z.2 := by
  intro  hz
  rw [f_X9_keepDay] at hz
  exact (Sm.rf).tr (fr_X9_keepDay_2 fu 0 _ hz)
def L_X9_day : List (Nat × Nat × Nat) := [(130, 131, 1), (130, 131, 12), (135, 136, 0)]
def R_X9_day : List Nat := []
theorem fr_X9_day (x1 : Int32) (x2 : Int32) (w : GW) {z : Int32 × GW} : f_X9_day x1 x2 w = some z → Sm L_X9_day R_X9_day w z.2 := by
  intro  hz
  rw [f_X9_day] at hz
  obtain ⟨q1, e2, hz⟩ := bd hz
  have ie2 : Sub L_X9_good L_X9_day := by
    unfold L_X9_good
    exact (Sub.cons (lo2 := 130) (hi2 := 131) (c2 := 1) (show _ ∈ L_X9_day from by simp [L_X9_day]) (by omega) (by omega) (Or.inr rfl) (Sub.cons (lo2 := 130) (hi2 := 131) (c2 := 12) (show _ ∈ L_X9_day from by simp [L_X9_day]) (by omega) (by omega) (Or.inr rfl) Sub.nil))
  obtain ⟨q3, e4, hz⟩ := bd hz
  have ie4 : Sub L_X9_isPorter L_X9_day := by
    unfold L_X9_isPorter
    exact Sub.nil
  rcases bri hz with hz | hz
  · obtain ⟨q11, e12, hz⟩ := bd hz
    have ie12 : Sub L_X9_isNot L_X9_day := by
      unfold L_X9_isNot
      exact (Sub.cons (lo2 := 130) (hi2 := 131) (c2 := 12) (show _ ∈ L_X9_day from by simp [L_X9_day]) (by omega) (by omega) (Or.inr rfl) Sub.nil)
    cases hz
    exact (((Sm.rf.call (fr_X9_good  _ (z := q1)  e2) ie2 (show ∀ r ∈ R_X9_good, r ∈ R_X9_day from by decide)).call (fr_X9_isPorter x1 _ (z := q3)  e4) ie4 (show ∀ r ∈ R_X9_isPorter, r ∈ R_X9_day from by decide)).call (fr_X9_isNot 1 _ (z := q11)  e12) ie12 (show ∀ r ∈ R_X9_isNot, r ∈ R_X9_day from by decide))
  · obtain ⟨q5, e6, hz⟩ := bd hz
    have ie6 : Sub L_X9_within L_X9_day := by
      unfold L_X9_within
      exact Sub.nil
    rcases bri hz with hz | hz
    · obtain ⟨q9, e10, hz⟩ := bd hz
      have ie10 : Sub L_X9_isNot L_X9_day := by
        unfold L_X9_isNot
        exact (Sub.cons (lo2 := 130) (hi2 := 131) (c2 := 12) (show _ ∈ L_X9_day from by simp [L_X9_day]) (by omega) (by omega) (Or.inr rfl) Sub.nil)
      cases hz
      exact ((((Sm.rf.call (fr_X9_good  _ (z := q1)  e2) ie2 (show ∀ r ∈ R_X9_good, r ∈ R_X9_day from by decide)).call (fr_X9_isPorter x1 _ (z := q3)  e4) ie4 (show ∀ r ∈ R_X9_isPorter, r ∈ R_X9_day from by decide)).call (fr_X9_within x2 0 65536 _ (z := q5)  e6) ie6 (show ∀ r ∈ R_X9_within, r ∈ R_X9_day from by decide)).call (fr_X9_isNot 2 _ (z := q9)  e10) ie10 (show ∀ r ∈ R_X9_isNot, r ∈ R_X9_day from by decide))
    · obtain ⟨q7, e8, hz⟩ := bd hz
      have ie8 : Sub L_X9_begin L_X9_day := by
        unfold L_X9_begin
        exact (Sub.cons (lo2 := 135) (hi2 := 136) (c2 := 0) (show _ ∈ L_X9_day from by simp [L_X9_day]) (by omega) (by omega) (Or.inl rfl) Sub.nil)
      cases hz
      exact ((((Sm.rf.call (fr_X9_good  _ (z := q1)  e2) ie2 (show ∀ r ∈ R_X9_good, r ∈ R_X9_day from by decide)).call (fr_X9_isPorter x1 _ (z := q3)  e4) ie4 (show ∀ r ∈ R_X9_isPorter, r ∈ R_X9_day from by decide)).call (fr_X9_within x2 0 65536 _ (z := q5)  e6) ie6 (show ∀ r ∈ R_X9_within, r ∈ R_X9_day from by decide)).call (fr_X9_begin x1 x2 _ (z := q7)  e8) ie8 (show ∀ r ∈ R_X9_begin, r ∈ R_X9_day from by decide))
def L_X9_draw : List (Nat × Nat × Nat) := [(135, 136, 0)]
def R_X9_draw : List Nat := []
theorem fr_X9_draw (x1 : Int32) (w : GW) {z : Int32 × GW} : f_X9_draw x1 w = some z → Sm L_X9_draw R_X9_draw w z.2 := by
  intro  hz
  rw [f_X9_draw] at hz
  obtain ⟨h1, hz⟩ := ck hz
  obtain ⟨h2, hz⟩ := ck hz
  obtain ⟨h3, hz⟩ := ck hz
  obtain ⟨-, hz⟩ := ck hz
  cases hz
  exact (Sm.rf.wI (lo := 135) (hi := 136) (c9 := 0) (show _ ∈ L_X9_draw from by simp [L_X9_draw]) (by decide) (by decide) (Or.inl rfl))
