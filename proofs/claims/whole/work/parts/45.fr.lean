def L_X9_putOne : List (Nat × Nat × Nat) := [(130, 131, 23), (135, 136, 0), (137, 138, 0), (138, 139, 0)]
def R_X9_putOne : List Nat := []
theorem fr_X9_putOne_233 {z : Unit × GW} : (∀ (w : GW), f_X9_putOne_233 w = some z → Sm L_X9_putOne R_X9_putOne w z.2) := by
  intro w hz
  rw [f_X9_putOne_233] at hz
  obtain ⟨q18, e19, hz⟩ := bd hz
  have ie19 : Sub L_X9_keepDay L_X9_putOne := by
    unfold L_X9_keepDay
    exact (Sub.cons (lo2 := 135) (hi2 := 136) (c2 := 0) (show _ ∈ L_X9_putOne from by simp [L_X9_putOne]) (by omega) (by omega) (Or.inl rfl) Sub.nil)
  cases hz
  exact (Sm.rf.call (fr_X9_keepDay  _ (z := q18)  e19) ie19 (show ∀ r ∈ R_X9_keepDay, r ∈ R_X9_putOne from by decide))
theorem fr_X9_putOne_217 {z : Unit × GW} : (∀ (x1 : Int32) (w : GW), f_X9_putOne_217 x1 w = some z → Sm L_X9_putOne R_X9_putOne w z.2) := by
  intro x1 w hz
  rw [f_X9_putOne_217] at hz
  rcases bri hz with hz | hz
  · exact (Sm.rf).tr (fr_X9_putOne_233 _ hz)
  · obtain ⟨h20, hz⟩ := ck hz
    obtain ⟨q21, e22, hz⟩ := bd hz
    have ie22 : Sub L_X9_moves L_X9_putOne := by
      unfold L_X9_moves
      exact (Sub.cons (lo2 := 137) (hi2 := 138) (c2 := 0) (show _ ∈ L_X9_putOne from by simp [L_X9_putOne]) (by omega) (by omega) (Or.inl rfl) Sub.nil)
    exact ((Sm.rf.call (fr_X9_moves (gI w 135 (ix 6)) _ (z := q21) e22) ie22 (show ∀ r ∈ R_X9_moves, r ∈ R_X9_putOne from by decide))).tr (fr_X9_putOne_233 _ hz)
theorem fr_X9_putOne_175 {z : Unit × GW} : (∀ (x2 : Int32) (x3 : Int32) (t0 : Int32) (w : GW), f_X9_putOne_175 x2 x3 t0 w = some z → Sm L_X9_putOne R_X9_putOne w z.2) := by
  intro x2 x3 t0 w hz
  rw [f_X9_putOne_175] at hz
  obtain ⟨h11, hz⟩ := ck hz
  obtain ⟨h12, hz⟩ := ck hz
  obtain ⟨h13, hz⟩ := ck hz
  obtain ⟨q14, e15, hz⟩ := bd hz
  have ie15 : Sub L_X9_taken L_X9_putOne := by
    unfold L_X9_taken
    exact Sub.nil
  obtain ⟨q16, e17, hz⟩ := bd hz
  have ie17 : Sub L_X9_puts L_X9_putOne := by
    unfold L_X9_puts
    exact (Sub.cons (lo2 := 130) (hi2 := 131) (c2 := 23) (show _ ∈ L_X9_putOne from by simp [L_X9_putOne]) (by omega) (by omega) (Or.inr rfl) (Sub.cons (lo2 := 137) (hi2 := 138) (c2 := 0) (show _ ∈ L_X9_putOne from by simp [L_X9_putOne]) (by omega) (by omega) (Or.inl rfl) Sub.nil))
  exact (((Sm.rf.call (fr_X9_taken (gI w 133 (ix (24 + x2))) (gI w 133 (ix (30 + x2))) x3 t0 _ (z := q14) e15) ie15 (show ∀ r ∈ R_X9_taken, r ∈ R_X9_putOne from by decide)).call (fr_X9_puts (gI w 133 (ix (24 + x2))) x3 q14.1 _ (z := q16) e17) ie17 (show ∀ r ∈ R_X9_puts, r ∈ R_X9_putOne from by decide))).tr (fr_X9_putOne_217 q16.1 _ hz)
theorem fr_X9_putOne_157 {z : Unit × GW} : (∀ (x2 : Int32) (x3 : Int32) (t0 : Int32) (w : GW), f_X9_putOne_157 x2 x3 t0 w = some z → Sm L_X9_putOne R_X9_putOne w z.2) := by
  intro x2 x3 t0 w hz
  rw [f_X9_putOne_157] at hz
  rcases bri hz with hz | hz
  · exact (Sm.rf).tr (fr_X9_putOne_175 x2 x3 0 _ hz)
  · obtain ⟨q23, e24, hz⟩ := bd hz
    have ie24 : Sub L_X9_draw L_X9_putOne := by
      unfold L_X9_draw
      exact (Sub.cons (lo2 := 135) (hi2 := 136) (c2 := 0) (show _ ∈ L_X9_putOne from by simp [L_X9_putOne]) (by omega) (by omega) (Or.inl rfl) Sub.nil)
    exact ((Sm.rf.call (fr_X9_draw t0 _ (z := q23) e24) ie24 (show ∀ r ∈ R_X9_draw, r ∈ R_X9_putOne from by decide))).tr (fr_X9_putOne_175 x2 x3 q23.1 _ hz)
theorem fr_X9_putOne_85 {z : Unit × GW} {k_66 : Int32 → Int32 → Int32 → GW → Option (Unit × GW)} (Hk_66 : (∀ (x2 : Int32) (x3 : Int32) (x4 : Int32) (w : GW), k_66 x2 x3 x4 w = some z → Sm L_X9_putOne R_X9_putOne w z.2)) : ∀ (n9 : Nat), (∀ (x2 : Int32) (x3 : Int32) (x4 : Int32) (x5 : Int32) (x6 : Int32) (w : GW), f_X9_putOne_85 k_66 n9 x2 x3 x4 x5 x6 w = some z → Sm L_X9_putOne R_X9_putOne w z.2) := by
  intro n9
  induction n9 with
  | zero =>
    intro x2 x3 x4 x5 x6 w hz
    rw [f_X9_putOne_85] at hz
    cases hz
  | succ n9 ih =>
    intro x2 x3 x4 x5 x6 w hz
    rw [f_X9_putOne_85] at hz
    obtain ⟨h31, hz⟩ := ck hz
    rcases bri hz with hz | hz
    · obtain ⟨h32, hz⟩ := ck hz
      exact ((Sm.rf.wI (lo := 138) (hi := 139) (c9 := 0) (show _ ∈ L_X9_putOne from by simp [L_X9_putOne]) (by decide) (by decide) (Or.inl rfl))).tr (Hk_66 x2 x3 (x4 + 1) _  hz)
    · obtain ⟨h33, hz⟩ := ck hz
      exact (Sm.rf).tr (ih x2 x3 x4 (x5 - (gI w 133 (ix (7 + x6)))) (x6 + 1) _  hz)
theorem fr_X9_putOne_66 {z : Unit × GW} : ∀ (n9 : Nat), (∀ (x2 : Int32) (x3 : Int32) (x4 : Int32) (w : GW), f_X9_putOne_66 n9 x2 x3 x4 w = some z → Sm L_X9_putOne R_X9_putOne w z.2) := by
  intro n9
  induction n9 with
  | zero =>
    intro x2 x3 x4 w hz
    rw [f_X9_putOne_66] at hz
    cases hz
  | succ n9 ih =>
    intro x2 x3 x4 w hz
    rw [f_X9_putOne_66] at hz
    rcases bri hz with hz | hz
    · obtain ⟨h10, hz⟩ := ck hz
      rcases bri hz with hz | hz
      · obtain ⟨q25, e26, hz⟩ := bd hz
        have ie26 : Sub L_X9_ties L_X9_putOne := by
          unfold L_X9_ties
          exact Sub.nil
        exact ((Sm.rf.call (fr_X9_ties x3 _ (z := q25) e26) ie26 (show ∀ r ∈ R_X9_ties, r ∈ R_X9_putOne from by decide))).tr (fr_X9_putOne_157 x2 x3 q25.1 _ hz)
      · exact (Sm.rf).tr (fr_X9_putOne_157 x2 x3 1 _ hz)
    · obtain ⟨q27, e28, hz⟩ := bd hz
      have ie28 : Sub L_X9_allWeights L_X9_putOne := by
        unfold L_X9_allWeights
        exact Sub.nil
      obtain ⟨q29, e30, hz⟩ := bd hz
      have ie30 : Sub L_X9_draw L_X9_putOne := by
        unfold L_X9_draw
        exact (Sub.cons (lo2 := 135) (hi2 := 136) (c2 := 0) (show _ ∈ L_X9_putOne from by simp [L_X9_putOne]) (by omega) (by omega) (Or.inl rfl) Sub.nil)
      exact (((Sm.rf.call (fr_X9_allWeights _ (z := q27) e28) ie28 (show ∀ r ∈ R_X9_allWeights, r ∈ R_X9_putOne from by decide)).call (fr_X9_draw q27.1 _ (z := q29) e30) ie30 (show ∀ r ∈ R_X9_draw, r ∈ R_X9_putOne from by decide))).tr (fr_X9_putOne_85 ih fu x2 x3 x4 q29.1 0 _ hz)
theorem fr_X9_putOne  (w : GW) {z : Unit × GW} : f_X9_putOne w = some z → Sm L_X9_putOne R_X9_putOne w z.2 := by
  intro  hz
  rw [f_X9_putOne] at hz
  obtain ⟨h1, hz⟩ := ck hz
  obtain ⟨h2, hz⟩ := ck hz
  obtain ⟨q3, e4, hz⟩ := bd hz
  have ie4 : Sub L_X9_layDay L_X9_putOne := by
    unfold L_X9_layDay
    exact (Sub.cons (lo2 := 130) (hi2 := 131) (c2 := 23) (show _ ∈ L_X9_putOne from by simp [L_X9_putOne]) (by omega) (by omega) (Or.inr rfl) (Sub.cons (lo2 := 137) (hi2 := 138) (c2 := 0) (show _ ∈ L_X9_putOne from by simp [L_X9_putOne]) (by omega) (by omega) (Or.inl rfl) Sub.nil))
  obtain ⟨h5, hz⟩ := ck hz
  obtain ⟨q6, e7, hz⟩ := bd hz
  have ie7 : Sub L_X9_isDoor L_X9_putOne := by
    unfold L_X9_isDoor
    exact Sub.nil
  rcases bri hz with hz | hz
  · obtain ⟨h8, hz⟩ := ck hz
    obtain ⟨h9, hz⟩ := ck hz
    exact ((((Sm.rf.wI (lo := 135) (hi := 136) (c9 := 0) (show _ ∈ L_X9_putOne from by simp [L_X9_putOne]) (by decide) (by decide) (Or.inl rfl)).call (fr_X9_layDay _ (z := q3) e4) ie4 (show ∀ r ∈ R_X9_layDay, r ∈ R_X9_putOne from by decide)).call (fr_X9_isDoor (gI q3.2 135 (ix 6)) _ (z := q6) e7) ie7 (show ∀ r ∈ R_X9_isDoor, r ∈ R_X9_putOne from by decide))).tr (fr_X9_putOne_66 fu (gI q6.2 135 (ix 5)) (gI q6.2 133 (ix (18 + (gI q6.2 135 (ix 5))))) 0 _ hz)
  · obtain ⟨h34, hz⟩ := ck hz
    obtain ⟨q35, e36, hz⟩ := bd hz
    have ie36 : Sub L_X9_goesTo L_X9_putOne := by
      unfold L_X9_goesTo
      exact (Sub.cons (lo2 := 137) (hi2 := 138) (c2 := 0) (show _ ∈ L_X9_putOne from by simp [L_X9_putOne]) (by omega) (by omega) (Or.inl rfl) Sub.nil)
    exact (((((Sm.rf.wI (lo := 135) (hi := 136) (c9 := 0) (show _ ∈ L_X9_putOne from by simp [L_X9_putOne]) (by decide) (by decide) (Or.inl rfl)).call (fr_X9_layDay _ (z := q3) e4) ie4 (show ∀ r ∈ R_X9_layDay, r ∈ R_X9_putOne from by decide)).call (fr_X9_isDoor (gI q3.2 135 (ix 6)) _ (z := q6) e7) ie7 (show ∀ r ∈ R_X9_isDoor, r ∈ R_X9_putOne from by decide)).call (fr_X9_goesTo (gI q6.2 133 (ix 36)) _ (z := q35) e36) ie36 (show ∀ r ∈ R_X9_goesTo, r ∈ R_X9_putOne from by decide))).tr (fr_X9_putOne_217 q35.1 _ hz)
def L_X9_put : List (Nat × Nat × Nat) := [(130, 131, 1), (130, 131, 12), (130, 131, 23), (135, 136, 0), (137, 138, 0), (138, 139, 0)]
def R_X9_put : List Nat := []
theorem fr_X9_put_58 {z : Int32 × GW} : ∀ (n9 : Nat), (∀ (x1 : Int32) (x2 : Int32) (w : GW), f_X9_put_58 n9 x1 x2 w = some z → Sm L_X9_put R_X9_put w z.2) := by
  intro n9
  induction n9 with
  | zero =>
    intro x1 x2 w hz
    rw [f_X9_put_58] at hz
    cases hz
  | succ n9 ih =>
    intro x1 x2 w hz
    rw [f_X9_put_58] at hz
    rcases bri hz with hz | hz
    · cases hz
      exact Sm.rf
    · obtain ⟨h7, hz⟩ := ck hz
      obtain ⟨h8, hz⟩ := ck hz
      rcases bri hz with hz | hz
      · cases hz
        exact Sm.rf
      · obtain ⟨q9, e10, hz⟩ := bd hz
        have ie10 : Sub L_X9_putOne L_X9_put := by
          unfold L_X9_putOne
          exact (Sub.cons (lo2 := 130) (hi2 := 131) (c2 := 23) (show _ ∈ L_X9_put from by simp [L_X9_put]) (by omega) (by omega) (Or.inr rfl) (Sub.cons (lo2 := 135) (hi2 := 136) (c2 := 0) (show _ ∈ L_X9_put from by simp [L_X9_put]) (by omega) (by omega) (Or.inl rfl) (Sub.cons (lo2 := 137) (hi2 := 138) (c2 := 0) (show _ ∈ L_X9_put from by simp [L_X9_put]) (by omega) (by omega) (Or.inl rfl) (Sub.cons (lo2 := 138) (hi2 := 139) (c2 := 0) (show _ ∈ L_X9_put from by simp [L_X9_put]) (by omega) (by omega) (Or.inl rfl) Sub.nil))))
        exact ((Sm.rf.call (fr_X9_putOne  _ (z := q9)  e10) ie10 (show ∀ r ∈ R_X9_putOne, r ∈ R_X9_put from by decide))).tr (ih x1 (x2 + 1) _  hz)
theorem fr_X9_put (x1 : Int32) (w : GW) {z : Int32 × GW} : f_X9_put x1 w = some z → Sm L_X9_put R_X9_put w z.2 := by
  intro  hz
  rw [f_X9_put] at hz
  obtain ⟨q1, e2, hz⟩ := bd hz
  have ie2 : Sub L_X9_good L_X9_put := by
    unfold L_X9_good
    exact (Sub.cons (lo2 := 130) (hi2 := 131) (c2 := 1) (show _ ∈ L_X9_put from by simp [L_X9_put]) (by omega) (by omega) (Or.inr rfl) (Sub.cons (lo2 := 130) (hi2 := 131) (c2 := 12) (show _ ∈ L_X9_put from by simp [L_X9_put]) (by omega) (by omega) (Or.inr rfl) Sub.nil))
  rcases bri hz with hz | hz
  · obtain ⟨q15, e16, hz⟩ := bd hz
    have ie16 : Sub L_X9_no L_X9_put := by
      unfold L_X9_no
      exact (Sub.cons (lo2 := 130) (hi2 := 131) (c2 := 12) (show _ ∈ L_X9_put from by simp [L_X9_put]) (by omega) (by omega) (Or.inr rfl) Sub.nil)
    cases hz
    exact ((Sm.rf.call (fr_X9_good  _ (z := q1)  e2) ie2 (show ∀ r ∈ R_X9_good, r ∈ R_X9_put from by decide)).call (fr_X9_no 1 _ (z := q15)  e16) ie16 (show ∀ r ∈ R_X9_no, r ∈ R_X9_put from by decide))
  · obtain ⟨q3, e4, hz⟩ := bd hz
    have ie4 : Sub L_X9_within L_X9_put := by
      unfold L_X9_within
      exact Sub.nil
    rcases bri hz with hz | hz
    · obtain ⟨q13, e14, hz⟩ := bd hz
      have ie14 : Sub L_X9_no L_X9_put := by
        unfold L_X9_no
        exact (Sub.cons (lo2 := 130) (hi2 := 131) (c2 := 12) (show _ ∈ L_X9_put from by simp [L_X9_put]) (by omega) (by omega) (Or.inr rfl) Sub.nil)
      cases hz
      exact (((Sm.rf.call (fr_X9_good  _ (z := q1)  e2) ie2 (show ∀ r ∈ R_X9_good, r ∈ R_X9_put from by decide)).call (fr_X9_within x1 1 8 _ (z := q3)  e4) ie4 (show ∀ r ∈ R_X9_within, r ∈ R_X9_put from by decide)).call (fr_X9_no 2 _ (z := q13)  e14) ie14 (show ∀ r ∈ R_X9_no, r ∈ R_X9_put from by decide))
    · obtain ⟨h5, hz⟩ := ck hz
      obtain ⟨h6, hz⟩ := ck hz
      rcases bri hz with hz | hz
      · obtain ⟨q11, e12, hz⟩ := bd hz
        have ie12 : Sub L_X9_no L_X9_put := by
          unfold L_X9_no
          exact (Sub.cons (lo2 := 130) (hi2 := 131) (c2 := 12) (show _ ∈ L_X9_put from by simp [L_X9_put]) (by omega) (by omega) (Or.inr rfl) Sub.nil)
        cases hz
        exact (((Sm.rf.call (fr_X9_good  _ (z := q1)  e2) ie2 (show ∀ r ∈ R_X9_good, r ∈ R_X9_put from by decide)).call (fr_X9_within x1 1 8 _ (z := q3)  e4) ie4 (show ∀ r ∈ R_X9_within, r ∈ R_X9_put from by decide)).call (fr_X9_no 6 _ (z := q11)  e12) ie12 (show ∀ r ∈ R_X9_no, r ∈ R_X9_put from by decide))
      · exact (((Sm.rf.call (fr_X9_good _ (z := q1) e2) ie2 (show ∀ r ∈ R_X9_good, r ∈ R_X9_put from by decide)).call (fr_X9_within x1 1 8 _ (z := q3) e4) ie4 (show ∀ r ∈ R_X9_within, r ∈ R_X9_put from by decide))).tr (fr_X9_put_58 fu x1 0 _ hz)
def L_X9_layGoes : List (Nat × Nat × Nat) := [(130, 131, 23), (130, 131, 38), (130, 131, 39), (130, 131, 40), (137, 138, 0), (138, 139, 0)]
def R_X9_layGoes : List Nat := []
theorem fr_X9_layGoes_287 {z : Unit × GW} {k_114 : Int32 → Int32 → Int32 → Int32 → Int32 → GW → Option (Unit × GW)} (Hk_114 : (∀ (x1 : Int32) (x2 : Int32) (x3 : Int32) (x4 : Int32) (x5 : Int32) (w : GW), k_114 x1 x2 x3 x4 x5 w = some z → Sm L_X9_layGoes R_X9_layGoes w z.2)) {k_160 : Int32 → Int32 → Int32 → Int32 → Int32 → Int64 → Int32 → Int32 → GW → Option (Unit × GW)} (Hk_160 : (∀ (x1 : Int32) (x2 : Int32) (x3 : Int32) (x4 : Int32) (x5 : Int32) (x6 : Int64) (x8 : Int32) (x9 : Int32) (w : GW), k_160 x1 x2 x3 x4 x5 x6 x8 x9 w = some z → Sm L_X9_layGoes R_X9_layGoes w z.2)) : (∀ (x1 : Int32) (x2 : Int32) (x3 : Int32) (x4 : Int32) (x5 : Int32) (x6 : Int64) (x8 : Int32) (x9 : Int32) (w : GW), f_X9_layGoes_287 k_114 k_160 x1 x2 x3 x4 x5 x6 x8 x9 w = some z → Sm L_X9_layGoes R_X9_layGoes w z.2) := by
  intro x1 x2 x3 x4 x5 x6 x8 x9 w hz
  rw [f_X9_layGoes_287] at hz
  exact (Sm.rf).tr (Hk_160 x1 x2 x3 x4 x5 x6 x8 (x9 + 1) _  hz)
theorem fr_X9_layGoes_284 {z : Unit × GW} {k_114 : Int32 → Int32 → Int32 → Int32 → Int32 → GW → Option (Unit × GW)} (Hk_114 : (∀ (x1 : Int32) (x2 : Int32) (x3 : Int32) (x4 : Int32) (x5 : Int32) (w : GW), k_114 x1 x2 x3 x4 x5 w = some z → Sm L_X9_layGoes R_X9_layGoes w z.2)) {k_160 : Int32 → Int32 → Int32 → Int32 → Int32 → Int64 → Int32 → Int32 → GW → Option (Unit × GW)} (Hk_160 : (∀ (x1 : Int32) (x2 : Int32) (x3 : Int32) (x4 : Int32) (x5 : Int32) (x6 : Int64) (x8 : Int32) (x9 : Int32) (w : GW), k_160 x1 x2 x3 x4 x5 x6 x8 x9 w = some z → Sm L_X9_layGoes R_X9_layGoes w z.2)) : (∀ (x1 : Int32) (x2 : Int32) (x3 : Int32) (x4 : Int32) (x5 : Int32) (x6 : Int64) (x8 : Int32) (x9 : Int32) (t0 : Int32) (w : GW), f_X9_layGoes_284 k_114 k_160 x1 x2 x3 x4 x5 x6 x8 x9 t0 w = some z → Sm L_X9_layGoes R_X9_layGoes w z.2) := by
  intro x1 x2 x3 x4 x5 x6 x8 x9 t0 w hz
  rw [f_X9_layGoes_284] at hz
  exact ((Sm.rf.wI (lo := 130) (hi := 131) (c9 := 40) (show _ ∈ L_X9_layGoes from by simp [L_X9_layGoes]) (by decide) (by decide) (Or.inr rfl))).tr (fr_X9_layGoes_287 Hk_114 Hk_160 x1 x2 x3 x4 x5 x6 x8 x9 _ hz)
theorem fr_X9_layGoes_275 {z : Unit × GW} {k_114 : Int32 → Int32 → Int32 → Int32 → Int32 → GW → Option (Unit × GW)} (Hk_114 : (∀ (x1 : Int32) (x2 : Int32) (x3 : Int32) (x4 : Int32) (x5 : Int32) (w : GW), k_114 x1 x2 x3 x4 x5 w = some z → Sm L_X9_layGoes R_X9_layGoes w z.2)) {k_160 : Int32 → Int32 → Int32 → Int32 → Int32 → Int64 → Int32 → Int32 → GW → Option (Unit × GW)} (Hk_160 : (∀ (x1 : Int32) (x2 : Int32) (x3 : Int32) (x4 : Int32) (x5 : Int32) (x6 : Int64) (x8 : Int32) (x9 : Int32) (w : GW), k_160 x1 x2 x3 x4 x5 x6 x8 x9 w = some z → Sm L_X9_layGoes R_X9_layGoes w z.2)) : (∀ (x1 : Int32) (x2 : Int32) (x3 : Int32) (x4 : Int32) (x5 : Int32) (x6 : Int64) (x8 : Int32) (x9 : Int32) (w : GW), f_X9_layGoes_275 k_114 k_160 x1 x2 x3 x4 x5 x6 x8 x9 w = some z → Sm L_X9_layGoes R_X9_layGoes w z.2) := by
  intro x1 x2 x3 x4 x5 x6 x8 x9 w hz
  rw [f_X9_layGoes_275] at hz
  exact (Sm.rf).tr (fr_X9_layGoes_284 Hk_114 Hk_160 x1 x2 x3 x4 x5 x6 x8 x9 (gI w 130 22) _ hz)
theorem fr_X9_layGoes_250 {z : Unit × GW} {k_114 : Int32 → Int32 → Int32 → Int32 → Int32 → GW → Option (Unit × GW)} (Hk_114 : (∀ (x1 : Int32) (x2 : Int32) (x3 : Int32) (x4 : Int32) (x5 : Int32) (w : GW), k_114 x1 x2 x3 x4 x5 w = some z → Sm L_X9_layGoes R_X9_layGoes w z.2)) {k_160 : Int32 → Int32 → Int32 → Int32 → Int32 → Int64 → Int32 → Int32 → GW → Option (Unit × GW)} (Hk_160 : (∀ (x1 : Int32) (x2 : Int32) (x3 : Int32) (x4 : Int32) (x5 : Int32) (x6 : Int64) (x8 : Int32) (x9 : Int32) (w : GW), k_160 x1 x2 x3 x4 x5 x6 x8 x9 w = some z → Sm L_X9_layGoes R_X9_layGoes w z.2)) : (∀ (x1 : Int32) (x2 : Int32) (x3 : Int32) (x4 : Int32) (x5 : Int32) (x6 : Int64) (x8 : Int32) (x9 : Int32) (t0 : Int64) (t1 : Int64) (w : GW), f_X9_layGoes_250 k_114 k_160 x1 x2 x3 x4 x5 x6 x8 x9 t0 t1 w = some z → Sm L_X9_layGoes R_X9_layGoes w z.2) := by
  intro x1 x2 x3 x4 x5 x6 x8 x9 t0 t1 w hz
  rw [f_X9_layGoes_250] at hz
  rcases bri hz with hz | hz
  · exact ((Sm.rf.wL (lo := 130) (hi := 131) (c9 := 38) (show _ ∈ L_X9_layGoes from by simp [L_X9_layGoes]) (by decide) (by decide) (Or.inr rfl))).tr (fr_X9_layGoes_275 Hk_114 Hk_160 x1 x2 x3 x4 x5 x6 x8 x9 _ hz)
  · rcases bri hz with hz | hz
    · exact ((Sm.rf.wL (lo := 130) (hi := 131) (c9 := 38) (show _ ∈ L_X9_layGoes from by simp [L_X9_layGoes]) (by decide) (by decide) (Or.inr rfl))).tr (fr_X9_layGoes_275 Hk_114 Hk_160 x1 x2 x3 x4 x5 x6 x8 x9 _ hz)
    · exact ((Sm.rf.wL (lo := 130) (hi := 131) (c9 := 38) (show _ ∈ L_X9_layGoes from by simp [L_X9_layGoes]) (by decide) (by decide) (Or.inr rfl))).tr (fr_X9_layGoes_284 Hk_114 Hk_160 x1 x2 x3 x4 x5 x6 x8 x9 (-6) _ hz)
theorem fr_X9_layGoes_160 {z : Unit × GW} {k_114 : Int32 → Int32 → Int32 → Int32 → Int32 → GW → Option (Unit × GW)} (Hk_114 : (∀ (x1 : Int32) (x2 : Int32) (x3 : Int32) (x4 : Int32) (x5 : Int32) (w : GW), k_114 x1 x2 x3 x4 x5 w = some z → Sm L_X9_layGoes R_X9_layGoes w z.2)) : ∀ (n9 : Nat), (∀ (x1 : Int32) (x2 : Int32) (x3 : Int32) (x4 : Int32) (x5 : Int32) (x6 : Int64) (x8 : Int32) (x9 : Int32) (w : GW), f_X9_layGoes_160 k_114 n9 x1 x2 x3 x4 x5 x6 x8 x9 w = some z → Sm L_X9_layGoes R_X9_layGoes w z.2) := by
  intro n9
  induction n9 with
  | zero =>
    intro x1 x2 x3 x4 x5 x6 x8 x9 w hz
    rw [f_X9_layGoes_160] at hz
    cases hz
  | succ n9 ih =>
    intro x1 x2 x3 x4 x5 x6 x8 x9 w hz
    rw [f_X9_layGoes_160] at hz
    rcases bri hz with hz | hz
    · exact (Sm.rf).tr (Hk_114 x1 x2 x3 x4 (x5 + 1) _  hz)
    · obtain ⟨q16, e17, hz⟩ := bd hz
      have ie17 : Sub L_X9_layDay L_X9_layGoes := by
        unfold L_X9_layDay
        exact (Sub.cons (lo2 := 130) (hi2 := 131) (c2 := 23) (show _ ∈ L_X9_layGoes from by simp [L_X9_layGoes]) (by omega) (by omega) (Or.inr rfl) (Sub.cons (lo2 := 137) (hi2 := 138) (c2 := 0) (show _ ∈ L_X9_layGoes from by simp [L_X9_layGoes]) (by omega) (by omega) (Or.inl rfl) Sub.nil))
      obtain ⟨h18, hz⟩ := ck hz
      obtain ⟨h19, hz⟩ := ck hz
      obtain ⟨h20, hz⟩ := ck hz
      obtain ⟨q21, e22, hz⟩ := bd hz
      have ie22 : Sub L_X9_taken L_X9_layGoes := by
        unfold L_X9_taken
        exact Sub.nil
      obtain ⟨q23, e24, hz⟩ := bd hz
      have ie24 : Sub L_X9_puts L_X9_layGoes := by
        unfold L_X9_puts
        exact (Sub.cons (lo2 := 130) (hi2 := 131) (c2 := 23) (show _ ∈ L_X9_layGoes from by simp [L_X9_layGoes]) (by omega) (by omega) (Or.inr rfl) (Sub.cons (lo2 := 137) (hi2 := 138) (c2 := 0) (show _ ∈ L_X9_layGoes from by simp [L_X9_layGoes]) (by omega) (by omega) (Or.inl rfl) Sub.nil))
      rcases bri hz with hz | hz
      · obtain ⟨h25, hz⟩ := ck hz
        rcases bri hz with hz | hz
        · obtain ⟨q26, e27, hz⟩ := bd hz
          have ie27 : Sub L_X9_tiesOf L_X9_layGoes := by
            unfold L_X9_tiesOf
            exact Sub.nil
          obtain ⟨-, hz⟩ := ck hz
          exact (((((Sm.rf.call (fr_X9_layDay _ (z := q16) e17) ie17 (show ∀ r ∈ R_X9_layDay, r ∈ R_X9_layGoes from by decide)).call (fr_X9_taken (gI q16.2 133 (ix (24 + x2))) (gI q16.2 133 (ix (30 + x2))) x3 x9 _ (z := q21) e22) ie22 (show ∀ r ∈ R_X9_taken, r ∈ R_X9_layGoes from by decide)).call (fr_X9_puts (gI q16.2 133 (ix (24 + x2))) x3 q21.1 _ (z := q23) e24) ie24 (show ∀ r ∈ R_X9_puts, r ∈ R_X9_layGoes from by decide)).call (fr_X9_tiesOf x3 _ (z := q26) e27) ie27 (show ∀ r ∈ R_X9_tiesOf, r ∈ R_X9_layGoes from by decide))).tr (fr_X9_layGoes_250 Hk_114 ih x1 x2 x3 x4 x5 x6 x8 x9 (x6 * (q26.1 / (x8.toInt64))) (gL q23.2 130 37) _ hz)
        · exact ((((Sm.rf.call (fr_X9_layDay _ (z := q16) e17) ie17 (show ∀ r ∈ R_X9_layDay, r ∈ R_X9_layGoes from by decide)).call (fr_X9_taken (gI q16.2 133 (ix (24 + x2))) (gI q16.2 133 (ix (30 + x2))) x3 x9 _ (z := q21) e22) ie22 (show ∀ r ∈ R_X9_taken, r ∈ R_X9_layGoes from by decide)).call (fr_X9_puts (gI q16.2 133 (ix (24 + x2))) x3 q21.1 _ (z := q23) e24) ie24 (show ∀ r ∈ R_X9_puts, r ∈ R_X9_layGoes from by decide))).tr (fr_X9_layGoes_250 Hk_114 ih x1 x2 x3 x4 x5 x6 x8 x9 x6 (gL q23.2 130 37) _ hz)
      · exact ((((Sm.rf.call (fr_X9_layDay _ (z := q16) e17) ie17 (show ∀ r ∈ R_X9_layDay, r ∈ R_X9_layGoes from by decide)).call (fr_X9_taken (gI q16.2 133 (ix (24 + x2))) (gI q16.2 133 (ix (30 + x2))) x3 x9 _ (z := q21) e22) ie22 (show ∀ r ∈ R_X9_taken, r ∈ R_X9_layGoes from by decide)).call (fr_X9_puts (gI q16.2 133 (ix (24 + x2))) x3 q21.1 _ (z := q23) e24) ie24 (show ∀ r ∈ R_X9_puts, r ∈ R_X9_layGoes from by decide))).tr (fr_X9_layGoes_287 Hk_114 ih x1 x2 x3 x4 x5 x6 x8 x9 _ hz)
theorem fr_X9_layGoes_155 {z : Unit × GW} {k_114 : Int32 → Int32 → Int32 → Int32 → Int32 → GW → Option (Unit × GW)} (Hk_114 : (∀ (x1 : Int32) (x2 : Int32) (x3 : Int32) (x4 : Int32) (x5 : Int32) (w : GW), k_114 x1 x2 x3 x4 x5 w = some z → Sm L_X9_layGoes R_X9_layGoes w z.2)) : (∀ (x1 : Int32) (x2 : Int32) (x3 : Int32) (x4 : Int32) (x5 : Int32) (x6 : Int64) (t0 : Int32) (w : GW), f_X9_layGoes_155 k_114 x1 x2 x3 x4 x5 x6 t0 w = some z → Sm L_X9_layGoes R_X9_layGoes w z.2) := by
  intro x1 x2 x3 x4 x5 x6 t0 w hz
  rw [f_X9_layGoes_155] at hz
  exact (Sm.rf).tr (fr_X9_layGoes_160 Hk_114 fu x1 x2 x3 x4 x5 x6 t0 0 _ hz)
theorem fr_X9_layGoes_114 {z : Unit × GW} : ∀ (n9 : Nat), (∀ (x1 : Int32) (x2 : Int32) (x3 : Int32) (x4 : Int32) (x5 : Int32) (w : GW), f_X9_layGoes_114 n9 x1 x2 x3 x4 x5 w = some z → Sm L_X9_layGoes R_X9_layGoes w z.2) := by
  intro n9
  induction n9 with
  | zero =>
    intro x1 x2 x3 x4 x5 w hz
    rw [f_X9_layGoes_114] at hz
    cases hz
  | succ n9 ih =>
    intro x1 x2 x3 x4 x5 w hz
    rw [f_X9_layGoes_114] at hz
    rcases bri hz with hz | hz
    · cases hz
      exact Sm.rf
    · obtain ⟨q11, e12, hz⟩ := bd hz
      have ie12 : Sub L_X9_layDay L_X9_layGoes := by
        unfold L_X9_layDay
        exact (Sub.cons (lo2 := 130) (hi2 := 131) (c2 := 23) (show _ ∈ L_X9_layGoes from by simp [L_X9_layGoes]) (by omega) (by omega) (Or.inr rfl) (Sub.cons (lo2 := 137) (hi2 := 138) (c2 := 0) (show _ ∈ L_X9_layGoes from by simp [L_X9_layGoes]) (by omega) (by omega) (Or.inl rfl) Sub.nil))
      obtain ⟨q13, e14, hz⟩ := bd hz
      have ie14 : Sub L_X9_layGlances L_X9_layGoes := by
        unfold L_X9_layGlances
        exact (Sub.cons (lo2 := 138) (hi2 := 139) (c2 := 0) (show _ ∈ L_X9_layGoes from by simp [L_X9_layGoes]) (by omega) (by omega) (Or.inl rfl) Sub.nil)
      obtain ⟨h15, hz⟩ := ck hz
      rcases bri hz with hz | hz
      · obtain ⟨q28, e29, hz⟩ := bd hz
        have ie29 : Sub L_X9_ties L_X9_layGoes := by
          unfold L_X9_ties
          exact Sub.nil
        exact ((((Sm.rf.call (fr_X9_layDay _ (z := q11) e12) ie12 (show ∀ r ∈ R_X9_layDay, r ∈ R_X9_layGoes from by decide)).call (fr_X9_layGlances x5 x3 _ (z := q13) e14) ie14 (show ∀ r ∈ R_X9_layGlances, r ∈ R_X9_layGoes from by decide)).call (fr_X9_ties x3 _ (z := q28) e29) ie29 (show ∀ r ∈ R_X9_ties, r ∈ R_X9_layGoes from by decide))).tr (fr_X9_layGoes_155 ih x1 x2 x3 x4 x5 q13.1 q28.1 _ hz)
      · exact (((Sm.rf.call (fr_X9_layDay _ (z := q11) e12) ie12 (show ∀ r ∈ R_X9_layDay, r ∈ R_X9_layGoes from by decide)).call (fr_X9_layGlances x5 x3 _ (z := q13) e14) ie14 (show ∀ r ∈ R_X9_layGlances, r ∈ R_X9_layGoes from by decide))).tr (fr_X9_layGoes_155 ih x1 x2 x3 x4 x5 q13.1 1 _ hz)
theorem fr_X9_layGoes_74 {z : Unit × GW} : (∀ (t0 : Int64) (w : GW), f_X9_layGoes_74 t0 w = some z → Sm L_X9_layGoes R_X9_layGoes w z.2) := by
  intro t0 w hz
  rw [f_X9_layGoes_74] at hz
  cases hz
  exact ((Sm.rf.wL (lo := 130) (hi := 131) (c9 := 38) (show _ ∈ L_X9_layGoes from by simp [L_X9_layGoes]) (by decide) (by decide) (Or.inr rfl)).wI (lo := 130) (hi := 131) (c9 := 40) (show _ ∈ L_X9_layGoes from by simp [L_X9_layGoes]) (by decide) (by decide) (Or.inr rfl))
theorem fr_X9_layGoes (x1 : Int32) (w : GW) {z : Unit × GW} : f_X9_layGoes x1 w = some z → Sm L_X9_layGoes R_X9_layGoes w z.2 := by
  intro  hz
  rw [f_X9_layGoes] at hz
  obtain ⟨h1, hz⟩ := ck hz
  obtain ⟨h2, hz⟩ := ck hz
  obtain ⟨h3, hz⟩ := ck hz
  obtain ⟨q4, e5, hz⟩ := bd hz
  have ie5 : Sub L_X9_isDoor L_X9_layGoes := by
    unfold L_X9_isDoor
    exact Sub.nil
  rcases bri hz with hz | hz
  · obtain ⟨h6, hz⟩ := ck hz
    obtain ⟨q7, e8, hz⟩ := bd hz
    have ie8 : Sub L_X9_waysOf L_X9_layGoes := by
      unfold L_X9_waysOf
      exact Sub.nil
    obtain ⟨q9, e10, hz⟩ := bd hz
    have ie10 : Sub L_X9_glancesOf L_X9_layGoes := by
      unfold L_X9_glancesOf
      exact Sub.nil
    exact ((((((((Sm.rf.wL (lo := 130) (hi := 131) (c9 := 38) (show _ ∈ L_X9_layGoes from by simp [L_X9_layGoes]) (by decide) (by decide) (Or.inr rfl)).wL (lo := 130) (hi := 131) (c9 := 39) (show _ ∈ L_X9_layGoes from by simp [L_X9_layGoes]) (by decide) (by decide) (Or.inr rfl)).wI (lo := 130) (hi := 131) (c9 := 40) (show _ ∈ L_X9_layGoes from by simp [L_X9_layGoes]) (by decide) (by decide) (Or.inr rfl)).call (fr_X9_isDoor ((gI (sI (sL (sL w 130 37 0) 130 38 1) 130 39 (-5)) 135 (ix 6)) + 1) _ (z := q4) e5) ie5 (show ∀ r ∈ R_X9_isDoor, r ∈ R_X9_layGoes from by decide)).call (fr_X9_waysOf (gI q4.2 133 (ix (24 + (gI w 135 (ix 5))))) (gI w 133 (ix (18 + (gI w 135 (ix 5))))) _ (z := q7) e8) ie8 (show ∀ r ∈ R_X9_waysOf, r ∈ R_X9_layGoes from by decide)).wL (lo := 130) (hi := 131) (c9 := 39) (show _ ∈ L_X9_layGoes from by simp [L_X9_layGoes]) (by decide) (by decide) (Or.inr rfl)).call (fr_X9_glancesOf (gI w 133 (ix (18 + (gI w 135 (ix 5))))) _ (z := q9) e10) ie10 (show ∀ r ∈ R_X9_glancesOf, r ∈ R_X9_layGoes from by decide))).tr (fr_X9_layGoes_114 fu x1 (gI w 135 (ix 5)) (gI w 133 (ix (18 + (gI w 135 (ix 5))))) q9.1 0 _ hz)
  · obtain ⟨q30, e31, hz⟩ := bd hz
    have ie31 : Sub L_X9_layDay L_X9_layGoes := by
      unfold L_X9_layDay
      exact (Sub.cons (lo2 := 130) (hi2 := 131) (c2 := 23) (show _ ∈ L_X9_layGoes from by simp [L_X9_layGoes]) (by omega) (by omega) (Or.inr rfl) (Sub.cons (lo2 := 137) (hi2 := 138) (c2 := 0) (show _ ∈ L_X9_layGoes from by simp [L_X9_layGoes]) (by omega) (by omega) (Or.inl rfl) Sub.nil))
    obtain ⟨h32, hz⟩ := ck hz
    obtain ⟨q33, e34, hz⟩ := bd hz
    have ie34 : Sub L_X9_goesTo L_X9_layGoes := by
      unfold L_X9_goesTo
      exact (Sub.cons (lo2 := 137) (hi2 := 138) (c2 := 0) (show _ ∈ L_X9_layGoes from by simp [L_X9_layGoes]) (by omega) (by omega) (Or.inl rfl) Sub.nil)
    rcases bri hz with hz | hz
    · exact (((((((Sm.rf.wL (lo := 130) (hi := 131) (c9 := 38) (show _ ∈ L_X9_layGoes from by simp [L_X9_layGoes]) (by decide) (by decide) (Or.inr rfl)).wL (lo := 130) (hi := 131) (c9 := 39) (show _ ∈ L_X9_layGoes from by simp [L_X9_layGoes]) (by decide) (by decide) (Or.inr rfl)).wI (lo := 130) (hi := 131) (c9 := 40) (show _ ∈ L_X9_layGoes from by simp [L_X9_layGoes]) (by decide) (by decide) (Or.inr rfl)).call (fr_X9_isDoor ((gI (sI (sL (sL w 130 37 0) 130 38 1) 130 39 (-5)) 135 (ix 6)) + 1) _ (z := q4) e5) ie5 (show ∀ r ∈ R_X9_isDoor, r ∈ R_X9_layGoes from by decide)).call (fr_X9_layDay _ (z := q30) e31) ie31 (show ∀ r ∈ R_X9_layDay, r ∈ R_X9_layGoes from by decide)).call (fr_X9_goesTo (gI q30.2 133 (ix 36)) _ (z := q33) e34) ie34 (show ∀ r ∈ R_X9_goesTo, r ∈ R_X9_layGoes from by decide))).tr (fr_X9_layGoes_74 1 _ hz)
    · exact (((((((Sm.rf.wL (lo := 130) (hi := 131) (c9 := 38) (show _ ∈ L_X9_layGoes from by simp [L_X9_layGoes]) (by decide) (by decide) (Or.inr rfl)).wL (lo := 130) (hi := 131) (c9 := 39) (show _ ∈ L_X9_layGoes from by simp [L_X9_layGoes]) (by decide) (by decide) (Or.inr rfl)).wI (lo := 130) (hi := 131) (c9 := 40) (show _ ∈ L_X9_layGoes from by simp [L_X9_layGoes]) (by decide) (by decide) (Or.inr rfl)).call (fr_X9_isDoor ((gI (sI (sL (sL w 130 37 0) 130 38 1) 130 39 (-5)) 135 (ix 6)) + 1) _ (z := q4) e5) ie5 (show ∀ r ∈ R_X9_isDoor, r ∈ R_X9_layGoes from by decide)).call (fr_X9_layDay _ (z := q30) e31) ie31 (show ∀ r ∈ R_X9_layDay, r ∈ R_X9_layGoes from by decide)).call (fr_X9_goesTo (gI q30.2 133 (ix 36)) _ (z := q33) e34) ie34 (show ∀ r ∈ R_X9_goesTo, r ∈ R_X9_layGoes from by decide))).tr (fr_X9_layGoes_74 0 _ hz)
def L_X9_goes : List (Nat × Nat × Nat) := [(130, 131, 1), (130, 131, 12), (130, 131, 23), (130, 131, 38), (130, 131, 39), (130, 131, 40), (137, 138, 0), (138, 139, 0)]
def R_X9_goes : List Nat := []
theorem fr_X9_goes (x1 : Int32) (x2 : Int32) (w : GW) {z : Int64 × GW} : f_X9_goes x1 x2 w = some z → Sm L_X9_goes R_X9_goes w z.2 := by
  intro  hz
  rw [f_X9_goes] at hz
  obtain ⟨q1, e2, hz⟩ := bd hz
  have ie2 : Sub L_X9_good L_X9_goes := by
    unfold L_X9_good
    exact (Sub.cons (lo2 := 130) (hi2 := 131) (c2 := 1) (show _ ∈ L_X9_goes from by simp [L_X9_goes]) (by omega) (by omega) (Or.inr rfl) (Sub.cons (lo2 := 130) (hi2 := 131) (c2 := 12) (show _ ∈ L_X9_goes from by simp [L_X9_goes]) (by omega) (by omega) (Or.inr rfl) Sub.nil))
  obtain ⟨q3, e4, hz⟩ := bd hz
  have ie4 : Sub L_X9_isBox L_X9_goes := by
    unfold L_X9_isBox
    exact Sub.nil
  rcases bri hz with hz | hz
  · obtain ⟨q13, e14, hz⟩ := bd hz
    have ie14 : Sub L_X9_no L_X9_goes := by
      unfold L_X9_no
      exact (Sub.cons (lo2 := 130) (hi2 := 131) (c2 := 12) (show _ ∈ L_X9_goes from by simp [L_X9_goes]) (by omega) (by omega) (Or.inr rfl) Sub.nil)
    cases hz
    exact (((Sm.rf.call (fr_X9_good  _ (z := q1)  e2) ie2 (show ∀ r ∈ R_X9_good, r ∈ R_X9_goes from by decide)).call (fr_X9_isBox x1 _ (z := q3)  e4) ie4 (show ∀ r ∈ R_X9_isBox, r ∈ R_X9_goes from by decide)).call (fr_X9_no 1 _ (z := q13)  e14) ie14 (show ∀ r ∈ R_X9_no, r ∈ R_X9_goes from by decide))
  · obtain ⟨h5, hz⟩ := ck hz
    obtain ⟨h6, hz⟩ := ck hz
    rcases bri hz with hz | hz
    · obtain ⟨q11, e12, hz⟩ := bd hz
      have ie12 : Sub L_X9_no L_X9_goes := by
        unfold L_X9_no
        exact (Sub.cons (lo2 := 130) (hi2 := 131) (c2 := 12) (show _ ∈ L_X9_goes from by simp [L_X9_goes]) (by omega) (by omega) (Or.inr rfl) Sub.nil)
      cases hz
      exact (((Sm.rf.call (fr_X9_good  _ (z := q1)  e2) ie2 (show ∀ r ∈ R_X9_good, r ∈ R_X9_goes from by decide)).call (fr_X9_isBox x1 _ (z := q3)  e4) ie4 (show ∀ r ∈ R_X9_isBox, r ∈ R_X9_goes from by decide)).call (fr_X9_no 6 _ (z := q11)  e12) ie12 (show ∀ r ∈ R_X9_no, r ∈ R_X9_goes from by decide))
    · obtain ⟨q7, e8, hz⟩ := bd hz
      have ie8 : Sub L_X9_layGoes L_X9_goes := by
        unfold L_X9_layGoes
        exact (Sub.cons (lo2 := 130) (hi2 := 131) (c2 := 23) (show _ ∈ L_X9_goes from by simp [L_X9_goes]) (by omega) (by omega) (Or.inr rfl) (Sub.cons (lo2 := 130) (hi2 := 131) (c2 := 38) (show _ ∈ L_X9_goes from by simp [L_X9_goes]) (by omega) (by omega) (Or.inr rfl) (Sub.cons (lo2 := 130) (hi2 := 131) (c2 := 39) (show _ ∈ L_X9_goes from by simp [L_X9_goes]) (by omega) (by omega) (Or.inr rfl) (Sub.cons (lo2 := 130) (hi2 := 131) (c2 := 40) (show _ ∈ L_X9_goes from by simp [L_X9_goes]) (by omega) (by omega) (Or.inr rfl) (Sub.cons (lo2 := 137) (hi2 := 138) (c2 := 0) (show _ ∈ L_X9_goes from by simp [L_X9_goes]) (by omega) (by omega) (Or.inl rfl) (Sub.cons (lo2 := 138) (hi2 := 139) (c2 := 0) (show _ ∈ L_X9_goes from by simp [L_X9_goes]) (by omega) (by omega) (Or.inl rfl) Sub.nil))))))
      obtain ⟨q9, e10, hz⟩ := bd hz
      have ie10 : Sub L_X9_lowest L_X9_goes := by
        unfold L_X9_lowest
        exact Sub.nil
      cases hz
      exact ((((Sm.rf.call (fr_X9_good  _ (z := q1)  e2) ie2 (show ∀ r ∈ R_X9_good, r ∈ R_X9_goes from by decide)).call (fr_X9_isBox x1 _ (z := q3)  e4) ie4 (show ∀ r ∈ R_X9_isBox, r ∈ R_X9_goes from by decide)).call (fr_X9_layGoes x1 _ (z := q7)  e8) ie8 (show ∀ r ∈ R_X9_layGoes, r ∈ R_X9_goes from by decide)).call (fr_X9_lowest (gL q7.2 130 37) (gL q7.2 130 38) x2 _ (z := q9)  e10) ie10 (show ∀ r ∈ R_X9_lowest, r ∈ R_X9_goes from by decide))
def L_X9_place : List (Nat × Nat × Nat) := [(130, 131, 1), (130, 131, 12), (130, 131, 23), (130, 131, 38), (130, 131, 39), (130, 131, 40), (135, 136, 0), (137, 138, 0), (138, 139, 0)]
def R_X9_place : List Nat := []
theorem fr_X9_place_64 {z : Int32 × GW} : (∀ (w : GW), f_X9_place_64 w = some z → Sm L_X9_place R_X9_place w z.2) := by
  intro w hz
  rw [f_X9_place_64] at hz
  obtain ⟨q9, e10, hz⟩ := bd hz
  have ie10 : Sub L_X9_no L_X9_place := by
    unfold L_X9_no
    exact (Sub.cons (lo2 := 130) (hi2 := 131) (c2 := 12) (show _ ∈ L_X9_place from by simp [L_X9_place]) (by omega) (by omega) (Or.inr rfl) Sub.nil)
  cases hz
  exact (Sm.rf.call (fr_X9_no 5 _ (z := q9)  e10) ie10 (show ∀ r ∈ R_X9_no, r ∈ R_X9_place from by decide))
theorem fr_X9_place (x1 : Int32) (w : GW) {z : Int32 × GW} : f_X9_place x1 w = some z → Sm L_X9_place R_X9_place w z.2 := by
  intro  hz
  rw [f_X9_place] at hz
  obtain ⟨q1, e2, hz⟩ := bd hz
  have ie2 : Sub L_X9_good L_X9_place := by
    unfold L_X9_good
    exact (Sub.cons (lo2 := 130) (hi2 := 131) (c2 := 1) (show _ ∈ L_X9_place from by simp [L_X9_place]) (by omega) (by omega) (Or.inr rfl) (Sub.cons (lo2 := 130) (hi2 := 131) (c2 := 12) (show _ ∈ L_X9_place from by simp [L_X9_place]) (by omega) (by omega) (Or.inr rfl) Sub.nil))
  obtain ⟨q3, e4, hz⟩ := bd hz
  have ie4 : Sub L_X9_isBox L_X9_place := by
    unfold L_X9_isBox
    exact Sub.nil
  rcases bri hz with hz | hz
  · obtain ⟨q25, e26, hz⟩ := bd hz
    have ie26 : Sub L_X9_no L_X9_place := by
      unfold L_X9_no
      exact (Sub.cons (lo2 := 130) (hi2 := 131) (c2 := 12) (show _ ∈ L_X9_place from by simp [L_X9_place]) (by omega) (by omega) (Or.inr rfl) Sub.nil)
    cases hz
    exact (((Sm.rf.call (fr_X9_good  _ (z := q1)  e2) ie2 (show ∀ r ∈ R_X9_good, r ∈ R_X9_place from by decide)).call (fr_X9_isBox x1 _ (z := q3)  e4) ie4 (show ∀ r ∈ R_X9_isBox, r ∈ R_X9_place from by decide)).call (fr_X9_no 1 _ (z := q25)  e26) ie26 (show ∀ r ∈ R_X9_no, r ∈ R_X9_place from by decide))
  · obtain ⟨h5, hz⟩ := ck hz
    obtain ⟨h6, hz⟩ := ck hz
    rcases bri hz with hz | hz
    · obtain ⟨q23, e24, hz⟩ := bd hz
      have ie24 : Sub L_X9_no L_X9_place := by
        unfold L_X9_no
        exact (Sub.cons (lo2 := 130) (hi2 := 131) (c2 := 12) (show _ ∈ L_X9_place from by simp [L_X9_place]) (by omega) (by omega) (Or.inr rfl) Sub.nil)
      cases hz
      exact (((Sm.rf.call (fr_X9_good  _ (z := q1)  e2) ie2 (show ∀ r ∈ R_X9_good, r ∈ R_X9_place from by decide)).call (fr_X9_isBox x1 _ (z := q3)  e4) ie4 (show ∀ r ∈ R_X9_isBox, r ∈ R_X9_place from by decide)).call (fr_X9_no 6 _ (z := q23)  e24) ie24 (show ∀ r ∈ R_X9_no, r ∈ R_X9_place from by decide))
    · obtain ⟨q7, e8, hz⟩ := bd hz
      have ie8 : Sub L_X9_layGoes L_X9_place := by
        unfold L_X9_layGoes
        exact (Sub.cons (lo2 := 130) (hi2 := 131) (c2 := 23) (show _ ∈ L_X9_place from by simp [L_X9_place]) (by omega) (by omega) (Or.inr rfl) (Sub.cons (lo2 := 130) (hi2 := 131) (c2 := 38) (show _ ∈ L_X9_place from by simp [L_X9_place]) (by omega) (by omega) (Or.inr rfl) (Sub.cons (lo2 := 130) (hi2 := 131) (c2 := 39) (show _ ∈ L_X9_place from by simp [L_X9_place]) (by omega) (by omega) (Or.inr rfl) (Sub.cons (lo2 := 130) (hi2 := 131) (c2 := 40) (show _ ∈ L_X9_place from by simp [L_X9_place]) (by omega) (by omega) (Or.inr rfl) (Sub.cons (lo2 := 137) (hi2 := 138) (c2 := 0) (show _ ∈ L_X9_place from by simp [L_X9_place]) (by omega) (by omega) (Or.inl rfl) (Sub.cons (lo2 := 138) (hi2 := 139) (c2 := 0) (show _ ∈ L_X9_place from by simp [L_X9_place]) (by omega) (by omega) (Or.inl rfl) Sub.nil))))))
      rcases bri hz with hz | hz
      · exact ((((Sm.rf.call (fr_X9_good _ (z := q1) e2) ie2 (show ∀ r ∈ R_X9_good, r ∈ R_X9_place from by decide)).call (fr_X9_isBox x1 _ (z := q3) e4) ie4 (show ∀ r ∈ R_X9_isBox, r ∈ R_X9_place from by decide)).call (fr_X9_layGoes x1 _ (z := q7) e8) ie8 (show ∀ r ∈ R_X9_layGoes, r ∈ R_X9_place from by decide))).tr (fr_X9_place_64 _ hz)
      · rcases bri hz with hz | hz
        · exact ((((Sm.rf.call (fr_X9_good _ (z := q1) e2) ie2 (show ∀ r ∈ R_X9_good, r ∈ R_X9_place from by decide)).call (fr_X9_isBox x1 _ (z := q3) e4) ie4 (show ∀ r ∈ R_X9_isBox, r ∈ R_X9_place from by decide)).call (fr_X9_layGoes x1 _ (z := q7) e8) ie8 (show ∀ r ∈ R_X9_layGoes, r ∈ R_X9_place from by decide))).tr (fr_X9_place_64 _ hz)
        · obtain ⟨q11, e12, hz⟩ := bd hz
          have ie12 : Sub L_X9_layDay L_X9_place := by
            unfold L_X9_layDay
            exact (Sub.cons (lo2 := 130) (hi2 := 131) (c2 := 23) (show _ ∈ L_X9_place from by simp [L_X9_place]) (by omega) (by omega) (Or.inr rfl) (Sub.cons (lo2 := 137) (hi2 := 138) (c2 := 0) (show _ ∈ L_X9_place from by simp [L_X9_place]) (by omega) (by omega) (Or.inl rfl) Sub.nil))
          obtain ⟨h13, hz⟩ := ck hz
          obtain ⟨h14, hz⟩ := ck hz
          obtain ⟨h15, hz⟩ := ck hz
          obtain ⟨h16, hz⟩ := ck hz
          obtain ⟨h17, hz⟩ := ck hz
          obtain ⟨q18, e19, hz⟩ := bd hz
          have ie19 : Sub L_X9_moves L_X9_place := by
            unfold L_X9_moves
            exact (Sub.cons (lo2 := 137) (hi2 := 138) (c2 := 0) (show _ ∈ L_X9_place from by simp [L_X9_place]) (by omega) (by omega) (Or.inl rfl) Sub.nil)
          obtain ⟨q20, e21, hz⟩ := bd hz
          have ie21 : Sub L_X9_keepDay L_X9_place := by
            unfold L_X9_keepDay
            exact (Sub.cons (lo2 := 135) (hi2 := 136) (c2 := 0) (show _ ∈ L_X9_place from by simp [L_X9_place]) (by omega) (by omega) (Or.inl rfl) Sub.nil)
          obtain ⟨h22, hz⟩ := ck hz
          cases hz
          exact (((((((((Sm.rf.call (fr_X9_good  _ (z := q1)  e2) ie2 (show ∀ r ∈ R_X9_good, r ∈ R_X9_place from by decide)).call (fr_X9_isBox x1 _ (z := q3)  e4) ie4 (show ∀ r ∈ R_X9_isBox, r ∈ R_X9_place from by decide)).call (fr_X9_layGoes x1 _ (z := q7)  e8) ie8 (show ∀ r ∈ R_X9_layGoes, r ∈ R_X9_place from by decide)).call (fr_X9_layDay  _ (z := q11)  e12) ie12 (show ∀ r ∈ R_X9_layDay, r ∈ R_X9_place from by decide)).wI (lo := 137) (hi := 138) (c9 := 0) (show _ ∈ L_X9_place from by simp [L_X9_place]) (by decide) (by decide) (Or.inl rfl)).wI (lo := 130) (hi := 131) (c9 := 23) (show _ ∈ L_X9_place from by simp [L_X9_place]) (by decide) (by decide) (Or.inr rfl)).wI (lo := 135) (hi := 136) (c9 := 0) (show _ ∈ L_X9_place from by simp [L_X9_place]) (by decide) (by decide) (Or.inl rfl)).call (fr_X9_moves (gI (sI (sI (sI q11.2 137 (ix x1) ((gI q11.2 137 (ix x1)) + 1)) 130 22 (gI (sI q11.2 137 (ix x1) ((gI q11.2 137 (ix x1)) + 1)) 130 39)) 135 (ix 6) ((gI (sI (sI q11.2 137 (ix x1) ((gI q11.2 137 (ix x1)) + 1)) 130 22 (gI (sI q11.2 137 (ix x1) ((gI q11.2 137 (ix x1)) + 1)) 130 39)) 135 (ix 6)) + 1)) 135 (ix 6)) _ (z := q18)  e19) ie19 (show ∀ r ∈ R_X9_moves, r ∈ R_X9_place from by decide)).call (fr_X9_keepDay  _ (z := q20)  e21) ie21 (show ∀ r ∈ R_X9_keepDay, r ∈ R_X9_place from by decide))
def L_X9_box : List (Nat × Nat × Nat) := [(130, 131, 1), (130, 131, 12)]
def R_X9_box : List Nat := []
theorem fr_X9_box (x1 : Int32) (w : GW) {z : Int32 × GW} : f_X9_box x1 w = some z → Sm L_X9_box R_X9_box w z.2 := by
  intro  hz
  rw [f_X9_box] at hz
  obtain ⟨q1, e2, hz⟩ := bd hz
  have ie2 : Sub L_X9_good L_X9_box := by
    unfold L_X9_good
    exact (Sub.cons (lo2 := 130) (hi2 := 131) (c2 := 1) (show _ ∈ L_X9_box from by simp [L_X9_box]) (by omega) (by omega) (Or.inr rfl) (Sub.cons (lo2 := 130) (hi2 := 131) (c2 := 12) (show _ ∈ L_X9_box from by simp [L_X9_box]) (by omega) (by omega) (Or.inr rfl) Sub.nil))
  obtain ⟨q3, e4, hz⟩ := bd hz
  have ie4 : Sub L_X9_isBox L_X9_box := by
    unfold L_X9_isBox
    exact Sub.nil
  rcases bri hz with hz | hz
  · obtain ⟨q5, e6, hz⟩ := bd hz
    have ie6 : Sub L_X9_no L_X9_box := by
      unfold L_X9_no
      exact (Sub.cons (lo2 := 130) (hi2 := 131) (c2 := 12) (show _ ∈ L_X9_box from by simp [L_X9_box]) (by omega) (by omega) (Or.inr rfl) Sub.nil)
    cases hz
    exact (((Sm.rf.call (fr_X9_good  _ (z := q1)  e2) ie2 (show ∀ r ∈ R_X9_good, r ∈ R_X9_box from by decide)).call (fr_X9_isBox x1 _ (z := q3)  e4) ie4 (show ∀ r ∈ R_X9_isBox, r ∈ R_X9_box from by decide)).call (fr_X9_no 1 _ (z := q5)  e6) ie6 (show ∀ r ∈ R_X9_no, r ∈ R_X9_box from by decide))
  · obtain ⟨h7, hz⟩ := ck hz
    cases hz
    exact ((Sm.rf.call (fr_X9_good  _ (z := q1)  e2) ie2 (show ∀ r ∈ R_X9_good, r ∈ R_X9_box from by decide)).call (fr_X9_isBox x1 _ (z := q3)  e4) ie4 (show ∀ r ∈ R_X9_isBox, r ∈ R_X9_box from by decide))
def L_X9_recall : List (Nat × Nat × Nat) := [(130, 131, 1), (130, 131, 12)]
def R_X9_recall : List Nat := []
theorem fr_X9_recall  (w : GW) {z : Int32 × GW} : f_X9_recall w = some z → Sm L_X9_recall R_X9_recall w z.2 := by
  intro  hz
  rw [f_X9_recall] at hz
  obtain ⟨q1, e2, hz⟩ := bd hz
  have ie2 : Sub L_X9_good L_X9_recall := by
    unfold L_X9_good
    exact (Sub.cons (lo2 := 130) (hi2 := 131) (c2 := 1) (show _ ∈ L_X9_recall from by simp [L_X9_recall]) (by omega) (by omega) (Or.inr rfl) (Sub.cons (lo2 := 130) (hi2 := 131) (c2 := 12) (show _ ∈ L_X9_recall from by simp [L_X9_recall]) (by omega) (by omega) (Or.inr rfl) Sub.nil))
  rcases bri hz with hz | hz
  · obtain ⟨q3, e4, hz⟩ := bd hz
    have ie4 : Sub L_X9_no L_X9_recall := by
      unfold L_X9_no
      exact (Sub.cons (lo2 := 130) (hi2 := 131) (c2 := 12) (show _ ∈ L_X9_recall from by simp [L_X9_recall]) (by omega) (by omega) (Or.inr rfl) Sub.nil)
    cases hz
    exact ((Sm.rf.call (fr_X9_good  _ (z := q1)  e2) ie2 (show ∀ r ∈ R_X9_good, r ∈ R_X9_recall from by decide)).call (fr_X9_no 1 _ (z := q3)  e4) ie4 (show ∀ r ∈ R_X9_no, r ∈ R_X9_recall from by decide))
  · obtain ⟨h5, hz⟩ := ck hz
    cases hz
    exact (Sm.rf.call (fr_X9_good  _ (z := q1)  e2) ie2 (show ∀ r ∈ R_X9_good, r ∈ R_X9_recall from by decide))
def L_X9_mark : List (Nat × Nat × Nat) := [(130, 131, 1), (130, 131, 12), (130, 131, 20), (136, 137, 0)]
def R_X9_mark : List Nat := []
theorem fr_X9_mark_33 {z : Int32 × GW} : ∀ (n9 : Nat), (∀ (x1 : Int32) (w : GW), f_X9_mark_33 n9 x1 w = some z → Sm L_X9_mark R_X9_mark w z.2) := by
  intro n9
  induction n9 with
  | zero =>
    intro x1 w hz
    rw [f_X9_mark_33] at hz
    cases hz
  | succ n9 ih =>
    intro x1 w hz
    rw [f_X9_mark_33] at hz
    rcases bri hz with hz | hz
    · cases hz
      exact (Sm.rf.wI (lo := 130) (hi := 131) (c9 := 20) (show _ ∈ L_X9_mark from by simp [L_X9_mark]) (by decide) (by decide) (Or.inr rfl))
    · obtain ⟨h3, hz⟩ := ck hz
      obtain ⟨h4, hz⟩ := ck hz
      exact ((Sm.rf.wI (lo := 136) (hi := 137) (c9 := 0) (show _ ∈ L_X9_mark from by simp [L_X9_mark]) (by decide) (by decide) (Or.inl rfl))).tr (ih (x1 + 1) _  hz)
theorem fr_X9_mark  (w : GW) {z : Int32 × GW} : f_X9_mark w = some z → Sm L_X9_mark R_X9_mark w z.2 := by
  intro  hz
  rw [f_X9_mark] at hz
  obtain ⟨q1, e2, hz⟩ := bd hz
  have ie2 : Sub L_X9_good L_X9_mark := by
    unfold L_X9_good
    exact (Sub.cons (lo2 := 130) (hi2 := 131) (c2 := 1) (show _ ∈ L_X9_mark from by simp [L_X9_mark]) (by omega) (by omega) (Or.inr rfl) (Sub.cons (lo2 := 130) (hi2 := 131) (c2 := 12) (show _ ∈ L_X9_mark from by simp [L_X9_mark]) (by omega) (by omega) (Or.inr rfl) Sub.nil))
  rcases bri hz with hz | hz
  · obtain ⟨q7, e8, hz⟩ := bd hz
    have ie8 : Sub L_X9_no L_X9_mark := by
      unfold L_X9_no
      exact (Sub.cons (lo2 := 130) (hi2 := 131) (c2 := 12) (show _ ∈ L_X9_mark from by simp [L_X9_mark]) (by omega) (by omega) (Or.inr rfl) Sub.nil)
    cases hz
    exact ((Sm.rf.call (fr_X9_good  _ (z := q1)  e2) ie2 (show ∀ r ∈ R_X9_good, r ∈ R_X9_mark from by decide)).call (fr_X9_no 1 _ (z := q7)  e8) ie8 (show ∀ r ∈ R_X9_no, r ∈ R_X9_mark from by decide))
  · rcases bri hz with hz | hz
    · obtain ⟨q5, e6, hz⟩ := bd hz
      have ie6 : Sub L_X9_no L_X9_mark := by
        unfold L_X9_no
        exact (Sub.cons (lo2 := 130) (hi2 := 131) (c2 := 12) (show _ ∈ L_X9_mark from by simp [L_X9_mark]) (by omega) (by omega) (Or.inr rfl) Sub.nil)
      cases hz
      exact ((Sm.rf.call (fr_X9_good  _ (z := q1)  e2) ie2 (show ∀ r ∈ R_X9_good, r ∈ R_X9_mark from by decide)).call (fr_X9_no 3 _ (z := q5)  e6) ie6 (show ∀ r ∈ R_X9_no, r ∈ R_X9_mark from by decide))
    · exact ((Sm.rf.call (fr_X9_good _ (z := q1) e2) ie2 (show ∀ r ∈ R_X9_good, r ∈ R_X9_mark from by decide))).tr (fr_X9_mark_33 fu 0 _ hz)
def L_X9_back : List (Nat × Nat × Nat) := [(130, 131, 1), (130, 131, 12), (135, 136, 0)]
def R_X9_back : List Nat := []
theorem fr_X9_back_26 {z : Int32 × GW} : ∀ (n9 : Nat), (∀ (x1 : Int32) (x2 : Int32) (w : GW), f_X9_back_26 n9 x1 x2 w = some z → Sm L_X9_back R_X9_back w z.2) := by
  intro n9
  induction n9 with
  | zero =>
    intro x1 x2 w hz
    rw [f_X9_back_26] at hz
    cases hz
  | succ n9 ih =>
    intro x1 x2 w hz
    rw [f_X9_back_26] at hz
    rcases bri hz with hz | hz
    · cases hz
      exact Sm.rf
    · obtain ⟨h5, hz⟩ := ck hz
      obtain ⟨h6, hz⟩ := ck hz
      exact ((Sm.rf.wI (lo := 135) (hi := 136) (c9 := 0) (show _ ∈ L_X9_back from by simp [L_X9_back]) (by decide) (by decide) (Or.inl rfl))).tr (ih x1 (x2 + 1) _  hz)
theorem fr_X9_back (x1 : Int32) (w : GW) {z : Int32 × GW} : f_X9_back x1 w = some z → Sm L_X9_back R_X9_back w z.2 := by
  intro  hz
  rw [f_X9_back] at hz
  obtain ⟨q1, e2, hz⟩ := bd hz
  have ie2 : Sub L_X9_good L_X9_back := by
    unfold L_X9_good
    exact (Sub.cons (lo2 := 130) (hi2 := 131) (c2 := 1) (show _ ∈ L_X9_back from by simp [L_X9_back]) (by omega) (by omega) (Or.inr rfl) (Sub.cons (lo2 := 130) (hi2 := 131) (c2 := 12) (show _ ∈ L_X9_back from by simp [L_X9_back]) (by omega) (by omega) (Or.inr rfl) Sub.nil))
  obtain ⟨q3, e4, hz⟩ := bd hz
  have ie4 : Sub L_X9_within L_X9_back := by
    unfold L_X9_within
    exact Sub.nil
  rcases bri hz with hz | hz
  · obtain ⟨q7, e8, hz⟩ := bd hz
    have ie8 : Sub L_X9_isNot L_X9_back := by
      unfold L_X9_isNot
      exact (Sub.cons (lo2 := 130) (hi2 := 131) (c2 := 12) (show _ ∈ L_X9_back from by simp [L_X9_back]) (by omega) (by omega) (Or.inr rfl) Sub.nil)
    cases hz
    exact (((Sm.rf.call (fr_X9_good  _ (z := q1)  e2) ie2 (show ∀ r ∈ R_X9_good, r ∈ R_X9_back from by decide)).call (fr_X9_within x1 0 ((gI q1.2 130 19) - 1) _ (z := q3)  e4) ie4 (show ∀ r ∈ R_X9_within, r ∈ R_X9_back from by decide)).call (fr_X9_isNot 1 _ (z := q7)  e8) ie8 (show ∀ r ∈ R_X9_isNot, r ∈ R_X9_back from by decide))
  · exact (((Sm.rf.call (fr_X9_good _ (z := q1) e2) ie2 (show ∀ r ∈ R_X9_good, r ∈ R_X9_back from by decide)).call (fr_X9_within x1 0 ((gI q1.2 130 19) - 1) _ (z := q3) e4) ie4 (show ∀ r ∈ R_X9_within, r ∈ R_X9_back from by decide))).tr (fr_X9_back_26 fu x1 0 _ hz)
def L_X9_porter : List (Nat × Nat × Nat) := [(130, 131, 1), (130, 131, 12)]
def R_X9_porter : List Nat := []
theorem fr_X9_porter_52 {z : Int32 × GW} : (∀ (w : GW), f_X9_porter_52 w = some z → Sm L_X9_porter R_X9_porter w z.2) := by
  intro w hz
  rw [f_X9_porter_52] at hz
  obtain ⟨q5, e6, hz⟩ := bd hz
  have ie6 : Sub L_X9_no L_X9_porter := by
    unfold L_X9_no
    exact (Sub.cons (lo2 := 130) (hi2 := 131) (c2 := 12) (show _ ∈ L_X9_porter from by simp [L_X9_porter]) (by omega) (by omega) (Or.inr rfl) Sub.nil)
  cases hz
  exact (Sm.rf.call (fr_X9_no 1 _ (z := q5)  e6) ie6 (show ∀ r ∈ R_X9_no, r ∈ R_X9_porter from by decide))
theorem fr_X9_porter_46 {z : Int32 × GW} : (∀ (x1 : Int32) (t0 : Int32) (w : GW), f_X9_porter_46 x1 t0 w = some z → Sm L_X9_porter R_X9_porter w z.2) := by
  intro x1 t0 w hz
  rw [f_X9_porter_46] at hz
  obtain ⟨h9, hz⟩ := ck hz
  cases hz
  exact Sm.rf
theorem fr_X9_porter (x1 : Int32) (x2 : Int32) (w : GW) {z : Int32 × GW} : f_X9_porter x1 x2 w = some z → Sm L_X9_porter R_X9_porter w z.2 := by
  intro  hz
  rw [f_X9_porter] at hz
  obtain ⟨q1, e2, hz⟩ := bd hz
  have ie2 : Sub L_X9_good L_X9_porter := by
    unfold L_X9_good
    exact (Sub.cons (lo2 := 130) (hi2 := 131) (c2 := 1) (show _ ∈ L_X9_porter from by simp [L_X9_porter]) (by omega) (by omega) (Or.inr rfl) (Sub.cons (lo2 := 130) (hi2 := 131) (c2 := 12) (show _ ∈ L_X9_porter from by simp [L_X9_porter]) (by omega) (by omega) (Or.inr rfl) Sub.nil))
  obtain ⟨q3, e4, hz⟩ := bd hz
  have ie4 : Sub L_X9_isPorter L_X9_porter := by
    unfold L_X9_isPorter
    exact Sub.nil
  rcases bri hz with hz | hz
  · exact (((Sm.rf.call (fr_X9_good _ (z := q1) e2) ie2 (show ∀ r ∈ R_X9_good, r ∈ R_X9_porter from by decide)).call (fr_X9_isPorter x1 _ (z := q3) e4) ie4 (show ∀ r ∈ R_X9_isPorter, r ∈ R_X9_porter from by decide))).tr (fr_X9_porter_52 _ hz)
  · obtain ⟨q7, e8, hz⟩ := bd hz
    have ie8 : Sub L_X9_within L_X9_porter := by
      unfold L_X9_within
      exact Sub.nil
    rcases bri hz with hz | hz
    · exact ((((Sm.rf.call (fr_X9_good _ (z := q1) e2) ie2 (show ∀ r ∈ R_X9_good, r ∈ R_X9_porter from by decide)).call (fr_X9_isPorter x1 _ (z := q3) e4) ie4 (show ∀ r ∈ R_X9_isPorter, r ∈ R_X9_porter from by decide)).call (fr_X9_within x2 0 2 _ (z := q7) e8) ie8 (show ∀ r ∈ R_X9_within, r ∈ R_X9_porter from by decide))).tr (fr_X9_porter_52 _ hz)
    · rcases bri hz with hz | hz
      · exact ((((Sm.rf.call (fr_X9_good _ (z := q1) e2) ie2 (show ∀ r ∈ R_X9_good, r ∈ R_X9_porter from by decide)).call (fr_X9_isPorter x1 _ (z := q3) e4) ie4 (show ∀ r ∈ R_X9_isPorter, r ∈ R_X9_porter from by decide)).call (fr_X9_within x2 0 2 _ (z := q7) e8) ie8 (show ∀ r ∈ R_X9_within, r ∈ R_X9_porter from by decide))).tr (fr_X9_porter_46 x1 18 _ hz)
      · rcases bri hz with hz | hz
        · exact ((((Sm.rf.call (fr_X9_good _ (z := q1) e2) ie2 (show ∀ r ∈ R_X9_good, r ∈ R_X9_porter from by decide)).call (fr_X9_isPorter x1 _ (z := q3) e4) ie4 (show ∀ r ∈ R_X9_isPorter, r ∈ R_X9_porter from by decide)).call (fr_X9_within x2 0 2 _ (z := q7) e8) ie8 (show ∀ r ∈ R_X9_within, r ∈ R_X9_porter from by decide))).tr (fr_X9_porter_46 x1 24 _ hz)
        · exact ((((Sm.rf.call (fr_X9_good _ (z := q1) e2) ie2 (show ∀ r ∈ R_X9_good, r ∈ R_X9_porter from by decide)).call (fr_X9_isPorter x1 _ (z := q3) e4) ie4 (show ∀ r ∈ R_X9_isPorter, r ∈ R_X9_porter from by decide)).call (fr_X9_within x2 0 2 _ (z := q7) e8) ie8 (show ∀ r ∈ R_X9_within, r ∈ R_X9_porter from by decide))).tr (fr_X9_porter_46 x1 30 _ hz)
def L_X9_boxOf : List (Nat × Nat × Nat) := [(130, 131, 1), (130, 131, 12)]
def R_X9_boxOf : List Nat := []
theorem fr_X9_boxOf_26 {z : Int32 × GW} : (∀ (x1 : Int32) (t0 : Int32) (w : GW), f_X9_boxOf_26 x1 t0 w = some z → Sm L_X9_boxOf R_X9_boxOf w z.2) := by
  intro x1 t0 w hz
  rw [f_X9_boxOf_26] at hz
  obtain ⟨h7, hz⟩ := ck hz
  cases hz
  exact Sm.rf
theorem fr_X9_boxOf (x1 : Int32) (x2 : Int32) (w : GW) {z : Int32 × GW} : f_X9_boxOf x1 x2 w = some z → Sm L_X9_boxOf R_X9_boxOf w z.2 := by
  intro  hz
  rw [f_X9_boxOf] at hz
  obtain ⟨q1, e2, hz⟩ := bd hz
  have ie2 : Sub L_X9_good L_X9_boxOf := by
    unfold L_X9_good
    exact (Sub.cons (lo2 := 130) (hi2 := 131) (c2 := 1) (show _ ∈ L_X9_boxOf from by simp [L_X9_boxOf]) (by omega) (by omega) (Or.inr rfl) (Sub.cons (lo2 := 130) (hi2 := 131) (c2 := 12) (show _ ∈ L_X9_boxOf from by simp [L_X9_boxOf]) (by omega) (by omega) (Or.inr rfl) Sub.nil))
  obtain ⟨q3, e4, hz⟩ := bd hz
  have ie4 : Sub L_X9_isBox L_X9_boxOf := by
    unfold L_X9_isBox
    exact Sub.nil
  rcases bri hz with hz | hz
  · obtain ⟨q5, e6, hz⟩ := bd hz
    have ie6 : Sub L_X9_no L_X9_boxOf := by
      unfold L_X9_no
      exact (Sub.cons (lo2 := 130) (hi2 := 131) (c2 := 12) (show _ ∈ L_X9_boxOf from by simp [L_X9_boxOf]) (by omega) (by omega) (Or.inr rfl) Sub.nil)
    cases hz
    exact (((Sm.rf.call (fr_X9_good  _ (z := q1)  e2) ie2 (show ∀ r ∈ R_X9_good, r ∈ R_X9_boxOf from by decide)).call (fr_X9_isBox x1 _ (z := q3)  e4) ie4 (show ∀ r ∈ R_X9_isBox, r ∈ R_X9_boxOf from by decide)).call (fr_X9_no 1 _ (z := q5)  e6) ie6 (show ∀ r ∈ R_X9_no, r ∈ R_X9_boxOf from by decide))
  · rcases bri hz with hz | hz
    · exact (((Sm.rf.call (fr_X9_good _ (z := q1) e2) ie2 (show ∀ r ∈ R_X9_good, r ∈ R_X9_boxOf from by decide)).call (fr_X9_isBox x1 _ (z := q3) e4) ie4 (show ∀ r ∈ R_X9_isBox, r ∈ R_X9_boxOf from by decide))).tr (fr_X9_boxOf_26 x1 2 _ hz)
    · exact (((Sm.rf.call (fr_X9_good _ (z := q1) e2) ie2 (show ∀ r ∈ R_X9_good, r ∈ R_X9_boxOf from by decide)).call (fr_X9_isBox x1 _ (z := q3) e4) ie4 (show ∀ r ∈ R_X9_isBox, r ∈ R_X9_boxOf from by decide))).tr (fr_X9_boxOf_26 x1 7 _ hz)
def L_X9_led : List (Nat × Nat × Nat) := [(130, 131, 1)]
def R_X9_led : List Nat := []
theorem fr_X9_led_54 {z : Int32 × GW} : (∀ (w : GW), f_X9_led_54 w = some z → Sm L_X9_led R_X9_led w z.2) := by
  intro w hz
  rw [f_X9_led_54] at hz
  cases hz
  exact (Sm.rf.wI (lo := 130) (hi := 131) (c9 := 1) (show _ ∈ L_X9_led from by simp [L_X9_led]) (by decide) (by decide) (Or.inr rfl))
theorem fr_X9_led_48 {z : Int32 × GW} {k_4 : Int32 → Int32 → Int32 → GW → Option (Int32 × GW)} (Hk_4 : (∀ (x1 : Int32) (x2 : Int32) (x3 : Int32) (w : GW), k_4 x1 x2 x3 w = some z → Sm L_X9_led R_X9_led w z.2)) : (∀ (x1 : Int32) (x2 : Int32) (x3 : Int32) (w : GW), f_X9_led_48 k_4 x1 x2 x3 w = some z → Sm L_X9_led R_X9_led w z.2) := by
  intro x1 x2 x3 w hz
  rw [f_X9_led_48] at hz
  exact (Sm.rf).tr (Hk_4 x1 x2 (x3 + 1) _  hz)
theorem fr_X9_led_4 {z : Int32 × GW} : ∀ (n9 : Nat), (∀ (x1 : Int32) (x2 : Int32) (x3 : Int32) (w : GW), f_X9_led_4 n9 x1 x2 x3 w = some z → Sm L_X9_led R_X9_led w z.2) := by
  intro n9
  induction n9 with
  | zero =>
    intro x1 x2 x3 w hz
    rw [f_X9_led_4] at hz
    cases hz
  | succ n9 ih =>
    intro x1 x2 x3 w hz
    rw [f_X9_led_4] at hz
    rcases bri hz with hz | hz
    · exact (Sm.rf).tr (fr_X9_led_54 _ hz)
    · obtain ⟨h1, hz⟩ := ck hz
      rcases bri hz with hz | hz
      · exact (Sm.rf).tr (fr_X9_led_54 _ hz)
      · obtain ⟨h2, hz⟩ := ck hz
        rcases bri hz with hz | hz
        · rcases bri hz with hz | hz
          · cases hz
            exact (Sm.rf.wI (lo := 130) (hi := 131) (c9 := 1) (show _ ∈ L_X9_led from by simp [L_X9_led]) (by decide) (by decide) (Or.inr rfl))
          · exact (Sm.rf).tr (fr_X9_led_48 ih x1 (x2 + 1) x3 _ hz)
        · exact (Sm.rf).tr (fr_X9_led_48 ih x1 x2 x3 _ hz)
theorem fr_X9_led (x1 : Int32) (w : GW) {z : Int32 × GW} : f_X9_led x1 w = some z → Sm L_X9_led R_X9_led w z.2 := by
  intro  hz
  rw [f_X9_led] at hz
  exact (Sm.rf).tr (fr_X9_led_4 fu x1 0 0 _ hz)
def L_X9_size : List (Nat × Nat × Nat) := [(130, 131, 1)]
def R_X9_size : List Nat := []
theorem fr_X9_size_43 {z : Int32 × GW} : ∀ (n9 : Nat), (∀ (x1 : Int32) (x2 : Int32) (x3 : Int32) (w : GW), f_X9_size_43 n9 x1 x2 x3 w = some z → Sm L_X9_size R_X9_size w z.2) := by
  intro n9
  induction n9 with
  | zero =>
    intro x1 x2 x3 w hz
    rw [f_X9_size_43] at hz
    cases hz
  | succ n9 ih =>
    intro x1 x2 x3 w hz
    rw [f_X9_size_43] at hz
    rcases bri hz with hz | hz
    · rcases bri hz with hz | hz
      · obtain ⟨h1, hz⟩ := ck hz
        cases hz
        exact Sm.rf
      rcases bri hz with hz | hz
      · obtain ⟨h2, hz⟩ := ck hz
        cases hz
        exact Sm.rf
      rcases bri hz with hz | hz
      · obtain ⟨h3, hz⟩ := ck hz
        cases hz
        exact Sm.rf
      rcases bri hz with hz | hz
      · obtain ⟨h4, hz⟩ := ck hz
        cases hz
        exact Sm.rf
      rcases bri hz with hz | hz
      · obtain ⟨h5, hz⟩ := ck hz
        cases hz
        exact Sm.rf
      rcases bri hz with hz | hz
      · obtain ⟨h6, hz⟩ := ck hz
        cases hz
        exact Sm.rf
      rcases bri hz with hz | hz
      · obtain ⟨h7, hz⟩ := ck hz
        cases hz
        exact Sm.rf
      rcases bri hz with hz | hz
      · obtain ⟨h8, hz⟩ := ck hz
        cases hz
        exact Sm.rf
      rcases bri hz with hz | hz
      · cases hz
        exact Sm.rf
      cases hz
      exact Sm.rf
    · obtain ⟨h9, hz⟩ := ck hz
      exact (Sm.rf).tr (ih x1 (x2 + (gI w 135 (ix x3))) (x3 + 1) _  hz)
theorem fr_X9_size (x1 : Int32) (w : GW) {z : Int32 × GW} : f_X9_size x1 w = some z → Sm L_X9_size R_X9_size w z.2 := by
  intro  hz
  rw [f_X9_size] at hz
  rcases bri hz with hz | hz
  · cases hz
    exact (Sm.rf.wI (lo := 130) (hi := 131) (c9 := 1) (show _ ∈ L_X9_size from by simp [L_X9_size]) (by decide) (by decide) (Or.inr rfl))
  · rcases bri hz with hz | hz
    · obtain ⟨q10, e11, hz⟩ := bd hz
      have ie11 : Sub L_X9_within L_X9_size := by
        unfold L_X9_within
        exact Sub.nil
      rcases bri hz with hz | hz
      · cases hz
        exact ((Sm.rf.wI (lo := 130) (hi := 131) (c9 := 1) (show _ ∈ L_X9_size from by simp [L_X9_size]) (by decide) (by decide) (Or.inr rfl)).call (fr_X9_within x1 0 8 _ (z := q10)  e11) ie11 (show ∀ r ∈ R_X9_within, r ∈ R_X9_size from by decide))
      · cases hz
        exact ((Sm.rf.wI (lo := 130) (hi := 131) (c9 := 1) (show _ ∈ L_X9_size from by simp [L_X9_size]) (by decide) (by decide) (Or.inr rfl)).call (fr_X9_within x1 0 8 _ (z := q10)  e11) ie11 (show ∀ r ∈ R_X9_within, r ∈ R_X9_size from by decide))
    · exact ((Sm.rf.wI (lo := 130) (hi := 131) (c9 := 1) (show _ ∈ L_X9_size from by simp [L_X9_size]) (by decide) (by decide) (Or.inr rfl))).tr (fr_X9_size_43 fu x1 0 0 _ hz)
def L_X9_trouble : List (Nat × Nat × Nat) := [(130, 131, 1)]
def R_X9_trouble : List Nat := []
theorem fr_X9_trouble  (w : GW) {z : Int32 × GW} : f_X9_trouble w = some z → Sm L_X9_trouble R_X9_trouble w z.2 := by
  intro  hz
  rw [f_X9_trouble] at hz
  cases hz
  exact (Sm.rf.wI (lo := 130) (hi := 131) (c9 := 1) (show _ ∈ L_X9_trouble from by simp [L_X9_trouble]) (by decide) (by decide) (Or.inr rfl))
