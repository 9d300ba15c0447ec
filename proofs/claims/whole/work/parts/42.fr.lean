def L_X8_fullest : List (Nat × Nat × Nat) := [(0, 1, 13), (110, 111, 0), (111, 112, 0), (113, 114, 0), (114, 115, 0), (115, 116, 0), (69, 70, 0), (71, 72, 0), (72, 73, 10), (72, 73, 11), (74, 110, 0)]
def R_X8_fullest : List Nat := [4, 5]
theorem fr_X8_fullest_30 {z : Int64 × GW} : (∀ (w : GW), f_X8_fullest_30 w = some z → Sm L_X8_fullest R_X8_fullest w z.2) := by
  intro w hz
  rw [f_X8_fullest_30] at hz
  obtain ⟨q5, e6, hz⟩ := bd hz
  have ie6 : Sub L_X8_refuse L_X8_fullest := by
    unfold L_X8_refuse
    exact (Sub.cons (lo2 := 0) (hi2 := 1) (c2 := 13) (show _ ∈ L_X8_fullest from by simp [L_X8_fullest]) (by omega) (by omega) (Or.inr rfl) Sub.nil)
  cases hz
  exact (Sm.rf.call (fr_X8_refuse 2 _ (z := q5)  e6) ie6 (show ∀ r ∈ R_X8_refuse, r ∈ R_X8_fullest from by decide))
theorem fr_X8_fullest (x1 : Int32) (x2 : Int32) (x3 : Int32) (x4 : Int32) (w : GW) {z : Int64 × GW} : f_X8_fullest x1 x2 x3 x4 w = some z → Sm L_X8_fullest R_X8_fullest w z.2 := by
  intro  hz
  rw [f_X8_fullest] at hz
  obtain ⟨q1, e2, hz⟩ := bd hz
  have ie2 : Sub L_X8_isPorter L_X8_fullest := by
    unfold L_X8_isPorter
    exact Sub.nil
  rcases bri hz with hz | hz
  · obtain ⟨q11, e12, hz⟩ := bd hz
    have ie12 : Sub L_X8_refuse L_X8_fullest := by
      unfold L_X8_refuse
      exact (Sub.cons (lo2 := 0) (hi2 := 1) (c2 := 13) (show _ ∈ L_X8_fullest from by simp [L_X8_fullest]) (by omega) (by omega) (Or.inr rfl) Sub.nil)
    cases hz
    exact ((Sm.rf.call (fr_X8_isPorter x1 _ (z := q1)  e2) ie2 (show ∀ r ∈ R_X8_isPorter, r ∈ R_X8_fullest from by decide)).call (fr_X8_refuse 1 _ (z := q11)  e12) ie12 (show ∀ r ∈ R_X8_refuse, r ∈ R_X8_fullest from by decide))
  · obtain ⟨q3, e4, hz⟩ := bd hz
    have ie4 : Sub L_X8_isCount L_X8_fullest := by
      unfold L_X8_isCount
      exact Sub.nil
    rcases bri hz with hz | hz
    · exact (((Sm.rf.call (fr_X8_isPorter x1 _ (z := q1) e2) ie2 (show ∀ r ∈ R_X8_isPorter, r ∈ R_X8_fullest from by decide)).call (fr_X8_isCount x2 _ (z := q3) e4) ie4 (show ∀ r ∈ R_X8_isCount, r ∈ R_X8_fullest from by decide))).tr (fr_X8_fullest_30 _ hz)
    · obtain ⟨q7, e8, hz⟩ := bd hz
      have ie8 : Sub L_X8_isFullest L_X8_fullest := by
        unfold L_X8_isFullest
        exact Sub.nil
      rcases bri hz with hz | hz
      · exact ((((Sm.rf.call (fr_X8_isPorter x1 _ (z := q1) e2) ie2 (show ∀ r ∈ R_X8_isPorter, r ∈ R_X8_fullest from by decide)).call (fr_X8_isCount x2 _ (z := q3) e4) ie4 (show ∀ r ∈ R_X8_isCount, r ∈ R_X8_fullest from by decide)).call (fr_X8_isFullest x3 _ (z := q7) e8) ie8 (show ∀ r ∈ R_X8_isFullest, r ∈ R_X8_fullest from by decide))).tr (fr_X8_fullest_30 _ hz)
      · obtain ⟨q9, e10, hz⟩ := bd hz
        have ie10 : Sub L_X8_chance L_X8_fullest := by
          unfold L_X8_chance
          exact (Sub.cons (lo2 := 0) (hi2 := 1) (c2 := 13) (show _ ∈ L_X8_fullest from by simp [L_X8_fullest]) (by omega) (by omega) (Or.inr rfl) (Sub.cons (lo2 := 110) (hi2 := 111) (c2 := 0) (show _ ∈ L_X8_fullest from by simp [L_X8_fullest]) (by omega) (by omega) (Or.inl rfl) (Sub.cons (lo2 := 111) (hi2 := 112) (c2 := 0) (show _ ∈ L_X8_fullest from by simp [L_X8_fullest]) (by omega) (by omega) (Or.inl rfl) (Sub.cons (lo2 := 113) (hi2 := 114) (c2 := 0) (show _ ∈ L_X8_fullest from by simp [L_X8_fullest]) (by omega) (by omega) (Or.inl rfl) (Sub.cons (lo2 := 114) (hi2 := 115) (c2 := 0) (show _ ∈ L_X8_fullest from by simp [L_X8_fullest]) (by omega) (by omega) (Or.inl rfl) (Sub.cons (lo2 := 115) (hi2 := 116) (c2 := 0) (show _ ∈ L_X8_fullest from by simp [L_X8_fullest]) (by omega) (by omega) (Or.inl rfl) (Sub.cons (lo2 := 69) (hi2 := 70) (c2 := 0) (show _ ∈ L_X8_fullest from by simp [L_X8_fullest]) (by omega) (by omega) (Or.inl rfl) (Sub.cons (lo2 := 71) (hi2 := 72) (c2 := 0) (show _ ∈ L_X8_fullest from by simp [L_X8_fullest]) (by omega) (by omega) (Or.inl rfl) (Sub.cons (lo2 := 72) (hi2 := 73) (c2 := 10) (show _ ∈ L_X8_fullest from by simp [L_X8_fullest]) (by omega) (by omega) (Or.inr rfl) (Sub.cons (lo2 := 72) (hi2 := 73) (c2 := 11) (show _ ∈ L_X8_fullest from by simp [L_X8_fullest]) (by omega) (by omega) (Or.inr rfl) (Sub.cons (lo2 := 74) (hi2 := 110) (c2 := 0) (show _ ∈ L_X8_fullest from by simp [L_X8_fullest]) (by omega) (by omega) (Or.inl rfl) Sub.nil)))))))))))
        cases hz
        exact ((((Sm.rf.call (fr_X8_isPorter x1 _ (z := q1)  e2) ie2 (show ∀ r ∈ R_X8_isPorter, r ∈ R_X8_fullest from by decide)).call (fr_X8_isCount x2 _ (z := q3)  e4) ie4 (show ∀ r ∈ R_X8_isCount, r ∈ R_X8_fullest from by decide)).call (fr_X8_isFullest x3 _ (z := q7)  e8) ie8 (show ∀ r ∈ R_X8_isFullest, r ∈ R_X8_fullest from by decide)).call (fr_X8_chance x1 x2 4 x3 0 x4 _ (z := q9)  e10) ie10 (show ∀ r ∈ R_X8_chance, r ∈ R_X8_fullest from by decide))
def L_X8_empty : List (Nat × Nat × Nat) := [(0, 1, 13), (110, 111, 0), (111, 112, 0), (113, 114, 0), (114, 115, 0), (115, 116, 0), (69, 70, 0), (71, 72, 0), (72, 73, 10), (72, 73, 11), (74, 110, 0)]
def R_X8_empty : List Nat := [4, 5]
theorem fr_X8_empty_32 {z : Int64 × GW} : (∀ (w : GW), f_X8_empty_32 w = some z → Sm L_X8_empty R_X8_empty w z.2) := by
  intro w hz
  rw [f_X8_empty_32] at hz
  obtain ⟨q5, e6, hz⟩ := bd hz
  have ie6 : Sub L_X8_refuse L_X8_empty := by
    unfold L_X8_refuse
    exact (Sub.cons (lo2 := 0) (hi2 := 1) (c2 := 13) (show _ ∈ L_X8_empty from by simp [L_X8_empty]) (by omega) (by omega) (Or.inr rfl) Sub.nil)
  cases hz
  exact (Sm.rf.call (fr_X8_refuse 2 _ (z := q5)  e6) ie6 (show ∀ r ∈ R_X8_refuse, r ∈ R_X8_empty from by decide))
theorem fr_X8_empty (x1 : Int32) (x2 : Int32) (x3 : Int32) (x4 : Int32) (w : GW) {z : Int64 × GW} : f_X8_empty x1 x2 x3 x4 w = some z → Sm L_X8_empty R_X8_empty w z.2 := by
  intro  hz
  rw [f_X8_empty] at hz
  obtain ⟨q1, e2, hz⟩ := bd hz
  have ie2 : Sub L_X8_isPorter L_X8_empty := by
    unfold L_X8_isPorter
    exact Sub.nil
  rcases bri hz with hz | hz
  · obtain ⟨q9, e10, hz⟩ := bd hz
    have ie10 : Sub L_X8_refuse L_X8_empty := by
      unfold L_X8_refuse
      exact (Sub.cons (lo2 := 0) (hi2 := 1) (c2 := 13) (show _ ∈ L_X8_empty from by simp [L_X8_empty]) (by omega) (by omega) (Or.inr rfl) Sub.nil)
    cases hz
    exact ((Sm.rf.call (fr_X8_isPorter x1 _ (z := q1)  e2) ie2 (show ∀ r ∈ R_X8_isPorter, r ∈ R_X8_empty from by decide)).call (fr_X8_refuse 1 _ (z := q9)  e10) ie10 (show ∀ r ∈ R_X8_refuse, r ∈ R_X8_empty from by decide))
  · obtain ⟨q3, e4, hz⟩ := bd hz
    have ie4 : Sub L_X8_isCount L_X8_empty := by
      unfold L_X8_isCount
      exact Sub.nil
    rcases bri hz with hz | hz
    · exact (((Sm.rf.call (fr_X8_isPorter x1 _ (z := q1) e2) ie2 (show ∀ r ∈ R_X8_isPorter, r ∈ R_X8_empty from by decide)).call (fr_X8_isCount x2 _ (z := q3) e4) ie4 (show ∀ r ∈ R_X8_isCount, r ∈ R_X8_empty from by decide))).tr (fr_X8_empty_32 _ hz)
    · rcases bri hz with hz | hz
      · exact (((Sm.rf.call (fr_X8_isPorter x1 _ (z := q1) e2) ie2 (show ∀ r ∈ R_X8_isPorter, r ∈ R_X8_empty from by decide)).call (fr_X8_isCount x2 _ (z := q3) e4) ie4 (show ∀ r ∈ R_X8_isCount, r ∈ R_X8_empty from by decide))).tr (fr_X8_empty_32 _ hz)
      · rcases bri hz with hz | hz
        · obtain ⟨q7, e8, hz⟩ := bd hz
          have ie8 : Sub L_X8_chance L_X8_empty := by
            unfold L_X8_chance
            exact (Sub.cons (lo2 := 0) (hi2 := 1) (c2 := 13) (show _ ∈ L_X8_empty from by simp [L_X8_empty]) (by omega) (by omega) (Or.inr rfl) (Sub.cons (lo2 := 110) (hi2 := 111) (c2 := 0) (show _ ∈ L_X8_empty from by simp [L_X8_empty]) (by omega) (by omega) (Or.inl rfl) (Sub.cons (lo2 := 111) (hi2 := 112) (c2 := 0) (show _ ∈ L_X8_empty from by simp [L_X8_empty]) (by omega) (by omega) (Or.inl rfl) (Sub.cons (lo2 := 113) (hi2 := 114) (c2 := 0) (show _ ∈ L_X8_empty from by simp [L_X8_empty]) (by omega) (by omega) (Or.inl rfl) (Sub.cons (lo2 := 114) (hi2 := 115) (c2 := 0) (show _ ∈ L_X8_empty from by simp [L_X8_empty]) (by omega) (by omega) (Or.inl rfl) (Sub.cons (lo2 := 115) (hi2 := 116) (c2 := 0) (show _ ∈ L_X8_empty from by simp [L_X8_empty]) (by omega) (by omega) (Or.inl rfl) (Sub.cons (lo2 := 69) (hi2 := 70) (c2 := 0) (show _ ∈ L_X8_empty from by simp [L_X8_empty]) (by omega) (by omega) (Or.inl rfl) (Sub.cons (lo2 := 71) (hi2 := 72) (c2 := 0) (show _ ∈ L_X8_empty from by simp [L_X8_empty]) (by omega) (by omega) (Or.inl rfl) (Sub.cons (lo2 := 72) (hi2 := 73) (c2 := 10) (show _ ∈ L_X8_empty from by simp [L_X8_empty]) (by omega) (by omega) (Or.inr rfl) (Sub.cons (lo2 := 72) (hi2 := 73) (c2 := 11) (show _ ∈ L_X8_empty from by simp [L_X8_empty]) (by omega) (by omega) (Or.inr rfl) (Sub.cons (lo2 := 74) (hi2 := 110) (c2 := 0) (show _ ∈ L_X8_empty from by simp [L_X8_empty]) (by omega) (by omega) (Or.inl rfl) Sub.nil)))))))))))
          cases hz
          exact (((Sm.rf.call (fr_X8_isPorter x1 _ (z := q1)  e2) ie2 (show ∀ r ∈ R_X8_isPorter, r ∈ R_X8_empty from by decide)).call (fr_X8_isCount x2 _ (z := q3)  e4) ie4 (show ∀ r ∈ R_X8_isCount, r ∈ R_X8_empty from by decide)).call (fr_X8_chance x1 x2 5 x3 0 x4 _ (z := q7)  e8) ie8 (show ∀ r ∈ R_X8_chance, r ∈ R_X8_empty from by decide))
        · exact (((Sm.rf.call (fr_X8_isPorter x1 _ (z := q1) e2) ie2 (show ∀ r ∈ R_X8_isPorter, r ∈ R_X8_empty from by decide)).call (fr_X8_isCount x2 _ (z := q3) e4) ie4 (show ∀ r ∈ R_X8_isCount, r ∈ R_X8_empty from by decide))).tr (fr_X8_empty_32 _ hz)
def L_X8_isBox : List (Nat × Nat × Nat) := []
def R_X8_isBox : List Nat := []
theorem fr_X8_isBox (x1 : Int32) (w : GW) {z : Int32 × GW} : f_X8_isBox x1 w = some z → Sm L_X8_isBox R_X8_isBox w z.2 := by
  intro  hz
  rw [f_X8_isBox] at hz
  rcases bri hz with hz | hz
  · cases hz
    exact Sm.rf
  · rcases bri hz with hz | hz
    · cases hz
      exact Sm.rf
    · cases hz
      exact Sm.rf
def L_X8_holds : List (Nat × Nat × Nat) := [(0, 1, 13), (110, 111, 0), (111, 112, 0), (113, 114, 0), (114, 115, 0), (115, 116, 0), (69, 70, 0), (71, 72, 0), (72, 73, 10), (72, 73, 11), (74, 110, 0)]
def R_X8_holds : List Nat := [4, 5]
theorem fr_X8_holds_16 {z : Int64 × GW} : (∀ (w : GW), f_X8_holds_16 w = some z → Sm L_X8_holds R_X8_holds w z.2) := by
  intro w hz
  rw [f_X8_holds_16] at hz
  obtain ⟨q3, e4, hz⟩ := bd hz
  have ie4 : Sub L_X8_refuse L_X8_holds := by
    unfold L_X8_refuse
    exact (Sub.cons (lo2 := 0) (hi2 := 1) (c2 := 13) (show _ ∈ L_X8_holds from by simp [L_X8_holds]) (by omega) (by omega) (Or.inr rfl) Sub.nil)
  cases hz
  exact (Sm.rf.call (fr_X8_refuse 1 _ (z := q3)  e4) ie4 (show ∀ r ∈ R_X8_refuse, r ∈ R_X8_holds from by decide))
theorem fr_X8_holds_43 {z : Int64 × GW} : (∀ (w : GW), f_X8_holds_43 w = some z → Sm L_X8_holds R_X8_holds w z.2) := by
  intro w hz
  rw [f_X8_holds_43] at hz
  obtain ⟨q9, e10, hz⟩ := bd hz
  have ie10 : Sub L_X8_refuse L_X8_holds := by
    unfold L_X8_refuse
    exact (Sub.cons (lo2 := 0) (hi2 := 1) (c2 := 13) (show _ ∈ L_X8_holds from by simp [L_X8_holds]) (by omega) (by omega) (Or.inr rfl) Sub.nil)
  cases hz
  exact (Sm.rf.call (fr_X8_refuse 2 _ (z := q9)  e10) ie10 (show ∀ r ∈ R_X8_refuse, r ∈ R_X8_holds from by decide))
theorem fr_X8_holds (x1 : Int32) (x2 : Int32) (x3 : Int32) (x4 : Int32) (x5 : Int32) (w : GW) {z : Int64 × GW} : f_X8_holds x1 x2 x3 x4 x5 w = some z → Sm L_X8_holds R_X8_holds w z.2 := by
  intro  hz
  rw [f_X8_holds] at hz
  obtain ⟨q1, e2, hz⟩ := bd hz
  have ie2 : Sub L_X8_isPorter L_X8_holds := by
    unfold L_X8_isPorter
    exact Sub.nil
  rcases bri hz with hz | hz
  · exact ((Sm.rf.call (fr_X8_isPorter x1 _ (z := q1) e2) ie2 (show ∀ r ∈ R_X8_isPorter, r ∈ R_X8_holds from by decide))).tr (fr_X8_holds_16 _ hz)
  · obtain ⟨q5, e6, hz⟩ := bd hz
    have ie6 : Sub L_X8_isBox L_X8_holds := by
      unfold L_X8_isBox
      exact Sub.nil
    rcases bri hz with hz | hz
    · exact (((Sm.rf.call (fr_X8_isPorter x1 _ (z := q1) e2) ie2 (show ∀ r ∈ R_X8_isPorter, r ∈ R_X8_holds from by decide)).call (fr_X8_isBox x3 _ (z := q5) e6) ie6 (show ∀ r ∈ R_X8_isBox, r ∈ R_X8_holds from by decide))).tr (fr_X8_holds_16 _ hz)
    · obtain ⟨q7, e8, hz⟩ := bd hz
      have ie8 : Sub L_X8_isCount L_X8_holds := by
        unfold L_X8_isCount
        exact Sub.nil
      rcases bri hz with hz | hz
      · exact ((((Sm.rf.call (fr_X8_isPorter x1 _ (z := q1) e2) ie2 (show ∀ r ∈ R_X8_isPorter, r ∈ R_X8_holds from by decide)).call (fr_X8_isBox x3 _ (z := q5) e6) ie6 (show ∀ r ∈ R_X8_isBox, r ∈ R_X8_holds from by decide)).call (fr_X8_isCount x2 _ (z := q7) e8) ie8 (show ∀ r ∈ R_X8_isCount, r ∈ R_X8_holds from by decide))).tr (fr_X8_holds_43 _ hz)
      · rcases bri hz with hz | hz
        · exact ((((Sm.rf.call (fr_X8_isPorter x1 _ (z := q1) e2) ie2 (show ∀ r ∈ R_X8_isPorter, r ∈ R_X8_holds from by decide)).call (fr_X8_isBox x3 _ (z := q5) e6) ie6 (show ∀ r ∈ R_X8_isBox, r ∈ R_X8_holds from by decide)).call (fr_X8_isCount x2 _ (z := q7) e8) ie8 (show ∀ r ∈ R_X8_isCount, r ∈ R_X8_holds from by decide))).tr (fr_X8_holds_43 _ hz)
        · rcases bri hz with hz | hz
          · obtain ⟨q11, e12, hz⟩ := bd hz
            have ie12 : Sub L_X8_chance L_X8_holds := by
              unfold L_X8_chance
              exact (Sub.cons (lo2 := 0) (hi2 := 1) (c2 := 13) (show _ ∈ L_X8_holds from by simp [L_X8_holds]) (by omega) (by omega) (Or.inr rfl) (Sub.cons (lo2 := 110) (hi2 := 111) (c2 := 0) (show _ ∈ L_X8_holds from by simp [L_X8_holds]) (by omega) (by omega) (Or.inl rfl) (Sub.cons (lo2 := 111) (hi2 := 112) (c2 := 0) (show _ ∈ L_X8_holds from by simp [L_X8_holds]) (by omega) (by omega) (Or.inl rfl) (Sub.cons (lo2 := 113) (hi2 := 114) (c2 := 0) (show _ ∈ L_X8_holds from by simp [L_X8_holds]) (by omega) (by omega) (Or.inl rfl) (Sub.cons (lo2 := 114) (hi2 := 115) (c2 := 0) (show _ ∈ L_X8_holds from by simp [L_X8_holds]) (by omega) (by omega) (Or.inl rfl) (Sub.cons (lo2 := 115) (hi2 := 116) (c2 := 0) (show _ ∈ L_X8_holds from by simp [L_X8_holds]) (by omega) (by omega) (Or.inl rfl) (Sub.cons (lo2 := 69) (hi2 := 70) (c2 := 0) (show _ ∈ L_X8_holds from by simp [L_X8_holds]) (by omega) (by omega) (Or.inl rfl) (Sub.cons (lo2 := 71) (hi2 := 72) (c2 := 0) (show _ ∈ L_X8_holds from by simp [L_X8_holds]) (by omega) (by omega) (Or.inl rfl) (Sub.cons (lo2 := 72) (hi2 := 73) (c2 := 10) (show _ ∈ L_X8_holds from by simp [L_X8_holds]) (by omega) (by omega) (Or.inr rfl) (Sub.cons (lo2 := 72) (hi2 := 73) (c2 := 11) (show _ ∈ L_X8_holds from by simp [L_X8_holds]) (by omega) (by omega) (Or.inr rfl) (Sub.cons (lo2 := 74) (hi2 := 110) (c2 := 0) (show _ ∈ L_X8_holds from by simp [L_X8_holds]) (by omega) (by omega) (Or.inl rfl) Sub.nil)))))))))))
            cases hz
            exact ((((Sm.rf.call (fr_X8_isPorter x1 _ (z := q1)  e2) ie2 (show ∀ r ∈ R_X8_isPorter, r ∈ R_X8_holds from by decide)).call (fr_X8_isBox x3 _ (z := q5)  e6) ie6 (show ∀ r ∈ R_X8_isBox, r ∈ R_X8_holds from by decide)).call (fr_X8_isCount x2 _ (z := q7)  e8) ie8 (show ∀ r ∈ R_X8_isCount, r ∈ R_X8_holds from by decide)).call (fr_X8_chance x1 x2 6 x3 x4 x5 _ (z := q11)  e12) ie12 (show ∀ r ∈ R_X8_chance, r ∈ R_X8_holds from by decide))
          · exact ((((Sm.rf.call (fr_X8_isPorter x1 _ (z := q1) e2) ie2 (show ∀ r ∈ R_X8_isPorter, r ∈ R_X8_holds from by decide)).call (fr_X8_isBox x3 _ (z := q5) e6) ie6 (show ∀ r ∈ R_X8_isBox, r ∈ R_X8_holds from by decide)).call (fr_X8_isCount x2 _ (z := q7) e8) ie8 (show ∀ r ∈ R_X8_isCount, r ∈ R_X8_holds from by decide))).tr (fr_X8_holds_43 _ hz)
def L_X8_mean : List (Nat × Nat × Nat) := [(0, 1, 13), (110, 111, 0), (111, 112, 0), (113, 114, 0), (114, 115, 0), (115, 116, 0), (69, 70, 0), (71, 72, 0), (72, 73, 10), (72, 73, 11), (74, 110, 0)]
def R_X8_mean : List Nat := [4, 5]
theorem fr_X8_mean_17 {z : Int64 × GW} : (∀ (w : GW), f_X8_mean_17 w = some z → Sm L_X8_mean R_X8_mean w z.2) := by
  intro w hz
  rw [f_X8_mean_17] at hz
  obtain ⟨q3, e4, hz⟩ := bd hz
  have ie4 : Sub L_X8_refuse L_X8_mean := by
    unfold L_X8_refuse
    exact (Sub.cons (lo2 := 0) (hi2 := 1) (c2 := 13) (show _ ∈ L_X8_mean from by simp [L_X8_mean]) (by omega) (by omega) (Or.inr rfl) Sub.nil)
  cases hz
  exact (Sm.rf.call (fr_X8_refuse 1 _ (z := q3)  e4) ie4 (show ∀ r ∈ R_X8_refuse, r ∈ R_X8_mean from by decide))
theorem fr_X8_mean (x1 : Int32) (x2 : Int32) (x3 : Int32) (x4 : Int32) (w : GW) {z : Int64 × GW} : f_X8_mean x1 x2 x3 x4 w = some z → Sm L_X8_mean R_X8_mean w z.2 := by
  intro  hz
  rw [f_X8_mean] at hz
  obtain ⟨q1, e2, hz⟩ := bd hz
  have ie2 : Sub L_X8_isPorter L_X8_mean := by
    unfold L_X8_isPorter
    exact Sub.nil
  rcases bri hz with hz | hz
  · exact ((Sm.rf.call (fr_X8_isPorter x1 _ (z := q1) e2) ie2 (show ∀ r ∈ R_X8_isPorter, r ∈ R_X8_mean from by decide))).tr (fr_X8_mean_17 _ hz)
  · rcases bri hz with hz | hz
    · exact ((Sm.rf.call (fr_X8_isPorter x1 _ (z := q1) e2) ie2 (show ∀ r ∈ R_X8_isPorter, r ∈ R_X8_mean from by decide))).tr (fr_X8_mean_17 _ hz)
    · rcases bri hz with hz | hz
      · obtain ⟨q5, e6, hz⟩ := bd hz
        have ie6 : Sub L_X8_isCount L_X8_mean := by
          unfold L_X8_isCount
          exact Sub.nil
        rcases bri hz with hz | hz
        · obtain ⟨q9, e10, hz⟩ := bd hz
          have ie10 : Sub L_X8_refuse L_X8_mean := by
            unfold L_X8_refuse
            exact (Sub.cons (lo2 := 0) (hi2 := 1) (c2 := 13) (show _ ∈ L_X8_mean from by simp [L_X8_mean]) (by omega) (by omega) (Or.inr rfl) Sub.nil)
          cases hz
          exact (((Sm.rf.call (fr_X8_isPorter x1 _ (z := q1)  e2) ie2 (show ∀ r ∈ R_X8_isPorter, r ∈ R_X8_mean from by decide)).call (fr_X8_isCount x2 _ (z := q5)  e6) ie6 (show ∀ r ∈ R_X8_isCount, r ∈ R_X8_mean from by decide)).call (fr_X8_refuse 2 _ (z := q9)  e10) ie10 (show ∀ r ∈ R_X8_refuse, r ∈ R_X8_mean from by decide))
        · obtain ⟨q7, e8, hz⟩ := bd hz
          have ie8 : Sub L_X8_chance L_X8_mean := by
            unfold L_X8_chance
            exact (Sub.cons (lo2 := 0) (hi2 := 1) (c2 := 13) (show _ ∈ L_X8_mean from by simp [L_X8_mean]) (by omega) (by omega) (Or.inr rfl) (Sub.cons (lo2 := 110) (hi2 := 111) (c2 := 0) (show _ ∈ L_X8_mean from by simp [L_X8_mean]) (by omega) (by omega) (Or.inl rfl) (Sub.cons (lo2 := 111) (hi2 := 112) (c2 := 0) (show _ ∈ L_X8_mean from by simp [L_X8_mean]) (by omega) (by omega) (Or.inl rfl) (Sub.cons (lo2 := 113) (hi2 := 114) (c2 := 0) (show _ ∈ L_X8_mean from by simp [L_X8_mean]) (by omega) (by omega) (Or.inl rfl) (Sub.cons (lo2 := 114) (hi2 := 115) (c2 := 0) (show _ ∈ L_X8_mean from by simp [L_X8_mean]) (by omega) (by omega) (Or.inl rfl) (Sub.cons (lo2 := 115) (hi2 := 116) (c2 := 0) (show _ ∈ L_X8_mean from by simp [L_X8_mean]) (by omega) (by omega) (Or.inl rfl) (Sub.cons (lo2 := 69) (hi2 := 70) (c2 := 0) (show _ ∈ L_X8_mean from by simp [L_X8_mean]) (by omega) (by omega) (Or.inl rfl) (Sub.cons (lo2 := 71) (hi2 := 72) (c2 := 0) (show _ ∈ L_X8_mean from by simp [L_X8_mean]) (by omega) (by omega) (Or.inl rfl) (Sub.cons (lo2 := 72) (hi2 := 73) (c2 := 10) (show _ ∈ L_X8_mean from by simp [L_X8_mean]) (by omega) (by omega) (Or.inr rfl) (Sub.cons (lo2 := 72) (hi2 := 73) (c2 := 11) (show _ ∈ L_X8_mean from by simp [L_X8_mean]) (by omega) (by omega) (Or.inr rfl) (Sub.cons (lo2 := 74) (hi2 := 110) (c2 := 0) (show _ ∈ L_X8_mean from by simp [L_X8_mean]) (by omega) (by omega) (Or.inl rfl) Sub.nil)))))))))))
          cases hz
          exact (((Sm.rf.call (fr_X8_isPorter x1 _ (z := q1)  e2) ie2 (show ∀ r ∈ R_X8_isPorter, r ∈ R_X8_mean from by decide)).call (fr_X8_isCount x2 _ (z := q5)  e6) ie6 (show ∀ r ∈ R_X8_isCount, r ∈ R_X8_mean from by decide)).call (fr_X8_chance x1 x2 x3 x2 0 x4 _ (z := q7)  e8) ie8 (show ∀ r ∈ R_X8_chance, r ∈ R_X8_mean from by decide))
      · exact ((Sm.rf.call (fr_X8_isPorter x1 _ (z := q1) e2) ie2 (show ∀ r ∈ R_X8_isPorter, r ∈ R_X8_mean from by decide))).tr (fr_X8_mean_17 _ hz)
def L_X8_isRefused : List (Nat × Nat × Nat) := [(0, 1, 13)]
def R_X8_isRefused : List Nat := []
theorem fr_X8_isRefused_39 {z : Int32 × GW} : (∀ (t0 : Int32) (w : GW), f_X8_isRefused_39 t0 w = some z → Sm L_X8_isRefused R_X8_isRefused w z.2) := by
  intro t0 w hz
  rw [f_X8_isRefused_39] at hz
  rcases bri hz with hz | hz
  · cases hz
    exact (Sm.rf.wI (lo := 0) (hi := 1) (c9 := 13) (show _ ∈ L_X8_isRefused from by simp [L_X8_isRefused]) (by decide) (by decide) (Or.inr rfl))
  · cases hz
    exact (Sm.rf.wI (lo := 0) (hi := 1) (c9 := 13) (show _ ∈ L_X8_isRefused from by simp [L_X8_isRefused]) (by decide) (by decide) (Or.inr rfl))
theorem fr_X8_isRefused (x1 : Int32) (x2 : Int32) (w : GW) {z : Int32 × GW} : f_X8_isRefused x1 x2 w = some z → Sm L_X8_isRefused R_X8_isRefused w z.2 := by
  intro  hz
  rw [f_X8_isRefused] at hz
  obtain ⟨q1, e2, hz⟩ := bd hz
  have ie2 : Sub L_X8_isPorter L_X8_isRefused := by
    unfold L_X8_isPorter
    exact Sub.nil
  rcases bri hz with hz | hz
  · exact ((Sm.rf.call (fr_X8_isPorter x1 _ (z := q1) e2) ie2 (show ∀ r ∈ R_X8_isPorter, r ∈ R_X8_isRefused from by decide))).tr (fr_X8_isRefused_39 1 _ hz)
  · obtain ⟨q3, e4, hz⟩ := bd hz
    have ie4 : Sub L_X8_isCount L_X8_isRefused := by
      unfold L_X8_isCount
      exact Sub.nil
    rcases bri hz with hz | hz
    · exact (((Sm.rf.call (fr_X8_isPorter x1 _ (z := q1) e2) ie2 (show ∀ r ∈ R_X8_isPorter, r ∈ R_X8_isRefused from by decide)).call (fr_X8_isCount x2 _ (z := q3) e4) ie4 (show ∀ r ∈ R_X8_isCount, r ∈ R_X8_isRefused from by decide))).tr (fr_X8_isRefused_39 2 _ hz)
    · obtain ⟨q5, e6, hz⟩ := bd hz
      have ie6 : Sub L_X8_isTooMany L_X8_isRefused := by
        unfold L_X8_isTooMany
        exact Sub.nil
      rcases bri hz with hz | hz
      · exact ((((Sm.rf.call (fr_X8_isPorter x1 _ (z := q1) e2) ie2 (show ∀ r ∈ R_X8_isPorter, r ∈ R_X8_isRefused from by decide)).call (fr_X8_isCount x2 _ (z := q3) e4) ie4 (show ∀ r ∈ R_X8_isCount, r ∈ R_X8_isRefused from by decide)).call (fr_X8_isTooMany x1 x2 _ (z := q5) e6) ie6 (show ∀ r ∈ R_X8_isTooMany, r ∈ R_X8_isRefused from by decide))).tr (fr_X8_isRefused_39 0 _ hz)
      · exact ((((Sm.rf.call (fr_X8_isPorter x1 _ (z := q1) e2) ie2 (show ∀ r ∈ R_X8_isPorter, r ∈ R_X8_isRefused from by decide)).call (fr_X8_isCount x2 _ (z := q3) e4) ie4 (show ∀ r ∈ R_X8_isCount, r ∈ R_X8_isRefused from by decide)).call (fr_X8_isTooMany x1 x2 _ (z := q5) e6) ie6 (show ∀ r ∈ R_X8_isTooMany, r ∈ R_X8_isRefused from by decide))).tr (fr_X8_isRefused_39 3 _ hz)
def L_X8_ofPorter : List (Nat × Nat × Nat) := [(110, 111, 0), (111, 112, 0), (113, 114, 0), (114, 115, 0), (115, 116, 0), (69, 70, 0), (71, 72, 0), (74, 110, 0)]
def R_X8_ofPorter : List Nat := [4, 5]
theorem fr_X8_ofPorter (x1 : Int32) (w : GW) {z : Nat × GW} : f_X8_ofPorter x1 w = some z → Sm L_X8_ofPorter R_X8_ofPorter w z.2 := by
  intro  hz
  rw [f_X8_ofPorter] at hz
  obtain ⟨h1, hz⟩ := ck hz
  have gh1 : ix x1 < 6 := h1.2
  obtain ⟨q2, e3, hz⟩ := bd hz
  have ie3 : Sub (L_X0_rowOf (((fxH (gR w 0)) + 4) + 1 + ix x1)) L_X8_ofPorter := by
    unfold L_X0_rowOf
    exact (Sub.cons (lo2 := 110) (hi2 := 111) (c2 := 0) (show _ ∈ L_X8_ofPorter from by simp [L_X8_ofPorter]) (by omega) (by omega) (Or.inl rfl) (Sub.cons (lo2 := 111) (hi2 := 112) (c2 := 0) (show _ ∈ L_X8_ofPorter from by simp [L_X8_ofPorter]) (by omega) (by omega) (Or.inl rfl) (Sub.cons (lo2 := 113) (hi2 := 114) (c2 := 0) (show _ ∈ L_X8_ofPorter from by simp [L_X8_ofPorter]) (by omega) (by omega) (Or.inl rfl) (Sub.cons (lo2 := 114) (hi2 := 115) (c2 := 0) (show _ ∈ L_X8_ofPorter from by simp [L_X8_ofPorter]) (by omega) (by omega) (Or.inl rfl) (Sub.cons (lo2 := 115) (hi2 := 116) (c2 := 0) (show _ ∈ L_X8_ofPorter from by simp [L_X8_ofPorter]) (by omega) (by omega) (Or.inl rfl) (Sub.cons (lo2 := 69) (hi2 := 70) (c2 := 0) (show _ ∈ L_X8_ofPorter from by simp [L_X8_ofPorter]) (by omega) (by omega) (Or.inl rfl) (Sub.cons (lo2 := 71) (hi2 := 72) (c2 := 0) (show _ ∈ L_X8_ofPorter from by simp [L_X8_ofPorter]) (by omega) (by omega) (Or.inl rfl) (Sub.cons (lo2 := 74) (hi2 := 110) (c2 := 0) (show _ ∈ L_X8_ofPorter from by simp [L_X8_ofPorter]) (by omega) (by omega) (Or.inl rfl) Sub.nil))))))))
  cases hz
  exact (Sm.rf.call (fr_X0_rowOf x1 (((fxH (gR w 0)) + 4) + 1 + ix x1) 0 _ (z := q2)  e3) ie3 (show ∀ r ∈ R_X0_rowOf, r ∈ R_X8_ofPorter from by decide))
def L_X8_fine : List (Nat × Nat × Nat) := [(0, 1, 13)]
def R_X8_fine : List Nat := []
theorem fr_X8_fine (x1 : Int32) (w : GW) {z : Int32 × GW} : f_X8_fine x1 w = some z → Sm L_X8_fine R_X8_fine w z.2 := by
  intro  hz
  rw [f_X8_fine] at hz
  cases hz
  exact (Sm.rf.wI (lo := 0) (hi := 1) (c9 := 13) (show _ ∈ L_X8_fine from by simp [L_X8_fine]) (by decide) (by decide) (Or.inr rfl))
def L_X8_states : List (Nat × Nat × Nat) := [(0, 1, 13), (110, 111, 0), (111, 112, 0), (113, 114, 0), (114, 115, 0), (115, 116, 0), (69, 70, 0), (71, 72, 0), (74, 110, 0)]
def R_X8_states : List Nat := [4, 5]
theorem fr_X8_states (x1 : Int32) (x2 : Int32) (w : GW) {z : Int32 × GW} : f_X8_states x1 x2 w = some z → Sm L_X8_states R_X8_states w z.2 := by
  intro  hz
  rw [f_X8_states] at hz
  obtain ⟨q1, e2, hz⟩ := bd hz
  have ie2 : Sub L_X8_isRefused L_X8_states := by
    unfold L_X8_isRefused
    exact (Sub.cons (lo2 := 0) (hi2 := 1) (c2 := 13) (show _ ∈ L_X8_states from by simp [L_X8_states]) (by omega) (by omega) (Or.inr rfl) Sub.nil)
  rcases bri hz with hz | hz
  · obtain ⟨q3, e4, hz⟩ := bd hz
    have ie4 : Sub L_X8_ofPorter L_X8_states := by
      unfold L_X8_ofPorter
      exact (Sub.cons (lo2 := 110) (hi2 := 111) (c2 := 0) (show _ ∈ L_X8_states from by simp [L_X8_states]) (by omega) (by omega) (Or.inl rfl) (Sub.cons (lo2 := 111) (hi2 := 112) (c2 := 0) (show _ ∈ L_X8_states from by simp [L_X8_states]) (by omega) (by omega) (Or.inl rfl) (Sub.cons (lo2 := 113) (hi2 := 114) (c2 := 0) (show _ ∈ L_X8_states from by simp [L_X8_states]) (by omega) (by omega) (Or.inl rfl) (Sub.cons (lo2 := 114) (hi2 := 115) (c2 := 0) (show _ ∈ L_X8_states from by simp [L_X8_states]) (by omega) (by omega) (Or.inl rfl) (Sub.cons (lo2 := 115) (hi2 := 116) (c2 := 0) (show _ ∈ L_X8_states from by simp [L_X8_states]) (by omega) (by omega) (Or.inl rfl) (Sub.cons (lo2 := 69) (hi2 := 70) (c2 := 0) (show _ ∈ L_X8_states from by simp [L_X8_states]) (by omega) (by omega) (Or.inl rfl) (Sub.cons (lo2 := 71) (hi2 := 72) (c2 := 0) (show _ ∈ L_X8_states from by simp [L_X8_states]) (by omega) (by omega) (Or.inl rfl) (Sub.cons (lo2 := 74) (hi2 := 110) (c2 := 0) (show _ ∈ L_X8_states from by simp [L_X8_states]) (by omega) (by omega) (Or.inl rfl) Sub.nil))))))))
    obtain ⟨q5, e6, hz⟩ := bd hz
    have ie6 : Sub (L_X0_waysToLie q3.1) L_X8_states := by
      unfold L_X0_waysToLie
      exact Sub.nil
    obtain ⟨q7, e8, hz⟩ := bd hz
    have ie8 : Sub L_X8_fine L_X8_states := by
      unfold L_X8_fine
      exact (Sub.cons (lo2 := 0) (hi2 := 1) (c2 := 13) (show _ ∈ L_X8_states from by simp [L_X8_states]) (by omega) (by omega) (Or.inr rfl) Sub.nil)
    cases hz
    exact ((((Sm.rf.call (fr_X8_isRefused x1 x2 _ (z := q1)  e2) ie2 (show ∀ r ∈ R_X8_isRefused, r ∈ R_X8_states from by decide)).call (fr_X8_ofPorter x1 _ (z := q3)  e4) ie4 (show ∀ r ∈ R_X8_ofPorter, r ∈ R_X8_states from by decide)).call (fr_X0_waysToLie q3.1 x2 _ (z := q5)  e6) ie6 (show ∀ r ∈ R_X0_waysToLie, r ∈ R_X8_states from by decide)).call (fr_X8_fine q5.1 _ (z := q7)  e8) ie8 (show ∀ r ∈ R_X8_fine, r ∈ R_X8_states from by decide))
  · cases hz
    exact (Sm.rf.call (fr_X8_isRefused x1 x2 _ (z := q1)  e2) ie2 (show ∀ r ∈ R_X8_isRefused, r ∈ R_X8_states from by decide))
def L_X8_worst : List (Nat × Nat × Nat) := [(0, 1, 13), (110, 111, 0), (111, 112, 0), (113, 114, 0), (114, 115, 0), (115, 116, 0), (69, 70, 0), (71, 72, 0), (74, 110, 0)]
def R_X8_worst : List Nat := [4, 5]
theorem fr_X8_worst (x1 : Int32) (x2 : Int32) (x3 : Int32) (w : GW) {z : Int32 × GW} : f_X8_worst x1 x2 x3 w = some z → Sm L_X8_worst R_X8_worst w z.2 := by
  intro  hz
  rw [f_X8_worst] at hz
  obtain ⟨q1, e2, hz⟩ := bd hz
  have ie2 : Sub L_X8_isRefused L_X8_worst := by
    unfold L_X8_isRefused
    exact (Sub.cons (lo2 := 0) (hi2 := 1) (c2 := 13) (show _ ∈ L_X8_worst from by simp [L_X8_worst]) (by omega) (by omega) (Or.inr rfl) Sub.nil)
  rcases bri hz with hz | hz
  · obtain ⟨q3, e4, hz⟩ := bd hz
    have ie4 : Sub L_X8_ofPorter L_X8_worst := by
      unfold L_X8_ofPorter
      exact (Sub.cons (lo2 := 110) (hi2 := 111) (c2 := 0) (show _ ∈ L_X8_worst from by simp [L_X8_worst]) (by omega) (by omega) (Or.inl rfl) (Sub.cons (lo2 := 111) (hi2 := 112) (c2 := 0) (show _ ∈ L_X8_worst from by simp [L_X8_worst]) (by omega) (by omega) (Or.inl rfl) (Sub.cons (lo2 := 113) (hi2 := 114) (c2 := 0) (show _ ∈ L_X8_worst from by simp [L_X8_worst]) (by omega) (by omega) (Or.inl rfl) (Sub.cons (lo2 := 114) (hi2 := 115) (c2 := 0) (show _ ∈ L_X8_worst from by simp [L_X8_worst]) (by omega) (by omega) (Or.inl rfl) (Sub.cons (lo2 := 115) (hi2 := 116) (c2 := 0) (show _ ∈ L_X8_worst from by simp [L_X8_worst]) (by omega) (by omega) (Or.inl rfl) (Sub.cons (lo2 := 69) (hi2 := 70) (c2 := 0) (show _ ∈ L_X8_worst from by simp [L_X8_worst]) (by omega) (by omega) (Or.inl rfl) (Sub.cons (lo2 := 71) (hi2 := 72) (c2 := 0) (show _ ∈ L_X8_worst from by simp [L_X8_worst]) (by omega) (by omega) (Or.inl rfl) (Sub.cons (lo2 := 74) (hi2 := 110) (c2 := 0) (show _ ∈ L_X8_worst from by simp [L_X8_worst]) (by omega) (by omega) (Or.inl rfl) Sub.nil))))))))
    obtain ⟨q5, e6, hz⟩ := bd hz
    have ie6 : Sub (L_X0_furthest q3.1) L_X8_worst := by
      unfold L_X0_furthest
      exact Sub.nil
    obtain ⟨q7, e8, hz⟩ := bd hz
    have ie8 : Sub L_X8_fine L_X8_worst := by
      unfold L_X8_fine
      exact (Sub.cons (lo2 := 0) (hi2 := 1) (c2 := 13) (show _ ∈ L_X8_worst from by simp [L_X8_worst]) (by omega) (by omega) (Or.inr rfl) Sub.nil)
    cases hz
    exact ((((Sm.rf.call (fr_X8_isRefused x1 x2 _ (z := q1)  e2) ie2 (show ∀ r ∈ R_X8_isRefused, r ∈ R_X8_worst from by decide)).call (fr_X8_ofPorter x1 _ (z := q3)  e4) ie4 (show ∀ r ∈ R_X8_ofPorter, r ∈ R_X8_worst from by decide)).call (fr_X0_furthest q3.1 x2 x3 _ (z := q5)  e6) ie6 (show ∀ r ∈ R_X0_furthest, r ∈ R_X8_worst from by decide)).call (fr_X8_fine q5.1 _ (z := q7)  e8) ie8 (show ∀ r ∈ R_X8_fine, r ∈ R_X8_worst from by decide))
  · cases hz
    exact (Sm.rf.call (fr_X8_isRefused x1 x2 _ (z := q1)  e2) ie2 (show ∀ r ∈ R_X8_isRefused, r ∈ R_X8_worst from by decide))
def L_X8_lies : List (Nat × Nat × Nat) := [(0, 1, 13), (110, 111, 0), (111, 112, 0), (113, 114, 0), (114, 115, 0), (115, 116, 0), (69, 70, 0), (71, 72, 0), (72, 73, 10), (72, 73, 11), (74, 110, 0)]
def R_X8_lies : List Nat := [4, 5]
theorem fr_X8_lies_23 {z : Int64 × GW} : (∀ (w : GW), f_X8_lies_23 w = some z → Sm L_X8_lies R_X8_lies w z.2) := by
  intro w hz
  rw [f_X8_lies_23] at hz
  obtain ⟨q3, e4, hz⟩ := bd hz
  have ie4 : Sub L_X8_refuse L_X8_lies := by
    unfold L_X8_refuse
    exact (Sub.cons (lo2 := 0) (hi2 := 1) (c2 := 13) (show _ ∈ L_X8_lies from by simp [L_X8_lies]) (by omega) (by omega) (Or.inr rfl) Sub.nil)
  cases hz
  exact (Sm.rf.call (fr_X8_refuse 1 _ (z := q3)  e4) ie4 (show ∀ r ∈ R_X8_refuse, r ∈ R_X8_lies from by decide))
theorem fr_X8_lies (x1 : Int32) (x2 : Int32) (x3 : Int32) (w : GW) {z : Int64 × GW} : f_X8_lies x1 x2 x3 w = some z → Sm L_X8_lies R_X8_lies w z.2 := by
  intro  hz
  rw [f_X8_lies] at hz
  obtain ⟨q1, e2, hz⟩ := bd hz
  have ie2 : Sub L_X8_isPorter L_X8_lies := by
    unfold L_X8_isPorter
    exact Sub.nil
  rcases bri hz with hz | hz
  · exact ((Sm.rf.call (fr_X8_isPorter x1 _ (z := q1) e2) ie2 (show ∀ r ∈ R_X8_isPorter, r ∈ R_X8_lies from by decide))).tr (fr_X8_lies_23 _ hz)
  · rcases bri hz with hz | hz
    · exact ((Sm.rf.call (fr_X8_isPorter x1 _ (z := q1) e2) ie2 (show ∀ r ∈ R_X8_isPorter, r ∈ R_X8_lies from by decide))).tr (fr_X8_lies_23 _ hz)
    · rcases bri hz with hz | hz
      · obtain ⟨h5, hz⟩ := ck hz
        have gh5 : ix x2 < 8 := h5.2
        obtain ⟨q6, e7, hz⟩ := bd hz
        have ie7 : Sub (L_X8_pack (((fxH (gR q1.2 0)) + 12) + 1 + ix x2)) L_X8_lies := by
          unfold L_X8_pack
          exact Sub.nil
        obtain ⟨q8, e9, hz⟩ := bd hz
        have ie9 : Sub L_X8_chance L_X8_lies := by
          unfold L_X8_chance
          exact (Sub.cons (lo2 := 0) (hi2 := 1) (c2 := 13) (show _ ∈ L_X8_lies from by simp [L_X8_lies]) (by omega) (by omega) (Or.inr rfl) (Sub.cons (lo2 := 110) (hi2 := 111) (c2 := 0) (show _ ∈ L_X8_lies from by simp [L_X8_lies]) (by omega) (by omega) (Or.inl rfl) (Sub.cons (lo2 := 111) (hi2 := 112) (c2 := 0) (show _ ∈ L_X8_lies from by simp [L_X8_lies]) (by omega) (by omega) (Or.inl rfl) (Sub.cons (lo2 := 113) (hi2 := 114) (c2 := 0) (show _ ∈ L_X8_lies from by simp [L_X8_lies]) (by omega) (by omega) (Or.inl rfl) (Sub.cons (lo2 := 114) (hi2 := 115) (c2 := 0) (show _ ∈ L_X8_lies from by simp [L_X8_lies]) (by omega) (by omega) (Or.inl rfl) (Sub.cons (lo2 := 115) (hi2 := 116) (c2 := 0) (show _ ∈ L_X8_lies from by simp [L_X8_lies]) (by omega) (by omega) (Or.inl rfl) (Sub.cons (lo2 := 69) (hi2 := 70) (c2 := 0) (show _ ∈ L_X8_lies from by simp [L_X8_lies]) (by omega) (by omega) (Or.inl rfl) (Sub.cons (lo2 := 71) (hi2 := 72) (c2 := 0) (show _ ∈ L_X8_lies from by simp [L_X8_lies]) (by omega) (by omega) (Or.inl rfl) (Sub.cons (lo2 := 72) (hi2 := 73) (c2 := 10) (show _ ∈ L_X8_lies from by simp [L_X8_lies]) (by omega) (by omega) (Or.inr rfl) (Sub.cons (lo2 := 72) (hi2 := 73) (c2 := 11) (show _ ∈ L_X8_lies from by simp [L_X8_lies]) (by omega) (by omega) (Or.inr rfl) (Sub.cons (lo2 := 74) (hi2 := 110) (c2 := 0) (show _ ∈ L_X8_lies from by simp [L_X8_lies]) (by omega) (by omega) (Or.inl rfl) Sub.nil)))))))))))
        cases hz
        exact (((Sm.rf.call (fr_X8_isPorter x1 _ (z := q1)  e2) ie2 (show ∀ r ∈ R_X8_isPorter, r ∈ R_X8_lies from by decide)).call (fr_X8_pack (((fxH (gR q1.2 0)) + 12) + 1 + ix x2) _ (z := q6)  e7) ie7 (show ∀ r ∈ R_X8_pack, r ∈ R_X8_lies from by decide)).call (fr_X8_chance x1 (gI q1.2 (fxH (gR q1.2 0)) 2) 7 q6.1 0 x3 _ (z := q8)  e9) ie9 (show ∀ r ∈ R_X8_chance, r ∈ R_X8_lies from by decide))
      · exact ((Sm.rf.call (fr_X8_isPorter x1 _ (z := q1) e2) ie2 (show ∀ r ∈ R_X8_isPorter, r ∈ R_X8_lies from by decide))).tr (fr_X8_lies_23 _ hz)
def L_X8_times : List (Nat × Nat × Nat) := []
def R_X8_times : List Nat := []
theorem fr_X8_times (x0 : Int64) (x2 : Int64) (w : GW) {z : Int64 × GW} : f_X8_times x0 x2 w = some z → Sm L_X8_times R_X8_times w z.2 := by
  intro  hz
  rw [f_X8_times] at hz
  rcases bri hz with hz | hz
  · cases hz
    exact Sm.rf
  · rcases bri hz with hz | hz
    · cases hz
      exact Sm.rf
    · obtain ⟨-, hz⟩ := ck hz
      cases hz
      exact Sm.rf
def L_X8_compare : List (Nat × Nat × Nat) := [(0, 1, 13), (110, 111, 0), (111, 112, 0), (113, 114, 0), (114, 115, 0), (115, 116, 0), (69, 70, 0), (71, 72, 0), (72, 73, 10), (72, 73, 11), (74, 110, 0)]
def R_X8_compare : List Nat := [4, 5]
theorem fr_X8_compare_16 {z : Int32 × GW} : (∀ (w : GW), f_X8_compare_16 w = some z → Sm L_X8_compare R_X8_compare w z.2) := by
  intro w hz
  rw [f_X8_compare_16] at hz
  obtain ⟨q3, e4, hz⟩ := bd hz
  have ie4 : Sub L_X8_refuse L_X8_compare := by
    unfold L_X8_refuse
    exact (Sub.cons (lo2 := 0) (hi2 := 1) (c2 := 13) (show _ ∈ L_X8_compare from by simp [L_X8_compare]) (by omega) (by omega) (Or.inr rfl) Sub.nil)
  cases hz
  exact (Sm.rf.call (fr_X8_refuse 1 _ (z := q3)  e4) ie4 (show ∀ r ∈ R_X8_refuse, r ∈ R_X8_compare from by decide))
theorem fr_X8_compare_38 {z : Int32 × GW} : (∀ (w : GW), f_X8_compare_38 w = some z → Sm L_X8_compare R_X8_compare w z.2) := by
  intro w hz
  rw [f_X8_compare_38] at hz
  obtain ⟨q9, e10, hz⟩ := bd hz
  have ie10 : Sub L_X8_refuse L_X8_compare := by
    unfold L_X8_refuse
    exact (Sub.cons (lo2 := 0) (hi2 := 1) (c2 := 13) (show _ ∈ L_X8_compare from by simp [L_X8_compare]) (by omega) (by omega) (Or.inr rfl) Sub.nil)
  cases hz
  exact (Sm.rf.call (fr_X8_refuse 2 _ (z := q9)  e10) ie10 (show ∀ r ∈ R_X8_refuse, r ∈ R_X8_compare from by decide))
theorem fr_X8_compare_62 {z : Int32 × GW} : (∀ (w : GW), f_X8_compare_62 w = some z → Sm L_X8_compare R_X8_compare w z.2) := by
  intro w hz
  rw [f_X8_compare_62] at hz
  obtain ⟨q15, e16, hz⟩ := bd hz
  have ie16 : Sub L_X8_refuse L_X8_compare := by
    unfold L_X8_refuse
    exact (Sub.cons (lo2 := 0) (hi2 := 1) (c2 := 13) (show _ ∈ L_X8_compare from by simp [L_X8_compare]) (by omega) (by omega) (Or.inr rfl) Sub.nil)
  cases hz
  exact (Sm.rf.call (fr_X8_refuse 3 _ (z := q15)  e16) ie16 (show ∀ r ∈ R_X8_refuse, r ∈ R_X8_compare from by decide))
theorem fr_X8_compare_186 {z : Int32 × GW} : (∀ (t0 : Int32) (w : GW), f_X8_compare_186 t0 w = some z → Sm L_X8_compare R_X8_compare w z.2) := by
  intro t0 w hz
  rw [f_X8_compare_186] at hz
  obtain ⟨q31, e32, hz⟩ := bd hz
  have ie32 : Sub L_X8_fine L_X8_compare := by
    unfold L_X8_fine
    exact (Sub.cons (lo2 := 0) (hi2 := 1) (c2 := 13) (show _ ∈ L_X8_compare from by simp [L_X8_compare]) (by omega) (by omega) (Or.inr rfl) Sub.nil)
  cases hz
  exact (Sm.rf.call (fr_X8_fine t0 _ (z := q31)  e32) ie32 (show ∀ r ∈ R_X8_fine, r ∈ R_X8_compare from by decide))
theorem fr_X8_compare (x1 : Int32) (x2 : Int32) (x3 : Int32) (x4 : Int32) (w : GW) {z : Int32 × GW} : f_X8_compare x1 x2 x3 x4 w = some z → Sm L_X8_compare R_X8_compare w z.2 := by
  intro  hz
  rw [f_X8_compare] at hz
  obtain ⟨q1, e2, hz⟩ := bd hz
  have ie2 : Sub L_X8_isPorter L_X8_compare := by
    unfold L_X8_isPorter
    exact Sub.nil
  rcases bri hz with hz | hz
  · exact ((Sm.rf.call (fr_X8_isPorter x1 _ (z := q1) e2) ie2 (show ∀ r ∈ R_X8_isPorter, r ∈ R_X8_compare from by decide))).tr (fr_X8_compare_16 _ hz)
  · obtain ⟨q5, e6, hz⟩ := bd hz
    have ie6 : Sub L_X8_isPorter L_X8_compare := by
      unfold L_X8_isPorter
      exact Sub.nil
    rcases bri hz with hz | hz
    · exact (((Sm.rf.call (fr_X8_isPorter x1 _ (z := q1) e2) ie2 (show ∀ r ∈ R_X8_isPorter, r ∈ R_X8_compare from by decide)).call (fr_X8_isPorter x2 _ (z := q5) e6) ie6 (show ∀ r ∈ R_X8_isPorter, r ∈ R_X8_compare from by decide))).tr (fr_X8_compare_16 _ hz)
    · obtain ⟨q7, e8, hz⟩ := bd hz
      have ie8 : Sub L_X8_isCount L_X8_compare := by
        unfold L_X8_isCount
        exact Sub.nil
      rcases bri hz with hz | hz
      · exact ((((Sm.rf.call (fr_X8_isPorter x1 _ (z := q1) e2) ie2 (show ∀ r ∈ R_X8_isPorter, r ∈ R_X8_compare from by decide)).call (fr_X8_isPorter x2 _ (z := q5) e6) ie6 (show ∀ r ∈ R_X8_isPorter, r ∈ R_X8_compare from by decide)).call (fr_X8_isCount x3 _ (z := q7) e8) ie8 (show ∀ r ∈ R_X8_isCount, r ∈ R_X8_compare from by decide))).tr (fr_X8_compare_38 _ hz)
      · obtain ⟨q11, e12, hz⟩ := bd hz
        have ie12 : Sub L_X8_isFullest L_X8_compare := by
          unfold L_X8_isFullest
          exact Sub.nil
        rcases bri hz with hz | hz
        · exact (((((Sm.rf.call (fr_X8_isPorter x1 _ (z := q1) e2) ie2 (show ∀ r ∈ R_X8_isPorter, r ∈ R_X8_compare from by decide)).call (fr_X8_isPorter x2 _ (z := q5) e6) ie6 (show ∀ r ∈ R_X8_isPorter, r ∈ R_X8_compare from by decide)).call (fr_X8_isCount x3 _ (z := q7) e8) ie8 (show ∀ r ∈ R_X8_isCount, r ∈ R_X8_compare from by decide)).call (fr_X8_isFullest x4 _ (z := q11) e12) ie12 (show ∀ r ∈ R_X8_isFullest, r ∈ R_X8_compare from by decide))).tr (fr_X8_compare_38 _ hz)
        · obtain ⟨q13, e14, hz⟩ := bd hz
          have ie14 : Sub L_X8_isTooMany L_X8_compare := by
            unfold L_X8_isTooMany
            exact Sub.nil
          rcases bri hz with hz | hz
          · obtain ⟨q17, e18, hz⟩ := bd hz
            have ie18 : Sub L_X8_isTooMany L_X8_compare := by
              unfold L_X8_isTooMany
              exact Sub.nil
            rcases bri hz with hz | hz
            · obtain ⟨q19, e20, hz⟩ := bd hz
              have ie20 : Sub L_X8_ofPorter L_X8_compare := by
                unfold L_X8_ofPorter
                exact (Sub.cons (lo2 := 110) (hi2 := 111) (c2 := 0) (show _ ∈ L_X8_compare from by simp [L_X8_compare]) (by omega) (by omega) (Or.inl rfl) (Sub.cons (lo2 := 111) (hi2 := 112) (c2 := 0) (show _ ∈ L_X8_compare from by simp [L_X8_compare]) (by omega) (by omega) (Or.inl rfl) (Sub.cons (lo2 := 113) (hi2 := 114) (c2 := 0) (show _ ∈ L_X8_compare from by simp [L_X8_compare]) (by omega) (by omega) (Or.inl rfl) (Sub.cons (lo2 := 114) (hi2 := 115) (c2 := 0) (show _ ∈ L_X8_compare from by simp [L_X8_compare]) (by omega) (by omega) (Or.inl rfl) (Sub.cons (lo2 := 115) (hi2 := 116) (c2 := 0) (show _ ∈ L_X8_compare from by simp [L_X8_compare]) (by omega) (by omega) (Or.inl rfl) (Sub.cons (lo2 := 69) (hi2 := 70) (c2 := 0) (show _ ∈ L_X8_compare from by simp [L_X8_compare]) (by omega) (by omega) (Or.inl rfl) (Sub.cons (lo2 := 71) (hi2 := 72) (c2 := 0) (show _ ∈ L_X8_compare from by simp [L_X8_compare]) (by omega) (by omega) (Or.inl rfl) (Sub.cons (lo2 := 74) (hi2 := 110) (c2 := 0) (show _ ∈ L_X8_compare from by simp [L_X8_compare]) (by omega) (by omega) (Or.inl rfl) Sub.nil))))))))
              obtain ⟨q21, e22, hz⟩ := bd hz
              have ie22 : Sub (L_X0_count q19.1) L_X8_compare := by
                unfold L_X0_count
                exact (Sub.cons (lo2 := 72) (hi2 := 73) (c2 := 10) (show _ ∈ L_X8_compare from by simp [L_X8_compare]) (by omega) (by omega) (Or.inr rfl) (Sub.cons (lo2 := 72) (hi2 := 73) (c2 := 11) (show _ ∈ L_X8_compare from by simp [L_X8_compare]) (by omega) (by omega) (Or.inr rfl) Sub.nil))
              obtain ⟨q23, e24, hz⟩ := bd hz
              have ie24 : Sub L_X8_ofPorter L_X8_compare := by
                unfold L_X8_ofPorter
                exact (Sub.cons (lo2 := 110) (hi2 := 111) (c2 := 0) (show _ ∈ L_X8_compare from by simp [L_X8_compare]) (by omega) (by omega) (Or.inl rfl) (Sub.cons (lo2 := 111) (hi2 := 112) (c2 := 0) (show _ ∈ L_X8_compare from by simp [L_X8_compare]) (by omega) (by omega) (Or.inl rfl) (Sub.cons (lo2 := 113) (hi2 := 114) (c2 := 0) (show _ ∈ L_X8_compare from by simp [L_X8_compare]) (by omega) (by omega) (Or.inl rfl) (Sub.cons (lo2 := 114) (hi2 := 115) (c2 := 0) (show _ ∈ L_X8_compare from by simp [L_X8_compare]) (by omega) (by omega) (Or.inl rfl) (Sub.cons (lo2 := 115) (hi2 := 116) (c2 := 0) (show _ ∈ L_X8_compare from by simp [L_X8_compare]) (by omega) (by omega) (Or.inl rfl) (Sub.cons (lo2 := 69) (hi2 := 70) (c2 := 0) (show _ ∈ L_X8_compare from by simp [L_X8_compare]) (by omega) (by omega) (Or.inl rfl) (Sub.cons (lo2 := 71) (hi2 := 72) (c2 := 0) (show _ ∈ L_X8_compare from by simp [L_X8_compare]) (by omega) (by omega) (Or.inl rfl) (Sub.cons (lo2 := 74) (hi2 := 110) (c2 := 0) (show _ ∈ L_X8_compare from by simp [L_X8_compare]) (by omega) (by omega) (Or.inl rfl) Sub.nil))))))))
              obtain ⟨q25, e26, hz⟩ := bd hz
              have ie26 : Sub (L_X0_count q23.1) L_X8_compare := by
                unfold L_X0_count
                exact (Sub.cons (lo2 := 72) (hi2 := 73) (c2 := 10) (show _ ∈ L_X8_compare from by simp [L_X8_compare]) (by omega) (by omega) (Or.inr rfl) (Sub.cons (lo2 := 72) (hi2 := 73) (c2 := 11) (show _ ∈ L_X8_compare from by simp [L_X8_compare]) (by omega) (by omega) (Or.inr rfl) Sub.nil))
              obtain ⟨q27, e28, hz⟩ := bd hz
              have ie28 : Sub L_X8_times L_X8_compare := by
                unfold L_X8_times
                exact Sub.nil
              obtain ⟨q29, e30, hz⟩ := bd hz
              have ie30 : Sub L_X8_times L_X8_compare := by
                unfold L_X8_times
                exact Sub.nil
              rcases bri hz with hz | hz
              · rcases bri hz with hz | hz
                · exact (((((((((((((Sm.rf.call (fr_X8_isPorter x1 _ (z := q1) e2) ie2 (show ∀ r ∈ R_X8_isPorter, r ∈ R_X8_compare from by decide)).call (fr_X8_isPorter x2 _ (z := q5) e6) ie6 (show ∀ r ∈ R_X8_isPorter, r ∈ R_X8_compare from by decide)).call (fr_X8_isCount x3 _ (z := q7) e8) ie8 (show ∀ r ∈ R_X8_isCount, r ∈ R_X8_compare from by decide)).call (fr_X8_isFullest x4 _ (z := q11) e12) ie12 (show ∀ r ∈ R_X8_isFullest, r ∈ R_X8_compare from by decide)).call (fr_X8_isTooMany x1 x3 _ (z := q13) e14) ie14 (show ∀ r ∈ R_X8_isTooMany, r ∈ R_X8_compare from by decide)).call (fr_X8_isTooMany x2 x3 _ (z := q17) e18) ie18 (show ∀ r ∈ R_X8_isTooMany, r ∈ R_X8_compare from by decide)).call (fr_X8_ofPorter x1 _ (z := q19) e20) ie20 (show ∀ r ∈ R_X8_ofPorter, r ∈ R_X8_compare from by decide)).call (fr_X0_count q19.1 x3 4 x4 0 _ (z := q21) e22) ie22 (show ∀ r ∈ R_X0_count, r ∈ R_X8_compare from by decide)).call (fr_X8_ofPorter x2 _ (z := q23) e24) ie24 (show ∀ r ∈ R_X8_ofPorter, r ∈ R_X8_compare from by decide)).call (fr_X0_count q23.1 x3 4 x4 0 _ (z := q25) e26) ie26 (show ∀ r ∈ R_X0_count, r ∈ R_X8_compare from by decide)).call (fr_X8_times (gL q21.2 72 10) (gL q25.2 72 10) _ (z := q27) e28) ie28 (show ∀ r ∈ R_X8_times, r ∈ R_X8_compare from by decide)).call (fr_X8_times (gL q27.2 72 10) (gL q21.2 72 10) _ (z := q29) e30) ie30 (show ∀ r ∈ R_X8_times, r ∈ R_X8_compare from by decide))).tr (fr_X8_compare_186 0 _ hz)
                · exact (((((((((((((Sm.rf.call (fr_X8_isPorter x1 _ (z := q1) e2) ie2 (show ∀ r ∈ R_X8_isPorter, r ∈ R_X8_compare from by decide)).call (fr_X8_isPorter x2 _ (z := q5) e6) ie6 (show ∀ r ∈ R_X8_isPorter, r ∈ R_X8_compare from by decide)).call (fr_X8_isCount x3 _ (z := q7) e8) ie8 (show ∀ r ∈ R_X8_isCount, r ∈ R_X8_compare from by decide)).call (fr_X8_isFullest x4 _ (z := q11) e12) ie12 (show ∀ r ∈ R_X8_isFullest, r ∈ R_X8_compare from by decide)).call (fr_X8_isTooMany x1 x3 _ (z := q13) e14) ie14 (show ∀ r ∈ R_X8_isTooMany, r ∈ R_X8_compare from by decide)).call (fr_X8_isTooMany x2 x3 _ (z := q17) e18) ie18 (show ∀ r ∈ R_X8_isTooMany, r ∈ R_X8_compare from by decide)).call (fr_X8_ofPorter x1 _ (z := q19) e20) ie20 (show ∀ r ∈ R_X8_ofPorter, r ∈ R_X8_compare from by decide)).call (fr_X0_count q19.1 x3 4 x4 0 _ (z := q21) e22) ie22 (show ∀ r ∈ R_X0_count, r ∈ R_X8_compare from by decide)).call (fr_X8_ofPorter x2 _ (z := q23) e24) ie24 (show ∀ r ∈ R_X8_ofPorter, r ∈ R_X8_compare from by decide)).call (fr_X0_count q23.1 x3 4 x4 0 _ (z := q25) e26) ie26 (show ∀ r ∈ R_X0_count, r ∈ R_X8_compare from by decide)).call (fr_X8_times (gL q21.2 72 10) (gL q25.2 72 10) _ (z := q27) e28) ie28 (show ∀ r ∈ R_X8_times, r ∈ R_X8_compare from by decide)).call (fr_X8_times (gL q27.2 72 10) (gL q21.2 72 10) _ (z := q29) e30) ie30 (show ∀ r ∈ R_X8_times, r ∈ R_X8_compare from by decide))).tr (fr_X8_compare_186 2 _ hz)
              · exact (((((((((((((Sm.rf.call (fr_X8_isPorter x1 _ (z := q1) e2) ie2 (show ∀ r ∈ R_X8_isPorter, r ∈ R_X8_compare from by decide)).call (fr_X8_isPorter x2 _ (z := q5) e6) ie6 (show ∀ r ∈ R_X8_isPorter, r ∈ R_X8_compare from by decide)).call (fr_X8_isCount x3 _ (z := q7) e8) ie8 (show ∀ r ∈ R_X8_isCount, r ∈ R_X8_compare from by decide)).call (fr_X8_isFullest x4 _ (z := q11) e12) ie12 (show ∀ r ∈ R_X8_isFullest, r ∈ R_X8_compare from by decide)).call (fr_X8_isTooMany x1 x3 _ (z := q13) e14) ie14 (show ∀ r ∈ R_X8_isTooMany, r ∈ R_X8_compare from by decide)).call (fr_X8_isTooMany x2 x3 _ (z := q17) e18) ie18 (show ∀ r ∈ R_X8_isTooMany, r ∈ R_X8_compare from by decide)).call (fr_X8_ofPorter x1 _ (z := q19) e20) ie20 (show ∀ r ∈ R_X8_ofPorter, r ∈ R_X8_compare from by decide)).call (fr_X0_count q19.1 x3 4 x4 0 _ (z := q21) e22) ie22 (show ∀ r ∈ R_X0_count, r ∈ R_X8_compare from by decide)).call (fr_X8_ofPorter x2 _ (z := q23) e24) ie24 (show ∀ r ∈ R_X8_ofPorter, r ∈ R_X8_compare from by decide)).call (fr_X0_count q23.1 x3 4 x4 0 _ (z := q25) e26) ie26 (show ∀ r ∈ R_X0_count, r ∈ R_X8_compare from by decide)).call (fr_X8_times (gL q21.2 72 10) (gL q25.2 72 10) _ (z := q27) e28) ie28 (show ∀ r ∈ R_X8_times, r ∈ R_X8_compare from by decide)).call (fr_X8_times (gL q27.2 72 10) (gL q21.2 72 10) _ (z := q29) e30) ie30 (show ∀ r ∈ R_X8_times, r ∈ R_X8_compare from by decide))).tr (fr_X8_compare_186 (-2) _ hz)
            · exact (((((((Sm.rf.call (fr_X8_isPorter x1 _ (z := q1) e2) ie2 (show ∀ r ∈ R_X8_isPorter, r ∈ R_X8_compare from by decide)).call (fr_X8_isPorter x2 _ (z := q5) e6) ie6 (show ∀ r ∈ R_X8_isPorter, r ∈ R_X8_compare from by decide)).call (fr_X8_isCount x3 _ (z := q7) e8) ie8 (show ∀ r ∈ R_X8_isCount, r ∈ R_X8_compare from by decide)).call (fr_X8_isFullest x4 _ (z := q11) e12) ie12 (show ∀ r ∈ R_X8_isFullest, r ∈ R_X8_compare from by decide)).call (fr_X8_isTooMany x1 x3 _ (z := q13) e14) ie14 (show ∀ r ∈ R_X8_isTooMany, r ∈ R_X8_compare from by decide)).call (fr_X8_isTooMany x2 x3 _ (z := q17) e18) ie18 (show ∀ r ∈ R_X8_isTooMany, r ∈ R_X8_compare from by decide))).tr (fr_X8_compare_62 _ hz)
          · exact ((((((Sm.rf.call (fr_X8_isPorter x1 _ (z := q1) e2) ie2 (show ∀ r ∈ R_X8_isPorter, r ∈ R_X8_compare from by decide)).call (fr_X8_isPorter x2 _ (z := q5) e6) ie6 (show ∀ r ∈ R_X8_isPorter, r ∈ R_X8_compare from by decide)).call (fr_X8_isCount x3 _ (z := q7) e8) ie8 (show ∀ r ∈ R_X8_isCount, r ∈ R_X8_compare from by decide)).call (fr_X8_isFullest x4 _ (z := q11) e12) ie12 (show ∀ r ∈ R_X8_isFullest, r ∈ R_X8_compare from by decide)).call (fr_X8_isTooMany x1 x3 _ (z := q13) e14) ie14 (show ∀ r ∈ R_X8_isTooMany, r ∈ R_X8_compare from by decide))).tr (fr_X8_compare_62 _ hz)
def L_X8_never : List (Nat × Nat × Nat) := [(0, 1, 13), (110, 111, 0), (111, 112, 0), (113, 114, 0), (114, 115, 0), (115, 116, 0), (116, 117, 1), (116, 117, 2), (116, 117, 3), (69, 70, 0), (71, 72, 0), (74, 110, 0)]
def R_X8_never : List Nat := [4, 5]
theorem fr_X8_never_35 {z : Int32 × GW} : (∀ (w : GW), f_X8_never_35 w = some z → Sm L_X8_never R_X8_never w z.2) := by
  intro w hz
  rw [f_X8_never_35] at hz
  obtain ⟨q3, e4, hz⟩ := bd hz
  have ie4 : Sub L_X8_refuse L_X8_never := by
    unfold L_X8_refuse
    exact (Sub.cons (lo2 := 0) (hi2 := 1) (c2 := 13) (show _ ∈ L_X8_never from by simp [L_X8_never]) (by omega) (by omega) (Or.inr rfl) Sub.nil)
  cases hz
  exact (Sm.rf.call (fr_X8_refuse 2 _ (z := q3)  e4) ie4 (show ∀ r ∈ R_X8_refuse, r ∈ R_X8_never from by decide))
theorem fr_X8_never_43 {z : Int32 × GW} : ∀ (n9 : Nat), (∀ (x1 : Int32) (x2 : Int32) (x3 : Int32) (w : GW), f_X8_never_43 n9 x1 x2 x3 w = some z → Sm L_X8_never R_X8_never w z.2) := by
  intro n9
  induction n9 with
  | zero =>
    intro x1 x2 x3 w hz
    rw [f_X8_never_43] at hz
    cases hz
  | succ n9 ih =>
    intro x1 x2 x3 w hz
    rw [f_X8_never_43] at hz
    rcases bri hz with hz | hz
    · obtain ⟨q5, e6, hz⟩ := bd hz
      have ie6 : Sub L_X8_fine L_X8_never := by
        unfold L_X8_fine
        exact (Sub.cons (lo2 := 0) (hi2 := 1) (c2 := 13) (show _ ∈ L_X8_never from by simp [L_X8_never]) (by omega) (by omega) (Or.inr rfl) Sub.nil)
      cases hz
      exact (Sm.rf.call (fr_X8_fine (-2) _ (z := q5)  e6) ie6 (show ∀ r ∈ R_X8_fine, r ∈ R_X8_never from by decide))
    · obtain ⟨q7, e8, hz⟩ := bd hz
      have ie8 : Sub (L_X4_become 116) L_X8_never := by
        unfold L_X4_become
        exact (Sub.cons (lo2 := 116) (hi2 := 117) (c2 := 1) (show _ ∈ L_X8_never from by simp [L_X8_never]) (by omega) (by omega) (Or.inr rfl) (Sub.cons (lo2 := 116) (hi2 := 117) (c2 := 2) (show _ ∈ L_X8_never from by simp [L_X8_never]) (by omega) (by omega) (Or.inr rfl) (Sub.cons (lo2 := 116) (hi2 := 117) (c2 := 3) (show _ ∈ L_X8_never from by simp [L_X8_never]) (by omega) (by omega) (Or.inr rfl) Sub.nil)))
      obtain ⟨q9, e10, hz⟩ := bd hz
      have ie10 : Sub (L_X0_rowOf 116) L_X8_never := by
        unfold L_X0_rowOf
        exact (Sub.cons (lo2 := 110) (hi2 := 111) (c2 := 0) (show _ ∈ L_X8_never from by simp [L_X8_never]) (by omega) (by omega) (Or.inl rfl) (Sub.cons (lo2 := 111) (hi2 := 112) (c2 := 0) (show _ ∈ L_X8_never from by simp [L_X8_never]) (by omega) (by omega) (Or.inl rfl) (Sub.cons (lo2 := 113) (hi2 := 114) (c2 := 0) (show _ ∈ L_X8_never from by simp [L_X8_never]) (by omega) (by omega) (Or.inl rfl) (Sub.cons (lo2 := 114) (hi2 := 115) (c2 := 0) (show _ ∈ L_X8_never from by simp [L_X8_never]) (by omega) (by omega) (Or.inl rfl) (Sub.cons (lo2 := 115) (hi2 := 116) (c2 := 0) (show _ ∈ L_X8_never from by simp [L_X8_never]) (by omega) (by omega) (Or.inl rfl) (Sub.cons (lo2 := 69) (hi2 := 70) (c2 := 0) (show _ ∈ L_X8_never from by simp [L_X8_never]) (by omega) (by omega) (Or.inl rfl) (Sub.cons (lo2 := 71) (hi2 := 72) (c2 := 0) (show _ ∈ L_X8_never from by simp [L_X8_never]) (by omega) (by omega) (Or.inl rfl) (Sub.cons (lo2 := 74) (hi2 := 110) (c2 := 0) (show _ ∈ L_X8_never from by simp [L_X8_never]) (by omega) (by omega) (Or.inl rfl) Sub.nil))))))))
      obtain ⟨q11, e12, hz⟩ := bd hz
      have ie12 : Sub (L_X0_furthest q9.1) L_X8_never := by
        unfold L_X0_furthest
        exact Sub.nil
      rcases bri hz with hz | hz
      · exact ((((Sm.rf.call (fr_X4_become 116 x3 1 (-2) _ (z := q7)  e8) ie8 (show ∀ r ∈ R_X4_become, r ∈ R_X8_never from by decide)).call (fr_X0_rowOf ((33 + x3) - 1) 116 1 _ (z := q9)  e10) ie10 (show ∀ r ∈ R_X0_rowOf, r ∈ R_X8_never from by decide)).call (fr_X0_furthest q9.1 x1 0 _ (z := q11)  e12) ie12 (show ∀ r ∈ R_X0_furthest, r ∈ R_X8_never from by decide))).tr (ih x1 x2 (x3 + 1) _  hz)
      · obtain ⟨q13, e14, hz⟩ := bd hz
        have ie14 : Sub L_X8_fine L_X8_never := by
          unfold L_X8_fine
          exact (Sub.cons (lo2 := 0) (hi2 := 1) (c2 := 13) (show _ ∈ L_X8_never from by simp [L_X8_never]) (by omega) (by omega) (Or.inr rfl) Sub.nil)
        cases hz
        exact ((((Sm.rf.call (fr_X4_become 116 x3 1 (-2) _ (z := q7)  e8) ie8 (show ∀ r ∈ R_X4_become, r ∈ R_X8_never from by decide)).call (fr_X0_rowOf ((33 + x3) - 1) 116 1 _ (z := q9)  e10) ie10 (show ∀ r ∈ R_X0_rowOf, r ∈ R_X8_never from by decide)).call (fr_X0_furthest q9.1 x1 0 _ (z := q11)  e12) ie12 (show ∀ r ∈ R_X0_furthest, r ∈ R_X8_never from by decide)).call (fr_X8_fine x3 _ (z := q13)  e14) ie14 (show ∀ r ∈ R_X8_fine, r ∈ R_X8_never from by decide))
theorem fr_X8_never (x1 : Int32) (x2 : Int32) (w : GW) {z : Int32 × GW} : f_X8_never x1 x2 w = some z → Sm L_X8_never R_X8_never w z.2 := by
  intro  hz
  rw [f_X8_never] at hz
  rcases bri hz with hz | hz
  · obtain ⟨q15, e16, hz⟩ := bd hz
    have ie16 : Sub L_X8_refuse L_X8_never := by
      unfold L_X8_refuse
      exact (Sub.cons (lo2 := 0) (hi2 := 1) (c2 := 13) (show _ ∈ L_X8_never from by simp [L_X8_never]) (by omega) (by omega) (Or.inr rfl) Sub.nil)
    cases hz
    exact (Sm.rf.call (fr_X8_refuse 1 _ (z := q15)  e16) ie16 (show ∀ r ∈ R_X8_refuse, r ∈ R_X8_never from by decide))
  · obtain ⟨q1, e2, hz⟩ := bd hz
    have ie2 : Sub L_X8_isCount L_X8_never := by
      unfold L_X8_isCount
      exact Sub.nil
    rcases bri hz with hz | hz
    · exact ((Sm.rf.call (fr_X8_isCount x1 _ (z := q1) e2) ie2 (show ∀ r ∈ R_X8_isCount, r ∈ R_X8_never from by decide))).tr (fr_X8_never_35 _ hz)
    · rcases bri hz with hz | hz
      · exact ((Sm.rf.call (fr_X8_isCount x1 _ (z := q1) e2) ie2 (show ∀ r ∈ R_X8_isCount, r ∈ R_X8_never from by decide))).tr (fr_X8_never_35 _ hz)
      · rcases bri hz with hz | hz
        · exact ((Sm.rf.call (fr_X8_isCount x1 _ (z := q1) e2) ie2 (show ∀ r ∈ R_X8_isCount, r ∈ R_X8_never from by decide))).tr (fr_X8_never_43 fu x1 x2 1 _ hz)
        · exact ((Sm.rf.call (fr_X8_isCount x1 _ (z := q1) e2) ie2 (show ∀ r ∈ R_X8_isCount, r ∈ R_X8_never from by decide))).tr (fr_X8_never_35 _ hz)
def L_X8_isBestRefused : List (Nat × Nat × Nat) := [(0, 1, 13), (116, 117, 1), (116, 117, 2), (116, 117, 3)]
def R_X8_isBestRefused : List Nat := []
theorem fr_X8_isBestRefused_86 {z : Int32 × GW} : (∀ (t0 : Int32) (w : GW), f_X8_isBestRefused_86 t0 w = some z → Sm L_X8_isBestRefused R_X8_isBestRefused w z.2) := by
  intro t0 w hz
  rw [f_X8_isBestRefused_86] at hz
  rcases bri hz with hz | hz
  · cases hz
    exact (Sm.rf.wI (lo := 0) (hi := 1) (c9 := 13) (show _ ∈ L_X8_isBestRefused from by simp [L_X8_isBestRefused]) (by decide) (by decide) (Or.inr rfl))
  · cases hz
    exact (Sm.rf.wI (lo := 0) (hi := 1) (c9 := 13) (show _ ∈ L_X8_isBestRefused from by simp [L_X8_isBestRefused]) (by decide) (by decide) (Or.inr rfl))
theorem fr_X8_isBestRefused_30 {z : Int32 × GW} : (∀ (x1 : Int32) (x2 : Int32) (t0 : Int32) (w : GW), f_X8_isBestRefused_30 x1 x2 t0 w = some z → Sm L_X8_isBestRefused R_X8_isBestRefused w z.2) := by
  intro x1 x2 t0 w hz
  rw [f_X8_isBestRefused_30] at hz
  obtain ⟨q1, e2, hz⟩ := bd hz
  have ie2 : Sub (L_X4_become 116) L_X8_isBestRefused := by
    unfold L_X4_become
    exact (Sub.cons (lo2 := 116) (hi2 := 117) (c2 := 1) (show _ ∈ L_X8_isBestRefused from by simp [L_X8_isBestRefused]) (by omega) (by omega) (Or.inr rfl) (Sub.cons (lo2 := 116) (hi2 := 117) (c2 := 2) (show _ ∈ L_X8_isBestRefused from by simp [L_X8_isBestRefused]) (by omega) (by omega) (Or.inr rfl) (Sub.cons (lo2 := 116) (hi2 := 117) (c2 := 3) (show _ ∈ L_X8_isBestRefused from by simp [L_X8_isBestRefused]) (by omega) (by omega) (Or.inr rfl) Sub.nil)))
  rcases bri hz with hz | hz
  · exact ((Sm.rf.call (fr_X4_become 116 x1 2 0 _ (z := q1) e2) ie2 (show ∀ r ∈ R_X4_become, r ∈ R_X8_isBestRefused from by decide))).tr (fr_X8_isBestRefused_86 1 _ hz)
  · rcases bri hz with hz | hz
    · exact ((Sm.rf.call (fr_X4_become 116 x1 2 0 _ (z := q1) e2) ie2 (show ∀ r ∈ R_X4_become, r ∈ R_X8_isBestRefused from by decide))).tr (fr_X8_isBestRefused_86 2 _ hz)
    · obtain ⟨q3, e4, hz⟩ := bd hz
      have ie4 : Sub (L_X3_tooMany (fxH (gR q1.2 0)) 116) L_X8_isBestRefused := by
        unfold L_X3_tooMany
        exact Sub.nil
      rcases bri hz with hz | hz
      · exact (((Sm.rf.call (fr_X4_become 116 x1 2 0 _ (z := q1) e2) ie2 (show ∀ r ∈ R_X4_become, r ∈ R_X8_isBestRefused from by decide)).call (fr_X3_tooMany (fxH (gR q1.2 0)) 116 x2 _ (z := q3) e4) ie4 (show ∀ r ∈ R_X3_tooMany, r ∈ R_X8_isBestRefused from by decide))).tr (fr_X8_isBestRefused_86 0 _ hz)
      · exact (((Sm.rf.call (fr_X4_become 116 x1 2 0 _ (z := q1) e2) ie2 (show ∀ r ∈ R_X4_become, r ∈ R_X8_isBestRefused from by decide)).call (fr_X3_tooMany (fxH (gR q1.2 0)) 116 x2 _ (z := q3) e4) ie4 (show ∀ r ∈ R_X3_tooMany, r ∈ R_X8_isBestRefused from by decide))).tr (fr_X8_isBestRefused_86 3 _ hz)
theorem fr_X8_isBestRefused_29 {z : Int32 × GW} : (∀ (x1 : Int32) (x2 : Int32) (w : GW), f_X8_isBestRefused_29 x1 x2 w = some z → Sm L_X8_isBestRefused R_X8_isBestRefused w z.2) := by
  intro x1 x2 w hz
  rw [f_X8_isBestRefused_29] at hz
  exact (Sm.rf).tr (fr_X8_isBestRefused_30 x1 x2 0 _ hz)
theorem fr_X8_isBestRefused (x1 : Int32) (x2 : Int32) (x3 : Int32) (w : GW) {z : Int32 × GW} : f_X8_isBestRefused x1 x2 x3 w = some z → Sm L_X8_isBestRefused R_X8_isBestRefused w z.2 := by
  intro  hz
  rw [f_X8_isBestRefused] at hz
  rcases bri hz with hz | hz
  · exact (Sm.rf).tr (fr_X8_isBestRefused_29 x1 x2 _ hz)
  · rcases bri hz with hz | hz
    · exact (Sm.rf).tr (fr_X8_isBestRefused_29 x1 x2 _ hz)
    · obtain ⟨q5, e6, hz⟩ := bd hz
      have ie6 : Sub L_X8_isCount L_X8_isBestRefused := by
        unfold L_X8_isCount
        exact Sub.nil
      rcases bri hz with hz | hz
      · exact ((Sm.rf.call (fr_X8_isCount x2 _ (z := q5) e6) ie6 (show ∀ r ∈ R_X8_isCount, r ∈ R_X8_isBestRefused from by decide))).tr (fr_X8_isBestRefused_29 x1 x2 _ hz)
      · obtain ⟨q7, e8, hz⟩ := bd hz
        have ie8 : Sub L_X8_isFullest L_X8_isBestRefused := by
          unfold L_X8_isFullest
          exact Sub.nil
        rcases bri hz with hz | hz
        · exact (((Sm.rf.call (fr_X8_isCount x2 _ (z := q5) e6) ie6 (show ∀ r ∈ R_X8_isCount, r ∈ R_X8_isBestRefused from by decide)).call (fr_X8_isFullest x3 _ (z := q7) e8) ie8 (show ∀ r ∈ R_X8_isFullest, r ∈ R_X8_isBestRefused from by decide))).tr (fr_X8_isBestRefused_29 x1 x2 _ hz)
        · exact (((Sm.rf.call (fr_X8_isCount x2 _ (z := q5) e6) ie6 (show ∀ r ∈ R_X8_isCount, r ∈ R_X8_isBestRefused from by decide)).call (fr_X8_isFullest x3 _ (z := q7) e8) ie8 (show ∀ r ∈ R_X8_isFullest, r ∈ R_X8_isBestRefused from by decide))).tr (fr_X8_isBestRefused_30 x1 x2 1 _ hz)
def L_X8_ofLazy : List (Nat × Nat × Nat) := [(110, 111, 0), (111, 112, 0), (113, 114, 0), (114, 115, 0), (115, 116, 0), (116, 117, 1), (116, 117, 2), (116, 117, 3), (69, 70, 0), (71, 72, 0), (74, 110, 0)]
def R_X8_ofLazy : List Nat := [4, 5]
theorem fr_X8_ofLazy (x1 : Int32) (x2 : Int32) (w : GW) {z : Nat × GW} : f_X8_ofLazy x1 x2 w = some z → Sm L_X8_ofLazy R_X8_ofLazy w z.2 := by
  intro  hz
  rw [f_X8_ofLazy] at hz
  obtain ⟨q1, e2, hz⟩ := bd hz
  have ie2 : Sub (L_X4_become 116) L_X8_ofLazy := by
    unfold L_X4_become
    exact (Sub.cons (lo2 := 116) (hi2 := 117) (c2 := 1) (show _ ∈ L_X8_ofLazy from by simp [L_X8_ofLazy]) (by omega) (by omega) (Or.inr rfl) (Sub.cons (lo2 := 116) (hi2 := 117) (c2 := 2) (show _ ∈ L_X8_ofLazy from by simp [L_X8_ofLazy]) (by omega) (by omega) (Or.inr rfl) (Sub.cons (lo2 := 116) (hi2 := 117) (c2 := 3) (show _ ∈ L_X8_ofLazy from by simp [L_X8_ofLazy]) (by omega) (by omega) (Or.inr rfl) Sub.nil)))
  obtain ⟨q3, e4, hz⟩ := bd hz
  have ie4 : Sub (L_X0_rowOf 116) L_X8_ofLazy := by
    unfold L_X0_rowOf
    exact (Sub.cons (lo2 := 110) (hi2 := 111) (c2 := 0) (show _ ∈ L_X8_ofLazy from by simp [L_X8_ofLazy]) (by omega) (by omega) (Or.inl rfl) (Sub.cons (lo2 := 111) (hi2 := 112) (c2 := 0) (show _ ∈ L_X8_ofLazy from by simp [L_X8_ofLazy]) (by omega) (by omega) (Or.inl rfl) (Sub.cons (lo2 := 113) (hi2 := 114) (c2 := 0) (show _ ∈ L_X8_ofLazy from by simp [L_X8_ofLazy]) (by omega) (by omega) (Or.inl rfl) (Sub.cons (lo2 := 114) (hi2 := 115) (c2 := 0) (show _ ∈ L_X8_ofLazy from by simp [L_X8_ofLazy]) (by omega) (by omega) (Or.inl rfl) (Sub.cons (lo2 := 115) (hi2 := 116) (c2 := 0) (show _ ∈ L_X8_ofLazy from by simp [L_X8_ofLazy]) (by omega) (by omega) (Or.inl rfl) (Sub.cons (lo2 := 69) (hi2 := 70) (c2 := 0) (show _ ∈ L_X8_ofLazy from by simp [L_X8_ofLazy]) (by omega) (by omega) (Or.inl rfl) (Sub.cons (lo2 := 71) (hi2 := 72) (c2 := 0) (show _ ∈ L_X8_ofLazy from by simp [L_X8_ofLazy]) (by omega) (by omega) (Or.inl rfl) (Sub.cons (lo2 := 74) (hi2 := 110) (c2 := 0) (show _ ∈ L_X8_ofLazy from by simp [L_X8_ofLazy]) (by omega) (by omega) (Or.inl rfl) Sub.nil))))))))
  cases hz
  exact ((Sm.rf.call (fr_X4_become 116 x1 2 x2 _ (z := q1)  e2) ie2 (show ∀ r ∈ R_X4_become, r ∈ R_X8_ofLazy from by decide)).call (fr_X0_rowOf ((6 + ((x1 - 1) * 9)) + x2) 116 0 _ (z := q3)  e4) ie4 (show ∀ r ∈ R_X0_rowOf, r ∈ R_X8_ofLazy from by decide))
def L_X8_laziest : List (Nat × Nat × Nat) := [(110, 111, 0), (111, 112, 0), (113, 114, 0), (114, 115, 0), (115, 116, 0), (116, 117, 1), (116, 117, 2), (116, 117, 3), (69, 70, 0), (71, 72, 0), (72, 73, 10), (72, 73, 11), (74, 110, 0)]
def R_X8_laziest : List Nat := [4, 5]
theorem fr_X8_laziest_65 {z : Int32 × GW} {k_9 : Int32 → Int32 → Int32 → Int32 → Int64 → Int32 → GW → Option (Int32 × GW)} (Hk_9 : (∀ (x1 : Int32) (x2 : Int32) (x3 : Int32) (x4 : Int32) (x5 : Int64) (x7 : Int32) (w : GW), k_9 x1 x2 x3 x4 x5 x7 w = some z → Sm L_X8_laziest R_X8_laziest w z.2)) : (∀ (x1 : Int32) (x2 : Int32) (x3 : Int32) (x4 : Int32) (x5 : Int64) (x7 : Int32) (w : GW), f_X8_laziest_65 k_9 x1 x2 x3 x4 x5 x7 w = some z → Sm L_X8_laziest R_X8_laziest w z.2) := by
  intro x1 x2 x3 x4 x5 x7 w hz
  rw [f_X8_laziest_65] at hz
  exact (Sm.rf).tr (Hk_9 x1 x2 x3 x4 x5 (x7 + 1) _  hz)
theorem fr_X8_laziest_52 {z : Int32 × GW} {k_9 : Int32 → Int32 → Int32 → Int32 → Int64 → Int32 → GW → Option (Int32 × GW)} (Hk_9 : (∀ (x1 : Int32) (x2 : Int32) (x3 : Int32) (x4 : Int32) (x5 : Int64) (x7 : Int32) (w : GW), k_9 x1 x2 x3 x4 x5 x7 w = some z → Sm L_X8_laziest R_X8_laziest w z.2)) : (∀ (x1 : Int32) (x2 : Int32) (x3 : Int32) (x7 : Int32) (w : GW), f_X8_laziest_52 k_9 x1 x2 x3 x7 w = some z → Sm L_X8_laziest R_X8_laziest w z.2) := by
  intro x1 x2 x3 x7 w hz
  rw [f_X8_laziest_52] at hz
  exact (Sm.rf).tr (fr_X8_laziest_65 Hk_9 x1 x2 x3 x7 (gL w 72 9) x7 _ hz)
theorem fr_X8_laziest_9 {z : Int32 × GW} : ∀ (n9 : Nat), (∀ (x1 : Int32) (x2 : Int32) (x3 : Int32) (x4 : Int32) (x5 : Int64) (x7 : Int32) (w : GW), f_X8_laziest_9 n9 x1 x2 x3 x4 x5 x7 w = some z → Sm L_X8_laziest R_X8_laziest w z.2) := by
  intro n9
  induction n9 with
  | zero =>
    intro x1 x2 x3 x4 x5 x7 w hz
    rw [f_X8_laziest_9] at hz
    cases hz
  | succ n9 ih =>
    intro x1 x2 x3 x4 x5 x7 w hz
    rw [f_X8_laziest_9] at hz
    rcases bri hz with hz | hz
    · cases hz
      exact Sm.rf
    · obtain ⟨q1, e2, hz⟩ := bd hz
      have ie2 : Sub L_X8_ofLazy L_X8_laziest := by
        unfold L_X8_ofLazy
        exact (Sub.cons (lo2 := 110) (hi2 := 111) (c2 := 0) (show _ ∈ L_X8_laziest from by simp [L_X8_laziest]) (by omega) (by omega) (Or.inl rfl) (Sub.cons (lo2 := 111) (hi2 := 112) (c2 := 0) (show _ ∈ L_X8_laziest from by simp [L_X8_laziest]) (by omega) (by omega) (Or.inl rfl) (Sub.cons (lo2 := 113) (hi2 := 114) (c2 := 0) (show _ ∈ L_X8_laziest from by simp [L_X8_laziest]) (by omega) (by omega) (Or.inl rfl) (Sub.cons (lo2 := 114) (hi2 := 115) (c2 := 0) (show _ ∈ L_X8_laziest from by simp [L_X8_laziest]) (by omega) (by omega) (Or.inl rfl) (Sub.cons (lo2 := 115) (hi2 := 116) (c2 := 0) (show _ ∈ L_X8_laziest from by simp [L_X8_laziest]) (by omega) (by omega) (Or.inl rfl) (Sub.cons (lo2 := 116) (hi2 := 117) (c2 := 1) (show _ ∈ L_X8_laziest from by simp [L_X8_laziest]) (by omega) (by omega) (Or.inr rfl) (Sub.cons (lo2 := 116) (hi2 := 117) (c2 := 2) (show _ ∈ L_X8_laziest from by simp [L_X8_laziest]) (by omega) (by omega) (Or.inr rfl) (Sub.cons (lo2 := 116) (hi2 := 117) (c2 := 3) (show _ ∈ L_X8_laziest from by simp [L_X8_laziest]) (by omega) (by omega) (Or.inr rfl) (Sub.cons (lo2 := 69) (hi2 := 70) (c2 := 0) (show _ ∈ L_X8_laziest from by simp [L_X8_laziest]) (by omega) (by omega) (Or.inl rfl) (Sub.cons (lo2 := 71) (hi2 := 72) (c2 := 0) (show _ ∈ L_X8_laziest from by simp [L_X8_laziest]) (by omega) (by omega) (Or.inl rfl) (Sub.cons (lo2 := 74) (hi2 := 110) (c2 := 0) (show _ ∈ L_X8_laziest from by simp [L_X8_laziest]) (by omega) (by omega) (Or.inl rfl) Sub.nil)))))))))))
      obtain ⟨q3, e4, hz⟩ := bd hz
      have ie4 : Sub (L_X0_count q1.1) L_X8_laziest := by
        unfold L_X0_count
        exact (Sub.cons (lo2 := 72) (hi2 := 73) (c2 := 10) (show _ ∈ L_X8_laziest from by simp [L_X8_laziest]) (by omega) (by omega) (Or.inr rfl) (Sub.cons (lo2 := 72) (hi2 := 73) (c2 := 11) (show _ ∈ L_X8_laziest from by simp [L_X8_laziest]) (by omega) (by omega) (Or.inr rfl) Sub.nil))
      rcases bri hz with hz | hz
      · exact (((Sm.rf.call (fr_X8_ofLazy x1 x7 _ (z := q1) e2) ie2 (show ∀ r ∈ R_X8_ofLazy, r ∈ R_X8_laziest from by decide)).call (fr_X0_count q1.1 x2 4 x3 0 _ (z := q3) e4) ie4 (show ∀ r ∈ R_X0_count, r ∈ R_X8_laziest from by decide))).tr (fr_X8_laziest_52 ih x1 x2 x3 x7 _ hz)
      · rcases bri hz with hz | hz
        · exact (((Sm.rf.call (fr_X8_ofLazy x1 x7 _ (z := q1) e2) ie2 (show ∀ r ∈ R_X8_ofLazy, r ∈ R_X8_laziest from by decide)).call (fr_X0_count q1.1 x2 4 x3 0 _ (z := q3) e4) ie4 (show ∀ r ∈ R_X0_count, r ∈ R_X8_laziest from by decide))).tr (fr_X8_laziest_65 ih x1 x2 x3 x4 x5 x7 _ hz)
        · exact (((Sm.rf.call (fr_X8_ofLazy x1 x7 _ (z := q1) e2) ie2 (show ∀ r ∈ R_X8_ofLazy, r ∈ R_X8_laziest from by decide)).call (fr_X0_count q1.1 x2 4 x3 0 _ (z := q3) e4) ie4 (show ∀ r ∈ R_X0_count, r ∈ R_X8_laziest from by decide))).tr (fr_X8_laziest_52 ih x1 x2 x3 x7 _ hz)
theorem fr_X8_laziest (x1 : Int32) (x2 : Int32) (x3 : Int32) (w : GW) {z : Int32 × GW} : f_X8_laziest x1 x2 x3 w = some z → Sm L_X8_laziest R_X8_laziest w z.2 := by
  intro  hz
  rw [f_X8_laziest] at hz
  exact (Sm.rf).tr (fr_X8_laziest_9 fu x1 x2 x3 0 0 0 _ hz)
def L_X8_best : List (Nat × Nat × Nat) := [(0, 1, 13), (110, 111, 0), (111, 112, 0), (113, 114, 0), (114, 115, 0), (115, 116, 0), (116, 117, 1), (116, 117, 2), (116, 117, 3), (69, 70, 0), (71, 72, 0), (72, 73, 10), (72, 73, 11), (74, 110, 0)]
def R_X8_best : List Nat := [4, 5]
theorem fr_X8_best (x1 : Int32) (x2 : Int32) (x3 : Int32) (w : GW) {z : Int32 × GW} : f_X8_best x1 x2 x3 w = some z → Sm L_X8_best R_X8_best w z.2 := by
  intro  hz
  rw [f_X8_best] at hz
  obtain ⟨q1, e2, hz⟩ := bd hz
  have ie2 : Sub L_X8_isBestRefused L_X8_best := by
    unfold L_X8_isBestRefused
    exact (Sub.cons (lo2 := 0) (hi2 := 1) (c2 := 13) (show _ ∈ L_X8_best from by simp [L_X8_best]) (by omega) (by omega) (Or.inr rfl) (Sub.cons (lo2 := 116) (hi2 := 117) (c2 := 1) (show _ ∈ L_X8_best from by simp [L_X8_best]) (by omega) (by omega) (Or.inr rfl) (Sub.cons (lo2 := 116) (hi2 := 117) (c2 := 2) (show _ ∈ L_X8_best from by simp [L_X8_best]) (by omega) (by omega) (Or.inr rfl) (Sub.cons (lo2 := 116) (hi2 := 117) (c2 := 3) (show _ ∈ L_X8_best from by simp [L_X8_best]) (by omega) (by omega) (Or.inr rfl) Sub.nil))))
  rcases bri hz with hz | hz
  · obtain ⟨q3, e4, hz⟩ := bd hz
    have ie4 : Sub L_X8_laziest L_X8_best := by
      unfold L_X8_laziest
      exact (Sub.cons (lo2 := 110) (hi2 := 111) (c2 := 0) (show _ ∈ L_X8_best from by simp [L_X8_best]) (by omega) (by omega) (Or.inl rfl) (Sub.cons (lo2 := 111) (hi2 := 112) (c2 := 0) (show _ ∈ L_X8_best from by simp [L_X8_best]) (by omega) (by omega) (Or.inl rfl) (Sub.cons (lo2 := 113) (hi2 := 114) (c2 := 0) (show _ ∈ L_X8_best from by simp [L_X8_best]) (by omega) (by omega) (Or.inl rfl) (Sub.cons (lo2 := 114) (hi2 := 115) (c2 := 0) (show _ ∈ L_X8_best from by simp [L_X8_best]) (by omega) (by omega) (Or.inl rfl) (Sub.cons (lo2 := 115) (hi2 := 116) (c2 := 0) (show _ ∈ L_X8_best from by simp [L_X8_best]) (by omega) (by omega) (Or.inl rfl) (Sub.cons (lo2 := 116) (hi2 := 117) (c2 := 1) (show _ ∈ L_X8_best from by simp [L_X8_best]) (by omega) (by omega) (Or.inr rfl) (Sub.cons (lo2 := 116) (hi2 := 117) (c2 := 2) (show _ ∈ L_X8_best from by simp [L_X8_best]) (by omega) (by omega) (Or.inr rfl) (Sub.cons (lo2 := 116) (hi2 := 117) (c2 := 3) (show _ ∈ L_X8_best from by simp [L_X8_best]) (by omega) (by omega) (Or.inr rfl) (Sub.cons (lo2 := 69) (hi2 := 70) (c2 := 0) (show _ ∈ L_X8_best from by simp [L_X8_best]) (by omega) (by omega) (Or.inl rfl) (Sub.cons (lo2 := 71) (hi2 := 72) (c2 := 0) (show _ ∈ L_X8_best from by simp [L_X8_best]) (by omega) (by omega) (Or.inl rfl) (Sub.cons (lo2 := 72) (hi2 := 73) (c2 := 10) (show _ ∈ L_X8_best from by simp [L_X8_best]) (by omega) (by omega) (Or.inr rfl) (Sub.cons (lo2 := 72) (hi2 := 73) (c2 := 11) (show _ ∈ L_X8_best from by simp [L_X8_best]) (by omega) (by omega) (Or.inr rfl) (Sub.cons (lo2 := 74) (hi2 := 110) (c2 := 0) (show _ ∈ L_X8_best from by simp [L_X8_best]) (by omega) (by omega) (Or.inl rfl) Sub.nil)))))))))))))
    obtain ⟨q5, e6, hz⟩ := bd hz
    have ie6 : Sub L_X8_fine L_X8_best := by
      unfold L_X8_fine
      exact (Sub.cons (lo2 := 0) (hi2 := 1) (c2 := 13) (show _ ∈ L_X8_best from by simp [L_X8_best]) (by omega) (by omega) (Or.inr rfl) Sub.nil)
    cases hz
    exact (((Sm.rf.call (fr_X8_isBestRefused x1 x2 x3 _ (z := q1)  e2) ie2 (show ∀ r ∈ R_X8_isBestRefused, r ∈ R_X8_best from by decide)).call (fr_X8_laziest x1 x2 x3 _ (z := q3)  e4) ie4 (show ∀ r ∈ R_X8_laziest, r ∈ R_X8_best from by decide)).call (fr_X8_fine q3.1 _ (z := q5)  e6) ie6 (show ∀ r ∈ R_X8_fine, r ∈ R_X8_best from by decide))
  · cases hz
    exact (Sm.rf.call (fr_X8_isBestRefused x1 x2 x3 _ (z := q1)  e2) ie2 (show ∀ r ∈ R_X8_isBestRefused, r ∈ R_X8_best from by decide))
def L_X8_bestChance : List (Nat × Nat × Nat) := [(0, 1, 13), (110, 111, 0), (111, 112, 0), (113, 114, 0), (114, 115, 0), (115, 116, 0), (116, 117, 1), (116, 117, 2), (116, 117, 3), (69, 70, 0), (71, 72, 0), (72, 73, 10), (72, 73, 11), (74, 110, 0)]
def R_X8_bestChance : List Nat := [4, 5]
theorem fr_X8_bestChance (x1 : Int32) (x2 : Int32) (x3 : Int32) (x4 : Int32) (w : GW) {z : Int64 × GW} : f_X8_bestChance x1 x2 x3 x4 w = some z → Sm L_X8_bestChance R_X8_bestChance w z.2 := by
  intro  hz
  rw [f_X8_bestChance] at hz
  obtain ⟨q1, e2, hz⟩ := bd hz
  have ie2 : Sub L_X8_isBestRefused L_X8_bestChance := by
    unfold L_X8_isBestRefused
    exact (Sub.cons (lo2 := 0) (hi2 := 1) (c2 := 13) (show _ ∈ L_X8_bestChance from by simp [L_X8_bestChance]) (by omega) (by omega) (Or.inr rfl) (Sub.cons (lo2 := 116) (hi2 := 117) (c2 := 1) (show _ ∈ L_X8_bestChance from by simp [L_X8_bestChance]) (by omega) (by omega) (Or.inr rfl) (Sub.cons (lo2 := 116) (hi2 := 117) (c2 := 2) (show _ ∈ L_X8_bestChance from by simp [L_X8_bestChance]) (by omega) (by omega) (Or.inr rfl) (Sub.cons (lo2 := 116) (hi2 := 117) (c2 := 3) (show _ ∈ L_X8_bestChance from by simp [L_X8_bestChance]) (by omega) (by omega) (Or.inr rfl) Sub.nil))))
  rcases bri hz with hz | hz
  · obtain ⟨q3, e4, hz⟩ := bd hz
    have ie4 : Sub L_X8_laziest L_X8_bestChance := by
      unfold L_X8_laziest
      exact (Sub.cons (lo2 := 110) (hi2 := 111) (c2 := 0) (show _ ∈ L_X8_bestChance from by simp [L_X8_bestChance]) (by omega) (by omega) (Or.inl rfl) (Sub.cons (lo2 := 111) (hi2 := 112) (c2 := 0) (show _ ∈ L_X8_bestChance from by simp [L_X8_bestChance]) (by omega) (by omega) (Or.inl rfl) (Sub.cons (lo2 := 113) (hi2 := 114) (c2 := 0) (show _ ∈ L_X8_bestChance from by simp [L_X8_bestChance]) (by omega) (by omega) (Or.inl rfl) (Sub.cons (lo2 := 114) (hi2 := 115) (c2 := 0) (show _ ∈ L_X8_bestChance from by simp [L_X8_bestChance]) (by omega) (by omega) (Or.inl rfl) (Sub.cons (lo2 := 115) (hi2 := 116) (c2 := 0) (show _ ∈ L_X8_bestChance from by simp [L_X8_bestChance]) (by omega) (by omega) (Or.inl rfl) (Sub.cons (lo2 := 116) (hi2 := 117) (c2 := 1) (show _ ∈ L_X8_bestChance from by simp [L_X8_bestChance]) (by omega) (by omega) (Or.inr rfl) (Sub.cons (lo2 := 116) (hi2 := 117) (c2 := 2) (show _ ∈ L_X8_bestChance from by simp [L_X8_bestChance]) (by omega) (by omega) (Or.inr rfl) (Sub.cons (lo2 := 116) (hi2 := 117) (c2 := 3) (show _ ∈ L_X8_bestChance from by simp [L_X8_bestChance]) (by omega) (by omega) (Or.inr rfl) (Sub.cons (lo2 := 69) (hi2 := 70) (c2 := 0) (show _ ∈ L_X8_bestChance from by simp [L_X8_bestChance]) (by omega) (by omega) (Or.inl rfl) (Sub.cons (lo2 := 71) (hi2 := 72) (c2 := 0) (show _ ∈ L_X8_bestChance from by simp [L_X8_bestChance]) (by omega) (by omega) (Or.inl rfl) (Sub.cons (lo2 := 72) (hi2 := 73) (c2 := 10) (show _ ∈ L_X8_bestChance from by simp [L_X8_bestChance]) (by omega) (by omega) (Or.inr rfl) (Sub.cons (lo2 := 72) (hi2 := 73) (c2 := 11) (show _ ∈ L_X8_bestChance from by simp [L_X8_bestChance]) (by omega) (by omega) (Or.inr rfl) (Sub.cons (lo2 := 74) (hi2 := 110) (c2 := 0) (show _ ∈ L_X8_bestChance from by simp [L_X8_bestChance]) (by omega) (by omega) (Or.inl rfl) Sub.nil)))))))))))))
    obtain ⟨q5, e6, hz⟩ := bd hz
    have ie6 : Sub L_X8_ofLazy L_X8_bestChance := by
      unfold L_X8_ofLazy
      exact (Sub.cons (lo2 := 110) (hi2 := 111) (c2 := 0) (show _ ∈ L_X8_bestChance from by simp [L_X8_bestChance]) (by omega) (by omega) (Or.inl rfl) (Sub.cons (lo2 := 111) (hi2 := 112) (c2 := 0) (show _ ∈ L_X8_bestChance from by simp [L_X8_bestChance]) (by omega) (by omega) (Or.inl rfl) (Sub.cons (lo2 := 113) (hi2 := 114) (c2 := 0) (show _ ∈ L_X8_bestChance from by simp [L_X8_bestChance]) (by omega) (by omega) (Or.inl rfl) (Sub.cons (lo2 := 114) (hi2 := 115) (c2 := 0) (show _ ∈ L_X8_bestChance from by simp [L_X8_bestChance]) (by omega) (by omega) (Or.inl rfl) (Sub.cons (lo2 := 115) (hi2 := 116) (c2 := 0) (show _ ∈ L_X8_bestChance from by simp [L_X8_bestChance]) (by omega) (by omega) (Or.inl rfl) (Sub.cons (lo2 := 116) (hi2 := 117) (c2 := 1) (show _ ∈ L_X8_bestChance from by simp [L_X8_bestChance]) (by omega) (by omega) (Or.inr rfl) (Sub.cons (lo2 := 116) (hi2 := 117) (c2 := 2) (show _ ∈ L_X8_bestChance from by simp [L_X8_bestChance]) (by omega) (by omega) (Or.inr rfl) (Sub.cons (lo2 := 116) (hi2 := 117) (c2 := 3) (show _ ∈ L_X8_bestChance from by simp [L_X8_bestChance]) (by omega) (by omega) (Or.inr rfl) (Sub.cons (lo2 := 69) (hi2 := 70) (c2 := 0) (show _ ∈ L_X8_bestChance from by simp [L_X8_bestChance]) (by omega) (by omega) (Or.inl rfl) (Sub.cons (lo2 := 71) (hi2 := 72) (c2 := 0) (show _ ∈ L_X8_bestChance from by simp [L_X8_bestChance]) (by omega) (by omega) (Or.inl rfl) (Sub.cons (lo2 := 74) (hi2 := 110) (c2 := 0) (show _ ∈ L_X8_bestChance from by simp [L_X8_bestChance]) (by omega) (by omega) (Or.inl rfl) Sub.nil)))))))))))
    obtain ⟨q7, e8, hz⟩ := bd hz
    have ie8 : Sub (L_X0_count q5.1) L_X8_bestChance := by
      unfold L_X0_count
      exact (Sub.cons (lo2 := 72) (hi2 := 73) (c2 := 10) (show _ ∈ L_X8_bestChance from by simp [L_X8_bestChance]) (by omega) (by omega) (Or.inr rfl) (Sub.cons (lo2 := 72) (hi2 := 73) (c2 := 11) (show _ ∈ L_X8_bestChance from by simp [L_X8_bestChance]) (by omega) (by omega) (Or.inr rfl) Sub.nil))
    obtain ⟨q9, e10, hz⟩ := bd hz
    have ie10 : Sub L_X8_told L_X8_bestChance := by
      unfold L_X8_told
      exact (Sub.cons (lo2 := 0) (hi2 := 1) (c2 := 13) (show _ ∈ L_X8_bestChance from by simp [L_X8_bestChance]) (by omega) (by omega) (Or.inr rfl) Sub.nil)
    cases hz
    exact (((((Sm.rf.call (fr_X8_isBestRefused x1 x2 x3 _ (z := q1)  e2) ie2 (show ∀ r ∈ R_X8_isBestRefused, r ∈ R_X8_bestChance from by decide)).call (fr_X8_laziest x1 x2 x3 _ (z := q3)  e4) ie4 (show ∀ r ∈ R_X8_laziest, r ∈ R_X8_bestChance from by decide)).call (fr_X8_ofLazy x1 q3.1 _ (z := q5)  e6) ie6 (show ∀ r ∈ R_X8_ofLazy, r ∈ R_X8_bestChance from by decide)).call (fr_X0_count q5.1 x2 4 x3 0 _ (z := q7)  e8) ie8 (show ∀ r ∈ R_X0_count, r ∈ R_X8_bestChance from by decide)).call (fr_X8_told (gL q7.2 72 9) (gL q7.2 72 10) x4 _ (z := q9)  e10) ie10 (show ∀ r ∈ R_X8_told, r ∈ R_X8_bestChance from by decide))
  · cases hz
    exact (Sm.rf.call (fr_X8_isBestRefused x1 x2 x3 _ (z := q1)  e2) ie2 (show ∀ r ∈ R_X8_isBestRefused, r ∈ R_X8_bestChance from by decide))
def L_X8_likeliest : List (Nat × Nat × Nat) := [(110, 111, 0), (111, 112, 0), (113, 114, 0), (114, 115, 0), (115, 116, 0), (118, 119, 0), (120, 121, 0), (69, 70, 0), (71, 72, 0), (72, 73, 10), (72, 73, 11), (74, 110, 0)]
def R_X8_likeliest : List Nat := [4, 5]
theorem fr_X8_likeliest_205 {z : Int32 × GW} {k_70 : Int64 → Int32 → Int32 → GW → Option (Int32 × GW)} (Hk_70 : (∀ (x1 : Int64) (x3 : Int32) (x4 : Int32) (w : GW), k_70 x1 x3 x4 w = some z → Sm L_X8_likeliest R_X8_likeliest w z.2)) : (∀ (x1 : Int64) (x3 : Int32) (x4 : Int32) (w : GW), f_X8_likeliest_205 k_70 x1 x3 x4 w = some z → Sm L_X8_likeliest R_X8_likeliest w z.2) := by
  intro x1 x3 x4 w hz
  rw [f_X8_likeliest_205] at hz
  exact (Sm.rf).tr (Hk_70 x1 x3 (x4 + 1) _  hz)
theorem fr_X8_likeliest_101 {z : Int32 × GW} {k_70 : Int64 → Int32 → Int32 → GW → Option (Int32 × GW)} (Hk_70 : (∀ (x1 : Int64) (x3 : Int32) (x4 : Int32) (w : GW), k_70 x1 x3 x4 w = some z → Sm L_X8_likeliest R_X8_likeliest w z.2)) : ∀ (n9 : Nat), (∀ (x1 : Int64) (x3 : Int32) (x4 : Int32) (k5 : Nat) (x6 : Int32) (w : GW), f_X8_likeliest_101 k_70 n9 x1 x3 x4 k5 x6 w = some z → Sm L_X8_likeliest R_X8_likeliest w z.2) := by
  intro n9
  induction n9 with
  | zero =>
    intro x1 x3 x4 k5 x6 w hz
    rw [f_X8_likeliest_101] at hz
    cases hz
  | succ n9 ih =>
    intro x1 x3 x4 k5 x6 w hz
    rw [f_X8_likeliest_101] at hz
    rcases bri hz with hz | hz
    · obtain ⟨q7, e8, hz⟩ := bd hz
      have ie8 : Sub (L_X5_isAbove 117 119) L_X8_likeliest := by
        unfold L_X5_isAbove
        exact Sub.nil
      rcases bri hz with hz | hz
      · exact ((Sm.rf.call (fr_X5_isAbove 117 119 _ (z := q7) e8) ie8 (show ∀ r ∈ R_X5_isAbove, r ∈ R_X8_likeliest from by decide))).tr (fr_X8_likeliest_205 Hk_70 x1 x3 x4 _ hz)
      · obtain ⟨q9, e10, hz⟩ := bd hz
        have ie10 : Sub (L_X5_copy 119 117) L_X8_likeliest := by
          unfold L_X5_copy
          exact (Sub.cons (lo2 := 120) (hi2 := 121) (c2 := 0) (show _ ∈ L_X8_likeliest from by simp [L_X8_likeliest]) (by omega) (by omega) (Or.inl rfl) Sub.nil)
        exact (((Sm.rf.call (fr_X5_isAbove 117 119 _ (z := q7) e8) ie8 (show ∀ r ∈ R_X5_isAbove, r ∈ R_X8_likeliest from by decide)).call (fr_X5_copy 119 117 _ (z := q9) e10) ie10 (show ∀ r ∈ R_X5_copy, r ∈ R_X8_likeliest from by decide))).tr (fr_X8_likeliest_205 Hk_70 x1 x4 x4 _ hz)
    · obtain ⟨h11, hz⟩ := ck hz
      have gh11 : ix x6 < 8 := h11.2
      obtain ⟨q12, e13, hz⟩ := bd hz
      have ie13 : Sub (L_X8_pack (((fxH (gR w 0)) + 12) + 1 + ix x6)) L_X8_likeliest := by
        unfold L_X8_pack
        exact Sub.nil
      obtain ⟨q14, e15, hz⟩ := bd hz
      have ie15 : Sub (L_X0_count k5) L_X8_likeliest := by
        unfold L_X0_count
        exact (Sub.cons (lo2 := 72) (hi2 := 73) (c2 := 10) (show _ ∈ L_X8_likeliest from by simp [L_X8_likeliest]) (by omega) (by omega) (Or.inr rfl) (Sub.cons (lo2 := 72) (hi2 := 73) (c2 := 11) (show _ ∈ L_X8_likeliest from by simp [L_X8_likeliest]) (by omega) (by omega) (Or.inr rfl) Sub.nil))
      obtain ⟨q16, e17, hz⟩ := bd hz
      have ie17 : Sub L_X8_times L_X8_likeliest := by
        unfold L_X8_times
        exact Sub.nil
      obtain ⟨q18, e19, hz⟩ := bd hz
      have ie19 : Sub (L_X5_multiply 117) L_X8_likeliest := by
        unfold L_X5_multiply
        exact (Sub.cons (lo2 := 118) (hi2 := 119) (c2 := 0) (show _ ∈ L_X8_likeliest from by simp [L_X8_likeliest]) (by omega) (by omega) (Or.inl rfl) Sub.nil)
      exact (((((Sm.rf.call (fr_X8_pack (((fxH (gR w 0)) + 12) + 1 + ix x6) _ (z := q12)  e13) ie13 (show ∀ r ∈ R_X8_pack, r ∈ R_X8_likeliest from by decide)).call (fr_X0_count k5 (gI w (fxH (gR w 0)) 2) 7 q12.1 0 _ (z := q14)  e15) ie15 (show ∀ r ∈ R_X0_count, r ∈ R_X8_likeliest from by decide)).call (fr_X8_times (gL q14.2 72 10) x1 _ (z := q16)  e17) ie17 (show ∀ r ∈ R_X8_times, r ∈ R_X8_likeliest from by decide)).call (fr_X5_multiply 117 ((gL q14.2 72 9) * q16.1) _ (z := q18)  e19) ie19 (show ∀ r ∈ R_X5_multiply, r ∈ R_X8_likeliest from by decide))).tr (ih x1 x3 x4 k5 (x6 + 1) _  hz)
theorem fr_X8_likeliest_70 {z : Int32 × GW} : ∀ (n9 : Nat), (∀ (x1 : Int64) (x3 : Int32) (x4 : Int32) (w : GW), f_X8_likeliest_70 n9 x1 x3 x4 w = some z → Sm L_X8_likeliest R_X8_likeliest w z.2) := by
  intro n9
  induction n9 with
  | zero =>
    intro x1 x3 x4 w hz
    rw [f_X8_likeliest_70] at hz
    cases hz
  | succ n9 ih =>
    intro x1 x3 x4 w hz
    rw [f_X8_likeliest_70] at hz
    rcases bri hz with hz | hz
    · cases hz
      exact Sm.rf
    · obtain ⟨q3, e4, hz⟩ := bd hz
      have ie4 : Sub (L_X5_become 117) L_X8_likeliest := by
        unfold L_X5_become
        exact (Sub.cons (lo2 := 118) (hi2 := 119) (c2 := 0) (show _ ∈ L_X8_likeliest from by simp [L_X8_likeliest]) (by omega) (by omega) (Or.inl rfl) Sub.nil)
      obtain ⟨q5, e6, hz⟩ := bd hz
      have ie6 : Sub L_X8_ofPorter L_X8_likeliest := by
        unfold L_X8_ofPorter
        exact (Sub.cons (lo2 := 110) (hi2 := 111) (c2 := 0) (show _ ∈ L_X8_likeliest from by simp [L_X8_likeliest]) (by omega) (by omega) (Or.inl rfl) (Sub.cons (lo2 := 111) (hi2 := 112) (c2 := 0) (show _ ∈ L_X8_likeliest from by simp [L_X8_likeliest]) (by omega) (by omega) (Or.inl rfl) (Sub.cons (lo2 := 113) (hi2 := 114) (c2 := 0) (show _ ∈ L_X8_likeliest from by simp [L_X8_likeliest]) (by omega) (by omega) (Or.inl rfl) (Sub.cons (lo2 := 114) (hi2 := 115) (c2 := 0) (show _ ∈ L_X8_likeliest from by simp [L_X8_likeliest]) (by omega) (by omega) (Or.inl rfl) (Sub.cons (lo2 := 115) (hi2 := 116) (c2 := 0) (show _ ∈ L_X8_likeliest from by simp [L_X8_likeliest]) (by omega) (by omega) (Or.inl rfl) (Sub.cons (lo2 := 69) (hi2 := 70) (c2 := 0) (show _ ∈ L_X8_likeliest from by simp [L_X8_likeliest]) (by omega) (by omega) (Or.inl rfl) (Sub.cons (lo2 := 71) (hi2 := 72) (c2 := 0) (show _ ∈ L_X8_likeliest from by simp [L_X8_likeliest]) (by omega) (by omega) (Or.inl rfl) (Sub.cons (lo2 := 74) (hi2 := 110) (c2 := 0) (show _ ∈ L_X8_likeliest from by simp [L_X8_likeliest]) (by omega) (by omega) (Or.inl rfl) Sub.nil))))))))
      exact (((Sm.rf.call (fr_X5_become 117 1 _ (z := q3) e4) ie4 (show ∀ r ∈ R_X5_become, r ∈ R_X8_likeliest from by decide)).call (fr_X8_ofPorter x4 _ (z := q5) e6) ie6 (show ∀ r ∈ R_X8_ofPorter, r ∈ R_X8_likeliest from by decide))).tr (fr_X8_likeliest_101 ih fu x1 x3 x4 q5.1 0 _ hz)
theorem fr_X8_likeliest_4 {z : Int32 × GW} : ∀ (n9 : Nat), (∀ (x1 : Int64) (x3 : Int32) (w : GW), f_X8_likeliest_4 n9 x1 x3 w = some z → Sm L_X8_likeliest R_X8_likeliest w z.2) := by
  intro n9
  induction n9 with
  | zero =>
    intro x1 x3 w hz
    rw [f_X8_likeliest_4] at hz
    cases hz
  | succ n9 ih =>
    intro x1 x3 w hz
    rw [f_X8_likeliest_4] at hz
    rcases bri hz with hz | hz
    · obtain ⟨q1, e2, hz⟩ := bd hz
      have ie2 : Sub (L_X5_become 119) L_X8_likeliest := by
        unfold L_X5_become
        exact (Sub.cons (lo2 := 120) (hi2 := 121) (c2 := 0) (show _ ∈ L_X8_likeliest from by simp [L_X8_likeliest]) (by omega) (by omega) (Or.inl rfl) Sub.nil)
      exact ((Sm.rf.call (fr_X5_become 119 0 _ (z := q1) e2) ie2 (show ∀ r ∈ R_X5_become, r ∈ R_X8_likeliest from by decide))).tr (fr_X8_likeliest_70 fu x1 (-2) 0 _ hz)
    · obtain ⟨q20, e21, hz⟩ := bd hz
      have ie21 : Sub L_X8_ofPorter L_X8_likeliest := by
        unfold L_X8_ofPorter
        exact (Sub.cons (lo2 := 110) (hi2 := 111) (c2 := 0) (show _ ∈ L_X8_likeliest from by simp [L_X8_likeliest]) (by omega) (by omega) (Or.inl rfl) (Sub.cons (lo2 := 111) (hi2 := 112) (c2 := 0) (show _ ∈ L_X8_likeliest from by simp [L_X8_likeliest]) (by omega) (by omega) (Or.inl rfl) (Sub.cons (lo2 := 113) (hi2 := 114) (c2 := 0) (show _ ∈ L_X8_likeliest from by simp [L_X8_likeliest]) (by omega) (by omega) (Or.inl rfl) (Sub.cons (lo2 := 114) (hi2 := 115) (c2 := 0) (show _ ∈ L_X8_likeliest from by simp [L_X8_likeliest]) (by omega) (by omega) (Or.inl rfl) (Sub.cons (lo2 := 115) (hi2 := 116) (c2 := 0) (show _ ∈ L_X8_likeliest from by simp [L_X8_likeliest]) (by omega) (by omega) (Or.inl rfl) (Sub.cons (lo2 := 69) (hi2 := 70) (c2 := 0) (show _ ∈ L_X8_likeliest from by simp [L_X8_likeliest]) (by omega) (by omega) (Or.inl rfl) (Sub.cons (lo2 := 71) (hi2 := 72) (c2 := 0) (show _ ∈ L_X8_likeliest from by simp [L_X8_likeliest]) (by omega) (by omega) (Or.inl rfl) (Sub.cons (lo2 := 74) (hi2 := 110) (c2 := 0) (show _ ∈ L_X8_likeliest from by simp [L_X8_likeliest]) (by omega) (by omega) (Or.inl rfl) Sub.nil))))))))
      obtain ⟨q22, e23, hz⟩ := bd hz
      have ie23 : Sub (L_X0_count q20.1) L_X8_likeliest := by
        unfold L_X0_count
        exact (Sub.cons (lo2 := 72) (hi2 := 73) (c2 := 10) (show _ ∈ L_X8_likeliest from by simp [L_X8_likeliest]) (by omega) (by omega) (Or.inr rfl) (Sub.cons (lo2 := 72) (hi2 := 73) (c2 := 11) (show _ ∈ L_X8_likeliest from by simp [L_X8_likeliest]) (by omega) (by omega) (Or.inr rfl) Sub.nil))
      exact (((Sm.rf.call (fr_X8_ofPorter x3 _ (z := q20)  e21) ie21 (show ∀ r ∈ R_X8_ofPorter, r ∈ R_X8_likeliest from by decide)).call (fr_X0_count q20.1 (gI q20.2 (fxH (gR q20.2 0)) 2) 7 0 0 _ (z := q22)  e23) ie23 (show ∀ r ∈ R_X0_count, r ∈ R_X8_likeliest from by decide))).tr (ih (jmaxl x1 (gL q22.2 72 10)) (x3 + 1) _  hz)
theorem fr_X8_likeliest  (w : GW) {z : Int32 × GW} : f_X8_likeliest w = some z → Sm L_X8_likeliest R_X8_likeliest w z.2 := by
  intro  hz
  rw [f_X8_likeliest] at hz
  exact (Sm.rf).tr (fr_X8_likeliest_4 fu 0 0 _ hz)
def L_X8_likely : List (Nat × Nat × Nat) := [(0, 1, 13), (110, 111, 0), (111, 112, 0), (113, 114, 0), (114, 115, 0), (115, 116, 0), (118, 119, 0), (120, 121, 0), (69, 70, 0), (71, 72, 0), (72, 73, 10), (72, 73, 11), (74, 110, 0)]
def R_X8_likely : List Nat := [4, 5]
theorem fr_X8_likely_35 {z : Int32 × GW} : ∀ (n9 : Nat), (∀ (x1 : Int32) (w : GW), f_X8_likely_35 n9 x1 w = some z → Sm L_X8_likely R_X8_likely w z.2) := by
  intro n9
  induction n9 with
  | zero =>
    intro x1 w hz
    rw [f_X8_likely_35] at hz
    cases hz
  | succ n9 ih =>
    intro x1 w hz
    rw [f_X8_likely_35] at hz
    rcases bri hz with hz | hz
    · obtain ⟨q1, e2, hz⟩ := bd hz
      have ie2 : Sub L_X8_likeliest L_X8_likely := by
        unfold L_X8_likeliest
        exact (Sub.cons (lo2 := 110) (hi2 := 111) (c2 := 0) (show _ ∈ L_X8_likely from by simp [L_X8_likely]) (by omega) (by omega) (Or.inl rfl) (Sub.cons (lo2 := 111) (hi2 := 112) (c2 := 0) (show _ ∈ L_X8_likely from by simp [L_X8_likely]) (by omega) (by omega) (Or.inl rfl) (Sub.cons (lo2 := 113) (hi2 := 114) (c2 := 0) (show _ ∈ L_X8_likely from by simp [L_X8_likely]) (by omega) (by omega) (Or.inl rfl) (Sub.cons (lo2 := 114) (hi2 := 115) (c2 := 0) (show _ ∈ L_X8_likely from by simp [L_X8_likely]) (by omega) (by omega) (Or.inl rfl) (Sub.cons (lo2 := 115) (hi2 := 116) (c2 := 0) (show _ ∈ L_X8_likely from by simp [L_X8_likely]) (by omega) (by omega) (Or.inl rfl) (Sub.cons (lo2 := 118) (hi2 := 119) (c2 := 0) (show _ ∈ L_X8_likely from by simp [L_X8_likely]) (by omega) (by omega) (Or.inl rfl) (Sub.cons (lo2 := 120) (hi2 := 121) (c2 := 0) (show _ ∈ L_X8_likely from by simp [L_X8_likely]) (by omega) (by omega) (Or.inl rfl) (Sub.cons (lo2 := 69) (hi2 := 70) (c2 := 0) (show _ ∈ L_X8_likely from by simp [L_X8_likely]) (by omega) (by omega) (Or.inl rfl) (Sub.cons (lo2 := 71) (hi2 := 72) (c2 := 0) (show _ ∈ L_X8_likely from by simp [L_X8_likely]) (by omega) (by omega) (Or.inl rfl) (Sub.cons (lo2 := 72) (hi2 := 73) (c2 := 10) (show _ ∈ L_X8_likely from by simp [L_X8_likely]) (by omega) (by omega) (Or.inr rfl) (Sub.cons (lo2 := 72) (hi2 := 73) (c2 := 11) (show _ ∈ L_X8_likely from by simp [L_X8_likely]) (by omega) (by omega) (Or.inr rfl) (Sub.cons (lo2 := 74) (hi2 := 110) (c2 := 0) (show _ ∈ L_X8_likely from by simp [L_X8_likely]) (by omega) (by omega) (Or.inl rfl) Sub.nil))))))))))))
      obtain ⟨q3, e4, hz⟩ := bd hz
      have ie4 : Sub L_X8_fine L_X8_likely := by
        unfold L_X8_fine
        exact (Sub.cons (lo2 := 0) (hi2 := 1) (c2 := 13) (show _ ∈ L_X8_likely from by simp [L_X8_likely]) (by omega) (by omega) (Or.inr rfl) Sub.nil)
      cases hz
      exact ((Sm.rf.call (fr_X8_likeliest  _ (z := q1)  e2) ie2 (show ∀ r ∈ R_X8_likeliest, r ∈ R_X8_likely from by decide)).call (fr_X8_fine q1.1 _ (z := q3)  e4) ie4 (show ∀ r ∈ R_X8_fine, r ∈ R_X8_likely from by decide))
    · obtain ⟨q5, e6, hz⟩ := bd hz
      have ie6 : Sub L_X8_isTooMany L_X8_likely := by
        unfold L_X8_isTooMany
        exact Sub.nil
      rcases bri hz with hz | hz
      · exact ((Sm.rf.call (fr_X8_isTooMany x1 (gI w (fxH (gR w 0)) 2) _ (z := q5)  e6) ie6 (show ∀ r ∈ R_X8_isTooMany, r ∈ R_X8_likely from by decide))).tr (ih (x1 + 1) _  hz)
      · obtain ⟨q7, e8, hz⟩ := bd hz
        have ie8 : Sub L_X8_refuse L_X8_likely := by
          unfold L_X8_refuse
          exact (Sub.cons (lo2 := 0) (hi2 := 1) (c2 := 13) (show _ ∈ L_X8_likely from by simp [L_X8_likely]) (by omega) (by omega) (Or.inr rfl) Sub.nil)
        cases hz
        exact ((Sm.rf.call (fr_X8_isTooMany x1 (gI w (fxH (gR w 0)) 2) _ (z := q5)  e6) ie6 (show ∀ r ∈ R_X8_isTooMany, r ∈ R_X8_likely from by decide)).call (fr_X8_refuse 3 _ (z := q7)  e8) ie8 (show ∀ r ∈ R_X8_refuse, r ∈ R_X8_likely from by decide))
theorem fr_X8_likely  (w : GW) {z : Int32 × GW} : f_X8_likely w = some z → Sm L_X8_likely R_X8_likely w z.2 := by
  intro  hz
  rw [f_X8_likely] at hz
  rcases bri hz with hz | hz
  · obtain ⟨q11, e12, hz⟩ := bd hz
    have ie12 : Sub L_X8_refuse L_X8_likely := by
      unfold L_X8_refuse
      exact (Sub.cons (lo2 := 0) (hi2 := 1) (c2 := 13) (show _ ∈ L_X8_likely from by simp [L_X8_likely]) (by omega) (by omega) (Or.inr rfl) Sub.nil)
    cases hz
    exact (Sm.rf.call (fr_X8_refuse 1 _ (z := q11)  e12) ie12 (show ∀ r ∈ R_X8_refuse, r ∈ R_X8_likely from by decide))
  · rcases bri hz with hz | hz
    · obtain ⟨q9, e10, hz⟩ := bd hz
      have ie10 : Sub L_X8_refuse L_X8_likely := by
        unfold L_X8_refuse
        exact (Sub.cons (lo2 := 0) (hi2 := 1) (c2 := 13) (show _ ∈ L_X8_likely from by simp [L_X8_likely]) (by omega) (by omega) (Or.inr rfl) Sub.nil)
      cases hz
      exact (Sm.rf.call (fr_X8_refuse 6 _ (z := q9)  e10) ie10 (show ∀ r ∈ R_X8_refuse, r ∈ R_X8_likely from by decide))
    · exact (Sm.rf).tr (fr_X8_likely_35 fu 0 _ hz)
def L_X8_cannot : List (Nat × Nat × Nat) := [(0, 1, 13), (110, 111, 0), (111, 112, 0), (113, 114, 0), (114, 115, 0), (115, 116, 0), (69, 70, 0), (71, 72, 0), (72, 73, 10), (72, 73, 11), (74, 110, 0)]
def R_X8_cannot : List Nat := [4, 5]
theorem fr_X8_cannot_108 {z : Int32 × GW} {k_46 : Nat → Int32 → Int32 → GW → Option (Int32 × GW)} (Hk_46 : (∀ (k2 : Nat) (x3 : Int32) (x4 : Int32) (w : GW), k_46 k2 x3 x4 w = some z → Sm L_X8_cannot R_X8_cannot w z.2)) : (∀ (k2 : Nat) (x3 : Int32) (x4 : Int32) (w : GW), f_X8_cannot_108 k_46 k2 x3 x4 w = some z → Sm L_X8_cannot R_X8_cannot w z.2) := by
  intro k2 x3 x4 w hz
  rw [f_X8_cannot_108] at hz
  exact (Sm.rf).tr (Hk_46 k2 x3 (x4 + 1) _  hz)
theorem fr_X8_cannot_46 {z : Int32 × GW} : ∀ (n9 : Nat), (∀ (k2 : Nat) (x3 : Int32) (x4 : Int32) (w : GW), f_X8_cannot_46 n9 k2 x3 x4 w = some z → Sm L_X8_cannot R_X8_cannot w z.2) := by
  intro n9
  induction n9 with
  | zero =>
    intro k2 x3 x4 w hz
    rw [f_X8_cannot_46] at hz
    cases hz
  | succ n9 ih =>
    intro k2 x3 x4 w hz
    rw [f_X8_cannot_46] at hz
    rcases bri hz with hz | hz
    · obtain ⟨q7, e8, hz⟩ := bd hz
      have ie8 : Sub L_X8_fine L_X8_cannot := by
        unfold L_X8_fine
        exact (Sub.cons (lo2 := 0) (hi2 := 1) (c2 := 13) (show _ ∈ L_X8_cannot from by simp [L_X8_cannot]) (by omega) (by omega) (Or.inr rfl) Sub.nil)
      cases hz
      exact (Sm.rf.call (fr_X8_fine x3 _ (z := q7)  e8) ie8 (show ∀ r ∈ R_X8_fine, r ∈ R_X8_cannot from by decide))
    · obtain ⟨h9, hz⟩ := ck hz
      have gh9 : ix x4 < 8 := h9.2
      obtain ⟨q10, e11, hz⟩ := bd hz
      have ie11 : Sub (L_X8_pack (((fxH (gR w 0)) + 12) + 1 + ix x4)) L_X8_cannot := by
        unfold L_X8_pack
        exact Sub.nil
      obtain ⟨q12, e13, hz⟩ := bd hz
      have ie13 : Sub (L_X0_count k2) L_X8_cannot := by
        unfold L_X0_count
        exact (Sub.cons (lo2 := 72) (hi2 := 73) (c2 := 10) (show _ ∈ L_X8_cannot from by simp [L_X8_cannot]) (by omega) (by omega) (Or.inr rfl) (Sub.cons (lo2 := 72) (hi2 := 73) (c2 := 11) (show _ ∈ L_X8_cannot from by simp [L_X8_cannot]) (by omega) (by omega) (Or.inr rfl) Sub.nil))
      rcases bri hz with hz | hz
      · exact (((Sm.rf.call (fr_X8_pack (((fxH (gR w 0)) + 12) + 1 + ix x4) _ (z := q10) e11) ie11 (show ∀ r ∈ R_X8_pack, r ∈ R_X8_cannot from by decide)).call (fr_X0_count k2 (gI w (fxH (gR w 0)) 2) 7 q10.1 0 _ (z := q12) e13) ie13 (show ∀ r ∈ R_X0_count, r ∈ R_X8_cannot from by decide))).tr (fr_X8_cannot_108 ih k2 (x3 ||| ((1 : Int32) <<< (x4 &&& 31))) x4 _ hz)
      · exact (((Sm.rf.call (fr_X8_pack (((fxH (gR w 0)) + 12) + 1 + ix x4) _ (z := q10) e11) ie11 (show ∀ r ∈ R_X8_pack, r ∈ R_X8_cannot from by decide)).call (fr_X0_count k2 (gI w (fxH (gR w 0)) 2) 7 q10.1 0 _ (z := q12) e13) ie13 (show ∀ r ∈ R_X0_count, r ∈ R_X8_cannot from by decide))).tr (fr_X8_cannot_108 ih k2 x3 x4 _ hz)
theorem fr_X8_cannot (x1 : Int32) (w : GW) {z : Int32 × GW} : f_X8_cannot x1 w = some z → Sm L_X8_cannot R_X8_cannot w z.2 := by
  intro  hz
  rw [f_X8_cannot] at hz
  obtain ⟨q1, e2, hz⟩ := bd hz
  have ie2 : Sub L_X8_isPorter L_X8_cannot := by
    unfold L_X8_isPorter
    exact Sub.nil
  rcases bri hz with hz | hz
  · obtain ⟨q16, e17, hz⟩ := bd hz
    have ie17 : Sub L_X8_refuse L_X8_cannot := by
      unfold L_X8_refuse
      exact (Sub.cons (lo2 := 0) (hi2 := 1) (c2 := 13) (show _ ∈ L_X8_cannot from by simp [L_X8_cannot]) (by omega) (by omega) (Or.inr rfl) Sub.nil)
    cases hz
    exact ((Sm.rf.call (fr_X8_isPorter x1 _ (z := q1)  e2) ie2 (show ∀ r ∈ R_X8_isPorter, r ∈ R_X8_cannot from by decide)).call (fr_X8_refuse 1 _ (z := q16)  e17) ie17 (show ∀ r ∈ R_X8_refuse, r ∈ R_X8_cannot from by decide))
  · obtain ⟨q3, e4, hz⟩ := bd hz
    have ie4 : Sub L_X8_isTooMany L_X8_cannot := by
      unfold L_X8_isTooMany
      exact Sub.nil
    rcases bri hz with hz | hz
    · obtain ⟨q5, e6, hz⟩ := bd hz
      have ie6 : Sub L_X8_ofPorter L_X8_cannot := by
        unfold L_X8_ofPorter
        exact (Sub.cons (lo2 := 110) (hi2 := 111) (c2 := 0) (show _ ∈ L_X8_cannot from by simp [L_X8_cannot]) (by omega) (by omega) (Or.inl rfl) (Sub.cons (lo2 := 111) (hi2 := 112) (c2 := 0) (show _ ∈ L_X8_cannot from by simp [L_X8_cannot]) (by omega) (by omega) (Or.inl rfl) (Sub.cons (lo2 := 113) (hi2 := 114) (c2 := 0) (show _ ∈ L_X8_cannot from by simp [L_X8_cannot]) (by omega) (by omega) (Or.inl rfl) (Sub.cons (lo2 := 114) (hi2 := 115) (c2 := 0) (show _ ∈ L_X8_cannot from by simp [L_X8_cannot]) (by omega) (by omega) (Or.inl rfl) (Sub.cons (lo2 := 115) (hi2 := 116) (c2 := 0) (show _ ∈ L_X8_cannot from by simp [L_X8_cannot]) (by omega) (by omega) (Or.inl rfl) (Sub.cons (lo2 := 69) (hi2 := 70) (c2 := 0) (show _ ∈ L_X8_cannot from by simp [L_X8_cannot]) (by omega) (by omega) (Or.inl rfl) (Sub.cons (lo2 := 71) (hi2 := 72) (c2 := 0) (show _ ∈ L_X8_cannot from by simp [L_X8_cannot]) (by omega) (by omega) (Or.inl rfl) (Sub.cons (lo2 := 74) (hi2 := 110) (c2 := 0) (show _ ∈ L_X8_cannot from by simp [L_X8_cannot]) (by omega) (by omega) (Or.inl rfl) Sub.nil))))))))
      exact ((((Sm.rf.call (fr_X8_isPorter x1 _ (z := q1) e2) ie2 (show ∀ r ∈ R_X8_isPorter, r ∈ R_X8_cannot from by decide)).call (fr_X8_isTooMany x1 (gI q1.2 (fxH (gR q1.2 0)) 2) _ (z := q3) e4) ie4 (show ∀ r ∈ R_X8_isTooMany, r ∈ R_X8_cannot from by decide)).call (fr_X8_ofPorter x1 _ (z := q5) e6) ie6 (show ∀ r ∈ R_X8_ofPorter, r ∈ R_X8_cannot from by decide))).tr (fr_X8_cannot_46 fu q5.1 0 0 _ hz)
    · obtain ⟨q14, e15, hz⟩ := bd hz
      have ie15 : Sub L_X8_refuse L_X8_cannot := by
        unfold L_X8_refuse
        exact (Sub.cons (lo2 := 0) (hi2 := 1) (c2 := 13) (show _ ∈ L_X8_cannot from by simp [L_X8_cannot]) (by omega) (by omega) (Or.inr rfl) Sub.nil)
      cases hz
      exact (((Sm.rf.call (fr_X8_isPorter x1 _ (z := q1)  e2) ie2 (show ∀ r ∈ R_X8_isPorter, r ∈ R_X8_cannot from by decide)).call (fr_X8_isTooMany x1 (gI q1.2 (fxH (gR q1.2 0)) 2) _ (z := q3)  e4) ie4 (show ∀ r ∈ R_X8_isTooMany, r ∈ R_X8_cannot from by decide)).call (fr_X8_refuse 3 _ (z := q14)  e15) ie15 (show ∀ r ∈ R_X8_refuse, r ∈ R_X8_cannot from by decide))
def L_X8_day : List (Nat × Nat × Nat) := [(0, 1, 13), (121, 122, 1), (121, 122, 2), (121, 122, 3), (121, 122, 4), (121, 122, 5), (122, 123, 0)]
def R_X8_day : List Nat := []
theorem fr_X8_day_28 {z : Int32 × GW} : (∀ (x1 : Int32) (x2 : Int32) (t0 : Int32) (w : GW), f_X8_day_28 x1 x2 t0 w = some z → Sm L_X8_day R_X8_day w z.2) := by
  intro x1 x2 t0 w hz
  rw [f_X8_day_28] at hz
  rcases bri hz with hz | hz
  · obtain ⟨q3, e4, hz⟩ := bd hz
    have ie4 : Sub (L_X2_begin 121) L_X8_day := by
      unfold L_X2_begin
      exact (Sub.cons (lo2 := 122) (hi2 := 123) (c2 := 0) (show _ ∈ L_X8_day from by simp [L_X8_day]) (by omega) (by omega) (Or.inl rfl) (Sub.cons (lo2 := 121) (hi2 := 122) (c2 := 1) (show _ ∈ L_X8_day from by simp [L_X8_day]) (by omega) (by omega) (Or.inr rfl) (Sub.cons (lo2 := 121) (hi2 := 122) (c2 := 2) (show _ ∈ L_X8_day from by simp [L_X8_day]) (by omega) (by omega) (Or.inr rfl) (Sub.cons (lo2 := 121) (hi2 := 122) (c2 := 3) (show _ ∈ L_X8_day from by simp [L_X8_day]) (by omega) (by omega) (Or.inr rfl) (Sub.cons (lo2 := 121) (hi2 := 122) (c2 := 4) (show _ ∈ L_X8_day from by simp [L_X8_day]) (by omega) (by omega) (Or.inr rfl) (Sub.cons (lo2 := 121) (hi2 := 122) (c2 := 5) (show _ ∈ L_X8_day from by simp [L_X8_day]) (by omega) (by omega) (Or.inr rfl) Sub.nil))))))
    cases hz
    exact ((Sm.rf.wI (lo := 0) (hi := 1) (c9 := 13) (show _ ∈ L_X8_day from by simp [L_X8_day]) (by decide) (by decide) (Or.inr rfl)).call (fr_X2_begin 121 x1 x2 _ (z := q3)  e4) ie4 (show ∀ r ∈ R_X2_begin, r ∈ R_X8_day from by decide))
  · cases hz
    exact (Sm.rf.wI (lo := 0) (hi := 1) (c9 := 13) (show _ ∈ L_X8_day from by simp [L_X8_day]) (by decide) (by decide) (Or.inr rfl))
theorem fr_X8_day_23 {z : Int32 × GW} : (∀ (x1 : Int32) (x2 : Int32) (w : GW), f_X8_day_23 x1 x2 w = some z → Sm L_X8_day R_X8_day w z.2) := by
  intro x1 x2 w hz
  rw [f_X8_day_23] at hz
  exact (Sm.rf).tr (fr_X8_day_28 x1 x2 2 _ hz)
theorem fr_X8_day (x1 : Int32) (x2 : Int32) (w : GW) {z : Int32 × GW} : f_X8_day x1 x2 w = some z → Sm L_X8_day R_X8_day w z.2 := by
  intro  hz
  rw [f_X8_day] at hz
  obtain ⟨q1, e2, hz⟩ := bd hz
  have ie2 : Sub L_X8_isPorter L_X8_day := by
    unfold L_X8_isPorter
    exact Sub.nil
  rcases bri hz with hz | hz
  · exact ((Sm.rf.call (fr_X8_isPorter x1 _ (z := q1) e2) ie2 (show ∀ r ∈ R_X8_isPorter, r ∈ R_X8_day from by decide))).tr (fr_X8_day_28 x1 x2 1 _ hz)
  · rcases bri hz with hz | hz
    · exact ((Sm.rf.call (fr_X8_isPorter x1 _ (z := q1) e2) ie2 (show ∀ r ∈ R_X8_isPorter, r ∈ R_X8_day from by decide))).tr (fr_X8_day_23 x1 x2 _ hz)
    · rcases bri hz with hz | hz
      · exact ((Sm.rf.call (fr_X8_isPorter x1 _ (z := q1) e2) ie2 (show ∀ r ∈ R_X8_isPorter, r ∈ R_X8_day from by decide))).tr (fr_X8_day_28 x1 x2 0 _ hz)
      · exact ((Sm.rf.call (fr_X8_isPorter x1 _ (z := q1) e2) ie2 (show ∀ r ∈ R_X8_isPorter, r ∈ R_X8_day from by decide))).tr (fr_X8_day_23 x1 x2 _ hz)
def L_X8_put : List (Nat × Nat × Nat) := [(0, 1, 13), (121, 122, 2), (121, 122, 3), (121, 122, 4), (121, 122, 5), (122, 123, 0), (69, 70, 0), (70, 71, 0)]
def R_X8_put : List Nat := [4, 5]
theorem fr_X8_put_27 {z : Int32 × GW} : (∀ (w : GW), f_X8_put_27 w = some z → Sm L_X8_put R_X8_put w z.2) := by
  intro w hz
  rw [f_X8_put_27] at hz
  obtain ⟨q1, e2, hz⟩ := bd hz
  have ie2 : Sub L_X8_refuse L_X8_put := by
    unfold L_X8_refuse
    exact (Sub.cons (lo2 := 0) (hi2 := 1) (c2 := 13) (show _ ∈ L_X8_put from by simp [L_X8_put]) (by omega) (by omega) (Or.inr rfl) Sub.nil)
  cases hz
  exact (Sm.rf.call (fr_X8_refuse 2 _ (z := q1)  e2) ie2 (show ∀ r ∈ R_X8_refuse, r ∈ R_X8_put from by decide))
theorem fr_X8_put_105 {z : Int32 × GW} : ∀ (n9 : Nat), (∀ (x2 : Int32) (x3 : Int32) (w : GW), f_X8_put_105 n9 x2 x3 w = some z → Sm L_X8_put R_X8_put w z.2) := by
  intro n9
  induction n9 with
  | zero =>
    intro x2 x3 w hz
    rw [f_X8_put_105] at hz
    cases hz
  | succ n9 ih =>
    intro x2 x3 w hz
    rw [f_X8_put_105] at hz
    rcases bri hz with hz | hz
    · obtain ⟨q6, e7, hz⟩ := bd hz
      have ie7 : Sub L_X8_fine L_X8_put := by
        unfold L_X8_fine
        exact (Sub.cons (lo2 := 0) (hi2 := 1) (c2 := 13) (show _ ∈ L_X8_put from by simp [L_X8_put]) (by omega) (by omega) (Or.inr rfl) Sub.nil)
      cases hz
      exact (Sm.rf.call (fr_X8_fine x2 _ (z := q6)  e7) ie7 (show ∀ r ∈ R_X8_fine, r ∈ R_X8_put from by decide))
    · obtain ⟨q8, e9, hz⟩ := bd hz
      have ie9 : Sub (L_X1_putByDraws 121) L_X8_put := by
        unfold L_X1_putByDraws
        exact (Sub.cons (lo2 := 122) (hi2 := 123) (c2 := 0) (show _ ∈ L_X8_put from by simp [L_X8_put]) (by omega) (by omega) (Or.inl rfl) (Sub.cons (lo2 := 70) (hi2 := 71) (c2 := 0) (show _ ∈ L_X8_put from by simp [L_X8_put]) (by omega) (by omega) (Or.inl rfl) (Sub.cons (lo2 := 121) (hi2 := 122) (c2 := 2) (show _ ∈ L_X8_put from by simp [L_X8_put]) (by omega) (by omega) (Or.inr rfl) (Sub.cons (lo2 := 121) (hi2 := 122) (c2 := 3) (show _ ∈ L_X8_put from by simp [L_X8_put]) (by omega) (by omega) (Or.inr rfl) (Sub.cons (lo2 := 121) (hi2 := 122) (c2 := 4) (show _ ∈ L_X8_put from by simp [L_X8_put]) (by omega) (by omega) (Or.inr rfl) (Sub.cons (lo2 := 121) (hi2 := 122) (c2 := 5) (show _ ∈ L_X8_put from by simp [L_X8_put]) (by omega) (by omega) (Or.inr rfl) Sub.nil))))))
      exact ((Sm.rf.call (fr_X1_putByDraws 121 _ (z := q8)  e9) ie9 (show ∀ r ∈ R_X1_putByDraws, r ∈ R_X8_put from by decide))).tr (ih x2 (x3 + 1) _  hz)
theorem fr_X8_put (x1 : Int32) (w : GW) {z : Int32 × GW} : f_X8_put x1 w = some z → Sm L_X8_put R_X8_put w z.2 := by
  intro  hz
  rw [f_X8_put] at hz
  rcases bri hz with hz | hz
  · obtain ⟨q12, e13, hz⟩ := bd hz
    have ie13 : Sub L_X8_refuse L_X8_put := by
      unfold L_X8_refuse
      exact (Sub.cons (lo2 := 0) (hi2 := 1) (c2 := 13) (show _ ∈ L_X8_put from by simp [L_X8_put]) (by omega) (by omega) (Or.inr rfl) Sub.nil)
    cases hz
    exact (Sm.rf.call (fr_X8_refuse 1 _ (z := q12)  e13) ie13 (show ∀ r ∈ R_X8_refuse, r ∈ R_X8_put from by decide))
  · rcases bri hz with hz | hz
    · exact (Sm.rf).tr (fr_X8_put_27 _ hz)
    · rcases bri hz with hz | hz
      · rcases bri hz with hz | hz
        · obtain ⟨h3, hz⟩ := ck hz
          have gh3 : ix (gI w 121 0) < 6 := h3.2
          obtain ⟨q4, e5, hz⟩ := bd hz
          have ie5 : Sub (L_X1_ready (fxH (gR w 0)) (((fxH (gR w 0)) + 4) + 1 + ix (gI w 121 0))) L_X8_put := by
            unfold L_X1_ready
            exact (Sub.cons (lo2 := 69) (hi2 := 70) (c2 := 0) (show _ ∈ L_X8_put from by simp [L_X8_put]) (by omega) (by omega) (Or.inl rfl) Sub.nil)
          exact ((Sm.rf.call (fr_X1_ready (fxH (gR w 0)) (((fxH (gR w 0)) + 4) + 1 + ix (gI w 121 0)) _ (z := q4) e5) ie5 (show ∀ r ∈ R_X1_ready, r ∈ R_X8_put from by decide))).tr (fr_X8_put_105 fu (jmin x1 ((gI q4.2 (fxH (gR q4.2 0)) 2) - (gI q4.2 121 2))) 0 _ hz)
        · obtain ⟨q10, e11, hz⟩ := bd hz
          have ie11 : Sub L_X8_refuse L_X8_put := by
            unfold L_X8_refuse
            exact (Sub.cons (lo2 := 0) (hi2 := 1) (c2 := 13) (show _ ∈ L_X8_put from by simp [L_X8_put]) (by omega) (by omega) (Or.inr rfl) Sub.nil)
          cases hz
          exact (Sm.rf.call (fr_X8_refuse 6 _ (z := q10)  e11) ie11 (show ∀ r ∈ R_X8_refuse, r ∈ R_X8_put from by decide))
      · exact (Sm.rf).tr (fr_X8_put_27 _ hz)
def L_X8_isNextRefused : List (Nat × Nat × Nat) := [(0, 1, 13)]
def R_X8_isNextRefused : List Nat := []
theorem fr_X8_isNextRefused_36 {z : Int32 × GW} : (∀ (t0 : Int32) (w : GW), f_X8_isNextRefused_36 t0 w = some z → Sm L_X8_isNextRefused R_X8_isNextRefused w z.2) := by
  intro t0 w hz
  rw [f_X8_isNextRefused_36] at hz
  rcases bri hz with hz | hz
  · cases hz
    exact (Sm.rf.wI (lo := 0) (hi := 1) (c9 := 13) (show _ ∈ L_X8_isNextRefused from by simp [L_X8_isNextRefused]) (by decide) (by decide) (Or.inr rfl))
  · cases hz
    exact (Sm.rf.wI (lo := 0) (hi := 1) (c9 := 13) (show _ ∈ L_X8_isNextRefused from by simp [L_X8_isNextRefused]) (by decide) (by decide) (Or.inr rfl))
theorem fr_X8_isNextRefused (x1 : Int32) (w : GW) {z : Int32 × GW} : f_X8_isNextRefused x1 w = some z → Sm L_X8_isNextRefused R_X8_isNextRefused w z.2 := by
  intro  hz
  rw [f_X8_isNextRefused] at hz
  obtain ⟨q1, e2, hz⟩ := bd hz
  have ie2 : Sub L_X8_isBox L_X8_isNextRefused := by
    unfold L_X8_isBox
    exact Sub.nil
  rcases bri hz with hz | hz
  · exact ((Sm.rf.call (fr_X8_isBox x1 _ (z := q1) e2) ie2 (show ∀ r ∈ R_X8_isBox, r ∈ R_X8_isNextRefused from by decide))).tr (fr_X8_isNextRefused_36 1 _ hz)
  · rcases bri hz with hz | hz
    · exact ((Sm.rf.call (fr_X8_isBox x1 _ (z := q1) e2) ie2 (show ∀ r ∈ R_X8_isBox, r ∈ R_X8_isNextRefused from by decide))).tr (fr_X8_isNextRefused_36 0 _ hz)
    · exact ((Sm.rf.call (fr_X8_isBox x1 _ (z := q1) e2) ie2 (show ∀ r ∈ R_X8_isBox, r ∈ R_X8_isNextRefused from by decide))).tr (fr_X8_isNextRefused_36 6 _ hz)
def L_X8_goes : List (Nat × Nat × Nat) := [(0, 1, 13), (69, 70, 0), (71, 72, 0)]
def R_X8_goes : List Nat := [4, 5]
theorem fr_X8_goes (x1 : Int32) (x2 : Int32) (w : GW) {z : Int64 × GW} : f_X8_goes x1 x2 w = some z → Sm L_X8_goes R_X8_goes w z.2 := by
  intro  hz
  rw [f_X8_goes] at hz
  obtain ⟨q1, e2, hz⟩ := bd hz
  have ie2 : Sub L_X8_isNextRefused L_X8_goes := by
    unfold L_X8_isNextRefused
    exact (Sub.cons (lo2 := 0) (hi2 := 1) (c2 := 13) (show _ ∈ L_X8_goes from by simp [L_X8_goes]) (by omega) (by omega) (Or.inr rfl) Sub.nil)
  rcases bri hz with hz | hz
  · obtain ⟨h3, hz⟩ := ck hz
    have gh3 : ix (gI q1.2 121 0) < 6 := h3.2
    obtain ⟨q4, e5, hz⟩ := bd hz
    have ie5 : Sub (L_X1_ready (fxH (gR q1.2 0)) (((fxH (gR q1.2 0)) + 4) + 1 + ix (gI q1.2 121 0))) L_X8_goes := by
      unfold L_X1_ready
      exact (Sub.cons (lo2 := 69) (hi2 := 70) (c2 := 0) (show _ ∈ L_X8_goes from by simp [L_X8_goes]) (by omega) (by omega) (Or.inl rfl) Sub.nil)
    obtain ⟨q6, e7, hz⟩ := bd hz
    have ie7 : Sub (L_X1_weigh (121 + 1)) L_X8_goes := by
      unfold L_X1_weigh
      exact (Sub.cons (lo2 := 71) (hi2 := 72) (c2 := 0) (show _ ∈ L_X8_goes from by simp [L_X8_goes]) (by omega) (by omega) (Or.inl rfl) Sub.nil)
    obtain ⟨q8, e9, hz⟩ := bd hz
    have ie9 : Sub (L_X1_waysTo (121 + 1)) L_X8_goes := by
      unfold L_X1_waysTo
      exact Sub.nil
    obtain ⟨q10, e11, hz⟩ := bd hz
    have ie11 : Sub L_X1_allWays L_X8_goes := by
      unfold L_X1_allWays
      exact Sub.nil
    obtain ⟨q12, e13, hz⟩ := bd hz
    have ie13 : Sub L_X8_told L_X8_goes := by
      unfold L_X8_told
      exact (Sub.cons (lo2 := 0) (hi2 := 1) (c2 := 13) (show _ ∈ L_X8_goes from by simp [L_X8_goes]) (by omega) (by omega) (Or.inr rfl) Sub.nil)
    cases hz
    exact ((((((Sm.rf.call (fr_X8_isNextRefused x1 _ (z := q1)  e2) ie2 (show ∀ r ∈ R_X8_isNextRefused, r ∈ R_X8_goes from by decide)).call (fr_X1_ready (fxH (gR q1.2 0)) (((fxH (gR q1.2 0)) + 4) + 1 + ix (gI q1.2 121 0)) _ (z := q4)  e5) ie5 (show ∀ r ∈ R_X1_ready, r ∈ R_X8_goes from by decide)).call (fr_X1_weigh (121 + 1) (gI q4.2 121 4) ((gI q4.2 121 2) + 1) _ (z := q6)  e7) ie7 (show ∀ r ∈ R_X1_weigh, r ∈ R_X8_goes from by decide)).call (fr_X1_waysTo (121 + 1) x1 _ (z := q8)  e9) ie9 (show ∀ r ∈ R_X1_waysTo, r ∈ R_X8_goes from by decide)).call (fr_X1_allWays  _ (z := q10)  e11) ie11 (show ∀ r ∈ R_X1_allWays, r ∈ R_X8_goes from by decide)).call (fr_X8_told q8.1 q10.1 x2 _ (z := q12)  e13) ie13 (show ∀ r ∈ R_X8_told, r ∈ R_X8_goes from by decide))
  · cases hz
    exact (Sm.rf.call (fr_X8_isNextRefused x1 _ (z := q1)  e2) ie2 (show ∀ r ∈ R_X8_isNextRefused, r ∈ R_X8_goes from by decide))
def L_X8_place : List (Nat × Nat × Nat) := [(0, 1, 13), (121, 122, 3), (121, 122, 4), (121, 122, 5), (122, 123, 0), (69, 70, 0), (71, 72, 0)]
def R_X8_place : List Nat := [4, 5]
theorem fr_X8_place (x1 : Int32) (w : GW) {z : Int32 × GW} : f_X8_place x1 w = some z → Sm L_X8_place R_X8_place w z.2 := by
  intro  hz
  rw [f_X8_place] at hz
  obtain ⟨q1, e2, hz⟩ := bd hz
  have ie2 : Sub L_X8_isNextRefused L_X8_place := by
    unfold L_X8_isNextRefused
    exact (Sub.cons (lo2 := 0) (hi2 := 1) (c2 := 13) (show _ ∈ L_X8_place from by simp [L_X8_place]) (by omega) (by omega) (Or.inr rfl) Sub.nil)
  rcases bri hz with hz | hz
  · obtain ⟨h3, hz⟩ := ck hz
    have gh3 : ix (gI q1.2 121 0) < 6 := h3.2
    obtain ⟨q4, e5, hz⟩ := bd hz
    have ie5 : Sub (L_X1_ready (fxH (gR q1.2 0)) (((fxH (gR q1.2 0)) + 4) + 1 + ix (gI q1.2 121 0))) L_X8_place := by
      unfold L_X1_ready
      exact (Sub.cons (lo2 := 69) (hi2 := 70) (c2 := 0) (show _ ∈ L_X8_place from by simp [L_X8_place]) (by omega) (by omega) (Or.inl rfl) Sub.nil)
    obtain ⟨q6, e7, hz⟩ := bd hz
    have ie7 : Sub (L_X1_weigh (121 + 1)) L_X8_place := by
      unfold L_X1_weigh
      exact (Sub.cons (lo2 := 71) (hi2 := 72) (c2 := 0) (show _ ∈ L_X8_place from by simp [L_X8_place]) (by omega) (by omega) (Or.inl rfl) Sub.nil)
    obtain ⟨q8, e9, hz⟩ := bd hz
    have ie9 : Sub (L_X1_slotBehind (121 + 1)) L_X8_place := by
      unfold L_X1_slotBehind
      exact Sub.nil
    rcases bri hz with hz | hz
    · obtain ⟨q10, e11, hz⟩ := bd hz
      have ie11 : Sub (L_X2_land 121 (fxH (gR q8.2 0))) L_X8_place := by
        unfold L_X2_land
        exact (Sub.cons (lo2 := 122) (hi2 := 123) (c2 := 0) (show _ ∈ L_X8_place from by simp [L_X8_place]) (by omega) (by omega) (Or.inl rfl) (Sub.cons (lo2 := 121) (hi2 := 122) (c2 := 3) (show _ ∈ L_X8_place from by simp [L_X8_place]) (by omega) (by omega) (Or.inr rfl) (Sub.cons (lo2 := 121) (hi2 := 122) (c2 := 4) (show _ ∈ L_X8_place from by simp [L_X8_place]) (by omega) (by omega) (Or.inr rfl) (Sub.cons (lo2 := 121) (hi2 := 122) (c2 := 5) (show _ ∈ L_X8_place from by simp [L_X8_place]) (by omega) (by omega) (Or.inr rfl) Sub.nil))))
      obtain ⟨h12, hz⟩ := ck hz
      obtain ⟨q13, e14, hz⟩ := bd hz
      have ie14 : Sub L_X8_fine L_X8_place := by
        unfold L_X8_fine
        exact (Sub.cons (lo2 := 0) (hi2 := 1) (c2 := 13) (show _ ∈ L_X8_place from by simp [L_X8_place]) (by omega) (by omega) (Or.inr rfl) Sub.nil)
      cases hz
      exact ((((((Sm.rf.call (fr_X8_isNextRefused x1 _ (z := q1)  e2) ie2 (show ∀ r ∈ R_X8_isNextRefused, r ∈ R_X8_place from by decide)).call (fr_X1_ready (fxH (gR q1.2 0)) (((fxH (gR q1.2 0)) + 4) + 1 + ix (gI q1.2 121 0)) _ (z := q4)  e5) ie5 (show ∀ r ∈ R_X1_ready, r ∈ R_X8_place from by decide)).call (fr_X1_weigh (121 + 1) (gI q4.2 121 4) ((gI q4.2 121 2) + 1) _ (z := q6)  e7) ie7 (show ∀ r ∈ R_X1_weigh, r ∈ R_X8_place from by decide)).call (fr_X1_slotBehind (121 + 1) x1 _ (z := q8)  e9) ie9 (show ∀ r ∈ R_X1_slotBehind, r ∈ R_X8_place from by decide)).call (fr_X2_land 121 (fxH (gR q8.2 0)) x1 q8.1 _ (z := q10)  e11) ie11 (show ∀ r ∈ R_X2_land, r ∈ R_X8_place from by decide)).call (fr_X8_fine (gI q10.2 (121 + 1) (ix x1)) _ (z := q13)  e14) ie14 (show ∀ r ∈ R_X8_fine, r ∈ R_X8_place from by decide))
    · obtain ⟨q15, e16, hz⟩ := bd hz
      have ie16 : Sub L_X8_refuse L_X8_place := by
        unfold L_X8_refuse
        exact (Sub.cons (lo2 := 0) (hi2 := 1) (c2 := 13) (show _ ∈ L_X8_place from by simp [L_X8_place]) (by omega) (by omega) (Or.inr rfl) Sub.nil)
      cases hz
      exact (((((Sm.rf.call (fr_X8_isNextRefused x1 _ (z := q1)  e2) ie2 (show ∀ r ∈ R_X8_isNextRefused, r ∈ R_X8_place from by decide)).call (fr_X1_ready (fxH (gR q1.2 0)) (((fxH (gR q1.2 0)) + 4) + 1 + ix (gI q1.2 121 0)) _ (z := q4)  e5) ie5 (show ∀ r ∈ R_X1_ready, r ∈ R_X8_place from by decide)).call (fr_X1_weigh (121 + 1) (gI q4.2 121 4) ((gI q4.2 121 2) + 1) _ (z := q6)  e7) ie7 (show ∀ r ∈ R_X1_weigh, r ∈ R_X8_place from by decide)).call (fr_X1_slotBehind (121 + 1) x1 _ (z := q8)  e9) ie9 (show ∀ r ∈ R_X1_slotBehind, r ∈ R_X8_place from by decide)).call (fr_X8_refuse 5 _ (z := q15)  e16) ie16 (show ∀ r ∈ R_X8_refuse, r ∈ R_X8_place from by decide))
  · cases hz
    exact (Sm.rf.call (fr_X8_isNextRefused x1 _ (z := q1)  e2) ie2 (show ∀ r ∈ R_X8_isNextRefused, r ∈ R_X8_place from by decide))
def L_X8_box : List (Nat × Nat × Nat) := [(0, 1, 13)]
def R_X8_box : List Nat := []
theorem fr_X8_box (x1 : Int32) (w : GW) {z : Int32 × GW} : f_X8_box x1 w = some z → Sm L_X8_box R_X8_box w z.2 := by
  intro  hz
  rw [f_X8_box] at hz
  obtain ⟨q1, e2, hz⟩ := bd hz
  have ie2 : Sub L_X8_isBox L_X8_box := by
    unfold L_X8_isBox
    exact Sub.nil
  rcases bri hz with hz | hz
  · obtain ⟨q3, e4, hz⟩ := bd hz
    have ie4 : Sub L_X8_refuse L_X8_box := by
      unfold L_X8_refuse
      exact (Sub.cons (lo2 := 0) (hi2 := 1) (c2 := 13) (show _ ∈ L_X8_box from by simp [L_X8_box]) (by omega) (by omega) (Or.inr rfl) Sub.nil)
    cases hz
    exact ((Sm.rf.call (fr_X8_isBox x1 _ (z := q1)  e2) ie2 (show ∀ r ∈ R_X8_isBox, r ∈ R_X8_box from by decide)).call (fr_X8_refuse 1 _ (z := q3)  e4) ie4 (show ∀ r ∈ R_X8_refuse, r ∈ R_X8_box from by decide))
  · obtain ⟨h5, hz⟩ := ck hz
    obtain ⟨q6, e7, hz⟩ := bd hz
    have ie7 : Sub L_X8_fine L_X8_box := by
      unfold L_X8_fine
      exact (Sub.cons (lo2 := 0) (hi2 := 1) (c2 := 13) (show _ ∈ L_X8_box from by simp [L_X8_box]) (by omega) (by omega) (Or.inr rfl) Sub.nil)
    cases hz
    exact ((Sm.rf.call (fr_X8_isBox x1 _ (z := q1)  e2) ie2 (show ∀ r ∈ R_X8_isBox, r ∈ R_X8_box from by decide)).call (fr_X8_fine (gI q1.2 (121 + 1) (ix x1)) _ (z := q6)  e7) ie7 (show ∀ r ∈ R_X8_fine, r ∈ R_X8_box from by decide))
def L_X8_recall : List (Nat × Nat × Nat) := [(0, 1, 13)]
def R_X8_recall : List Nat := []
theorem fr_X8_recall_41 {z : Int32 × GW} : (∀ (t0 : Int32) (w : GW), f_X8_recall_41 t0 w = some z → Sm L_X8_recall R_X8_recall w z.2) := by
  intro t0 w hz
  rw [f_X8_recall_41] at hz
  obtain ⟨q1, e2, hz⟩ := bd hz
  have ie2 : Sub L_X8_fine L_X8_recall := by
    unfold L_X8_fine
    exact (Sub.cons (lo2 := 0) (hi2 := 1) (c2 := 13) (show _ ∈ L_X8_recall from by simp [L_X8_recall]) (by omega) (by omega) (Or.inr rfl) Sub.nil)
  cases hz
  exact (Sm.rf.call (fr_X8_fine t0 _ (z := q1)  e2) ie2 (show ∀ r ∈ R_X8_fine, r ∈ R_X8_recall from by decide))
theorem fr_X8_recall  (w : GW) {z : Int32 × GW} : f_X8_recall w = some z → Sm L_X8_recall R_X8_recall w z.2 := by
  intro  hz
  rw [f_X8_recall] at hz
  rcases bri hz with hz | hz
  · obtain ⟨q3, e4, hz⟩ := bd hz
    have ie4 : Sub L_X8_refuse L_X8_recall := by
      unfold L_X8_refuse
      exact (Sub.cons (lo2 := 0) (hi2 := 1) (c2 := 13) (show _ ∈ L_X8_recall from by simp [L_X8_recall]) (by omega) (by omega) (Or.inr rfl) Sub.nil)
    cases hz
    exact (Sm.rf.call (fr_X8_refuse 1 _ (z := q3)  e4) ie4 (show ∀ r ∈ R_X8_refuse, r ∈ R_X8_recall from by decide))
  · rcases bri hz with hz | hz
    · exact (Sm.rf).tr (fr_X8_recall_41 (-2) _ hz)
    · exact (Sm.rf).tr (fr_X8_recall_41 ((gI w 121 4) - 1) _ hz)
def L_X8_mark : List (Nat × Nat × Nat) := [(0, 1, 12), (0, 1, 13), (124, 130, 0)]
def R_X8_mark : List Nat := []
theorem fr_X8_mark  (w : GW) {z : Int32 × GW} : f_X8_mark w = some z → Sm L_X8_mark R_X8_mark w z.2 := by
  intro  hz
  rw [f_X8_mark] at hz
  rcases bri hz with hz | hz
  · obtain ⟨q8, e9, hz⟩ := bd hz
    have ie9 : Sub L_X8_refuse L_X8_mark := by
      unfold L_X8_refuse
      exact (Sub.cons (lo2 := 0) (hi2 := 1) (c2 := 13) (show _ ∈ L_X8_mark from by simp [L_X8_mark]) (by omega) (by omega) (Or.inr rfl) Sub.nil)
    cases hz
    exact (Sm.rf.call (fr_X8_refuse 1 _ (z := q8)  e9) ie9 (show ∀ r ∈ R_X8_refuse, r ∈ R_X8_mark from by decide))
  · rcases bri hz with hz | hz
    · obtain ⟨h1, hz⟩ := ck hz
      have gh1 : ix (gI w 0 11) < 3 := h1.2
      obtain ⟨q2, e3, hz⟩ := bd hz
      have ie3 : Sub (L_X2_become (123 + 1 + 2 * ix (gI w 0 11)) 121) L_X8_mark := by
        unfold L_X2_become
        exact (Sub.cons (lo2 := 124) (hi2 := 130) (c2 := 0) (show _ ∈ L_X8_mark from by simp [L_X8_mark]) (by omega) (by omega) (Or.inl rfl) (Sub.cons (lo2 := 124) (hi2 := 130) (c2 := 0) (show _ ∈ L_X8_mark from by simp [L_X8_mark]) (by omega) (by omega) (Or.inl rfl) (Sub.cons (lo2 := 124) (hi2 := 130) (c2 := 0) (show _ ∈ L_X8_mark from by simp [L_X8_mark]) (by omega) (by omega) (Or.inl rfl) (Sub.cons (lo2 := 124) (hi2 := 130) (c2 := 0) (show _ ∈ L_X8_mark from by simp [L_X8_mark]) (by omega) (by omega) (Or.inl rfl) (Sub.cons (lo2 := 124) (hi2 := 130) (c2 := 0) (show _ ∈ L_X8_mark from by simp [L_X8_mark]) (by omega) (by omega) (Or.inl rfl) (Sub.cons (lo2 := 124) (hi2 := 130) (c2 := 0) (show _ ∈ L_X8_mark from by simp [L_X8_mark]) (by omega) (by omega) (Or.inl rfl) Sub.nil))))))
      obtain ⟨q4, e5, hz⟩ := bd hz
      have ie5 : Sub L_X8_fine L_X8_mark := by
        unfold L_X8_fine
        exact (Sub.cons (lo2 := 0) (hi2 := 1) (c2 := 13) (show _ ∈ L_X8_mark from by simp [L_X8_mark]) (by omega) (by omega) (Or.inr rfl) Sub.nil)
      cases hz
      exact (((Sm.rf.call (fr_X2_become (123 + 1 + 2 * ix (gI w 0 11)) 121 _ (z := q2)  e3) ie3 (show ∀ r ∈ R_X2_become, r ∈ R_X8_mark from by decide)).wI (lo := 0) (hi := 1) (c9 := 12) (show _ ∈ L_X8_mark from by simp [L_X8_mark]) (by decide) (by decide) (Or.inr rfl)).call (fr_X8_fine ((gI (sI q2.2 0 11 ((gI q2.2 0 11) + 1)) 0 11) - 1) _ (z := q4)  e5) ie5 (show ∀ r ∈ R_X8_fine, r ∈ R_X8_mark from by decide))
    · obtain ⟨q6, e7, hz⟩ := bd hz
      have ie7 : Sub L_X8_refuse L_X8_mark := by
        unfold L_X8_refuse
        exact (Sub.cons (lo2 := 0) (hi2 := 1) (c2 := 13) (show _ ∈ L_X8_mark from by simp [L_X8_mark]) (by omega) (by omega) (Or.inr rfl) Sub.nil)
      cases hz
      exact (Sm.rf.call (fr_X8_refuse 3 _ (z := q6)  e7) ie7 (show ∀ r ∈ R_X8_refuse, r ∈ R_X8_mark from by decide))
def L_X8_back : List (Nat × Nat × Nat) := [(0, 1, 13), (121, 122, 1), (121, 122, 2), (121, 122, 3), (121, 122, 4), (121, 122, 5), (122, 123, 0)]
def R_X8_back : List Nat := []
theorem fr_X8_back_18 {z : Int32 × GW} : (∀ (x1 : Int32) (t0 : Int32) (w : GW), f_X8_back_18 x1 t0 w = some z → Sm L_X8_back R_X8_back w z.2) := by
  intro x1 t0 w hz
  rw [f_X8_back_18] at hz
  rcases bri hz with hz | hz
  · obtain ⟨h1, hz⟩ := ck hz
    have gh1 : ix x1 < 3 := h1.2
    obtain ⟨q2, e3, hz⟩ := bd hz
    have ie3 : Sub (L_X2_become 121 (123 + 1 + 2 * ix x1)) L_X8_back := by
      unfold L_X2_become
      exact (Sub.cons (lo2 := 122) (hi2 := 123) (c2 := 0) (show _ ∈ L_X8_back from by simp [L_X8_back]) (by omega) (by omega) (Or.inl rfl) (Sub.cons (lo2 := 121) (hi2 := 122) (c2 := 1) (show _ ∈ L_X8_back from by simp [L_X8_back]) (by omega) (by omega) (Or.inr rfl) (Sub.cons (lo2 := 121) (hi2 := 122) (c2 := 2) (show _ ∈ L_X8_back from by simp [L_X8_back]) (by omega) (by omega) (Or.inr rfl) (Sub.cons (lo2 := 121) (hi2 := 122) (c2 := 3) (show _ ∈ L_X8_back from by simp [L_X8_back]) (by omega) (by omega) (Or.inr rfl) (Sub.cons (lo2 := 121) (hi2 := 122) (c2 := 4) (show _ ∈ L_X8_back from by simp [L_X8_back]) (by omega) (by omega) (Or.inr rfl) (Sub.cons (lo2 := 121) (hi2 := 122) (c2 := 5) (show _ ∈ L_X8_back from by simp [L_X8_back]) (by omega) (by omega) (Or.inr rfl) Sub.nil))))))
    cases hz
    exact ((Sm.rf.wI (lo := 0) (hi := 1) (c9 := 13) (show _ ∈ L_X8_back from by simp [L_X8_back]) (by decide) (by decide) (Or.inr rfl)).call (fr_X2_become 121 (123 + 1 + 2 * ix x1) _ (z := q2)  e3) ie3 (show ∀ r ∈ R_X2_become, r ∈ R_X8_back from by decide))
  · cases hz
    exact (Sm.rf.wI (lo := 0) (hi := 1) (c9 := 13) (show _ ∈ L_X8_back from by simp [L_X8_back]) (by decide) (by decide) (Or.inr rfl))
theorem fr_X8_back_13 {z : Int32 × GW} : (∀ (x1 : Int32) (w : GW), f_X8_back_13 x1 w = some z → Sm L_X8_back R_X8_back w z.2) := by
  intro x1 w hz
  rw [f_X8_back_13] at hz
  exact (Sm.rf).tr (fr_X8_back_18 x1 1 _ hz)
theorem fr_X8_back (x1 : Int32) (w : GW) {z : Int32 × GW} : f_X8_back x1 w = some z → Sm L_X8_back R_X8_back w z.2 := by
  intro  hz
  rw [f_X8_back] at hz
  rcases bri hz with hz | hz
  · exact (Sm.rf).tr (fr_X8_back_13 x1 _ hz)
  · rcases bri hz with hz | hz
    · exact (Sm.rf).tr (fr_X8_back_18 x1 0 _ hz)
    · exact (Sm.rf).tr (fr_X8_back_13 x1 _ hz)
def L_X8_porter : List (Nat × Nat × Nat) := [(0, 1, 13)]
def R_X8_porter : List Nat := []
theorem fr_X8_porter_17 {z : Int32 × GW} : (∀ (w : GW), f_X8_porter_17 w = some z → Sm L_X8_porter R_X8_porter w z.2) := by
  intro w hz
  rw [f_X8_porter_17] at hz
  obtain ⟨q3, e4, hz⟩ := bd hz
  have ie4 : Sub L_X8_refuse L_X8_porter := by
    unfold L_X8_refuse
    exact (Sub.cons (lo2 := 0) (hi2 := 1) (c2 := 13) (show _ ∈ L_X8_porter from by simp [L_X8_porter]) (by omega) (by omega) (Or.inr rfl) Sub.nil)
  cases hz
  exact (Sm.rf.call (fr_X8_refuse 1 _ (z := q3)  e4) ie4 (show ∀ r ∈ R_X8_refuse, r ∈ R_X8_porter from by decide))
theorem fr_X8_porter_61 {z : Int32 × GW} : (∀ (t0 : Int32) (w : GW), f_X8_porter_61 t0 w = some z → Sm L_X8_porter R_X8_porter w z.2) := by
  intro t0 w hz
  rw [f_X8_porter_61] at hz
  obtain ⟨q6, e7, hz⟩ := bd hz
  have ie7 : Sub L_X8_fine L_X8_porter := by
    unfold L_X8_fine
    exact (Sub.cons (lo2 := 0) (hi2 := 1) (c2 := 13) (show _ ∈ L_X8_porter from by simp [L_X8_porter]) (by omega) (by omega) (Or.inr rfl) Sub.nil)
  cases hz
  exact (Sm.rf.call (fr_X8_fine t0 _ (z := q6)  e7) ie7 (show ∀ r ∈ R_X8_fine, r ∈ R_X8_porter from by decide))
theorem fr_X8_porter (x1 : Int32) (x2 : Int32) (w : GW) {z : Int32 × GW} : f_X8_porter x1 x2 w = some z → Sm L_X8_porter R_X8_porter w z.2 := by
  intro  hz
  rw [f_X8_porter] at hz
  obtain ⟨q1, e2, hz⟩ := bd hz
  have ie2 : Sub L_X8_isPorter L_X8_porter := by
    unfold L_X8_isPorter
    exact Sub.nil
  rcases bri hz with hz | hz
  · exact ((Sm.rf.call (fr_X8_isPorter x1 _ (z := q1) e2) ie2 (show ∀ r ∈ R_X8_isPorter, r ∈ R_X8_porter from by decide))).tr (fr_X8_porter_17 _ hz)
  · rcases bri hz with hz | hz
    · exact ((Sm.rf.call (fr_X8_isPorter x1 _ (z := q1) e2) ie2 (show ∀ r ∈ R_X8_isPorter, r ∈ R_X8_porter from by decide))).tr (fr_X8_porter_17 _ hz)
    · rcases bri hz with hz | hz
      · obtain ⟨h5, hz⟩ := ck hz
        have gh5 : ix x1 < 6 := h5.2
        rcases bri hz with hz | hz
        · exact ((Sm.rf.call (fr_X8_isPorter x1 _ (z := q1) e2) ie2 (show ∀ r ∈ R_X8_isPorter, r ∈ R_X8_porter from by decide))).tr (fr_X8_porter_61 (gI q1.2 (((fxH (gR q1.2 0)) + 4) + 1 + ix x1) 0) _ hz)
        · rcases bri hz with hz | hz
          · exact ((Sm.rf.call (fr_X8_isPorter x1 _ (z := q1) e2) ie2 (show ∀ r ∈ R_X8_isPorter, r ∈ R_X8_porter from by decide))).tr (fr_X8_porter_61 (gI q1.2 (((fxH (gR q1.2 0)) + 4) + 1 + ix x1) 1) _ hz)
          · exact ((Sm.rf.call (fr_X8_isPorter x1 _ (z := q1) e2) ie2 (show ∀ r ∈ R_X8_isPorter, r ∈ R_X8_porter from by decide))).tr (fr_X8_porter_61 (gI q1.2 (((fxH (gR q1.2 0)) + 4) + 1 + ix x1) 2) _ hz)
      · exact ((Sm.rf.call (fr_X8_isPorter x1 _ (z := q1) e2) ie2 (show ∀ r ∈ R_X8_isPorter, r ∈ R_X8_porter from by decide))).tr (fr_X8_porter_17 _ hz)
def L_X8_boxOf : List (Nat × Nat × Nat) := [(0, 1, 13)]
def R_X8_boxOf : List Nat := []
theorem fr_X8_boxOf_40 {z : Int32 × GW} : (∀ (t0 : Int32) (w : GW), f_X8_boxOf_40 t0 w = some z → Sm L_X8_boxOf R_X8_boxOf w z.2) := by
  intro t0 w hz
  rw [f_X8_boxOf_40] at hz
  obtain ⟨q4, e5, hz⟩ := bd hz
  have ie5 : Sub L_X8_fine L_X8_boxOf := by
    unfold L_X8_fine
    exact (Sub.cons (lo2 := 0) (hi2 := 1) (c2 := 13) (show _ ∈ L_X8_boxOf from by simp [L_X8_boxOf]) (by omega) (by omega) (Or.inr rfl) Sub.nil)
  cases hz
  exact (Sm.rf.call (fr_X8_fine t0 _ (z := q4)  e5) ie5 (show ∀ r ∈ R_X8_fine, r ∈ R_X8_boxOf from by decide))
theorem fr_X8_boxOf (x1 : Int32) (x2 : Int32) (w : GW) {z : Int32 × GW} : f_X8_boxOf x1 x2 w = some z → Sm L_X8_boxOf R_X8_boxOf w z.2 := by
  intro  hz
  rw [f_X8_boxOf] at hz
  obtain ⟨q1, e2, hz⟩ := bd hz
  have ie2 : Sub L_X8_isBox L_X8_boxOf := by
    unfold L_X8_isBox
    exact Sub.nil
  rcases bri hz with hz | hz
  · obtain ⟨q7, e8, hz⟩ := bd hz
    have ie8 : Sub L_X8_refuse L_X8_boxOf := by
      unfold L_X8_refuse
      exact (Sub.cons (lo2 := 0) (hi2 := 1) (c2 := 13) (show _ ∈ L_X8_boxOf from by simp [L_X8_boxOf]) (by omega) (by omega) (Or.inr rfl) Sub.nil)
    cases hz
    exact ((Sm.rf.call (fr_X8_isBox x1 _ (z := q1)  e2) ie2 (show ∀ r ∈ R_X8_isBox, r ∈ R_X8_boxOf from by decide)).call (fr_X8_refuse 1 _ (z := q7)  e8) ie8 (show ∀ r ∈ R_X8_refuse, r ∈ R_X8_boxOf from by decide))
  · rcases bri hz with hz | hz
    · obtain ⟨h3, hz⟩ := ck hz
      exact ((Sm.rf.call (fr_X8_isBox x1 _ (z := q1) e2) ie2 (show ∀ r ∈ R_X8_isBox, r ∈ R_X8_boxOf from by decide))).tr (fr_X8_boxOf_40 (gI q1.2 ((fxH (gR q1.2 0)) + 1) (ix x1)) _ hz)
    · obtain ⟨h6, hz⟩ := ck hz
      exact ((Sm.rf.call (fr_X8_isBox x1 _ (z := q1) e2) ie2 (show ∀ r ∈ R_X8_isBox, r ∈ R_X8_boxOf from by decide))).tr (fr_X8_boxOf_40 (gI q1.2 ((fxH (gR q1.2 0)) + 2) (ix x1)) _ hz)
def L_X8_size : List (Nat × Nat × Nat) := []
def R_X8_size : List Nat := []
theorem fr_X8_size (x1 : Int32) (w : GW) {z : Int32 × GW} : f_X8_size x1 w = some z → Sm L_X8_size R_X8_size w z.2 := by
  intro  hz
  rw [f_X8_size] at hz
  rcases bri hz with hz | hz
  · cases hz
    exact Sm.rf
  rcases bri hz with hz | hz
  · cases hz
    exact Sm.rf
  rcases bri hz with hz | hz
  · cases hz
    exact Sm.rf
  rcases bri hz with hz | hz
  · cases hz
    exact Sm.rf
  rcases bri hz with hz | hz
  · cases hz
    exact Sm.rf
  rcases bri hz with hz | hz
  · cases hz
    exact Sm.rf
  rcases bri hz with hz | hz
  · cases hz
    exact Sm.rf
  rcases bri hz with hz | hz
  · cases hz
    exact Sm.rf
  rcases bri hz with hz | hz
  · cases hz
    exact Sm.rf
  rcases bri hz with hz | hz
  · cases hz
    exact Sm.rf
  cases hz
  exact Sm.rf
def L_X8_trouble : List (Nat × Nat × Nat) := []
def R_X8_trouble : List Nat := []
theorem fr_X8_trouble  (w : GW) {z : Int32 × GW} : f_X8_trouble w = some z → Sm L_X8_trouble R_X8_trouble w z.2 := by
  intro  hz
  rw [f_X8_trouble] at hz
  cases hz
  exact Sm.rf
def L_X9_thrown : List (Nat × Nat × Nat) := []
def R_X9_thrown : List Nat := []
theorem fr_X9_thrown  (w : GW) {z : Int32 × GW} : f_X9_thrown w = some z → Sm L_X9_thrown R_X9_thrown w z.2 := by
  intro  hz
  rw [f_X9_thrown] at hz
  cases hz
  exact Sm.rf
def L_X9_good : List (Nat × Nat × Nat) := [(130, 131, 1), (130, 131, 12)]
def R_X9_good : List Nat := []
theorem fr_X9_good  (w : GW) {z : Unit × GW} : f_X9_good w = some z → Sm L_X9_good R_X9_good w z.2 := by
  intro  hz
  rw [f_X9_good] at hz
  cases hz
  exact ((Sm.rf.wI (lo := 130) (hi := 131) (c9 := 1) (show _ ∈ L_X9_good from by simp [L_X9_good]) (by decide) (by decide) (Or.inr rfl)).wI (lo := 130) (hi := 131) (c9 := 12) (show _ ∈ L_X9_good from by simp [L_X9_good]) (by decide) (by decide) (Or.inr rfl))
def L_X9_no : List (Nat × Nat × Nat) := [(130, 131, 12)]
def R_X9_no : List Nat := []
theorem fr_X9_no (x1 : Int32) (w : GW) {z : Int32 × GW} : f_X9_no x1 w = some z → Sm L_X9_no R_X9_no w z.2 := by
  intro  hz
  rw [f_X9_no] at hz
  cases hz
  exact (Sm.rf.wI (lo := 130) (hi := 131) (c9 := 12) (show _ ∈ L_X9_no from by simp [L_X9_no]) (by decide) (by decide) (Or.inr rfl))
def L_X9_isNot : List (Nat × Nat × Nat) := [(130, 131, 12)]
def R_X9_isNot : List Nat := []
theorem fr_X9_isNot (x1 : Int32) (w : GW) {z : Int32 × GW} : f_X9_isNot x1 w = some z → Sm L_X9_isNot R_X9_isNot w z.2 := by
  intro  hz
  rw [f_X9_isNot] at hz
  cases hz
  exact (Sm.rf.wI (lo := 130) (hi := 131) (c9 := 12) (show _ ∈ L_X9_isNot from by simp [L_X9_isNot]) (by decide) (by decide) (Or.inr rfl))
def L_X9_within : List (Nat × Nat × Nat) := []
def R_X9_within : List Nat := []
theorem fr_X9_within (x0 : Int32) (x1 : Int32) (x2 : Int32) (w : GW) {z : Int32 × GW} : f_X9_within x0 x1 x2 w = some z → Sm L_X9_within R_X9_within w z.2 := by
  intro  hz
  rw [f_X9_within] at hz
  rcases bri hz with hz | hz
  · cases hz
    exact Sm.rf
  · rcases bri hz with hz | hz
    · cases hz
      exact Sm.rf
    · cases hz
      exact Sm.rf
def L_X9_feed : List (Nat × Nat × Nat) := [(130, 131, 1), (130, 131, 3), (131, 132, 0)]
def R_X9_feed : List Nat := []
theorem fr_X9_feed_76 {z : Int32 × GW} {k_23 : Int32 → Int32 → Int32 → Int32 → Int32 → Int32 → GW → Option (Int32 × GW)} (Hk_23 : (∀ (x1 : Int32) (x2 : Int32) (x3 : Int32) (x4 : Int32) (x5 : Int32) (x6 : Int32) (w : GW), k_23 x1 x2 x3 x4 x5 x6 w = some z → Sm L_X9_feed R_X9_feed w z.2)) : (∀ (x1 : Int32) (x2 : Int32) (x3 : Int32) (x4 : Int32) (x5 : Int32) (x6 : Int32) (t0 : Int32) (w : GW), f_X9_feed_76 k_23 x1 x2 x3 x4 x5 x6 t0 w = some z → Sm L_X9_feed R_X9_feed w z.2) := by
  intro x1 x2 x3 x4 x5 x6 t0 w hz
  rw [f_X9_feed_76] at hz
  obtain ⟨h1, hz⟩ := ck hz
  exact (((Sm.rf.wI (lo := 131) (hi := 132) (c9 := 0) (show _ ∈ L_X9_feed from by simp [L_X9_feed]) (by decide) (by decide) (Or.inl rfl)).wI (lo := 130) (hi := 131) (c9 := 3) (show _ ∈ L_X9_feed from by simp [L_X9_feed]) (by decide) (by decide) (Or.inr rfl))).tr (Hk_23 x1 x2 x3 x4 x5 (x6 + 1) _  hz)
theorem fr_X9_feed_23 {z : Int32 × GW} : ∀ (n9 : Nat), (∀ (x1 : Int32) (x2 : Int32) (x3 : Int32) (x4 : Int32) (x5 : Int32) (x6 : Int32) (w : GW), f_X9_feed_23 n9 x1 x2 x3 x4 x5 x6 w = some z → Sm L_X9_feed R_X9_feed w z.2) := by
  intro n9
  induction n9 with
  | zero =>
    intro x1 x2 x3 x4 x5 x6 w hz
    rw [f_X9_feed_23] at hz
    cases hz
  | succ n9 ih =>
    intro x1 x2 x3 x4 x5 x6 w hz
    rw [f_X9_feed_23] at hz
    rcases bri hz with hz | hz
    · cases hz
      exact Sm.rf
    · rcases bri hz with hz | hz
      · rcases bri hz with hz | hz
        · rcases bri hz with hz | hz
          · rcases bri hz with hz | hz
            · exact (Sm.rf).tr (fr_X9_feed_76 ih x1 x2 x3 x4 x5 x6 x5 _ hz)
            · exact (Sm.rf).tr (fr_X9_feed_76 ih x1 x2 x3 x4 x5 x6 x4 _ hz)
          · exact (Sm.rf).tr (fr_X9_feed_76 ih x1 x2 x3 x4 x5 x6 x3 _ hz)
        · exact (Sm.rf).tr (fr_X9_feed_76 ih x1 x2 x3 x4 x5 x6 x2 _ hz)
      · exact (Sm.rf).tr (fr_X9_feed_76 ih x1 x2 x3 x4 x5 x6 x1 _ hz)
theorem fr_X9_feed (x1 : Int32) (x2 : Int32) (x3 : Int32) (x4 : Int32) (x5 : Int32) (w : GW) {z : Int32 × GW} : f_X9_feed x1 x2 x3 x4 x5 w = some z → Sm L_X9_feed R_X9_feed w z.2 := by
  intro  hz
  rw [f_X9_feed] at hz
  rcases bri hz with hz | hz
  · exact ((Sm.rf.wI (lo := 130) (hi := 131) (c9 := 1) (show _ ∈ L_X9_feed from by simp [L_X9_feed]) (by decide) (by decide) (Or.inr rfl))).tr (fr_X9_feed_23 fu x1 x2 x3 x4 x5 0 _ hz)
  · cases hz
    exact (Sm.rf.wI (lo := 130) (hi := 131) (c9 := 1) (show _ ∈ L_X9_feed from by simp [L_X9_feed]) (by decide) (by decide) (Or.inr rfl))
def L_X9_look : List (Nat × Nat × Nat) := []
def R_X9_look : List Nat := []
theorem fr_X9_look (x1 : Int32) (w : GW) {z : Int32 × GW} : f_X9_look x1 w = some z → Sm L_X9_look R_X9_look w z.2 := by
  intro  hz
  rw [f_X9_look] at hz
  rcases bri hz with hz | hz
  · cases hz
    exact Sm.rf
  · obtain ⟨h1, hz⟩ := ck hz
    cases hz
    exact Sm.rf
def L_X9_isSmall : List (Nat × Nat × Nat) := []
def R_X9_isSmall : List Nat := []
theorem fr_X9_isSmall (x0 : Int32) (w : GW) {z : Int32 × GW} : f_X9_isSmall x0 w = some z → Sm L_X9_isSmall R_X9_isSmall w z.2 := by
  intro  hz
  rw [f_X9_isSmall] at hz
  rcases bri hz with hz | hz
  · cases hz
    exact Sm.rf
  · rcases bri hz with hz | hz
    · cases hz
      exact Sm.rf
    · cases hz
      exact Sm.rf
def L_X9_isDigit : List (Nat × Nat × Nat) := []
def R_X9_isDigit : List Nat := []
theorem fr_X9_isDigit (x0 : Int32) (w : GW) {z : Int32 × GW} : f_X9_isDigit x0 w = some z → Sm L_X9_isDigit R_X9_isDigit w z.2 := by
  intro  hz
  rw [f_X9_isDigit] at hz
  rcases bri hz with hz | hz
  · cases hz
    exact Sm.rf
  · rcases bri hz with hz | hz
    · cases hz
      exact Sm.rf
    · cases hz
      exact Sm.rf
def L_X9_next : List (Nat × Nat × Nat) := [(130, 131, 5), (130, 131, 6), (130, 131, 7), (130, 131, 8), (130, 131, 9), (132, 133, 0)]
def R_X9_next : List Nat := []
theorem fr_X9_next_188 {z : Unit × GW} {k_152 : Int32 → Int32 → GW → Option (Unit × GW)} (Hk_152 : (∀ (x1 : Int32) (x3 : Int32) (w : GW), k_152 x1 x3 w = some z → Sm L_X9_next R_X9_next w z.2)) : (∀ (x1 : Int32) (x3 : Int32) (w : GW), f_X9_next_188 k_152 x1 x3 w = some z → Sm L_X9_next R_X9_next w z.2) := by
  intro x1 x3 w hz
  rw [f_X9_next_188] at hz
  exact (Sm.rf).tr (Hk_152 (x1 + 1) (x3 + 1) _  hz)
theorem fr_X9_next_152 {z : Unit × GW} : ∀ (n9 : Nat), (∀ (x1 : Int32) (x3 : Int32) (w : GW), f_X9_next_152 n9 x1 x3 w = some z → Sm L_X9_next R_X9_next w z.2) := by
  intro n9
  induction n9 with
  | zero =>
    intro x1 x3 w hz
    rw [f_X9_next_152] at hz
    cases hz
  | succ n9 ih =>
    intro x1 x3 w hz
    rw [f_X9_next_152] at hz
    obtain ⟨q9, e10, hz⟩ := bd hz
    have ie10 : Sub L_X9_look L_X9_next := by
      unfold L_X9_look
      exact Sub.nil
    obtain ⟨q11, e12, hz⟩ := bd hz
    have ie12 : Sub L_X9_isDigit L_X9_next := by
      unfold L_X9_isDigit
      exact Sub.nil
    rcases bri hz with hz | hz
    · rcases bri hz with hz | hz
      · cases hz
        exact ((((Sm.rf.call (fr_X9_look x1 _ (z := q9)  e10) ie10 (show ∀ r ∈ R_X9_look, r ∈ R_X9_next from by decide)).call (fr_X9_isDigit q9.1 _ (z := q11)  e12) ie12 (show ∀ r ∈ R_X9_isDigit, r ∈ R_X9_next from by decide)).wI (lo := 130) (hi := 131) (c9 := 6) (show _ ∈ L_X9_next from by simp [L_X9_next]) (by decide) (by decide) (Or.inr rfl)).wI (lo := 130) (hi := 131) (c9 := 7) (show _ ∈ L_X9_next from by simp [L_X9_next]) (by decide) (by decide) (Or.inr rfl))
      · cases hz
        exact ((((Sm.rf.call (fr_X9_look x1 _ (z := q9)  e10) ie10 (show ∀ r ∈ R_X9_look, r ∈ R_X9_next from by decide)).call (fr_X9_isDigit q9.1 _ (z := q11)  e12) ie12 (show ∀ r ∈ R_X9_isDigit, r ∈ R_X9_next from by decide)).wI (lo := 130) (hi := 131) (c9 := 6) (show _ ∈ L_X9_next from by simp [L_X9_next]) (by decide) (by decide) (Or.inr rfl)).wI (lo := 130) (hi := 131) (c9 := 7) (show _ ∈ L_X9_next from by simp [L_X9_next]) (by decide) (by decide) (Or.inr rfl))
    · rcases bri hz with hz | hz
      · exact (((Sm.rf.call (fr_X9_look x1 _ (z := q9) e10) ie10 (show ∀ r ∈ R_X9_look, r ∈ R_X9_next from by decide)).call (fr_X9_isDigit q9.1 _ (z := q11) e12) ie12 (show ∀ r ∈ R_X9_isDigit, r ∈ R_X9_next from by decide))).tr (fr_X9_next_188 ih x1 x3 _ hz)
      · obtain ⟨q13, e14, hz⟩ := bd hz
        have ie14 : Sub L_X9_look L_X9_next := by
          unfold L_X9_look
          exact Sub.nil
        exact (((((Sm.rf.call (fr_X9_look x1 _ (z := q9) e10) ie10 (show ∀ r ∈ R_X9_look, r ∈ R_X9_next from by decide)).call (fr_X9_isDigit q9.1 _ (z := q11) e12) ie12 (show ∀ r ∈ R_X9_isDigit, r ∈ R_X9_next from by decide)).call (fr_X9_look x1 _ (z := q13) e14) ie14 (show ∀ r ∈ R_X9_look, r ∈ R_X9_next from by decide)).wI (lo := 130) (hi := 131) (c9 := 8) (show _ ∈ L_X9_next from by simp [L_X9_next]) (by decide) (by decide) (Or.inr rfl))).tr (fr_X9_next_188 ih x1 x3 _ hz)
theorem fr_X9_next_101 {z : Unit × GW} {k_67 : Int32 → GW → Option (Unit × GW)} (Hk_67 : (∀ (x1 : Int32) (w : GW), k_67 x1 w = some z → Sm L_X9_next R_X9_next w z.2)) : (∀ (x1 : Int32) (w : GW), f_X9_next_101 k_67 x1 w = some z → Sm L_X9_next R_X9_next w z.2) := by
  intro x1 w hz
  rw [f_X9_next_101] at hz
  exact ((Sm.rf.wI (lo := 130) (hi := 131) (c9 := 9) (show _ ∈ L_X9_next from by simp [L_X9_next]) (by decide) (by decide) (Or.inr rfl))).tr (Hk_67 (x1 + 1) _  hz)
theorem fr_X9_next_67 {z : Unit × GW} : ∀ (n9 : Nat), (∀ (x1 : Int32) (w : GW), f_X9_next_67 n9 x1 w = some z → Sm L_X9_next R_X9_next w z.2) := by
  intro n9
  induction n9 with
  | zero =>
    intro x1 w hz
    rw [f_X9_next_67] at hz
    cases hz
  | succ n9 ih =>
    intro x1 w hz
    rw [f_X9_next_67] at hz
    obtain ⟨q15, e16, hz⟩ := bd hz
    have ie16 : Sub L_X9_look L_X9_next := by
      unfold L_X9_look
      exact Sub.nil
    obtain ⟨q17, e18, hz⟩ := bd hz
    have ie18 : Sub L_X9_isSmall L_X9_next := by
      unfold L_X9_isSmall
      exact Sub.nil
    rcases bri hz with hz | hz
    · rcases bri hz with hz | hz
      · cases hz
        exact ((((Sm.rf.call (fr_X9_look x1 _ (z := q15)  e16) ie16 (show ∀ r ∈ R_X9_look, r ∈ R_X9_next from by decide)).call (fr_X9_isSmall q15.1 _ (z := q17)  e18) ie18 (show ∀ r ∈ R_X9_isSmall, r ∈ R_X9_next from by decide)).wI (lo := 130) (hi := 131) (c9 := 6) (show _ ∈ L_X9_next from by simp [L_X9_next]) (by decide) (by decide) (Or.inr rfl)).wI (lo := 130) (hi := 131) (c9 := 7) (show _ ∈ L_X9_next from by simp [L_X9_next]) (by decide) (by decide) (Or.inr rfl))
      · cases hz
        exact ((((Sm.rf.call (fr_X9_look x1 _ (z := q15)  e16) ie16 (show ∀ r ∈ R_X9_look, r ∈ R_X9_next from by decide)).call (fr_X9_isSmall q15.1 _ (z := q17)  e18) ie18 (show ∀ r ∈ R_X9_isSmall, r ∈ R_X9_next from by decide)).wI (lo := 130) (hi := 131) (c9 := 6) (show _ ∈ L_X9_next from by simp [L_X9_next]) (by decide) (by decide) (Or.inr rfl)).wI (lo := 130) (hi := 131) (c9 := 7) (show _ ∈ L_X9_next from by simp [L_X9_next]) (by decide) (by decide) (Or.inr rfl))
    · rcases bri hz with hz | hz
      · exact (((Sm.rf.call (fr_X9_look x1 _ (z := q15) e16) ie16 (show ∀ r ∈ R_X9_look, r ∈ R_X9_next from by decide)).call (fr_X9_isSmall q15.1 _ (z := q17) e18) ie18 (show ∀ r ∈ R_X9_isSmall, r ∈ R_X9_next from by decide))).tr (fr_X9_next_101 ih x1 _ hz)
      · obtain ⟨q19, e20, hz⟩ := bd hz
        have ie20 : Sub L_X9_look L_X9_next := by
          unfold L_X9_look
          exact Sub.nil
        obtain ⟨h21, hz⟩ := ck hz
        exact (((((Sm.rf.call (fr_X9_look x1 _ (z := q15) e16) ie16 (show ∀ r ∈ R_X9_look, r ∈ R_X9_next from by decide)).call (fr_X9_isSmall q15.1 _ (z := q17) e18) ie18 (show ∀ r ∈ R_X9_isSmall, r ∈ R_X9_next from by decide)).call (fr_X9_look x1 _ (z := q19) e20) ie20 (show ∀ r ∈ R_X9_look, r ∈ R_X9_next from by decide)).wI (lo := 132) (hi := 133) (c9 := 0) (show _ ∈ L_X9_next from by simp [L_X9_next]) (by decide) (by decide) (Or.inl rfl))).tr (fr_X9_next_101 ih x1 _ hz)
theorem fr_X9_next_5 {z : Unit × GW} : ∀ (n9 : Nat), (∀ (x1 : Int32) (w : GW), f_X9_next_5 n9 x1 w = some z → Sm L_X9_next R_X9_next w z.2) := by
  intro n9
  induction n9 with
  | zero =>
    intro x1 w hz
    rw [f_X9_next_5] at hz
    cases hz
  | succ n9 ih =>
    intro x1 w hz
    rw [f_X9_next_5] at hz
    obtain ⟨q1, e2, hz⟩ := bd hz
    have ie2 : Sub L_X9_look L_X9_next := by
      unfold L_X9_look
      exact Sub.nil
    rcases bri hz with hz | hz
    · exact ((Sm.rf.call (fr_X9_look x1 _ (z := q1)  e2) ie2 (show ∀ r ∈ R_X9_look, r ∈ R_X9_next from by decide))).tr (ih (x1 + 1) _  hz)
    · obtain ⟨q3, e4, hz⟩ := bd hz
      have ie4 : Sub L_X9_look L_X9_next := by
        unfold L_X9_look
        exact Sub.nil
      rcases bri hz with hz | hz
      · cases hz
        exact (((((((Sm.rf.call (fr_X9_look x1 _ (z := q1)  e2) ie2 (show ∀ r ∈ R_X9_look, r ∈ R_X9_next from by decide)).wI (lo := 130) (hi := 131) (c9 := 5) (show _ ∈ L_X9_next from by simp [L_X9_next]) (by decide) (by decide) (Or.inr rfl)).call (fr_X9_look x1 _ (z := q3)  e4) ie4 (show ∀ r ∈ R_X9_look, r ∈ R_X9_next from by decide)).wI (lo := 130) (hi := 131) (c9 := 9) (show _ ∈ L_X9_next from by simp [L_X9_next]) (by decide) (by decide) (Or.inr rfl)).wI (lo := 130) (hi := 131) (c9 := 8) (show _ ∈ L_X9_next from by simp [L_X9_next]) (by decide) (by decide) (Or.inr rfl)).wI (lo := 130) (hi := 131) (c9 := 7) (show _ ∈ L_X9_next from by simp [L_X9_next]) (by decide) (by decide) (Or.inr rfl)).wI (lo := 130) (hi := 131) (c9 := 6) (show _ ∈ L_X9_next from by simp [L_X9_next]) (by decide) (by decide) (Or.inr rfl))
      · obtain ⟨q5, e6, hz⟩ := bd hz
        have ie6 : Sub L_X9_isSmall L_X9_next := by
          unfold L_X9_isSmall
          exact Sub.nil
        rcases bri hz with hz | hz
        · obtain ⟨q7, e8, hz⟩ := bd hz
          have ie8 : Sub L_X9_isDigit L_X9_next := by
            unfold L_X9_isDigit
            exact Sub.nil
          rcases bri hz with hz | hz
          · rcases bri hz with hz | hz
            · cases hz
              exact (((((((((Sm.rf.call (fr_X9_look x1 _ (z := q1)  e2) ie2 (show ∀ r ∈ R_X9_look, r ∈ R_X9_next from by decide)).wI (lo := 130) (hi := 131) (c9 := 5) (show _ ∈ L_X9_next from by simp [L_X9_next]) (by decide) (by decide) (Or.inr rfl)).call (fr_X9_look x1 _ (z := q3)  e4) ie4 (show ∀ r ∈ R_X9_look, r ∈ R_X9_next from by decide)).wI (lo := 130) (hi := 131) (c9 := 9) (show _ ∈ L_X9_next from by simp [L_X9_next]) (by decide) (by decide) (Or.inr rfl)).wI (lo := 130) (hi := 131) (c9 := 8) (show _ ∈ L_X9_next from by simp [L_X9_next]) (by decide) (by decide) (Or.inr rfl)).call (fr_X9_isSmall q3.1 _ (z := q5)  e6) ie6 (show ∀ r ∈ R_X9_isSmall, r ∈ R_X9_next from by decide)).call (fr_X9_isDigit q3.1 _ (z := q7)  e8) ie8 (show ∀ r ∈ R_X9_isDigit, r ∈ R_X9_next from by decide)).wI (lo := 130) (hi := 131) (c9 := 6) (show _ ∈ L_X9_next from by simp [L_X9_next]) (by decide) (by decide) (Or.inr rfl)).wI (lo := 130) (hi := 131) (c9 := 7) (show _ ∈ L_X9_next from by simp [L_X9_next]) (by decide) (by decide) (Or.inr rfl))
            · rcases bri hz with hz | hz
              · cases hz
                exact (((((((((Sm.rf.call (fr_X9_look x1 _ (z := q1)  e2) ie2 (show ∀ r ∈ R_X9_look, r ∈ R_X9_next from by decide)).wI (lo := 130) (hi := 131) (c9 := 5) (show _ ∈ L_X9_next from by simp [L_X9_next]) (by decide) (by decide) (Or.inr rfl)).call (fr_X9_look x1 _ (z := q3)  e4) ie4 (show ∀ r ∈ R_X9_look, r ∈ R_X9_next from by decide)).wI (lo := 130) (hi := 131) (c9 := 9) (show _ ∈ L_X9_next from by simp [L_X9_next]) (by decide) (by decide) (Or.inr rfl)).wI (lo := 130) (hi := 131) (c9 := 8) (show _ ∈ L_X9_next from by simp [L_X9_next]) (by decide) (by decide) (Or.inr rfl)).call (fr_X9_isSmall q3.1 _ (z := q5)  e6) ie6 (show ∀ r ∈ R_X9_isSmall, r ∈ R_X9_next from by decide)).call (fr_X9_isDigit q3.1 _ (z := q7)  e8) ie8 (show ∀ r ∈ R_X9_isDigit, r ∈ R_X9_next from by decide)).wI (lo := 130) (hi := 131) (c9 := 6) (show _ ∈ L_X9_next from by simp [L_X9_next]) (by decide) (by decide) (Or.inr rfl)).wI (lo := 130) (hi := 131) (c9 := 7) (show _ ∈ L_X9_next from by simp [L_X9_next]) (by decide) (by decide) (Or.inr rfl))
              · cases hz
                exact (((((((((Sm.rf.call (fr_X9_look x1 _ (z := q1)  e2) ie2 (show ∀ r ∈ R_X9_look, r ∈ R_X9_next from by decide)).wI (lo := 130) (hi := 131) (c9 := 5) (show _ ∈ L_X9_next from by simp [L_X9_next]) (by decide) (by decide) (Or.inr rfl)).call (fr_X9_look x1 _ (z := q3)  e4) ie4 (show ∀ r ∈ R_X9_look, r ∈ R_X9_next from by decide)).wI (lo := 130) (hi := 131) (c9 := 9) (show _ ∈ L_X9_next from by simp [L_X9_next]) (by decide) (by decide) (Or.inr rfl)).wI (lo := 130) (hi := 131) (c9 := 8) (show _ ∈ L_X9_next from by simp [L_X9_next]) (by decide) (by decide) (Or.inr rfl)).call (fr_X9_isSmall q3.1 _ (z := q5)  e6) ie6 (show ∀ r ∈ R_X9_isSmall, r ∈ R_X9_next from by decide)).call (fr_X9_isDigit q3.1 _ (z := q7)  e8) ie8 (show ∀ r ∈ R_X9_isDigit, r ∈ R_X9_next from by decide)).wI (lo := 130) (hi := 131) (c9 := 6) (show _ ∈ L_X9_next from by simp [L_X9_next]) (by decide) (by decide) (Or.inr rfl)).wI (lo := 130) (hi := 131) (c9 := 7) (show _ ∈ L_X9_next from by simp [L_X9_next]) (by decide) (by decide) (Or.inr rfl))
          · exact ((((((((Sm.rf.call (fr_X9_look x1 _ (z := q1) e2) ie2 (show ∀ r ∈ R_X9_look, r ∈ R_X9_next from by decide)).wI (lo := 130) (hi := 131) (c9 := 5) (show _ ∈ L_X9_next from by simp [L_X9_next]) (by decide) (by decide) (Or.inr rfl)).call (fr_X9_look x1 _ (z := q3) e4) ie4 (show ∀ r ∈ R_X9_look, r ∈ R_X9_next from by decide)).wI (lo := 130) (hi := 131) (c9 := 9) (show _ ∈ L_X9_next from by simp [L_X9_next]) (by decide) (by decide) (Or.inr rfl)).wI (lo := 130) (hi := 131) (c9 := 8) (show _ ∈ L_X9_next from by simp [L_X9_next]) (by decide) (by decide) (Or.inr rfl)).call (fr_X9_isSmall q3.1 _ (z := q5) e6) ie6 (show ∀ r ∈ R_X9_isSmall, r ∈ R_X9_next from by decide)).call (fr_X9_isDigit q3.1 _ (z := q7) e8) ie8 (show ∀ r ∈ R_X9_isDigit, r ∈ R_X9_next from by decide))).tr (fr_X9_next_152 fu x1 0 _ hz)
        · exact (((((((Sm.rf.call (fr_X9_look x1 _ (z := q1) e2) ie2 (show ∀ r ∈ R_X9_look, r ∈ R_X9_next from by decide)).wI (lo := 130) (hi := 131) (c9 := 5) (show _ ∈ L_X9_next from by simp [L_X9_next]) (by decide) (by decide) (Or.inr rfl)).call (fr_X9_look x1 _ (z := q3) e4) ie4 (show ∀ r ∈ R_X9_look, r ∈ R_X9_next from by decide)).wI (lo := 130) (hi := 131) (c9 := 9) (show _ ∈ L_X9_next from by simp [L_X9_next]) (by decide) (by decide) (Or.inr rfl)).wI (lo := 130) (hi := 131) (c9 := 8) (show _ ∈ L_X9_next from by simp [L_X9_next]) (by decide) (by decide) (Or.inr rfl)).call (fr_X9_isSmall q3.1 _ (z := q5) e6) ie6 (show ∀ r ∈ R_X9_isSmall, r ∈ R_X9_next from by decide))).tr (fr_X9_next_67 fu x1 _ hz)
theorem fr_X9_next  (w : GW) {z : Unit × GW} : f_X9_next w = some z → Sm L_X9_next R_X9_next w z.2 := by
  intro  hz
  rw [f_X9_next] at hz
  exact (Sm.rf).tr (fr_X9_next_5 fu (gI w 130 5) _ hz)
def L_X9_wrong : List (Nat × Nat × Nat) := [(130, 131, 10), (130, 131, 11), (130, 131, 14)]
def R_X9_wrong : List Nat := []
theorem fr_X9_wrong (x1 : Int32) (x2 : Int32) (w : GW) {z : Unit × GW} : f_X9_wrong x1 x2 w = some z → Sm L_X9_wrong R_X9_wrong w z.2 := by
  intro  hz
  rw [f_X9_wrong] at hz
  rcases bri hz with hz | hz
  · cases hz
    exact (((Sm.rf.wI (lo := 130) (hi := 131) (c9 := 14) (show _ ∈ L_X9_wrong from by simp [L_X9_wrong]) (by decide) (by decide) (Or.inr rfl)).wI (lo := 130) (hi := 131) (c9 := 10) (show _ ∈ L_X9_wrong from by simp [L_X9_wrong]) (by decide) (by decide) (Or.inr rfl)).wI (lo := 130) (hi := 131) (c9 := 11) (show _ ∈ L_X9_wrong from by simp [L_X9_wrong]) (by decide) (by decide) (Or.inr rfl))
  · cases hz
    exact Sm.rf
def L_X9_isWord : List (Nat × Nat × Nat) := []
def R_X9_isWord : List Nat := []
theorem fr_X9_isWord_63 {z : Int32 × GW} {k_32 : Nat → Int32 → Int32 → GW → Option (Int32 × GW)} (Hk_32 : (∀ (u1 : Nat) (x2 : Int32) (x3 : Int32) (w : GW), k_32 u1 x2 x3 w = some z → Sm L_X9_isWord R_X9_isWord w z.2)) : (∀ (u1 : Nat) (x3 : Int32) (t0 : Int32) (w : GW), f_X9_isWord_63 k_32 u1 x3 t0 w = some z → Sm L_X9_isWord R_X9_isWord w z.2) := by
  intro u1 x3 t0 w hz
  rw [f_X9_isWord_63] at hz
  exact (Sm.rf).tr (Hk_32 u1 t0 (x3 + 1) _  hz)
theorem fr_X9_isWord_62 {z : Int32 × GW} {k_32 : Nat → Int32 → Int32 → GW → Option (Int32 × GW)} (Hk_32 : (∀ (u1 : Nat) (x2 : Int32) (x3 : Int32) (w : GW), k_32 u1 x2 x3 w = some z → Sm L_X9_isWord R_X9_isWord w z.2)) : (∀ (u1 : Nat) (x3 : Int32) (w : GW), f_X9_isWord_62 k_32 u1 x3 w = some z → Sm L_X9_isWord R_X9_isWord w z.2) := by
  intro u1 x3 w hz
  rw [f_X9_isWord_62] at hz
  exact (Sm.rf).tr (fr_X9_isWord_63 Hk_32 u1 x3 0 _ hz)
theorem fr_X9_isWord_32 {z : Int32 × GW} : ∀ (n9 : Nat), (∀ (u1 : Nat) (x2 : Int32) (x3 : Int32) (w : GW), f_X9_isWord_32 n9 u1 x2 x3 w = some z → Sm L_X9_isWord R_X9_isWord w z.2) := by
  intro n9
  induction n9 with
  | zero =>
    intro u1 x2 x3 w hz
    rw [f_X9_isWord_32] at hz
    cases hz
  | succ n9 ih =>
    intro u1 x2 x3 w hz
    rw [f_X9_isWord_32] at hz
    rcases bri hz with hz | hz
    · cases hz
      exact Sm.rf
    · rcases bri hz with hz | hz
      · exact (Sm.rf).tr (fr_X9_isWord_62 ih u1 x3 _ hz)
      · obtain ⟨h1, hz⟩ := ck hz
        obtain ⟨-, hz⟩ := ck hz
        rcases bri hz with hz | hz
        · exact (Sm.rf).tr (fr_X9_isWord_63 ih u1 x3 1 _ hz)
        · exact (Sm.rf).tr (fr_X9_isWord_62 ih u1 x3 _ hz)
theorem fr_X9_isWord (u1 : Nat) (w : GW) {z : Int32 × GW} : f_X9_isWord u1 w = some z → Sm L_X9_isWord R_X9_isWord w z.2 := by
  intro  hz
  rw [f_X9_isWord] at hz
  rcases bri hz with hz | hz
  · rcases bri hz with hz | hz
    · rcases bri hz with hz | hz
      · exact (Sm.rf).tr (fr_X9_isWord_32 fu u1 1 0 _ hz)
      · cases hz
        exact Sm.rf
    · cases hz
      exact Sm.rf
  · cases hz
    exact Sm.rf
def L_X9_takes : List (Nat × Nat × Nat) := [(130, 131, 5), (130, 131, 6), (130, 131, 7), (130, 131, 8), (130, 131, 9), (132, 133, 0)]
def R_X9_takes : List Nat := []
theorem fr_X9_takes (u1 : Nat) (w : GW) {z : Int32 × GW} : f_X9_takes u1 w = some z → Sm L_X9_takes R_X9_takes w z.2 := by
  intro  hz
  rw [f_X9_takes] at hz
  obtain ⟨q1, e2, hz⟩ := bd hz
  have ie2 : Sub L_X9_isWord L_X9_takes := by
    unfold L_X9_isWord
    exact Sub.nil
  rcases bri hz with hz | hz
  · cases hz
    exact (Sm.rf.call (fr_X9_isWord u1 _ (z := q1)  e2) ie2 (show ∀ r ∈ R_X9_isWord, r ∈ R_X9_takes from by decide))
  · obtain ⟨q3, e4, hz⟩ := bd hz
    have ie4 : Sub L_X9_next L_X9_takes := by
      unfold L_X9_next
      exact (Sub.cons (lo2 := 130) (hi2 := 131) (c2 := 5) (show _ ∈ L_X9_takes from by simp [L_X9_takes]) (by omega) (by omega) (Or.inr rfl) (Sub.cons (lo2 := 130) (hi2 := 131) (c2 := 6) (show _ ∈ L_X9_takes from by simp [L_X9_takes]) (by omega) (by omega) (Or.inr rfl) (Sub.cons (lo2 := 130) (hi2 := 131) (c2 := 7) (show _ ∈ L_X9_takes from by simp [L_X9_takes]) (by omega) (by omega) (Or.inr rfl) (Sub.cons (lo2 := 130) (hi2 := 131) (c2 := 8) (show _ ∈ L_X9_takes from by simp [L_X9_takes]) (by omega) (by omega) (Or.inr rfl) (Sub.cons (lo2 := 130) (hi2 := 131) (c2 := 9) (show _ ∈ L_X9_takes from by simp [L_X9_takes]) (by omega) (by omega) (Or.inr rfl) (Sub.cons (lo2 := 132) (hi2 := 133) (c2 := 0) (show _ ∈ L_X9_takes from by simp [L_X9_takes]) (by omega) (by omega) (Or.inl rfl) Sub.nil))))))
    cases hz
    exact ((Sm.rf.call (fr_X9_isWord u1 _ (z := q1)  e2) ie2 (show ∀ r ∈ R_X9_isWord, r ∈ R_X9_takes from by decide)).call (fr_X9_next  _ (z := q3)  e4) ie4 (show ∀ r ∈ R_X9_next, r ∈ R_X9_takes from by decide))
