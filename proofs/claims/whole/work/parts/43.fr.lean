def L_X9_must : List (Nat × Nat × Nat) := [(130, 131, 10), (130, 131, 11), (130, 131, 14), (130, 131, 5), (130, 131, 6), (130, 131, 7), (130, 131, 8), (130, 131, 9), (132, 133, 0)]
def R_X9_must : List Nat := []
theorem fr_X9_must (u1 : Nat) (w : GW) {z : Unit × GW} : f_X9_must u1 w = some z → Sm L_X9_must R_X9_must w z.2 := by
  intro  hz
  rw [f_X9_must] at hz
  rcases bri hz with hz | hz
  · obtain ⟨q1, e2, hz⟩ := bd hz
    have ie2 : Sub L_X9_takes L_X9_must := by
      unfold L_X9_takes
      exact (Sub.cons (lo2 := 130) (hi2 := 131) (c2 := 5) (show _ ∈ L_X9_must from by simp [L_X9_must]) (by omega) (by omega) (Or.inr rfl) (Sub.cons (lo2 := 130) (hi2 := 131) (c2 := 6) (show _ ∈ L_X9_must from by simp [L_X9_must]) (by omega) (by omega) (Or.inr rfl) (Sub.cons (lo2 := 130) (hi2 := 131) (c2 := 7) (show _ ∈ L_X9_must from by simp [L_X9_must]) (by omega) (by omega) (Or.inr rfl) (Sub.cons (lo2 := 130) (hi2 := 131) (c2 := 8) (show _ ∈ L_X9_must from by simp [L_X9_must]) (by omega) (by omega) (Or.inr rfl) (Sub.cons (lo2 := 130) (hi2 := 131) (c2 := 9) (show _ ∈ L_X9_must from by simp [L_X9_must]) (by omega) (by omega) (Or.inr rfl) (Sub.cons (lo2 := 132) (hi2 := 133) (c2 := 0) (show _ ∈ L_X9_must from by simp [L_X9_must]) (by omega) (by omega) (Or.inl rfl) Sub.nil))))))
    rcases bri hz with hz | hz
    · obtain ⟨q3, e4, hz⟩ := bd hz
      have ie4 : Sub L_X9_wrong L_X9_must := by
        unfold L_X9_wrong
        exact (Sub.cons (lo2 := 130) (hi2 := 131) (c2 := 10) (show _ ∈ L_X9_must from by simp [L_X9_must]) (by omega) (by omega) (Or.inr rfl) (Sub.cons (lo2 := 130) (hi2 := 131) (c2 := 11) (show _ ∈ L_X9_must from by simp [L_X9_must]) (by omega) (by omega) (Or.inr rfl) (Sub.cons (lo2 := 130) (hi2 := 131) (c2 := 14) (show _ ∈ L_X9_must from by simp [L_X9_must]) (by omega) (by omega) (Or.inr rfl) Sub.nil)))
      cases hz
      exact ((Sm.rf.call (fr_X9_takes u1 _ (z := q1)  e2) ie2 (show ∀ r ∈ R_X9_takes, r ∈ R_X9_must from by decide)).call (fr_X9_wrong 1 (gI q1.2 130 4) _ (z := q3)  e4) ie4 (show ∀ r ∈ R_X9_wrong, r ∈ R_X9_must from by decide))
    · cases hz
      exact (Sm.rf.call (fr_X9_takes u1 _ (z := q1)  e2) ie2 (show ∀ r ∈ R_X9_takes, r ∈ R_X9_must from by decide))
  · cases hz
    exact Sm.rf
def L_X9_number : List (Nat × Nat × Nat) := [(130, 131, 10), (130, 131, 11), (130, 131, 14), (130, 131, 5), (130, 131, 6), (130, 131, 7), (130, 131, 8), (130, 131, 9), (132, 133, 0)]
def R_X9_number : List Nat := []
theorem fr_X9_number (x1 : Int32) (x2 : Int32) (w : GW) {z : Int32 × GW} : f_X9_number x1 x2 w = some z → Sm L_X9_number R_X9_number w z.2 := by
  intro  hz
  rw [f_X9_number] at hz
  rcases bri hz with hz | hz
  · rcases bri hz with hz | hz
    · obtain ⟨q1, e2, hz⟩ := bd hz
      have ie2 : Sub L_X9_within L_X9_number := by
        unfold L_X9_within
        exact Sub.nil
      rcases bri hz with hz | hz
      · obtain ⟨q5, e6, hz⟩ := bd hz
        have ie6 : Sub L_X9_wrong L_X9_number := by
          unfold L_X9_wrong
          exact (Sub.cons (lo2 := 130) (hi2 := 131) (c2 := 10) (show _ ∈ L_X9_number from by simp [L_X9_number]) (by omega) (by omega) (Or.inr rfl) (Sub.cons (lo2 := 130) (hi2 := 131) (c2 := 11) (show _ ∈ L_X9_number from by simp [L_X9_number]) (by omega) (by omega) (Or.inr rfl) (Sub.cons (lo2 := 130) (hi2 := 131) (c2 := 14) (show _ ∈ L_X9_number from by simp [L_X9_number]) (by omega) (by omega) (Or.inr rfl) Sub.nil)))
        cases hz
        exact ((Sm.rf.call (fr_X9_within (gI w 130 7) x1 x2 _ (z := q1)  e2) ie2 (show ∀ r ∈ R_X9_within, r ∈ R_X9_number from by decide)).call (fr_X9_wrong 4 (gI q1.2 130 4) _ (z := q5)  e6) ie6 (show ∀ r ∈ R_X9_wrong, r ∈ R_X9_number from by decide))
      · obtain ⟨q3, e4, hz⟩ := bd hz
        have ie4 : Sub L_X9_next L_X9_number := by
          unfold L_X9_next
          exact (Sub.cons (lo2 := 130) (hi2 := 131) (c2 := 5) (show _ ∈ L_X9_number from by simp [L_X9_number]) (by omega) (by omega) (Or.inr rfl) (Sub.cons (lo2 := 130) (hi2 := 131) (c2 := 6) (show _ ∈ L_X9_number from by simp [L_X9_number]) (by omega) (by omega) (Or.inr rfl) (Sub.cons (lo2 := 130) (hi2 := 131) (c2 := 7) (show _ ∈ L_X9_number from by simp [L_X9_number]) (by omega) (by omega) (Or.inr rfl) (Sub.cons (lo2 := 130) (hi2 := 131) (c2 := 8) (show _ ∈ L_X9_number from by simp [L_X9_number]) (by omega) (by omega) (Or.inr rfl) (Sub.cons (lo2 := 130) (hi2 := 131) (c2 := 9) (show _ ∈ L_X9_number from by simp [L_X9_number]) (by omega) (by omega) (Or.inr rfl) (Sub.cons (lo2 := 132) (hi2 := 133) (c2 := 0) (show _ ∈ L_X9_number from by simp [L_X9_number]) (by omega) (by omega) (Or.inl rfl) Sub.nil))))))
        cases hz
        exact ((Sm.rf.call (fr_X9_within (gI w 130 7) x1 x2 _ (z := q1)  e2) ie2 (show ∀ r ∈ R_X9_within, r ∈ R_X9_number from by decide)).call (fr_X9_next  _ (z := q3)  e4) ie4 (show ∀ r ∈ R_X9_next, r ∈ R_X9_number from by decide))
    · obtain ⟨q7, e8, hz⟩ := bd hz
      have ie8 : Sub L_X9_wrong L_X9_number := by
        unfold L_X9_wrong
        exact (Sub.cons (lo2 := 130) (hi2 := 131) (c2 := 10) (show _ ∈ L_X9_number from by simp [L_X9_number]) (by omega) (by omega) (Or.inr rfl) (Sub.cons (lo2 := 130) (hi2 := 131) (c2 := 11) (show _ ∈ L_X9_number from by simp [L_X9_number]) (by omega) (by omega) (Or.inr rfl) (Sub.cons (lo2 := 130) (hi2 := 131) (c2 := 14) (show _ ∈ L_X9_number from by simp [L_X9_number]) (by omega) (by omega) (Or.inr rfl) Sub.nil)))
      cases hz
      exact (Sm.rf.call (fr_X9_wrong 1 (gI w 130 4) _ (z := q7)  e8) ie8 (show ∀ r ∈ R_X9_wrong, r ∈ R_X9_number from by decide))
  · cases hz
    exact Sm.rf
def L_X9_told : List (Nat × Nat × Nat) := [(130, 131, 10), (130, 131, 11), (130, 131, 14), (130, 131, 5), (130, 131, 6), (130, 131, 7), (130, 131, 8), (130, 131, 9), (132, 133, 0)]
def R_X9_told : List Nat := []
theorem fr_X9_told (u1 : Nat) (x2 : Int32) (x3 : Int32) (w : GW) {z : Int32 × GW} : f_X9_told u1 x2 x3 w = some z → Sm L_X9_told R_X9_told w z.2 := by
  intro  hz
  rw [f_X9_told] at hz
  obtain ⟨q1, e2, hz⟩ := bd hz
  have ie2 : Sub L_X9_must L_X9_told := by
    unfold L_X9_must
    exact (Sub.cons (lo2 := 130) (hi2 := 131) (c2 := 10) (show _ ∈ L_X9_told from by simp [L_X9_told]) (by omega) (by omega) (Or.inr rfl) (Sub.cons (lo2 := 130) (hi2 := 131) (c2 := 11) (show _ ∈ L_X9_told from by simp [L_X9_told]) (by omega) (by omega) (Or.inr rfl) (Sub.cons (lo2 := 130) (hi2 := 131) (c2 := 14) (show _ ∈ L_X9_told from by simp [L_X9_told]) (by omega) (by omega) (Or.inr rfl) (Sub.cons (lo2 := 130) (hi2 := 131) (c2 := 5) (show _ ∈ L_X9_told from by simp [L_X9_told]) (by omega) (by omega) (Or.inr rfl) (Sub.cons (lo2 := 130) (hi2 := 131) (c2 := 6) (show _ ∈ L_X9_told from by simp [L_X9_told]) (by omega) (by omega) (Or.inr rfl) (Sub.cons (lo2 := 130) (hi2 := 131) (c2 := 7) (show _ ∈ L_X9_told from by simp [L_X9_told]) (by omega) (by omega) (Or.inr rfl) (Sub.cons (lo2 := 130) (hi2 := 131) (c2 := 8) (show _ ∈ L_X9_told from by simp [L_X9_told]) (by omega) (by omega) (Or.inr rfl) (Sub.cons (lo2 := 130) (hi2 := 131) (c2 := 9) (show _ ∈ L_X9_told from by simp [L_X9_told]) (by omega) (by omega) (Or.inr rfl) (Sub.cons (lo2 := 132) (hi2 := 133) (c2 := 0) (show _ ∈ L_X9_told from by simp [L_X9_told]) (by omega) (by omega) (Or.inl rfl) Sub.nil)))))))))
  obtain ⟨q3, e4, hz⟩ := bd hz
  have ie4 : Sub L_X9_number L_X9_told := by
    unfold L_X9_number
    exact (Sub.cons (lo2 := 130) (hi2 := 131) (c2 := 10) (show _ ∈ L_X9_told from by simp [L_X9_told]) (by omega) (by omega) (Or.inr rfl) (Sub.cons (lo2 := 130) (hi2 := 131) (c2 := 11) (show _ ∈ L_X9_told from by simp [L_X9_told]) (by omega) (by omega) (Or.inr rfl) (Sub.cons (lo2 := 130) (hi2 := 131) (c2 := 14) (show _ ∈ L_X9_told from by simp [L_X9_told]) (by omega) (by omega) (Or.inr rfl) (Sub.cons (lo2 := 130) (hi2 := 131) (c2 := 5) (show _ ∈ L_X9_told from by simp [L_X9_told]) (by omega) (by omega) (Or.inr rfl) (Sub.cons (lo2 := 130) (hi2 := 131) (c2 := 6) (show _ ∈ L_X9_told from by simp [L_X9_told]) (by omega) (by omega) (Or.inr rfl) (Sub.cons (lo2 := 130) (hi2 := 131) (c2 := 7) (show _ ∈ L_X9_told from by simp [L_X9_told]) (by omega) (by omega) (Or.inr rfl) (Sub.cons (lo2 := 130) (hi2 := 131) (c2 := 8) (show _ ∈ L_X9_told from by simp [L_X9_told]) (by omega) (by omega) (Or.inr rfl) (Sub.cons (lo2 := 130) (hi2 := 131) (c2 := 9) (show _ ∈ L_X9_told from by simp [L_X9_told]) (by omega) (by omega) (Or.inr rfl) (Sub.cons (lo2 := 132) (hi2 := 133) (c2 := 0) (show _ ∈ L_X9_told from by simp [L_X9_told]) (by omega) (by omega) (Or.inl rfl) Sub.nil)))))))))
  cases hz
  exact ((Sm.rf.call (fr_X9_must u1 _ (z := q1)  e2) ie2 (show ∀ r ∈ R_X9_must, r ∈ R_X9_told from by decide)).call (fr_X9_number x2 x3 _ (z := q3)  e4) ie4 (show ∀ r ∈ R_X9_number, r ∈ R_X9_told from by decide))
def L_X9_begins : List (Nat × Nat × Nat) := [(130, 131, 10), (130, 131, 11), (130, 131, 14), (130, 131, 5), (130, 131, 6), (130, 131, 7), (130, 131, 8), (130, 131, 9), (132, 133, 0)]
def R_X9_begins : List Nat := []
theorem fr_X9_begins_48 {z : Int32 × GW} : (∀ (w : GW), f_X9_begins_48 w = some z → Sm L_X9_begins R_X9_begins w z.2) := by
  intro w hz
  rw [f_X9_begins_48] at hz
  rcases bri hz with hz | hz
  · obtain ⟨q3, e4, hz⟩ := bd hz
    have ie4 : Sub L_X9_next L_X9_begins := by
      unfold L_X9_next
      exact (Sub.cons (lo2 := 130) (hi2 := 131) (c2 := 5) (show _ ∈ L_X9_begins from by simp [L_X9_begins]) (by omega) (by omega) (Or.inr rfl) (Sub.cons (lo2 := 130) (hi2 := 131) (c2 := 6) (show _ ∈ L_X9_begins from by simp [L_X9_begins]) (by omega) (by omega) (Or.inr rfl) (Sub.cons (lo2 := 130) (hi2 := 131) (c2 := 7) (show _ ∈ L_X9_begins from by simp [L_X9_begins]) (by omega) (by omega) (Or.inr rfl) (Sub.cons (lo2 := 130) (hi2 := 131) (c2 := 8) (show _ ∈ L_X9_begins from by simp [L_X9_begins]) (by omega) (by omega) (Or.inr rfl) (Sub.cons (lo2 := 130) (hi2 := 131) (c2 := 9) (show _ ∈ L_X9_begins from by simp [L_X9_begins]) (by omega) (by omega) (Or.inr rfl) (Sub.cons (lo2 := 132) (hi2 := 133) (c2 := 0) (show _ ∈ L_X9_begins from by simp [L_X9_begins]) (by omega) (by omega) (Or.inl rfl) Sub.nil))))))
    cases hz
    exact (Sm.rf.call (fr_X9_next  _ (z := q3)  e4) ie4 (show ∀ r ∈ R_X9_next, r ∈ R_X9_begins from by decide))
  · cases hz
    exact Sm.rf
theorem fr_X9_begins_23 {z : Int32 × GW} : (∀ (x4 : Int32) (w : GW), f_X9_begins_23 x4 w = some z → Sm L_X9_begins R_X9_begins w z.2) := by
  intro x4 w hz
  rw [f_X9_begins_23] at hz
  rcases bri hz with hz | hz
  · exact (Sm.rf).tr (fr_X9_begins_48 _ hz)
  · obtain ⟨h5, hz⟩ := ck hz
    rcases bri hz with hz | hz
    · obtain ⟨q6, e7, hz⟩ := bd hz
      have ie7 : Sub L_X9_wrong L_X9_begins := by
        unfold L_X9_wrong
        exact (Sub.cons (lo2 := 130) (hi2 := 131) (c2 := 10) (show _ ∈ L_X9_begins from by simp [L_X9_begins]) (by omega) (by omega) (Or.inr rfl) (Sub.cons (lo2 := 130) (hi2 := 131) (c2 := 11) (show _ ∈ L_X9_begins from by simp [L_X9_begins]) (by omega) (by omega) (Or.inr rfl) (Sub.cons (lo2 := 130) (hi2 := 131) (c2 := 14) (show _ ∈ L_X9_begins from by simp [L_X9_begins]) (by omega) (by omega) (Or.inr rfl) Sub.nil)))
      exact ((Sm.rf.call (fr_X9_wrong 6 (gI w 130 4) _ (z := q6) e7) ie7 (show ∀ r ∈ R_X9_wrong, r ∈ R_X9_begins from by decide))).tr (fr_X9_begins_48 _ hz)
    · exact (Sm.rf).tr (fr_X9_begins_48 _ hz)
theorem fr_X9_begins (u1 : Nat) (x2 : Int32) (x3 : Int32) (x4 : Int32) (w : GW) {z : Int32 × GW} : f_X9_begins u1 x2 x3 x4 w = some z → Sm L_X9_begins R_X9_begins w z.2 := by
  intro  hz
  rw [f_X9_begins] at hz
  obtain ⟨q1, e2, hz⟩ := bd hz
  have ie2 : Sub L_X9_isWord L_X9_begins := by
    unfold L_X9_isWord
    exact Sub.nil
  rcases bri hz with hz | hz
  · cases hz
    exact (Sm.rf.call (fr_X9_isWord u1 _ (z := q1)  e2) ie2 (show ∀ r ∈ R_X9_isWord, r ∈ R_X9_begins from by decide))
  · rcases bri hz with hz | hz
    · obtain ⟨q8, e9, hz⟩ := bd hz
      have ie9 : Sub L_X9_wrong L_X9_begins := by
        unfold L_X9_wrong
        exact (Sub.cons (lo2 := 130) (hi2 := 131) (c2 := 10) (show _ ∈ L_X9_begins from by simp [L_X9_begins]) (by omega) (by omega) (Or.inr rfl) (Sub.cons (lo2 := 130) (hi2 := 131) (c2 := 11) (show _ ∈ L_X9_begins from by simp [L_X9_begins]) (by omega) (by omega) (Or.inr rfl) (Sub.cons (lo2 := 130) (hi2 := 131) (c2 := 14) (show _ ∈ L_X9_begins from by simp [L_X9_begins]) (by omega) (by omega) (Or.inr rfl) Sub.nil)))
      exact (((Sm.rf.call (fr_X9_isWord u1 _ (z := q1) e2) ie2 (show ∀ r ∈ R_X9_isWord, r ∈ R_X9_begins from by decide)).call (fr_X9_wrong x3 (gI q1.2 130 4) _ (z := q8) e9) ie9 (show ∀ r ∈ R_X9_wrong, r ∈ R_X9_begins from by decide))).tr (fr_X9_begins_23 x4 _ hz)
    · exact ((Sm.rf.call (fr_X9_isWord u1 _ (z := q1) e2) ie2 (show ∀ r ∈ R_X9_isWord, r ∈ R_X9_begins from by decide))).tr (fr_X9_begins_23 x4 _ hz)
def L_X9_hallLine : List (Nat × Nat × Nat) := [(130, 131, 10), (130, 131, 11), (130, 131, 14), (130, 131, 5), (130, 131, 6), (130, 131, 7), (130, 131, 8), (130, 131, 9), (132, 133, 0), (134, 135, 0)]
def R_X9_hallLine : List Nat := []
theorem fr_X9_hallLine  (w : GW) {z : Unit × GW} : f_X9_hallLine w = some z → Sm L_X9_hallLine R_X9_hallLine w z.2 := by
  intro  hz
  rw [f_X9_hallLine] at hz
  rcases bri hz with hz | hz
  · obtain ⟨q1, e2, hz⟩ := bd hz
    have ie2 : Sub L_X9_told L_X9_hallLine := by
      unfold L_X9_told
      exact (Sub.cons (lo2 := 130) (hi2 := 131) (c2 := 10) (show _ ∈ L_X9_hallLine from by simp [L_X9_hallLine]) (by omega) (by omega) (Or.inr rfl) (Sub.cons (lo2 := 130) (hi2 := 131) (c2 := 11) (show _ ∈ L_X9_hallLine from by simp [L_X9_hallLine]) (by omega) (by omega) (Or.inr rfl) (Sub.cons (lo2 := 130) (hi2 := 131) (c2 := 14) (show _ ∈ L_X9_hallLine from by simp [L_X9_hallLine]) (by omega) (by omega) (Or.inr rfl) (Sub.cons (lo2 := 130) (hi2 := 131) (c2 := 5) (show _ ∈ L_X9_hallLine from by simp [L_X9_hallLine]) (by omega) (by omega) (Or.inr rfl) (Sub.cons (lo2 := 130) (hi2 := 131) (c2 := 6) (show _ ∈ L_X9_hallLine from by simp [L_X9_hallLine]) (by omega) (by omega) (Or.inr rfl) (Sub.cons (lo2 := 130) (hi2 := 131) (c2 := 7) (show _ ∈ L_X9_hallLine from by simp [L_X9_hallLine]) (by omega) (by omega) (Or.inr rfl) (Sub.cons (lo2 := 130) (hi2 := 131) (c2 := 8) (show _ ∈ L_X9_hallLine from by simp [L_X9_hallLine]) (by omega) (by omega) (Or.inr rfl) (Sub.cons (lo2 := 130) (hi2 := 131) (c2 := 9) (show _ ∈ L_X9_hallLine from by simp [L_X9_hallLine]) (by omega) (by omega) (Or.inr rfl) (Sub.cons (lo2 := 132) (hi2 := 133) (c2 := 0) (show _ ∈ L_X9_hallLine from by simp [L_X9_hallLine]) (by omega) (by omega) (Or.inl rfl) Sub.nil)))))))))
    obtain ⟨h3, hz⟩ := ck hz
    obtain ⟨q4, e5, hz⟩ := bd hz
    have ie5 : Sub L_X9_told L_X9_hallLine := by
      unfold L_X9_told
      exact (Sub.cons (lo2 := 130) (hi2 := 131) (c2 := 10) (show _ ∈ L_X9_hallLine from by simp [L_X9_hallLine]) (by omega) (by omega) (Or.inr rfl) (Sub.cons (lo2 := 130) (hi2 := 131) (c2 := 11) (show _ ∈ L_X9_hallLine from by simp [L_X9_hallLine]) (by omega) (by omega) (Or.inr rfl) (Sub.cons (lo2 := 130) (hi2 := 131) (c2 := 14) (show _ ∈ L_X9_hallLine from by simp [L_X9_hallLine]) (by omega) (by omega) (Or.inr rfl) (Sub.cons (lo2 := 130) (hi2 := 131) (c2 := 5) (show _ ∈ L_X9_hallLine from by simp [L_X9_hallLine]) (by omega) (by omega) (Or.inr rfl) (Sub.cons (lo2 := 130) (hi2 := 131) (c2 := 6) (show _ ∈ L_X9_hallLine from by simp [L_X9_hallLine]) (by omega) (by omega) (Or.inr rfl) (Sub.cons (lo2 := 130) (hi2 := 131) (c2 := 7) (show _ ∈ L_X9_hallLine from by simp [L_X9_hallLine]) (by omega) (by omega) (Or.inr rfl) (Sub.cons (lo2 := 130) (hi2 := 131) (c2 := 8) (show _ ∈ L_X9_hallLine from by simp [L_X9_hallLine]) (by omega) (by omega) (Or.inr rfl) (Sub.cons (lo2 := 130) (hi2 := 131) (c2 := 9) (show _ ∈ L_X9_hallLine from by simp [L_X9_hallLine]) (by omega) (by omega) (Or.inr rfl) (Sub.cons (lo2 := 132) (hi2 := 133) (c2 := 0) (show _ ∈ L_X9_hallLine from by simp [L_X9_hallLine]) (by omega) (by omega) (Or.inl rfl) Sub.nil)))))))))
    obtain ⟨h6, hz⟩ := ck hz
    rcases bri hz with hz | hz
    · obtain ⟨h7, hz⟩ := ck hz
      cases hz
      exact (((((Sm.rf.call (fr_X9_told 18 1 5 _ (z := q1)  e2) ie2 (show ∀ r ∈ R_X9_told, r ∈ R_X9_hallLine from by decide)).wI (lo := 134) (hi := 135) (c9 := 0) (show _ ∈ L_X9_hallLine from by simp [L_X9_hallLine]) (by decide) (by decide) (Or.inl rfl)).call (fr_X9_told 19 0 8 _ (z := q4)  e5) ie5 (show ∀ r ∈ R_X9_told, r ∈ R_X9_hallLine from by decide)).wI (lo := 134) (hi := 135) (c9 := 0) (show _ ∈ L_X9_hallLine from by simp [L_X9_hallLine]) (by decide) (by decide) (Or.inl rfl)).wI (lo := 134) (hi := 135) (c9 := 0) (show _ ∈ L_X9_hallLine from by simp [L_X9_hallLine]) (by decide) (by decide) (Or.inl rfl))
    · cases hz
      exact ((((Sm.rf.call (fr_X9_told 18 1 5 _ (z := q1)  e2) ie2 (show ∀ r ∈ R_X9_told, r ∈ R_X9_hallLine from by decide)).wI (lo := 134) (hi := 135) (c9 := 0) (show _ ∈ L_X9_hallLine from by simp [L_X9_hallLine]) (by decide) (by decide) (Or.inl rfl)).call (fr_X9_told 19 0 8 _ (z := q4)  e5) ie5 (show ∀ r ∈ R_X9_told, r ∈ R_X9_hallLine from by decide)).wI (lo := 134) (hi := 135) (c9 := 0) (show _ ∈ L_X9_hallLine from by simp [L_X9_hallLine]) (by decide) (by decide) (Or.inl rfl))
  · cases hz
    exact Sm.rf
def L_X9_boxLine : List (Nat × Nat × Nat) := [(130, 131, 10), (130, 131, 11), (130, 131, 14), (130, 131, 5), (130, 131, 6), (130, 131, 7), (130, 131, 8), (130, 131, 9), (132, 133, 0), (134, 135, 0)]
def R_X9_boxLine : List Nat := []
theorem fr_X9_boxLine_64 {z : Unit × GW} : (∀ (w : GW), f_X9_boxLine_64 w = some z → Sm L_X9_boxLine R_X9_boxLine w z.2) := by
  intro w hz
  rw [f_X9_boxLine_64] at hz
  obtain ⟨h1, hz⟩ := ck hz
  obtain ⟨q2, e3, hz⟩ := bd hz
  have ie3 : Sub L_X9_number L_X9_boxLine := by
    unfold L_X9_number
    exact (Sub.cons (lo2 := 130) (hi2 := 131) (c2 := 10) (show _ ∈ L_X9_boxLine from by simp [L_X9_boxLine]) (by omega) (by omega) (Or.inr rfl) (Sub.cons (lo2 := 130) (hi2 := 131) (c2 := 11) (show _ ∈ L_X9_boxLine from by simp [L_X9_boxLine]) (by omega) (by omega) (Or.inr rfl) (Sub.cons (lo2 := 130) (hi2 := 131) (c2 := 14) (show _ ∈ L_X9_boxLine from by simp [L_X9_boxLine]) (by omega) (by omega) (Or.inr rfl) (Sub.cons (lo2 := 130) (hi2 := 131) (c2 := 5) (show _ ∈ L_X9_boxLine from by simp [L_X9_boxLine]) (by omega) (by omega) (Or.inr rfl) (Sub.cons (lo2 := 130) (hi2 := 131) (c2 := 6) (show _ ∈ L_X9_boxLine from by simp [L_X9_boxLine]) (by omega) (by omega) (Or.inr rfl) (Sub.cons (lo2 := 130) (hi2 := 131) (c2 := 7) (show _ ∈ L_X9_boxLine from by simp [L_X9_boxLine]) (by omega) (by omega) (Or.inr rfl) (Sub.cons (lo2 := 130) (hi2 := 131) (c2 := 8) (show _ ∈ L_X9_boxLine from by simp [L_X9_boxLine]) (by omega) (by omega) (Or.inr rfl) (Sub.cons (lo2 := 130) (hi2 := 131) (c2 := 9) (show _ ∈ L_X9_boxLine from by simp [L_X9_boxLine]) (by omega) (by omega) (Or.inr rfl) (Sub.cons (lo2 := 132) (hi2 := 133) (c2 := 0) (show _ ∈ L_X9_boxLine from by simp [L_X9_boxLine]) (by omega) (by omega) (Or.inl rfl) Sub.nil)))))))))
  rcases bri hz with hz | hz
  · obtain ⟨q4, e5, hz⟩ := bd hz
    have ie5 : Sub L_X9_told L_X9_boxLine := by
      unfold L_X9_told
      exact (Sub.cons (lo2 := 130) (hi2 := 131) (c2 := 10) (show _ ∈ L_X9_boxLine from by simp [L_X9_boxLine]) (by omega) (by omega) (Or.inr rfl) (Sub.cons (lo2 := 130) (hi2 := 131) (c2 := 11) (show _ ∈ L_X9_boxLine from by simp [L_X9_boxLine]) (by omega) (by omega) (Or.inr rfl) (Sub.cons (lo2 := 130) (hi2 := 131) (c2 := 14) (show _ ∈ L_X9_boxLine from by simp [L_X9_boxLine]) (by omega) (by omega) (Or.inr rfl) (Sub.cons (lo2 := 130) (hi2 := 131) (c2 := 5) (show _ ∈ L_X9_boxLine from by simp [L_X9_boxLine]) (by omega) (by omega) (Or.inr rfl) (Sub.cons (lo2 := 130) (hi2 := 131) (c2 := 6) (show _ ∈ L_X9_boxLine from by simp [L_X9_boxLine]) (by omega) (by omega) (Or.inr rfl) (Sub.cons (lo2 := 130) (hi2 := 131) (c2 := 7) (show _ ∈ L_X9_boxLine from by simp [L_X9_boxLine]) (by omega) (by omega) (Or.inr rfl) (Sub.cons (lo2 := 130) (hi2 := 131) (c2 := 8) (show _ ∈ L_X9_boxLine from by simp [L_X9_boxLine]) (by omega) (by omega) (Or.inr rfl) (Sub.cons (lo2 := 130) (hi2 := 131) (c2 := 9) (show _ ∈ L_X9_boxLine from by simp [L_X9_boxLine]) (by omega) (by omega) (Or.inr rfl) (Sub.cons (lo2 := 132) (hi2 := 133) (c2 := 0) (show _ ∈ L_X9_boxLine from by simp [L_X9_boxLine]) (by omega) (by omega) (Or.inl rfl) Sub.nil)))))))))
    obtain ⟨h6, hz⟩ := ck hz
    obtain ⟨q7, e8, hz⟩ := bd hz
    have ie8 : Sub L_X9_told L_X9_boxLine := by
      unfold L_X9_told
      exact (Sub.cons (lo2 := 130) (hi2 := 131) (c2 := 10) (show _ ∈ L_X9_boxLine from by simp [L_X9_boxLine]) (by omega) (by omega) (Or.inr rfl) (Sub.cons (lo2 := 130) (hi2 := 131) (c2 := 11) (show _ ∈ L_X9_boxLine from by simp [L_X9_boxLine]) (by omega) (by omega) (Or.inr rfl) (Sub.cons (lo2 := 130) (hi2 := 131) (c2 := 14) (show _ ∈ L_X9_boxLine from by simp [L_X9_boxLine]) (by omega) (by omega) (Or.inr rfl) (Sub.cons (lo2 := 130) (hi2 := 131) (c2 := 5) (show _ ∈ L_X9_boxLine from by simp [L_X9_boxLine]) (by omega) (by omega) (Or.inr rfl) (Sub.cons (lo2 := 130) (hi2 := 131) (c2 := 6) (show _ ∈ L_X9_boxLine from by simp [L_X9_boxLine]) (by omega) (by omega) (Or.inr rfl) (Sub.cons (lo2 := 130) (hi2 := 131) (c2 := 7) (show _ ∈ L_X9_boxLine from by simp [L_X9_boxLine]) (by omega) (by omega) (Or.inr rfl) (Sub.cons (lo2 := 130) (hi2 := 131) (c2 := 8) (show _ ∈ L_X9_boxLine from by simp [L_X9_boxLine]) (by omega) (by omega) (Or.inr rfl) (Sub.cons (lo2 := 130) (hi2 := 131) (c2 := 9) (show _ ∈ L_X9_boxLine from by simp [L_X9_boxLine]) (by omega) (by omega) (Or.inr rfl) (Sub.cons (lo2 := 132) (hi2 := 133) (c2 := 0) (show _ ∈ L_X9_boxLine from by simp [L_X9_boxLine]) (by omega) (by omega) (Or.inl rfl) Sub.nil)))))))))
    obtain ⟨h9, hz⟩ := ck hz
    obtain ⟨h10, hz⟩ := ck hz
    cases hz
    exact ((((((Sm.rf.call (fr_X9_number 0 ((gI w 134 (ix 0)) - 1) _ (z := q2)  e3) ie3 (show ∀ r ∈ R_X9_number, r ∈ R_X9_boxLine from by decide)).call (fr_X9_told 21 1 8 _ (z := q4)  e5) ie5 (show ∀ r ∈ R_X9_told, r ∈ R_X9_boxLine from by decide)).wI (lo := 134) (hi := 135) (c9 := 0) (show _ ∈ L_X9_boxLine from by simp [L_X9_boxLine]) (by decide) (by decide) (Or.inl rfl)).call (fr_X9_told 22 1 3 _ (z := q7)  e8) ie8 (show ∀ r ∈ R_X9_told, r ∈ R_X9_boxLine from by decide)).wI (lo := 134) (hi := 135) (c9 := 0) (show _ ∈ L_X9_boxLine from by simp [L_X9_boxLine]) (by decide) (by decide) (Or.inl rfl)).wI (lo := 134) (hi := 135) (c9 := 0) (show _ ∈ L_X9_boxLine from by simp [L_X9_boxLine]) (by decide) (by decide) (Or.inl rfl))
  · cases hz
    exact (Sm.rf.call (fr_X9_number 0 ((gI w 134 (ix 0)) - 1) _ (z := q2)  e3) ie3 (show ∀ r ∈ R_X9_number, r ∈ R_X9_boxLine from by decide))
theorem fr_X9_boxLine_50 {z : Unit × GW} : (∀ (t0 : Int32) (w : GW), f_X9_boxLine_50 t0 w = some z → Sm L_X9_boxLine R_X9_boxLine w z.2) := by
  intro t0 w hz
  rw [f_X9_boxLine_50] at hz
  rcases bri hz with hz | hz
  · exact (Sm.rf).tr (fr_X9_boxLine_64 _ hz)
  · obtain ⟨q11, e12, hz⟩ := bd hz
    have ie12 : Sub L_X9_wrong L_X9_boxLine := by
      unfold L_X9_wrong
      exact (Sub.cons (lo2 := 130) (hi2 := 131) (c2 := 10) (show _ ∈ L_X9_boxLine from by simp [L_X9_boxLine]) (by omega) (by omega) (Or.inr rfl) (Sub.cons (lo2 := 130) (hi2 := 131) (c2 := 11) (show _ ∈ L_X9_boxLine from by simp [L_X9_boxLine]) (by omega) (by omega) (Or.inr rfl) (Sub.cons (lo2 := 130) (hi2 := 131) (c2 := 14) (show _ ∈ L_X9_boxLine from by simp [L_X9_boxLine]) (by omega) (by omega) (Or.inr rfl) Sub.nil)))
    exact ((Sm.rf.call (fr_X9_wrong 3 (gI w 130 4) _ (z := q11) e12) ie12 (show ∀ r ∈ R_X9_wrong, r ∈ R_X9_boxLine from by decide))).tr (fr_X9_boxLine_64 _ hz)
theorem fr_X9_boxLine_49 {z : Unit × GW} : (∀ (w : GW), f_X9_boxLine_49 w = some z → Sm L_X9_boxLine R_X9_boxLine w z.2) := by
  intro w hz
  rw [f_X9_boxLine_49] at hz
  exact (Sm.rf).tr (fr_X9_boxLine_50 0 _ hz)
theorem fr_X9_boxLine  (w : GW) {z : Unit × GW} : f_X9_boxLine w = some z → Sm L_X9_boxLine R_X9_boxLine w z.2 := by
  intro  hz
  rw [f_X9_boxLine] at hz
  rcases bri hz with hz | hz
  · rcases bri hz with hz | hz
    · obtain ⟨h13, hz⟩ := ck hz
      rcases bri hz with hz | hz
      · exact (Sm.rf).tr (fr_X9_boxLine_49 _ hz)
      · obtain ⟨h14, hz⟩ := ck hz
        rcases bri hz with hz | hz
        · exact (Sm.rf).tr (fr_X9_boxLine_50 1 _ hz)
        · exact (Sm.rf).tr (fr_X9_boxLine_49 _ hz)
    · exact (Sm.rf).tr (fr_X9_boxLine_49 _ hz)
  · cases hz
    exact Sm.rf
def L_X9_porterLine : List (Nat × Nat × Nat) := [(130, 131, 10), (130, 131, 11), (130, 131, 14), (130, 131, 5), (130, 131, 6), (130, 131, 7), (130, 131, 8), (130, 131, 9), (132, 133, 0), (134, 135, 0)]
def R_X9_porterLine : List Nat := []
theorem fr_X9_porterLine_414 {z : Unit × GW} : (∀ (w : GW), f_X9_porterLine_414 w = some z → Sm L_X9_porterLine R_X9_porterLine w z.2) := by
  intro w hz
  rw [f_X9_porterLine_414] at hz
  obtain ⟨h25, hz⟩ := ck hz
  obtain ⟨h26, hz⟩ := ck hz
  cases hz
  exact (Sm.rf.wI (lo := 134) (hi := 135) (c9 := 0) (show _ ∈ L_X9_porterLine from by simp [L_X9_porterLine]) (by decide) (by decide) (Or.inl rfl))
theorem fr_X9_porterLine_219 {z : Unit × GW} : ∀ (n9 : Nat), (∀ (x1 : Int32) (x3 : Int32) (w : GW), f_X9_porterLine_219 n9 x1 x3 w = some z → Sm L_X9_porterLine R_X9_porterLine w z.2) := by
  intro n9
  induction n9 with
  | zero =>
    intro x1 x3 w hz
    rw [f_X9_porterLine_219] at hz
    cases hz
  | succ n9 ih =>
    intro x1 x3 w hz
    rw [f_X9_porterLine_219] at hz
    rcases bri hz with hz | hz
    · obtain ⟨h6, hz⟩ := ck hz
      obtain ⟨q7, e8, hz⟩ := bd hz
      have ie8 : Sub L_X9_next L_X9_porterLine := by
        unfold L_X9_next
        exact (Sub.cons (lo2 := 130) (hi2 := 131) (c2 := 5) (show _ ∈ L_X9_porterLine from by simp [L_X9_porterLine]) (by omega) (by omega) (Or.inr rfl) (Sub.cons (lo2 := 130) (hi2 := 131) (c2 := 6) (show _ ∈ L_X9_porterLine from by simp [L_X9_porterLine]) (by omega) (by omega) (Or.inr rfl) (Sub.cons (lo2 := 130) (hi2 := 131) (c2 := 7) (show _ ∈ L_X9_porterLine from by simp [L_X9_porterLine]) (by omega) (by omega) (Or.inr rfl) (Sub.cons (lo2 := 130) (hi2 := 131) (c2 := 8) (show _ ∈ L_X9_porterLine from by simp [L_X9_porterLine]) (by omega) (by omega) (Or.inr rfl) (Sub.cons (lo2 := 130) (hi2 := 131) (c2 := 9) (show _ ∈ L_X9_porterLine from by simp [L_X9_porterLine]) (by omega) (by omega) (Or.inr rfl) (Sub.cons (lo2 := 132) (hi2 := 133) (c2 := 0) (show _ ∈ L_X9_porterLine from by simp [L_X9_porterLine]) (by omega) (by omega) (Or.inl rfl) Sub.nil))))))
      obtain ⟨q9, e10, hz⟩ := bd hz
      have ie10 : Sub L_X9_told L_X9_porterLine := by
        unfold L_X9_told
        exact (Sub.cons (lo2 := 130) (hi2 := 131) (c2 := 10) (show _ ∈ L_X9_porterLine from by simp [L_X9_porterLine]) (by omega) (by omega) (Or.inr rfl) (Sub.cons (lo2 := 130) (hi2 := 131) (c2 := 11) (show _ ∈ L_X9_porterLine from by simp [L_X9_porterLine]) (by omega) (by omega) (Or.inr rfl) (Sub.cons (lo2 := 130) (hi2 := 131) (c2 := 14) (show _ ∈ L_X9_porterLine from by simp [L_X9_porterLine]) (by omega) (by omega) (Or.inr rfl) (Sub.cons (lo2 := 130) (hi2 := 131) (c2 := 5) (show _ ∈ L_X9_porterLine from by simp [L_X9_porterLine]) (by omega) (by omega) (Or.inr rfl) (Sub.cons (lo2 := 130) (hi2 := 131) (c2 := 6) (show _ ∈ L_X9_porterLine from by simp [L_X9_porterLine]) (by omega) (by omega) (Or.inr rfl) (Sub.cons (lo2 := 130) (hi2 := 131) (c2 := 7) (show _ ∈ L_X9_porterLine from by simp [L_X9_porterLine]) (by omega) (by omega) (Or.inr rfl) (Sub.cons (lo2 := 130) (hi2 := 131) (c2 := 8) (show _ ∈ L_X9_porterLine from by simp [L_X9_porterLine]) (by omega) (by omega) (Or.inr rfl) (Sub.cons (lo2 := 130) (hi2 := 131) (c2 := 9) (show _ ∈ L_X9_porterLine from by simp [L_X9_porterLine]) (by omega) (by omega) (Or.inr rfl) (Sub.cons (lo2 := 132) (hi2 := 133) (c2 := 0) (show _ ∈ L_X9_porterLine from by simp [L_X9_porterLine]) (by omega) (by omega) (Or.inl rfl) Sub.nil)))))))))
      obtain ⟨h11, hz⟩ := ck hz
      obtain ⟨h12, hz⟩ := ck hz
      obtain ⟨q13, e14, hz⟩ := bd hz
      have ie14 : Sub L_X9_takes L_X9_porterLine := by
        unfold L_X9_takes
        exact (Sub.cons (lo2 := 130) (hi2 := 131) (c2 := 5) (show _ ∈ L_X9_porterLine from by simp [L_X9_porterLine]) (by omega) (by omega) (Or.inr rfl) (Sub.cons (lo2 := 130) (hi2 := 131) (c2 := 6) (show _ ∈ L_X9_porterLine from by simp [L_X9_porterLine]) (by omega) (by omega) (Or.inr rfl) (Sub.cons (lo2 := 130) (hi2 := 131) (c2 := 7) (show _ ∈ L_X9_porterLine from by simp [L_X9_porterLine]) (by omega) (by omega) (Or.inr rfl) (Sub.cons (lo2 := 130) (hi2 := 131) (c2 := 8) (show _ ∈ L_X9_porterLine from by simp [L_X9_porterLine]) (by omega) (by omega) (Or.inr rfl) (Sub.cons (lo2 := 130) (hi2 := 131) (c2 := 9) (show _ ∈ L_X9_porterLine from by simp [L_X9_porterLine]) (by omega) (by omega) (Or.inr rfl) (Sub.cons (lo2 := 132) (hi2 := 133) (c2 := 0) (show _ ∈ L_X9_porterLine from by simp [L_X9_porterLine]) (by omega) (by omega) (Or.inl rfl) Sub.nil))))))
      rcases bri hz with hz | hz
      · obtain ⟨q15, e16, hz⟩ := bd hz
        have ie16 : Sub L_X9_takes L_X9_porterLine := by
          unfold L_X9_takes
          exact (Sub.cons (lo2 := 130) (hi2 := 131) (c2 := 5) (show _ ∈ L_X9_porterLine from by simp [L_X9_porterLine]) (by omega) (by omega) (Or.inr rfl) (Sub.cons (lo2 := 130) (hi2 := 131) (c2 := 6) (show _ ∈ L_X9_porterLine from by simp [L_X9_porterLine]) (by omega) (by omega) (Or.inr rfl) (Sub.cons (lo2 := 130) (hi2 := 131) (c2 := 7) (show _ ∈ L_X9_porterLine from by simp [L_X9_porterLine]) (by omega) (by omega) (Or.inr rfl) (Sub.cons (lo2 := 130) (hi2 := 131) (c2 := 8) (show _ ∈ L_X9_porterLine from by simp [L_X9_porterLine]) (by omega) (by omega) (Or.inr rfl) (Sub.cons (lo2 := 130) (hi2 := 131) (c2 := 9) (show _ ∈ L_X9_porterLine from by simp [L_X9_porterLine]) (by omega) (by omega) (Or.inr rfl) (Sub.cons (lo2 := 132) (hi2 := 133) (c2 := 0) (show _ ∈ L_X9_porterLine from by simp [L_X9_porterLine]) (by omega) (by omega) (Or.inl rfl) Sub.nil))))))
        rcases bri hz with hz | hz
        · obtain ⟨q17, e18, hz⟩ := bd hz
          have ie18 : Sub L_X9_takes L_X9_porterLine := by
            unfold L_X9_takes
            exact (Sub.cons (lo2 := 130) (hi2 := 131) (c2 := 5) (show _ ∈ L_X9_porterLine from by simp [L_X9_porterLine]) (by omega) (by omega) (Or.inr rfl) (Sub.cons (lo2 := 130) (hi2 := 131) (c2 := 6) (show _ ∈ L_X9_porterLine from by simp [L_X9_porterLine]) (by omega) (by omega) (Or.inr rfl) (Sub.cons (lo2 := 130) (hi2 := 131) (c2 := 7) (show _ ∈ L_X9_porterLine from by simp [L_X9_porterLine]) (by omega) (by omega) (Or.inr rfl) (Sub.cons (lo2 := 130) (hi2 := 131) (c2 := 8) (show _ ∈ L_X9_porterLine from by simp [L_X9_porterLine]) (by omega) (by omega) (Or.inr rfl) (Sub.cons (lo2 := 130) (hi2 := 131) (c2 := 9) (show _ ∈ L_X9_porterLine from by simp [L_X9_porterLine]) (by omega) (by omega) (Or.inr rfl) (Sub.cons (lo2 := 132) (hi2 := 133) (c2 := 0) (show _ ∈ L_X9_porterLine from by simp [L_X9_porterLine]) (by omega) (by omega) (Or.inl rfl) Sub.nil))))))
          rcases bri hz with hz | hz
          · obtain ⟨q19, e20, hz⟩ := bd hz
            have ie20 : Sub L_X9_takes L_X9_porterLine := by
              unfold L_X9_takes
              exact (Sub.cons (lo2 := 130) (hi2 := 131) (c2 := 5) (show _ ∈ L_X9_porterLine from by simp [L_X9_porterLine]) (by omega) (by omega) (Or.inr rfl) (Sub.cons (lo2 := 130) (hi2 := 131) (c2 := 6) (show _ ∈ L_X9_porterLine from by simp [L_X9_porterLine]) (by omega) (by omega) (Or.inr rfl) (Sub.cons (lo2 := 130) (hi2 := 131) (c2 := 7) (show _ ∈ L_X9_porterLine from by simp [L_X9_porterLine]) (by omega) (by omega) (Or.inr rfl) (Sub.cons (lo2 := 130) (hi2 := 131) (c2 := 8) (show _ ∈ L_X9_porterLine from by simp [L_X9_porterLine]) (by omega) (by omega) (Or.inr rfl) (Sub.cons (lo2 := 130) (hi2 := 131) (c2 := 9) (show _ ∈ L_X9_porterLine from by simp [L_X9_porterLine]) (by omega) (by omega) (Or.inr rfl) (Sub.cons (lo2 := 132) (hi2 := 133) (c2 := 0) (show _ ∈ L_X9_porterLine from by simp [L_X9_porterLine]) (by omega) (by omega) (Or.inl rfl) Sub.nil))))))
            rcases bri hz with hz | hz
            · obtain ⟨h21, hz⟩ := ck hz
              obtain ⟨q22, e23, hz⟩ := bd hz
              have ie23 : Sub L_X9_told L_X9_porterLine := by
                unfold L_X9_told
                exact (Sub.cons (lo2 := 130) (hi2 := 131) (c2 := 10) (show _ ∈ L_X9_porterLine from by simp [L_X9_porterLine]) (by omega) (by omega) (Or.inr rfl) (Sub.cons (lo2 := 130) (hi2 := 131) (c2 := 11) (show _ ∈ L_X9_porterLine from by simp [L_X9_porterLine]) (by omega) (by omega) (Or.inr rfl) (Sub.cons (lo2 := 130) (hi2 := 131) (c2 := 14) (show _ ∈ L_X9_porterLine from by simp [L_X9_porterLine]) (by omega) (by omega) (Or.inr rfl) (Sub.cons (lo2 := 130) (hi2 := 131) (c2 := 5) (show _ ∈ L_X9_porterLine from by simp [L_X9_porterLine]) (by omega) (by omega) (Or.inr rfl) (Sub.cons (lo2 := 130) (hi2 := 131) (c2 := 6) (show _ ∈ L_X9_porterLine from by simp [L_X9_porterLine]) (by omega) (by omega) (Or.inr rfl) (Sub.cons (lo2 := 130) (hi2 := 131) (c2 := 7) (show _ ∈ L_X9_porterLine from by simp [L_X9_porterLine]) (by omega) (by omega) (Or.inr rfl) (Sub.cons (lo2 := 130) (hi2 := 131) (c2 := 8) (show _ ∈ L_X9_porterLine from by simp [L_X9_porterLine]) (by omega) (by omega) (Or.inr rfl) (Sub.cons (lo2 := 130) (hi2 := 131) (c2 := 9) (show _ ∈ L_X9_porterLine from by simp [L_X9_porterLine]) (by omega) (by omega) (Or.inr rfl) (Sub.cons (lo2 := 132) (hi2 := 133) (c2 := 0) (show _ ∈ L_X9_porterLine from by simp [L_X9_porterLine]) (by omega) (by omega) (Or.inl rfl) Sub.nil)))))))))
              obtain ⟨h24, hz⟩ := ck hz
              exact (((((((((((((Sm.rf.wI (lo := 134) (hi := 135) (c9 := 0) (show _ ∈ L_X9_porterLine from by simp [L_X9_porterLine]) (by decide) (by decide) (Or.inl rfl)).call (fr_X9_next _ (z := q7) e8) ie8 (show ∀ r ∈ R_X9_next, r ∈ R_X9_porterLine from by decide)).call (fr_X9_told 27 1 3 _ (z := q9) e10) ie10 (show ∀ r ∈ R_X9_told, r ∈ R_X9_porterLine from by decide)).wI (lo := 134) (hi := 135) (c9 := 0) (show _ ∈ L_X9_porterLine from by simp [L_X9_porterLine]) (by decide) (by decide) (Or.inl rfl)).wI (lo := 134) (hi := 135) (c9 := 0) (show _ ∈ L_X9_porterLine from by simp [L_X9_porterLine]) (by decide) (by decide) (Or.inl rfl)).call (fr_X9_takes 28 _ (z := q13) e14) ie14 (show ∀ r ∈ R_X9_takes, r ∈ R_X9_porterLine from by decide)).call (fr_X9_takes 29 _ (z := q15) e16) ie16 (show ∀ r ∈ R_X9_takes, r ∈ R_X9_porterLine from by decide)).call (fr_X9_takes 30 _ (z := q17) e18) ie18 (show ∀ r ∈ R_X9_takes, r ∈ R_X9_porterLine from by decide)).call (fr_X9_takes 31 _ (z := q19) e20) ie20 (show ∀ r ∈ R_X9_takes, r ∈ R_X9_porterLine from by decide)).wI (lo := 134) (hi := 135) (c9 := 0) (show _ ∈ L_X9_porterLine from by simp [L_X9_porterLine]) (by decide) (by decide) (Or.inl rfl)).call (fr_X9_told 32 0 8 _ (z := q22) e23) ie23 (show ∀ r ∈ R_X9_told, r ∈ R_X9_porterLine from by decide)).wI (lo := 134) (hi := 135) (c9 := 0) (show _ ∈ L_X9_porterLine from by simp [L_X9_porterLine]) (by decide) (by decide) (Or.inl rfl))).tr (fr_X9_porterLine_414 _ hz)
            · obtain ⟨h27, hz⟩ := ck hz
              exact (((((((((((Sm.rf.wI (lo := 134) (hi := 135) (c9 := 0) (show _ ∈ L_X9_porterLine from by simp [L_X9_porterLine]) (by decide) (by decide) (Or.inl rfl)).call (fr_X9_next _ (z := q7) e8) ie8 (show ∀ r ∈ R_X9_next, r ∈ R_X9_porterLine from by decide)).call (fr_X9_told 27 1 3 _ (z := q9) e10) ie10 (show ∀ r ∈ R_X9_told, r ∈ R_X9_porterLine from by decide)).wI (lo := 134) (hi := 135) (c9 := 0) (show _ ∈ L_X9_porterLine from by simp [L_X9_porterLine]) (by decide) (by decide) (Or.inl rfl)).wI (lo := 134) (hi := 135) (c9 := 0) (show _ ∈ L_X9_porterLine from by simp [L_X9_porterLine]) (by decide) (by decide) (Or.inl rfl)).call (fr_X9_takes 28 _ (z := q13) e14) ie14 (show ∀ r ∈ R_X9_takes, r ∈ R_X9_porterLine from by decide)).call (fr_X9_takes 29 _ (z := q15) e16) ie16 (show ∀ r ∈ R_X9_takes, r ∈ R_X9_porterLine from by decide)).call (fr_X9_takes 30 _ (z := q17) e18) ie18 (show ∀ r ∈ R_X9_takes, r ∈ R_X9_porterLine from by decide)).call (fr_X9_takes 31 _ (z := q19) e20) ie20 (show ∀ r ∈ R_X9_takes, r ∈ R_X9_porterLine from by decide)).wI (lo := 134) (hi := 135) (c9 := 0) (show _ ∈ L_X9_porterLine from by simp [L_X9_porterLine]) (by decide) (by decide) (Or.inl rfl))).tr (fr_X9_porterLine_414 _ hz)
          · obtain ⟨h28, hz⟩ := ck hz
            exact ((((((((((Sm.rf.wI (lo := 134) (hi := 135) (c9 := 0) (show _ ∈ L_X9_porterLine from by simp [L_X9_porterLine]) (by decide) (by decide) (Or.inl rfl)).call (fr_X9_next _ (z := q7) e8) ie8 (show ∀ r ∈ R_X9_next, r ∈ R_X9_porterLine from by decide)).call (fr_X9_told 27 1 3 _ (z := q9) e10) ie10 (show ∀ r ∈ R_X9_told, r ∈ R_X9_porterLine from by decide)).wI (lo := 134) (hi := 135) (c9 := 0) (show _ ∈ L_X9_porterLine from by simp [L_X9_porterLine]) (by decide) (by decide) (Or.inl rfl)).wI (lo := 134) (hi := 135) (c9 := 0) (show _ ∈ L_X9_porterLine from by simp [L_X9_porterLine]) (by decide) (by decide) (Or.inl rfl)).call (fr_X9_takes 28 _ (z := q13) e14) ie14 (show ∀ r ∈ R_X9_takes, r ∈ R_X9_porterLine from by decide)).call (fr_X9_takes 29 _ (z := q15) e16) ie16 (show ∀ r ∈ R_X9_takes, r ∈ R_X9_porterLine from by decide)).call (fr_X9_takes 30 _ (z := q17) e18) ie18 (show ∀ r ∈ R_X9_takes, r ∈ R_X9_porterLine from by decide)).wI (lo := 134) (hi := 135) (c9 := 0) (show _ ∈ L_X9_porterLine from by simp [L_X9_porterLine]) (by decide) (by decide) (Or.inl rfl))).tr (fr_X9_porterLine_414 _ hz)
        · obtain ⟨h29, hz⟩ := ck hz
          exact (((((((((Sm.rf.wI (lo := 134) (hi := 135) (c9 := 0) (show _ ∈ L_X9_porterLine from by simp [L_X9_porterLine]) (by decide) (by decide) (Or.inl rfl)).call (fr_X9_next _ (z := q7) e8) ie8 (show ∀ r ∈ R_X9_next, r ∈ R_X9_porterLine from by decide)).call (fr_X9_told 27 1 3 _ (z := q9) e10) ie10 (show ∀ r ∈ R_X9_told, r ∈ R_X9_porterLine from by decide)).wI (lo := 134) (hi := 135) (c9 := 0) (show _ ∈ L_X9_porterLine from by simp [L_X9_porterLine]) (by decide) (by decide) (Or.inl rfl)).wI (lo := 134) (hi := 135) (c9 := 0) (show _ ∈ L_X9_porterLine from by simp [L_X9_porterLine]) (by decide) (by decide) (Or.inl rfl)).call (fr_X9_takes 28 _ (z := q13) e14) ie14 (show ∀ r ∈ R_X9_takes, r ∈ R_X9_porterLine from by decide)).call (fr_X9_takes 29 _ (z := q15) e16) ie16 (show ∀ r ∈ R_X9_takes, r ∈ R_X9_porterLine from by decide)).wI (lo := 134) (hi := 135) (c9 := 0) (show _ ∈ L_X9_porterLine from by simp [L_X9_porterLine]) (by decide) (by decide) (Or.inl rfl))).tr (fr_X9_porterLine_414 _ hz)
      · obtain ⟨h30, hz⟩ := ck hz
        exact ((((((((Sm.rf.wI (lo := 134) (hi := 135) (c9 := 0) (show _ ∈ L_X9_porterLine from by simp [L_X9_porterLine]) (by decide) (by decide) (Or.inl rfl)).call (fr_X9_next _ (z := q7) e8) ie8 (show ∀ r ∈ R_X9_next, r ∈ R_X9_porterLine from by decide)).call (fr_X9_told 27 1 3 _ (z := q9) e10) ie10 (show ∀ r ∈ R_X9_told, r ∈ R_X9_porterLine from by decide)).wI (lo := 134) (hi := 135) (c9 := 0) (show _ ∈ L_X9_porterLine from by simp [L_X9_porterLine]) (by decide) (by decide) (Or.inl rfl)).wI (lo := 134) (hi := 135) (c9 := 0) (show _ ∈ L_X9_porterLine from by simp [L_X9_porterLine]) (by decide) (by decide) (Or.inl rfl)).call (fr_X9_takes 28 _ (z := q13) e14) ie14 (show ∀ r ∈ R_X9_takes, r ∈ R_X9_porterLine from by decide)).wI (lo := 134) (hi := 135) (c9 := 0) (show _ ∈ L_X9_porterLine from by simp [L_X9_porterLine]) (by decide) (by decide) (Or.inl rfl))).tr (fr_X9_porterLine_414 _ hz)
    · obtain ⟨h31, hz⟩ := ck hz
      obtain ⟨h32, hz⟩ := ck hz
      exact ((Sm.rf.wI (lo := 134) (hi := 135) (c9 := 0) (show _ ∈ L_X9_porterLine from by simp [L_X9_porterLine]) (by decide) (by decide) (Or.inl rfl))).tr (ih x1 (x3 + 1) _  hz)
theorem fr_X9_porterLine_209 {z : Unit × GW} : (∀ (x1 : Int32) (w : GW), f_X9_porterLine_209 x1 w = some z → Sm L_X9_porterLine R_X9_porterLine w z.2) := by
  intro x1 w hz
  rw [f_X9_porterLine_209] at hz
  rcases bri hz with hz | hz
  · exact (Sm.rf).tr (fr_X9_porterLine_219 fu x1 0 _ hz)
  · cases hz
    exact Sm.rf
theorem fr_X9_porterLine_203 {z : Unit × GW} {k_99 : Int32 → Int32 → GW → Option (Unit × GW)} (Hk_99 : (∀ (x1 : Int32) (x3 : Int32) (w : GW), k_99 x1 x3 w = some z → Sm L_X9_porterLine R_X9_porterLine w z.2)) : (∀ (x1 : Int32) (x3 : Int32) (w : GW), f_X9_porterLine_203 k_99 x1 x3 w = some z → Sm L_X9_porterLine R_X9_porterLine w z.2) := by
  intro x1 x3 w hz
  rw [f_X9_porterLine_203] at hz
  exact (Sm.rf).tr (Hk_99 x1 (x3 + 1) _  hz)
theorem fr_X9_porterLine_189 {z : Unit × GW} {k_99 : Int32 → Int32 → GW → Option (Unit × GW)} (Hk_99 : (∀ (x1 : Int32) (x3 : Int32) (w : GW), k_99 x1 x3 w = some z → Sm L_X9_porterLine R_X9_porterLine w z.2)) : (∀ (x1 : Int32) (x3 : Int32) (x4 : Int32) (w : GW), f_X9_porterLine_189 k_99 x1 x3 x4 w = some z → Sm L_X9_porterLine R_X9_porterLine w z.2) := by
  intro x1 x3 x4 w hz
  rw [f_X9_porterLine_189] at hz
  rcases bri hz with hz | hz
  · exact (Sm.rf).tr (fr_X9_porterLine_203 Hk_99 x1 x3 _ hz)
  · obtain ⟨q34, e35, hz⟩ := bd hz
    have ie35 : Sub L_X9_wrong L_X9_porterLine := by
      unfold L_X9_wrong
      exact (Sub.cons (lo2 := 130) (hi2 := 131) (c2 := 10) (show _ ∈ L_X9_porterLine from by simp [L_X9_porterLine]) (by omega) (by omega) (Or.inr rfl) (Sub.cons (lo2 := 130) (hi2 := 131) (c2 := 11) (show _ ∈ L_X9_porterLine from by simp [L_X9_porterLine]) (by omega) (by omega) (Or.inr rfl) (Sub.cons (lo2 := 130) (hi2 := 131) (c2 := 14) (show _ ∈ L_X9_porterLine from by simp [L_X9_porterLine]) (by omega) (by omega) (Or.inr rfl) Sub.nil)))
    exact ((Sm.rf.call (fr_X9_wrong 3 (gI w 130 4) _ (z := q34) e35) ie35 (show ∀ r ∈ R_X9_wrong, r ∈ R_X9_porterLine from by decide))).tr (fr_X9_porterLine_203 Hk_99 x1 x3 _ hz)
theorem fr_X9_porterLine_181 {z : Unit × GW} {k_99 : Int32 → Int32 → GW → Option (Unit × GW)} (Hk_99 : (∀ (x1 : Int32) (x3 : Int32) (w : GW), k_99 x1 x3 w = some z → Sm L_X9_porterLine R_X9_porterLine w z.2)) {k_137 : Int32 → Int32 → Int32 → Int32 → GW → Option (Unit × GW)} (Hk_137 : (∀ (x1 : Int32) (x3 : Int32) (x4 : Int32) (x5 : Int32) (w : GW), k_137 x1 x3 x4 x5 w = some z → Sm L_X9_porterLine R_X9_porterLine w z.2)) : (∀ (x1 : Int32) (x3 : Int32) (x5 : Int32) (t0 : Int32) (w : GW), f_X9_porterLine_181 k_99 k_137 x1 x3 x5 t0 w = some z → Sm L_X9_porterLine R_X9_porterLine w z.2) := by
  intro x1 x3 x5 t0 w hz
  rw [f_X9_porterLine_181] at hz
  exact (Sm.rf).tr (Hk_137 x1 x3 t0 (x5 + 1) _  hz)
theorem fr_X9_porterLine_137 {z : Unit × GW} {k_99 : Int32 → Int32 → GW → Option (Unit × GW)} (Hk_99 : (∀ (x1 : Int32) (x3 : Int32) (w : GW), k_99 x1 x3 w = some z → Sm L_X9_porterLine R_X9_porterLine w z.2)) : ∀ (n9 : Nat), (∀ (x1 : Int32) (x3 : Int32) (x4 : Int32) (x5 : Int32) (w : GW), f_X9_porterLine_137 k_99 n9 x1 x3 x4 x5 w = some z → Sm L_X9_porterLine R_X9_porterLine w z.2) := by
  intro n9
  induction n9 with
  | zero =>
    intro x1 x3 x4 x5 w hz
    rw [f_X9_porterLine_137] at hz
    cases hz
  | succ n9 ih =>
    intro x1 x3 x4 x5 w hz
    rw [f_X9_porterLine_137] at hz
    rcases bri hz with hz | hz
    · exact (Sm.rf).tr (fr_X9_porterLine_189 Hk_99 x1 x3 x4 _ hz)
    · rcases bri hz with hz | hz
      · exact (Sm.rf).tr (fr_X9_porterLine_189 Hk_99 x1 x3 x4 _ hz)
      · obtain ⟨h36, hz⟩ := ck hz
        obtain ⟨h37, hz⟩ := ck hz
        rcases bri hz with hz | hz
        · exact (Sm.rf).tr (fr_X9_porterLine_181 Hk_99 ih x1 x3 x5 1 _ hz)
        · exact (Sm.rf).tr (fr_X9_porterLine_181 Hk_99 ih x1 x3 x5 0 _ hz)
theorem fr_X9_porterLine_132 {z : Unit × GW} {k_99 : Int32 → Int32 → GW → Option (Unit × GW)} (Hk_99 : (∀ (x1 : Int32) (x3 : Int32) (w : GW), k_99 x1 x3 w = some z → Sm L_X9_porterLine R_X9_porterLine w z.2)) : (∀ (x1 : Int32) (x3 : Int32) (t0 : Int32) (w : GW), f_X9_porterLine_132 k_99 x1 x3 t0 w = some z → Sm L_X9_porterLine R_X9_porterLine w z.2) := by
  intro x1 x3 t0 w hz
  rw [f_X9_porterLine_132] at hz
  exact (Sm.rf).tr (fr_X9_porterLine_137 Hk_99 fu x1 x3 t0 0 _ hz)
theorem fr_X9_porterLine_99 {z : Unit × GW} : ∀ (n9 : Nat), (∀ (x1 : Int32) (x3 : Int32) (w : GW), f_X9_porterLine_99 n9 x1 x3 w = some z → Sm L_X9_porterLine R_X9_porterLine w z.2) := by
  intro n9
  induction n9 with
  | zero =>
    intro x1 x3 w hz
    rw [f_X9_porterLine_99] at hz
    cases hz
  | succ n9 ih =>
    intro x1 x3 w hz
    rw [f_X9_porterLine_99] at hz
    rcases bri hz with hz | hz
    · exact (Sm.rf).tr (fr_X9_porterLine_209 x1 _ hz)
    · rcases bri hz with hz | hz
      · obtain ⟨h33, hz⟩ := ck hz
        rcases bri hz with hz | hz
        · exact (Sm.rf).tr (fr_X9_porterLine_132 ih x1 x3 1 _ hz)
        · exact (Sm.rf).tr (fr_X9_porterLine_132 ih x1 x3 0 _ hz)
      · exact (Sm.rf).tr (fr_X9_porterLine_209 x1 _ hz)
theorem fr_X9_porterLine_97 {z : Unit × GW} : (∀ (x1 : Int32) (w : GW), f_X9_porterLine_97 x1 w = some z → Sm L_X9_porterLine R_X9_porterLine w z.2) := by
  intro x1 w hz
  rw [f_X9_porterLine_97] at hz
  exact (Sm.rf).tr (fr_X9_porterLine_99 fu x1 0 _ hz)
theorem fr_X9_porterLine_88 {z : Unit × GW} : (∀ (x1 : Int32) (w : GW), f_X9_porterLine_88 x1 w = some z → Sm L_X9_porterLine R_X9_porterLine w z.2) := by
  intro x1 w hz
  rw [f_X9_porterLine_88] at hz
  obtain ⟨q4, e5, hz⟩ := bd hz
  have ie5 : Sub L_X9_wrong L_X9_porterLine := by
    unfold L_X9_wrong
    exact (Sub.cons (lo2 := 130) (hi2 := 131) (c2 := 10) (show _ ∈ L_X9_porterLine from by simp [L_X9_porterLine]) (by omega) (by omega) (Or.inr rfl) (Sub.cons (lo2 := 130) (hi2 := 131) (c2 := 11) (show _ ∈ L_X9_porterLine from by simp [L_X9_porterLine]) (by omega) (by omega) (Or.inr rfl) (Sub.cons (lo2 := 130) (hi2 := 131) (c2 := 14) (show _ ∈ L_X9_porterLine from by simp [L_X9_porterLine]) (by omega) (by omega) (Or.inr rfl) Sub.nil)))
  exact ((Sm.rf.call (fr_X9_wrong 1 (gI w 130 4) _ (z := q4) e5) ie5 (show ∀ r ∈ R_X9_wrong, r ∈ R_X9_porterLine from by decide))).tr (fr_X9_porterLine_97 x1 _ hz)
theorem fr_X9_porterLine_75 {z : Unit × GW} : (∀ (x1 : Int32) (t0 : Int32) (w : GW), f_X9_porterLine_75 x1 t0 w = some z → Sm L_X9_porterLine R_X9_porterLine w z.2) := by
  intro x1 t0 w hz
  rw [f_X9_porterLine_75] at hz
  rcases bri hz with hz | hz
  · rcases bri hz with hz | hz
    · exact (Sm.rf).tr (fr_X9_porterLine_97 x1 _ hz)
    · exact (Sm.rf).tr (fr_X9_porterLine_88 x1 _ hz)
  · exact (Sm.rf).tr (fr_X9_porterLine_88 x1 _ hz)
theorem fr_X9_porterLine_70 {z : Unit × GW} : (∀ (x1 : Int32) (w : GW), f_X9_porterLine_70 x1 w = some z → Sm L_X9_porterLine R_X9_porterLine w z.2) := by
  intro x1 w hz
  rw [f_X9_porterLine_70] at hz
  exact (Sm.rf).tr (fr_X9_porterLine_75 x1 1 _ hz)
theorem fr_X9_porterLine  (w : GW) {z : Unit × GW} : f_X9_porterLine w = some z → Sm L_X9_porterLine R_X9_porterLine w z.2 := by
  intro  hz
  rw [f_X9_porterLine] at hz
  rcases bri hz with hz | hz
  · obtain ⟨h1, hz⟩ := ck hz
    obtain ⟨q2, e3, hz⟩ := bd hz
    have ie3 : Sub L_X9_isWord L_X9_porterLine := by
      unfold L_X9_isWord
      exact Sub.nil
    rcases bri hz with hz | hz
    · obtain ⟨q38, e39, hz⟩ := bd hz
      have ie39 : Sub L_X9_isWord L_X9_porterLine := by
        unfold L_X9_isWord
        exact Sub.nil
      rcases bri hz with hz | hz
      · obtain ⟨q40, e41, hz⟩ := bd hz
        have ie41 : Sub L_X9_isWord L_X9_porterLine := by
          unfold L_X9_isWord
          exact Sub.nil
        rcases bri hz with hz | hz
        · obtain ⟨q42, e43, hz⟩ := bd hz
          have ie43 : Sub L_X9_isWord L_X9_porterLine := by
            unfold L_X9_isWord
            exact Sub.nil
          rcases bri hz with hz | hz
          · obtain ⟨q44, e45, hz⟩ := bd hz
            have ie45 : Sub L_X9_isWord L_X9_porterLine := by
              unfold L_X9_isWord
              exact Sub.nil
            rcases bri hz with hz | hz
            · obtain ⟨q46, e47, hz⟩ := bd hz
              have ie47 : Sub L_X9_isWord L_X9_porterLine := by
                unfold L_X9_isWord
                exact Sub.nil
              rcases bri hz with hz | hz
              · exact (((((((Sm.rf.call (fr_X9_isWord 17 _ (z := q2) e3) ie3 (show ∀ r ∈ R_X9_isWord, r ∈ R_X9_porterLine from by decide)).call (fr_X9_isWord 20 _ (z := q38) e39) ie39 (show ∀ r ∈ R_X9_isWord, r ∈ R_X9_porterLine from by decide)).call (fr_X9_isWord 23 _ (z := q40) e41) ie41 (show ∀ r ∈ R_X9_isWord, r ∈ R_X9_porterLine from by decide)).call (fr_X9_isWord 24 _ (z := q42) e43) ie43 (show ∀ r ∈ R_X9_isWord, r ∈ R_X9_porterLine from by decide)).call (fr_X9_isWord 25 _ (z := q44) e45) ie45 (show ∀ r ∈ R_X9_isWord, r ∈ R_X9_porterLine from by decide)).call (fr_X9_isWord 26 _ (z := q46) e47) ie47 (show ∀ r ∈ R_X9_isWord, r ∈ R_X9_porterLine from by decide))).tr (fr_X9_porterLine_75 (gI w 134 (ix 17)) 0 _ hz)
              · exact (((((((Sm.rf.call (fr_X9_isWord 17 _ (z := q2) e3) ie3 (show ∀ r ∈ R_X9_isWord, r ∈ R_X9_porterLine from by decide)).call (fr_X9_isWord 20 _ (z := q38) e39) ie39 (show ∀ r ∈ R_X9_isWord, r ∈ R_X9_porterLine from by decide)).call (fr_X9_isWord 23 _ (z := q40) e41) ie41 (show ∀ r ∈ R_X9_isWord, r ∈ R_X9_porterLine from by decide)).call (fr_X9_isWord 24 _ (z := q42) e43) ie43 (show ∀ r ∈ R_X9_isWord, r ∈ R_X9_porterLine from by decide)).call (fr_X9_isWord 25 _ (z := q44) e45) ie45 (show ∀ r ∈ R_X9_isWord, r ∈ R_X9_porterLine from by decide)).call (fr_X9_isWord 26 _ (z := q46) e47) ie47 (show ∀ r ∈ R_X9_isWord, r ∈ R_X9_porterLine from by decide))).tr (fr_X9_porterLine_70 (gI w 134 (ix 17)) _ hz)
            · exact ((((((Sm.rf.call (fr_X9_isWord 17 _ (z := q2) e3) ie3 (show ∀ r ∈ R_X9_isWord, r ∈ R_X9_porterLine from by decide)).call (fr_X9_isWord 20 _ (z := q38) e39) ie39 (show ∀ r ∈ R_X9_isWord, r ∈ R_X9_porterLine from by decide)).call (fr_X9_isWord 23 _ (z := q40) e41) ie41 (show ∀ r ∈ R_X9_isWord, r ∈ R_X9_porterLine from by decide)).call (fr_X9_isWord 24 _ (z := q42) e43) ie43 (show ∀ r ∈ R_X9_isWord, r ∈ R_X9_porterLine from by decide)).call (fr_X9_isWord 25 _ (z := q44) e45) ie45 (show ∀ r ∈ R_X9_isWord, r ∈ R_X9_porterLine from by decide))).tr (fr_X9_porterLine_70 (gI w 134 (ix 17)) _ hz)
          · exact (((((Sm.rf.call (fr_X9_isWord 17 _ (z := q2) e3) ie3 (show ∀ r ∈ R_X9_isWord, r ∈ R_X9_porterLine from by decide)).call (fr_X9_isWord 20 _ (z := q38) e39) ie39 (show ∀ r ∈ R_X9_isWord, r ∈ R_X9_porterLine from by decide)).call (fr_X9_isWord 23 _ (z := q40) e41) ie41 (show ∀ r ∈ R_X9_isWord, r ∈ R_X9_porterLine from by decide)).call (fr_X9_isWord 24 _ (z := q42) e43) ie43 (show ∀ r ∈ R_X9_isWord, r ∈ R_X9_porterLine from by decide))).tr (fr_X9_porterLine_70 (gI w 134 (ix 17)) _ hz)
        · exact ((((Sm.rf.call (fr_X9_isWord 17 _ (z := q2) e3) ie3 (show ∀ r ∈ R_X9_isWord, r ∈ R_X9_porterLine from by decide)).call (fr_X9_isWord 20 _ (z := q38) e39) ie39 (show ∀ r ∈ R_X9_isWord, r ∈ R_X9_porterLine from by decide)).call (fr_X9_isWord 23 _ (z := q40) e41) ie41 (show ∀ r ∈ R_X9_isWord, r ∈ R_X9_porterLine from by decide))).tr (fr_X9_porterLine_70 (gI w 134 (ix 17)) _ hz)
      · exact (((Sm.rf.call (fr_X9_isWord 17 _ (z := q2) e3) ie3 (show ∀ r ∈ R_X9_isWord, r ∈ R_X9_porterLine from by decide)).call (fr_X9_isWord 20 _ (z := q38) e39) ie39 (show ∀ r ∈ R_X9_isWord, r ∈ R_X9_porterLine from by decide))).tr (fr_X9_porterLine_70 (gI w 134 (ix 17)) _ hz)
    · exact ((Sm.rf.call (fr_X9_isWord 17 _ (z := q2) e3) ie3 (show ∀ r ∈ R_X9_isWord, r ∈ R_X9_porterLine from by decide))).tr (fr_X9_porterLine_70 (gI w 134 (ix 17)) _ hz)
  · cases hz
    exact Sm.rf
def L_X9_doorLine : List (Nat × Nat × Nat) := [(130, 131, 10), (130, 131, 11), (130, 131, 14), (130, 131, 5), (130, 131, 6), (130, 131, 7), (130, 131, 8), (130, 131, 9), (132, 133, 0), (134, 135, 0)]
def R_X9_doorLine : List Nat := []
theorem fr_X9_doorLine  (w : GW) {z : Unit × GW} : f_X9_doorLine w = some z → Sm L_X9_doorLine R_X9_doorLine w z.2 := by
  intro  hz
  rw [f_X9_doorLine] at hz
  rcases bri hz with hz | hz
  · obtain ⟨h1, hz⟩ := ck hz
    obtain ⟨q2, e3, hz⟩ := bd hz
    have ie3 : Sub L_X9_number L_X9_doorLine := by
      unfold L_X9_number
      exact (Sub.cons (lo2 := 130) (hi2 := 131) (c2 := 10) (show _ ∈ L_X9_doorLine from by simp [L_X9_doorLine]) (by omega) (by omega) (Or.inr rfl) (Sub.cons (lo2 := 130) (hi2 := 131) (c2 := 11) (show _ ∈ L_X9_doorLine from by simp [L_X9_doorLine]) (by omega) (by omega) (Or.inr rfl) (Sub.cons (lo2 := 130) (hi2 := 131) (c2 := 14) (show _ ∈ L_X9_doorLine from by simp [L_X9_doorLine]) (by omega) (by omega) (Or.inr rfl) (Sub.cons (lo2 := 130) (hi2 := 131) (c2 := 5) (show _ ∈ L_X9_doorLine from by simp [L_X9_doorLine]) (by omega) (by omega) (Or.inr rfl) (Sub.cons (lo2 := 130) (hi2 := 131) (c2 := 6) (show _ ∈ L_X9_doorLine from by simp [L_X9_doorLine]) (by omega) (by omega) (Or.inr rfl) (Sub.cons (lo2 := 130) (hi2 := 131) (c2 := 7) (show _ ∈ L_X9_doorLine from by simp [L_X9_doorLine]) (by omega) (by omega) (Or.inr rfl) (Sub.cons (lo2 := 130) (hi2 := 131) (c2 := 8) (show _ ∈ L_X9_doorLine from by simp [L_X9_doorLine]) (by omega) (by omega) (Or.inr rfl) (Sub.cons (lo2 := 130) (hi2 := 131) (c2 := 9) (show _ ∈ L_X9_doorLine from by simp [L_X9_doorLine]) (by omega) (by omega) (Or.inr rfl) (Sub.cons (lo2 := 132) (hi2 := 133) (c2 := 0) (show _ ∈ L_X9_doorLine from by simp [L_X9_doorLine]) (by omega) (by omega) (Or.inl rfl) Sub.nil)))))))))
    obtain ⟨h4, hz⟩ := ck hz
    obtain ⟨q5, e6, hz⟩ := bd hz
    have ie6 : Sub L_X9_told L_X9_doorLine := by
      unfold L_X9_told
      exact (Sub.cons (lo2 := 130) (hi2 := 131) (c2 := 10) (show _ ∈ L_X9_doorLine from by simp [L_X9_doorLine]) (by omega) (by omega) (Or.inr rfl) (Sub.cons (lo2 := 130) (hi2 := 131) (c2 := 11) (show _ ∈ L_X9_doorLine from by simp [L_X9_doorLine]) (by omega) (by omega) (Or.inr rfl) (Sub.cons (lo2 := 130) (hi2 := 131) (c2 := 14) (show _ ∈ L_X9_doorLine from by simp [L_X9_doorLine]) (by omega) (by omega) (Or.inr rfl) (Sub.cons (lo2 := 130) (hi2 := 131) (c2 := 5) (show _ ∈ L_X9_doorLine from by simp [L_X9_doorLine]) (by omega) (by omega) (Or.inr rfl) (Sub.cons (lo2 := 130) (hi2 := 131) (c2 := 6) (show _ ∈ L_X9_doorLine from by simp [L_X9_doorLine]) (by omega) (by omega) (Or.inr rfl) (Sub.cons (lo2 := 130) (hi2 := 131) (c2 := 7) (show _ ∈ L_X9_doorLine from by simp [L_X9_doorLine]) (by omega) (by omega) (Or.inr rfl) (Sub.cons (lo2 := 130) (hi2 := 131) (c2 := 8) (show _ ∈ L_X9_doorLine from by simp [L_X9_doorLine]) (by omega) (by omega) (Or.inr rfl) (Sub.cons (lo2 := 130) (hi2 := 131) (c2 := 9) (show _ ∈ L_X9_doorLine from by simp [L_X9_doorLine]) (by omega) (by omega) (Or.inr rfl) (Sub.cons (lo2 := 132) (hi2 := 133) (c2 := 0) (show _ ∈ L_X9_doorLine from by simp [L_X9_doorLine]) (by omega) (by omega) (Or.inl rfl) Sub.nil)))))))))
    rcases bri hz with hz | hz
    · obtain ⟨h7, hz⟩ := ck hz
      cases hz
      exact ((((Sm.rf.call (fr_X9_number 0 ((gI w 134 (ix 0)) - 1) _ (z := q2)  e3) ie3 (show ∀ r ∈ R_X9_number, r ∈ R_X9_doorLine from by decide)).wI (lo := 134) (hi := 135) (c9 := 0) (show _ ∈ L_X9_doorLine from by simp [L_X9_doorLine]) (by decide) (by decide) (Or.inl rfl)).call (fr_X9_told 33 1 9 _ (z := q5)  e6) ie6 (show ∀ r ∈ R_X9_told, r ∈ R_X9_doorLine from by decide)).wI (lo := 134) (hi := 135) (c9 := 0) (show _ ∈ L_X9_doorLine from by simp [L_X9_doorLine]) (by decide) (by decide) (Or.inl rfl))
    · cases hz
      exact (((Sm.rf.call (fr_X9_number 0 ((gI w 134 (ix 0)) - 1) _ (z := q2)  e3) ie3 (show ∀ r ∈ R_X9_number, r ∈ R_X9_doorLine from by decide)).wI (lo := 134) (hi := 135) (c9 := 0) (show _ ∈ L_X9_doorLine from by simp [L_X9_doorLine]) (by decide) (by decide) (Or.inl rfl)).call (fr_X9_told 33 1 9 _ (z := q5)  e6) ie6 (show ∀ r ∈ R_X9_told, r ∈ R_X9_doorLine from by decide))
  · cases hz
    exact Sm.rf
def L_X9_movesLine : List (Nat × Nat × Nat) := [(130, 131, 10), (130, 131, 11), (130, 131, 14), (130, 131, 5), (130, 131, 6), (130, 131, 7), (130, 131, 8), (130, 131, 9), (132, 133, 0), (134, 135, 0)]
def R_X9_movesLine : List Nat := []
theorem fr_X9_movesLine  (w : GW) {z : Unit × GW} : f_X9_movesLine w = some z → Sm L_X9_movesLine R_X9_movesLine w z.2 := by
  intro  hz
  rw [f_X9_movesLine] at hz
  obtain ⟨q1, e2, hz⟩ := bd hz
  have ie2 : Sub L_X9_told L_X9_movesLine := by
    unfold L_X9_told
    exact (Sub.cons (lo2 := 130) (hi2 := 131) (c2 := 10) (show _ ∈ L_X9_movesLine from by simp [L_X9_movesLine]) (by omega) (by omega) (Or.inr rfl) (Sub.cons (lo2 := 130) (hi2 := 131) (c2 := 11) (show _ ∈ L_X9_movesLine from by simp [L_X9_movesLine]) (by omega) (by omega) (Or.inr rfl) (Sub.cons (lo2 := 130) (hi2 := 131) (c2 := 14) (show _ ∈ L_X9_movesLine from by simp [L_X9_movesLine]) (by omega) (by omega) (Or.inr rfl) (Sub.cons (lo2 := 130) (hi2 := 131) (c2 := 5) (show _ ∈ L_X9_movesLine from by simp [L_X9_movesLine]) (by omega) (by omega) (Or.inr rfl) (Sub.cons (lo2 := 130) (hi2 := 131) (c2 := 6) (show _ ∈ L_X9_movesLine from by simp [L_X9_movesLine]) (by omega) (by omega) (Or.inr rfl) (Sub.cons (lo2 := 130) (hi2 := 131) (c2 := 7) (show _ ∈ L_X9_movesLine from by simp [L_X9_movesLine]) (by omega) (by omega) (Or.inr rfl) (Sub.cons (lo2 := 130) (hi2 := 131) (c2 := 8) (show _ ∈ L_X9_movesLine from by simp [L_X9_movesLine]) (by omega) (by omega) (Or.inr rfl) (Sub.cons (lo2 := 130) (hi2 := 131) (c2 := 9) (show _ ∈ L_X9_movesLine from by simp [L_X9_movesLine]) (by omega) (by omega) (Or.inr rfl) (Sub.cons (lo2 := 132) (hi2 := 133) (c2 := 0) (show _ ∈ L_X9_movesLine from by simp [L_X9_movesLine]) (by omega) (by omega) (Or.inl rfl) Sub.nil)))))))))
  rcases bri hz with hz | hz
  · obtain ⟨h3, hz⟩ := ck hz
    cases hz
    exact ((Sm.rf.call (fr_X9_told 33 1 9 _ (z := q1)  e2) ie2 (show ∀ r ∈ R_X9_told, r ∈ R_X9_movesLine from by decide)).wI (lo := 134) (hi := 135) (c9 := 0) (show _ ∈ L_X9_movesLine from by simp [L_X9_movesLine]) (by decide) (by decide) (Or.inl rfl))
  · cases hz
    exact (Sm.rf.call (fr_X9_told 33 1 9 _ (z := q1)  e2) ie2 (show ∀ r ∈ R_X9_told, r ∈ R_X9_movesLine from by decide))
def L_X9_layLine : List (Nat × Nat × Nat) := [(130, 131, 10), (130, 131, 11), (130, 131, 14), (130, 131, 5), (130, 131, 6), (130, 131, 7), (130, 131, 8), (130, 131, 9), (132, 133, 0), (134, 135, 0)]
def R_X9_layLine : List Nat := []
theorem fr_X9_layLine_73 {z : Unit × GW} {k_23 : Int32 → Int32 → GW → Option (Unit × GW)} (Hk_23 : (∀ (x1 : Int32) (x2 : Int32) (w : GW), k_23 x1 x2 w = some z → Sm L_X9_layLine R_X9_layLine w z.2)) : (∀ (x1 : Int32) (x2 : Int32) (w : GW), f_X9_layLine_73 k_23 x1 x2 w = some z → Sm L_X9_layLine R_X9_layLine w z.2) := by
  intro x1 x2 w hz
  rw [f_X9_layLine_73] at hz
  obtain ⟨q5, e6, hz⟩ := bd hz
  have ie6 : Sub L_X9_number L_X9_layLine := by
    unfold L_X9_number
    exact (Sub.cons (lo2 := 130) (hi2 := 131) (c2 := 10) (show _ ∈ L_X9_layLine from by simp [L_X9_layLine]) (by omega) (by omega) (Or.inr rfl) (Sub.cons (lo2 := 130) (hi2 := 131) (c2 := 11) (show _ ∈ L_X9_layLine from by simp [L_X9_layLine]) (by omega) (by omega) (Or.inr rfl) (Sub.cons (lo2 := 130) (hi2 := 131) (c2 := 14) (show _ ∈ L_X9_layLine from by simp [L_X9_layLine]) (by omega) (by omega) (Or.inr rfl) (Sub.cons (lo2 := 130) (hi2 := 131) (c2 := 5) (show _ ∈ L_X9_layLine from by simp [L_X9_layLine]) (by omega) (by omega) (Or.inr rfl) (Sub.cons (lo2 := 130) (hi2 := 131) (c2 := 6) (show _ ∈ L_X9_layLine from by simp [L_X9_layLine]) (by omega) (by omega) (Or.inr rfl) (Sub.cons (lo2 := 130) (hi2 := 131) (c2 := 7) (show _ ∈ L_X9_layLine from by simp [L_X9_layLine]) (by omega) (by omega) (Or.inr rfl) (Sub.cons (lo2 := 130) (hi2 := 131) (c2 := 8) (show _ ∈ L_X9_layLine from by simp [L_X9_layLine]) (by omega) (by omega) (Or.inr rfl) (Sub.cons (lo2 := 130) (hi2 := 131) (c2 := 9) (show _ ∈ L_X9_layLine from by simp [L_X9_layLine]) (by omega) (by omega) (Or.inr rfl) (Sub.cons (lo2 := 132) (hi2 := 133) (c2 := 0) (show _ ∈ L_X9_layLine from by simp [L_X9_layLine]) (by omega) (by omega) (Or.inl rfl) Sub.nil)))))))))
  obtain ⟨h7, hz⟩ := ck hz
  exact (((Sm.rf.call (fr_X9_number 0 8 _ (z := q5)  e6) ie6 (show ∀ r ∈ R_X9_number, r ∈ R_X9_layLine from by decide)).wI (lo := 134) (hi := 135) (c9 := 0) (show _ ∈ L_X9_layLine from by simp [L_X9_layLine]) (by decide) (by decide) (Or.inl rfl))).tr (Hk_23 x1 (x2 + 1) _  hz)
theorem fr_X9_layLine_62 {z : Unit × GW} {k_23 : Int32 → Int32 → GW → Option (Unit × GW)} (Hk_23 : (∀ (x1 : Int32) (x2 : Int32) (w : GW), k_23 x1 x2 w = some z → Sm L_X9_layLine R_X9_layLine w z.2)) : (∀ (x1 : Int32) (x2 : Int32) (w : GW), f_X9_layLine_62 k_23 x1 x2 w = some z → Sm L_X9_layLine R_X9_layLine w z.2) := by
  intro x1 x2 w hz
  rw [f_X9_layLine_62] at hz
  rcases bri hz with hz | hz
  · obtain ⟨q8, e9, hz⟩ := bd hz
    have ie9 : Sub L_X9_next L_X9_layLine := by
      unfold L_X9_next
      exact (Sub.cons (lo2 := 130) (hi2 := 131) (c2 := 5) (show _ ∈ L_X9_layLine from by simp [L_X9_layLine]) (by omega) (by omega) (Or.inr rfl) (Sub.cons (lo2 := 130) (hi2 := 131) (c2 := 6) (show _ ∈ L_X9_layLine from by simp [L_X9_layLine]) (by omega) (by omega) (Or.inr rfl) (Sub.cons (lo2 := 130) (hi2 := 131) (c2 := 7) (show _ ∈ L_X9_layLine from by simp [L_X9_layLine]) (by omega) (by omega) (Or.inr rfl) (Sub.cons (lo2 := 130) (hi2 := 131) (c2 := 8) (show _ ∈ L_X9_layLine from by simp [L_X9_layLine]) (by omega) (by omega) (Or.inr rfl) (Sub.cons (lo2 := 130) (hi2 := 131) (c2 := 9) (show _ ∈ L_X9_layLine from by simp [L_X9_layLine]) (by omega) (by omega) (Or.inr rfl) (Sub.cons (lo2 := 132) (hi2 := 133) (c2 := 0) (show _ ∈ L_X9_layLine from by simp [L_X9_layLine]) (by omega) (by omega) (Or.inl rfl) Sub.nil))))))
    exact ((Sm.rf.call (fr_X9_next _ (z := q8) e9) ie9 (show ∀ r ∈ R_X9_next, r ∈ R_X9_layLine from by decide))).tr (fr_X9_layLine_73 Hk_23 x1 x2 _ hz)
  · exact (Sm.rf).tr (fr_X9_layLine_73 Hk_23 x1 x2 _ hz)
theorem fr_X9_layLine_23 {z : Unit × GW} : ∀ (n9 : Nat), (∀ (x1 : Int32) (x2 : Int32) (w : GW), f_X9_layLine_23 n9 x1 x2 w = some z → Sm L_X9_layLine R_X9_layLine w z.2) := by
  intro n9
  induction n9 with
  | zero =>
    intro x1 x2 w hz
    rw [f_X9_layLine_23] at hz
    cases hz
  | succ n9 ih =>
    intro x1 x2 w hz
    rw [f_X9_layLine_23] at hz
    obtain ⟨h2, hz⟩ := ck hz
    rcases bri hz with hz | hz
    · obtain ⟨h3, hz⟩ := ck hz
      obtain ⟨h4, hz⟩ := ck hz
      cases hz
      exact (Sm.rf.wI (lo := 134) (hi := 135) (c9 := 0) (show _ ∈ L_X9_layLine from by simp [L_X9_layLine]) (by decide) (by decide) (Or.inl rfl))
    · rcases bri hz with hz | hz
      · exact (Sm.rf).tr (fr_X9_layLine_73 ih x1 x2 _ hz)
      · rcases bri hz with hz | hz
        · rcases bri hz with hz | hz
          · exact (Sm.rf).tr (fr_X9_layLine_62 ih x1 x2 _ hz)
          · obtain ⟨q10, e11, hz⟩ := bd hz
            have ie11 : Sub L_X9_wrong L_X9_layLine := by
              unfold L_X9_wrong
              exact (Sub.cons (lo2 := 130) (hi2 := 131) (c2 := 10) (show _ ∈ L_X9_layLine from by simp [L_X9_layLine]) (by omega) (by omega) (Or.inr rfl) (Sub.cons (lo2 := 130) (hi2 := 131) (c2 := 11) (show _ ∈ L_X9_layLine from by simp [L_X9_layLine]) (by omega) (by omega) (Or.inr rfl) (Sub.cons (lo2 := 130) (hi2 := 131) (c2 := 14) (show _ ∈ L_X9_layLine from by simp [L_X9_layLine]) (by omega) (by omega) (Or.inr rfl) Sub.nil)))
            exact ((Sm.rf.call (fr_X9_wrong 1 (gI w 130 4) _ (z := q10) e11) ie11 (show ∀ r ∈ R_X9_wrong, r ∈ R_X9_layLine from by decide))).tr (fr_X9_layLine_62 ih x1 x2 _ hz)
        · exact (Sm.rf).tr (fr_X9_layLine_73 ih x1 x2 _ hz)
theorem fr_X9_layLine  (w : GW) {z : Unit × GW} : f_X9_layLine w = some z → Sm L_X9_layLine R_X9_layLine w z.2 := by
  intro  hz
  rw [f_X9_layLine] at hz
  rcases bri hz with hz | hz
  · obtain ⟨h1, hz⟩ := ck hz
    exact (Sm.rf).tr (fr_X9_layLine_23 fu (40 + (5 * (gI w 134 (ix 39)))) 0 _ hz)
  · cases hz
    exact Sm.rf
def L_X9_readLine : List (Nat × Nat × Nat) := [(130, 131, 10), (130, 131, 11), (130, 131, 14), (130, 131, 5), (130, 131, 6), (130, 131, 7), (130, 131, 8), (130, 131, 9), (132, 133, 0), (134, 135, 0)]
def R_X9_readLine : List Nat := []
theorem fr_X9_readLine_173 {z : Unit × GW} : (∀ (t0 : Int32) (t1 : Nat) (w : GW), f_X9_readLine_173 t0 t1 w = some z → Sm L_X9_readLine R_X9_readLine w z.2) := by
  intro t0 t1 w hz
  rw [f_X9_readLine_173] at hz
  obtain ⟨q16, e17, hz⟩ := bd hz
  have ie17 : Sub L_X9_begins L_X9_readLine := by
    unfold L_X9_begins
    exact (Sub.cons (lo2 := 130) (hi2 := 131) (c2 := 10) (show _ ∈ L_X9_readLine from by simp [L_X9_readLine]) (by omega) (by omega) (Or.inr rfl) (Sub.cons (lo2 := 130) (hi2 := 131) (c2 := 11) (show _ ∈ L_X9_readLine from by simp [L_X9_readLine]) (by omega) (by omega) (Or.inr rfl) (Sub.cons (lo2 := 130) (hi2 := 131) (c2 := 14) (show _ ∈ L_X9_readLine from by simp [L_X9_readLine]) (by omega) (by omega) (Or.inr rfl) (Sub.cons (lo2 := 130) (hi2 := 131) (c2 := 5) (show _ ∈ L_X9_readLine from by simp [L_X9_readLine]) (by omega) (by omega) (Or.inr rfl) (Sub.cons (lo2 := 130) (hi2 := 131) (c2 := 6) (show _ ∈ L_X9_readLine from by simp [L_X9_readLine]) (by omega) (by omega) (Or.inr rfl) (Sub.cons (lo2 := 130) (hi2 := 131) (c2 := 7) (show _ ∈ L_X9_readLine from by simp [L_X9_readLine]) (by omega) (by omega) (Or.inr rfl) (Sub.cons (lo2 := 130) (hi2 := 131) (c2 := 8) (show _ ∈ L_X9_readLine from by simp [L_X9_readLine]) (by omega) (by omega) (Or.inr rfl) (Sub.cons (lo2 := 130) (hi2 := 131) (c2 := 9) (show _ ∈ L_X9_readLine from by simp [L_X9_readLine]) (by omega) (by omega) (Or.inr rfl) (Sub.cons (lo2 := 132) (hi2 := 133) (c2 := 0) (show _ ∈ L_X9_readLine from by simp [L_X9_readLine]) (by omega) (by omega) (Or.inl rfl) Sub.nil)))))))))
  rcases bri hz with hz | hz
  · obtain ⟨q18, e19, hz⟩ := bd hz
    have ie19 : Sub L_X9_wrong L_X9_readLine := by
      unfold L_X9_wrong
      exact (Sub.cons (lo2 := 130) (hi2 := 131) (c2 := 10) (show _ ∈ L_X9_readLine from by simp [L_X9_readLine]) (by omega) (by omega) (Or.inr rfl) (Sub.cons (lo2 := 130) (hi2 := 131) (c2 := 11) (show _ ∈ L_X9_readLine from by simp [L_X9_readLine]) (by omega) (by omega) (Or.inr rfl) (Sub.cons (lo2 := 130) (hi2 := 131) (c2 := 14) (show _ ∈ L_X9_readLine from by simp [L_X9_readLine]) (by omega) (by omega) (Or.inr rfl) Sub.nil)))
    cases hz
    exact ((Sm.rf.call (fr_X9_begins t1 t0 5 1 _ (z := q16)  e17) ie17 (show ∀ r ∈ R_X9_begins, r ∈ R_X9_readLine from by decide)).call (fr_X9_wrong 1 (gI q16.2 130 4) _ (z := q18)  e19) ie19 (show ∀ r ∈ R_X9_wrong, r ∈ R_X9_readLine from by decide))
  · obtain ⟨q20, e21, hz⟩ := bd hz
    have ie21 : Sub L_X9_layLine L_X9_readLine := by
      unfold L_X9_layLine
      exact (Sub.cons (lo2 := 130) (hi2 := 131) (c2 := 10) (show _ ∈ L_X9_readLine from by simp [L_X9_readLine]) (by omega) (by omega) (Or.inr rfl) (Sub.cons (lo2 := 130) (hi2 := 131) (c2 := 11) (show _ ∈ L_X9_readLine from by simp [L_X9_readLine]) (by omega) (by omega) (Or.inr rfl) (Sub.cons (lo2 := 130) (hi2 := 131) (c2 := 14) (show _ ∈ L_X9_readLine from by simp [L_X9_readLine]) (by omega) (by omega) (Or.inr rfl) (Sub.cons (lo2 := 130) (hi2 := 131) (c2 := 5) (show _ ∈ L_X9_readLine from by simp [L_X9_readLine]) (by omega) (by omega) (Or.inr rfl) (Sub.cons (lo2 := 130) (hi2 := 131) (c2 := 6) (show _ ∈ L_X9_readLine from by simp [L_X9_readLine]) (by omega) (by omega) (Or.inr rfl) (Sub.cons (lo2 := 130) (hi2 := 131) (c2 := 7) (show _ ∈ L_X9_readLine from by simp [L_X9_readLine]) (by omega) (by omega) (Or.inr rfl) (Sub.cons (lo2 := 130) (hi2 := 131) (c2 := 8) (show _ ∈ L_X9_readLine from by simp [L_X9_readLine]) (by omega) (by omega) (Or.inr rfl) (Sub.cons (lo2 := 130) (hi2 := 131) (c2 := 9) (show _ ∈ L_X9_readLine from by simp [L_X9_readLine]) (by omega) (by omega) (Or.inr rfl) (Sub.cons (lo2 := 132) (hi2 := 133) (c2 := 0) (show _ ∈ L_X9_readLine from by simp [L_X9_readLine]) (by omega) (by omega) (Or.inl rfl) (Sub.cons (lo2 := 134) (hi2 := 135) (c2 := 0) (show _ ∈ L_X9_readLine from by simp [L_X9_readLine]) (by omega) (by omega) (Or.inl rfl) Sub.nil))))))))))
    cases hz
    exact ((Sm.rf.call (fr_X9_begins t1 t0 5 1 _ (z := q16)  e17) ie17 (show ∀ r ∈ R_X9_begins, r ∈ R_X9_readLine from by decide)).call (fr_X9_layLine  _ (z := q20)  e21) ie21 (show ∀ r ∈ R_X9_layLine, r ∈ R_X9_readLine from by decide))
theorem fr_X9_readLine_138 {z : Unit × GW} : (∀ (t0 : Int32) (t1 : Nat) (w : GW), f_X9_readLine_138 t0 t1 w = some z → Sm L_X9_readLine R_X9_readLine w z.2) := by
  intro t0 t1 w hz
  rw [f_X9_readLine_138] at hz
  obtain ⟨q13, e14, hz⟩ := bd hz
  have ie14 : Sub L_X9_begins L_X9_readLine := by
    unfold L_X9_begins
    exact (Sub.cons (lo2 := 130) (hi2 := 131) (c2 := 10) (show _ ∈ L_X9_readLine from by simp [L_X9_readLine]) (by omega) (by omega) (Or.inr rfl) (Sub.cons (lo2 := 130) (hi2 := 131) (c2 := 11) (show _ ∈ L_X9_readLine from by simp [L_X9_readLine]) (by omega) (by omega) (Or.inr rfl) (Sub.cons (lo2 := 130) (hi2 := 131) (c2 := 14) (show _ ∈ L_X9_readLine from by simp [L_X9_readLine]) (by omega) (by omega) (Or.inr rfl) (Sub.cons (lo2 := 130) (hi2 := 131) (c2 := 5) (show _ ∈ L_X9_readLine from by simp [L_X9_readLine]) (by omega) (by omega) (Or.inr rfl) (Sub.cons (lo2 := 130) (hi2 := 131) (c2 := 6) (show _ ∈ L_X9_readLine from by simp [L_X9_readLine]) (by omega) (by omega) (Or.inr rfl) (Sub.cons (lo2 := 130) (hi2 := 131) (c2 := 7) (show _ ∈ L_X9_readLine from by simp [L_X9_readLine]) (by omega) (by omega) (Or.inr rfl) (Sub.cons (lo2 := 130) (hi2 := 131) (c2 := 8) (show _ ∈ L_X9_readLine from by simp [L_X9_readLine]) (by omega) (by omega) (Or.inr rfl) (Sub.cons (lo2 := 130) (hi2 := 131) (c2 := 9) (show _ ∈ L_X9_readLine from by simp [L_X9_readLine]) (by omega) (by omega) (Or.inr rfl) (Sub.cons (lo2 := 132) (hi2 := 133) (c2 := 0) (show _ ∈ L_X9_readLine from by simp [L_X9_readLine]) (by omega) (by omega) (Or.inl rfl) Sub.nil)))))))))
  rcases bri hz with hz | hz
  · obtain ⟨h15, hz⟩ := ck hz
    rcases bri hz with hz | hz
    · exact ((Sm.rf.call (fr_X9_begins t1 t0 3 0 _ (z := q13) e14) ie14 (show ∀ r ∈ R_X9_begins, r ∈ R_X9_readLine from by decide))).tr (fr_X9_readLine_173 0 26 _ hz)
    · exact ((Sm.rf.call (fr_X9_begins t1 t0 3 0 _ (z := q13) e14) ie14 (show ∀ r ∈ R_X9_begins, r ∈ R_X9_readLine from by decide))).tr (fr_X9_readLine_173 1 26 _ hz)
  · obtain ⟨q22, e23, hz⟩ := bd hz
    have ie23 : Sub L_X9_movesLine L_X9_readLine := by
      unfold L_X9_movesLine
      exact (Sub.cons (lo2 := 130) (hi2 := 131) (c2 := 10) (show _ ∈ L_X9_readLine from by simp [L_X9_readLine]) (by omega) (by omega) (Or.inr rfl) (Sub.cons (lo2 := 130) (hi2 := 131) (c2 := 11) (show _ ∈ L_X9_readLine from by simp [L_X9_readLine]) (by omega) (by omega) (Or.inr rfl) (Sub.cons (lo2 := 130) (hi2 := 131) (c2 := 14) (show _ ∈ L_X9_readLine from by simp [L_X9_readLine]) (by omega) (by omega) (Or.inr rfl) (Sub.cons (lo2 := 130) (hi2 := 131) (c2 := 5) (show _ ∈ L_X9_readLine from by simp [L_X9_readLine]) (by omega) (by omega) (Or.inr rfl) (Sub.cons (lo2 := 130) (hi2 := 131) (c2 := 6) (show _ ∈ L_X9_readLine from by simp [L_X9_readLine]) (by omega) (by omega) (Or.inr rfl) (Sub.cons (lo2 := 130) (hi2 := 131) (c2 := 7) (show _ ∈ L_X9_readLine from by simp [L_X9_readLine]) (by omega) (by omega) (Or.inr rfl) (Sub.cons (lo2 := 130) (hi2 := 131) (c2 := 8) (show _ ∈ L_X9_readLine from by simp [L_X9_readLine]) (by omega) (by omega) (Or.inr rfl) (Sub.cons (lo2 := 130) (hi2 := 131) (c2 := 9) (show _ ∈ L_X9_readLine from by simp [L_X9_readLine]) (by omega) (by omega) (Or.inr rfl) (Sub.cons (lo2 := 132) (hi2 := 133) (c2 := 0) (show _ ∈ L_X9_readLine from by simp [L_X9_readLine]) (by omega) (by omega) (Or.inl rfl) (Sub.cons (lo2 := 134) (hi2 := 135) (c2 := 0) (show _ ∈ L_X9_readLine from by simp [L_X9_readLine]) (by omega) (by omega) (Or.inl rfl) Sub.nil))))))))))
    cases hz
    exact ((Sm.rf.call (fr_X9_begins t1 t0 3 0 _ (z := q13)  e14) ie14 (show ∀ r ∈ R_X9_begins, r ∈ R_X9_readLine from by decide)).call (fr_X9_movesLine  _ (z := q22)  e23) ie23 (show ∀ r ∈ R_X9_movesLine, r ∈ R_X9_readLine from by decide))
theorem fr_X9_readLine_105 {z : Unit × GW} : (∀ (t0 : Int32) (t1 : Nat) (w : GW), f_X9_readLine_105 t0 t1 w = some z → Sm L_X9_readLine R_X9_readLine w z.2) := by
  intro t0 t1 w hz
  rw [f_X9_readLine_105] at hz
  obtain ⟨q10, e11, hz⟩ := bd hz
  have ie11 : Sub L_X9_begins L_X9_readLine := by
    unfold L_X9_begins
    exact (Sub.cons (lo2 := 130) (hi2 := 131) (c2 := 10) (show _ ∈ L_X9_readLine from by simp [L_X9_readLine]) (by omega) (by omega) (Or.inr rfl) (Sub.cons (lo2 := 130) (hi2 := 131) (c2 := 11) (show _ ∈ L_X9_readLine from by simp [L_X9_readLine]) (by omega) (by omega) (Or.inr rfl) (Sub.cons (lo2 := 130) (hi2 := 131) (c2 := 14) (show _ ∈ L_X9_readLine from by simp [L_X9_readLine]) (by omega) (by omega) (Or.inr rfl) (Sub.cons (lo2 := 130) (hi2 := 131) (c2 := 5) (show _ ∈ L_X9_readLine from by simp [L_X9_readLine]) (by omega) (by omega) (Or.inr rfl) (Sub.cons (lo2 := 130) (hi2 := 131) (c2 := 6) (show _ ∈ L_X9_readLine from by simp [L_X9_readLine]) (by omega) (by omega) (Or.inr rfl) (Sub.cons (lo2 := 130) (hi2 := 131) (c2 := 7) (show _ ∈ L_X9_readLine from by simp [L_X9_readLine]) (by omega) (by omega) (Or.inr rfl) (Sub.cons (lo2 := 130) (hi2 := 131) (c2 := 8) (show _ ∈ L_X9_readLine from by simp [L_X9_readLine]) (by omega) (by omega) (Or.inr rfl) (Sub.cons (lo2 := 130) (hi2 := 131) (c2 := 9) (show _ ∈ L_X9_readLine from by simp [L_X9_readLine]) (by omega) (by omega) (Or.inr rfl) (Sub.cons (lo2 := 132) (hi2 := 133) (c2 := 0) (show _ ∈ L_X9_readLine from by simp [L_X9_readLine]) (by omega) (by omega) (Or.inl rfl) Sub.nil)))))))))
  rcases bri hz with hz | hz
  · obtain ⟨h12, hz⟩ := ck hz
    rcases bri hz with hz | hz
    · exact ((Sm.rf.call (fr_X9_begins t1 t0 3 1 _ (z := q10) e11) ie11 (show ∀ r ∈ R_X9_begins, r ∈ R_X9_readLine from by decide))).tr (fr_X9_readLine_138 1 25 _ hz)
    · exact ((Sm.rf.call (fr_X9_begins t1 t0 3 1 _ (z := q10) e11) ie11 (show ∀ r ∈ R_X9_begins, r ∈ R_X9_readLine from by decide))).tr (fr_X9_readLine_138 0 25 _ hz)
  · obtain ⟨q24, e25, hz⟩ := bd hz
    have ie25 : Sub L_X9_doorLine L_X9_readLine := by
      unfold L_X9_doorLine
      exact (Sub.cons (lo2 := 130) (hi2 := 131) (c2 := 10) (show _ ∈ L_X9_readLine from by simp [L_X9_readLine]) (by omega) (by omega) (Or.inr rfl) (Sub.cons (lo2 := 130) (hi2 := 131) (c2 := 11) (show _ ∈ L_X9_readLine from by simp [L_X9_readLine]) (by omega) (by omega) (Or.inr rfl) (Sub.cons (lo2 := 130) (hi2 := 131) (c2 := 14) (show _ ∈ L_X9_readLine from by simp [L_X9_readLine]) (by omega) (by omega) (Or.inr rfl) (Sub.cons (lo2 := 130) (hi2 := 131) (c2 := 5) (show _ ∈ L_X9_readLine from by simp [L_X9_readLine]) (by omega) (by omega) (Or.inr rfl) (Sub.cons (lo2 := 130) (hi2 := 131) (c2 := 6) (show _ ∈ L_X9_readLine from by simp [L_X9_readLine]) (by omega) (by omega) (Or.inr rfl) (Sub.cons (lo2 := 130) (hi2 := 131) (c2 := 7) (show _ ∈ L_X9_readLine from by simp [L_X9_readLine]) (by omega) (by omega) (Or.inr rfl) (Sub.cons (lo2 := 130) (hi2 := 131) (c2 := 8) (show _ ∈ L_X9_readLine from by simp [L_X9_readLine]) (by omega) (by omega) (Or.inr rfl) (Sub.cons (lo2 := 130) (hi2 := 131) (c2 := 9) (show _ ∈ L_X9_readLine from by simp [L_X9_readLine]) (by omega) (by omega) (Or.inr rfl) (Sub.cons (lo2 := 132) (hi2 := 133) (c2 := 0) (show _ ∈ L_X9_readLine from by simp [L_X9_readLine]) (by omega) (by omega) (Or.inl rfl) (Sub.cons (lo2 := 134) (hi2 := 135) (c2 := 0) (show _ ∈ L_X9_readLine from by simp [L_X9_readLine]) (by omega) (by omega) (Or.inl rfl) Sub.nil))))))))))
    cases hz
    exact ((Sm.rf.call (fr_X9_begins t1 t0 3 1 _ (z := q10)  e11) ie11 (show ∀ r ∈ R_X9_begins, r ∈ R_X9_readLine from by decide)).call (fr_X9_doorLine  _ (z := q24)  e25) ie25 (show ∀ r ∈ R_X9_doorLine, r ∈ R_X9_readLine from by decide))
theorem fr_X9_readLine_72 {z : Unit × GW} : (∀ (t0 : Int32) (t1 : Nat) (w : GW), f_X9_readLine_72 t0 t1 w = some z → Sm L_X9_readLine R_X9_readLine w z.2) := by
  intro t0 t1 w hz
  rw [f_X9_readLine_72] at hz
  obtain ⟨q7, e8, hz⟩ := bd hz
  have ie8 : Sub L_X9_begins L_X9_readLine := by
    unfold L_X9_begins
    exact (Sub.cons (lo2 := 130) (hi2 := 131) (c2 := 10) (show _ ∈ L_X9_readLine from by simp [L_X9_readLine]) (by omega) (by omega) (Or.inr rfl) (Sub.cons (lo2 := 130) (hi2 := 131) (c2 := 11) (show _ ∈ L_X9_readLine from by simp [L_X9_readLine]) (by omega) (by omega) (Or.inr rfl) (Sub.cons (lo2 := 130) (hi2 := 131) (c2 := 14) (show _ ∈ L_X9_readLine from by simp [L_X9_readLine]) (by omega) (by omega) (Or.inr rfl) (Sub.cons (lo2 := 130) (hi2 := 131) (c2 := 5) (show _ ∈ L_X9_readLine from by simp [L_X9_readLine]) (by omega) (by omega) (Or.inr rfl) (Sub.cons (lo2 := 130) (hi2 := 131) (c2 := 6) (show _ ∈ L_X9_readLine from by simp [L_X9_readLine]) (by omega) (by omega) (Or.inr rfl) (Sub.cons (lo2 := 130) (hi2 := 131) (c2 := 7) (show _ ∈ L_X9_readLine from by simp [L_X9_readLine]) (by omega) (by omega) (Or.inr rfl) (Sub.cons (lo2 := 130) (hi2 := 131) (c2 := 8) (show _ ∈ L_X9_readLine from by simp [L_X9_readLine]) (by omega) (by omega) (Or.inr rfl) (Sub.cons (lo2 := 130) (hi2 := 131) (c2 := 9) (show _ ∈ L_X9_readLine from by simp [L_X9_readLine]) (by omega) (by omega) (Or.inr rfl) (Sub.cons (lo2 := 132) (hi2 := 133) (c2 := 0) (show _ ∈ L_X9_readLine from by simp [L_X9_readLine]) (by omega) (by omega) (Or.inl rfl) Sub.nil)))))))))
  rcases bri hz with hz | hz
  · obtain ⟨h9, hz⟩ := ck hz
    rcases bri hz with hz | hz
    · exact ((Sm.rf.call (fr_X9_begins t1 t0 5 0 _ (z := q7) e8) ie8 (show ∀ r ∈ R_X9_begins, r ∈ R_X9_readLine from by decide))).tr (fr_X9_readLine_105 1 24 _ hz)
    · exact ((Sm.rf.call (fr_X9_begins t1 t0 5 0 _ (z := q7) e8) ie8 (show ∀ r ∈ R_X9_begins, r ∈ R_X9_readLine from by decide))).tr (fr_X9_readLine_105 0 24 _ hz)
  · obtain ⟨q26, e27, hz⟩ := bd hz
    have ie27 : Sub L_X9_porterLine L_X9_readLine := by
      unfold L_X9_porterLine
      exact (Sub.cons (lo2 := 130) (hi2 := 131) (c2 := 10) (show _ ∈ L_X9_readLine from by simp [L_X9_readLine]) (by omega) (by omega) (Or.inr rfl) (Sub.cons (lo2 := 130) (hi2 := 131) (c2 := 11) (show _ ∈ L_X9_readLine from by simp [L_X9_readLine]) (by omega) (by omega) (Or.inr rfl) (Sub.cons (lo2 := 130) (hi2 := 131) (c2 := 14) (show _ ∈ L_X9_readLine from by simp [L_X9_readLine]) (by omega) (by omega) (Or.inr rfl) (Sub.cons (lo2 := 130) (hi2 := 131) (c2 := 5) (show _ ∈ L_X9_readLine from by simp [L_X9_readLine]) (by omega) (by omega) (Or.inr rfl) (Sub.cons (lo2 := 130) (hi2 := 131) (c2 := 6) (show _ ∈ L_X9_readLine from by simp [L_X9_readLine]) (by omega) (by omega) (Or.inr rfl) (Sub.cons (lo2 := 130) (hi2 := 131) (c2 := 7) (show _ ∈ L_X9_readLine from by simp [L_X9_readLine]) (by omega) (by omega) (Or.inr rfl) (Sub.cons (lo2 := 130) (hi2 := 131) (c2 := 8) (show _ ∈ L_X9_readLine from by simp [L_X9_readLine]) (by omega) (by omega) (Or.inr rfl) (Sub.cons (lo2 := 130) (hi2 := 131) (c2 := 9) (show _ ∈ L_X9_readLine from by simp [L_X9_readLine]) (by omega) (by omega) (Or.inr rfl) (Sub.cons (lo2 := 132) (hi2 := 133) (c2 := 0) (show _ ∈ L_X9_readLine from by simp [L_X9_readLine]) (by omega) (by omega) (Or.inl rfl) (Sub.cons (lo2 := 134) (hi2 := 135) (c2 := 0) (show _ ∈ L_X9_readLine from by simp [L_X9_readLine]) (by omega) (by omega) (Or.inl rfl) Sub.nil))))))))))
    cases hz
    exact ((Sm.rf.call (fr_X9_begins t1 t0 5 0 _ (z := q7)  e8) ie8 (show ∀ r ∈ R_X9_begins, r ∈ R_X9_readLine from by decide)).call (fr_X9_porterLine  _ (z := q26)  e27) ie27 (show ∀ r ∈ R_X9_porterLine, r ∈ R_X9_readLine from by decide))
theorem fr_X9_readLine_18 {z : Unit × GW} : (∀ (t0 : Int32) (t1 : Nat) (w : GW), f_X9_readLine_18 t0 t1 w = some z → Sm L_X9_readLine R_X9_readLine w z.2) := by
  intro t0 t1 w hz
  rw [f_X9_readLine_18] at hz
  obtain ⟨q2, e3, hz⟩ := bd hz
  have ie3 : Sub L_X9_begins L_X9_readLine := by
    unfold L_X9_begins
    exact (Sub.cons (lo2 := 130) (hi2 := 131) (c2 := 10) (show _ ∈ L_X9_readLine from by simp [L_X9_readLine]) (by omega) (by omega) (Or.inr rfl) (Sub.cons (lo2 := 130) (hi2 := 131) (c2 := 11) (show _ ∈ L_X9_readLine from by simp [L_X9_readLine]) (by omega) (by omega) (Or.inr rfl) (Sub.cons (lo2 := 130) (hi2 := 131) (c2 := 14) (show _ ∈ L_X9_readLine from by simp [L_X9_readLine]) (by omega) (by omega) (Or.inr rfl) (Sub.cons (lo2 := 130) (hi2 := 131) (c2 := 5) (show _ ∈ L_X9_readLine from by simp [L_X9_readLine]) (by omega) (by omega) (Or.inr rfl) (Sub.cons (lo2 := 130) (hi2 := 131) (c2 := 6) (show _ ∈ L_X9_readLine from by simp [L_X9_readLine]) (by omega) (by omega) (Or.inr rfl) (Sub.cons (lo2 := 130) (hi2 := 131) (c2 := 7) (show _ ∈ L_X9_readLine from by simp [L_X9_readLine]) (by omega) (by omega) (Or.inr rfl) (Sub.cons (lo2 := 130) (hi2 := 131) (c2 := 8) (show _ ∈ L_X9_readLine from by simp [L_X9_readLine]) (by omega) (by omega) (Or.inr rfl) (Sub.cons (lo2 := 130) (hi2 := 131) (c2 := 9) (show _ ∈ L_X9_readLine from by simp [L_X9_readLine]) (by omega) (by omega) (Or.inr rfl) (Sub.cons (lo2 := 132) (hi2 := 133) (c2 := 0) (show _ ∈ L_X9_readLine from by simp [L_X9_readLine]) (by omega) (by omega) (Or.inl rfl) Sub.nil)))))))))
  rcases bri hz with hz | hz
  · obtain ⟨q4, e5, hz⟩ := bd hz
    have ie5 : Sub L_X9_begins L_X9_readLine := by
      unfold L_X9_begins
      exact (Sub.cons (lo2 := 130) (hi2 := 131) (c2 := 10) (show _ ∈ L_X9_readLine from by simp [L_X9_readLine]) (by omega) (by omega) (Or.inr rfl) (Sub.cons (lo2 := 130) (hi2 := 131) (c2 := 11) (show _ ∈ L_X9_readLine from by simp [L_X9_readLine]) (by omega) (by omega) (Or.inr rfl) (Sub.cons (lo2 := 130) (hi2 := 131) (c2 := 14) (show _ ∈ L_X9_readLine from by simp [L_X9_readLine]) (by omega) (by omega) (Or.inr rfl) (Sub.cons (lo2 := 130) (hi2 := 131) (c2 := 5) (show _ ∈ L_X9_readLine from by simp [L_X9_readLine]) (by omega) (by omega) (Or.inr rfl) (Sub.cons (lo2 := 130) (hi2 := 131) (c2 := 6) (show _ ∈ L_X9_readLine from by simp [L_X9_readLine]) (by omega) (by omega) (Or.inr rfl) (Sub.cons (lo2 := 130) (hi2 := 131) (c2 := 7) (show _ ∈ L_X9_readLine from by simp [L_X9_readLine]) (by omega) (by omega) (Or.inr rfl) (Sub.cons (lo2 := 130) (hi2 := 131) (c2 := 8) (show _ ∈ L_X9_readLine from by simp [L_X9_readLine]) (by omega) (by omega) (Or.inr rfl) (Sub.cons (lo2 := 130) (hi2 := 131) (c2 := 9) (show _ ∈ L_X9_readLine from by simp [L_X9_readLine]) (by omega) (by omega) (Or.inr rfl) (Sub.cons (lo2 := 132) (hi2 := 133) (c2 := 0) (show _ ∈ L_X9_readLine from by simp [L_X9_readLine]) (by omega) (by omega) (Or.inl rfl) Sub.nil)))))))))
    rcases bri hz with hz | hz
    · obtain ⟨h6, hz⟩ := ck hz
      rcases bri hz with hz | hz
      · exact (((Sm.rf.call (fr_X9_begins t1 t0 3 0 _ (z := q2) e3) ie3 (show ∀ r ∈ R_X9_begins, r ∈ R_X9_readLine from by decide)).call (fr_X9_begins 20 1 1 1 _ (z := q4) e5) ie5 (show ∀ r ∈ R_X9_begins, r ∈ R_X9_readLine from by decide))).tr (fr_X9_readLine_72 0 23 _ hz)
      · exact (((Sm.rf.call (fr_X9_begins t1 t0 3 0 _ (z := q2) e3) ie3 (show ∀ r ∈ R_X9_begins, r ∈ R_X9_readLine from by decide)).call (fr_X9_begins 20 1 1 1 _ (z := q4) e5) ie5 (show ∀ r ∈ R_X9_begins, r ∈ R_X9_readLine from by decide))).tr (fr_X9_readLine_72 1 23 _ hz)
    · obtain ⟨q28, e29, hz⟩ := bd hz
      have ie29 : Sub L_X9_boxLine L_X9_readLine := by
        unfold L_X9_boxLine
        exact (Sub.cons (lo2 := 130) (hi2 := 131) (c2 := 10) (show _ ∈ L_X9_readLine from by simp [L_X9_readLine]) (by omega) (by omega) (Or.inr rfl) (Sub.cons (lo2 := 130) (hi2 := 131) (c2 := 11) (show _ ∈ L_X9_readLine from by simp [L_X9_readLine]) (by omega) (by omega) (Or.inr rfl) (Sub.cons (lo2 := 130) (hi2 := 131) (c2 := 14) (show _ ∈ L_X9_readLine from by simp [L_X9_readLine]) (by omega) (by omega) (Or.inr rfl) (Sub.cons (lo2 := 130) (hi2 := 131) (c2 := 5) (show _ ∈ L_X9_readLine from by simp [L_X9_readLine]) (by omega) (by omega) (Or.inr rfl) (Sub.cons (lo2 := 130) (hi2 := 131) (c2 := 6) (show _ ∈ L_X9_readLine from by simp [L_X9_readLine]) (by omega) (by omega) (Or.inr rfl) (Sub.cons (lo2 := 130) (hi2 := 131) (c2 := 7) (show _ ∈ L_X9_readLine from by simp [L_X9_readLine]) (by omega) (by omega) (Or.inr rfl) (Sub.cons (lo2 := 130) (hi2 := 131) (c2 := 8) (show _ ∈ L_X9_readLine from by simp [L_X9_readLine]) (by omega) (by omega) (Or.inr rfl) (Sub.cons (lo2 := 130) (hi2 := 131) (c2 := 9) (show _ ∈ L_X9_readLine from by simp [L_X9_readLine]) (by omega) (by omega) (Or.inr rfl) (Sub.cons (lo2 := 132) (hi2 := 133) (c2 := 0) (show _ ∈ L_X9_readLine from by simp [L_X9_readLine]) (by omega) (by omega) (Or.inl rfl) (Sub.cons (lo2 := 134) (hi2 := 135) (c2 := 0) (show _ ∈ L_X9_readLine from by simp [L_X9_readLine]) (by omega) (by omega) (Or.inl rfl) Sub.nil))))))))))
      cases hz
      exact (((Sm.rf.call (fr_X9_begins t1 t0 3 0 _ (z := q2)  e3) ie3 (show ∀ r ∈ R_X9_begins, r ∈ R_X9_readLine from by decide)).call (fr_X9_begins 20 1 1 1 _ (z := q4)  e5) ie5 (show ∀ r ∈ R_X9_begins, r ∈ R_X9_readLine from by decide)).call (fr_X9_boxLine  _ (z := q28)  e29) ie29 (show ∀ r ∈ R_X9_boxLine, r ∈ R_X9_readLine from by decide))
  · obtain ⟨q30, e31, hz⟩ := bd hz
    have ie31 : Sub L_X9_hallLine L_X9_readLine := by
      unfold L_X9_hallLine
      exact (Sub.cons (lo2 := 130) (hi2 := 131) (c2 := 10) (show _ ∈ L_X9_readLine from by simp [L_X9_readLine]) (by omega) (by omega) (Or.inr rfl) (Sub.cons (lo2 := 130) (hi2 := 131) (c2 := 11) (show _ ∈ L_X9_readLine from by simp [L_X9_readLine]) (by omega) (by omega) (Or.inr rfl) (Sub.cons (lo2 := 130) (hi2 := 131) (c2 := 14) (show _ ∈ L_X9_readLine from by simp [L_X9_readLine]) (by omega) (by omega) (Or.inr rfl) (Sub.cons (lo2 := 130) (hi2 := 131) (c2 := 5) (show _ ∈ L_X9_readLine from by simp [L_X9_readLine]) (by omega) (by omega) (Or.inr rfl) (Sub.cons (lo2 := 130) (hi2 := 131) (c2 := 6) (show _ ∈ L_X9_readLine from by simp [L_X9_readLine]) (by omega) (by omega) (Or.inr rfl) (Sub.cons (lo2 := 130) (hi2 := 131) (c2 := 7) (show _ ∈ L_X9_readLine from by simp [L_X9_readLine]) (by omega) (by omega) (Or.inr rfl) (Sub.cons (lo2 := 130) (hi2 := 131) (c2 := 8) (show _ ∈ L_X9_readLine from by simp [L_X9_readLine]) (by omega) (by omega) (Or.inr rfl) (Sub.cons (lo2 := 130) (hi2 := 131) (c2 := 9) (show _ ∈ L_X9_readLine from by simp [L_X9_readLine]) (by omega) (by omega) (Or.inr rfl) (Sub.cons (lo2 := 132) (hi2 := 133) (c2 := 0) (show _ ∈ L_X9_readLine from by simp [L_X9_readLine]) (by omega) (by omega) (Or.inl rfl) (Sub.cons (lo2 := 134) (hi2 := 135) (c2 := 0) (show _ ∈ L_X9_readLine from by simp [L_X9_readLine]) (by omega) (by omega) (Or.inl rfl) Sub.nil))))))))))
    cases hz
    exact ((Sm.rf.call (fr_X9_begins t1 t0 3 0 _ (z := q2)  e3) ie3 (show ∀ r ∈ R_X9_begins, r ∈ R_X9_readLine from by decide)).call (fr_X9_hallLine  _ (z := q30)  e31) ie31 (show ∀ r ∈ R_X9_hallLine, r ∈ R_X9_readLine from by decide))
theorem fr_X9_readLine  (w : GW) {z : Unit × GW} : f_X9_readLine w = some z → Sm L_X9_readLine R_X9_readLine w z.2 := by
  intro  hz
  rw [f_X9_readLine] at hz
  obtain ⟨h1, hz⟩ := ck hz
  rcases bri hz with hz | hz
  · exact (Sm.rf).tr (fr_X9_readLine_18 1 17 _ hz)
  · exact (Sm.rf).tr (fr_X9_readLine_18 0 17 _ hz)
def L_X9_begin : List (Nat × Nat × Nat) := [(135, 136, 0)]
def R_X9_begin : List Nat := []
theorem fr_X9_begin_2 {z : Unit × GW} : ∀ (n9 : Nat), (∀ (x1 : Int32) (x2 : Int32) (x3 : Int32) (w : GW), f_X9_begin_2 n9 x1 x2 x3 w = some z → Sm L_X9_begin R_X9_begin w z.2) := by
  intro n9
  induction n9 with
  | zero =>
    intro x1 x2 x3 w hz
    rw [f_X9_begin_2] at hz
    cases hz
  | succ n9 ih =>
    intro x1 x2 x3 w hz
    rw [f_X9_begin_2] at hz
    rcases bri hz with hz | hz
    · obtain ⟨h1, hz⟩ := ck hz
      obtain ⟨h2, hz⟩ := ck hz
      obtain ⟨h3, hz⟩ := ck hz
      cases hz
      exact (((Sm.rf.wI (lo := 135) (hi := 136) (c9 := 0) (show _ ∈ L_X9_begin from by simp [L_X9_begin]) (by decide) (by decide) (Or.inl rfl)).wI (lo := 135) (hi := 136) (c9 := 0) (show _ ∈ L_X9_begin from by simp [L_X9_begin]) (by decide) (by decide) (Or.inl rfl)).wI (lo := 135) (hi := 136) (c9 := 0) (show _ ∈ L_X9_begin from by simp [L_X9_begin]) (by decide) (by decide) (Or.inl rfl))
    · obtain ⟨h4, hz⟩ := ck hz
      exact ((Sm.rf.wI (lo := 135) (hi := 136) (c9 := 0) (show _ ∈ L_X9_begin from by simp [L_X9_begin]) (by decide) (by decide) (Or.inl rfl))).tr (ih x1 x2 (x3 + 1) _  hz)
theorem fr_X9_begin (x1 : Int32) (x2 : Int32) (w : GW) {z : Unit × GW} : f_X9_begin x1 x2 w = some z → Sm L_X9_begin R_X9_begin w z.2 := by
  intro  hz
  rw [f_X9_begin] at hz
  exact (Sm.rf).tr (fr_X9_begin_2 fu x1 x2 0 _ hz)
def L_X9_hall : List (Nat × Nat × Nat) := [(130, 131, 1), (130, 131, 10), (130, 131, 11), (130, 131, 12), (130, 131, 14), (130, 131, 15), (130, 131, 20), (130, 131, 3), (130, 131, 4), (130, 131, 5), (130, 131, 6), (130, 131, 7), (130, 131, 8), (130, 131, 9), (132, 133, 0), (133, 134, 0), (134, 135, 0), (135, 136, 0)]
def R_X9_hall : List Nat := []
theorem fr_X9_hall_212 {z : Int32 × GW} : ∀ (n9 : Nat), (∀ (x2 : Int32) (w : GW), f_X9_hall_212 n9 x2 w = some z → Sm L_X9_hall R_X9_hall w z.2) := by
  intro n9
  induction n9 with
  | zero =>
    intro x2 w hz
    rw [f_X9_hall_212] at hz
    cases hz
  | succ n9 ih =>
    intro x2 w hz
    rw [f_X9_hall_212] at hz
    rcases bri hz with hz | hz
    · obtain ⟨q9, e10, hz⟩ := bd hz
      have ie10 : Sub L_X9_begin L_X9_hall := by
        unfold L_X9_begin
        exact (Sub.cons (lo2 := 135) (hi2 := 136) (c2 := 0) (show _ ∈ L_X9_hall from by simp [L_X9_hall]) (by omega) (by omega) (Or.inl rfl) Sub.nil)
      obtain ⟨h11, hz⟩ := ck hz
      cases hz
      exact (((Sm.rf.wI (lo := 130) (hi := 131) (c9 := 15) (show _ ∈ L_X9_hall from by simp [L_X9_hall]) (by decide) (by decide) (Or.inr rfl)).wI (lo := 130) (hi := 131) (c9 := 20) (show _ ∈ L_X9_hall from by simp [L_X9_hall]) (by decide) (by decide) (Or.inr rfl)).call (fr_X9_begin 0 0 _ (z := q9)  e10) ie10 (show ∀ r ∈ R_X9_begin, r ∈ R_X9_hall from by decide))
    · obtain ⟨h12, hz⟩ := ck hz
      obtain ⟨h13, hz⟩ := ck hz
      exact ((Sm.rf.wI (lo := 133) (hi := 134) (c9 := 0) (show _ ∈ L_X9_hall from by simp [L_X9_hall]) (by decide) (by decide) (Or.inl rfl))).tr (ih (x2 + 1) _  hz)
theorem fr_X9_hall_197 {z : Int32 × GW} : (∀ (w : GW), f_X9_hall_197 w = some z → Sm L_X9_hall R_X9_hall w z.2) := by
  intro w hz
  rw [f_X9_hall_197] at hz
  rcases bri hz with hz | hz
  · exact (Sm.rf).tr (fr_X9_hall_212 fu 0 _ hz)
  · obtain ⟨q14, e15, hz⟩ := bd hz
    have ie15 : Sub L_X9_no L_X9_hall := by
      unfold L_X9_no
      exact (Sub.cons (lo2 := 130) (hi2 := 131) (c2 := 12) (show _ ∈ L_X9_hall from by simp [L_X9_hall]) (by omega) (by omega) (Or.inr rfl) Sub.nil)
    cases hz
    exact (Sm.rf.call (fr_X9_no 4 _ (z := q14)  e15) ie15 (show ∀ r ∈ R_X9_no, r ∈ R_X9_hall from by decide))
theorem fr_X9_hall_187 {z : Int32 × GW} : (∀ (w : GW), f_X9_hall_187 w = some z → Sm L_X9_hall R_X9_hall w z.2) := by
  intro w hz
  rw [f_X9_hall_187] at hz
  obtain ⟨q17, e18, hz⟩ := bd hz
  have ie18 : Sub L_X9_wrong L_X9_hall := by
    unfold L_X9_wrong
    exact (Sub.cons (lo2 := 130) (hi2 := 131) (c2 := 10) (show _ ∈ L_X9_hall from by simp [L_X9_hall]) (by omega) (by omega) (Or.inr rfl) (Sub.cons (lo2 := 130) (hi2 := 131) (c2 := 11) (show _ ∈ L_X9_hall from by simp [L_X9_hall]) (by omega) (by omega) (Or.inr rfl) (Sub.cons (lo2 := 130) (hi2 := 131) (c2 := 14) (show _ ∈ L_X9_hall from by simp [L_X9_hall]) (by omega) (by omega) (Or.inr rfl) Sub.nil)))
  exact ((Sm.rf.call (fr_X9_wrong 6 (gI w 130 4) _ (z := q17) e18) ie18 (show ∀ r ∈ R_X9_wrong, r ∈ R_X9_hall from by decide))).tr (fr_X9_hall_197 _ hz)
theorem fr_X9_hall_160 {z : Int32 × GW} : (∀ (w : GW), f_X9_hall_160 w = some z → Sm L_X9_hall R_X9_hall w z.2) := by
  intro w hz
  rw [f_X9_hall_160] at hz
  rcases bri hz with hz | hz
  · obtain ⟨h16, hz⟩ := ck hz
    rcases bri hz with hz | hz
    · exact (Sm.rf).tr (fr_X9_hall_187 _ hz)
    · obtain ⟨h19, hz⟩ := ck hz
      rcases bri hz with hz | hz
      · exact (Sm.rf).tr (fr_X9_hall_187 _ hz)
      · exact (Sm.rf).tr (fr_X9_hall_197 _ hz)
  · exact (Sm.rf).tr (fr_X9_hall_197 _ hz)
theorem fr_X9_hall_137 {z : Int32 × GW} : (∀ (w : GW), f_X9_hall_137 w = some z → Sm L_X9_hall R_X9_hall w z.2) := by
  intro w hz
  rw [f_X9_hall_137] at hz
  rcases bri hz with hz | hz
  · rcases bri hz with hz | hz
    · exact (Sm.rf).tr (fr_X9_hall_160 _ hz)
    · obtain ⟨q20, e21, hz⟩ := bd hz
      have ie21 : Sub L_X9_wrong L_X9_hall := by
        unfold L_X9_wrong
        exact (Sub.cons (lo2 := 130) (hi2 := 131) (c2 := 10) (show _ ∈ L_X9_hall from by simp [L_X9_hall]) (by omega) (by omega) (Or.inr rfl) (Sub.cons (lo2 := 130) (hi2 := 131) (c2 := 11) (show _ ∈ L_X9_hall from by simp [L_X9_hall]) (by omega) (by omega) (Or.inr rfl) (Sub.cons (lo2 := 130) (hi2 := 131) (c2 := 14) (show _ ∈ L_X9_hall from by simp [L_X9_hall]) (by omega) (by omega) (Or.inr rfl) Sub.nil)))
      exact ((Sm.rf.call (fr_X9_wrong 1 (gI w 130 4) _ (z := q20) e21) ie21 (show ∀ r ∈ R_X9_wrong, r ∈ R_X9_hall from by decide))).tr (fr_X9_hall_160 _ hz)
  · exact (Sm.rf).tr (fr_X9_hall_160 _ hz)
theorem fr_X9_hall_110 {z : Int32 × GW} : ∀ (n9 : Nat), (∀ (w : GW), f_X9_hall_110 n9 w = some z → Sm L_X9_hall R_X9_hall w z.2) := by
  intro n9
  induction n9 with
  | zero =>
    intro w hz
    rw [f_X9_hall_110] at hz
    cases hz
  | succ n9 ih =>
    intro w hz
    rw [f_X9_hall_110] at hz
    rcases bri hz with hz | hz
    · rcases bri hz with hz | hz
      · obtain ⟨q22, e23, hz⟩ := bd hz
        have ie23 : Sub L_X9_next L_X9_hall := by
          unfold L_X9_next
          exact (Sub.cons (lo2 := 130) (hi2 := 131) (c2 := 5) (show _ ∈ L_X9_hall from by simp [L_X9_hall]) (by omega) (by omega) (Or.inr rfl) (Sub.cons (lo2 := 130) (hi2 := 131) (c2 := 6) (show _ ∈ L_X9_hall from by simp [L_X9_hall]) (by omega) (by omega) (Or.inr rfl) (Sub.cons (lo2 := 130) (hi2 := 131) (c2 := 7) (show _ ∈ L_X9_hall from by simp [L_X9_hall]) (by omega) (by omega) (Or.inr rfl) (Sub.cons (lo2 := 130) (hi2 := 131) (c2 := 8) (show _ ∈ L_X9_hall from by simp [L_X9_hall]) (by omega) (by omega) (Or.inr rfl) (Sub.cons (lo2 := 130) (hi2 := 131) (c2 := 9) (show _ ∈ L_X9_hall from by simp [L_X9_hall]) (by omega) (by omega) (Or.inr rfl) (Sub.cons (lo2 := 132) (hi2 := 133) (c2 := 0) (show _ ∈ L_X9_hall from by simp [L_X9_hall]) (by omega) (by omega) (Or.inl rfl) Sub.nil))))))
        obtain ⟨q24, e25, hz⟩ := bd hz
        have ie25 : Sub L_X9_readLine L_X9_hall := by
          unfold L_X9_readLine
          exact (Sub.cons (lo2 := 130) (hi2 := 131) (c2 := 10) (show _ ∈ L_X9_hall from by simp [L_X9_hall]) (by omega) (by omega) (Or.inr rfl) (Sub.cons (lo2 := 130) (hi2 := 131) (c2 := 11) (show _ ∈ L_X9_hall from by simp [L_X9_hall]) (by omega) (by omega) (Or.inr rfl) (Sub.cons (lo2 := 130) (hi2 := 131) (c2 := 14) (show _ ∈ L_X9_hall from by simp [L_X9_hall]) (by omega) (by omega) (Or.inr rfl) (Sub.cons (lo2 := 130) (hi2 := 131) (c2 := 5) (show _ ∈ L_X9_hall from by simp [L_X9_hall]) (by omega) (by omega) (Or.inr rfl) (Sub.cons (lo2 := 130) (hi2 := 131) (c2 := 6) (show _ ∈ L_X9_hall from by simp [L_X9_hall]) (by omega) (by omega) (Or.inr rfl) (Sub.cons (lo2 := 130) (hi2 := 131) (c2 := 7) (show _ ∈ L_X9_hall from by simp [L_X9_hall]) (by omega) (by omega) (Or.inr rfl) (Sub.cons (lo2 := 130) (hi2 := 131) (c2 := 8) (show _ ∈ L_X9_hall from by simp [L_X9_hall]) (by omega) (by omega) (Or.inr rfl) (Sub.cons (lo2 := 130) (hi2 := 131) (c2 := 9) (show _ ∈ L_X9_hall from by simp [L_X9_hall]) (by omega) (by omega) (Or.inr rfl) (Sub.cons (lo2 := 132) (hi2 := 133) (c2 := 0) (show _ ∈ L_X9_hall from by simp [L_X9_hall]) (by omega) (by omega) (Or.inl rfl) (Sub.cons (lo2 := 134) (hi2 := 135) (c2 := 0) (show _ ∈ L_X9_hall from by simp [L_X9_hall]) (by omega) (by omega) (Or.inl rfl) Sub.nil))))))))))
        exact (((Sm.rf.call (fr_X9_next  _ (z := q22)  e23) ie23 (show ∀ r ∈ R_X9_next, r ∈ R_X9_hall from by decide)).call (fr_X9_readLine  _ (z := q24)  e25) ie25 (show ∀ r ∈ R_X9_readLine, r ∈ R_X9_hall from by decide))).tr (ih  _  hz)
      · exact (Sm.rf).tr (fr_X9_hall_137 _ hz)
    · exact (Sm.rf).tr (fr_X9_hall_137 _ hz)
theorem fr_X9_hall_61 {z : Int32 × GW} : ∀ (n9 : Nat), (∀ (x1 : Int32) (x2 : Int32) (w : GW), f_X9_hall_61 n9 x1 x2 w = some z → Sm L_X9_hall R_X9_hall w z.2) := by
  intro n9
  induction n9 with
  | zero =>
    intro x1 x2 w hz
    rw [f_X9_hall_61] at hz
    cases hz
  | succ n9 ih =>
    intro x1 x2 w hz
    rw [f_X9_hall_61] at hz
    rcases bri hz with hz | hz
    · obtain ⟨q5, e6, hz⟩ := bd hz
      have ie6 : Sub L_X9_next L_X9_hall := by
        unfold L_X9_next
        exact (Sub.cons (lo2 := 130) (hi2 := 131) (c2 := 5) (show _ ∈ L_X9_hall from by simp [L_X9_hall]) (by omega) (by omega) (Or.inr rfl) (Sub.cons (lo2 := 130) (hi2 := 131) (c2 := 6) (show _ ∈ L_X9_hall from by simp [L_X9_hall]) (by omega) (by omega) (Or.inr rfl) (Sub.cons (lo2 := 130) (hi2 := 131) (c2 := 7) (show _ ∈ L_X9_hall from by simp [L_X9_hall]) (by omega) (by omega) (Or.inr rfl) (Sub.cons (lo2 := 130) (hi2 := 131) (c2 := 8) (show _ ∈ L_X9_hall from by simp [L_X9_hall]) (by omega) (by omega) (Or.inr rfl) (Sub.cons (lo2 := 130) (hi2 := 131) (c2 := 9) (show _ ∈ L_X9_hall from by simp [L_X9_hall]) (by omega) (by omega) (Or.inr rfl) (Sub.cons (lo2 := 132) (hi2 := 133) (c2 := 0) (show _ ∈ L_X9_hall from by simp [L_X9_hall]) (by omega) (by omega) (Or.inl rfl) Sub.nil))))))
      obtain ⟨q7, e8, hz⟩ := bd hz
      have ie8 : Sub L_X9_readLine L_X9_hall := by
        unfold L_X9_readLine
        exact (Sub.cons (lo2 := 130) (hi2 := 131) (c2 := 10) (show _ ∈ L_X9_hall from by simp [L_X9_hall]) (by omega) (by omega) (Or.inr rfl) (Sub.cons (lo2 := 130) (hi2 := 131) (c2 := 11) (show _ ∈ L_X9_hall from by simp [L_X9_hall]) (by omega) (by omega) (Or.inr rfl) (Sub.cons (lo2 := 130) (hi2 := 131) (c2 := 14) (show _ ∈ L_X9_hall from by simp [L_X9_hall]) (by omega) (by omega) (Or.inr rfl) (Sub.cons (lo2 := 130) (hi2 := 131) (c2 := 5) (show _ ∈ L_X9_hall from by simp [L_X9_hall]) (by omega) (by omega) (Or.inr rfl) (Sub.cons (lo2 := 130) (hi2 := 131) (c2 := 6) (show _ ∈ L_X9_hall from by simp [L_X9_hall]) (by omega) (by omega) (Or.inr rfl) (Sub.cons (lo2 := 130) (hi2 := 131) (c2 := 7) (show _ ∈ L_X9_hall from by simp [L_X9_hall]) (by omega) (by omega) (Or.inr rfl) (Sub.cons (lo2 := 130) (hi2 := 131) (c2 := 8) (show _ ∈ L_X9_hall from by simp [L_X9_hall]) (by omega) (by omega) (Or.inr rfl) (Sub.cons (lo2 := 130) (hi2 := 131) (c2 := 9) (show _ ∈ L_X9_hall from by simp [L_X9_hall]) (by omega) (by omega) (Or.inr rfl) (Sub.cons (lo2 := 132) (hi2 := 133) (c2 := 0) (show _ ∈ L_X9_hall from by simp [L_X9_hall]) (by omega) (by omega) (Or.inl rfl) (Sub.cons (lo2 := 134) (hi2 := 135) (c2 := 0) (show _ ∈ L_X9_hall from by simp [L_X9_hall]) (by omega) (by omega) (Or.inl rfl) Sub.nil))))))))))
      exact (((((Sm.rf.wI (lo := 130) (hi := 131) (c9 := 4) (show _ ∈ L_X9_hall from by simp [L_X9_hall]) (by decide) (by decide) (Or.inr rfl)).wI (lo := 130) (hi := 131) (c9 := 6) (show _ ∈ L_X9_hall from by simp [L_X9_hall]) (by decide) (by decide) (Or.inr rfl)).call (fr_X9_next _ (z := q5) e6) ie6 (show ∀ r ∈ R_X9_next, r ∈ R_X9_hall from by decide)).call (fr_X9_readLine _ (z := q7) e8) ie8 (show ∀ r ∈ R_X9_readLine, r ∈ R_X9_hall from by decide))).tr (fr_X9_hall_110 fu _ hz)
    · obtain ⟨h26, hz⟩ := ck hz
      obtain ⟨h27, hz⟩ := ck hz
      exact (((Sm.rf.wI (lo := 134) (hi := 135) (c9 := 0) (show _ ∈ L_X9_hall from by simp [L_X9_hall]) (by decide) (by decide) (Or.inl rfl)).wI (lo := 134) (hi := 135) (c9 := 0) (show _ ∈ L_X9_hall from by simp [L_X9_hall]) (by decide) (by decide) (Or.inl rfl))).tr (ih x1 (x2 + 1) _  hz)
theorem fr_X9_hall_39 {z : Int32 × GW} : ∀ (n9 : Nat), (∀ (x1 : Int32) (x2 : Int32) (w : GW), f_X9_hall_39 n9 x1 x2 w = some z → Sm L_X9_hall R_X9_hall w z.2) := by
  intro n9
  induction n9 with
  | zero =>
    intro x1 x2 w hz
    rw [f_X9_hall_39] at hz
    cases hz
  | succ n9 ih =>
    intro x1 x2 w hz
    rw [f_X9_hall_39] at hz
    rcases bri hz with hz | hz
    · exact (Sm.rf).tr (fr_X9_hall_61 fu x1 0 _ hz)
    · obtain ⟨h28, hz⟩ := ck hz
      exact ((Sm.rf.wI (lo := 134) (hi := 135) (c9 := 0) (show _ ∈ L_X9_hall from by simp [L_X9_hall]) (by decide) (by decide) (Or.inl rfl))).tr (ih x1 (x2 + 1) _  hz)
theorem fr_X9_hall (x1 : Int32) (w : GW) {z : Int32 × GW} : f_X9_hall x1 w = some z → Sm L_X9_hall R_X9_hall w z.2 := by
  intro  hz
  rw [f_X9_hall] at hz
  obtain ⟨q1, e2, hz⟩ := bd hz
  have ie2 : Sub L_X9_good L_X9_hall := by
    unfold L_X9_good
    exact (Sub.cons (lo2 := 130) (hi2 := 131) (c2 := 1) (show _ ∈ L_X9_hall from by simp [L_X9_hall]) (by omega) (by omega) (Or.inr rfl) (Sub.cons (lo2 := 130) (hi2 := 131) (c2 := 12) (show _ ∈ L_X9_hall from by simp [L_X9_hall]) (by omega) (by omega) (Or.inr rfl) Sub.nil))
  obtain ⟨q3, e4, hz⟩ := bd hz
  have ie4 : Sub L_X9_within L_X9_hall := by
    unfold L_X9_within
    exact Sub.nil
  rcases bri hz with hz | hz
  · obtain ⟨q29, e30, hz⟩ := bd hz
    have ie30 : Sub L_X9_no L_X9_hall := by
      unfold L_X9_no
      exact (Sub.cons (lo2 := 130) (hi2 := 131) (c2 := 12) (show _ ∈ L_X9_hall from by simp [L_X9_hall]) (by omega) (by omega) (Or.inr rfl) Sub.nil)
    cases hz
    exact (((Sm.rf.call (fr_X9_good  _ (z := q1)  e2) ie2 (show ∀ r ∈ R_X9_good, r ∈ R_X9_hall from by decide)).call (fr_X9_within x1 0 (gI q1.2 130 2) _ (z := q3)  e4) ie4 (show ∀ r ∈ R_X9_within, r ∈ R_X9_hall from by decide)).call (fr_X9_no 2 _ (z := q29)  e30) ie30 (show ∀ r ∈ R_X9_no, r ∈ R_X9_hall from by decide))
  · exact ((((((Sm.rf.call (fr_X9_good _ (z := q1) e2) ie2 (show ∀ r ∈ R_X9_good, r ∈ R_X9_hall from by decide)).call (fr_X9_within x1 0 (gI q1.2 130 2) _ (z := q3) e4) ie4 (show ∀ r ∈ R_X9_within, r ∈ R_X9_hall from by decide)).wI (lo := 130) (hi := 131) (c9 := 3) (show _ ∈ L_X9_hall from by simp [L_X9_hall]) (by decide) (by decide) (Or.inr rfl)).wI (lo := 130) (hi := 131) (c9 := 10) (show _ ∈ L_X9_hall from by simp [L_X9_hall]) (by decide) (by decide) (Or.inr rfl)).wI (lo := 130) (hi := 131) (c9 := 14) (show _ ∈ L_X9_hall from by simp [L_X9_hall]) (by decide) (by decide) (Or.inr rfl))).tr (fr_X9_hall_39 fu x1 0 _ hz)
def L_X9_fault : List (Nat × Nat × Nat) := [(130, 131, 1)]
def R_X9_fault : List Nat := []
theorem fr_X9_fault  (w : GW) {z : Int32 × GW} : f_X9_fault w = some z → Sm L_X9_fault R_X9_fault w z.2 := by
  intro  hz
  rw [f_X9_fault] at hz
  cases hz
  exact (Sm.rf.wI (lo := 130) (hi := 131) (c9 := 1) (show _ ∈ L_X9_fault from by simp [L_X9_fault]) (by decide) (by decide) (Or.inr rfl))
def L_X9_where : List (Nat × Nat × Nat) := [(130, 131, 1)]
def R_X9_where : List Nat := []
theorem fr_X9_where  (w : GW) {z : Int32 × GW} : f_X9_where w = some z → Sm L_X9_where R_X9_where w z.2 := by
  intro  hz
  rw [f_X9_where] at hz
  rcases bri hz with hz | hz
  · cases hz
    exact (Sm.rf.wI (lo := 130) (hi := 131) (c9 := 1) (show _ ∈ L_X9_where from by simp [L_X9_where]) (by decide) (by decide) (Or.inr rfl))
  · cases hz
    exact (Sm.rf.wI (lo := 130) (hi := 131) (c9 := 1) (show _ ∈ L_X9_where from by simp [L_X9_where]) (by decide) (by decide) (Or.inr rfl))
def L_X9_isPorter : List (Nat × Nat × Nat) := []
def R_X9_isPorter : List Nat := []
theorem fr_X9_isPorter (x1 : Int32) (w : GW) {z : Int32 × GW} : f_X9_isPorter x1 w = some z → Sm L_X9_isPorter R_X9_isPorter w z.2 := by
  intro  hz
  rw [f_X9_isPorter] at hz
  rcases bri hz with hz | hz
  · cases hz
    exact Sm.rf
  · obtain ⟨h1, hz⟩ := ck hz
    obtain ⟨q2, e3, hz⟩ := bd hz
    have ie3 : Sub L_X9_within L_X9_isPorter := by
      unfold L_X9_within
      exact Sub.nil
    rcases bri hz with hz | hz
    · cases hz
      exact (Sm.rf.call (fr_X9_within x1 0 ((gI w 133 (ix 17)) - 1) _ (z := q2)  e3) ie3 (show ∀ r ∈ R_X9_within, r ∈ R_X9_isPorter from by decide))
    · cases hz
      exact (Sm.rf.call (fr_X9_within x1 0 ((gI w 133 (ix 17)) - 1) _ (z := q2)  e3) ie3 (show ∀ r ∈ R_X9_within, r ∈ R_X9_isPorter from by decide))
def L_X9_isBox : List (Nat × Nat × Nat) := []
def R_X9_isBox : List Nat := []
theorem fr_X9_isBox (x1 : Int32) (w : GW) {z : Int32 × GW} : f_X9_isBox x1 w = some z → Sm L_X9_isBox R_X9_isBox w z.2 := by
  intro  hz
  rw [f_X9_isBox] at hz
  rcases bri hz with hz | hz
  · cases hz
    exact Sm.rf
  · obtain ⟨h1, hz⟩ := ck hz
    obtain ⟨q2, e3, hz⟩ := bd hz
    have ie3 : Sub L_X9_within L_X9_isBox := by
      unfold L_X9_within
      exact Sub.nil
    rcases bri hz with hz | hz
    · cases hz
      exact (Sm.rf.call (fr_X9_within x1 0 ((gI w 133 (ix 0)) - 1) _ (z := q2)  e3) ie3 (show ∀ r ∈ R_X9_within, r ∈ R_X9_isBox from by decide))
    · cases hz
      exact (Sm.rf.call (fr_X9_within x1 0 ((gI w 133 (ix 0)) - 1) _ (z := q2)  e3) ie3 (show ∀ r ∈ R_X9_within, r ∈ R_X9_isBox from by decide))
def L_X9_allWeights : List (Nat × Nat × Nat) := []
def R_X9_allWeights : List Nat := []
theorem fr_X9_allWeights_4 {z : Int32 × GW} : ∀ (n9 : Nat), (∀ (x1 : Int32) (x2 : Int32) (w : GW), f_X9_allWeights_4 n9 x1 x2 w = some z → Sm L_X9_allWeights R_X9_allWeights w z.2) := by
  intro n9
  induction n9 with
  | zero =>
    intro x1 x2 w hz
    rw [f_X9_allWeights_4] at hz
    cases hz
  | succ n9 ih =>
    intro x1 x2 w hz
    rw [f_X9_allWeights_4] at hz
    obtain ⟨h1, hz⟩ := ck hz
    rcases bri hz with hz | hz
    · cases hz
      exact Sm.rf
    · obtain ⟨h2, hz⟩ := ck hz
      exact (Sm.rf).tr (ih (x1 + (gI w 133 (ix (7 + x2)))) (x2 + 1) _  hz)
theorem fr_X9_allWeights  (w : GW) {z : Int32 × GW} : f_X9_allWeights w = some z → Sm L_X9_allWeights R_X9_allWeights w z.2 := by
  intro  hz
  rw [f_X9_allWeights] at hz
  exact (Sm.rf).tr (fr_X9_allWeights_4 fu 0 0 _ hz)
def L_X9_layApart : List (Nat × Nat × Nat) := [(130, 131, 23), (137, 138, 0)]
def R_X9_layApart : List Nat := []
theorem fr_X9_layApart_7 {z : Unit × GW} : ∀ (n9 : Nat), (∀ (x1 : Int32) (x2 : Int32) (x3 : Int32) (w : GW), f_X9_layApart_7 n9 x1 x2 x3 w = some z → Sm L_X9_layApart R_X9_layApart w z.2) := by
  intro n9
  induction n9 with
  | zero =>
    intro x1 x2 x3 w hz
    rw [f_X9_layApart_7] at hz
    cases hz
  | succ n9 ih =>
    intro x1 x2 x3 w hz
    rw [f_X9_layApart_7] at hz
    rcases bri hz with hz | hz
    · cases hz
      exact (Sm.rf.wI (lo := 130) (hi := 131) (c9 := 23) (show _ ∈ L_X9_layApart from by simp [L_X9_layApart]) (by decide) (by decide) (Or.inr rfl))
    · obtain ⟨h1, hz⟩ := ck hz
      exact ((Sm.rf.wI (lo := 137) (hi := 138) (c9 := 0) (show _ ∈ L_X9_layApart from by simp [L_X9_layApart]) (by decide) (by decide) (Or.inl rfl))).tr (ih x1 (x2 / 9) (x3 + 1) _  hz)
theorem fr_X9_layApart (x1 : Int32) (w : GW) {z : Unit × GW} : f_X9_layApart x1 w = some z → Sm L_X9_layApart R_X9_layApart w z.2 := by
  intro  hz
  rw [f_X9_layApart] at hz
  exact (Sm.rf).tr (fr_X9_layApart_7 fu x1 (irm x1 59049) 0 _ hz)
def L_X9_together : List (Nat × Nat × Nat) := []
def R_X9_together : List Nat := []
theorem fr_X9_together_4 {z : Int32 × GW} : ∀ (n9 : Nat), (∀ (x1 : Int32) (x2 : Int32) (w : GW), f_X9_together_4 n9 x1 x2 w = some z → Sm L_X9_together R_X9_together w z.2) := by
  intro n9
  induction n9 with
  | zero =>
    intro x1 x2 w hz
    rw [f_X9_together_4] at hz
    cases hz
  | succ n9 ih =>
    intro x1 x2 w hz
    rw [f_X9_together_4] at hz
    rcases bri hz with hz | hz
    · cases hz
      exact Sm.rf
    · obtain ⟨h1, hz⟩ := ck hz
      exact (Sm.rf).tr (ih ((9 * x1) + (gI w 137 (ix x2))) (x2 + (-1)) _  hz)
theorem fr_X9_together  (w : GW) {z : Int32 × GW} : f_X9_together w = some z → Sm L_X9_together R_X9_together w z.2 := by
  intro  hz
  rw [f_X9_together] at hz
  exact (Sm.rf).tr (fr_X9_together_4 fu 0 4 _ hz)
def L_X9_goesTo : List (Nat × Nat × Nat) := [(137, 138, 0)]
def R_X9_goesTo : List Nat := []
theorem fr_X9_goesTo_4 {z : Int32 × GW} : ∀ (n9 : Nat), (∀ (x2 : Int32) (x3 : Int32) (w : GW), f_X9_goesTo_4 n9 x2 x3 w = some z → Sm L_X9_goesTo R_X9_goesTo w z.2) := by
  intro n9
  induction n9 with
  | zero =>
    intro x2 x3 w hz
    rw [f_X9_goesTo_4] at hz
    cases hz
  | succ n9 ih =>
    intro x2 x3 w hz
    rw [f_X9_goesTo_4] at hz
    obtain ⟨h1, hz⟩ := ck hz
    rcases bri hz with hz | hz
    · cases hz
      exact Sm.rf
    · obtain ⟨h2, hz⟩ := ck hz
      obtain ⟨h3, hz⟩ := ck hz
      rcases bri hz with hz | hz
      · obtain ⟨h4, hz⟩ := ck hz
        obtain ⟨-, hz⟩ := ck hz
        exact (Sm.rf).tr (ih (irm (x2 + 1) (gI w 133 (ix 0))) (x3 + 1) _  hz)
      · obtain ⟨h5, hz⟩ := ck hz
        obtain ⟨h6, hz⟩ := ck hz
        cases hz
        exact (Sm.rf.wI (lo := 137) (hi := 138) (c9 := 0) (show _ ∈ L_X9_goesTo from by simp [L_X9_goesTo]) (by decide) (by decide) (Or.inl rfl))
theorem fr_X9_goesTo (x1 : Int32) (w : GW) {z : Int32 × GW} : f_X9_goesTo x1 w = some z → Sm L_X9_goesTo R_X9_goesTo w z.2 := by
  intro  hz
  rw [f_X9_goesTo] at hz
  exact (Sm.rf).tr (fr_X9_goesTo_4 fu x1 0 _ hz)
def L_X9_moves : List (Nat × Nat × Nat) := [(137, 138, 0)]
def R_X9_moves : List Nat := []
theorem fr_X9_moves_86 {z : Unit × GW} {k_30 : Int32 → Int32 → Int32 → GW → Option (Unit × GW)} (Hk_30 : (∀ (x2 : Int32) (x3 : Int32) (x4 : Int32) (w : GW), k_30 x2 x3 x4 w = some z → Sm L_X9_moves R_X9_moves w z.2)) : (∀ (x2 : Int32) (x4 : Int32) (t0 : Int32) (w : GW), f_X9_moves_86 k_30 x2 x4 t0 w = some z → Sm L_X9_moves R_X9_moves w z.2) := by
  intro x2 x4 t0 w hz
  rw [f_X9_moves_86] at hz
  exact (Sm.rf).tr (Hk_30 x2 t0 (x4 + 1) _  hz)
theorem fr_X9_moves_63 {z : Unit × GW} {k_30 : Int32 → Int32 → Int32 → GW → Option (Unit × GW)} (Hk_30 : (∀ (x2 : Int32) (x3 : Int32) (x4 : Int32) (w : GW), k_30 x2 x3 x4 w = some z → Sm L_X9_moves R_X9_moves w z.2)) : (∀ (x3 : Int32) (x4 : Int32) (t0 : Int32) (w : GW), f_X9_moves_63 k_30 x3 x4 t0 w = some z → Sm L_X9_moves R_X9_moves w z.2) := by
  intro x3 x4 t0 w hz
  rw [f_X9_moves_63] at hz
  obtain ⟨h14, hz⟩ := ck hz
  obtain ⟨h15, hz⟩ := ck hz
  rcases bri hz with hz | hz
  · exact (Sm.rf).tr (fr_X9_moves_86 Hk_30 t0 x4 x3 _ hz)
  · exact (Sm.rf).tr (fr_X9_moves_86 Hk_30 t0 x4 x4 _ hz)
theorem fr_X9_moves_30 {z : Unit × GW} : ∀ (n9 : Nat), (∀ (x2 : Int32) (x3 : Int32) (x4 : Int32) (w : GW), f_X9_moves_30 n9 x2 x3 x4 w = some z → Sm L_X9_moves R_X9_moves w z.2) := by
  intro n9
  induction n9 with
  | zero =>
    intro x2 x3 x4 w hz
    rw [f_X9_moves_30] at hz
    cases hz
  | succ n9 ih =>
    intro x2 x3 x4 w hz
    rw [f_X9_moves_30] at hz
    obtain ⟨h3, hz⟩ := ck hz
    rcases bri hz with hz | hz
    · obtain ⟨h4, hz⟩ := ck hz
      obtain ⟨h5, hz⟩ := ck hz
      rcases bri hz with hz | hz
      · cases hz
        exact Sm.rf
      · obtain ⟨h6, hz⟩ := ck hz
        obtain ⟨h7, hz⟩ := ck hz
        rcases bri hz with hz | hz
        · obtain ⟨h8, hz⟩ := ck hz
          obtain ⟨h9, hz⟩ := ck hz
          obtain ⟨h10, hz⟩ := ck hz
          obtain ⟨h11, hz⟩ := ck hz
          cases hz
          exact ((Sm.rf.wI (lo := 137) (hi := 138) (c9 := 0) (show _ ∈ L_X9_moves from by simp [L_X9_moves]) (by decide) (by decide) (Or.inl rfl)).wI (lo := 137) (hi := 138) (c9 := 0) (show _ ∈ L_X9_moves from by simp [L_X9_moves]) (by decide) (by decide) (Or.inl rfl))
        · cases hz
          exact Sm.rf
    · obtain ⟨h12, hz⟩ := ck hz
      obtain ⟨h13, hz⟩ := ck hz
      rcases bri hz with hz | hz
      · exact (Sm.rf).tr (fr_X9_moves_63 ih x3 x4 x2 _ hz)
      · exact (Sm.rf).tr (fr_X9_moves_63 ih x3 x4 x4 _ hz)
theorem fr_X9_moves (x1 : Int32) (w : GW) {z : Unit × GW} : f_X9_moves x1 w = some z → Sm L_X9_moves R_X9_moves w z.2 := by
  intro  hz
  rw [f_X9_moves] at hz
  obtain ⟨h1, hz⟩ := ck hz
  rcases bri hz with hz | hz
  · cases hz
    exact Sm.rf
  · obtain ⟨h2, hz⟩ := ck hz
    obtain ⟨-, hz⟩ := ck hz
    rcases bri hz with hz | hz
    · exact (Sm.rf).tr (fr_X9_moves_30 fu 0 0 1 _ hz)
    · cases hz
      exact Sm.rf
def L_X9_isDoor : List (Nat × Nat × Nat) := []
def R_X9_isDoor : List Nat := []
theorem fr_X9_isDoor (x1 : Int32) (w : GW) {z : Int32 × GW} : f_X9_isDoor x1 w = some z → Sm L_X9_isDoor R_X9_isDoor w z.2 := by
  intro  hz
  rw [f_X9_isDoor] at hz
  obtain ⟨h1, hz⟩ := ck hz
  rcases bri hz with hz | hz
  · cases hz
    exact Sm.rf
  · obtain ⟨h2, hz⟩ := ck hz
    obtain ⟨-, hz⟩ := ck hz
    rcases bri hz with hz | hz
    · cases hz
      exact Sm.rf
    · cases hz
      exact Sm.rf
def L_X9_emptiest : List (Nat × Nat × Nat) := []
def R_X9_emptiest : List Nat := []
theorem fr_X9_emptiest_44 {z : Int32 × GW} {k_4 : Int32 → Int32 → Int32 → GW → Option (Int32 × GW)} (Hk_4 : (∀ (x1 : Int32) (x2 : Int32) (x3 : Int32) (w : GW), k_4 x1 x2 x3 w = some z → Sm L_X9_emptiest R_X9_emptiest w z.2)) : (∀ (x1 : Int32) (x2 : Int32) (x3 : Int32) (w : GW), f_X9_emptiest_44 k_4 x1 x2 x3 w = some z → Sm L_X9_emptiest R_X9_emptiest w z.2) := by
  intro x1 x2 x3 w hz
  rw [f_X9_emptiest_44] at hz
  exact (Sm.rf).tr (Hk_4 x1 x2 (x3 + 1) _  hz)
theorem fr_X9_emptiest_42 {z : Int32 × GW} {k_4 : Int32 → Int32 → Int32 → GW → Option (Int32 × GW)} (Hk_4 : (∀ (x1 : Int32) (x2 : Int32) (x3 : Int32) (w : GW), k_4 x1 x2 x3 w = some z → Sm L_X9_emptiest R_X9_emptiest w z.2)) : (∀ (x1 : Int32) (x3 : Int32) (w : GW), f_X9_emptiest_42 k_4 x1 x3 w = some z → Sm L_X9_emptiest R_X9_emptiest w z.2) := by
  intro x1 x3 w hz
  rw [f_X9_emptiest_42] at hz
  exact (Sm.rf).tr (fr_X9_emptiest_44 Hk_4 x1 x3 x3 _ hz)
theorem fr_X9_emptiest_4 {z : Int32 × GW} : ∀ (n9 : Nat), (∀ (x1 : Int32) (x2 : Int32) (x3 : Int32) (w : GW), f_X9_emptiest_4 n9 x1 x2 x3 w = some z → Sm L_X9_emptiest R_X9_emptiest w z.2) := by
  intro n9
  induction n9 with
  | zero =>
    intro x1 x2 x3 w hz
    rw [f_X9_emptiest_4] at hz
    cases hz
  | succ n9 ih =>
    intro x1 x2 x3 w hz
    rw [f_X9_emptiest_4] at hz
    obtain ⟨h1, hz⟩ := ck hz
    rcases bri hz with hz | hz
    · cases hz
      exact Sm.rf
    · rcases bri hz with hz | hz
      · rcases bri hz with hz | hz
        · exact (Sm.rf).tr (fr_X9_emptiest_42 ih x1 x3 _ hz)
        · obtain ⟨h2, hz⟩ := ck hz
          obtain ⟨h3, hz⟩ := ck hz
          rcases bri hz with hz | hz
          · exact (Sm.rf).tr (fr_X9_emptiest_44 ih x1 x2 x3 _ hz)
          · exact (Sm.rf).tr (fr_X9_emptiest_42 ih x1 x3 _ hz)
      · exact (Sm.rf).tr (fr_X9_emptiest_44 ih x1 x2 x3 _ hz)
theorem fr_X9_emptiest (x1 : Int32) (w : GW) {z : Int32 × GW} : f_X9_emptiest x1 w = some z → Sm L_X9_emptiest R_X9_emptiest w z.2 := by
  intro  hz
  rw [f_X9_emptiest] at hz
  exact (Sm.rf).tr (fr_X9_emptiest_4 fu x1 (-1) 0 _ hz)
def L_X9_seenBy : List (Nat × Nat × Nat) := []
def R_X9_seenBy : List Nat := []
theorem fr_X9_seenBy_4 {z : Int32 × GW} : ∀ (n9 : Nat), (∀ (x1 : Int32) (x2 : Int32) (x3 : Int32) (w : GW), f_X9_seenBy_4 n9 x1 x2 x3 w = some z → Sm L_X9_seenBy R_X9_seenBy w z.2) := by
  intro n9
  induction n9 with
  | zero =>
    intro x1 x2 x3 w hz
    rw [f_X9_seenBy_4] at hz
    cases hz
  | succ n9 ih =>
    intro x1 x2 x3 w hz
    rw [f_X9_seenBy_4] at hz
    rcases bri hz with hz | hz
    · cases hz
      exact Sm.rf
    · obtain ⟨h1, hz⟩ := ck hz
      exact (Sm.rf).tr (ih x1 (x2 ||| ((1 : Int32) <<< ((gI w 138 (ix x3)) &&& 31))) (x3 + 1) _  hz)
theorem fr_X9_seenBy (x1 : Int32) (w : GW) {z : Int32 × GW} : f_X9_seenBy x1 w = some z → Sm L_X9_seenBy R_X9_seenBy w z.2 := by
  intro  hz
  rw [f_X9_seenBy] at hz
  exact (Sm.rf).tr (fr_X9_seenBy_4 fu x1 0 0 _ hz)
def L_X9_taken : List (Nat × Nat × Nat) := []
def R_X9_taken : List Nat := []
theorem fr_X9_taken_102 {z : Int32 × GW} {k_60 : Int32 → Int32 → Int32 → Int32 → GW → Option (Int32 × GW)} (Hk_60 : (∀ (x3 : Int32) (x6 : Int32) (x7 : Int32) (x8 : Int32) (w : GW), k_60 x3 x6 x7 x8 w = some z → Sm L_X9_taken R_X9_taken w z.2)) : (∀ (x3 : Int32) (x6 : Int32) (x7 : Int32) (x8 : Int32) (w : GW), f_X9_taken_102 k_60 x3 x6 x7 x8 w = some z → Sm L_X9_taken R_X9_taken w z.2) := by
  intro x3 x6 x7 x8 w hz
  rw [f_X9_taken_102] at hz
  exact (Sm.rf).tr (Hk_60 x3 x6 x7 (x8 + 1) _  hz)
theorem fr_X9_taken_60 {z : Int32 × GW} : ∀ (n9 : Nat), (∀ (x3 : Int32) (x6 : Int32) (x7 : Int32) (x8 : Int32) (w : GW), f_X9_taken_60 n9 x3 x6 x7 x8 w = some z → Sm L_X9_taken R_X9_taken w z.2) := by
  intro n9
  induction n9 with
  | zero =>
    intro x3 x6 x7 x8 w hz
    rw [f_X9_taken_60] at hz
    cases hz
  | succ n9 ih =>
    intro x3 x6 x7 x8 w hz
    rw [f_X9_taken_60] at hz
    rcases bri hz with hz | hz
    · cases hz
      exact Sm.rf
    · obtain ⟨h6, hz⟩ := ck hz
      obtain ⟨h7, hz⟩ := ck hz
      rcases bri hz with hz | hz
      · rcases bri hz with hz | hz
        · obtain ⟨h8, hz⟩ := ck hz
          cases hz
          exact Sm.rf
        · exact (Sm.rf).tr (fr_X9_taken_102 ih x3 (x6 + (-1)) x7 x8 _ hz)
      · exact (Sm.rf).tr (fr_X9_taken_102 ih x3 x6 x7 x8 _ hz)
theorem fr_X9_taken_120 {z : Int32 × GW} : ∀ (n9 : Nat), (∀ (x2 : Int32) (x3 : Int32) (x8 : Int32) (w : GW), f_X9_taken_120 n9 x2 x3 x8 w = some z → Sm L_X9_taken R_X9_taken w z.2) := by
  intro n9
  induction n9 with
  | zero =>
    intro x2 x3 x8 w hz
    rw [f_X9_taken_120] at hz
    cases hz
  | succ n9 ih =>
    intro x2 x3 x8 w hz
    rw [f_X9_taken_120] at hz
    rcases bri hz with hz | hz
    · obtain ⟨h11, hz⟩ := ck hz
      cases hz
      exact Sm.rf
    · obtain ⟨h12, hz⟩ := ck hz
      obtain ⟨h13, hz⟩ := ck hz
      rcases bri hz with hz | hz
      · exact (Sm.rf).tr (ih x2 x3 (x8 + 1) _  hz)
      · obtain ⟨h14, hz⟩ := ck hz
        cases hz
        exact Sm.rf
theorem fr_X9_taken_172 {z : Int32 × GW} : ∀ (n9 : Nat), (∀ (x3 : Int32) (x8 : Int32) (x9 : Int32) (w : GW), f_X9_taken_172 n9 x3 x8 x9 w = some z → Sm L_X9_taken R_X9_taken w z.2) := by
  intro n9
  induction n9 with
  | zero =>
    intro x3 x8 x9 w hz
    rw [f_X9_taken_172] at hz
    cases hz
  | succ n9 ih =>
    intro x3 x8 x9 w hz
    rw [f_X9_taken_172] at hz
    rcases bri hz with hz | hz
    · obtain ⟨q15, e16, hz⟩ := bd hz
      have ie16 : Sub L_X9_emptiest L_X9_taken := by
        unfold L_X9_emptiest
        exact Sub.nil
      cases hz
      exact (Sm.rf.call (fr_X9_emptiest x8 _ (z := q15)  e16) ie16 (show ∀ r ∈ R_X9_emptiest, r ∈ R_X9_taken from by decide))
    · obtain ⟨h17, hz⟩ := ck hz
      obtain ⟨h18, hz⟩ := ck hz
      obtain ⟨-, hz⟩ := ck hz
      exact (Sm.rf).tr (ih x3 (x8 ||| ((1 : Int32) <<< ((irm ((gI w 138 (ix x9)) + 1) (gI w 133 (ix 0))) &&& 31))) (x9 + 1) _  hz)
theorem fr_X9_taken_236 {z : Int32 × GW} : (∀ (t0 : Int32) (w : GW), f_X9_taken_236 t0 w = some z → Sm L_X9_taken R_X9_taken w z.2) := by
  intro t0 w hz
  rw [f_X9_taken_236] at hz
  obtain ⟨q19, e20, hz⟩ := bd hz
  have ie20 : Sub L_X9_emptiest L_X9_taken := by
    unfold L_X9_emptiest
    exact Sub.nil
  cases hz
  exact (Sm.rf.call (fr_X9_emptiest t0 _ (z := q19)  e20) ie20 (show ∀ r ∈ R_X9_emptiest, r ∈ R_X9_taken from by decide))
theorem fr_X9_taken (x1 : Int32) (x2 : Int32) (x3 : Int32) (x4 : Int32) (w : GW) {z : Int32 × GW} : f_X9_taken x1 x2 x3 x4 w = some z → Sm L_X9_taken R_X9_taken w z.2 := by
  intro  hz
  rw [f_X9_taken] at hz
  obtain ⟨q1, e2, hz⟩ := bd hz
  have ie2 : Sub L_X9_seenBy L_X9_taken := by
    unfold L_X9_seenBy
    exact Sub.nil
  rcases bri hz with hz | hz
  · obtain ⟨q3, e4, hz⟩ := bd hz
    have ie4 : Sub L_X9_emptiest L_X9_taken := by
      unfold L_X9_emptiest
      exact Sub.nil
    obtain ⟨h5, hz⟩ := ck hz
    exact (((Sm.rf.call (fr_X9_seenBy x3 _ (z := q1) e2) ie2 (show ∀ r ∈ R_X9_seenBy, r ∈ R_X9_taken from by decide)).call (fr_X9_emptiest q1.1 _ (z := q3) e4) ie4 (show ∀ r ∈ R_X9_emptiest, r ∈ R_X9_taken from by decide))).tr (fr_X9_taken_60 fu x3 x4 (gI q3.2 137 (ix q3.1)) 0 _ hz)
  rcases bri hz with hz | hz
  · obtain ⟨q9, e10, hz⟩ := bd hz
    have ie10 : Sub L_X9_emptiest L_X9_taken := by
      unfold L_X9_emptiest
      exact Sub.nil
    cases hz
    exact ((Sm.rf.call (fr_X9_seenBy x3 _ (z := q1)  e2) ie2 (show ∀ r ∈ R_X9_seenBy, r ∈ R_X9_taken from by decide)).call (fr_X9_emptiest q1.1 _ (z := q9)  e10) ie10 (show ∀ r ∈ R_X9_emptiest, r ∈ R_X9_taken from by decide))
  rcases bri hz with hz | hz
  · exact ((Sm.rf.call (fr_X9_seenBy x3 _ (z := q1) e2) ie2 (show ∀ r ∈ R_X9_seenBy, r ∈ R_X9_taken from by decide))).tr (fr_X9_taken_120 fu x2 x3 0 _ hz)
  rcases bri hz with hz | hz
  · exact ((Sm.rf.call (fr_X9_seenBy x3 _ (z := q1) e2) ie2 (show ∀ r ∈ R_X9_seenBy, r ∈ R_X9_taken from by decide))).tr (fr_X9_taken_172 fu x3 q1.1 0 _ hz)
  rcases bri hz with hz | hz
  · exact ((Sm.rf.call (fr_X9_seenBy x3 _ (z := q1) e2) ie2 (show ∀ r ∈ R_X9_seenBy, r ∈ R_X9_taken from by decide))).tr (fr_X9_taken_236 (q1.1 ||| ((1 : Int32) <<< ((gI q1.2 130 22) &&& 31))) _ hz)
  · exact ((Sm.rf.call (fr_X9_seenBy x3 _ (z := q1) e2) ie2 (show ∀ r ∈ R_X9_seenBy, r ∈ R_X9_taken from by decide))).tr (fr_X9_taken_236 q1.1 _ hz)
def L_X9_ties : List (Nat × Nat × Nat) := []
def R_X9_ties : List Nat := []
theorem fr_X9_ties_48 {z : Int32 × GW} {k_20 : Int32 → Int32 → Int32 → Int32 → GW → Option (Int32 × GW)} (Hk_20 : (∀ (x1 : Int32) (x2 : Int32) (x3 : Int32) (x4 : Int32) (w : GW), k_20 x1 x2 x3 x4 w = some z → Sm L_X9_ties R_X9_ties w z.2)) : (∀ (x1 : Int32) (x2 : Int32) (x4 : Int32) (t0 : Int32) (t1 : Int32) (w : GW), f_X9_ties_48 k_20 x1 x2 x4 t0 t1 w = some z → Sm L_X9_ties R_X9_ties w z.2) := by
  intro x1 x2 x4 t0 t1 w hz
  rw [f_X9_ties_48] at hz
  exact (Sm.rf).tr (Hk_20 x1 x2 (t1 + t0) (x4 + 1) _  hz)
theorem fr_X9_ties_20 {z : Int32 × GW} : ∀ (n9 : Nat), (∀ (x1 : Int32) (x2 : Int32) (x3 : Int32) (x4 : Int32) (w : GW), f_X9_ties_20 n9 x1 x2 x3 x4 w = some z → Sm L_X9_ties R_X9_ties w z.2) := by
  intro n9
  induction n9 with
  | zero =>
    intro x1 x2 x3 x4 w hz
    rw [f_X9_ties_20] at hz
    cases hz
  | succ n9 ih =>
    intro x1 x2 x3 x4 w hz
    rw [f_X9_ties_20] at hz
    rcases bri hz with hz | hz
    · cases hz
      exact Sm.rf
    · obtain ⟨h6, hz⟩ := ck hz
      obtain ⟨h7, hz⟩ := ck hz
      rcases bri hz with hz | hz
      · exact (Sm.rf).tr (fr_X9_ties_48 ih x1 x2 x4 1 x3 _ hz)
      · exact (Sm.rf).tr (fr_X9_ties_48 ih x1 x2 x4 0 x3 _ hz)
theorem fr_X9_ties (x1 : Int32) (w : GW) {z : Int32 × GW} : f_X9_ties x1 w = some z → Sm L_X9_ties R_X9_ties w z.2 := by
  intro  hz
  rw [f_X9_ties] at hz
  obtain ⟨q1, e2, hz⟩ := bd hz
  have ie2 : Sub L_X9_seenBy L_X9_ties := by
    unfold L_X9_seenBy
    exact Sub.nil
  obtain ⟨q3, e4, hz⟩ := bd hz
  have ie4 : Sub L_X9_emptiest L_X9_ties := by
    unfold L_X9_emptiest
    exact Sub.nil
  obtain ⟨h5, hz⟩ := ck hz
  exact (((Sm.rf.call (fr_X9_seenBy x1 _ (z := q1) e2) ie2 (show ∀ r ∈ R_X9_seenBy, r ∈ R_X9_ties from by decide)).call (fr_X9_emptiest q1.1 _ (z := q3) e4) ie4 (show ∀ r ∈ R_X9_emptiest, r ∈ R_X9_ties from by decide))).tr (fr_X9_ties_20 fu x1 (gI q3.2 137 (ix q3.1)) 0 0 _ hz)
def L_X9_puts : List (Nat × Nat × Nat) := [(130, 131, 23), (137, 138, 0)]
def R_X9_puts : List Nat := []
theorem fr_X9_puts_22 {z : Int32 × GW} : (∀ (x1 : Int32) (x3 : Int32) (t0 : Int32) (t1 : Int32) (w : GW), f_X9_puts_22 x1 x3 t0 t1 w = some z → Sm L_X9_puts R_X9_puts w z.2) := by
  intro x1 x3 t0 t1 w hz
  rw [f_X9_puts_22] at hz
  obtain ⟨q3, e4, hz⟩ := bd hz
  have ie4 : Sub L_X9_goesTo L_X9_puts := by
    unfold L_X9_goesTo
    exact (Sub.cons (lo2 := 137) (hi2 := 138) (c2 := 0) (show _ ∈ L_X9_puts from by simp [L_X9_puts]) (by omega) (by omega) (Or.inl rfl) Sub.nil)
  rcases bri hz with hz | hz
  · obtain ⟨q5, e6, hz⟩ := bd hz
    have ie6 : Sub L_X9_emptiest L_X9_puts := by
      unfold L_X9_emptiest
      exact Sub.nil
    cases hz
    exact (((Sm.rf.call (fr_X9_goesTo x3 _ (z := q3)  e4) ie4 (show ∀ r ∈ R_X9_goesTo, r ∈ R_X9_puts from by decide)).call (fr_X9_emptiest (t1 ||| t0) _ (z := q5)  e6) ie6 (show ∀ r ∈ R_X9_emptiest, r ∈ R_X9_puts from by decide)).wI (lo := 130) (hi := 131) (c9 := 23) (show _ ∈ L_X9_puts from by simp [L_X9_puts]) (by decide) (by decide) (Or.inr rfl))
  · cases hz
    exact (Sm.rf.call (fr_X9_goesTo x3 _ (z := q3)  e4) ie4 (show ∀ r ∈ R_X9_goesTo, r ∈ R_X9_puts from by decide))
theorem fr_X9_puts (x1 : Int32) (x2 : Int32) (x3 : Int32) (w : GW) {z : Int32 × GW} : f_X9_puts x1 x2 x3 w = some z → Sm L_X9_puts R_X9_puts w z.2 := by
  intro  hz
  rw [f_X9_puts] at hz
  obtain ⟨q1, e2, hz⟩ := bd hz
  have ie2 : Sub L_X9_seenBy L_X9_puts := by
    unfold L_X9_seenBy
    exact Sub.nil
  rcases bri hz with hz | hz
  · exact ((Sm.rf.call (fr_X9_seenBy x2 _ (z := q1) e2) ie2 (show ∀ r ∈ R_X9_seenBy, r ∈ R_X9_puts from by decide))).tr (fr_X9_puts_22 x1 x3 ((1 : Int32) <<< ((gI q1.2 130 22) &&& 31)) q1.1 _ hz)
  · exact ((Sm.rf.call (fr_X9_seenBy x2 _ (z := q1) e2) ie2 (show ∀ r ∈ R_X9_seenBy, r ∈ R_X9_puts from by decide))).tr (fr_X9_puts_22 x1 x3 0 q1.1 _ hz)
def L_X9_layGlances : List (Nat × Nat × Nat) := [(138, 139, 0)]
def R_X9_layGlances : List Nat := []
theorem fr_X9_layGlances_10 {z : Int64 × GW} : ∀ (n9 : Nat), (∀ (x3 : Int64) (x5 : Int32) (x6 : Int32) (w : GW), f_X9_layGlances_10 n9 x3 x5 x6 w = some z → Sm L_X9_layGlances R_X9_layGlances w z.2) := by
  intro n9
  induction n9 with
  | zero =>
    intro x3 x5 x6 w hz
    rw [f_X9_layGlances_10] at hz
    cases hz
  | succ n9 ih =>
    intro x3 x5 x6 w hz
    rw [f_X9_layGlances_10] at hz
    rcases bri hz with hz | hz
    · cases hz
      exact Sm.rf
    · obtain ⟨h1, hz⟩ := ck hz
      obtain ⟨-, hz⟩ := ck hz
      obtain ⟨h2, hz⟩ := ck hz
      obtain ⟨h3, hz⟩ := ck hz
      obtain ⟨-, hz⟩ := ck hz
      obtain ⟨h4, hz⟩ := ck hz
      obtain ⟨h5, hz⟩ := ck hz
      exact ((Sm.rf.wI (lo := 138) (hi := 139) (c9 := 0) (show _ ∈ L_X9_layGlances from by simp [L_X9_layGlances]) (by decide) (by decide) (Or.inl rfl))).tr (ih (x3 * ((gI (sI w 138 (ix x6) (irm x5 (gI w 133 (ix 0)))) 133 (ix (7 + (gI (sI w 138 (ix x6) (irm x5 (gI w 133 (ix 0)))) 138 (ix x6))))).toInt64)) (x5 / (gI (sI w 138 (ix x6) (irm x5 (gI w 133 (ix 0)))) 133 (ix 0))) (x6 + (-1)) _  hz)
theorem fr_X9_layGlances (x1 : Int32) (x2 : Int32) (w : GW) {z : Int64 × GW} : f_X9_layGlances x1 x2 w = some z → Sm L_X9_layGlances R_X9_layGlances w z.2 := by
  intro  hz
  rw [f_X9_layGlances] at hz
  exact (Sm.rf).tr (fr_X9_layGlances_10 fu 1 x1 (x2 - 1) _ hz)
def L_X9_glancesOf : List (Nat × Nat × Nat) := []
def R_X9_glancesOf : List Nat := []
theorem fr_X9_glancesOf_4 {z : Int32 × GW} : ∀ (n9 : Nat), (∀ (x1 : Int32) (x2 : Int32) (x3 : Int32) (w : GW), f_X9_glancesOf_4 n9 x1 x2 x3 w = some z → Sm L_X9_glancesOf R_X9_glancesOf w z.2) := by
  intro n9
  induction n9 with
  | zero =>
    intro x1 x2 x3 w hz
    rw [f_X9_glancesOf_4] at hz
    cases hz
  | succ n9 ih =>
    intro x1 x2 x3 w hz
    rw [f_X9_glancesOf_4] at hz
    rcases bri hz with hz | hz
    · cases hz
      exact Sm.rf
    · obtain ⟨h1, hz⟩ := ck hz
      exact (Sm.rf).tr (ih x1 (x2 * (gI w 133 (ix 0))) (x3 + 1) _  hz)
theorem fr_X9_glancesOf (x1 : Int32) (w : GW) {z : Int32 × GW} : f_X9_glancesOf x1 w = some z → Sm L_X9_glancesOf R_X9_glancesOf w z.2 := by
  intro  hz
  rw [f_X9_glancesOf] at hz
  exact (Sm.rf).tr (fr_X9_glancesOf_4 fu x1 1 0 _ hz)
def L_X9_tiesOf : List (Nat × Nat × Nat) := []
def R_X9_tiesOf : List Nat := []
theorem fr_X9_tiesOf (x0 : Int32) (w : GW) {z : Int64 × GW} : f_X9_tiesOf x0 w = some z → Sm L_X9_tiesOf R_X9_tiesOf w z.2 := by
  intro  hz
  rw [f_X9_tiesOf] at hz
  rcases bri hz with hz | hz
  · cases hz
    exact Sm.rf
  · cases hz
    exact Sm.rf
def L_X9_waysOf : List (Nat × Nat × Nat) := []
def R_X9_waysOf : List Nat := []
theorem fr_X9_waysOf_5 {z : Int64 × GW} : ∀ (n9 : Nat), (∀ (x1 : Int32) (x2 : Int32) (x3 : Int64) (x5 : Int32) (w : GW), f_X9_waysOf_5 n9 x1 x2 x3 x5 w = some z → Sm L_X9_waysOf R_X9_waysOf w z.2) := by
  intro n9
  induction n9 with
  | zero =>
    intro x1 x2 x3 x5 w hz
    rw [f_X9_waysOf_5] at hz
    cases hz
  | succ n9 ih =>
    intro x1 x2 x3 x5 w hz
    rw [f_X9_waysOf_5] at hz
    rcases bri hz with hz | hz
    · rcases bri hz with hz | hz
      · obtain ⟨q1, e2, hz⟩ := bd hz
        have ie2 : Sub L_X9_tiesOf L_X9_waysOf := by
          unfold L_X9_tiesOf
          exact Sub.nil
        cases hz
        exact (Sm.rf.call (fr_X9_tiesOf x2 _ (z := q1)  e2) ie2 (show ∀ r ∈ R_X9_tiesOf, r ∈ R_X9_waysOf from by decide))
      · cases hz
        exact Sm.rf
    · obtain ⟨q3, e4, hz⟩ := bd hz
      have ie4 : Sub L_X9_allWeights L_X9_waysOf := by
        unfold L_X9_allWeights
        exact Sub.nil
      exact ((Sm.rf.call (fr_X9_allWeights  _ (z := q3)  e4) ie4 (show ∀ r ∈ R_X9_allWeights, r ∈ R_X9_waysOf from by decide))).tr (ih x1 x2 (x3 * (q3.1.toInt64)) (x5 + 1) _  hz)
theorem fr_X9_waysOf (x1 : Int32) (x2 : Int32) (w : GW) {z : Int64 × GW} : f_X9_waysOf x1 x2 w = some z → Sm L_X9_waysOf R_X9_waysOf w z.2 := by
  intro  hz
  rw [f_X9_waysOf] at hz
  exact (Sm.rf).tr (fr_X9_waysOf_5 fu x1 x2 1 0 _ hz)
def L_X9_clearSlots : List (Nat × Nat × Nat) := [(130, 131, 30), (141, 142, 0)]
def R_X9_clearSlots : List Nat := []
theorem fr_X9_clearSlots_2 {z : Unit × GW} : ∀ (n9 : Nat), (∀ (x1 : Int32) (w : GW), f_X9_clearSlots_2 n9 x1 w = some z → Sm L_X9_clearSlots R_X9_clearSlots w z.2) := by
  intro n9
  induction n9 with
  | zero =>
    intro x1 w hz
    rw [f_X9_clearSlots_2] at hz
    cases hz
  | succ n9 ih =>
    intro x1 w hz
    rw [f_X9_clearSlots_2] at hz
    rcases bri hz with hz | hz
    · cases hz
      exact (Sm.rf.wI (lo := 130) (hi := 131) (c9 := 30) (show _ ∈ L_X9_clearSlots from by simp [L_X9_clearSlots]) (by decide) (by decide) (Or.inr rfl))
    · obtain ⟨h1, hz⟩ := ck hz
      exact ((Sm.rf.wI (lo := 141) (hi := 142) (c9 := 0) (show _ ∈ L_X9_clearSlots from by simp [L_X9_clearSlots]) (by decide) (by decide) (Or.inl rfl))).tr (ih (x1 + 1) _  hz)
theorem fr_X9_clearSlots  (w : GW) {z : Unit × GW} : f_X9_clearSlots w = some z → Sm L_X9_clearSlots R_X9_clearSlots w z.2 := by
  intro  hz
  rw [f_X9_clearSlots] at hz
  exact (Sm.rf).tr (fr_X9_clearSlots_2 fu 0 _ hz)
def L_X9_comesTo : List (Nat × Nat × Nat) := [(130, 131, 30), (140, 141, 0), (141, 142, 0), (143, 144, 0)]
def R_X9_comesTo : List Nat := []
theorem fr_X9_comesTo_100 {z : Unit × GW} : (∀ (x2 : Int64) (x4 : Int32) (w : GW), f_X9_comesTo_100 x2 x4 w = some z → Sm L_X9_comesTo R_X9_comesTo w z.2) := by
  intro x2 x4 w hz
  rw [f_X9_comesTo_100] at hz
  obtain ⟨h3, hz⟩ := ck hz
  obtain ⟨h4, hz⟩ := ck hz
  obtain ⟨h5, hz⟩ := ck hz
  cases hz
  exact (Sm.rf.wL (lo := 143) (hi := 144) (c9 := 0) (show _ ∈ L_X9_comesTo from by simp [L_X9_comesTo]) (by decide) (by decide) (Or.inl rfl))
theorem fr_X9_comesTo_49 {z : Unit × GW} : (∀ (x1 : Int32) (x2 : Int64) (x4 : Int32) (w : GW), f_X9_comesTo_49 x1 x2 x4 w = some z → Sm L_X9_comesTo R_X9_comesTo w z.2) := by
  intro x1 x2 x4 w hz
  rw [f_X9_comesTo_49] at hz
  obtain ⟨h2, hz⟩ := ck hz
  rcases bri hz with hz | hz
  · exact (Sm.rf).tr (fr_X9_comesTo_100 x2 x4 _ hz)
  · obtain ⟨h6, hz⟩ := ck hz
    obtain ⟨h7, hz⟩ := ck hz
    obtain ⟨h8, hz⟩ := ck hz
    exact (((((Sm.rf.wI (lo := 141) (hi := 142) (c9 := 0) (show _ ∈ L_X9_comesTo from by simp [L_X9_comesTo]) (by decide) (by decide) (Or.inl rfl)).wI (lo := 140) (hi := 141) (c9 := 0) (show _ ∈ L_X9_comesTo from by simp [L_X9_comesTo]) (by decide) (by decide) (Or.inl rfl)).wL (lo := 143) (hi := 144) (c9 := 0) (show _ ∈ L_X9_comesTo from by simp [L_X9_comesTo]) (by decide) (by decide) (Or.inl rfl)).wI (lo := 130) (hi := 131) (c9 := 30) (show _ ∈ L_X9_comesTo from by simp [L_X9_comesTo]) (by decide) (by decide) (Or.inr rfl))).tr (fr_X9_comesTo_100 x2 x4 _ hz)
theorem fr_X9_comesTo_10 {z : Unit × GW} : ∀ (n9 : Nat), (∀ (x1 : Int32) (x2 : Int64) (x4 : Int32) (w : GW), f_X9_comesTo_10 n9 x1 x2 x4 w = some z → Sm L_X9_comesTo R_X9_comesTo w z.2) := by
  intro n9
  induction n9 with
  | zero =>
    intro x1 x2 x4 w hz
    rw [f_X9_comesTo_10] at hz
    cases hz
  | succ n9 ih =>
    intro x1 x2 x4 w hz
    rw [f_X9_comesTo_10] at hz
    obtain ⟨h1, hz⟩ := ck hz
    rcases bri hz with hz | hz
    · exact (Sm.rf).tr (fr_X9_comesTo_49 x1 x2 x4 _ hz)
    · obtain ⟨h9, hz⟩ := ck hz
      obtain ⟨h10, hz⟩ := ck hz
      rcases bri hz with hz | hz
      · exact (Sm.rf).tr (fr_X9_comesTo_49 x1 x2 x4 _ hz)
      · exact (Sm.rf).tr (ih x1 x2 (irm (x4 + 1) 16384) _  hz)
theorem fr_X9_comesTo (x1 : Int32) (x2 : Int64) (w : GW) {z : Unit × GW} : f_X9_comesTo x1 x2 w = some z → Sm L_X9_comesTo R_X9_comesTo w z.2 := by
  intro  hz
  rw [f_X9_comesTo] at hz
  exact (Sm.rf).tr (fr_X9_comesTo_10 fu x1 x2 (irm (x1 * 31) 16384) _ hz)
def L_X9_byDoor : List (Nat × Nat × Nat) := [(130, 131, 23), (130, 131, 30), (137, 138, 0), (140, 141, 0), (141, 142, 0), (143, 144, 0)]
def R_X9_byDoor : List Nat := []
theorem fr_X9_byDoor_30 {z : Unit × GW} : (∀ (x2 : Int64) (w : GW), f_X9_byDoor_30 x2 w = some z → Sm L_X9_byDoor R_X9_byDoor w z.2) := by
  intro x2 w hz
  rw [f_X9_byDoor_30] at hz
  obtain ⟨q6, e7, hz⟩ := bd hz
  have ie7 : Sub L_X9_together L_X9_byDoor := by
    unfold L_X9_together
    exact Sub.nil
  obtain ⟨q8, e9, hz⟩ := bd hz
  have ie9 : Sub L_X9_comesTo L_X9_byDoor := by
    unfold L_X9_comesTo
    exact (Sub.cons (lo2 := 130) (hi2 := 131) (c2 := 30) (show _ ∈ L_X9_byDoor from by simp [L_X9_byDoor]) (by omega) (by omega) (Or.inr rfl) (Sub.cons (lo2 := 140) (hi2 := 141) (c2 := 0) (show _ ∈ L_X9_byDoor from by simp [L_X9_byDoor]) (by omega) (by omega) (Or.inl rfl) (Sub.cons (lo2 := 141) (hi2 := 142) (c2 := 0) (show _ ∈ L_X9_byDoor from by simp [L_X9_byDoor]) (by omega) (by omega) (Or.inl rfl) (Sub.cons (lo2 := 143) (hi2 := 144) (c2 := 0) (show _ ∈ L_X9_byDoor from by simp [L_X9_byDoor]) (by omega) (by omega) (Or.inl rfl) Sub.nil))))
  cases hz
  exact ((Sm.rf.call (fr_X9_together  _ (z := q6)  e7) ie7 (show ∀ r ∈ R_X9_together, r ∈ R_X9_byDoor from by decide)).call (fr_X9_comesTo q6.1 x2 _ (z := q8)  e9) ie9 (show ∀ r ∈ R_X9_comesTo, r ∈ R_X9_byDoor from by decide))
theorem fr_X9_byDoor (x1 : Int32) (x2 : Int64) (x4 : Int32) (w : GW) {z : Unit × GW} : f_X9_byDoor x1 x2 x4 w = some z → Sm L_X9_byDoor R_X9_byDoor w z.2 := by
  intro  hz
  rw [f_X9_byDoor] at hz
  obtain ⟨q1, e2, hz⟩ := bd hz
  have ie2 : Sub L_X9_layApart L_X9_byDoor := by
    unfold L_X9_layApart
    exact (Sub.cons (lo2 := 130) (hi2 := 131) (c2 := 23) (show _ ∈ L_X9_byDoor from by simp [L_X9_byDoor]) (by omega) (by omega) (Or.inr rfl) (Sub.cons (lo2 := 137) (hi2 := 138) (c2 := 0) (show _ ∈ L_X9_byDoor from by simp [L_X9_byDoor]) (by omega) (by omega) (Or.inl rfl) Sub.nil))
  obtain ⟨h3, hz⟩ := ck hz
  obtain ⟨q4, e5, hz⟩ := bd hz
  have ie5 : Sub L_X9_goesTo L_X9_byDoor := by
    unfold L_X9_goesTo
    exact (Sub.cons (lo2 := 137) (hi2 := 138) (c2 := 0) (show _ ∈ L_X9_byDoor from by simp [L_X9_byDoor]) (by omega) (by omega) (Or.inl rfl) Sub.nil)
  rcases bri hz with hz | hz
  · exact (((Sm.rf.call (fr_X9_layApart x1 _ (z := q1) e2) ie2 (show ∀ r ∈ R_X9_layApart, r ∈ R_X9_byDoor from by decide)).call (fr_X9_goesTo (gI q1.2 133 (ix 36)) _ (z := q4) e5) ie5 (show ∀ r ∈ R_X9_goesTo, r ∈ R_X9_byDoor from by decide))).tr (fr_X9_byDoor_30 x2 _ hz)
  · obtain ⟨q10, e11, hz⟩ := bd hz
    have ie11 : Sub L_X9_moves L_X9_byDoor := by
      unfold L_X9_moves
      exact (Sub.cons (lo2 := 137) (hi2 := 138) (c2 := 0) (show _ ∈ L_X9_byDoor from by simp [L_X9_byDoor]) (by omega) (by omega) (Or.inl rfl) Sub.nil)
    exact ((((Sm.rf.call (fr_X9_layApart x1 _ (z := q1) e2) ie2 (show ∀ r ∈ R_X9_layApart, r ∈ R_X9_byDoor from by decide)).call (fr_X9_goesTo (gI q1.2 133 (ix 36)) _ (z := q4) e5) ie5 (show ∀ r ∈ R_X9_goesTo, r ∈ R_X9_byDoor from by decide)).call (fr_X9_moves x4 _ (z := q10) e11) ie11 (show ∀ r ∈ R_X9_moves, r ∈ R_X9_byDoor from by decide))).tr (fr_X9_byDoor_30 x2 _ hz)
def L_X9_byGlances : List (Nat × Nat × Nat) := [(130, 131, 23), (130, 131, 30), (137, 138, 0), (138, 139, 0), (140, 141, 0), (141, 142, 0), (143, 144, 0)]
def R_X9_byGlances : List Nat := []
theorem fr_X9_byGlances_120 {z : Unit × GW} {k_10 : Int32 → Int32 → Int32 → Int32 → Int64 → Int32 → Int32 → Int32 → GW → Option (Unit × GW)} (Hk_10 : (∀ (x1 : Int32) (x2 : Int32) (x3 : Int32) (x4 : Int32) (x5 : Int64) (x7 : Int32) (x8 : Int32) (x9 : Int32) (w : GW), k_10 x1 x2 x3 x4 x5 x7 x8 x9 w = some z → Sm L_X9_byGlances R_X9_byGlances w z.2)) {k_53 : Int32 → Int32 → Int32 → Int32 → Int64 → Int32 → Int32 → Int32 → Int64 → Int32 → Int32 → GW → Option (Unit × GW)} (Hk_53 : (∀ (x1 : Int32) (x2 : Int32) (x3 : Int32) (x4 : Int32) (x5 : Int64) (x7 : Int32) (x8 : Int32) (x9 : Int32) (x10 : Int64) (x12 : Int32) (x13 : Int32) (w : GW), k_53 x1 x2 x3 x4 x5 x7 x8 x9 x10 x12 x13 w = some z → Sm L_X9_byGlances R_X9_byGlances w z.2)) : (∀ (x1 : Int32) (x2 : Int32) (x3 : Int32) (x4 : Int32) (x5 : Int64) (x7 : Int32) (x8 : Int32) (x9 : Int32) (x10 : Int64) (x12 : Int32) (x13 : Int32) (t0 : Int64) (t1 : Int32) (w : GW), f_X9_byGlances_120 k_10 k_53 x1 x2 x3 x4 x5 x7 x8 x9 x10 x12 x13 t0 t1 w = some z → Sm L_X9_byGlances R_X9_byGlances w z.2) := by
  intro x1 x2 x3 x4 x5 x7 x8 x9 x10 x12 x13 t0 t1 w hz
  rw [f_X9_byGlances_120] at hz
  obtain ⟨q15, e16, hz⟩ := bd hz
  have ie16 : Sub L_X9_comesTo L_X9_byGlances := by
    unfold L_X9_comesTo
    exact (Sub.cons (lo2 := 130) (hi2 := 131) (c2 := 30) (show _ ∈ L_X9_byGlances from by simp [L_X9_byGlances]) (by omega) (by omega) (Or.inr rfl) (Sub.cons (lo2 := 140) (hi2 := 141) (c2 := 0) (show _ ∈ L_X9_byGlances from by simp [L_X9_byGlances]) (by omega) (by omega) (Or.inl rfl) (Sub.cons (lo2 := 141) (hi2 := 142) (c2 := 0) (show _ ∈ L_X9_byGlances from by simp [L_X9_byGlances]) (by omega) (by omega) (Or.inl rfl) (Sub.cons (lo2 := 143) (hi2 := 144) (c2 := 0) (show _ ∈ L_X9_byGlances from by simp [L_X9_byGlances]) (by omega) (by omega) (Or.inl rfl) Sub.nil))))
  exact ((Sm.rf.call (fr_X9_comesTo t1 t0 _ (z := q15)  e16) ie16 (show ∀ r ∈ R_X9_comesTo, r ∈ R_X9_byGlances from by decide))).tr (Hk_53 x1 x2 x3 x4 x5 x7 x8 x9 x10 x12 (x13 + 1) _  hz)
theorem fr_X9_byGlances_95 {z : Unit × GW} {k_10 : Int32 → Int32 → Int32 → Int32 → Int64 → Int32 → Int32 → Int32 → GW → Option (Unit × GW)} (Hk_10 : (∀ (x1 : Int32) (x2 : Int32) (x3 : Int32) (x4 : Int32) (x5 : Int64) (x7 : Int32) (x8 : Int32) (x9 : Int32) (w : GW), k_10 x1 x2 x3 x4 x5 x7 x8 x9 w = some z → Sm L_X9_byGlances R_X9_byGlances w z.2)) {k_53 : Int32 → Int32 → Int32 → Int32 → Int64 → Int32 → Int32 → Int32 → Int64 → Int32 → Int32 → GW → Option (Unit × GW)} (Hk_53 : (∀ (x1 : Int32) (x2 : Int32) (x3 : Int32) (x4 : Int32) (x5 : Int64) (x7 : Int32) (x8 : Int32) (x9 : Int32) (x10 : Int64) (x12 : Int32) (x13 : Int32) (w : GW), k_53 x1 x2 x3 x4 x5 x7 x8 x9 x10 x12 x13 w = some z → Sm L_X9_byGlances R_X9_byGlances w z.2)) : (∀ (x1 : Int32) (x2 : Int32) (x3 : Int32) (x4 : Int32) (x5 : Int64) (x7 : Int32) (x8 : Int32) (x9 : Int32) (x10 : Int64) (x12 : Int32) (x13 : Int32) (w : GW), f_X9_byGlances_95 k_10 k_53 x1 x2 x3 x4 x5 x7 x8 x9 x10 x12 x13 w = some z → Sm L_X9_byGlances R_X9_byGlances w z.2) := by
  intro x1 x2 x3 x4 x5 x7 x8 x9 x10 x12 x13 w hz
  rw [f_X9_byGlances_95] at hz
  obtain ⟨q13, e14, hz⟩ := bd hz
  have ie14 : Sub L_X9_together L_X9_byGlances := by
    unfold L_X9_together
    exact Sub.nil
  rcases bri hz with hz | hz
  · obtain ⟨q17, e18, hz⟩ := bd hz
    have ie18 : Sub L_X9_tiesOf L_X9_byGlances := by
      unfold L_X9_tiesOf
      exact Sub.nil
    obtain ⟨-, hz⟩ := ck hz
    exact (((Sm.rf.call (fr_X9_together _ (z := q13) e14) ie14 (show ∀ r ∈ R_X9_together, r ∈ R_X9_byGlances from by decide)).call (fr_X9_tiesOf x3 _ (z := q17) e18) ie18 (show ∀ r ∈ R_X9_tiesOf, r ∈ R_X9_byGlances from by decide))).tr (fr_X9_byGlances_120 Hk_10 Hk_53 x1 x2 x3 x4 x5 x7 x8 x9 x10 x12 x13 (x10 * (q17.1 / (x12.toInt64))) q13.1 _ hz)
  · exact ((Sm.rf.call (fr_X9_together _ (z := q13) e14) ie14 (show ∀ r ∈ R_X9_together, r ∈ R_X9_byGlances from by decide))).tr (fr_X9_byGlances_120 Hk_10 Hk_53 x1 x2 x3 x4 x5 x7 x8 x9 x10 x12 x13 x10 q13.1 _ hz)
theorem fr_X9_byGlances_53 {z : Unit × GW} {k_10 : Int32 → Int32 → Int32 → Int32 → Int64 → Int32 → Int32 → Int32 → GW → Option (Unit × GW)} (Hk_10 : (∀ (x1 : Int32) (x2 : Int32) (x3 : Int32) (x4 : Int32) (x5 : Int64) (x7 : Int32) (x8 : Int32) (x9 : Int32) (w : GW), k_10 x1 x2 x3 x4 x5 x7 x8 x9 w = some z → Sm L_X9_byGlances R_X9_byGlances w z.2)) : ∀ (n9 : Nat), (∀ (x1 : Int32) (x2 : Int32) (x3 : Int32) (x4 : Int32) (x5 : Int64) (x7 : Int32) (x8 : Int32) (x9 : Int32) (x10 : Int64) (x12 : Int32) (x13 : Int32) (w : GW), f_X9_byGlances_53 k_10 n9 x1 x2 x3 x4 x5 x7 x8 x9 x10 x12 x13 w = some z → Sm L_X9_byGlances R_X9_byGlances w z.2) := by
  intro n9
  induction n9 with
  | zero =>
    intro x1 x2 x3 x4 x5 x7 x8 x9 x10 x12 x13 w hz
    rw [f_X9_byGlances_53] at hz
    cases hz
  | succ n9 ih =>
    intro x1 x2 x3 x4 x5 x7 x8 x9 x10 x12 x13 w hz
    rw [f_X9_byGlances_53] at hz
    rcases bri hz with hz | hz
    · exact (Sm.rf).tr (Hk_10 x1 x2 x3 x4 x5 x7 x8 (x9 + 1) _  hz)
    · obtain ⟨q7, e8, hz⟩ := bd hz
      have ie8 : Sub L_X9_layApart L_X9_byGlances := by
        unfold L_X9_layApart
        exact (Sub.cons (lo2 := 130) (hi2 := 131) (c2 := 23) (show _ ∈ L_X9_byGlances from by simp [L_X9_byGlances]) (by omega) (by omega) (Or.inr rfl) (Sub.cons (lo2 := 137) (hi2 := 138) (c2 := 0) (show _ ∈ L_X9_byGlances from by simp [L_X9_byGlances]) (by omega) (by omega) (Or.inl rfl) Sub.nil))
      obtain ⟨q9, e10, hz⟩ := bd hz
      have ie10 : Sub L_X9_taken L_X9_byGlances := by
        unfold L_X9_taken
        exact Sub.nil
      obtain ⟨q11, e12, hz⟩ := bd hz
      have ie12 : Sub L_X9_puts L_X9_byGlances := by
        unfold L_X9_puts
        exact (Sub.cons (lo2 := 130) (hi2 := 131) (c2 := 23) (show _ ∈ L_X9_byGlances from by simp [L_X9_byGlances]) (by omega) (by omega) (Or.inr rfl) (Sub.cons (lo2 := 137) (hi2 := 138) (c2 := 0) (show _ ∈ L_X9_byGlances from by simp [L_X9_byGlances]) (by omega) (by omega) (Or.inl rfl) Sub.nil))
      rcases bri hz with hz | hz
      · exact ((((Sm.rf.call (fr_X9_layApart x4 _ (z := q7) e8) ie8 (show ∀ r ∈ R_X9_layApart, r ∈ R_X9_byGlances from by decide)).call (fr_X9_taken x1 x2 x3 x13 _ (z := q9) e10) ie10 (show ∀ r ∈ R_X9_taken, r ∈ R_X9_byGlances from by decide)).call (fr_X9_puts x1 x3 q9.1 _ (z := q11) e12) ie12 (show ∀ r ∈ R_X9_puts, r ∈ R_X9_byGlances from by decide))).tr (fr_X9_byGlances_95 Hk_10 ih x1 x2 x3 x4 x5 x7 x8 x9 x10 x12 x13 _ hz)
      · obtain ⟨q19, e20, hz⟩ := bd hz
        have ie20 : Sub L_X9_moves L_X9_byGlances := by
          unfold L_X9_moves
          exact (Sub.cons (lo2 := 137) (hi2 := 138) (c2 := 0) (show _ ∈ L_X9_byGlances from by simp [L_X9_byGlances]) (by omega) (by omega) (Or.inl rfl) Sub.nil)
        exact (((((Sm.rf.call (fr_X9_layApart x4 _ (z := q7) e8) ie8 (show ∀ r ∈ R_X9_layApart, r ∈ R_X9_byGlances from by decide)).call (fr_X9_taken x1 x2 x3 x13 _ (z := q9) e10) ie10 (show ∀ r ∈ R_X9_taken, r ∈ R_X9_byGlances from by decide)).call (fr_X9_puts x1 x3 q9.1 _ (z := q11) e12) ie12 (show ∀ r ∈ R_X9_puts, r ∈ R_X9_byGlances from by decide)).call (fr_X9_moves x7 _ (z := q19) e20) ie20 (show ∀ r ∈ R_X9_moves, r ∈ R_X9_byGlances from by decide))).tr (fr_X9_byGlances_95 Hk_10 ih x1 x2 x3 x4 x5 x7 x8 x9 x10 x12 x13 _ hz)
theorem fr_X9_byGlances_48 {z : Unit × GW} {k_10 : Int32 → Int32 → Int32 → Int32 → Int64 → Int32 → Int32 → Int32 → GW → Option (Unit × GW)} (Hk_10 : (∀ (x1 : Int32) (x2 : Int32) (x3 : Int32) (x4 : Int32) (x5 : Int64) (x7 : Int32) (x8 : Int32) (x9 : Int32) (w : GW), k_10 x1 x2 x3 x4 x5 x7 x8 x9 w = some z → Sm L_X9_byGlances R_X9_byGlances w z.2)) : (∀ (x1 : Int32) (x2 : Int32) (x3 : Int32) (x4 : Int32) (x5 : Int64) (x7 : Int32) (x8 : Int32) (x9 : Int32) (x10 : Int64) (t0 : Int32) (w : GW), f_X9_byGlances_48 k_10 x1 x2 x3 x4 x5 x7 x8 x9 x10 t0 w = some z → Sm L_X9_byGlances R_X9_byGlances w z.2) := by
  intro x1 x2 x3 x4 x5 x7 x8 x9 x10 t0 w hz
  rw [f_X9_byGlances_48] at hz
  exact (Sm.rf).tr (fr_X9_byGlances_53 Hk_10 fu x1 x2 x3 x4 x5 x7 x8 x9 x10 t0 0 _ hz)
theorem fr_X9_byGlances_10 {z : Unit × GW} : ∀ (n9 : Nat), (∀ (x1 : Int32) (x2 : Int32) (x3 : Int32) (x4 : Int32) (x5 : Int64) (x7 : Int32) (x8 : Int32) (x9 : Int32) (w : GW), f_X9_byGlances_10 n9 x1 x2 x3 x4 x5 x7 x8 x9 w = some z → Sm L_X9_byGlances R_X9_byGlances w z.2) := by
  intro n9
  induction n9 with
  | zero =>
    intro x1 x2 x3 x4 x5 x7 x8 x9 w hz
    rw [f_X9_byGlances_10] at hz
    cases hz
  | succ n9 ih =>
    intro x1 x2 x3 x4 x5 x7 x8 x9 w hz
    rw [f_X9_byGlances_10] at hz
    rcases bri hz with hz | hz
    · cases hz
      exact Sm.rf
    · obtain ⟨q3, e4, hz⟩ := bd hz
      have ie4 : Sub L_X9_layApart L_X9_byGlances := by
        unfold L_X9_layApart
        exact (Sub.cons (lo2 := 130) (hi2 := 131) (c2 := 23) (show _ ∈ L_X9_byGlances from by simp [L_X9_byGlances]) (by omega) (by omega) (Or.inr rfl) (Sub.cons (lo2 := 137) (hi2 := 138) (c2 := 0) (show _ ∈ L_X9_byGlances from by simp [L_X9_byGlances]) (by omega) (by omega) (Or.inl rfl) Sub.nil))
      obtain ⟨q5, e6, hz⟩ := bd hz
      have ie6 : Sub L_X9_layGlances L_X9_byGlances := by
        unfold L_X9_layGlances
        exact (Sub.cons (lo2 := 138) (hi2 := 139) (c2 := 0) (show _ ∈ L_X9_byGlances from by simp [L_X9_byGlances]) (by omega) (by omega) (Or.inl rfl) Sub.nil)
      rcases bri hz with hz | hz
      · obtain ⟨q21, e22, hz⟩ := bd hz
        have ie22 : Sub L_X9_ties L_X9_byGlances := by
          unfold L_X9_ties
          exact Sub.nil
        exact ((((Sm.rf.call (fr_X9_layApart x4 _ (z := q3) e4) ie4 (show ∀ r ∈ R_X9_layApart, r ∈ R_X9_byGlances from by decide)).call (fr_X9_layGlances x9 x3 _ (z := q5) e6) ie6 (show ∀ r ∈ R_X9_layGlances, r ∈ R_X9_byGlances from by decide)).call (fr_X9_ties x3 _ (z := q21) e22) ie22 (show ∀ r ∈ R_X9_ties, r ∈ R_X9_byGlances from by decide))).tr (fr_X9_byGlances_48 ih x1 x2 x3 x4 x5 x7 x8 x9 (q5.1 * x5) q21.1 _ hz)
      · exact (((Sm.rf.call (fr_X9_layApart x4 _ (z := q3) e4) ie4 (show ∀ r ∈ R_X9_layApart, r ∈ R_X9_byGlances from by decide)).call (fr_X9_layGlances x9 x3 _ (z := q5) e6) ie6 (show ∀ r ∈ R_X9_layGlances, r ∈ R_X9_byGlances from by decide))).tr (fr_X9_byGlances_48 ih x1 x2 x3 x4 x5 x7 x8 x9 (q5.1 * x5) 1 _ hz)
theorem fr_X9_byGlances (x1 : Int32) (x2 : Int32) (x3 : Int32) (x4 : Int32) (x5 : Int64) (x7 : Int32) (w : GW) {z : Unit × GW} : f_X9_byGlances x1 x2 x3 x4 x5 x7 w = some z → Sm L_X9_byGlances R_X9_byGlances w z.2 := by
  intro  hz
  rw [f_X9_byGlances] at hz
  obtain ⟨q1, e2, hz⟩ := bd hz
  have ie2 : Sub L_X9_glancesOf L_X9_byGlances := by
    unfold L_X9_glancesOf
    exact Sub.nil
  exact ((Sm.rf.call (fr_X9_glancesOf x3 _ (z := q1) e2) ie2 (show ∀ r ∈ R_X9_glancesOf, r ∈ R_X9_byGlances from by decide))).tr (fr_X9_byGlances_10 fu x1 x2 x3 x4 x5 x7 q1.1 0 _ hz)
