/-! words and wholes, as they are read -/
section WD
variable (tp : Nat → Nat) (n : Nat)
/-- the token is this word -/
def tS (u p : Nat) : Prop := tK tp n p = 1 ∧ tE tp n p - tA tp n p = sLen u ∧ ∀ j, j < sLen u → nI (tp (tA tp n p + j)) = sCh u j
/-- what goes on: a fault and its place, or the next token -/
abbrev RR : Type := (Nat × Nat) ⊕ Nat
noncomputable def sWr (u : Nat) : RR → RR
  | .inl e => .inl e
  | .inr p => @ite _ (tS tp n u p) (Classical.propDecidable _) (.inr (tE tp n p)) (.inl (1, tA tp n p))
def sNr (lo hi : Nat) : RR → RR
  | .inl e => .inl e
  | .inr p => if tK tp n p = 2 then (if lo ≤ tV tp n p ∧ tV tp n p ≤ hi then .inr (tE tp n p) else .inl (4, tA tp n p)) else .inl (1, tA tp n p)
def sNv (lo hi : Nat) : RR → Nat
  | .inl _ => lo
  | .inr p => if tK tp n p = 2 ∧ lo ≤ tV tp n p ∧ tV tp n p ≤ hi then tV tp n p else lo
end WD
theorem sLen_9 : ∀ u, u < 34 → sLen u ≤ 8 := by decide +kernel
section WE
variable {tp : Nat → Nat} {n : Nat}
theorem sWr_t {u p : Nat} (h : tS tp n u p) : sWr tp n u (.inr p) = .inr (tE tp n p) := if_pos h
theorem sWr_f {u p : Nat} (h : ¬ tS tp n u p) : sWr tp n u (.inr p) = .inl (1, tA tp n p) := if_neg h
theorem tS_em (u p : Nat) : tS tp n u p ∨ ¬ tS tp n u p := Classical.em _
theorem tS_u {u u' p : Nat} (h : strT.getD u [] = strT.getD u' []) : tS tp n u p ↔ tS tp n u' p := by
  unfold tS sLen sCh
  rw [h]
theorem sWr_u {u u' : Nat} {r : RR} (h : strT.getD u [] = strT.getD u' []) : sWr tp n u r = sWr tp n u' r := by
  cases r with
  | inl e => rfl
  | inr p =>
    rcases tS_em (tp := tp) (n := n) u p with q | q
    · rw [sWr_t q, sWr_t ((tS_u h).mp q)]
    · rw [sWr_f q, sWr_f (fun z => q ((tS_u h).mpr z))]
theorem says_t (hn : n ≤ 900) {w : GW} {u p : Nat} (hu : u < 34) (hp : p ≤ n) (C : CT w tp n p) (h : tS tp n u p) : f_X7_says u w = some (1, w) := by
  obtain ⟨h1, h2, h3⟩ := h
  obtain ⟨a1, a2⟩ := tA_ge (tp := tp) hp
  obtain ⟨e1, e2, e3⟩ := tE_ge (tp := tp) hp
  have hl := sLen_9 u hu
  have key : ∀ d i m, i + d = sLen u → d < m → f_X7_says_28 m u (nI i) w = some (1, w) := by
    intro d
    induction d with
    | zero =>
      intro i m hi hm
      obtain ⟨m, rfl⟩ : ∃ m9, m = m9 + 1 := ⟨m - 1, by omega⟩
      rw [f_X7_says_28, show Int32.ofNat (sLen u) = nI (sLen u) from rfl, if_pos ((le_nI (by omega) (by omega)).mpr (by omega))]
    | succ d ih =>
      intro i m hi hm
      obtain ⟨m, rfl⟩ : ∃ m9, m = m9 + 1 := ⟨m - 1, by omega⟩
      rw [f_X7_says_28, show Int32.ofNat (sLen u) = nI (sLen u) from rfl, if_neg (fun q9 => absurd ((le_nI (by omega) (by omega)).mp q9) (by omega)), C.2.1, nI_add, if_pos ((inb_nI (by omega)).mpr (by omega)), if_pos ((inb_nI (by omega)).mpr (by omega)), ix_nI (by omega), ix_nI (by omega), C.1.1 _ (by omega), h3 i (by omega), if_pos rfl, nI_1]
      exact ih (i + 1) m (by omega) (by omega)
  have e2' : gI w 1 2 - gI w 1 4 = nI (sLen u) := by rw [C.2.2.2.1 (by omega), C.2.1, pk_sub (by omega), h2]
  rw [f_X7_says, C.2.2.1, h1, if_pos (show nI 1 = 1 from rfl), e2', if_pos (show nI (sLen u) = Int32.ofNat (sLen u) from rfl), show (0 : Int32) = nI 0 from rfl]
  exact key (sLen u) 0 fu (by omega) (fu_gt (by omega))
theorem says_f (hn : n ≤ 900) {w : GW} {u p : Nat} (hu : u < 34) (hp : p ≤ n) (C : CT w tp n p) (h : ¬ tS tp n u p) : f_X7_says u w = some (0, w) := by
  obtain ⟨a1, a2⟩ := tA_ge (tp := tp) hp
  obtain ⟨e1, e2, e3⟩ := tE_ge (tp := tp) hp
  have hl := sLen_9 u hu
  have hk5 : tK tp n p ≤ 5 := by
    unfold tK
    repeat' split
    all_goals omega
  by_cases h1 : tK tp n p = 1
  · have e2' : gI w 1 2 - gI w 1 4 = nI (tE tp n p - tA tp n p) := by rw [C.2.2.2.1 (by omega), C.2.1, pk_sub (by omega)]
    rw [f_X7_says, C.2.2.1, h1, if_pos (show nI 1 = 1 from rfl), e2', show Int32.ofNat (sLen u) = nI (sLen u) from rfl]
    by_cases h2 : tE tp n p - tA tp n p = sLen u
    · have key : ∀ d i m, i + d = sLen u → d < m → (∃ j, i ≤ j ∧ j < sLen u ∧ nI (tp (tA tp n p + j)) ≠ sCh u j) → f_X7_says_28 m u (nI i) w = some (0, w) := by
        intro d
        induction d with
        | zero =>
          rintro i m hi hm ⟨j, j1, j2, _⟩
          omega
        | succ d ih =>
          rintro i m hi hm ⟨j, j1, j2, j3⟩
          obtain ⟨m, rfl⟩ : ∃ m9, m = m9 + 1 := ⟨m - 1, by omega⟩
          rw [f_X7_says_28, show Int32.ofNat (sLen u) = nI (sLen u) from rfl, if_neg (fun q9 => absurd ((le_nI (by omega) (by omega)).mp q9) (by omega)), C.2.1, nI_add, if_pos ((inb_nI (by omega)).mpr (by omega)), if_pos ((inb_nI (by omega)).mpr (by omega)), ix_nI (by omega), ix_nI (by omega), C.1.1 _ (by omega)]
          by_cases z : nI (tp (tA tp n p + i)) = sCh u i
          · rw [if_pos z, nI_1]
            refine ih (i + 1) m (by omega) (by omega) ⟨j, ?_, j2, j3⟩
            have : j ≠ i := fun q => j3 (by rw [q]; exact z)
            omega
          · rw [if_neg z]
      have hex : ∃ j, 0 ≤ j ∧ j < sLen u ∧ nI (tp (tA tp n p + j)) ≠ sCh u j := Classical.byContradiction fun q => h ⟨h1, h2, fun j hj => Classical.byContradiction fun z => q ⟨j, Nat.zero_le _, hj, z⟩⟩
      rw [if_pos ((eq_nI (by omega) (by omega)).mpr (by omega)), show (0 : Int32) = nI 0 from rfl]
      exact key (sLen u) 0 fu (by omega) (fu_gt (by omega)) hex
    · rw [if_neg (fun q9 => absurd ((eq_nI (by omega) (by omega)).mp q9) (by omega))]
  · rw [f_X7_says, C.2.2.1, show (1 : Int32) = nI 1 from rfl, if_neg (fun q9 => absurd ((eq_nI (by omega) (by omega)).mp q9) (by omega))]
theorem mK_2 {k : Nat} : mK k = 2 ↔ k = 1 := by
  unfold mK
  constructor
  · intro h
    by_cases a : k = 1
    · exact a
    · rw [if_neg a] at h
      repeat' split at h
      all_goals omega
  · intro h; rw [h]; rfl
theorem mK_3 {k : Nat} : mK k = 3 ↔ k = 2 := by
  unfold mK
  constructor
  · intro h
    by_cases a : k = 2
    · exact a
    · rw [if_neg a] at h
      repeat' split at h
      all_goals omega
  · intro h; rw [h]; rfl
theorem mK_44 {k : Nat} : mK k = 44 ↔ k = 4 := by
  unfold mK
  constructor
  · intro h
    by_cases a : k = 4
    · exact a
    · rw [if_neg a] at h
      repeat' split at h
      all_goals omega
  · intro h; rw [h]; rfl
theorem mK_59 {k : Nat} : mK k = 59 ↔ k = 3 := by
  unfold mK
  constructor
  · intro h
    by_cases a : k = 3
    · exact a
    · rw [if_neg a] at h
      repeat' split at h
      all_goals omega
  · intro h; rw [h]; rfl
theorem mK_0 {k : Nat} : mK k = 0 ↔ k = 0 := by
  unfold mK
  constructor
  · intro h
    by_cases a : k = 0
    · exact a
    · rw [if_neg a] at h
      repeat' split at h
      all_goals omega
  · intro h; rw [h]; rfl
theorem mK_lt (k : Nat) : mK k < 100 := by
  unfold mK
  repeat' split
  all_goals omega
/-- the reference on its way: the draft, and a fault or a token -/
def XM (w : GW) (tp : Nat → Nat) (n : Nat) (r : RR) (φ : Nat → Int32) : Prop := (∀ j, j < 135 → gI w 134 j = φ j) ∧ TPm w tp n ∧ match r with
  | .inl e => gI w 130 13 = 1 ∧ gI w 130 9 = nI e.1 ∧ gI w 130 10 = nI e.2
  | .inr p => gI w 130 13 = 0 ∧ gI w 130 9 = 0 ∧ p ≤ n ∧ MT w tp n p
theorem isWord_e {w : GW} {u : Nat} {e : Nat × Nat} {φ : Nat → Int32} (X : XM w tp n (.inl e) φ) : f_X9_isWord u w = some (0, w) := by
  rw [f_X9_isWord, X.2.2.1, if_neg one_ne]
theorem isWord_t (hn : n ≤ 900) {w : GW} {u p : Nat} {φ : Nat → Int32} (hu : u < 34) (X : XM w tp n (.inr p) φ) (h : tS tp n u p) : f_X9_isWord u w = some (1, w) := by
  obtain ⟨_, _, x1, _, hp, M⟩ := X
  obtain ⟨h1, h2, h3⟩ := h
  have hl := sLen_9 u hu
  obtain ⟨m8, m9⟩ := M.2.2.2.2.1 h1
  have key : ∀ d i m, i + d = sLen u → d < m → f_X9_isWord_32 m u 1 (nI i) w = some (1, w) := by
    intro d
    induction d with
    | zero =>
      intro i m hi hm
      obtain ⟨m, rfl⟩ : ∃ m9, m = m9 + 1 := ⟨m - 1, by omega⟩
      rw [f_X9_isWord_32, m8, h2, if_pos ((le_nI (by omega) (by omega)).mpr (by omega))]
    | succ d ih =>
      intro i m hi hm
      obtain ⟨m, rfl⟩ : ∃ m9, m = m9 + 1 := ⟨m - 1, by omega⟩
      rw [f_X9_isWord_32, m8, h2, if_neg (fun q9 => absurd ((le_nI (by omega) (by omega)).mp q9) (by omega)), if_neg one_ne, if_pos ((inb_nI (by omega)).mpr (by omega)), if_pos ((inb_nI (by omega)).mpr (by omega)), ix_nI (by omega), m9 i (by omega), h3 i (by omega), if_pos rfl, f_X9_isWord_63, nI_1]
      exact ih (i + 1) m (by omega) (by omega)
  rw [f_X9_isWord, x1, if_pos rfl, M.2.2.2.1, h1, if_pos (show nI (mK 1) = 2 from rfl), m8, h2, if_pos (show nI (sLen u) = Int32.ofNat (sLen u) from rfl), show (0 : Int32) = nI 0 from rfl]
  exact key (sLen u) 0 fu (by omega) (fu_gt (by omega))
theorem isWord_f (hn : n ≤ 900) {w : GW} {u p : Nat} {φ : Nat → Int32} (hu : u < 34) (X : XM w tp n (.inr p) φ) (h : ¬ tS tp n u p) : f_X9_isWord u w = some (0, w) := by
  obtain ⟨_, _, x1, _, hp, M⟩ := X
  have hl := sLen_9 u hu
  have hmk := mK_lt (tK tp n p)
  obtain ⟨a1, a2⟩ := tA_ge (tp := tp) hp
  obtain ⟨e1, e2, e3⟩ := tE_ge (tp := tp) hp
  rw [f_X9_isWord, x1, if_pos rfl, M.2.2.2.1]
  by_cases h1 : tK tp n p = 1
  · obtain ⟨m8, m9⟩ := M.2.2.2.2.1 h1
    rw [h1, if_pos (show nI (mK 1) = 2 from rfl), m8, show Int32.ofNat (sLen u) = nI (sLen u) from rfl]
    by_cases h2 : tE tp n p - tA tp n p = sLen u
    · have key0 : ∀ d i m, i + d = sLen u → d < m → f_X9_isWord_32 m u 0 (nI i) w = some (0, w) := by
        intro d
        induction d with
        | zero =>
          intro i m hi hm
          obtain ⟨m, rfl⟩ : ∃ m9, m = m9 + 1 := ⟨m - 1, by omega⟩
          rw [f_X9_isWord_32, m8, h2, if_pos ((le_nI (by omega) (by omega)).mpr (by omega))]
        | succ d ih =>
          intro i m hi hm
          obtain ⟨m, rfl⟩ : ∃ m9, m = m9 + 1 := ⟨m - 1, by omega⟩
          rw [f_X9_isWord_32, m8, h2, if_neg (fun q9 => absurd ((le_nI (by omega) (by omega)).mp q9) (by omega)), if_pos rfl, f_X9_isWord_62, f_X9_isWord_63, nI_1]
          exact ih (i + 1) m (by omega) (by omega)
      have key : ∀ d i m, i + d = sLen u → d < m → (∃ j, i ≤ j ∧ j < sLen u ∧ nI (tp (tA tp n p + j)) ≠ sCh u j) → f_X9_isWord_32 m u 1 (nI i) w = some (0, w) := by
        intro d
        induction d with
        | zero =>
          rintro i m hi hm ⟨j, j1, j2, _⟩
          omega
        | succ d ih =>
          rintro i m hi hm ⟨j, j1, j2, j3⟩
          obtain ⟨m, rfl⟩ : ∃ m9, m = m9 + 1 := ⟨m - 1, by omega⟩
          rw [f_X9_isWord_32, m8, h2, if_neg (fun q9 => absurd ((le_nI (by omega) (by omega)).mp q9) (by omega)), if_neg one_ne, if_pos ((inb_nI (by omega)).mpr (by omega)), if_pos ((inb_nI (by omega)).mpr (by omega)), ix_nI (by omega), m9 i (by omega)]
          by_cases z : nI (tp (tA tp n p + i)) = sCh u i
          · rw [if_pos z, f_X9_isWord_63, nI_1]
            refine ih (i + 1) m (by omega) (by omega) ⟨j, ?_, j2, j3⟩
            have : j ≠ i := fun q => j3 (by rw [q]; exact z)
            omega
          · rw [if_neg z, f_X9_isWord_62, f_X9_isWord_63, nI_1]
            exact key0 d (i + 1) m (by omega) (by omega)
      have hex : ∃ j, 0 ≤ j ∧ j < sLen u ∧ nI (tp (tA tp n p + j)) ≠ sCh u j := Classical.byContradiction fun q => h ⟨h1, h2, fun j hj => Classical.byContradiction fun z => q ⟨j, Nat.zero_le _, hj, z⟩⟩
      rw [if_pos ((eq_nI (by omega) (by omega)).mpr (by omega)), show (0 : Int32) = nI 0 from rfl]
      exact key (sLen u) 0 fu (by omega) (fu_gt (by omega)) hex
    · rw [if_neg (fun q9 => absurd ((eq_nI (by omega) (by omega)).mp q9) (by omega))]
  · rw [show (2 : Int32) = nI 2 from rfl, if_neg (fun q => h1 (mK_2.mp ((eq_nI (by omega) (by omega)).mp q)))]
/-- a step to the next token -/
theorem XM.next (hn : n ≤ 900) (htp : ∀ j, tp j < 256) {w : GW} {p : Nat} {φ : Nat → Int32} (X : XM w tp n (.inr p) φ) : ∃ w', f_X9_next w = some ((), w') ∧ XM w' tp n (.inr (tE tp n p)) φ := by
  obtain ⟨x0, xT, x1, x2, hp, M⟩ := X
  obtain ⟨e1, e2, e3⟩ := tE_ge (tp := tp) hp
  obtain ⟨w', a, b⟩ := next9 hn htp e2 M.1 M.2.2.1
  have S := fr_X9_next _ a
  exact ⟨w', a, fun j hj => by rw [S.I 134 j rfl]; exact x0 j hj, b.1, by rw [S.I 130 13 rfl]; exact x1, by rw [S.I 130 9 rfl]; exact x2, e2, b⟩
/-- a fault -/
theorem XM.wrong {w : GW} {p f a : Nat} {φ : Nat → Int32} (X : XM w tp n (.inr p) φ) : f_X9_wrong (nI f) (nI a) w = some ((), sI (sI (sI w 130 13 1) 130 9 (nI f)) 130 10 (nI a)) ∧ XM (sI (sI (sI w 130 13 1) 130 9 (nI f)) 130 10 (nI a)) tp n (.inl (f, a)) φ := by
  obtain ⟨x0, xT, x1, x2, hp, M⟩ := X
  refine ⟨by rw [f_X9_wrong, x1, if_pos rfl], fun j hj => ?_, ⟨fun j hj => ?_, ?_⟩, ?_, ?_, gI_same _ _ _ _⟩
  · rw [gI_sI, if_neg (by omega), gI_sI, if_neg (by omega), gI_sI, if_neg (by omega)]; exact x0 j hj
  · rw [gI_sI, if_neg (by omega), gI_sI, if_neg (by omega), gI_sI, if_neg (by omega)]; exact xT.1 j hj
  · rw [gI_sI, if_neg (by omega), gI_sI, if_neg (by omega), gI_sI, if_neg (by omega)]; exact xT.2
  · rw [gI_sI, if_neg (by omega), gI_sI, if_neg (by omega), gI_same]
  · rw [gI_sI, if_neg (by omega), gI_same]
theorem XM.wrong_e {w : GW} {e : Nat × Nat} {f a : Int32} {φ : Nat → Int32} (X : XM w tp n (.inl e) φ) : f_X9_wrong f a w = some ((), w) := by
  rw [f_X9_wrong, X.2.2.1, if_neg one_ne]
theorem must9 (hn : n ≤ 900) (htp : ∀ j, tp j < 256) {w : GW} {u : Nat} {r : RR} {φ : Nat → Int32} (hu : u < 34) (X : XM w tp n r φ) : ∃ w', f_X9_must u w = some ((), w') ∧ XM w' tp n (sWr tp n u r) φ := by
  cases r with
  | inl e => exact ⟨w, by rw [f_X9_must, X.2.2.1, if_neg one_ne], X⟩
  | inr p =>
    have x1 := X.2.2.1
    rcases tS_em (tp := tp) (n := n) u p with q | q
    · obtain ⟨w', a, b⟩ := X.next hn htp
      rw [sWr_t q]
      refine ⟨w', ?_, b⟩
      rw [f_X9_must, x1, if_pos rfl, f_X9_takes, isWord_t hn hu X q, bind_some', if_neg one_ne]
      dsimp only
      rw [a, bind_some', bind_some', if_neg one_ne]
    · rw [sWr_f q]
      obtain ⟨a, b⟩ := X.wrong (f := 1) (a := tA tp n p)
      refine ⟨_, ?_, b⟩
      rw [f_X9_must, x1, if_pos rfl, f_X9_takes, isWord_f hn hu X q, bind_some', if_pos rfl, bind_some', if_pos rfl]
      dsimp only
      rw [X.2.2.2.2.2.2.1]
      have a' : f_X9_wrong 1 (nI (tA tp n p)) w = _ := a
      rw [a', bind_some']
theorem sN_t {lo hi p : Nat} (q : tK tp n p = 2) (z : lo ≤ tV tp n p ∧ tV tp n p ≤ hi) : sNr tp n lo hi (.inr p) = .inr (tE tp n p) ∧ sNv tp n lo hi (.inr p) = tV tp n p := by
  refine ⟨?_, if_pos ⟨q, z⟩⟩
  show (if tK tp n p = 2 then (if lo ≤ tV tp n p ∧ tV tp n p ≤ hi then Sum.inr (tE tp n p) else Sum.inl (4, tA tp n p)) else Sum.inl (1, tA tp n p)) = (Sum.inr (tE tp n p) : RR)
  rw [if_pos q, if_pos z]
theorem sN_b {lo hi p : Nat} (q : tK tp n p = 2) (z : ¬ (lo ≤ tV tp n p ∧ tV tp n p ≤ hi)) : sNr tp n lo hi (.inr p) = .inl (4, tA tp n p) ∧ sNv tp n lo hi (.inr p) = lo := by
  refine ⟨?_, if_neg (fun y => z y.2)⟩
  show (if tK tp n p = 2 then (if lo ≤ tV tp n p ∧ tV tp n p ≤ hi then Sum.inr (tE tp n p) else Sum.inl (4, tA tp n p)) else Sum.inl (1, tA tp n p)) = (Sum.inl (4, tA tp n p) : RR)
  rw [if_pos q, if_neg z]
theorem sN_f {lo hi p : Nat} (q : ¬ tK tp n p = 2) : sNr tp n lo hi (.inr p) = .inl (1, tA tp n p) ∧ sNv tp n lo hi (.inr p) = lo := by
  refine ⟨?_, if_neg (fun y => q y.1)⟩
  show (if tK tp n p = 2 then (if lo ≤ tV tp n p ∧ tV tp n p ≤ hi then Sum.inr (tE tp n p) else Sum.inl (4, tA tp n p)) else Sum.inl (1, tA tp n p)) = (Sum.inl (1, tA tp n p) : RR)
  rw [if_neg q]
theorem number9 (hn : n ≤ 900) (htp : ∀ j, tp j < 256) {w : GW} {lo hi : Nat} {r : RR} {φ : Nat → Int32} (hl : lo < 1000) (hh : hi < 1000) (X : XM w tp n r φ) : ∃ w', f_X9_number (nI lo) (nI hi) w = some (nI (sNv tp n lo hi r), w') ∧ XM w' tp n (sNr tp n lo hi r) φ := by
  cases r with
  | inl e => exact ⟨w, by rw [f_X9_number, X.2.2.1, if_neg one_ne]; rfl, X⟩
  | inr p =>
    have x1 := X.2.2.1
    have hmk := mK_lt (tK tp n p)
    obtain ⟨_, _, _, _, hp, M⟩ := id X
    by_cases q : tK tp n p = 2
    · have h7 := M.2.2.2.2.2 q
      have hv := tV_lt hp q
      by_cases z : lo ≤ tV tp n p ∧ tV tp n p ≤ hi
      · obtain ⟨w', a, b⟩ := X.next hn htp
        rw [(sN_t q z).1, (sN_t q z).2]
        refine ⟨w', ?_, b⟩
        rw [f_X9_number, x1, if_pos rfl, M.2.2.2.1, q, if_pos (show nI (mK 2) = 3 from rfl), h7, within9_t z.1 z.2 (by omega), bind_some', if_neg one_ne]
        dsimp only
        rw [a, bind_some']
      · rw [(sN_b q z).1, (sN_b q z).2]
        obtain ⟨a, b⟩ := X.wrong (f := 4) (a := tA tp n p)
        refine ⟨_, ?_, b⟩
        have hw : f_X9_within (nI (tV tp n p)) (nI lo) (nI hi) w = some (0, w) := within9_f (by omega) (by omega) (fun ⟨k, k1, k2, k3⟩ => z (by have := (eq_nI (by omega) (by omega)).mp k3; omega))
        rw [f_X9_number, x1, if_pos rfl, M.2.2.2.1, q, if_pos (show nI (mK 2) = 3 from rfl), h7, hw, bind_some', if_pos rfl]
        dsimp only
        rw [M.2.1]
        have a' : f_X9_wrong 4 (nI (tA tp n p)) w = _ := a
        rw [a', bind_some']
    · rw [(sN_f q).1, (sN_f q).2]
      obtain ⟨a, b⟩ := X.wrong (f := 1) (a := tA tp n p)
      refine ⟨_, ?_, b⟩
      rw [f_X9_number, x1, if_pos rfl, M.2.2.2.1, show (3 : Int32) = nI 3 from rfl, if_neg (fun y => q (mK_3.mp ((eq_nI (by omega) (by omega)).mp y))), M.2.1]
      have a' : f_X9_wrong 1 (nI (tA tp n p)) w = _ := a
      rw [a', bind_some']
theorem told9 (hn : n ≤ 900) (htp : ∀ j, tp j < 256) {w : GW} {u lo hi : Nat} {r : RR} {φ : Nat → Int32} (hu : u < 34) (hl : lo < 1000) (hh : hi < 1000) (X : XM w tp n r φ) : ∃ w', f_X9_told u (nI lo) (nI hi) w = some (nI (sNv tp n lo hi (sWr tp n u r)), w') ∧ XM w' tp n (sNr tp n lo hi (sWr tp n u r)) φ := by
  obtain ⟨w1, a1, a2⟩ := must9 hn htp hu X
  obtain ⟨w2, b1, b2⟩ := number9 (lo := lo) hn htp hl hh a2
  exact ⟨w2, by rw [f_X9_told, a1, bind_some']; dsimp only; rw [b1, bind_some'], b2⟩
end WE
