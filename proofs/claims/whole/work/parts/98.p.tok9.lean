/-! the reference's tokens -/
section MT
variable {tp : Nat → Nat} {n : Nat}
def mK (k : Nat) : Nat := if k = 0 then 0 else if k = 1 then 2 else if k = 2 then 3 else if k = 3 then 59 else if k = 4 then 44 else 1
def TPm (w : GW) (tp : Nat → Nat) (n : Nat) : Prop := (∀ j, j < n → gI w 131 j = nI (tp j)) ∧ gI w 130 3 = nI n
def MT (w : GW) (tp : Nat → Nat) (n p : Nat) : Prop := TPm w tp n ∧ gI w 130 4 = nI (tA tp n p) ∧ gI w 130 5 = nI (tE tp n p) ∧ gI w 130 6 = nI (mK (tK tp n p)) ∧ (tK tp n p = 1 → gI w 130 8 = nI (tE tp n p - tA tp n p) ∧ ∀ j, j < tE tp n p - tA tp n p → gI w 132 j = nI (tp (tA tp n p + j))) ∧ (tK tp n p = 2 → gI w 130 7 = nI (tV tp n p))
theorem look9 {w : GW} (hn : n ≤ 900) (T : TPm w tp n) {k : Nat} (hk : k < 2000) : f_X9_look (nI k) w = some (if n ≤ k then -1 else nI (tp k), w) := by
  rw [f_X9_look, T.2]
  by_cases z : n ≤ k
  · rw [if_pos ((le_nI (by omega) (by omega)).mpr (by omega)), if_pos z]
  · rw [if_neg (fun q9 => absurd ((le_nI (by omega) (by omega)).mp q9) (by omega)), if_neg z, if_pos ((inb_nI (by omega)).mpr (by omega)), ix_nI (by omega), T.1 k (by omega)]
theorem isS9 {c : Nat} {w : GW} (hc : c < 256) : f_X9_isSmall (nI c) w = some (if isLe c = true then 1 else 0, w) := by
  rw [f_X9_isSmall, show (97 : Int32) = nI 97 from rfl, show (122 : Int32) = nI 122 from rfl]
  unfold isLe
  by_cases a : c < 97
  · rw [if_pos ((lt_nI (by omega) (by omega)).mpr (by omega)), if_neg (by rw [decide_eq_true_eq]; omega)]
  · rw [if_neg (fun q9 => absurd ((lt_nI (by omega) (by omega)).mp q9) (by omega))]
    by_cases b : 122 < c
    · rw [if_pos ((lt_nI (by omega) (by omega)).mpr (by omega)), if_neg (by rw [decide_eq_true_eq]; omega)]
    · rw [if_neg (fun q9 => absurd ((lt_nI (by omega) (by omega)).mp q9) (by omega)), if_pos (by rw [decide_eq_true_eq]; omega)]
theorem isD9 {c : Nat} {w : GW} (hc : c < 256) : f_X9_isDigit (nI c) w = some (if isDi c = true then 1 else 0, w) := by
  rw [f_X9_isDigit, show (48 : Int32) = nI 48 from rfl, show (57 : Int32) = nI 57 from rfl]
  unfold isDi
  by_cases a : c < 48
  · rw [if_pos ((lt_nI (by omega) (by omega)).mpr (by omega)), if_neg (by rw [decide_eq_true_eq]; omega)]
  · rw [if_neg (fun q9 => absurd ((lt_nI (by omega) (by omega)).mp q9) (by omega))]
    by_cases b : 57 < c
    · rw [if_pos ((lt_nI (by omega) (by omega)).mpr (by omega)), if_neg (by rw [decide_eq_true_eq]; omega)]
    · rw [if_neg (fun q9 => absurd ((lt_nI (by omega) (by omega)).mp q9) (by omega)), if_pos (by rw [decide_eq_true_eq]; omega)]
theorem m1_S9 {w : GW} : f_X9_isSmall (-1) w = some (0, w) := by rw [f_X9_isSmall, if_pos (by decide)]
theorem m1_D9 {w : GW} : f_X9_isDigit (-1) w = some (0, w) := by rw [f_X9_isDigit, if_pos (by decide)]
/-- the least of the two -/
theorem next67 (hn : n ≤ 900) (htp : ∀ j, tp j < 256) {a : Nat} : ∀ d i m (w : GW), i + d = n → d < m → a ≤ i → TPm w tp n → gI w 130 8 = nI (i - a) → (∀ j, j < i - a → j < 8 → gI w 132 j = nI (tp (a + j))) → ∃ w', f_X9_next_67 m (nI i) w = (if nI (rn isLe tp n i - a) ≤ 8 then some ((), sI (sI w' 130 5 (nI (rn isLe tp n i))) 130 6 2) else some ((), sI (sI w' 130 5 (nI (rn isLe tp n i))) 130 6 1)) ∧ TPm w' tp n ∧ gI w' 130 4 = gI w 130 4 ∧ gI w' 130 8 = nI (rn isLe tp n i - a) ∧ ∀ j, j < rn isLe tp n i - a → j < 8 → gI w' 132 j = nI (tp (a + j)) := by
  intro d
  induction d with
  | zero =>
    intro i m w hi hm ha T h8 hl
    obtain ⟨m, rfl⟩ : ∃ m9, m = m9 + 1 := ⟨m - 1, by omega⟩
    rw [f_X9_next_67, look9 hn T (by omega), if_pos (by omega), bind_some', m1_S9, bind_some', if_pos rfl, rn_e (by omega)]
    refine ⟨w, ?_, T, rfl, h8, hl⟩
    dsimp only
    have g8 : gI (sI w 130 5 (nI i)) 130 8 = nI (i - a) := by rw [gI_sI, if_neg (by omega)]; exact h8
    rw [g8]
  | succ d ih =>
    intro i m w hi hm ha T h8 hl
    obtain ⟨m, rfl⟩ : ∃ m9, m = m9 + 1 := ⟨m - 1, by omega⟩
    have hc := htp i
    rw [f_X9_next_67, look9 hn T (by omega), if_neg (by omega), bind_some', isS9 hc, bind_some']
    by_cases z : isLe (tp i) = true
    · rw [if_pos z, if_neg one_ne, rn_s (by omega) z]
      dsimp only
      have T1 : ∀ (w1 : GW), (∀ p j, p = 131 ∨ (p = 130 ∧ (j = 3 ∨ j = 4)) → gI w1 p j = gI w p j) → TPm w1 tp n ∧ gI w1 130 4 = gI w 130 4 := fun w1 g => ⟨⟨fun j hj => by rw [g _ _ (by omega)]; exact T.1 j hj, by rw [g _ _ (by omega)]; exact T.2⟩, g _ _ (by omega)⟩
      by_cases y : 8 ≤ i - a
      · rw [h8, show (8 : Int32) = nI 8 from rfl, if_pos ((le_nI (by omega) (by omega)).mpr (by omega)), f_X9_next_101, h8, nI_1, nI_1]
        obtain ⟨t1, t2⟩ := T1 (sI w 130 8 (nI (i - a + 1))) (fun p j hpj => by rw [gI_sI, if_neg (by omega)])
        obtain ⟨w', b1, b2, b3, b4, b5⟩ := ih (i + 1) m (sI w 130 8 (nI (i - a + 1))) (by omega) (by omega) (by omega) t1 (by rw [gI_same, show i + 1 - a = i - a + 1 by omega]) (fun j h1 h2 => by rw [gI_sI, if_neg (by omega)]; exact hl j (by omega) h2)
        exact ⟨w', b1, b2, b3.trans t2, b4, b5⟩
      · rw [h8, show (8 : Int32) = nI 8 from rfl, if_neg (fun q9 => absurd ((le_nI (by omega) (by omega)).mp q9) (by omega)), look9 hn T (by omega), if_neg (by omega), bind_some', if_pos ((inb_nI (by omega)).mpr (by omega)), ix_nI (by omega), f_X9_next_101]
        dsimp only
        rw [gI_sI, if_neg (by omega), h8, nI_1, nI_1]
        obtain ⟨t1, t2⟩ := T1 (sI (sI w 132 (i - a) (nI (tp i))) 130 8 (nI (i - a + 1))) (fun p j hpj => by rw [gI_sI, if_neg (by omega), gI_sI, if_neg (by omega)])
        obtain ⟨w', b1, b2, b3, b4, b5⟩ := ih (i + 1) m (sI (sI w 132 (i - a) (nI (tp i))) 130 8 (nI (i - a + 1))) (by omega) (by omega) (by omega) t1 (by rw [gI_same, show i + 1 - a = i - a + 1 by omega]) (fun j h1 h2 => by
          rw [gI_sI, if_neg (by omega), gI_sI]
          by_cases x : j = i - a
          · rw [if_pos ⟨rfl, x⟩, show a + j = i by omega]
          · rw [if_neg (fun q => x q.2)]; exact hl j (by omega) h2)
        exact ⟨w', b1, b2, b3.trans t2, b4, b5⟩
    · rw [if_neg z, if_pos rfl, rn_f (by omega) z]
      refine ⟨w, ?_, T, rfl, h8, hl⟩
      dsimp only
      have g8 : gI (sI w 130 5 (nI i)) 130 8 = nI (i - a) := by rw [gI_sI, if_neg (by omega)]; exact h8
      rw [g8]
theorem next152 (hn : n ≤ 900) (htp : ∀ j, tp j < 256) {a : Nat} : ∀ d i m (w : GW), i + d = n → d < m → a ≤ i → TPm w tp n → (i - a ≤ 3 → gI w 130 7 = nI (hvS tp a (i - a))) → ∃ w', f_X9_next_152 m (nI i) (nI (i - a)) w = (if nI (rn isDi tp n i - a) ≤ 3 then some ((), sI (sI w' 130 5 (nI (rn isDi tp n i))) 130 6 3) else some ((), sI (sI w' 130 5 (nI (rn isDi tp n i))) 130 6 1)) ∧ TPm w' tp n ∧ gI w' 130 4 = gI w 130 4 ∧ (rn isDi tp n i - a ≤ 3 → gI w' 130 7 = nI (hvS tp a (rn isDi tp n i - a))) := by
  intro d
  induction d with
  | zero =>
    intro i m w hi hm ha T h7
    obtain ⟨m, rfl⟩ : ∃ m9, m = m9 + 1 := ⟨m - 1, by omega⟩
    rw [f_X9_next_152, look9 hn T (by omega), if_pos (by omega), bind_some', m1_D9, bind_some', if_pos rfl, rn_e (by omega)]
    exact ⟨w, rfl, T, rfl, h7⟩
  | succ d ih =>
    intro i m w hi hm ha T h7
    obtain ⟨m, rfl⟩ : ∃ m9, m = m9 + 1 := ⟨m - 1, by omega⟩
    have hc := htp i
    rw [f_X9_next_152, look9 hn T (by omega), if_neg (by omega), bind_some', isD9 hc, bind_some']
    by_cases z : isDi (tp i) = true
    · have hle : 48 ≤ tp i ∧ tp i ≤ 57 := by unfold isDi at z; rwa [decide_eq_true_eq] at z
      rw [if_pos z, if_neg one_ne, rn_s (by omega) z]
      dsimp only
      by_cases y : 3 ≤ i - a
      · rw [show (3 : Int32) = nI 3 from rfl, if_pos ((le_nI (by omega) (by omega)).mpr (by omega)), f_X9_next_188, nI_1, nI_1]
        obtain ⟨w', b1, b2, b3, b4⟩ := ih (i + 1) m w (by omega) (by omega) (by omega) T (fun q => by omega)
        rw [show i - a + 1 = i + 1 - a by omega]
        exact ⟨w', b1, b2, b3, b4⟩
      · have ev : ((10 * (gI w 130 7)) + nI (tp i)) - 48 = nI (hvS tp a (i + 1 - a)) := by
          rw [h7 (by omega), show (10 : Int32) = nI 10 from rfl, pk_mul, nI_add, show (48 : Int32) = nI 48 from rfl, pk_sub (by omega), show i + 1 - a = (i - a) + 1 by omega, hvS, show a + (i - a) = i by omega, Nat.mul_comm]
        rw [show (3 : Int32) = nI 3 from rfl, if_neg (fun q9 => absurd ((le_nI (by omega) (by omega)).mp q9) (by omega)), look9 hn T (by omega), if_neg (by omega), bind_some', f_X9_next_188, nI_1, nI_1]
        dsimp only
        rw [ev]
        obtain ⟨w', b1, b2, b3, b4⟩ := ih (i + 1) m (sI w 130 7 (nI (hvS tp a (i + 1 - a)))) (by omega) (by omega) (by omega) ⟨fun j hj => by rw [gI_sI, if_neg (by omega)]; exact T.1 j hj, by rw [gI_sI, if_neg (by omega)]; exact T.2⟩ (fun _ => gI_same _ _ _ _)
        rw [show i - a + 1 = i + 1 - a by omega]
        exact ⟨w', b1, b2, b3.trans (by rw [gI_sI, if_neg (by omega)]), b4⟩
    · rw [if_neg z, if_pos rfl, rn_f (by omega) z]
      exact ⟨w, rfl, T, rfl, h7⟩
theorem next9 (hn : n ≤ 900) (htp : ∀ j, tp j < 256) {w : GW} {p : Nat} (hp : p ≤ n) (T : TPm w tp n) (h5 : gI w 130 5 = nI p) : ∃ w', f_X9_next w = some ((), w') ∧ MT w' tp n p := by
  obtain ⟨hA1, hA2⟩ := tA_ge (tp := tp) hp
  obtain ⟨m5, hm5⟩ : ∃ m5, fu = m5 + 1 := ⟨fu - 1, by rw [fu_eq]⟩
  have key : ∀ d i m, i + d = n → d < m → ∃ m', f_X9_next_5 m (nI i) w = f_X9_next_5 (m' + 1) (nI (rn isBl tp n i)) w := by
    intro d
    induction d with
    | zero =>
      intro i m hi hm
      obtain ⟨m, rfl⟩ : ∃ m9, m = m9 + 1 := ⟨m - 1, by omega⟩
      exact ⟨m, by rw [rn_e (by omega)]⟩
    | succ d ih =>
      intro i m hi hm
      obtain ⟨m, rfl⟩ : ∃ m9, m = m9 + 1 := ⟨m - 1, by omega⟩
      have hc := htp i
      by_cases z : tp i = 32
      · obtain ⟨m', e⟩ := ih (i + 1) m (by omega) (by omega)
        refine ⟨m', ?_⟩
        rw [rn_s (by omega) (by unfold isBl; rw [decide_eq_true_eq]; exact z), ← e]
        rw [f_X9_next_5, look9 hn T (by omega), if_neg (by omega), bind_some', show (32 : Int32) = nI 32 from rfl]
        dsimp only
        rw [if_pos ((eq_nI (by omega) (by omega)).mpr (by omega)), nI_1]
      · exact ⟨m, by rw [rn_f (by omega) (by unfold isBl; rw [decide_eq_true_eq]; exact z)]⟩
  obtain ⟨m', e0⟩ := key (n - p) p fu (by omega) (fu_gt (by omega))
  have e0' : f_X9_next w = f_X9_next_5 (m' + 1) (nI (tA tp n p)) w := by rw [f_X9_next, h5]; exact e0
  have hbl : tA tp n p < n → tp (tA tp n p) ≠ 32 := by
    intro h q
    have e : rn isBl tp n (tA tp n p) = tA tp n p + 1 ∨ tA tp n p + 1 ≤ rn isBl tp n (tA tp n p) := by
      rw [rn_s h (by unfold isBl; rw [decide_eq_true_eq]; exact q)]
      have := (rn_ge (P := isBl) (tp := tp) (n := n) (n - (tA tp n p + 1)) (tA tp n p + 1) (by omega)).1
      omega
    have idem : ∀ d i, i + d = n → rn isBl tp n (rn isBl tp n i) = rn isBl tp n i := by
      intro d
      induction d with
      | zero => intro i hi; rw [rn_e (i := i) (by omega), rn_e (by omega)]
      | succ d ih =>
        intro i hi
        by_cases y : isBl (tp i) = true
        · rw [rn_s (by omega) y]; exact ih (i + 1) (by omega)
        · rw [rn_f (by omega) y, rn_f (by omega) y]
    have e2 : rn isBl tp n (tA tp n p) = tA tp n p := idem (n - p) p (by omega)
    omega
  rw [e0']
  generalize ha : tA tp n p = a at *
  have T4 : TPm (sI w 130 4 (nI a)) tp n := ⟨fun j hj => by rw [gI_sI, if_neg (by omega)]; exact T.1 j hj, by rw [gI_sI, if_neg (by omega)]; exact T.2⟩
  have T8 : TPm (sI (sI (sI w 130 4 (nI a)) 130 8 0) 130 7 0) tp n := ⟨fun j hj => by rw [gI_sI, if_neg (by omega), gI_sI, if_neg (by omega)]; exact T4.1 j hj, by rw [gI_sI, if_neg (by omega), gI_sI, if_neg (by omega)]; exact T4.2⟩
  have g4 : gI (sI (sI (sI w 130 4 (nI a)) 130 8 0) 130 7 0) 130 4 = nI a := by rw [gI_sI, if_neg (by omega), gI_sI, if_neg (by omega), gI_same]
  -- the last two writes
  have fin : ∀ (k : Nat) (w' : GW), TPm w' tp n → gI w' 130 4 = nI a → tK tp n p = k → (k = 1 → gI w' 130 8 = nI (tE tp n p - a) ∧ ∀ j, j < tE tp n p - a → gI w' 132 j = nI (tp (a + j))) → (k = 2 → gI w' 130 7 = nI (tV tp n p)) → MT (sI (sI w' 130 5 (nI (tE tp n p))) 130 6 (nI (mK k))) tp n p := by
    intro k w' a1 a2 a3 a4 a5
    subst a3
    refine ⟨⟨fun j hj => ?_, ?_⟩, ?_, ?_, gI_same _ _ _ _, fun q => ⟨?_, fun j hj => ?_⟩, fun q => ?_⟩
    · rw [gI_sI, if_neg (by omega), gI_sI, if_neg (by omega)]; exact a1.1 j hj
    · rw [gI_sI, if_neg (by omega), gI_sI, if_neg (by omega)]; exact a1.2
    · rw [gI_sI, if_neg (by omega), gI_sI, if_neg (by omega), ha]; exact a2
    · rw [gI_sI, if_neg (by omega), gI_same]
    · rw [gI_sI, if_neg (by omega), gI_sI, if_neg (by omega), ha]; exact (a4 q).1
    · rw [gI_sI, if_neg (by omega), gI_sI, if_neg (by omega), ha]; exact (a4 q).2 j (by rw [← ha]; exact hj)
    · rw [gI_sI, if_neg (by omega), gI_sI, if_neg (by omega)]; exact a5 q
  by_cases z : n ≤ a
  · have eK : tK tp n p = 0 := by unfold tK; rw [ha, if_pos z]
    have eE : tE tp n p = a := by unfold tE; rw [ha, if_pos z]
    refine ⟨sI (sI (sI (sI (sI w 130 4 (nI a)) 130 8 0) 130 7 0) 130 6 0) 130 5 (nI a), ?_, ⟨⟨fun j hj => ?_, ?_⟩, ?_, ?_, ?_, fun q => ?_, fun q => ?_⟩⟩
    · rw [f_X9_next_5, look9 hn T (by omega), if_pos z, bind_some', if_neg (show ¬ (-1 : Int32) = 32 from by decide)]
      dsimp only
      rw [look9 hn T4 (by omega), if_pos z, bind_some', if_pos rfl]
    · rw [gI_sI, if_neg (by omega), gI_sI, if_neg (by omega)]; exact T8.1 j hj
    · rw [gI_sI, if_neg (by omega), gI_sI, if_neg (by omega)]; exact T8.2
    · rw [gI_sI, if_neg (by omega), gI_sI, if_neg (by omega), ha]; exact g4
    · rw [gI_same, eE]
    · rw [gI_sI, if_neg (by omega), gI_same, eK]; rfl
    · omega
    · omega
  · have hc := htp a
    have e1 : f_X9_next_5 (m' + 1) (nI a) w = if (if isLe (tp a) = true then (1 : Int32) else 0) = 0 then (if (if isDi (tp a) = true then (1 : Int32) else 0) = 0 then (if nI (tp a) = nI 59 then some ((), sI (sI (sI (sI (sI w 130 4 (nI a)) 130 8 0) 130 7 0) 130 5 (nI (a + 1))) 130 6 (nI (tp a))) else if nI (tp a) = nI 44 then some ((), sI (sI (sI (sI (sI w 130 4 (nI a)) 130 8 0) 130 7 0) 130 5 (nI (a + 1))) 130 6 (nI (tp a))) else some ((), sI (sI (sI (sI (sI w 130 4 (nI a)) 130 8 0) 130 7 0) 130 5 (nI (a + 1))) 130 6 1)) else f_X9_next_152 fu (nI a) 0 (sI (sI (sI w 130 4 (nI a)) 130 8 0) 130 7 0)) else f_X9_next_67 fu (nI a) (sI (sI (sI w 130 4 (nI a)) 130 8 0) 130 7 0) := by
      have hb := hbl (by omega)
      rw [f_X9_next_5, look9 hn T (by omega), if_neg z, bind_some', show (32 : Int32) = nI 32 from rfl]
      dsimp only
      rw [if_neg (fun q9 => absurd ((eq_nI (by omega) (by omega)).mp q9) (by omega)), look9 hn T4 (by omega), if_neg z, bind_some', if_neg (fun q => absurd q.symm (m1_ne (by omega)))]
      dsimp only
      rw [isS9 hc, bind_some']
      dsimp only
      rw [isD9 hc, bind_some', nI_1]
      rfl
    have eE : tE tp n p = if isLe (tp a) = true then rn isLe tp n a else if isDi (tp a) = true then rn isDi tp n a else a + 1 := by unfold tE; rw [ha, if_neg z]
    have eK : tK tp n p = if isLe (tp a) = true then (if rn isLe tp n a - a ≤ 8 then 1 else 5) else if isDi (tp a) = true then (if rn isDi tp n a - a ≤ 3 then 2 else 5) else if tp a = 59 then 3 else if tp a = 44 then 4 else 5 := by unfold tK; rw [ha, if_neg z]
    rw [e1]
    by_cases l : isLe (tp a) = true
    · rw [if_pos l, if_neg one_ne]
      rw [if_pos l] at eE eK
      obtain ⟨r1, r2, _⟩ := rn_ge (P := isLe) (tp := tp) (n := n) (n - a) a (by omega)
      obtain ⟨w1, b1, b2, b3, b4, b5⟩ := next67 hn htp (a := a) (n - a) a fu _ (by omega) (fu_gt (by omega)) (Nat.le_refl _) T8 (by rw [gI_sI, if_neg (by omega), gI_same, Nat.sub_self]; rfl) (fun j h1 _ => by omega)
      rw [b1, show (8 : Int32) = nI 8 from rfl]
      have b4' := b4
      rw [← eE] at b4' b5
      by_cases y : rn isLe tp n a - a ≤ 8
      · rw [if_pos y] at eK
        rw [if_pos ((le_nI (by omega) (by omega)).mpr (by omega)), ← eE]
        exact ⟨_, rfl, fin 1 w1 b2 (b3.trans g4) eK (fun _ => ⟨b4', fun j hj => b5 j hj (by rw [eE] at hj; omega)⟩) (fun q => by omega)⟩
      · rw [if_neg y] at eK
        rw [if_neg (fun q9 => absurd ((le_nI (by omega) (by omega)).mp q9) (by omega)), ← eE]
        exact ⟨_, rfl, fin 5 w1 b2 (b3.trans g4) eK (fun q => by omega) (fun q => by omega)⟩
    · rw [if_neg l, if_pos rfl]
      rw [if_neg l] at eE eK
      by_cases d : isDi (tp a) = true
      · rw [if_pos d, if_neg one_ne]
        rw [if_pos d] at eE eK
        obtain ⟨r1, r2, _⟩ := rn_ge (P := isDi) (tp := tp) (n := n) (n - a) a (by omega)
        obtain ⟨w1, b1, b2, b3, b4⟩ := next152 hn htp (a := a) (n - a) a fu _ (by omega) (fu_gt (by omega)) (Nat.le_refl _) T8 (fun _ => by rw [gI_same, Nat.sub_self]; rfl)
        rw [Nat.sub_self] at b1
        have b1' : f_X9_next_152 fu (nI a) 0 (sI (sI (sI w 130 4 (nI a)) 130 8 0) 130 7 0) = _ := b1
        rw [b1', show (3 : Int32) = nI 3 from rfl]
        by_cases y : rn isDi tp n a - a ≤ 3
        · rw [if_pos y] at eK
          rw [if_pos ((le_nI (by omega) (by omega)).mpr (by omega)), ← eE]
          refine ⟨_, rfl, fin 2 w1 b2 (b3.trans g4) eK (fun q => by omega) (fun _ => ?_)⟩
          unfold tV
          rw [ha, eE]
          exact b4 y
        · rw [if_neg y] at eK
          rw [if_neg (fun q9 => absurd ((le_nI (by omega) (by omega)).mp q9) (by omega)), ← eE]
          exact ⟨_, rfl, fin 5 w1 b2 (b3.trans g4) eK (fun q => by omega) (fun q => by omega)⟩
      · rw [if_neg d, if_pos rfl]
        rw [if_neg d] at eE eK
        by_cases y : tp a = 59
        · rw [if_pos y] at eK
          rw [if_pos ((eq_nI (by omega) (by omega)).mpr (by omega)), ← eE, y]
          exact ⟨_, rfl, fin 3 _ T8 g4 eK (fun q => by omega) (fun q => by omega)⟩
        · rw [if_neg y] at eK
          rw [if_neg (fun q9 => absurd ((eq_nI (by omega) (by omega)).mp q9) (by omega))]
          by_cases x : tp a = 44
          · rw [if_pos x] at eK
            rw [if_pos ((eq_nI (by omega) (by omega)).mpr (by omega)), ← eE, x]
            exact ⟨_, rfl, fin 4 _ T8 g4 eK (fun q => by omega) (fun q => by omega)⟩
          · rw [if_neg x] at eK
            rw [if_neg (fun q9 => absurd ((eq_nI (by omega) (by omega)).mp q9) (by omega)), ← eE]
            exact ⟨_, rfl, fin 5 _ T8 g4 eK (fun q => by omega) (fun q => by omega)⟩
end MT
