/-! tokens -/
def isBl (c : Nat) : Bool := decide (c = 32)
def isLe (c : Nat) : Bool := decide (97 ≤ c ∧ c ≤ 122)
def isDi (c : Nat) : Bool := decide (48 ≤ c ∧ c ≤ 57)
def runF (P : Nat → Bool) (tp : Nat → Nat) : Nat → Nat → Nat
  | 0, i => i
  | d + 1, i => if P (tp i) = true then runF P tp d (i + 1) else i
def rn (P : Nat → Bool) (tp : Nat → Nat) (n p : Nat) : Nat := runF P tp (n - p) p
theorem rn_s {P : Nat → Bool} {tp : Nat → Nat} {n i : Nat} (h : i < n) (hp : P (tp i) = true) : rn P tp n i = rn P tp n (i + 1) := by
  unfold rn
  rw [show n - i = (n - (i + 1)) + 1 by omega, runF, if_pos hp]
theorem rn_e {P : Nat → Bool} {tp : Nat → Nat} {n i : Nat} (h : n ≤ i) : rn P tp n i = i := by
  unfold rn
  rw [show n - i = 0 by omega, runF]
theorem rn_f {P : Nat → Bool} {tp : Nat → Nat} {n i : Nat} (h : i < n) (hp : ¬ P (tp i) = true) : rn P tp n i = i := by
  unfold rn
  rw [show n - i = (n - (i + 1)) + 1 by omega, runF, if_neg hp]
theorem rn_ge {P : Nat → Bool} {tp : Nat → Nat} {n : Nat} : ∀ d i, i + d = n → i ≤ rn P tp n i ∧ rn P tp n i ≤ n ∧ ∀ j, i ≤ j → j < rn P tp n i → P (tp j) = true := by
  intro d
  induction d with
  | zero =>
    intro i hi
    rw [rn_e (by omega)]
    exact ⟨by omega, by omega, fun j _ _ => by omega⟩
  | succ d ih =>
    intro i hi
    by_cases hp : P (tp i) = true
    · obtain ⟨a, b, c⟩ := ih (i + 1) (by omega)
      rw [rn_s (by omega) hp]
      refine ⟨by omega, b, fun j h1 h2 => ?_⟩
      by_cases z : j = i
      · subst z; exact hp
      · exact c j (by omega) h2
    · rw [rn_f (by omega) hp]
      exact ⟨by omega, by omega, fun j _ _ => by omega⟩
section TK
variable (tp : Nat → Nat) (n : Nat)
/-- the token behind p: its place, kind, end, value, name -/
def tA (p : Nat) : Nat := rn isBl tp n p
def tK (p : Nat) : Nat := if n ≤ tA tp n p then 0 else if isLe (tp (tA tp n p)) = true then (if rn isLe tp n (tA tp n p) - tA tp n p ≤ 8 then 1 else 5) else if isDi (tp (tA tp n p)) = true then (if rn isDi tp n (tA tp n p) - tA tp n p ≤ 3 then 2 else 5) else if tp (tA tp n p) = 59 then 3 else if tp (tA tp n p) = 44 then 4 else 5
def tE (p : Nat) : Nat := if n ≤ tA tp n p then tA tp n p else if isLe (tp (tA tp n p)) = true then rn isLe tp n (tA tp n p) else if isDi (tp (tA tp n p)) = true then rn isDi tp n (tA tp n p) else tA tp n p + 1
def hvS (a : Nat) : Nat → Nat
  | 0 => 0
  | m + 1 => hvS a m * 10 + tp (a + m) - 48
def nvS (a : Nat) : Nat → Nat
  | 0 => 0
  | m + 1 => nvS a m * 27 + tp (a + m) - 97 + 1
def tV (p : Nat) : Nat := hvS tp (tA tp n p) (tE tp n p - tA tp n p)
def tN (p : Nat) : Nat := nvS tp (tA tp n p) (tE tp n p - tA tp n p)
end TK
section TL
variable {tp : Nat → Nat} {n : Nat}
theorem tA_ge {p : Nat} (hp : p ≤ n) : p ≤ tA tp n p ∧ tA tp n p ≤ n := by
  obtain ⟨a, b, _⟩ := rn_ge (P := isBl) (tp := tp) (n := n) (n - p) p (by omega)
  exact ⟨a, b⟩
theorem tE_ge {p : Nat} (hp : p ≤ n) : tA tp n p ≤ tE tp n p ∧ tE tp n p ≤ n ∧ (tK tp n p ≠ 0 → tA tp n p < tE tp n p) := by
  obtain ⟨h1, h2⟩ := tA_ge (tp := tp) hp
  unfold tE tK
  by_cases z : n ≤ tA tp n p
  · rw [if_pos z, if_pos z]
    exact ⟨by omega, by omega, fun h => absurd rfl h⟩
  · rw [if_neg z, if_neg z]
    by_cases l : isLe (tp (tA tp n p)) = true
    · rw [if_pos l, if_pos l, rn_s (by omega) l]
      obtain ⟨a, b, _⟩ := rn_ge (P := isLe) (tp := tp) (n := n) (n - (tA tp n p + 1)) (tA tp n p + 1) (by omega)
      exact ⟨by omega, b, fun _ => by omega⟩
    · rw [if_neg l, if_neg l]
      by_cases d : isDi (tp (tA tp n p)) = true
      · rw [if_pos d, if_pos d, rn_s (by omega) d]
        obtain ⟨a, b, _⟩ := rn_ge (P := isDi) (tp := tp) (n := n) (n - (tA tp n p + 1)) (tA tp n p + 1) (by omega)
        exact ⟨by omega, b, fun _ => by omega⟩
      · rw [if_neg d, if_neg d]
        exact ⟨by omega, by omega, fun _ => by omega⟩
theorem tK_1 {p : Nat} (hp : p ≤ n) (h : tK tp n p = 1) : tE tp n p - tA tp n p ≤ 8 ∧ ∀ j, j < tE tp n p - tA tp n p → isLe (tp (tA tp n p + j)) = true := by
  unfold tK at h
  unfold tE
  by_cases z : n ≤ tA tp n p
  · rw [if_pos z] at h; omega
  · rw [if_neg z] at h ⊢
    by_cases l : isLe (tp (tA tp n p)) = true
    · rw [if_pos l] at h ⊢
      obtain ⟨_, b, c⟩ := rn_ge (P := isLe) (tp := tp) (n := n) (n - tA tp n p) (tA tp n p) (by omega)
      refine ⟨?_, fun j hj => c _ (by omega) (by omega)⟩
      by_cases y : rn isLe tp n (tA tp n p) - tA tp n p ≤ 8
      · exact y
      · rw [if_neg y] at h; omega
    · rw [if_neg l] at h
      exfalso
      revert h
      split
      · split <;> omega
      · split
        · omega
        · split <;> omega
theorem tK_2 {p : Nat} (hp : p ≤ n) (h : tK tp n p = 2) : tE tp n p - tA tp n p ≤ 3 ∧ ∀ j, j < tE tp n p - tA tp n p → isDi (tp (tA tp n p + j)) = true := by
  unfold tK at h
  unfold tE
  by_cases z : n ≤ tA tp n p
  · rw [if_pos z] at h; omega
  · rw [if_neg z] at h ⊢
    by_cases l : isLe (tp (tA tp n p)) = true
    · rw [if_pos l] at h
      exfalso
      revert h
      split <;> omega
    · rw [if_neg l] at h ⊢
      by_cases d : isDi (tp (tA tp n p)) = true
      · rw [if_pos d] at h ⊢
        obtain ⟨_, b, c⟩ := rn_ge (P := isDi) (tp := tp) (n := n) (n - tA tp n p) (tA tp n p) (by omega)
        refine ⟨?_, fun j hj => c _ (by omega) (by omega)⟩
        by_cases y : rn isDi tp n (tA tp n p) - tA tp n p ≤ 3
        · exact y
        · rw [if_neg y] at h; omega
      · rw [if_neg d] at h
        exfalso
        revert h
        split
        · omega
        · split <;> omega
theorem hvS_lt {a : Nat} : ∀ m, (∀ j, j < m → isDi (tp (a + j)) = true) → hvS tp a m < 10 ^ m := by
  intro m
  induction m with
  | zero => intro _; rw [hvS]; exact Nat.one_pos
  | succ m ih =>
    intro h
    have h1 := ih (fun j hj => h j (by omega))
    have h2 := h m (by omega)
    unfold isDi at h2
    rw [decide_eq_true_eq] at h2
    rw [hvS, Nat.pow_succ]
    omega
theorem tV_lt {p : Nat} (hp : p ≤ n) (h : tK tp n p = 2) : tV tp n p < 1000 := by
  obtain ⟨a, b⟩ := tK_2 hp h
  have h1 := hvS_lt (tp := tp) (a := tA tp n p) _ b
  have h2 : (10 : Nat) ^ (tE tp n p - tA tp n p) ≤ 10 ^ 3 := Nat.pow_le_pow_right (by omega) a
  unfold tV
  omega
end TL
/-! the class's tokens -/
section CTs
variable {tp : Nat → Nat} {n : Nat}
def TPc (w : GW) (tp : Nat → Nat) (n : Nat) : Prop := (∀ j, j < n → gI w 2 j = nI (tp j)) ∧ gI w 1 1 = nI n
def CT0 (w : GW) (tp : Nat → Nat) (n p : Nat) : Prop := TPc w tp n ∧ gI w 1 4 = nI (tA tp n p) ∧ gI w 1 5 = nI (tK tp n p) ∧ (tK tp n p ≠ 0 → gI w 1 2 = nI (tE tp n p)) ∧ (tK tp n p = 2 → gI w 1 6 = nI (tV tp n p)) ∧ (tK tp n p = 1 → gL w 1 7 = lN (tN tp n p))
theorem isL7 {c : Nat} {w : GW} (hc : c < 256) : f_X7_isLetter (nI c) w = some (if isLe c = true then 1 else 0, w) := by
  rw [f_X7_isLetter, show (97 : Int32) = nI 97 from rfl, show (122 : Int32) = nI 122 from rfl]
  unfold isLe
  by_cases a : c < 97
  · rw [if_pos ((lt_nI (by omega) (by omega)).mpr (by omega)), if_neg (by rw [decide_eq_true_eq]; omega)]
  · rw [if_neg (fun q9 => absurd ((lt_nI (by omega) (by omega)).mp q9) (by omega))]
    by_cases b : 122 < c
    · rw [if_pos ((lt_nI (by omega) (by omega)).mpr (by omega)), if_neg (by rw [decide_eq_true_eq]; omega)]
    · rw [if_neg (fun q9 => absurd ((lt_nI (by omega) (by omega)).mp q9) (by omega)), if_pos (by rw [decide_eq_true_eq]; omega)]
theorem isD7 {c : Nat} {w : GW} (hc : c < 256) : f_X7_isDigit (nI c) w = some (if isDi c = true then 1 else 0, w) := by
  rw [f_X7_isDigit, show (48 : Int32) = nI 48 from rfl, show (57 : Int32) = nI 57 from rfl]
  unfold isDi
  by_cases a : c < 48
  · rw [if_pos ((lt_nI (by omega) (by omega)).mpr (by omega)), if_neg (by rw [decide_eq_true_eq]; omega)]
  · rw [if_neg (fun q9 => absurd ((lt_nI (by omega) (by omega)).mp q9) (by omega))]
    by_cases b : 57 < c
    · rw [if_pos ((lt_nI (by omega) (by omega)).mpr (by omega)), if_neg (by rw [decide_eq_true_eq]; omega)]
    · rw [if_neg (fun q9 => absurd ((lt_nI (by omega) (by omega)).mp q9) (by omega)), if_pos (by rw [decide_eq_true_eq]; omega)]
theorem word10 (hn : n ≤ 900) (htp : ∀ j, tp j < 256) {a : Nat} : ∀ d i m (w : GW), i + d = n → d < m → a ≤ i → TPc w tp n → gL w 1 7 = lN (nvS tp a (i - a)) → ∃ w', f_X7_word_10 m (nI i) w = f_X7_word_62 (nI (rn isLe tp n i)) w' ∧ (∀ p j, gI w' p j = gI w p j) ∧ gL w' 1 7 = lN (nvS tp a (rn isLe tp n i - a)) := by
  intro d
  induction d with
  | zero =>
    intro i m w hi hm ha T h
    obtain ⟨m, rfl⟩ : ∃ m9, m = m9 + 1 := ⟨m - 1, by omega⟩
    refine ⟨w, ?_, fun _ _ => rfl, by rw [rn_e (by omega)]; exact h⟩
    rw [f_X7_word_10, T.2, if_pos ((le_nI (by omega) (by omega)).mpr (by omega)), rn_e (by omega)]
  | succ d ih =>
    intro i m w hi hm ha T h
    obtain ⟨m, rfl⟩ : ∃ m9, m = m9 + 1 := ⟨m - 1, by omega⟩
    have hc := htp i
    rw [f_X7_word_10, T.2, if_neg (fun q9 => absurd ((le_nI (by omega) (by omega)).mp q9) (by omega)), if_pos ((inb_nI (by omega)).mpr (by omega)), ix_nI (by omega), T.1 i (by omega), isL7 hc, bind_some']
    by_cases z : isLe (tp i) = true
    · have hle : 97 ≤ tp i ∧ tp i ≤ 122 := by unfold isLe at z; rwa [decide_eq_true_eq] at z
      rw [if_pos z, if_neg one_ne, if_pos ((inb_nI (by omega)).mpr (by omega)), rn_s (by omega) z]
      have ev : ((((gL w 1 7) * 27) + ((gI w 2 i).toInt64)) - 97) + 1 = lN (nvS tp a (i + 1 - a)) := by
        rw [h, T.1 i (by omega), nI_l (by omega), show (27 : Int64) = lN 27 from rfl, lN_mul, lN_add, show (97 : Int64) = lN 97 from rfl, lN_sub (by omega), show (1 : Int64) = lN 1 from rfl, lN_add, show i + 1 - a = (i - a) + 1 by omega, nvS, show a + (i - a) = i by omega]
      obtain ⟨w', b1, b2, b3⟩ := ih (i + 1) m (sL w 1 7 (lN (nvS tp a (i + 1 - a)))) (by omega) (by omega) (by omega) T (gL_same _ _ _ _)
      refine ⟨w', ?_, fun p j => (b2 p j).trans rfl, b3⟩
      dsimp only
      rw [ev, nI_1]
      exact b1
    · rw [if_neg z, if_pos rfl, rn_f (by omega) z]
      exact ⟨w, rfl, fun _ _ => rfl, h⟩
theorem whole10 (hn : n ≤ 900) (htp : ∀ j, tp j < 256) {a : Nat} : ∀ d i m (w : GW), i + d = n → d < m → a ≤ i → TPc w tp n → gI w 1 6 = nI (hvS tp a (i - a)) → ∃ w', f_X7_whole_10 m (nI i) w = f_X7_whole_57 (nI (rn isDi tp n i)) w' ∧ (∀ p j, ¬ (p = 1 ∧ j = 6) → gI w' p j = gI w p j) ∧ gI w' 1 6 = nI (hvS tp a (rn isDi tp n i - a)) := by
  intro d
  induction d with
  | zero =>
    intro i m w hi hm ha T h
    obtain ⟨m, rfl⟩ : ∃ m9, m = m9 + 1 := ⟨m - 1, by omega⟩
    refine ⟨w, ?_, fun _ _ _ => rfl, by rw [rn_e (by omega)]; exact h⟩
    rw [f_X7_whole_10, T.2, if_pos ((le_nI (by omega) (by omega)).mpr (by omega)), rn_e (by omega)]
  | succ d ih =>
    intro i m w hi hm ha T h
    obtain ⟨m, rfl⟩ : ∃ m9, m = m9 + 1 := ⟨m - 1, by omega⟩
    have hc := htp i
    rw [f_X7_whole_10, T.2, if_neg (fun q9 => absurd ((le_nI (by omega) (by omega)).mp q9) (by omega)), if_pos ((inb_nI (by omega)).mpr (by omega)), ix_nI (by omega), T.1 i (by omega), isD7 hc, bind_some']
    by_cases z : isDi (tp i) = true
    · have hle : 48 ≤ tp i ∧ tp i ≤ 57 := by unfold isDi at z; rwa [decide_eq_true_eq] at z
      rw [if_pos z, if_neg one_ne, if_pos ((inb_nI (by omega)).mpr (by omega)), rn_s (by omega) z]
      have ev : (((gI w 1 6) * 10) + (gI w 2 i)) - 48 = nI (hvS tp a (i + 1 - a)) := by
        rw [h, T.1 i (by omega), show (10 : Int32) = nI 10 from rfl, pk_mul, nI_add, show (48 : Int32) = nI 48 from rfl, pk_sub (by omega), show i + 1 - a = (i - a) + 1 by omega, hvS, show a + (i - a) = i by omega]
      obtain ⟨w', b1, b2, b3⟩ := ih (i + 1) m (sI w 1 6 (nI (hvS tp a (i + 1 - a)))) (by omega) (by omega) (by omega) ⟨fun j hj => by rw [gI_sI, if_neg (by omega)]; exact T.1 j hj, by rw [gI_sI, if_neg (by omega)]; exact T.2⟩ (gI_same _ _ _ _)
      refine ⟨w', ?_, fun p j hpj => by rw [b2 p j hpj, gI_sI, if_neg hpj], b3⟩
      dsimp only
      rw [ev, nI_1]
      exact b1
    · rw [if_neg z, if_pos rfl, rn_f (by omega) z]
      exact ⟨w, rfl, fun _ _ _ => rfl, h⟩
theorem advance (hn : n ≤ 900) (htp : ∀ j, tp j < 256) {w : GW} {p : Nat} (hp : p ≤ n) (T : TPc w tp n) (h2 : gI w 1 2 = nI p) : ∃ w', f_X7_advance w = some ((), w') ∧ CT0 w' tp n p := by
  obtain ⟨hA1, hA2⟩ := tA_ge (tp := tp) hp
  have key : ∀ d i m, i + d = n → d < m → f_X7_advance_5 m (nI i) w = f_X7_advance_30 (nI (rn isBl tp n i)) w := by
    intro d
    induction d with
    | zero =>
      intro i m hi hm
      obtain ⟨m, rfl⟩ : ∃ m9, m = m9 + 1 := ⟨m - 1, by omega⟩
      rw [f_X7_advance_5, T.2, if_pos ((le_nI (by omega) (by omega)).mpr (by omega)), rn_e (by omega)]
    | succ d ih =>
      intro i m hi hm
      obtain ⟨m, rfl⟩ : ∃ m9, m = m9 + 1 := ⟨m - 1, by omega⟩
      have hc := htp i
      rw [f_X7_advance_5, T.2, if_neg (fun q9 => absurd ((le_nI (by omega) (by omega)).mp q9) (by omega)), if_pos ((inb_nI (by omega)).mpr (by omega)), ix_nI (by omega), T.1 i (by omega), show (32 : Int32) = nI 32 from rfl]
      by_cases z : tp i = 32
      · rw [if_pos ((eq_nI (by omega) (by omega)).mpr (by omega)), nI_1, rn_s (by omega) (by unfold isBl; rw [decide_eq_true_eq]; exact z)]
        exact ih (i + 1) m (by omega) (by omega)
      · rw [if_neg (fun q9 => absurd ((eq_nI (by omega) (by omega)).mp q9) (by omega)), rn_f (by omega) (by unfold isBl; rw [decide_eq_true_eq]; exact z)]
  have e0 := key (n - p) p fu (by omega) (fu_gt (by omega))
  have e0' : f_X7_advance w = f_X7_advance_30 (nI (tA tp n p)) w := by rw [f_X7_advance, h2]; exact e0
  rw [e0']
  generalize ha : tA tp n p = a at *
  have T4 : TPc (sI w 1 4 (nI a)) tp n := ⟨fun j hj => by rw [gI_sI, if_neg (by omega)]; exact T.1 j hj, by rw [gI_sI, if_neg (by omega)]; exact T.2⟩
  have fin : ∀ (k : Nat) (w' : GW), TPc w' tp n → gI w' 1 4 = nI a → tK tp n p = k → gI w' 1 5 = nI k → (k ≠ 0 → gI w' 1 2 = nI (tE tp n p)) → (k = 2 → gI w' 1 6 = nI (tV tp n p)) → (k = 1 → gL w' 1 7 = lN (tN tp n p)) → CT0 w' tp n p := by
    intro k w' a1 a2 a3 a4 a5 a6 a7
    subst a3
    exact ⟨a1, by rw [ha]; exact a2, a4, a5, a6, a7⟩
  by_cases z : n ≤ a
  · refine ⟨sI (sI w 1 4 (nI a)) 1 5 0, ?_, fin 0 _ ⟨fun j hj => by rw [gI_sI, if_neg (by omega)]; exact T4.1 j hj, by rw [gI_sI, if_neg (by omega)]; exact T4.2⟩ (by rw [gI_sI, if_neg (by omega), gI_same]) (by unfold tK; rw [ha, if_pos z]) (gI_same _ _ _ _) (fun h => absurd rfl h) (fun h => by omega) (fun h => by omega)⟩
    rw [f_X7_advance_30, T4.2, if_neg (fun q9 => absurd ((lt_nI (by omega) (by omega)).mp q9) (by omega))]
  · have hc := htp a
    have hta : gI (sI w 1 4 (nI a)) 2 a = nI (tp a) := T4.1 a (by omega)
    have e1 : f_X7_advance_30 (nI a) w = if (if isLe (tp a) = true then (1 : Int32) else 0) = 0 then (if (if isDi (tp a) = true then (1 : Int32) else 0) = 0 then (if nI (tp a) = nI 59 then f_X7_advance_121 (nI a) 3 (sI w 1 4 (nI a)) else if nI (tp a) = nI 44 then f_X7_advance_121 (nI a) 4 (sI w 1 4 (nI a)) else f_X7_advance_121 (nI a) 5 (sI w 1 4 (nI a))) else (f_X7_whole (sI w 1 4 (nI a))).bind fun q17 => some ((), q17.2)) else (f_X7_word (sI w 1 4 (nI a))).bind fun q19 => some ((), q19.2) := by
      rw [f_X7_advance_30, T4.2, if_pos ((lt_nI (by omega) (by omega)).mpr (by omega)), if_pos ((inb_nI (by omega)).mpr (by omega)), ix_nI (by omega), hta, isL7 hc, bind_some', if_pos ((inb_nI (by omega)).mpr (by omega))]
      dsimp only
      rw [hta, isD7 hc, bind_some', if_pos ((inb_nI (by omega)).mpr (by omega))]
      dsimp only
      rw [hta, if_pos ((inb_nI (by omega)).mpr (by omega))]
      rfl
    have eE : tE tp n p = if isLe (tp a) = true then rn isLe tp n a else if isDi (tp a) = true then rn isDi tp n a else a + 1 := by unfold tE; rw [ha, if_neg z]
    have eK : tK tp n p = if isLe (tp a) = true then (if rn isLe tp n a - a ≤ 8 then 1 else 5) else if isDi (tp a) = true then (if rn isDi tp n a - a ≤ 3 then 2 else 5) else if tp a = 59 then 3 else if tp a = 44 then 4 else 5 := by unfold tK; rw [ha, if_neg z]
    rw [e1]
    by_cases l : isLe (tp a) = true
    · rw [if_pos l, if_neg one_ne]
      rw [if_pos l] at eE eK
      obtain ⟨r1, r2, _⟩ := rn_ge (P := isLe) (tp := tp) (n := n) (n - a) a (by omega)
      obtain ⟨w1, b1, b2, b3⟩ := word10 hn htp (a := a) (n - a) a fu (sL (sI w 1 4 (nI a)) 1 7 0) (by omega) (fu_gt (by omega)) (Nat.le_refl _) T4 (by rw [gL_same, Nat.sub_self]; rfl)
      have g14 : gI w1 1 4 = nI a := (b2 1 4).trans (show gI (sI w 1 4 (nI a)) 1 4 = nI a from gI_same _ _ _ _)
      have eW : f_X7_word (sI w 1 4 (nI a)) = f_X7_word_62 (nI (rn isLe tp n a)) w1 := by
        rw [f_X7_word]
        have : gI (sI w 1 4 (nI a)) 1 4 = nI a := gI_same _ _ _ _
        rw [this]
        exact b1
      have done : ∀ k : Nat, tK tp n p = k → k = 1 ∨ k = 5 → CT0 (sI (sI w1 1 5 (nI k)) 1 2 (nI (rn isLe tp n a))) tp n p := by
        intro k hk hk2
        refine fin k _ ⟨fun j hj => ?_, ?_⟩ ?_ hk ?_ (fun _ => ?_) (fun h => by omega) (fun _ => ?_)
        · rw [gI_sI, if_neg (by omega), gI_sI, if_neg (by omega), b2]; exact T4.1 j hj
        · rw [gI_sI, if_neg (by omega), gI_sI, if_neg (by omega), b2]; exact T4.2
        · rw [gI_sI, if_neg (by omega), gI_sI, if_neg (by omega)]; exact g14
        · rw [gI_sI, if_neg (by omega), gI_same]
        · rw [gI_same, eE]
        · unfold tN
          rw [ha, eE]; exact b3
      rw [eW, f_X7_word_62, g14, pk_sub (by omega), show (8 : Int32) = nI 8 from rfl]
      by_cases y : rn isLe tp n a - a ≤ 8
      · rw [if_pos y] at eK
        rw [if_pos ((le_nI (by omega) (by omega)).mpr (by omega))]
        exact ⟨_, rfl, done 1 eK (Or.inl rfl)⟩
      · rw [if_neg y] at eK
        rw [if_neg (fun q9 => absurd ((le_nI (by omega) (by omega)).mp q9) (by omega))]
        exact ⟨_, rfl, done 5 eK (Or.inr rfl)⟩
    · rw [if_neg l, if_pos rfl]
      rw [if_neg l] at eE eK
      by_cases d : isDi (tp a) = true
      · rw [if_pos d, if_neg one_ne]
        rw [if_pos d] at eE eK
        obtain ⟨r1, r2, _⟩ := rn_ge (P := isDi) (tp := tp) (n := n) (n - a) a (by omega)
        obtain ⟨w1, b1, b2, b3⟩ := whole10 hn htp (a := a) (n - a) a fu (sI (sI w 1 4 (nI a)) 1 6 0) (by omega) (fu_gt (by omega)) (Nat.le_refl _) ⟨fun j hj => by rw [gI_sI, if_neg (by omega)]; exact T4.1 j hj, by rw [gI_sI, if_neg (by omega)]; exact T4.2⟩ (by rw [gI_same, Nat.sub_self]; rfl)
        have g14 : gI w1 1 4 = nI a := by rw [b2 1 4 (by omega), gI_sI, if_neg (by omega), gI_same]
        have eW : f_X7_whole (sI w 1 4 (nI a)) = f_X7_whole_57 (nI (rn isDi tp n a)) w1 := by
          rw [f_X7_whole]
          have : gI (sI w 1 4 (nI a)) 1 4 = nI a := gI_same _ _ _ _
          rw [this]
          exact b1
        have done : ∀ k : Nat, tK tp n p = k → k = 2 ∨ k = 5 → CT0 (sI (sI w1 1 5 (nI k)) 1 2 (nI (rn isDi tp n a))) tp n p := by
          intro k hk hk2
          refine fin k _ ⟨fun j hj => ?_, ?_⟩ ?_ hk ?_ (fun _ => ?_) (fun h => ?_) (fun h => by omega)
          · rw [gI_sI, if_neg (by omega), gI_sI, if_neg (by omega), b2 2 j (by omega), gI_sI, if_neg (by omega)]; exact T4.1 j hj
          · rw [gI_sI, if_neg (by omega), gI_sI, if_neg (by omega), b2 1 1 (by omega), gI_sI, if_neg (by omega)]; exact T4.2
          · rw [gI_sI, if_neg (by omega), gI_sI, if_neg (by omega)]; exact g14
          · rw [gI_sI, if_neg (by omega), gI_same]
          · rw [gI_same, eE]
          · unfold tV
            rw [ha, eE, gI_sI, if_neg (by omega), gI_sI, if_neg (by omega)]; exact b3
        rw [eW, f_X7_whole_57, g14, pk_sub (by omega), show (3 : Int32) = nI 3 from rfl]
        by_cases y : rn isDi tp n a - a ≤ 3
        · rw [if_pos y] at eK
          rw [if_pos ((le_nI (by omega) (by omega)).mpr (by omega))]
          exact ⟨_, rfl, done 2 eK (Or.inl rfl)⟩
        · rw [if_neg y] at eK
          rw [if_neg (fun q9 => absurd ((le_nI (by omega) (by omega)).mp q9) (by omega))]
          exact ⟨_, rfl, done 5 eK (Or.inr rfl)⟩
      · rw [if_neg d, if_pos rfl]
        rw [if_neg d] at eE eK
        have done : ∀ k : Nat, tK tp n p = k → 3 ≤ k → f_X7_advance_121 (nI a) (nI k) (sI w 1 4 (nI a)) = some ((), sI (sI (sI w 1 4 (nI a)) 1 5 (nI k)) 1 2 (nI (a + 1))) ∧ CT0 (sI (sI (sI w 1 4 (nI a)) 1 5 (nI k)) 1 2 (nI (a + 1))) tp n p := by
          intro k hk hk2
          refine ⟨by rw [f_X7_advance_121, nI_1], fin k _ ⟨fun j hj => ?_, ?_⟩ ?_ hk ?_ (fun _ => ?_) (fun h => by omega) (fun h => by omega)⟩
          · rw [gI_sI, if_neg (by omega), gI_sI, if_neg (by omega)]; exact T4.1 j hj
          · rw [gI_sI, if_neg (by omega), gI_sI, if_neg (by omega)]; exact T4.2
          · rw [gI_sI, if_neg (by omega), gI_sI, if_neg (by omega), gI_same]
          · rw [gI_sI, if_neg (by omega), gI_same]
          · rw [gI_same, eE]
        by_cases y : tp a = 59
        · rw [if_pos y] at eK
          rw [if_pos ((eq_nI (by omega) (by omega)).mpr (by omega))]
          exact ⟨_, (done 3 eK (by omega)).1, (done 3 eK (by omega)).2⟩
        · rw [if_neg y] at eK
          rw [if_neg (fun q9 => absurd ((eq_nI (by omega) (by omega)).mp q9) (by omega))]
          by_cases x : tp a = 44
          · rw [if_pos x] at eK
            rw [if_pos ((eq_nI (by omega) (by omega)).mpr (by omega))]
            exact ⟨_, (done 4 eK (by omega)).1, (done 4 eK (by omega)).2⟩
          · rw [if_neg x] at eK
            rw [if_neg (fun q9 => absurd ((eq_nI (by omega) (by omega)).mp q9) (by omega))]
            exact ⟨_, (done 5 eK (by omega)).1, (done 5 eK (by omega)).2⟩
end CTs
/-- and no fault so far -/
def CT (w : GW) (tp : Nat → Nat) (n p : Nat) : Prop := TPc w tp n ∧ gI w 1 4 = nI (tA tp n p) ∧ gI w 1 5 = nI (tK tp n p) ∧ (tK tp n p ≠ 0 → gI w 1 2 = nI (tE tp n p)) ∧ (tK tp n p = 2 → gI w 1 6 = nI (tV tp n p)) ∧ (tK tp n p = 1 → gL w 1 7 = lN (tN tp n p)) ∧ gI w 3 3 = 0
theorem CT0.c {w : GW} {tp : Nat → Nat} {n p : Nat} (C : CT0 w tp n p) (h : gI w 3 3 = 0) : CT w tp n p := ⟨C.1, C.2.1, C.2.2.1, C.2.2.2.1, C.2.2.2.2.1, C.2.2.2.2.2, h⟩
