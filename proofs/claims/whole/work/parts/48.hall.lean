/-! the hall's small functions, as both classes have them -/
def nx (B b : Nat) : Nat := if b + 1 < B then b + 1 else 0
theorem nx_lt {B b : Nat} (h : b < B) : nx B b < B := by unfold nx; split <;> omega
theorem nx_mod {B b : Nat} (h : b < B) : (b + 1) % B = nx B b := by
  unfold nx
  split
  · next q => exact Nat.mod_eq_of_lt q
  · next q =>
    have : b + 1 = B := by omega
    rw [this, Nat.mod_self]
/-- the box that has a letter for which b is taken -/
def goS (B : Nat) (rm u : Nat → Nat) : Nat → Nat → Option Nat
  | 0, _ => none
  | n + 1, b => if u b < rm b then some b else goS B rm u n (nx B b)
def goT (B : Nat) (rm u : Nat → Nat) (b : Nat) : Option Nat := goS B rm u B b
theorem roomFrom_eq {w : GW} {k0 k1 B : Nat} {rm u : Nat → Nat} (hB : gI w k0 1 = nI B) (hB5 : B ≤ 5) (hr : ∀ b, b < B → gI w (k0 + 1) b = nI (rm b)) (hu : ∀ b, b < B → gI w k1 b = nI (u b)) (hr8 : ∀ b, rm b ≤ 8) (hu8 : ∀ b, u b ≤ 8) : ∀ (d i n b : Nat), i + d = B → d < n → b < B → f_X3_roomFrom_5 n k0 k1 (nI b) (nI i) w = some (oI (goS B rm u d b), w) := by
  intro d
  induction d with
  | zero =>
    intro i n b hi hn hb
    obtain ⟨n, rfl⟩ : ∃ m, n = m + 1 := ⟨n - 1, by omega⟩
    rw [f_X3_roomFrom_5, hB, if_pos ((le_nI (by omega) (by omega)).mpr (by omega))]
    rfl
  | succ d ih =>
    intro i n b hi hn hb
    obtain ⟨n, rfl⟩ : ∃ m, n = m + 1 := ⟨n - 1, by omega⟩
    have hrb := hr8 b
    have hub := hu8 b
    rw [f_X3_roomFrom_5, hB, if_neg (fun q => absurd ((le_nI (by omega) (by omega)).mp q) (by omega)), if_neg (lt0_nI (by omega)), if_neg (fun q => absurd ((le_nI (by omega) (by omega)).mp q) (by omega)), if_pos ((inb_nI (by omega)).mpr (by omega)), if_pos ((inb_nI (by omega)).mpr (by omega)), ix_nI (by omega), hr b hb, hu b hb]
    rw [goS]
    by_cases h : u b < rm b
    · rw [if_neg (fun q => absurd ((le_nI (by omega) (by omega)).mp q) (by omega)), if_pos h]
      rfl
    · rw [if_pos ((le_nI (by omega) (by omega)).mpr (by omega)), if_neg h, nI_1, f_X3_roomFrom_57, f_X3_roomFrom_57, nI_1]
      by_cases h2 : b + 1 < B
      · rw [if_neg (fun q => absurd ((le_nI (by omega) (by omega)).mp q) (by omega)), ih (i + 1) n (b + 1) (by omega) (by omega) h2]
        unfold nx
        rw [if_pos h2]
      · rw [if_pos ((le_nI (by omega) (by omega)).mpr (by omega)), show (0 : Int32) = nI 0 from rfl, ih (i + 1) n 0 (by omega) (by omega) (by omega)]
        unfold nx
        rw [if_neg h2]
theorem roomFrom {w : GW} {k0 k1 B : Nat} {rm u : Nat → Nat} (hB : gI w k0 1 = nI B) (hB5 : B ≤ 5) (hr : ∀ b, b < B → gI w (k0 + 1) b = nI (rm b)) (hu : ∀ b, b < B → gI w k1 b = nI (u b)) (hr8 : ∀ b, rm b ≤ 8) (hu8 : ∀ b, u b ≤ 8) {b : Nat} (hb : b < B) : f_X3_roomFrom k0 k1 (nI b) w = some (oI (goT B rm u b), w) := by
  rw [f_X3_roomFrom, show (0 : Int32) = nI 0 from rfl]
  exact roomFrom_eq hB hB5 hr hu hr8 hu8 B 0 fu b (by omega) (fu_gt (by omega)) hb
/-- the first of the fullest, the first of the emptiest -/
def mvP (u : Nat → Nat) : Nat → Nat → Nat → Nat → Nat × Nat
  | 0, _, f, t => (f, t)
  | d + 1, i, f, t => mvP u d (i + 1) (if u f < u i then i else f) (if u i < u t then i else t)
def mvE (rm u : Nat → Nat) (q : Nat × Nat) : Nat → Nat := if u q.1 < u q.2 + 2 ∨ rm q.2 ≤ u q.2 then u else fun b => if b = q.2 then u q.2 + 1 else if b = q.1 then u q.1 - 1 else u b
/-- what is moved behind a letter of the number n -/
def mvS (B mE : Nat) (rm u : Nat → Nat) (n : Nat) : Nat → Nat := if mE = 0 ∨ ¬ n % mE = 0 then u else mvE rm u (mvP u (B - 1) 1 0 0)
theorem mv_write {w : GW} {k1 f t : Nat} {rm u : Nat → Nat} (hu : ∀ b, b < 5 → gI w k1 b = nI (u b)) (hu8 : ∀ b, u b ≤ 8) (h2 : ¬ u f < u t + 2) (h3 : ¬ rm t ≤ u t) (hf : f < 5) (ht : t < 5) : ∀ b, b < 5 → gI (sI (sI w k1 f (nI (u f) - 1)) k1 t (gI (sI w k1 f (nI (u f) - 1)) k1 t + 1)) k1 b = nI (mvE rm u (f, t) b) := by
  intro b hb
  have hft : t ≠ f := fun q => h2 (by rw [q]; omega)
  unfold mvE
  rw [if_neg (by rintro (q | q) <;> contradiction)]
  simp only [gI_sI, true_and]
  rw [if_neg hft]
  by_cases h : b = t
  · subst h
    rw [if_pos rfl, if_pos rfl, hu b hb, nI_1]
  · rw [if_neg h, if_neg h]
    by_cases h4 : b = f
    · subst h4
      rw [if_pos rfl, if_pos rfl, show (1 : Int32) = nI 1 from rfl, pk_sub (by omega)]
    · rw [if_neg h4, if_neg h4, hu b hb]
theorem move_eq {w : GW} {k0 k1 B : Nat} {rm u : Nat → Nat} (hB : gI w k0 1 = nI B) (hB5 : B ≤ 5) (hr : ∀ b, b < B → gI w (k0 + 1) b = nI (rm b)) (hu : ∀ b, b < 5 → gI w k1 b = nI (u b)) (hr8 : ∀ b, rm b ≤ 8) (hu8 : ∀ b, u b ≤ 8) : ∀ (d i n f t : Nat), i + d = B → d < n → f < B → t < B → ∃ w', f_X3_move_25 n k0 k1 (nI f) (nI t) (nI i) w = some ((), w') ∧ ∀ b, b < 5 → gI w' k1 b = nI (mvE rm u (mvP u d i f t) b) := by
  intro d
  induction d with
  | zero =>
    intro i n f t hi hn hf ht
    obtain ⟨n, rfl⟩ : ∃ m9, n = m9 + 1 := ⟨n - 1, by omega⟩
    have h1 := hu8 f
    have h2 := hu8 t
    have h3 := hr8 t
    rw [f_X3_move_25, hB, if_pos ((le_nI (by omega) (by omega)).mpr (by omega)), if_pos ((inb_nI (by omega)).mpr (by omega)), if_pos ((inb_nI (by omega)).mpr (by omega)), ix_nI (by omega), ix_nI (by omega), hu f (by omega), hu t (by omega), show (2 : Int32) = nI 2 from rfl]
    by_cases h : u f < u t + 2
    · rw [if_pos ((sub_lt (by omega) (by omega) (by omega)).mpr h)]
      refine ⟨w, rfl, fun b hb => ?_⟩
      rw [mvP, mvE, if_pos (Or.inl h)]
      exact hu b hb
    · rw [if_neg (fun q => h ((sub_lt (by omega) (by omega) (by omega)).mp q)), if_pos ((inb_nI (by omega)).mpr (by omega)), if_pos ((inb_nI (by omega)).mpr (by omega)), hr t ht]
      by_cases h4 : rm t ≤ u t
      · rw [if_pos ((le_nI (by omega) (by omega)).mpr h4)]
        refine ⟨w, rfl, fun b hb => ?_⟩
        rw [mvP, mvE, if_pos (Or.inr h4)]
        exact hu b hb
      · rw [if_neg (fun q => h4 ((le_nI (by omega) (by omega)).mp q)), if_pos ((inb_nI (by omega)).mpr (by omega)), if_pos ((inb_nI (by omega)).mpr (by omega)), if_pos ((inb_nI (by omega)).mpr (by omega)), if_pos ((inb_nI (by omega)).mpr (by omega))]
        exact ⟨_, rfl, mv_write hu hu8 h h4 (by omega) (by omega)⟩
  | succ d ih =>
    intro i n f t hi hn hf ht
    obtain ⟨n, rfl⟩ : ∃ m9, n = m9 + 1 := ⟨n - 1, by omega⟩
    have h1 := hu8 f
    have h2 := hu8 t
    have h3 := hu8 i
    have key : ∀ f', f' < B → f' = (if u f < u i then i else f) → ∃ w', f_X3_move_50 (f_X3_move_25 n) k0 k1 (nI t) (nI i) (nI f') w = some ((), w') ∧ ∀ b, b < 5 → gI w' k1 b = nI (mvE rm u (mvP u (d + 1) i f t) b) := by
      intro f' hf' e
      rw [f_X3_move_50, if_pos ((inb_nI (by omega)).mpr (by omega)), if_pos ((inb_nI (by omega)).mpr (by omega)), ix_nI (by omega), ix_nI (by omega), hu t (by omega), hu i (by omega), mvP, ← e]
      by_cases h : u i < u t
      · rw [if_neg (fun q9 => absurd ((le_nI (by omega) (by omega)).mp q9) (by omega)), f_X3_move_69, nI_1, if_pos h]
        exact ih (i + 1) n f' i (by omega) (by omega) hf' (by omega)
      · rw [if_pos ((le_nI (by omega) (by omega)).mpr (by omega)), f_X3_move_69, nI_1, if_neg h]
        exact ih (i + 1) n f' t (by omega) (by omega) hf' ht
    rw [f_X3_move_25, hB, if_neg (fun q9 => absurd ((le_nI (by omega) (by omega)).mp q9) (by omega)), if_pos ((inb_nI (by omega)).mpr (by omega)), if_pos ((inb_nI (by omega)).mpr (by omega)), ix_nI (by omega), ix_nI (by omega), hu i (by omega), hu f (by omega)]
    by_cases h : u f < u i
    · rw [if_neg (fun q9 => absurd ((le_nI (by omega) (by omega)).mp q9) (by omega))]
      exact key i (by omega) (by rw [if_pos h])
    · rw [if_pos ((le_nI (by omega) (by omega)).mpr (by omega))]
      exact key f hf (by rw [if_neg h])
theorem move {w : GW} {k0 k1 B mE : Nat} {rm u : Nat → Nat} (hB : gI w k0 1 = nI B) (hB0 : 1 ≤ B) (hB5 : B ≤ 5) (hm : gI w k0 7 = nI mE) (hm9 : mE ≤ 9) (hr : ∀ b, b < B → gI w (k0 + 1) b = nI (rm b)) (hu : ∀ b, b < 5 → gI w k1 b = nI (u b)) (hr8 : ∀ b, rm b ≤ 8) (hu8 : ∀ b, u b ≤ 8) {n : Nat} (hn : n < 1000) : ∃ w', f_X3_move k0 k1 (nI n) w = some ((), w') ∧ ∀ b, b < 5 → gI w' k1 b = nI (mvS B mE rm u n b) := by
  rw [f_X3_move, hm, show (0 : Int32) = nI 0 from rfl, mvS]
  by_cases h : mE = 0
  · rw [if_pos ((le_nI (by omega) (by omega)).mpr (by omega)), if_pos (Or.inl h)]
    exact ⟨w, rfl, hu⟩
  · rw [if_neg (fun q => h (by have := (le_nI (by omega) (by omega)).mp q; omega)), if_pos (fun q9 => absurd ((eq_nI (by omega) (by omega)).mp q9) (by omega)), irm_nI (by omega) (by omega) (by omega)]
    by_cases h2 : n % mE = 0
    · have h3 : n % mE < mE := Nat.mod_lt _ (by omega)
      rw [if_pos ((eq_nI (by omega) (by omega)).mpr h2), if_neg (by rintro (q | q); exact h q; exact q h2), show (1 : Int32) = nI 1 from rfl]
      exact move_eq hB hB5 hr hu hr8 hu8 (B - 1) 1 fu 0 0 (by omega) (fu_gt (by omega)) (by omega) (by omega)
    · have h3 : n % mE < mE := Nat.mod_lt _ (by omega)
      rw [if_neg (fun q => h2 ((eq_nI (by omega) (by omega)).mp q)), if_pos (Or.inr h2)]
      exact ⟨w, rfl, hu⟩
/-- the world behind goesTo -/
def gwT (w : GW) (u : Nat → Nat) : Option Nat → GW
  | none => w
  | some x => sI w 137 x (nI (u x + 1))
theorem goesTo_eq {w : GW} {B : Nat} {rm u : Nat → Nat} (hB : gI w 133 0 = nI B) (hB5 : B ≤ 5) (hr : ∀ b, b < B → gI w 133 (2 + b) = nI (rm b)) (hu : ∀ b, b < B → gI w 137 b = nI (u b)) (hr8 : ∀ b, rm b ≤ 8) (hu8 : ∀ b, u b ≤ 8) : ∀ (d i n b : Nat), i + d = B → d < n → b < B → f_X9_goesTo_4 n (nI b) (nI i) w = some (oI (goS B rm u d b), gwT w u (goS B rm u d b)) := by
  intro d
  induction d with
  | zero =>
    intro i n b hi hn hb
    obtain ⟨n, rfl⟩ : ∃ m9, n = m9 + 1 := ⟨n - 1, by omega⟩
    rw [f_X9_goesTo_4, if_pos (show inb _ _ from by decide), show ix (0 : Int32) = 0 from by decide, hB, if_pos ((le_nI (by omega) (by omega)).mpr (by omega))]
    rfl
  | succ d ih =>
    intro i n b hi hn hb
    obtain ⟨n, rfl⟩ : ∃ m9, n = m9 + 1 := ⟨n - 1, by omega⟩
    have hrb := hr8 b
    have hub := hu8 b
    rw [f_X9_goesTo_4, if_pos (show inb _ _ from by decide), show ix (0 : Int32) = 0 from by decide, hB, if_neg (fun q9 => absurd ((le_nI (by omega) (by omega)).mp q9) (by omega)), if_pos ((inb_nI (by omega)).mpr (by omega)), show (2 : Int32) = nI 2 from rfl, nI_add, if_pos ((inb_nI (by omega)).mpr (by omega)), ix_nI (by omega), ix_nI (by omega), hr b hb, hu b hb, goS]
    by_cases h : u b < rm b
    · rw [if_neg (fun q9 => absurd ((le_nI (by omega) (by omega)).mp q9) (by omega)), if_pos ((inb_nI (by omega)).mpr (by omega)), if_pos ((inb_nI (by omega)).mpr (by omega)), nI_1, if_pos h]
      rfl
    · rw [if_pos ((le_nI (by omega) (by omega)).mpr (by omega)), if_pos (show inb _ _ from by decide), show (0 : Int32) = nI 0 from rfl, if_pos (fun q9 => absurd ((eq_nI (by omega) (by omega)).mp q9) (by omega)), if_neg h, nI_1, irm_nI (by omega) (by omega) (by omega), nx_mod hb, nI_1]
      exact ih (i + 1) n (nx B b) (by omega) (by omega) (nx_lt hb)
theorem goesTo {w : GW} {B : Nat} {rm u : Nat → Nat} (hB : gI w 133 0 = nI B) (hB5 : B ≤ 5) (hr : ∀ b, b < B → gI w 133 (2 + b) = nI (rm b)) (hu : ∀ b, b < B → gI w 137 b = nI (u b)) (hr8 : ∀ b, rm b ≤ 8) (hu8 : ∀ b, u b ≤ 8) {b : Nat} (hb : b < B) : f_X9_goesTo (nI b) w = some (oI (goT B rm u b), gwT w u (goT B rm u b)) := by
  rw [f_X9_goesTo, show (0 : Int32) = nI 0 from rfl]
  exact goesTo_eq hB hB5 hr hu hr8 hu8 B 0 fu b (by omega) (fu_gt (by omega)) hb
theorem moves_eq {w : GW} {B : Nat} {rm u : Nat → Nat} (hB : gI w 133 0 = nI B) (hB5 : B ≤ 5) (hr : ∀ b, b < B → gI w 133 (2 + b) = nI (rm b)) (hu : ∀ b, b < 5 → gI w 137 b = nI (u b)) (hr8 : ∀ b, rm b ≤ 8) (hu8 : ∀ b, u b ≤ 8) : ∀ (d i n f t : Nat), i + d = B → d < n → f < B → t < B → ∃ w', f_X9_moves_30 n (nI f) (nI t) (nI i) w = some ((), w') ∧ ∀ b, b < 5 → gI w' 137 b = nI (mvE rm u (mvP u d i f t) b) := by
  intro d
  induction d with
  | zero =>
    intro i n f t hi hn hf ht
    obtain ⟨n, rfl⟩ : ∃ m9, n = m9 + 1 := ⟨n - 1, by omega⟩
    have h1 := hu8 f
    have h2 := hu8 t
    have h3 := hr8 t
    rw [f_X9_moves_30, if_pos (show inb _ _ from by decide), show ix (0 : Int32) = 0 from by decide, hB, if_pos ((le_nI (by omega) (by omega)).mpr (by omega)), if_pos ((inb_nI (by omega)).mpr (by omega)), if_pos ((inb_nI (by omega)).mpr (by omega)), ix_nI (by omega), ix_nI (by omega), hu f (by omega), hu t (by omega), show (2 : Int32) = nI 2 from rfl, nI_add]
    by_cases h : u f < u t + 2
    · rw [if_pos ((lt_nI (by omega) (by omega)).mpr h)]
      refine ⟨w, rfl, fun b hb => ?_⟩
      rw [mvP, mvE, if_pos (Or.inl h)]
      exact hu b hb
    · rw [if_neg (fun q => h ((lt_nI (by omega) (by omega)).mp q)), if_pos ((inb_nI (by omega)).mpr (by omega)), nI_add, if_pos ((inb_nI (by omega)).mpr (by omega)), ix_nI (by omega), hr t ht]
      by_cases h4 : rm t ≤ u t
      · rw [if_neg (fun q9 => absurd ((lt_nI (by omega) (by omega)).mp q9) (by omega))]
        refine ⟨w, rfl, fun b hb => ?_⟩
        rw [mvP, mvE, if_pos (Or.inr h4)]
        exact hu b hb
      · rw [if_pos ((lt_nI (by omega) (by omega)).mpr (by omega)), if_pos ((inb_nI (by omega)).mpr (by omega)), if_pos ((inb_nI (by omega)).mpr (by omega)), if_pos ((inb_nI (by omega)).mpr (by omega)), if_pos ((inb_nI (by omega)).mpr (by omega))]
        exact ⟨_, rfl, mv_write hu hu8 h h4 (by omega) (by omega)⟩
  | succ d ih =>
    intro i n f t hi hn hf ht
    obtain ⟨n, rfl⟩ : ∃ m9, n = m9 + 1 := ⟨n - 1, by omega⟩
    have h1 := hu8 f
    have h2 := hu8 t
    have h3 := hu8 i
    have key : ∀ f', f' < B → f' = (if u f < u i then i else f) → ∃ w', f_X9_moves_63 (f_X9_moves_30 n) (nI t) (nI i) (nI f') w = some ((), w') ∧ ∀ b, b < 5 → gI w' 137 b = nI (mvE rm u (mvP u (d + 1) i f t) b) := by
      intro f' hf' e
      rw [f_X9_moves_63, if_pos ((inb_nI (by omega)).mpr (by omega)), if_pos ((inb_nI (by omega)).mpr (by omega)), ix_nI (by omega), ix_nI (by omega), hu t (by omega), hu i (by omega), mvP, ← e]
      by_cases h : u i < u t
      · rw [if_neg (fun q9 => absurd ((le_nI (by omega) (by omega)).mp q9) (by omega)), f_X9_moves_86, nI_1, if_pos h]
        exact ih (i + 1) n f' i (by omega) (by omega) hf' (by omega)
      · rw [if_pos ((le_nI (by omega) (by omega)).mpr (by omega)), f_X9_moves_86, nI_1, if_neg h]
        exact ih (i + 1) n f' t (by omega) (by omega) hf' ht
    rw [f_X9_moves_30, if_pos (show inb _ _ from by decide), show ix (0 : Int32) = 0 from by decide, hB, if_neg (fun q9 => absurd ((le_nI (by omega) (by omega)).mp q9) (by omega)), if_pos ((inb_nI (by omega)).mpr (by omega)), if_pos ((inb_nI (by omega)).mpr (by omega)), ix_nI (by omega), ix_nI (by omega), hu i (by omega), hu f (by omega)]
    by_cases h : u f < u i
    · rw [if_neg (fun q9 => absurd ((le_nI (by omega) (by omega)).mp q9) (by omega))]
      exact key i (by omega) (by rw [if_pos h])
    · rw [if_pos ((le_nI (by omega) (by omega)).mpr (by omega))]
      exact key f hf (by rw [if_neg h])
theorem moves {w : GW} {B mE : Nat} {rm u : Nat → Nat} (hB : gI w 133 0 = nI B) (hB0 : 1 ≤ B) (hB5 : B ≤ 5) (hm : gI w 133 38 = nI mE) (hm9 : mE ≤ 9) (hr : ∀ b, b < B → gI w 133 (2 + b) = nI (rm b)) (hu : ∀ b, b < 5 → gI w 137 b = nI (u b)) (hr8 : ∀ b, rm b ≤ 8) (hu8 : ∀ b, u b ≤ 8) {n : Nat} (hn : n < 1000) : ∃ w', f_X9_moves (nI n) w = some ((), w') ∧ ∀ b, b < 5 → gI w' 137 b = nI (mvS B mE rm u n b) := by
  rw [f_X9_moves, if_pos (show inb _ _ from by decide), show ix (38 : Int32) = 38 from by decide, hm, mvS]
  by_cases h : mE = 0
  · rw [if_pos ((eq0 (by omega)).mpr h), if_pos (Or.inl h)]
    exact ⟨w, rfl, hu⟩
  · rw [if_neg (fun q => h ((eq0 (by omega)).mp q)), if_pos (show inb _ _ from by decide), if_pos (fun q => h ((eq0 (by omega)).mp q)), irm_nI (by omega) (by omega) (by omega)]
    have h3 : n % mE < mE := Nat.mod_lt _ (by omega)
    by_cases h2 : n % mE = 0
    · rw [if_pos ((eq0 (by omega)).mpr h2), if_neg (by rintro (q | q); exact h q; exact q h2), show (0 : Int32) = nI 0 from rfl, show (1 : Int32) = nI 1 from rfl]
      exact moves_eq hB hB5 hr hu hr8 hu8 (B - 1) 1 fu 0 0 (by omega) (fu_gt (by omega)) (by omega) (by omega)
    · rw [if_neg (fun q => h2 ((eq0 (by omega)).mp q)), if_pos (Or.inr h2)]
      exact ⟨w, rfl, hu⟩
/-- is the letter the door's -/
def drS (dE n : Nat) : Prop := 0 < dE ∧ n % dE = 0
theorem isDoors {w : GW} {k0 dE n : Nat} (hd : gI w k0 6 = nI dE) (h9 : dE ≤ 9) (hn : n < 1000) : ∃ r, f_X3_isDoors k0 (nI n) w = some (r, w) ∧ ((drS dE n ∧ r = 1) ∨ (¬ drS dE n ∧ r = 0)) := by
  rw [f_X3_isDoors, hd, show (0 : Int32) = nI 0 from rfl]
  by_cases h : dE = 0
  · rw [if_pos ((le_nI (by omega) (by omega)).mpr (by omega))]
    exact ⟨0, rfl, Or.inr ⟨fun q => by have := q.1; omega, rfl⟩⟩
  · rw [if_neg (fun q9 => absurd ((le_nI (by omega) (by omega)).mp q9) (by omega)), if_pos (fun q9 => absurd ((eq_nI (by omega) (by omega)).mp q9) (by omega)), irm_nI (by omega) (by omega) (by omega)]
    have h3 : n % dE < dE := Nat.mod_lt _ (by omega)
    by_cases h2 : n % dE = 0
    · rw [if_pos ((eq_nI (by omega) (by omega)).mpr h2)]
      exact ⟨1, rfl, Or.inl ⟨⟨by omega, h2⟩, rfl⟩⟩
    · rw [if_neg (fun q => h2 ((eq_nI (by omega) (by omega)).mp q))]
      exact ⟨0, rfl, Or.inr ⟨fun q => h2 q.2, rfl⟩⟩
theorem isDoor {w : GW} {dE n : Nat} (hd : gI w 133 37 = nI dE) (h9 : dE ≤ 9) (hn : n < 1000) : ∃ r, f_X9_isDoor (nI n) w = some (r, w) ∧ ((drS dE n ∧ r = 1) ∨ (¬ drS dE n ∧ r = 0)) := by
  rw [f_X9_isDoor, if_pos (show inb _ _ from by decide), show ix (37 : Int32) = 37 from by decide, hd]
  by_cases h : dE = 0
  · rw [if_pos ((le0 (by omega)).mpr h)]
    exact ⟨0, rfl, Or.inr ⟨fun q => by have := q.1; omega, rfl⟩⟩
  · rw [if_neg (fun q => h ((le0 (by omega)).mp q)), if_pos (show inb _ _ from by decide), if_pos (fun q => h ((eq0 (by omega)).mp q)), irm_nI (by omega) (by omega) (by omega)]
    have h3 : n % dE < dE := Nat.mod_lt _ (by omega)
    by_cases h2 : n % dE = 0
    · rw [if_pos ((eq0 (by omega)).mpr h2)]
      exact ⟨1, rfl, Or.inl ⟨⟨by omega, h2⟩, rfl⟩⟩
    · rw [if_neg (fun q => h2 ((eq0 (by omega)).mp q))]
      exact ⟨0, rfl, Or.inr ⟨fun q => h2 q.2, rfl⟩⟩
/-- the emptiest of a set of boxes, of like ones the least -/
def emN (u : Nat → Nat) (s i : Nat) (b : Option Nat) : Option Nat :=
  if s.testBit i = true then (match b with | none => some i | some x => if u i < u x then some i else some x) else b
def emS (u : Nat → Nat) (s : Nat) : Nat → Nat → Option Nat → Option Nat
  | 0, _, b => b
  | d + 1, i, b => emS u s d (i + 1) (emN u s i b)
def emT (u : Nat → Nat) (s B : Nat) : Option Nat := emS u s B 0 none
theorem emptiest9_eq {w : GW} {B s : Nat} {u : Nat → Nat} (hB : gI w 133 0 = nI B) (hB5 : B ≤ 5) (hu : ∀ b, b < B → gI w 137 b = nI (u b)) (hu8 : ∀ b, u b ≤ 8) (hs : s < 2147483648) : ∀ (d i n : Nat) (b : Option Nat), i + d = B → d < n → (∀ x, b = some x → x < i) → f_X9_emptiest_4 n (nI s) (oI b) (nI i) w = some (oI (emS u s d i b), w) := by
  intro d
  induction d with
  | zero =>
    intro i n b hi hn hb
    obtain ⟨n, rfl⟩ : ∃ m9, n = m9 + 1 := ⟨n - 1, by omega⟩
    rw [f_X9_emptiest_4, if_pos (show inb _ _ from by decide), show ix (0 : Int32) = 0 from by decide, hB, if_pos ((le_nI (by omega) (by omega)).mpr (by omega))]
    rfl
  | succ d ih =>
    intro i n b hi hn hb
    obtain ⟨n, rfl⟩ : ∃ m9, n = m9 + 1 := ⟨n - 1, by omega⟩
    have h1 := hu8 i
    rw [f_X9_emptiest_4, if_pos (show inb _ _ from by decide), show ix (0 : Int32) = 0 from by decide, hB, if_neg (fun q9 => absurd ((le_nI (by omega) (by omega)).mp q9) (by omega)), bt_nI hs (by omega), emS]
    unfold emN
    by_cases h : s.testBit i = true
    · rw [if_pos h, if_pos rfl, if_pos h]
      cases b with
      | none =>
        rw [if_pos (show oI none < 0 from neg1_lt0), f_X9_emptiest_42, f_X9_emptiest_44, nI_1]
        exact ih (i + 1) n (some i) (by omega) (by omega) (fun x e => by cases e; omega)
      | some x =>
        have hx := hb x rfl
        have h2 := hu8 x
        show (if nI x < 0 then _ else _) = _
        rw [if_neg (lt0_nI (by omega)), if_pos ((inb_nI (by omega)).mpr (by omega))]
        show (if inb (nI x) 5 then _ else _) = _
        rw [if_pos ((inb_nI (by omega)).mpr (by omega)), ix_nI (by omega), hu i (by omega)]
        show (if gI w 137 (ix (nI x)) ≤ _ then _ else _) = _
        rw [ix_nI (by omega), hu x (by omega)]
        by_cases h3 : u i < u x
        · rw [if_neg (fun q9 => absurd ((le_nI (by omega) (by omega)).mp q9) (by omega)), f_X9_emptiest_42, f_X9_emptiest_44, nI_1]
          dsimp only
          rw [if_pos h3]
          exact ih (i + 1) n (some i) (by omega) (by omega) (fun x e => by cases e; omega)
        · rw [if_pos ((le_nI (by omega) (by omega)).mpr (by omega)), f_X9_emptiest_44, nI_1]
          dsimp only
          rw [if_neg h3]
          exact ih (i + 1) n (some x) (by omega) (by omega) (fun y e => by cases e; omega)
    · rw [if_neg h, if_neg (by decide), if_neg h, f_X9_emptiest_44, nI_1]
      exact ih (i + 1) n b (by omega) (by omega) (fun x e => by have := hb x e; omega)
theorem emptiest9 {w : GW} {B s : Nat} {u : Nat → Nat} (hB : gI w 133 0 = nI B) (hB5 : B ≤ 5) (hu : ∀ b, b < B → gI w 137 b = nI (u b)) (hu8 : ∀ b, u b ≤ 8) (hs : s < 2147483648) : f_X9_emptiest (nI s) w = some (oI (emT u s B), w) := by
  rw [f_X9_emptiest, show (0 : Int32) = nI 0 from rfl]
  exact emptiest9_eq hB hB5 hu hu8 hs B 0 fu none (by omega) (fu_gt (by omega)) (fun x e => by cases e)
/-- with a letter more in one box -/
def upM (u : Nat → Nat) (m : Option Nat) : Nat → Nat := fun b => if m = some b then u b + 1 else u b
theorem oI_eq {m : Option Nat} {i : Nat} (hm : ∀ x, m = some x → x < 1000) (hi : i < 1000) : nI i = oI m ↔ m = some i := by
  cases m with
  | none =>
    constructor
    · intro q
      exfalso
      have h1 : nI i = -1 := q
      have := neg1_lt (a := i) (by omega)
      rw [h1] at this
      exact absurd this (by decide)
    · intro q; cases q
  | some x =>
    have := hm x rfl
    show nI i = nI x ↔ _
    rw [eq_nI (by omega) (by omega)]
    constructor
    · intro q; rw [q]
    · intro q; cases q; rfl
theorem emptiest1_eq {w : GW} {k1 B s : Nat} {u : Nat → Nat} {m : Option Nat} (hB : gI w (fxH (gR w 4)) 1 = nI B) (hB5 : B ≤ 5) (hu : ∀ b, b < B → gI w k1 b = nI (u b)) (hu8 : ∀ b, u b ≤ 8) (hs : s < 2147483648) (hm : ∀ x, m = some x → x < 5) : ∀ (d i n : Nat) (b : Option Nat) (l : Int32), i + d = B → d < n → (∀ x, b = some x → x < i ∧ l = nI (upM u m x)) → f_X1_emptiest_9 n k1 (nI s) (oI m) (oI b) l (nI i) w = some (oI (emS (upM u m) s d i b), w) := by
  intro d
  induction d with
  | zero =>
    intro i n b l hi hn hb
    obtain ⟨n, rfl⟩ : ∃ m9, n = m9 + 1 := ⟨n - 1, by omega⟩
    rw [f_X1_emptiest_9, hB, if_pos ((le_nI (by omega) (by omega)).mpr (by omega))]
    rfl
  | succ d ih =>
    intro i n b l hi hn hb
    obtain ⟨n, rfl⟩ : ∃ m9, n = m9 + 1 := ⟨n - 1, by omega⟩
    have h1 := hu8 i
    rw [f_X1_emptiest_9, hB, if_neg (fun q9 => absurd ((le_nI (by omega) (by omega)).mp q9) (by omega)), bt_nI hs (by omega), emS]
    unfold emN
    by_cases h : s.testBit i = true
    · rw [if_pos h, if_neg (by decide), if_pos h]
      have hup : ∀ x, upM u m x ≤ 9 := fun x => by have := hu8 x; unfold upM; split <;> omega
      have key : f_X1_emptiest_49 (f_X1_emptiest_9 n) k1 (nI s) (oI m) (oI b) l (nI i) (nI (upM u m i)) w = some (oI (emS (upM u m) s d (i + 1) (match b with | none => some i | some x => if upM u m i < upM u m x then some i else some x)), w) := by
        have hui := hup i
        rw [f_X1_emptiest_49]
        cases b with
        | none =>
          rw [if_pos (show oI none < 0 from neg1_lt0), f_X1_emptiest_63, f_X1_emptiest_71, nI_1]
          exact ih (i + 1) n (some i) _ (by omega) (by omega) (fun x e => by cases e; exact ⟨by omega, rfl⟩)
        | some x =>
          obtain ⟨hx, rfl⟩ := hb x rfl
          have hux := hup x
          show (if nI x < 0 then _ else _) = _
          rw [if_neg (lt0_nI (by omega))]
          by_cases h3 : upM u m i < upM u m x
          · rw [if_neg (fun q9 => absurd ((le_nI (by omega) (by omega)).mp q9) (by omega)), f_X1_emptiest_63, f_X1_emptiest_71, nI_1]
            show _ = some (oI (emS _ _ _ _ (if _ then _ else _)), _)
            rw [if_pos h3]
            exact ih (i + 1) n (some i) _ (by omega) (by omega) (fun x e => by cases e; exact ⟨by omega, rfl⟩)
          · rw [if_pos ((le_nI (by omega) (by omega)).mpr (by omega)), f_X1_emptiest_71, nI_1]
            show _ = some (oI (emS _ _ _ _ (if _ then _ else _)), _)
            rw [if_neg h3]
            exact ih (i + 1) n (some x) _ (by omega) (by omega) (fun y e => by cases e; exact ⟨by omega, rfl⟩)
      by_cases h2 : m = some i
      · rw [if_pos ((oI_eq (fun x e => by have := hm x e; omega) (by omega)).mpr h2), if_pos ((inb_nI (by omega)).mpr (by omega)), ix_nI (by omega), hu i (by omega), nI_1]
        rw [show upM u m i = u i + 1 from if_pos h2] at key
        rw [key]
        cases b with
        | none => rfl
        | some x => rw [show upM u m i = u i + 1 from if_pos h2]
      · rw [if_neg (fun q => h2 ((oI_eq (fun x e => by have := hm x e; omega) (by omega)).mp q)), if_pos ((inb_nI (by omega)).mpr (by omega)), ix_nI (by omega), hu i (by omega)]
        rw [show upM u m i = u i from if_neg h2] at key
        rw [key]
        cases b with
        | none => rfl
        | some x => rw [show upM u m i = u i from if_neg h2]
    · rw [if_neg h, if_pos rfl, if_neg h, f_X1_emptiest_71, nI_1]
      exact ih (i + 1) n b l (by omega) (by omega) (fun x e => by have := hb x e; exact ⟨by omega, this.2⟩)
theorem emptiest1 {w : GW} {k1 B s : Nat} {u : Nat → Nat} {m : Option Nat} (hB : gI w (fxH (gR w 4)) 1 = nI B) (hB5 : B ≤ 5) (hu : ∀ b, b < B → gI w k1 b = nI (u b)) (hu8 : ∀ b, u b ≤ 8) (hs : s < 2147483648) (hm : ∀ x, m = some x → x < 5) : f_X1_emptiest k1 (nI s) (oI m) w = some (oI (emT (upM u m) s B), w) := by
  rw [f_X1_emptiest, show (0 : Int32) = nI 0 from rfl]
  exact emptiest1_eq hB hB5 hu hu8 hs hm B 0 fu none (nI 0) (by omega) (fu_gt (by omega)) (fun x e => by cases e)
