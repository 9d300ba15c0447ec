/-! which box a porter takes, as the reference has it -/
theorem msk_bit {x : Nat → Nat} {g b : Nat} : (msk x g).testBit b = true ↔ ∃ i, i < g ∧ x i = b := by
  induction g with
  | zero => simp [msk]
  | succ g ih =>
    rw [msk, Nat.testBit_or, Bool.or_eq_true, ih, Nat.testBit_two_pow, decide_eq_true_eq]
    constructor
    · rintro (⟨i, h1, h2⟩ | h)
      · exact ⟨i, by omega, h2⟩
      · exact ⟨g, by omega, h⟩
    · rintro ⟨i, h1, h2⟩
      by_cases z : i = g
      · subst z; exact Or.inr h2
      · exact Or.inl ⟨i, by omega, h2⟩
theorem emS_spec (u : Nat → Nat) (s : Nat) : ∀ d i (b : Option Nat), (∀ x, b = some x → x < i ∧ s.testBit x = true ∧ ∀ y, y < i → s.testBit y = true → u x ≤ u y) → (b = none → ∀ y, y < i → s.testBit y = false) →
    (∀ x, emS u s d i b = some x → x < i + d ∧ s.testBit x = true ∧ ∀ y, y < i + d → s.testBit y = true → u x ≤ u y) ∧ (emS u s d i b = none → ∀ y, y < i + d → s.testBit y = false) := by
  intro d
  induction d with
  | zero => intro i b h1 h2; exact ⟨h1, h2⟩
  | succ d ih =>
    intro i b h1 h2
    rw [emS, show i + (d + 1) = i + 1 + d by omega]
    refine ih (i + 1) (emN u s i b) (fun x hx => ?_) (fun hx y hy => ?_)
    · unfold emN at hx
      by_cases hb : s.testBit i = true
      · rw [if_pos hb] at hx
        cases b with
        | none =>
          cases hx
          refine ⟨by omega, hb, fun y hy hyb => ?_⟩
          by_cases z : y = i
          · subst z; exact Nat.le_refl _
          · have := h2 rfl y (by omega); rw [this] at hyb; cases hyb
        | some b0 =>
          dsimp only at hx
          obtain ⟨a1, a2, a3⟩ := h1 b0 rfl
          by_cases hu : u i < u b0
          · rw [if_pos hu] at hx
            cases hx
            refine ⟨by omega, hb, fun y hy hyb => ?_⟩
            by_cases z : y = i
            · subst z; exact Nat.le_refl _
            · have := a3 y (by omega) hyb; omega
          · rw [if_neg hu] at hx
            cases hx
            refine ⟨by omega, a2, fun y hy hyb => ?_⟩
            by_cases z : y = i
            · subst z; omega
            · exact a3 y (by omega) hyb
      · rw [if_neg hb] at hx
        obtain ⟨a1, a2, a3⟩ := h1 x hx
        refine ⟨by omega, a2, fun y hy hyb => ?_⟩
        by_cases z : y = i
        · subst z; exact absurd hyb hb
        · exact a3 y (by omega) hyb
    · unfold emN at hx
      by_cases hb : s.testBit i = true
      · rw [if_pos hb] at hx
        cases b with
        | none => cases hx
        | some b0 =>
          dsimp only at hx
          by_cases hu : u i < u b0
          · rw [if_pos hu] at hx; cases hx
          · rw [if_neg hu] at hx; cases hx
      · rw [if_neg hb] at hx
        by_cases z : y = i
        · subst z
          cases q : s.testBit y with
          | false => rfl
          | true => exact absurd q hb
        · exact h2 hx y (by omega)
theorem emT_some {u : Nat → Nat} {s B : Nat} (h : ∃ b, b < B ∧ s.testBit b = true) : ∃ e, emT u s B = some e ∧ e < B ∧ s.testBit e = true ∧ ∀ y, y < B → s.testBit y = true → u e ≤ u y := by
  have key := emS_spec u s B 0 none (fun x e => by cases e) (fun _ y hy => by omega)
  unfold emT
  rw [Nat.zero_add] at key
  cases q : emS u s B 0 none with
  | none =>
    obtain ⟨b, h1, h2⟩ := h
    have := key.2 q b h1
    rw [this] at h2
    cases h2
  | some e => exact ⟨e, rfl, key.1 e q⟩
theorem emT_c {u v : Nat → Nat} {s B : Nat} (h : ∀ b, b < B → u b = v b) : emT u s B = emT v s B := by
  have key : ∀ d i (b : Option Nat), i + d = B → (∀ x, b = some x → x < B) → emS u s d i b = emS v s d i b := by
    intro d
    induction d with
    | zero => intro i b _ _; rfl
    | succ d ih =>
      intro i b hi hb
      rw [emS, emS]
      have e : emN u s i b = emN v s i b := by
        unfold emN
        cases b with
        | none => rfl
        | some x => dsimp only; rw [h i (by omega), h x (hb x rfl)]
      rw [e]
      refine ih (i + 1) _ (by omega) (fun x hx => ?_)
      unfold emN at hx
      split at hx
      · cases b with
        | none => cases hx; omega
        | some y =>
          dsimp only at hx
          split at hx
          · cases hx; omega
          · exact hb x hx
      · exact hb x hx
  exact key B 0 none (by omega) (fun x e => by cases e)
/-- the level of the emptiest seen -/
def lvl (u x : Nat → Nat) (B g : Nat) : Nat := match emT u (msk x g) B with
  | none => 0
  | some e => u e
def ltS (u x : Nat → Nat) (m : Nat) : Nat → Nat → Nat → Option Nat
  | 0, _, _ => none
  | d + 1, i, l => if u (x i) = m then (if l = 0 then some (x i) else ltS u x m d (i + 1) (l - 1)) else ltS u x m d (i + 1) l
def lzS (u x : Nat → Nat) (h g : Nat) : Nat → Nat → Nat
  | 0, _ => x (g - 1)
  | d + 1, i => if u (x i) ≤ h then x i else lzS u x h g d (i + 1)
def bsM (x : Nat → Nat) (B s : Nat) : Nat → Nat
  | 0 => s
  | i + 1 => bsM x B s i ||| 2 ^ nx B (x i)
def rcM (s sl : Nat) : Nat := if sl = 0 then s else s ||| 2 ^ (sl - 1)
/-- the box taken: by rule r, patience h, g glances x, tie t, slot sl -/
def tkS (u x : Nat → Nat) (B r h g sl t : Nat) : Option Nat :=
  if r = 0 then ltS u x (lvl u x B g) g 0 t else if r = 1 then emT u (msk x g) B else if r = 2 then some (lzS u x h g g 0) else if r = 3 then emT u (bsM x B (msk x g) g) B else emT u (rcM (msk x g) sl) B
/-- how many ties -/
def tcS (u x : Nat → Nat) (m : Nat) : Nat → Nat
  | 0 => 0
  | g + 1 => tcS u x m g + (if u (x g) = m then 1 else 0)
def tnS (u x : Nat → Nat) (B r g : Nat) : Nat := if r = 0 then tcS u x (lvl u x B g) g else 1
theorem bsM_lt {x : Nat → Nat} {B s : Nat} (hB5 : B ≤ 5) (hs : s < 32) (hx : ∀ i, i < 3 → x i < B) : ∀ i, i ≤ 3 → bsM x B s i < 32 := by
  intro i
  induction i with
  | zero => intro _; exact hs
  | succ i ih =>
    intro hi
    have h1 := ih (by omega)
    have h3 := nx_lt (hx i (by omega))
    have h2 : 2 ^ nx B (x i) < 2 ^ 5 := Nat.pow_lt_pow_right (by omega) (by omega)
    exact Nat.or_lt_two_pow (n := 5) h1 h2
theorem rcM_lt {s sl : Nat} (hs : s < 32) (h : sl ≤ 5) : rcM s sl < 32 := by
  unfold rcM
  split
  · exact hs
  · have h2 : 2 ^ (sl - 1) < 2 ^ 5 := Nat.pow_lt_pow_right (by omega) (by omega)
    exact Nat.or_lt_two_pow (n := 5) hs h2
theorem msk_some {x : Nat → Nat} {B g : Nat} (hg : 1 ≤ g) (hx : ∀ i, i < g → x i < B) : ∃ b, b < B ∧ (msk x g).testBit b = true := ⟨x 0, hx 0 (by omega), msk_bit.mpr ⟨0, by omega, rfl⟩⟩
section PK
variable {w : GW} {B g : Nat} {u x : Nat → Nat}
theorem takenL_eq (hB5 : B ≤ 5) (hu : ∀ b, b < 5 → gI w 137 b = nI (u b)) (hu8 : ∀ b, u b ≤ 8) (hg : g ≤ 3) (hx : ∀ i, i < 3 → x i < B) (hG : GL w x g) {m : Nat} (hm : m ≤ 8) : ∀ d i n l, i + d = g → d < n → l < 10 → f_X9_taken_60 n (nI g) (nI l) (nI m) (nI i) w = some (oI (ltS u x m d i l), w) := by
  intro d
  induction d with
  | zero =>
    intro i n l hi hn hl
    obtain ⟨n, rfl⟩ : ∃ m9, n = m9 + 1 := ⟨n - 1, by omega⟩
    rw [f_X9_taken_60, if_pos ((le_nI (by omega) (by omega)).mpr (by omega))]
    rfl
  | succ d ih =>
    intro i n l hi hn hl
    obtain ⟨n, rfl⟩ : ∃ m9, n = m9 + 1 := ⟨n - 1, by omega⟩
    have h1 := hx i (by omega)
    have h2 := hu8 (x i)
    rw [f_X9_taken_60, if_neg (fun q9 => absurd ((le_nI (by omega) (by omega)).mp q9) (by omega)), if_pos ((inb_nI (by omega)).mpr (by omega)), ix_nI (by omega), hG i (by omega), if_pos ((inb_nI (by omega)).mpr (by omega)), ix_nI (by omega), hu (x i) (by omega), ltS]
    by_cases h : u (x i) = m
    · rw [if_pos ((eq_nI (by omega) (by omega)).mpr (by omega)), if_pos h]
      by_cases h3 : l = 0
      · rw [if_pos ((eq0 (by omega)).mpr h3), if_pos ((inb_nI (by omega)).mpr (by omega)), if_pos h3]
        rfl
      · rw [if_neg (fun q => h3 ((eq0 (by omega)).mp q)), if_neg h3, f_X9_taken_102, nI_1]
        obtain ⟨l', rfl⟩ : ∃ l', l = l' + 1 := ⟨l - 1, by omega⟩
        rw [pk_m1]
        exact ih (i + 1) n l' (by omega) (by omega) (by omega)
    · rw [if_neg (fun q9 => absurd ((eq_nI (by omega) (by omega)).mp q9) (by omega)), if_neg h, f_X9_taken_102, nI_1]
      exact ih (i + 1) n l (by omega) (by omega) hl
theorem takenZ_eq (hB5 : B ≤ 5) (hu : ∀ b, b < 5 → gI w 137 b = nI (u b)) (hu8 : ∀ b, u b ≤ 8) (hg1 : 1 ≤ g) (hg : g ≤ 3) (hx : ∀ i, i < 3 → x i < B) (hG : GL w x g) {h : Nat} (hh : h ≤ 8) : ∀ d i n, i + d = g → d < n → f_X9_taken_120 n (nI h) (nI g) (nI i) w = some (nI (lzS u x h g d i), w) := by
  intro d
  induction d with
  | zero =>
    intro i n hi hn
    obtain ⟨n, rfl⟩ : ∃ m9, n = m9 + 1 := ⟨n - 1, by omega⟩
    rw [f_X9_taken_120, if_pos ((le_nI (by omega) (by omega)).mpr (by omega)), show (1 : Int32) = nI 1 from rfl, pk_sub (by omega), if_pos ((inb_nI (by omega)).mpr (by omega)), ix_nI (by omega), hG (g - 1) (by omega)]
    rfl
  | succ d ih =>
    intro i n hi hn
    obtain ⟨n, rfl⟩ : ∃ m9, n = m9 + 1 := ⟨n - 1, by omega⟩
    have h1 := hx i (by omega)
    have h2 := hu8 (x i)
    rw [f_X9_taken_120, if_neg (fun q9 => absurd ((le_nI (by omega) (by omega)).mp q9) (by omega)), if_pos ((inb_nI (by omega)).mpr (by omega)), ix_nI (by omega), hG i (by omega), if_pos ((inb_nI (by omega)).mpr (by omega)), ix_nI (by omega), hu (x i) (by omega), lzS]
    by_cases h3 : u (x i) ≤ h
    · rw [if_neg (fun q9 => absurd ((lt_nI (by omega) (by omega)).mp q9) (by omega)), if_pos ((inb_nI (by omega)).mpr (by omega)), if_pos h3]
    · rw [if_pos ((lt_nI (by omega) (by omega)).mpr (by omega)), if_neg h3, nI_1]
      exact ih (i + 1) n (by omega) (by omega)
theorem takenB_eq (hB : gI w 133 0 = nI B) (hB0 : 1 ≤ B) (hB5 : B ≤ 5) (hu : ∀ b, b < 5 → gI w 137 b = nI (u b)) (hu8 : ∀ b, u b ≤ 8) (hg : g ≤ 3) (hx : ∀ i, i < 3 → x i < B) (hG : GL w x g) {s : Nat} (hs : s < 32) : ∀ d i n, i + d = g → d < n → f_X9_taken_172 n (nI g) (nI (bsM x B s i)) (nI i) w = some (oI (emT u (bsM x B s g) B), w) := by
  intro d
  induction d with
  | zero =>
    intro i n hi hn
    obtain ⟨n, rfl⟩ : ∃ m9, n = m9 + 1 := ⟨n - 1, by omega⟩
    have : i = g := by omega
    subst this
    have := bsM_lt hB5 hs hx i hg
    rw [f_X9_taken_172, if_pos ((le_nI (by omega) (by omega)).mpr (by omega)), emptiest9 hB hB5 (fun b hb => hu b (by omega)) hu8 (by omega), bind_some']
  | succ d ih =>
    intro i n hi hn
    obtain ⟨n, rfl⟩ : ∃ m9, n = m9 + 1 := ⟨n - 1, by omega⟩
    have h1 := hx i (by omega)
    have h3 := nx_lt h1
    rw [f_X9_taken_172, if_neg (fun q9 => absurd ((le_nI (by omega) (by omega)).mp q9) (by omega)), if_pos ((inb_nI (by omega)).mpr (by omega)), if_pos (show inb _ _ from by decide), show ix (0 : Int32) = 0 from by decide, hB, if_pos (fun q => absurd ((eq0 (by omega)).mp q) (by omega)), ix_nI (by omega), hG i (by omega), nI_1, irm_nI (by omega) (by omega) (by omega), nx_mod h1, shl_nI (by omega), or_nI, nI_1]
    exact ih (i + 1) n (by omega) (by omega)
theorem taken {r h sl t : Nat} {y : Int32} (hB : gI w 133 0 = nI B) (hB0 : 1 ≤ B) (hB5 : B ≤ 5) (hL : LK w u sl) (hu8 : ∀ b, u b ≤ 8) (hsl : sl ≤ 5) (hg1 : 1 ≤ g) (hg : g ≤ 3) (hx : ∀ i, i < 3 → x i < B) (hG : GL w x g) (hr : r ≤ 4) (hh : h ≤ 8) (hy : r = 2 → y = nI h) (ht : t < 10) : f_X9_taken (nI r) y (nI g) (nI t) w = some (oI (tkS u x B r h g sl t), w) := by
  obtain ⟨hu, hk⟩ := hL
  have hm := msk_lt (x := x) (fun i hi => by have := hx i hi; omega) g hg
  have hem : ∀ s, s < 32 → f_X9_emptiest (nI s) w = some (oI (emT u s B), w) := fun s hs => emptiest9 hB hB5 (fun b hb => hu b (by omega)) hu8 (by omega)
  rw [f_X9_taken, seenBy hg (fun i hi => by have := hx i hi; omega) hG, bind_some']
  unfold tkS
  by_cases r0 : r = 0
  · rw [if_pos ((eq0 (by omega)).mpr r0), if_pos r0, hem _ hm, bind_some']
    obtain ⟨e, e1, e2, e3, e4⟩ := emT_some (u := u) (msk_some hg1 (fun i hi => hx i (by omega)))
    have he8 := hu8 e
    rw [e1]
    show (if inb (nI e) 5 then _ else _) = _
    rw [if_pos ((inb_nI (by omega)).mpr (by omega))]
    show f_X9_taken_60 fu (nI g) (nI t) (gI w 137 (ix (nI e))) 0 w = _
    rw [ix_nI (by omega), hu e (by omega), show (0 : Int32) = nI 0 from rfl, takenL_eq hB5 hu hu8 hg hx hG he8 g 0 fu t (by omega) (fu_gt (by omega)) ht]
    unfold lvl
    rw [e1]
  rw [if_neg (fun q => r0 ((eq0 (by omega)).mp q)), if_neg r0]
  by_cases r1 : r = 1
  · rw [if_pos ((eq1 (by omega)).mpr r1), if_pos r1, hem _ hm, bind_some']
  rw [if_neg (fun q => r1 ((eq1 (by omega)).mp q)), if_neg r1]
  by_cases r2 : r = 2
  · rw [if_pos ((eq2 (by omega)).mpr r2), if_pos r2, hy r2, show (0 : Int32) = nI 0 from rfl, takenZ_eq hB5 hu hu8 hg1 hg hx hG hh g 0 fu (by omega) (fu_gt (by omega))]
    rfl
  rw [if_neg (fun q => r2 ((eq2 (by omega)).mp q)), if_neg r2]
  by_cases r3 : r = 3
  · rw [if_pos ((eq3 (by omega)).mpr r3), if_pos r3, show (0 : Int32) = nI 0 from rfl]
    exact takenB_eq hB hB0 hB5 hu hu8 hg hx hG hm g 0 fu (by omega) (fu_gt (by omega))
  rw [if_neg (fun q => r3 ((eq3 (by omega)).mp q)), if_neg r3]
  unfold rcM
  by_cases s0 : sl = 0
  · rw [if_neg (fun q => absurd s0 ((kI_pos (by omega)).mp (by rw [← hk]; exact q))), f_X9_taken_236, hem _ hm, bind_some', if_pos s0]
  · rw [if_pos (by rw [hk]; exact (kI_pos (by omega)).mpr s0), if_neg s0, f_X9_taken_236]
    have h9 := rcM_lt (sl := sl) hm hsl
    unfold rcM at h9
    rw [if_neg s0] at h9
    obtain ⟨sl', rfl⟩ : ∃ q, sl = q + 1 := ⟨sl - 1, by omega⟩
    show (f_X9_emptiest (nI (msk x g) ||| (1 : Int32) <<< (gI w 130 22 &&& 31)) w).bind _ = _
    rw [hk, kI_s, shl_nI (by omega), or_nI]
    rw [show sl' + 1 - 1 = sl' by omega] at h9 ⊢
    rw [hem _ h9, bind_some']
theorem ties_eq (hB5 : B ≤ 5) (hu : ∀ b, b < 5 → gI w 137 b = nI (u b)) (hu8 : ∀ b, u b ≤ 8) (hg : g ≤ 3) (hx : ∀ i, i < 3 → x i < B) (hG : GL w x g) {m : Nat} (hm : m ≤ 8) : ∀ d i n, i + d = g → d < n → f_X9_ties_20 n (nI g) (nI m) (nI (tcS u x m i)) (nI i) w = some (nI (tcS u x m g), w) := by
  intro d
  induction d with
  | zero =>
    intro i n hi hn
    obtain ⟨n, rfl⟩ : ∃ m9, n = m9 + 1 := ⟨n - 1, by omega⟩
    have : i = g := by omega
    subst this
    rw [f_X9_ties_20, if_pos ((le_nI (by omega) (by omega)).mpr (by omega))]
  | succ d ih =>
    intro i n hi hn
    obtain ⟨n, rfl⟩ : ∃ m9, n = m9 + 1 := ⟨n - 1, by omega⟩
    have h1 := hx i (by omega)
    have h2 := hu8 (x i)
    have key := ih (i + 1) n (by omega) (by omega)
    rw [tcS] at key
    rw [f_X9_ties_20, if_neg (fun q9 => absurd ((le_nI (by omega) (by omega)).mp q9) (by omega)), if_pos ((inb_nI (by omega)).mpr (by omega)), ix_nI (by omega), hG i (by omega), if_pos ((inb_nI (by omega)).mpr (by omega)), ix_nI (by omega), hu (x i) (by omega)]
    by_cases h : u (x i) = m
    · rw [if_pos h] at key
      rw [if_pos ((eq_nI (by omega) (by omega)).mpr (by omega)), f_X9_ties_48, nI_1, nI_1]
      exact key
    · rw [if_neg h] at key
      rw [if_neg (fun q9 => absurd ((eq_nI (by omega) (by omega)).mp q9) (by omega)), f_X9_ties_48, nI_1, show (0 : Int32) = nI 0 from rfl, nI_add]
      exact key
theorem ties (hB : gI w 133 0 = nI B) (hB0 : 1 ≤ B) (hB5 : B ≤ 5) (hu : ∀ b, b < 5 → gI w 137 b = nI (u b)) (hu8 : ∀ b, u b ≤ 8) (hg1 : 1 ≤ g) (hg : g ≤ 3) (hx : ∀ i, i < 3 → x i < B) (hG : GL w x g) : f_X9_ties (nI g) w = some (nI (tcS u x (lvl u x B g) g), w) := by
  have hm := msk_lt (x := x) (fun i hi => by have := hx i hi; omega) g hg
  obtain ⟨e, e1, e2, e3, e4⟩ := emT_some (u := u) (msk_some hg1 (fun i hi => hx i (by omega)))
  have he8 := hu8 e
  rw [f_X9_ties, seenBy hg (fun i hi => by have := hx i hi; omega) hG, bind_some', emptiest9 hB hB5 (fun b hb => hu b (by omega)) hu8 (by omega), bind_some', e1]
  show (if inb (nI e) 5 then _ else _) = _
  rw [if_pos ((inb_nI (by omega)).mpr (by omega))]
  show f_X9_ties_20 fu (nI g) (gI w 137 (ix (nI e))) 0 0 w = _
  rw [ix_nI (by omega), hu e (by omega), show (0 : Int32) = nI 0 from rfl]
  have := ties_eq hB5 hu hu8 hg hx hG he8 g 0 fu (by omega) (fu_gt (by omega))
  unfold lvl
  rw [e1]
  exact this
end PK
