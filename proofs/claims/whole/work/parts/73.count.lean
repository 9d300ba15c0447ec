/-! what is asked of a layout -/
def flM (u : Nat → Nat) : Nat → Nat
  | 0 => 0
  | n + 1 => max (flM u n) (u n)
def emM (u : Nat → Nat) (B : Nat) : Nat := sm B (fun b => if u b = 0 then 1 else 0)
def sqM (u : Nat → Nat) (B : Nat) : Nat := sm B (fun b => u b * u b)
theorem flM_le {u : Nat → Nat} {m : Nat} (h : ∀ c, u c ≤ m) : ∀ B, flM u B ≤ m := by
  intro B
  induction B with
  | zero => exact Nat.zero_le _
  | succ B ih => rw [flM]; exact Nat.max_le.mpr ⟨ih, h B⟩
theorem emM_le (u : Nat → Nat) (B : Nat) : emM u B ≤ B := by
  unfold emM
  have : sm B (fun b => if u b = 0 then 1 else 0) ≤ sm B (fun _ => 1) := sm_le (fun i _ => by split <;> omega)
  rw [sm_k] at this
  omega
section WO
variable {η : HP} {w : GW} {u : Nat → Nat}
theorem fullestOf (hη : HPok η) (hH : HX w η) (h8 : ∀ c, u c ≤ 8) : f_X0_fullestOf (nI (pkS u)) w = some (nI (flM u (pB η)), w) := by
  have j2 := hη.2.1
  have key : ∀ d i n, i + d = pB η → d < n → f_X0_fullestOf_4 n (nI (pkS u)) (nI (flM u i)) (nI i) w = some (nI (flM u (pB η)), w) := by
    intro d
    induction d with
    | zero =>
      intro i n hi hn
      obtain ⟨n, rfl⟩ : ∃ m9, n = m9 + 1 := ⟨n - 1, by omega⟩
      have : i = pB η := by omega
      subst this
      rw [f_X0_fullestOf_4, hH.1, if_pos ((le_nI (by omega) (by omega)).mpr (by omega))]
    | succ d ih =>
      intro i n hi hn
      obtain ⟨n, rfl⟩ : ∃ m9, n = m9 + 1 := ⟨n - 1, by omega⟩
      have e := ih (i + 1) n (by omega) (by omega)
      have h1 := h8 i
      have h2 := flM_le h8 i
      rw [f_X0_fullestOf_4, hH.1, if_neg (fun q9 => absurd ((le_nI (by omega) (by omega)).mp q9) (by omega)), unp (fun c _ => by have := h8 c; omega) (by omega), jmax_nI (by omega) (by omega), nI_1]
      rw [flM] at e
      exact e
  rw [f_X0_fullestOf, show (0 : Int32) = nI 0 from rfl]
  exact key (pB η) 0 fu (by omega) (fu_gt (by omega))
theorem emptyOf (hη : HPok η) (hH : HX w η) (h8 : ∀ c, u c ≤ 8) : f_X0_emptyOf (nI (pkS u)) w = some (nI (emM u (pB η)), w) := by
  have j2 := hη.2.1
  have key : ∀ d i n, i + d = pB η → d < n → f_X0_emptyOf_4 n (nI (pkS u)) (nI (emM u i)) (nI i) w = some (nI (emM u (pB η)), w) := by
    intro d
    induction d with
    | zero =>
      intro i n hi hn
      obtain ⟨n, rfl⟩ : ∃ m9, n = m9 + 1 := ⟨n - 1, by omega⟩
      have : i = pB η := by omega
      subst this
      rw [f_X0_emptyOf_4, hH.1, if_pos ((le_nI (by omega) (by omega)).mpr (by omega))]
    | succ d ih =>
      intro i n hi hn
      obtain ⟨n, rfl⟩ : ∃ m9, n = m9 + 1 := ⟨n - 1, by omega⟩
      have e := ih (i + 1) n (by omega) (by omega)
      have h1 := h8 i
      unfold emM at e
      rw [sm_s] at e
      rw [f_X0_emptyOf_4, hH.1, if_neg (fun q9 => absurd ((le_nI (by omega) (by omega)).mp q9) (by omega)), unp (fun c _ => by have := h8 c; omega) (by omega)]
      by_cases q : u i = 0
      · rw [if_pos ((eq0 (by omega)).mpr q), f_X0_emptyOf_32, show (1 : Int32) = nI 1 from rfl, nI_add, nI_add]
        rw [if_pos q] at e
        exact e
      · rw [if_neg (fun z => q ((eq0 (by omega)).mp z)), f_X0_emptyOf_32, show (0 : Int32) = nI 0 from rfl, nI_add, nI_1]
        rw [if_neg q] at e
        exact e
  rw [f_X0_emptyOf, show (0 : Int32) = nI 0 from rfl]
  exact key (pB η) 0 fu (by omega) (fu_gt (by omega))
theorem squaresOf (hη : HPok η) (hH : HX w η) (h8 : ∀ c, u c ≤ 8) : f_X0_squaresOf (nI (pkS u)) w = some (nI (sqM u (pB η)), w) := by
  have j2 := hη.2.1
  have key : ∀ d i n, i + d = pB η → d < n → f_X0_squaresOf_4 n (nI (pkS u)) (nI (sqM u i)) (nI i) w = some (nI (sqM u (pB η)), w) := by
    intro d
    induction d with
    | zero =>
      intro i n hi hn
      obtain ⟨n, rfl⟩ : ∃ m9, n = m9 + 1 := ⟨n - 1, by omega⟩
      have : i = pB η := by omega
      subst this
      rw [f_X0_squaresOf_4, hH.1, if_pos ((le_nI (by omega) (by omega)).mpr (by omega))]
    | succ d ih =>
      intro i n hi hn
      obtain ⟨n, rfl⟩ : ∃ m9, n = m9 + 1 := ⟨n - 1, by omega⟩
      have e := ih (i + 1) n (by omega) (by omega)
      unfold sqM at e
      rw [sm_s] at e
      rw [f_X0_squaresOf_4, hH.1, if_neg (fun q9 => absurd ((le_nI (by omega) (by omega)).mp q9) (by omega)), unp (fun c _ => by have := h8 c; omega) (by omega), pk_mul, nI_add, nI_1]
      exact e
  rw [f_X0_squaresOf, show (0 : Int32) = nI 0 from rfl]
  exact key (pB η) 0 fu (by omega) (fu_gt (by omega))
theorem jmax_sub {a b : Nat} (ha : a < 1073741824) (hb : b < 1073741824) : jmax 0 (nI a - nI b) = nI (a - b) := by
  by_cases h : b ≤ a
  · rw [pk_sub h, show (0 : Int32) = nI 0 from rfl, jmax_nI (by omega) (by omega), Nat.max_eq_right (Nat.zero_le _)]
  · unfold jmax
    rw [if_neg (fun q => ?_), show a - b = 0 by omega]
    · rfl
    · rw [Int32.lt_iff_toInt_lt, pk_sub_toInt (by omega) (by omega)] at q
      have : (0 : Int32).toInt = 0 := by decide
      omega
def wo (η : HP) (asked x y : Nat) (u : Nat → Nat) : Nat :=
  if asked = 0 then flM u (pB η) else if asked = 1 then emM u (pB η) else if asked = 2 then x - sm (pB η) (pR η) else if asked = 3 then sqM u (pB η) else if asked = 4 then (if x ≤ flM u (pB η) then 1 else 0) else if asked = 5 then (if emM u (pB η) = x then 1 else 0) else if asked = 6 then (if u x = y then 1 else 0) else (if pkS u = x then 1 else 0)
theorem sqM_le (hη : HPok η) (h8 : ∀ c, u c ≤ 8) : sqM u (pB η) ≤ 320 := by
  have j2 := hη.2.1
  unfold sqM
  have : sm (pB η) (fun b => u b * u b) ≤ sm (pB η) (fun _ => 64) := sm_le (fun i _ => Nat.mul_le_mul (h8 i) (h8 i))
  rw [sm_k] at this
  omega
theorem wo_lt (hη : HPok η) {asked x y : Nat} (hx : x < 1048576) (h8 : ∀ c, u c ≤ 8) : wo η asked x y u < 1048576 := by
  have h1 := flM_le h8 (pB η)
  have h2 := emM_le u (pB η)
  have h3 := hη.2.1
  have h4 := sqM_le hη h8
  unfold wo
  repeat' split
  all_goals omega
theorem worth (hη : HPok η) (hH : HX w η) (h8 : ∀ c, u c ≤ 8) {asked x y : Nat} (ha : asked ≤ 7) (hx : x < 1048576) (hy : y < 1048576) (hx6 : asked = 6 → x < 5) : f_X0_worth (nI asked) (nI (pkS u)) (nI x) (nI y) w = some (nI (wo η asked x y u), w) := by
  have h1 := flM_le h8 (pB η)
  have h2 := emM_le u (pB η)
  have h3 := hη.2.1
  have hpk := pkS_lt (u := u) (fun c _ => by have := h8 c; omega)
  have hrm := rm_le hη
  have fl := fullestOf hη hH h8
  have em := emptyOf hη hH h8
  have sq := squaresOf hη hH h8
  rw [f_X0_worth]
  unfold wo
  rcases (show asked = 0 ∨ asked = 1 ∨ asked = 2 ∨ asked = 3 ∨ asked = 4 ∨ asked = 5 ∨ asked = 6 ∨ asked = 7 by omega) with rfl | rfl | rfl | rfl | rfl | rfl | rfl | rfl
  · rw [if_pos (by decide), fl]; rfl
  · rw [if_neg (by decide), if_pos (by decide), em]; rfl
  · rw [if_neg (by decide), if_neg (by decide), if_pos (by decide), hH.2.2.2.1, jmax_sub (by omega) (by omega)]; rfl
  · rw [if_neg (by decide), if_neg (by decide), if_neg (by decide), if_pos (by decide), sq]; rfl
  · rw [if_neg (by decide), if_neg (by decide), if_neg (by decide), if_neg (by decide), if_pos (by decide), fl, bind_some']
    dsimp only
    by_cases q : x ≤ flM u (pB η)
    · rw [if_neg (fun q9 => absurd ((lt_nI (by omega) (by omega)).mp q9) (by omega))]; simp [q]; rfl
    · rw [if_pos ((lt_nI (by omega) (by omega)).mpr (by omega))]; simp [q]; rfl
  · rw [if_neg (by decide), if_neg (by decide), if_neg (by decide), if_neg (by decide), if_neg (by decide), if_pos (by decide), em, bind_some']
    dsimp only
    by_cases q : emM u (pB η) = x
    · rw [if_pos ((eq_nI (by omega) (by omega)).mpr (by omega))]; simp [q]; rfl
    · rw [if_neg (fun q9 => absurd ((eq_nI (by omega) (by omega)).mp q9) (by omega))]; simp [q]; rfl
  · rw [if_neg (by decide), if_neg (by decide), if_neg (by decide), if_neg (by decide), if_neg (by decide), if_neg (by decide), if_pos (by decide), unp (fun c _ => by have := h8 c; omega) (hx6 rfl)]
    have h8x := h8 x
    by_cases q : u x = y
    · rw [if_pos ((eq_nI (by omega) (by omega)).mpr (by omega))]; simp [q]; rfl
    · rw [if_neg (fun q9 => absurd ((eq_nI (by omega) (by omega)).mp q9) (by omega))]; simp [q]; rfl
  · rw [if_neg (by decide), if_neg (by decide), if_neg (by decide), if_neg (by decide), if_neg (by decide), if_neg (by decide), if_neg (by decide)]
    by_cases q : pkS u = x
    · rw [if_pos ((eq_nI (by omega) (by omega)).mpr (by omega))]; simp [q]; rfl
    · rw [if_neg (fun q9 => absurd ((eq_nI (by omega) (by omega)).mp q9) (by omega))]; simp [q]; rfl
end WO
