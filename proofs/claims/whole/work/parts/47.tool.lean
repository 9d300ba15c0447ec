/-! tools: worlds read behind writes, small numbers -/
theorem gI_sI (w : GW) (k j k' j' : Nat) (v : Int32) : gI (sI w k j v) k' j' = if k' = k ∧ j' = j then v else gI w k' j' := rfl
theorem gL_sI (w : GW) (k j k' j' : Nat) (v : Int32) : gL (sI w k j v) k' j' = gL w k' j' := rfl
theorem gR_sI (w : GW) (k j r : Nat) (v : Int32) : gR (sI w k j v) r = gR w r := rfl
theorem gI_sL (w : GW) (k j k' j' : Nat) (v : Int64) : gI (sL w k j v) k' j' = gI w k' j' := rfl
theorem gL_sL (w : GW) (k j k' j' : Nat) (v : Int64) : gL (sL w k j v) k' j' = if k' = k ∧ j' = j then v else gL w k' j' := rfl
theorem gR_sL (w : GW) (k j r : Nat) (v : Int64) : gR (sL w k j v) r = gR w r := rfl
theorem gI_sR (w : GW) (k j r v : Nat) : gI (sR w r v) k j = gI w k j := rfl
theorem gL_sR (w : GW) (k j r v : Nat) : gL (sR w r v) k j = gL w k j := rfl
theorem gR_sR (w : GW) (r v r' : Nat) : gR (sR w r v) r' = if r' = r then v else gR w r' := rfl
theorem inb_nI {a n : Nat} (h : a < 2147483648) : inb (nI a) n ↔ a < n := by
  have h1 : ¬ nI a < 0 := nI_pos (by omega)
  have h2 : (nI a).toNatClampNeg = a := nI_clamp (by omega)
  constructor
  · intro q
    have := q.2
    rw [h2] at this
    exact this
  · intro q
    exact ⟨h1, by rw [h2]; exact q⟩
theorem ix_nI {a : Nat} (h : a < 2147483648) : ix (nI a) = a := nI_clamp (by omega)
theorem irm_nI {a d : Nat} (ha : a < 2147483648) (h0 : 0 < d) (hd : d < 2147483648) : irm (nI a) (nI d) = nI (a % d) := pk_rem (by omega) h0 (by omega)
theorem lrm_lN {a d : Nat} (ha : a < 9223372036854775808) (h0 : 0 < d) (hd : d < 9223372036854775808) : lrm (lN a) (lN d) = lN (a % d) := pk_lRem (by omega) h0 (by omega)
theorem le_nI {a b : Nat} (ha : a < 2147483648) (hb : b < 2147483648) : nI a ≤ nI b ↔ a ≤ b := nI_leI (by omega) (by omega)
theorem lt_nI {a b : Nat} (ha : a < 2147483648) (hb : b < 2147483648) : nI a < nI b ↔ a < b := nI_ltI (by omega) (by omega)
theorem eq_nI {a b : Nat} (ha : a < 2147483648) (hb : b < 2147483648) : nI a = nI b ↔ a = b := nI_eq (by omega) (by omega)
theorem div_nI {a d : Nat} (ha : a < 2147483648) (h0 : 0 < d) (hd : d < 2147483648) : nI a / nI d = nI (a / d) := pk_div (by omega) h0 (by omega)
theorem neg1_lt {a : Nat} (h : a < 2147483648) : (-1 : Int32) < nI a := by
  rw [Int32.lt_iff_toInt_lt, nI_toInt (by omega)]
  show (-1 : Int) < _
  omega
theorem neg1_lt0 : (-1 : Int32) < 0 := by decide
theorem lt0_nI {a : Nat} (h : a < 2147483648) : ¬ nI a < 0 := nI_pos (by omega)
theorem jmin_nI {a b : Nat} (ha : a < 2147483648) (hb : b < 2147483648) : jmin (nI a) (nI b) = nI (min a b) := by
  unfold jmin
  by_cases h : b < a
  · rw [if_pos ((lt_nI hb ha).mpr h), Nat.min_eq_right (by omega)]
  · rw [if_neg (fun q => h ((lt_nI hb ha).mp q)), Nat.min_eq_left (by omega)]
theorem jmax_nI {a b : Nat} (ha : a < 2147483648) (hb : b < 2147483648) : jmax (nI a) (nI b) = nI (max a b) := by
  unfold jmax
  by_cases h : a < b
  · rw [if_pos ((lt_nI ha hb).mpr h), Nat.max_eq_right (by omega)]
  · rw [if_neg (fun q => h ((lt_nI ha hb).mp q)), Nat.max_eq_left (by omega)]
theorem ix_lit (n : Nat) (h : n < 2147483648) : ix (OfNat.ofNat n : Int32) = n := ix_nI h
theorem inb_lit (n m : Nat) (h : n < 2147483648) : inb (OfNat.ofNat n : Int32) m ↔ n < m := inb_nI h
theorem fu_gt {n : Nat} (h : n < 20000) : n < fu := by rw [fu_eq]; exact h
theorem bind_some' {α β : Type} (x : α) (f : α → Option β) : (some x).bind f = f x := rfl
/-- a place or none, as an int -/
def oI : Option Nat → Int32
  | none => -1
  | some b => nI b
theorem sh_amt : ∀ b, b < 31 → ((nI b &&& 31).toBitVec.smod 32).toNat = b := by decide
theorem shl_nI {b : Nat} (h : b < 31) : (1 : Int32) <<< (nI b &&& 31) = nI (2 ^ b) := by
  have h2 : 1 * 2 ^ b < 2 ^ 32 := by
    have := Nat.pow_lt_pow_right (a := 2) (by omega) (show b < 32 by omega)
    omega
  have := pk_shlN (n := 1) (nI b &&& 31) b (sh_amt b h) h2
  rw [Nat.one_mul] at this
  exact this
theorem bt_nI {s b : Nat} (hs : s < 2147483648) (h : b < 31) : ((nI s >>> (nI b &&& 31)) &&& 1) = if s.testBit b then 1 else 0 := by
  rw [pk_shrN (by omega) _ b (sh_amt b h), show (1 : Int32) = nI 1 from rfl, fa_and, Nat.and_one_is_mod]
  have : s.testBit b = decide (s / 2 ^ b % 2 = 1) := by
    rw [Nat.testBit_eq_decide_div_mod_eq]
  rw [this]
  rcases Nat.mod_two_eq_zero_or_one (s / 2 ^ b) with q | q <;> simp [q] <;> rfl
theorem or_nI (a b : Nat) : nI a ||| nI b = nI (a ||| b) := fa_or a b
theorem sub_lt {a b c : Nat} (ha : a < 1073741824) (hb : b < 1073741824) (hc : c < 1073741824) : nI a - nI b < nI c ↔ a < b + c := by
  rw [Int32.lt_iff_toInt_lt, pk_sub_toInt (by omega) (by omega), nI_toInt (by omega)]
  omega
theorem eq0 {a : Nat} (h : a < 2147483648) : nI a = 0 ↔ a = 0 := eq_nI (b := 0) h (by omega)
theorem le0 {a : Nat} (h : a < 2147483648) : nI a ≤ 0 ↔ a = 0 := (le_nI (b := 0) h (by omega)).trans (by omega)
theorem eq1 {a : Nat} (h : a < 2147483648) : nI a = 1 ↔ a = 1 := eq_nI (b := 1) h (by omega)
theorem eq2 {a : Nat} (h : a < 2147483648) : nI a = 2 ↔ a = 2 := eq_nI (b := 2) h (by omega)
theorem eq3 {a : Nat} (h : a < 2147483648) : nI a = 3 ↔ a = 3 := eq_nI (b := 3) h (by omega)
theorem eq4 {a : Nat} (h : a < 2147483648) : nI a = 4 ↔ a = 4 := eq_nI (b := 4) h (by omega)
