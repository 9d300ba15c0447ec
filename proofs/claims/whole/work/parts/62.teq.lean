/-! the class's ways for one letter are the reference's -/
def lzP (u x : Nat → Nat) (h : Nat) : Nat → Option Nat
  | 0 => none
  | g + 1 => match lzP u x h g with
    | some b => some b
    | none => if u (x g) ≤ h then some (x g) else none
theorem lzP_st {u x : Nat → Nat} {h b : Nat} : ∀ d i, lzP u x h i = some b → lzP u x h (i + d) = some b := by
  intro d
  induction d with
  | zero => intro i hi; exact hi
  | succ d ih =>
    intro i hi
    rw [← Nat.add_assoc, lzP, ih i hi]
theorem lzS_P {u x : Nat → Nat} {h g : Nat} : ∀ d i, i + d = g → lzP u x h i = none → lzS u x h g d i = (lzP u x h g).getD (x (g - 1)) := by
  intro d
  induction d with
  | zero =>
    intro i hi h0
    have : i = g := by omega
    subst this
    rw [lzS, h0]
    rfl
  | succ d ih =>
    intro i hi h0
    rw [lzS]
    by_cases q : u (x i) ≤ h
    · rw [if_pos q]
      have : lzP u x h (i + 1) = some (x i) := by rw [lzP, h0, if_pos q]
      have := lzP_st d (i + 1) this
      rw [show i + 1 + d = g by omega] at this
      rw [this]
      rfl
    · rw [if_neg q]
      exact ih (i + 1) (by omega) (by rw [lzP, h0, if_neg q])
theorem lzP_c {u x y : Nat → Nat} {h : Nat} : ∀ g, (∀ i, i < g → x i = y i) → lzP u x h g = lzP u y h g := by
  intro g
  induction g with
  | zero => intro _; rfl
  | succ g ih =>
    intro hxy
    rw [lzP, lzP, ih (fun i hi => hxy i (by omega)), hxy g (by omega)]
theorem lzP_snoc {u x : Nat → Nat} {h g b : Nat} : lzP u (snoc x g b) h g = lzP u x h g := lzP_c g (fun i hi => by unfold snoc; rw [if_neg (by omega)])
def vO (F : Nat → Nat) (n : Nat) : Option Nat → Nat
  | none => n
  | some b => F b
theorem lz_N {B : Nat} (hB : 0 < B) (wt u : Nat → Nat) (h : Nat) : ∀ g, gsm B wt g (fun x => vO (fun _ => 0) 1 (lzP u x h g)) = flS B wt u h ^ g := by
  intro g
  induction g with
  | zero => rw [gsm_0]; rfl
  | succ g ih =>
    rw [gsm_s, Nat.pow_succ, ← ih, Nat.mul_comm, ← gsm_mul]
    refine gsm_c hB (fun x hx => ?_)
    unfold flS
    rw [← sm_mulr]
    refine sm_c (fun b _ => ?_)
    rw [lzP, lzP_snoc]
    have hs : snoc x g b g = b := by unfold snoc; rw [if_pos rfl]
    rw [hs]
    cases lzP u x h g with
    | some c => show wt b * 0 = _ * 0; omega
    | none =>
      show wt b * vO _ 1 (if u b ≤ h then some b else none) = _ * 1
      by_cases q : u b ≤ h
      · rw [if_pos q, if_neg (by omega)]; rfl
      · rw [if_neg q, if_pos (by omega)]; rfl
theorem lz_A {B : Nat} (hB : 0 < B) (wt u F : Nat → Nat) (h : Nat) : ∀ g, gsm B wt g (fun x => vO F 0 (lzP u x h g)) = sm B (fun b => if h < u b then 0 else wt b * mx (sm B wt) (flS B wt u h) g * F b) := by
  intro g
  induction g with
  | zero =>
    rw [gsm_0]
    refine (sm_z (fun b _ => ?_)).symm
    simp [mx]
  | succ g ih =>
    have e : gsm B wt (g + 1) (fun x => vO F 0 (lzP u x h (g + 1))) = gsm B wt g (fun x => sm B wt * vO F 0 (lzP u x h g) + sm B (fun b => if h < u b then 0 else wt b * F b) * vO (fun _ => 0) 1 (lzP u x h g)) := by
      rw [gsm_s]
      refine gsm_c hB (fun x hx => ?_)
      rw [← sm_mulr, ← sm_mulr, ← sm_add]
      refine sm_c (fun b _ => ?_)
      rw [lzP, lzP_snoc]
      have hs : snoc x g b g = b := by unfold snoc; rw [if_pos rfl]
      rw [hs]
      cases lzP u x h g with
      | some c => show wt b * F c = wt b * F c + _ * 0; omega
      | none =>
        show wt b * vO F 0 (if u b ≤ h then some b else none) = wt b * 0 + _ * 1
        by_cases q : u b ≤ h
        · rw [if_pos q, if_neg (by omega)]; show wt b * F b = _; omega
        · rw [if_neg q, if_pos (by omega)]; show wt b * 0 = _; omega
    rw [e, gsm_add, gsm_mul, gsm_mul, ih, lz_N hB, ← sm_mul, ← sm_mulr, ← sm_add]
    refine sm_c (fun b _ => ?_)
    by_cases q : h < u b
    · rw [if_pos q, if_pos q, if_pos q]; omega
    · rw [if_neg q, if_neg q, if_neg q, mx]
      generalize flS B wt u h ^ g = f
      generalize mx (sm B wt) (flS B wt u h) g = y
      generalize sm B wt = W
      rw [Nat.mul_add, Nat.add_mul, Nat.mul_comm y W]
      congr 1
      · rw [Nat.mul_left_comm (wt b) W y, Nat.mul_assoc W]
      · rw [Nat.mul_assoc, Nat.mul_comm (F b), ← Nat.mul_assoc]
theorem lazy_g {B g : Nat} (hB : 0 < B) (hg1 : 1 ≤ g) (wt u F : Nat → Nat) (h : Nat) : gsm B wt g (fun x => F (lzS u x h g g 0)) = sm B (fun b => lzW B wt u h g b * F b) := by
  obtain ⟨g', rfl⟩ : ∃ g', g = g' + 1 := ⟨g - 1, by omega⟩
  have e : gsm B wt (g' + 1) (fun x => F (lzS u x h (g' + 1) (g' + 1) 0)) = gsm B wt (g' + 1) (fun x => vO F 0 (lzP u x h (g' + 1)) + vO (fun _ => 0) (F (x g')) (lzP u x h (g' + 1))) := by
    refine gsm_c hB (fun x hx => ?_)
    rw [lzS_P (g' + 1) 0 (by omega) rfl, Nat.add_sub_cancel]
    cases lzP u x h (g' + 1) with
    | some c => show F c = F c + 0; omega
    | none => show F (x g') = 0 + F (x g'); omega
  have e2 : gsm B wt (g' + 1) (fun x => vO (fun _ => 0) (F (x g')) (lzP u x h (g' + 1))) = gsm B wt g' (fun x => sm B (fun b => if h < u b then wt b * F b else 0) * vO (fun _ => 0) 1 (lzP u x h g')) := by
    rw [gsm_s]
    refine gsm_c hB (fun x hx => ?_)
    rw [← sm_mulr]
    refine sm_c (fun b _ => ?_)
    rw [lzP, lzP_snoc]
    have hs : snoc x g' b g' = b := by unfold snoc; rw [if_pos rfl]
    rw [hs]
    cases lzP u x h g' with
    | some c => show wt b * 0 = _ * 0; omega
    | none =>
      show wt b * vO _ (F b) (if u b ≤ h then some b else none) = _ * 1
      by_cases q : u b ≤ h
      · rw [if_pos q, if_neg (by omega)]; show wt b * 0 = 0; omega
      · rw [if_neg q, if_pos (by omega)]; show wt b * F b = wt b * F b * 1; omega
  rw [e, gsm_add, lz_A hB, e2, gsm_mul, lz_N hB, ← sm_mulr, ← sm_add]
  refine sm_c (fun b _ => ?_)
  unfold lzW
  by_cases q : h < u b
  · rw [if_pos q, if_pos q, if_pos q, mx, Nat.mul_zero, Nat.zero_add, Nat.zero_add, Nat.mul_assoc, Nat.mul_comm (F b), ← Nat.mul_assoc]
  · rw [if_neg q, if_neg q, if_neg q, Nat.zero_mul, Nat.add_zero]
theorem cwB_sum {B : Nat} (hB5 : B ≤ 5) (W F : Nat → Nat) : sm 30 (fun i => cwB W B i * F i) = sm B (fun b => W b * F (b * 6)) := by
  rw [show 30 = 5 * 6 from rfl, sm_pair]
  have e : ∀ b, b < 5 → sm 6 (fun j => cwB W B (b * 6 + j) * F (b * 6 + j)) = if b < B then W b * F (b * 6) else 0 := by
    intro b hb
    rw [sm_one (k := 0) (by omega) _ (fun j hj h0 => by unfold cwB; rw [if_neg (by omega), Nat.zero_mul])]
    unfold cwB
    by_cases q : b < B
    · rw [if_pos q, if_pos ⟨by omega, by omega⟩, Nat.add_zero, show b * 6 / 6 = b by omega]
    · rw [if_neg q, if_neg (by omega), Nat.zero_mul]
  rw [sm_c e, show 5 = B + (5 - B) by omega, sm_app]
  rw [sm_z (n := 5 - B) (fun j _ => if_neg (by omega)), Nat.add_zero]
  exact sm_c (fun b hb => if_pos hb)
theorem rot_0 (B : Nat) : rot B 0 = 0 := by unfold rot; simp
theorem or_lc (a b c : Nat) : a ||| (b ||| c) = b ||| (a ||| c) := by rw [← Nat.or_assoc, Nat.or_comm a b, Nat.or_assoc]
theorem bsM_or {x : Nat → Nat} {B s t : Nat} : ∀ i, bsM x B (s ||| t) i = bsM x B s i ||| t := by
  intro i
  induction i with
  | zero => rfl
  | succ i ih => rw [bsM, bsM, ih, Nat.or_assoc, Nat.or_assoc, Nat.or_comm t]
theorem msk_lt2 {x : Nat → Nat} {B : Nat} (hx : ∀ i, x i < B) : ∀ g, msk x g < 2 ^ B := by
  intro g
  induction g with
  | zero => exact Nat.two_pow_pos _
  | succ g ih => exact Nat.or_lt_two_pow ih (Nat.pow_lt_pow_right (by omega) (hx g))
theorem bsM_rot {x : Nat → Nat} {B : Nat} (hB5 : B ≤ 5) (hx : ∀ i, x i < B) : ∀ g, bsM x B (msk x g) g = rot B (msk x g) := by
  have key : ∀ g, bsM x B 0 g ||| msk x g = rot B (msk x g) := by
    intro g
    induction g with
    | zero => rw [msk, rot_0, bsM, Nat.or_zero]
    | succ g ih =>
      have h1 := msk_lt2 hx g
      have h2 := sm32 hB5
      have h3 := hx g
      rw [msk, rot_or B (by omega) (msk x g) (by omega) h1 (x g) (by omega) h3, ← ih, bsM]
      simp only [Nat.or_assoc, Nat.or_comm, or_lc]
  intro g
  have := bsM_or (x := x) (B := B) (s := 0) (t := msk x g) g
  rw [Nat.zero_or] at this
  rw [this]
  exact key g
def jxS (η : HP) (u : Nat → Nat) (r h g sl : Nat) (x : Nat → Nat) (t : Nat) : Nat := (tkS u x (pB η) r h g sl t).getD 0 * 6 + (if r = 4 then slO (emT (ldH η u ((tkS u x (pB η) r h g sl t).getD 0)) (rcM (msk x g) sl) (pB η)) else 0)
def cwN (η : HP) (u : Nat → Nat) (r h g sl i : Nat) : Nat := if r = 0 then cwB (ltW (pB η) (pW η) u g) (pB η) i else if r = 2 then cwB (lzW (pB η) (pW η) u h g) (pB η) i else cwE η u r sl g (2 ^ pB η) i
theorem snS_0 {B : Nat} {wt : Nat → Nat} {g : Nat} (hg : 1 ≤ g) : snS B wt g 0 = 0 := by
  obtain ⟨g', rfl⟩ : ∃ g', g = g' + 1 := ⟨g - 1, by omega⟩
  rw [snS]
  split
  · unfold oneS
    exact sm_z (fun b _ => by rw [if_neg (by simp)])
  · rfl
theorem msk_ne {x : Nat → Nat} {g : Nat} (hg : 1 ≤ g) : msk x g ≠ 0 := by
  intro q
  have : (msk x g).testBit (x 0) = true := msk_bit.mpr ⟨0, by omega, rfl⟩
  rw [q] at this
  simp at this
theorem T_eq {η : HP} (hη : HPok η) {g r h sl : Nat} (hg1 : 1 ≤ g) (hg : g ≤ 3) (hr : r ≤ 4) (hsl : r ≠ 4 → sl = 0) (u F : Nat → Nat) : gsm (pB η) (pW η) g (fun x => sm (tnS u x (pB η) r g) (fun t => (if r = 0 then tiO g / tnS u x (pB η) r g else 1) * F (jxS η u r h g sl x t))) = (if r = 0 then tiO g else 1) * sm 30 (fun i => cwN η u r h g sl i * F i) := by
  have hB0 : 0 < pB η := hη.1
  have j2 := hη.2.1
  unfold cwN
  by_cases r0 : r = 0
  · subst r0
    simp only [if_true]
    rw [cwB_sum j2, ← lots_g hB0 hg1 hg]
    refine gsm_c hB0 (fun x hx => ?_)
    unfold lotF
    refine sm_c (fun t _ => ?_)
    unfold jxS
    rw [if_neg (by omega), Nat.add_zero]
    rfl
  · simp only [if_neg r0, Nat.one_mul]
    by_cases r2 : r = 2
    · subst r2
      simp only [if_true]
      rw [cwB_sum j2, ← lazy_g hB0 hg1]
      refine gsm_c hB0 (fun x hx => ?_)
      rw [show tnS u x (pB η) 2 g = 1 from rfl, sm_s, sm_0, Nat.zero_add]
      rfl
    · simp only [if_neg r2]
      have e1 : sm 30 (fun i => cwE η u r sl g (2 ^ pB η) i * F i) = sm (2 ^ pB η) (fun m => snS (pB η) (pW η) g m * F (ixS η u r sl m)) := by
        have e2 : ∀ i, i < 30 → cwE η u r sl g (2 ^ pB η) i * F i = sm (2 ^ pB η) (fun m => (if m ≠ 0 ∧ ixS η u r sl m = i then snS (pB η) (pW η) g m else 0) * F i) := fun i _ => (sm_mulr _ _ _).symm
        rw [sm_c e2, sm_swap]
        refine sm_c (fun m hm => ?_)
        by_cases m0 : m = 0
        · subst m0
          rw [snS_0 hg1, Nat.zero_mul]
          exact sm_z (fun i _ => by rw [if_neg (fun q => q.1 rfl), Nat.zero_mul])
        · rw [sm_one (ixS_lt hη (u := u) (r := r) (sl := sl) hm m0).1 _ (fun i _ q => by rw [if_neg (fun z => q z.2.symm), Nat.zero_mul]), if_pos ⟨m0, rfl⟩]
      rw [e1, snS_sum j2]
      refine gsm_c hB0 (fun x hx => ?_)
      have e3 : tnS u x (pB η) r g = 1 := by unfold tnS; rw [if_neg r0]
      rw [e3, sm_s, sm_0, Nat.zero_add]
      congr 1
      unfold jxS ixS tkM tkS ckS
      rw [if_neg r0, if_neg r2]
      by_cases r1 : r = 1
      · subst r1
        rw [if_pos rfl, if_neg (by omega), if_neg (by omega), if_neg (by omega)]
        rfl
      · rw [if_neg r1]
        by_cases r3 : r = 3
        · subst r3
          simp [bsM_rot j2 hx]
        · have r4 : r = 4 := by omega
          subst r4
          rw [if_neg r3, if_pos rfl, if_pos rfl, if_neg r3, if_pos rfl]
