/-! the reference counts ways: a letter by the door, a letter by glances -/
theorem TT.sm {L : List (Nat × Nat × Nat)} {R : List Nat} {w w' : GW} {E : (Nat → Nat) → Nat} {K : Nat → Prop} {ps : Prop} (h : TT w E K ps) (S : Sm L R w w') (h1 : md L 130 29 = false) (h2 : ∀ j, md L 140 j = false) (h3 : ∀ j, md L 141 j = false) (h4 : ∀ j, md L 143 j = false) : TT w' E K ps :=
  h.of (S.I 130 29 h1) (fun j => S.I 140 j (h2 j)) (fun j => S.I 141 j (h3 j)) (fun j => S.L 143 j (h4 j))
theorem HMo.sm {L : List (Nat × Nat × Nat)} {R : List Nat} {w w' : GW} {η : HP} (h : HMo w η) (S : Sm L R w w') (h1 : ∀ j, md L 133 j = false) : HMo w' η := h.of (fun j => S.I 133 j (h1 j))
theorem GL.sm {L : List (Nat × Nat × Nat)} {R : List Nat} {w w' : GW} {x : Nat → Nat} {g : Nat} (h : GL w x g) (S : Sm L R w w') (h1 : ∀ j, md L 138 j = false) : GL w' x g := fun i hi => by rw [S.I 138 i (h1 i)]; exact h i hi
theorem mvH_le {η : HP} (hη : HPok η) {u : Nat → Nat} {n : Nat} (h : ∀ b, u b ≤ 8) : ∀ b, mvH η u n b ≤ 8 := by
  intro b
  unfold mvH mvS
  split
  · exact h b
  · unfold mvE
    split
    · exact h b
    · next q =>
      dsimp only
      split
      · next e =>
        have h1 : ¬ pR η (mvP u (pB η - 1) 1 0 0).2 ≤ u (mvP u (pB η - 1) 1 0 0).2 := fun z => q (Or.inr z)
        have := (hη.2.2.1 (mvP u (pB η - 1) 1 0 0).2).2
        omega
      · split
        · have := h (mvP u (pB η - 1) 1 0 0).1
          omega
        · exact h b
theorem ldH_le {η : HP} (hη : HPok η) {u : Nat → Nat} {b : Nat} (hb : b < pB η) (h : ∀ b, u b ≤ 8) : ∀ c, ldH η u b c ≤ 8 := by
  intro c
  unfold ldH
  cases e : goT (pB η) (pR η) u b with
  | none => exact h c
  | some z =>
    have := goS_some _ _ _ hb e
    unfold upM
    split
    · next q => cases q; have := (hη.2.2.1 c).2; omega
    · exact h c
theorem oI_lt5 {η : HP} (hη : HPok η) {u : Nat → Nat} {b : Nat} (hb : b < pB η) : ¬ (5 : Int32) ≤ oI (goT (pB η) (pR η) u b) := by
  have h5 := hη.2.1
  cases e : goT (pB η) (pR η) u b with
  | none => show ¬ (5 : Int32) ≤ -1; decide
  | some z =>
    have := goS_some _ _ _ hb e
    show ¬ (5 : Int32) ≤ nI z
    intro q
    have := (le_nI (a := 5) (by omega) (by omega)).mp q
    omega
/-- moves, over what the reference has apart -/
theorem moves_LK {w : GW} {η : HP} {u : Nat → Nat} {s n : Nat} (hη : HPok η) (hH : HMo w η) (hL : LK w u s) (hu8 : ∀ b, u b ≤ 8) (hn : n < 1000) : ∃ w', f_X9_moves (nI n) w = some ((), w') ∧ LK w' (mvH η u n) s := by
  obtain ⟨hB0, hB5, hR, hW, hD, hE, hM⟩ := hη
  obtain ⟨H0, H1, H2, H3, H4, H5⟩ := hH
  obtain ⟨w', e, h⟩ := moves (w := w) H0 hB0 hB5 H5 hM H1 hL.1 (fun b => (hR b).2) hu8 hn
  refine ⟨w', e, h, ?_⟩
  have S := fr_X9_moves (nI n) w e
  rw [S.I 130 22 rfl]
  exact hL.2
/-- the key behind a letter by the door -/
def outD (η : HP) (n x : Nat) : Nat := enc (mvH η (ldH η (dU x) (pD η)) n) (dK x)
theorem VK_out {η : HP} (hη : HPok η) {u : Nat → Nat} {b n s : Nat} (hb : b < pB η) (h8 : ∀ b, u b ≤ 8) (h7 : su u ≤ 7) (hs : s ≤ 5) : VK (enc (mvH η (ldH η u b) n) s) := by
  refine VK_enc (mvH_le hη (ldH_le hη hb h8)) hs ?_
  rw [← su_5, mvH_su hη]
  have := ldH_su hη (u := u) hb
  omega
theorem byDoor (hc : hcap) {w : GW} {η : HP} {E : (Nat → Nat) → Nat} {K : Nat → Prop} {ps : Prop} {x bw n : Nat} (hη : HPok η) (hH : HMo w η) (hT : TT w E K ps) (hx : VK x) (h7 : su (dU x) ≤ 7) (hb : ps → 0 < bw) (hn : n < 1000) : ∃ w', f_X9_byDoor (nI x) (lN bw) (nI n) w = some ((), w') ∧ TT w' (fun g => E g + bw * g (outD η n x)) (fun y => K y ∨ y = outD η n x) ps := by
  obtain ⟨w1, e1, L1⟩ := layApart_LK (w := w) hx.1
  have S1 := fr_X9_layApart (nI x) w e1
  have H1 := hH.sm S1 (fun _ => rfl)
  have T1 := hT.sm S1 rfl (fun _ => rfl) (fun _ => rfl) (fun _ => rfl)
  have hD := hη.2.2.2.2.1
  have hB5 := hη.2.1
  have e2 := goesTo (w := w1) (u := dU x) H1.1 hB5 H1.2.1 (fun b hb => L1.1 b (by omega)) (fun b => (hη.2.2.1 b).2) (dU_le x) hD
  generalize hw2 : gwT w1 (dU x) (goT (pB η) (pR η) (dU x) (pD η)) = w2 at e2
  have S2 := fr_X9_goesTo (nI (pD η)) w1 e2
  have H2 := H1.sm S2 (fun _ => rfl)
  have T2 := T1.sm S2 rfl (fun _ => rfl) (fun _ => rfl) (fun _ => rfl)
  have L2 : LK w2 (ldH η (dU x) (pD η)) (dK x) := by
    refine ⟨fun b hb => ?_, by rw [S2.I 130 22 rfl]; exact L1.2⟩
    rw [← hw2]
    unfold ldH
    cases h : goT (pB η) (pR η) (dU x) (pD η) with
    | none => exact L1.1 b hb
    | some z =>
      unfold upM gwT
      dsimp only
      rw [gI_sI]
      by_cases e : b = z
      · subst e; simp
      · rw [if_neg (by simp [e]), if_neg (fun q => e (by cases q; rfl))]; exact L1.1 b hb
  obtain ⟨w3, e3, L3⟩ := moves_LK hη H2 L2 (ldH_le hη hD (dU_le x)) hn
  have S3 := fr_X9_moves (nI n) w2 e3
  have T3 := T2.sm S3 rfl (fun _ => rfl) (fun _ => rfl) (fun _ => rfl)
  obtain ⟨w4, e4, T4⟩ := comesT hc (bw := bw) T3 (VK_out hη (n := n) hD (dU_le x) h7 (dK_le hx)) hb
  refine ⟨w4, ?_, T4⟩
  rw [f_X9_byDoor, e1, bind_some', if_pos (show inb _ _ from by decide), show ix (36 : Int32) = 36 from by decide]
  show (f_X9_goesTo (gI w1 133 36) w1).bind _ = _
  rw [H1.2.2.2.1, e2, bind_some', if_neg (oI_lt5 hη hD)]
  show (f_X9_moves (nI n) w2).bind _ = _
  rw [e3, bind_some', f_X9_byDoor_30]
  show (f_X9_together w3).bind _ = _
  rw [together L3, bind_some']
  show (f_X9_comesTo (nI _) _ w3).bind _ = _
  rw [e4, bind_some']
/-- the key behind a letter by the glances of number m, tie t -/
def tkG (η : HP) (r h g x m t : Nat) : Nat := (tkS (dU x) (tg (pB η) g m) (pB η) r h g (dK x) t).getD 0
def outG (η : HP) (r h g n x m t : Nat) : Nat := enc (mvH η (ldH η (dU x) (tkG η r h g x m t)) n) (spS η (dU x) r (dK x) (tkG η r h g x m t) (msk (tg (pB η) g m) g))
def tnG (η : HP) (r g x m : Nat) : Nat := tnS (dU x) (tg (pB η) g m) (pB η) r g
def coG (η : HP) (r g x m : Nat) : Nat := if r = 0 then tiO g / tnG η r g x m else 1
theorem ltS_some {u x : Nat → Nat} {m : Nat} : ∀ d i t, tcS u x m i + t < tcS u x m (i + d) → ∃ j, i ≤ j ∧ j < i + d ∧ u (x j) = m ∧ ltS u x m d i t = some (x j) := by
  intro d
  induction d with
  | zero => intro i t h; rw [Nat.add_zero] at h; omega
  | succ d ih =>
    intro i t h
    rw [ltS]
    rw [show i + (d + 1) = i + 1 + d by omega] at h ⊢
    by_cases q : u (x i) = m
    · rw [if_pos q]
      by_cases z : t = 0
      · rw [if_pos z]; exact ⟨i, by omega, by omega, q, rfl⟩
      · rw [if_neg z]
        obtain ⟨j, a, b, c, e⟩ := ih (i + 1) (t - 1) (by
          have : tcS u x m (i + 1) = tcS u x m i + 1 := by rw [tcS, if_pos q]
          omega)
        exact ⟨j, by omega, b, c, e⟩
    · rw [if_neg q]
      obtain ⟨j, a, b, c, e⟩ := ih (i + 1) t (by
        have : tcS u x m (i + 1) = tcS u x m i := by rw [tcS, if_neg q]; rfl
        omega)
      exact ⟨j, by omega, b, c, e⟩
theorem lzS_in {u x : Nat → Nat} {h g : Nat} (hg : 1 ≤ g) : ∀ d i, i + d = g → ∃ j, j < g ∧ lzS u x h g d i = x j := by
  intro d
  induction d with
  | zero => intro i _; exact ⟨g - 1, by omega, rfl⟩
  | succ d ih =>
    intro i hi
    rw [lzS]
    split
    · exact ⟨i, by omega, rfl⟩
    · exact ih (i + 1) (by omega)
theorem bsM_ge {x : Nat → Nat} {B s b : Nat} (h : s.testBit b = true) : ∀ i, (bsM x B s i).testBit b = true := by
  intro i
  induction i with
  | zero => exact h
  | succ i ih => rw [bsM, Nat.testBit_or, ih]; rfl
theorem rcM_ge {s sl b : Nat} (h : s.testBit b = true) : (rcM s sl).testBit b = true := by
  unfold rcM
  split
  · exact h
  · rw [Nat.testBit_or, h]; rfl
theorem tkS_some {u x : Nat → Nat} {B r h g sl t : Nat} (hg : 1 ≤ g) (hx : ∀ i, i < g → x i < B) (ht : t < tnS u x B r g) : ∃ b, tkS u x B r h g sl t = some b ∧ b < B := by
  unfold tkS
  unfold tnS at ht
  by_cases r0 : r = 0
  · rw [if_pos r0]
    rw [if_pos r0] at ht
    obtain ⟨j, a, b, c, e⟩ := ltS_some (u := u) (x := x) (m := lvl u x B g) g 0 t (by rw [show tcS u x (lvl u x B g) 0 = 0 from rfl, Nat.zero_add, Nat.zero_add]; exact ht)
    exact ⟨x j, e, hx j (by omega)⟩
  rw [if_neg r0]
  have hm := msk_some hg hx
  by_cases r1 : r = 1
  · rw [if_pos r1]
    obtain ⟨e, e1, e2, -⟩ := emT_some (u := u) hm
    exact ⟨e, e1, e2⟩
  rw [if_neg r1]
  by_cases r2 : r = 2
  · rw [if_pos r2]
    obtain ⟨j, a, e⟩ := lzS_in (u := u) (x := x) (h := h) hg g 0 (by omega)
    exact ⟨_, rfl, by rw [e]; exact hx j a⟩
  rw [if_neg r2]
  obtain ⟨b, b1, b2⟩ := hm
  by_cases r3 : r = 3
  · rw [if_pos r3]
    obtain ⟨e, e1, e2, -⟩ := emT_some (u := u) (B := B) ⟨b, b1, bsM_ge b2 g⟩
    exact ⟨e, e1, e2⟩
  rw [if_neg r3]
  obtain ⟨e, e1, e2, -⟩ := emT_some (u := u) (B := B) ⟨b, b1, rcM_ge (sl := sl) b2⟩
  exact ⟨e, e1, e2⟩
theorem tcS_le {u x : Nat → Nat} {m : Nat} : ∀ g, tcS u x m g ≤ g := by
  intro g
  induction g with
  | zero => exact Nat.le_refl _
  | succ g ih => rw [tcS]; split <;> omega
theorem tnS_pos {u x : Nat → Nat} {B r g : Nat} (hg : 1 ≤ g) (hx : ∀ i, i < g → x i < B) : 0 < tnS u x B r g := by
  unfold tnS
  split
  · obtain ⟨e, e1, e2, e3, -⟩ := emT_some (u := u) (msk_some hg hx)
    obtain ⟨i, hi, hxi⟩ := msk_bit.mp e3
    unfold lvl
    rw [e1]
    dsimp only
    have key : ∀ g, i < g → 0 < tcS u x (u e) g := by
      intro g
      induction g with
      | zero => intro h; omega
      | succ g ih =>
        intro h
        rw [tcS]
        by_cases z : i = g
        · subst z; rw [if_pos (by rw [hxi])]; omega
        · have := ih (by omega); omega
    exact key g hi
  · exact Nat.one_pos
theorem tw_pos {B : Nat} {wt : Nat → Nat} (h : ∀ b, 1 ≤ wt b) : ∀ c l, 1 ≤ tw B wt c l := by
  intro c
  induction c with
  | zero => intro l; exact Nat.le_refl _
  | succ c ih => intro l; rw [tw]; exact Nat.mul_le_mul (h _) (ih _)
