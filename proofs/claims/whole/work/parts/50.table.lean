/-! the reference's table of how boxes may lie: open addressing -/
def hsh (x : Nat) : Nat := x * 31 % 16384
def dU (x : Nat) : Nat → Nat := fun b => x / 9 ^ b % 9
def dK (x : Nat) : Nat := x / 59049
/-- a key that can be: slots up to 5, at most 8 letters -/
def VK (x : Nat) : Prop := x < 354294 ∧ dU x 0 + dU x 1 + dU x 2 + dU x 3 + dU x 4 ≤ 8
def TB (w : GW) (n : Nat) (key way : Nat → Nat) : Prop :=
  gI w 130 29 = nI n ∧ (∀ s, s < n → gI w 140 s = nI (key s) ∧ gL w 143 s = lN (way s)) ∧ (∀ i j, i < j → j < n → key i ≠ key j) ∧ (∀ s, s < n → VK (key s)) ∧
  (∀ k, k < 16384 → gI w 141 k = -1 ∨ ∃ s, s < n ∧ gI w 141 k = nI s) ∧ (∀ k k' s, k < 16384 → k' < 16384 → s < n → gI w 141 k = nI s → gI w 141 k' = nI s → k = k') ∧
  (∀ s, s < n → ∃ j, j < 16384 ∧ gI w 141 ((hsh (key s) + j) % 16384) = nI s ∧ ∀ i, i < j → gI w 141 ((hsh (key s) + i) % 16384) ≠ -1)
def tot (n : Nat) (key way : Nat → Nat) (g : Nat → Nat) : Nat := sm n (fun s => way s * g (key s))
theorem m1_ne {a : Nat} (h : a < 2147483648) : (-1 : Int32) ≠ nI a := fun q => by
  have := neg1_lt h
  rw [← q] at this
  exact absurd this (by decide)
theorem VK_lt {x : Nat} (h : VK x) : x < 354294 := h.1
theorem hsh_nI {x : Nat} (h : x < 354294) : irm (nI x * 31) 16384 = nI (hsh x) := by
  rw [show (31 : Int32) = nI 31 from rfl, pk_mul, show (16384 : Int32) = nI 16384 from rfl, irm_nI (by omega) (by omega) (by omega)]
  rfl
theorem comesTo {w : GW} {n x bw : Nat} {key way : Nat → Nat} (hcap : ∀ (m : Nat) (f : Nat → Nat), (∀ i, i < m → VK (f i)) → (∀ i j, i < j → j < m → f i ≠ f j) → m ≤ 7722) (hT : TB w n key way) (hx : VK x) :
    ∃ w' n' key' way', f_X9_comesTo (nI x) (lN bw) w = some ((), w') ∧ TB w' n' key' way' ∧ (∀ g, tot n' key' way' g = tot n key way g + bw * g x) ∧ (∀ y, (∃ s, s < n' ∧ key' s = y) ↔ (∃ s, s < n ∧ key s = y) ∨ y = x) ∧ (0 < bw → (∀ s, s < n → 0 < way s) → ∀ s, s < n' → 0 < way' s) := by
  obtain ⟨h1, h2, h3, h4, h5, h6, h7⟩ := hT
  have hn : n ≤ 7722 := hcap n key h4 h3
  have hx1 := VK_lt hx
  have hh : hsh x < 16384 := Nat.mod_lt _ (by omega)
  -- some place within n steps is free or holds x
  have hex : ∃ j, gI w 141 ((hsh x + j) % 16384) = -1 ∨ ∃ s, s < n ∧ gI w 141 ((hsh x + j) % 16384) = nI s ∧ key s = x := by
    refine Classical.byContradiction fun hno => ?_
    have hall : ∀ j, ∃ s, s < n ∧ gI w 141 ((hsh x + j) % 16384) = nI s := fun j => by
      rcases h5 ((hsh x + j) % 16384) (Nat.mod_lt _ (by omega)) with q | q
      · exact absurd ⟨j, Or.inl q⟩ hno
      · exact q
    obtain ⟨f, hf⟩ := Classical.axiomOfChoice hall
    have := fb_holes n (n + 1) f (fun i hi => (hf i).1) (fun i j hij hj e => by
      have e1 := (hf i).2
      have e2 := (hf j).2
      rw [← e] at e2
      have := h6 _ _ (f i) (Nat.mod_lt _ (by omega)) (Nat.mod_lt _ (by omega)) (hf i).1 e1 e2
      omega)
    omega
  obtain ⟨j0, hj0, hleast⟩ := pk_least _ hex
  have hbefore : ∀ i, i < j0 → ∃ s, s < n ∧ gI w 141 ((hsh x + i) % 16384) = nI s ∧ key s ≠ x := fun i hi => by
    rcases h5 ((hsh x + i) % 16384) (Nat.mod_lt _ (by omega)) with q | ⟨s, hs, q⟩
    · exact absurd (Or.inl q) (hleast i hi)
    · exact ⟨s, hs, q, fun e => hleast i hi (Or.inr ⟨s, hs, q, e⟩)⟩
  have hj0n : j0 ≤ n := by
    obtain ⟨f, hf⟩ := Classical.axiomOfChoice (fun i : {i // i < j0} => hbefore i.1 i.2)
    refine fb_holes n j0 (fun i => if h : i < j0 then f ⟨i, h⟩ else 0) (fun i hi => by simp only [hi, dif_pos]; exact (hf ⟨i, hi⟩).1) (fun i j hij hj e => ?_)
    have hi : i < j0 := by omega
    simp only [hi, hj, dif_pos] at e
    have e1 := (hf ⟨i, hi⟩).2.1
    have e2 := (hf ⟨j, hj⟩).2.1
    rw [← e] at e2
    have := h6 _ _ _ (Nat.mod_lt _ (by omega)) (Nat.mod_lt _ (by omega)) (hf ⟨i, hi⟩).1 e1 e2
    have hj2 : j < 16384 := by
      refine Classical.byContradiction fun hq => ?_
      -- places repeat after 16384 steps: then some place twice; but n < 16384 entries
      have hall2 : ∀ k : {k // k < 16384}, ∃ s, s < n ∧ gI w 141 ((hsh x + k.1) % 16384) = nI s := fun k => by
        obtain ⟨s, a, b, -⟩ := hbefore k.1 (by have := k.2; omega)
        exact ⟨s, a, b⟩
      obtain ⟨f2, hf2⟩ := Classical.axiomOfChoice hall2
      have := fb_holes n 16384 (fun i => if h : i < 16384 then f2 ⟨i, h⟩ else 0) (fun i hi => by simp only [hi, dif_pos]; exact (hf2 ⟨i, hi⟩).1) (fun i j hij hj e => by
        have hi : i < 16384 := by omega
        simp only [hi, hj, dif_pos] at e
        have e1 := (hf2 ⟨i, hi⟩).2
        have e2 := (hf2 ⟨j, hj⟩).2
        rw [← e] at e2
        have := h6 _ _ _ (Nat.mod_lt _ (by omega)) (Nat.mod_lt _ (by omega)) (hf2 ⟨i, hi⟩).1 e1 e2
        dsimp only at this
        omega)
      omega
    dsimp only at this
    omega
  have hk0 : (hsh x + j0) % 16384 < 16384 := Nat.mod_lt _ (by omega)
  have loop : ∀ d i m, i + d = j0 → d < m → f_X9_comesTo_10 m (nI x) (lN bw) (nI ((hsh x + i) % 16384)) w = f_X9_comesTo_49 (nI x) (lN bw) (nI ((hsh x + j0) % 16384)) w := by
    intro d
    induction d with
    | zero =>
      intro i m hi hm
      have : i = j0 := by omega
      subst this
      obtain ⟨m, rfl⟩ : ∃ m9, m = m9 + 1 := ⟨m - 1, by omega⟩
      rw [f_X9_comesTo_10, if_pos ((inb_nI (by omega)).mpr (by omega)), ix_nI (by omega)]
      rcases hj0 with q | ⟨s, hs, q, e⟩
      · rw [q, if_pos (by decide)]
      · rw [q, if_neg (lt0_nI (by omega)), if_pos ((inb_nI (by omega)).mpr (by omega)), if_pos ((inb_nI (by omega)).mpr (by omega)), ix_nI (by omega), (h2 s hs).1, e, if_pos rfl]
    | succ d ih =>
      intro i m hi hm
      have hki : (hsh x + i) % 16384 < 16384 := Nat.mod_lt _ (by omega)
      obtain ⟨m, rfl⟩ : ∃ m9, m = m9 + 1 := ⟨m - 1, by omega⟩
      obtain ⟨s, hs, q, e⟩ := hbefore i (by omega)
      have hks := VK_lt (h4 s hs)
      rw [f_X9_comesTo_10, if_pos ((inb_nI (by omega)).mpr (by omega)), ix_nI (by omega), q, if_neg (lt0_nI (by omega)), if_pos ((inb_nI (by omega)).mpr (by omega)), if_pos ((inb_nI (by omega)).mpr (by omega)), ix_nI (by omega), (h2 s hs).1, if_neg (fun q9 => e ((eq_nI (by omega) (by omega)).mp q9)), nI_1, show (16384 : Int32) = nI 16384 from rfl, irm_nI (by omega) (by omega) (by omega), show ((hsh x + i) % 16384 + 1) % 16384 = (hsh x + (i + 1)) % 16384 by omega]
      exact ih (i + 1) m (by omega) (by omega)
  have hstart : f_X9_comesTo (nI x) (lN bw) w = f_X9_comesTo_49 (nI x) (lN bw) (nI ((hsh x + j0) % 16384)) w := by
    rw [f_X9_comesTo, hsh_nI hx1, show nI (hsh x) = nI ((hsh x + 0) % 16384) by rw [Nat.add_zero, Nat.mod_eq_of_lt hh]]
    exact loop j0 0 fu (by omega) (fu_gt (by omega))
  rw [hstart]
  generalize hk : (hsh x + j0) % 16384 = k at hk0
  rw [hk] at hj0
  rcases hj0 with q | ⟨s, hs, q, e⟩
  · -- new
    have hnew : ∀ s, s < n → key s ≠ x := fun s hs e => by
      obtain ⟨j, a, b, c⟩ := h7 s hs
      rw [e] at b c
      have : j0 ≤ j := by
        refine Classical.byContradiction fun z => ?_
        exact hleast j (by omega) (Or.inr ⟨s, hs, b, e⟩)
      rcases Nat.lt_or_ge j0 j with z | z
      · have := c j0 z
        rw [hk] at this
        exact this q
      · have : j = j0 := by omega
        subst this
        rw [hk, q] at b
        exact m1_ne (by omega) b
    have hn2 : n + 1 ≤ 7722 := hcap (n + 1) (fun i => if i = n then x else key i) (fun i hi => by
      by_cases z : i = n
      · simp only [z, if_pos]; exact hx
      · simp only [z, if_neg, not_false_eq_true]; exact h4 i (by omega)) (fun i j hij hj => by
      have hi : i ≠ n := by omega
      by_cases z : j = n
      · simp only [z, hi, if_pos, if_neg, not_false_eq_true]; exact hnew i (by omega)
      · simp only [z, hi, if_neg, not_false_eq_true]; exact h3 i j hij (by omega))
    refine ⟨(sL (sI (sL (sI (sI w 141 k (nI n)) 140 n (nI x)) 143 n 0) 130 29 (nI (n + 1))) 143 n (gL (sI (sL (sI (sI w 141 k (nI n)) 140 n (nI x)) 143 n 0) 130 29 (nI (n + 1))) 143 n + lN bw)), n + 1, fun i => if i = n then x else key i, fun i => if i = n then bw else way i, ?_, ?_, ?_, ?_, ?_⟩
    · have a1 : gI (sI w 141 k (nI n)) 130 29 = nI n := by simp [gI_sI, h1]
      have a2 : gI (sI (sI w 141 k (nI n)) 140 n (nI x)) 130 29 = nI n := by simp [gI_sI, h1]
      have a3 : gI (sL (sI (sI w 141 k (nI n)) 140 n (nI x)) 143 n 0) 130 29 = nI n := by simp [gI_sI, gI_sL, h1]
      have hs1 : ∀ v : Int32, gI (sI (sL (sI (sI w 141 k (nI n)) 140 n (nI x)) 143 n 0) 130 29 v) 141 k = nI n := fun v => by simp [gI_sI, gI_sL]
      rw [f_X9_comesTo_49, if_pos ((inb_nI (by omega)).mpr (by omega)), ix_nI (by omega), q, if_neg (by decide), if_pos ((inb_nI (by omega)).mpr (by omega)), h1, a1, if_pos ((inb_nI (by omega)).mpr (by omega)), ix_nI (by omega), a2, if_pos ((inb_nI (by omega)).mpr (by omega)), ix_nI (by omega), a3, nI_1, f_X9_comesTo_100, if_pos ((inb_nI (by omega)).mpr (by omega)), ix_nI (by omega), hs1, if_pos ((inb_nI (by omega)).mpr (by omega)), if_pos ((inb_nI (by omega)).mpr (by omega)), ix_nI (by omega)]
    · refine ⟨by simp [gI_sI, gI_sL], fun s hs => ?_, fun i j hij hj => ?_, fun s hs => ?_, fun k' hk' => ?_, fun a b s ha hb hs e1 e2 => ?_, fun s hs => ?_⟩
      · by_cases z : s = n
        · subst z
          simp [gI_sI, gI_sL, gL_sL, gL_sI]
        · have := h2 s (by omega)
          simp [gI_sI, gI_sL, gL_sL, gL_sI, z, this.1, this.2]
      · have hi : i ≠ n := by omega
        by_cases z : j = n
        · simp only [z, hi, if_pos, if_neg, not_false_eq_true]; exact hnew i (by omega)
        · simp only [z, hi, if_neg, not_false_eq_true]; exact h3 i j hij (by omega)
      · by_cases z : s = n
        · simp only [z, if_pos]; exact hx
        · simp only [z, if_neg, not_false_eq_true]; exact h4 s (by omega)
      · by_cases z : k' = k
        · exact Or.inr ⟨n, by omega, by simp [gI_sI, gI_sL, z]⟩
        · rcases h5 k' hk' with q1 | ⟨s, hs, q1⟩
          · exact Or.inl (by simp [gI_sI, gI_sL, z, q1])
          · exact Or.inr ⟨s, by omega, by simp [gI_sI, gI_sL, z, q1]⟩
      · have r : ∀ c, gI (sL (sI (sL (sI (sI w 141 k (nI n)) 140 n (nI x)) 143 n 0) 130 29 (nI (n + 1))) 143 n (gL (sI (sL (sI (sI w 141 k (nI n)) 140 n (nI x)) 143 n 0) 130 29 (nI (n + 1))) 143 n + lN bw)) 141 c = if c = k then nI n else gI w 141 c := fun c => by simp [gI_sI, gI_sL]
        rw [r] at e1 e2
        by_cases za : a = k <;> by_cases zb : b = k
        · rw [za, zb]
        · rw [if_pos za] at e1
          rw [if_neg zb] at e2
          have : n = s := (eq_nI (by omega) (by omega)).mp e1
          rcases h5 b hb with q1 | ⟨s', hs', q1⟩
          · rw [q1] at e2; exact absurd e2 (m1_ne (by omega))
          · rw [q1] at e2; have := (eq_nI (by omega) (by omega)).mp e2; omega
        · rw [if_neg za] at e1
          rw [if_pos zb] at e2
          have : n = s := (eq_nI (by omega) (by omega)).mp e2
          rcases h5 a ha with q1 | ⟨s', hs', q1⟩
          · rw [q1] at e1; exact absurd e1 (m1_ne (by omega))
          · rw [q1] at e1; have := (eq_nI (by omega) (by omega)).mp e1; omega
        · rw [if_neg za] at e1
          rw [if_neg zb] at e2
          by_cases zs : s < n
          · exact h6 a b s ha hb zs e1 e2
          · rcases h5 a ha with q1 | ⟨s', hs', q1⟩
            · rw [q1] at e1; exact absurd e1 (m1_ne (by omega))
            · rw [q1] at e1; have := (eq_nI (by omega) (by omega)).mp e1; omega
      · have r : ∀ c, gI (sL (sI (sL (sI (sI w 141 k (nI n)) 140 n (nI x)) 143 n 0) 130 29 (nI (n + 1))) 143 n (gL (sI (sL (sI (sI w 141 k (nI n)) 140 n (nI x)) 143 n 0) 130 29 (nI (n + 1))) 143 n + lN bw)) 141 c = if c = k then nI n else gI w 141 c := fun c => by simp [gI_sI, gI_sL]
        by_cases z : s = n
        · refine ⟨j0, by omega, ?_, fun i hi => ?_⟩
          · simp only [z, if_pos]
            rw [r, hk, if_pos rfl]
          · simp only [z, if_pos]
            rw [r]
            split
            · exact fun q9 => m1_ne (by omega) q9.symm
            · obtain ⟨s', hs', q1, -⟩ := hbefore i hi
              rw [q1]
              exact fun q9 => m1_ne (by omega) q9.symm
        · obtain ⟨j, a, b, c⟩ := h7 s (by omega)
          refine ⟨j, a, ?_, fun i hi => ?_⟩
          · simp only [z, if_neg, not_false_eq_true]
            rw [r, if_neg, b]
            intro q9
            rw [q9, q] at b
            exact m1_ne (by omega) b
          · simp only [z, if_neg, not_false_eq_true]
            rw [r]
            split
            · exact fun q9 => m1_ne (by omega) q9.symm
            · exact c i hi
    · intro g
      unfold tot
      rw [sm_s]
      simp only [if_pos]
      rw [sm_c (n := n) (g := fun s => way s * g (key s))]
      intro i hi
      have : i ≠ n := by omega
      simp only [this, if_neg, not_false_eq_true]
    · intro y
      constructor
      · rintro ⟨s, hs, e⟩
        by_cases z : s = n
        · simp only [z, if_pos] at e; exact Or.inr e.symm
        · simp only [z, if_neg, not_false_eq_true] at e; exact Or.inl ⟨s, by omega, e⟩
      · rintro (⟨s, hs, e⟩ | e)
        · exact ⟨s, by omega, by have : s ≠ n := by omega
                                 simp only [this, if_neg, not_false_eq_true]; exact e⟩
        · exact ⟨n, by omega, by simp [e]⟩
    · intro hb hw s hs
      by_cases z : s = n
      · simp only [z, if_pos]; exact hb
      · simp only [z, if_neg, not_false_eq_true]; exact hw s (by omega)
  · -- known
    refine ⟨sL w 143 s (gL w 143 s + lN bw), n, key, fun i => if i = s then way s + bw else way i, ?_, ?_, ?_, ?_, ?_⟩
    · rw [f_X9_comesTo_49, if_pos ((inb_nI (by omega)).mpr (by omega)), ix_nI (by omega), q, if_pos (show (0 : Int32) ≤ nI s from nI_pos' (by omega)), f_X9_comesTo_100, if_pos ((inb_nI (by omega)).mpr (by omega)), ix_nI (by omega), q, if_pos ((inb_nI (by omega)).mpr (by omega)), if_pos ((inb_nI (by omega)).mpr (by omega)), ix_nI (by omega)]
    · refine ⟨h1, fun i hi => ⟨(h2 i hi).1, ?_⟩, h3, h4, h5, h6, h7⟩
      rw [gL_sL]
      by_cases z : i = s
      · subst z
        simp only [true_and, if_pos, and_self]
        rw [(h2 i hi).2, lN_add]
      · simp only [z, and_false, if_neg, not_false_eq_true]
        exact (h2 i hi).2
    · intro g
      show sm n (fun i => (if i = s then way s + bw else way i) * g (key i)) = sm n (fun i => way i * g (key i)) + bw * g x
      have := sm_up (n := n) (f := fun i => (if i = s then way s + bw else way i) * g (key i)) (g := fun i => way i * g (key i)) hs (fun i hi z => by simp only [z, if_neg, not_false_eq_true])
      simp only [if_pos] at this
      rw [Nat.add_mul, e] at this
      omega
    · intro y
      constructor
      · intro z; exact Or.inl z
      · rintro (z | z)
        · exact z
        · exact ⟨s, hs, by rw [z, e]⟩
    · intro hb hw i hi
      by_cases z : i = s
      · simp only [z, if_pos]; omega
      · simp only [z, if_neg, not_false_eq_true]; exact hw i hi
