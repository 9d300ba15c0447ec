/-! when there is no room left, nothing changes -/
section FL
variable {η : HP} {r h g : Nat}
theorem ldH_rm (hη : HPok η) {u : Nat → Nat} {b : Nat} (hb : b < pB η) (h : ∀ c, c < pB η → u c ≤ pR η c) : ∀ c, c < pB η → ldH η u b c ≤ pR η c := by
  intro c hc
  unfold ldH
  cases q : goT (pB η) (pR η) u b with
  | none => exact h c hc
  | some t =>
    have ht := (goS_some _ _ _ hb q).2
    unfold upM
    by_cases z : some t = some c
    · rw [if_pos z]
      cases z
      omega
    · rw [if_neg z]; exact h c hc
theorem mvH_rm (hη : HPok η) {u : Nat → Nat} {n : Nat} (h : ∀ c, c < pB η → u c ≤ pR η c) : ∀ c, c < pB η → mvH η u n c ≤ pR η c := by
  intro c hc
  unfold mvH mvS
  split
  · exact h c hc
  · generalize mvP u (pB η - 1) 1 0 0 = q
    unfold mvE
    by_cases z : u q.1 < u q.2 + 2 ∨ pR η q.2 ≤ u q.2
    · rw [if_pos z]; exact h c hc
    · rw [if_neg z]
      have h1 := h c hc
      split
      · next e => subst e; omega
      · split
        · next e => subst e; omega
        · exact h1
theorem succ_of (hη : HPok η) (hg1 : 1 ≤ g) {n x y : Nat} (hx : VK x) (hk : KL η r h g n x y) : ∃ b s, b < pB η ∧ s ≤ 5 ∧ y = enc (mvH η (ldH η (dU x) b) n) s := by
  have hB0 : 0 < pB η := hη.1
  rcases hk with ⟨-, e⟩ | ⟨-, m, t, hm, ht, e⟩
  · exact ⟨pD η, dK x, hη.2.2.2.2.1, dK_le hx, e⟩
  · obtain ⟨b, tb, hb⟩ := tkS_some (u := dU x) (x := tg (pB η) g m) (r := r) (h := h) (sl := dK x) hg1 (fun i _ => tg_lt (by omega) g m i) ht
    have etk : tkG η r h g x m t = b := by unfold tkG; rw [tb]; rfl
    unfold outG at e
    rw [etk] at e
    exact ⟨b, _, hb, spS_le hη (dK_le hx), e⟩
theorem RK_VK (hη : HPok η) (hg1 : 1 ≤ g) {n : Nat} (hn : n ≤ 8) {x : Nat} (hx : RK η r h g n x) : VK x := (RK_ok hη hg1 n hn x hx).1
theorem RK_room (hη : HPok η) (hg1 : 1 ≤ g) : ∀ n, n ≤ 8 → ∀ x, RK η r h g n x → ∀ c, c < pB η → dU x c ≤ pR η c := by
  intro n
  induction n with
  | zero =>
    intro _ x hx c _
    have : x = 0 := hx
    subst this
    unfold dU
    simp
  | succ n ih =>
    intro hn y ⟨x, hx, hk⟩ c hc
    obtain ⟨b, s, hb, hs, hy⟩ := succ_of hη hg1 (RK_VK hη hg1 (by omega) hx) hk
    have j2 := hη.2.1
    rw [hy, dU_enc (mvH_le hη (ldH_le hη hb (dU_le x))) c (by omega)]
    exact mvH_rm hη (ldH_rm hη hb (ih (by omega) x hx)) c hc
theorem full_st (hη : HPok η) {u : Nat → Nat} {b n : Nat} (hb : b < pB η) (hf : ∀ c, c < pB η → u c = pR η c) : mvH η (ldH η u b) n = u := by
  have j1 := hη.1
  have hg : goT (pB η) (pR η) u b = none := by
    cases q : goT (pB η) (pR η) u b with
    | none => rfl
    | some t =>
      have ht := goS_some _ _ _ hb q
      have := hf t ht.1
      omega
  have e : ldH η u b = u := by unfold ldH; rw [hg]; rfl
  rw [e]
  unfold mvH mvS
  split
  · rfl
  · have := mvP_lt (B := pB η) (u := u) (pB η - 1) 1 0 0 (by omega) (by omega) (by omega)
    unfold mvE
    rw [if_pos (Or.inr (by rw [hf _ this.2]; exact Nat.le_refl _))]
theorem RK_full (hη : HPok η) (hg1 : 1 ≤ g) : ∀ d, sm (pB η) (pR η) + d ≤ 8 → ∀ x, RK η r h g (sm (pB η) (pR η) + d) x → (∀ c, c < pB η → dU x c = pR η c) ∧ dV x = fun c => if c < pB η then pR η c else 0 := by
  have j2 := hη.2.1
  intro d
  induction d with
  | zero =>
    intro hd x hx
    obtain ⟨a1, a2, a3, a4⟩ := RK_more hη hg1 _ hd (Nat.le_refl _) x hx
    have hr := RK_room hη hg1 _ hd x hx
    have e : ∀ c, c < pB η → dU x c = pR η c := by
      intro c hc
      refine Classical.byContradiction (fun q => ?_)
      have h1 := hr c hc
      have h2 := sm_up (n := pB η) (f := dV x) (g := fun b => if b = c then dV x c else dV x b) (k := c) hc (fun i _ z => by rw [if_neg z])
      have h3 : sm (pB η) (dV x) < sm (pB η) (pR η) := by
        have key : ∀ n, n ≤ pB η → sm n (dV x) ≤ sm n (pR η) ∧ (c < n → sm n (dV x) < sm n (pR η)) := by
          intro n
          induction n with
          | zero => intro _; exact ⟨Nat.le_refl _, fun z => by omega⟩
          | succ n ih =>
            intro hn
            obtain ⟨i1, i2⟩ := ih (by omega)
            have h5 := hr n (by omega)
            have h6 : dV x n = dU x n := dV_5 (by omega)
            rw [sm_s, sm_s, h6]
            refine ⟨by omega, fun z => ?_⟩
            by_cases z2 : c = n
            · subst z2; omega
            · have := i2 (by omega); omega
        exact (key (pB η) (Nat.le_refl _)).2 hc
      rw [a2] at h3
      simp at h3
    refine ⟨e, funext (fun c => ?_)⟩
    by_cases q : c < pB η
    · rw [if_pos q, dV_5 (by omega)]; exact e c q
    · rw [if_neg q]; exact a3 c (by omega)
  | succ d ih =>
    intro hd y ⟨x, hx, hk⟩
    obtain ⟨i1, i2⟩ := ih (by omega) x hx
    obtain ⟨b, s, hb, hs, hy⟩ := succ_of hη hg1 (RK_VK (n := sm (pB η) (pR η) + d) hη hg1 (by omega) hx) hk
    rw [full_st hη hb i1] at hy
    have e : ∀ c, c < 5 → dU y c = dU x c := fun c hc => by rw [hy, dU_enc (dU_le x) c hc]
    refine ⟨fun c hc => by rw [e c (by omega)]; exact i1 c hc, ?_⟩
    rw [← i2]
    funext c
    unfold dV
    by_cases q : c < 5
    · rw [if_pos q, if_pos q, e c q]
    · rw [if_neg q, if_neg q]
/-- what is asked of layouts behind k letters is in proportion what it is behind as many as there is room for -/
theorem EL_full (hη : HPok η) (hg1 : 1 ≤ g) (hg : g ≤ 3) {k : Nat} (hk : k ≤ 8) (G : (Nat → Nat) → Nat) : EL η r h g k (fun x => G (dV x)) * alS η r g (ltS2 η k) = alS η r g k * EL η r h g (ltS2 η k) (fun x => G (dV x)) := by
  have hm : ltS2 η k = min k (sm (pB η) (pR η)) := by unfold ltS2; exact Nat.min_eq_left (Nat.le_trans (Nat.min_le_left _ _) hk)
  by_cases q : k ≤ sm (pB η) (pR η)
  · rw [hm, Nat.min_eq_left q, Nat.mul_comm]
  · rw [hm, Nat.min_eq_right (by omega)]
    obtain ⟨d, rfl⟩ : ∃ d, k = sm (pB η) (pR η) + d := ⟨k - sm (pB η) (pR η), by omega⟩
    clear hm q
    induction d with
    | zero => rw [Nat.add_zero, Nat.mul_comm]
    | succ d ih =>
      have e : EL η r h g (sm (pB η) (pR η) + (d + 1)) (fun x => G (dV x)) = @ite _ (drS (pE η) (sm (pB η) (pR η) + d + 1)) (Classical.propDecidable _) 1 (WY η r g) * EL η r h g (sm (pB η) (pR η) + d) (fun x => G (dV x)) := by
        rw [← Nat.add_assoc, EL, ← EL_mul]
        refine EL_c _ _ _ (fun x hx => ?_)
        rw [← TL_1 (r := r) (h := h) (x := x) hη hg1 hg, Nat.mul_comm, ← TL_mul]
        refine TL_c (fun y hy => ?_)
        rw [Nat.mul_one, (RK_full hη hg1 d (by omega) x hx).2, (RK_full (r := r) (h := h) hη hg1 (d + 1) (by omega) y ⟨x, hx, hy⟩).2]
      rw [e, Nat.mul_assoc, ih (by omega), ← Nat.add_assoc, alS, ← Nat.mul_assoc]
      congr 1
      exact Nat.mul_comm _ _
/-- the same layouts -/
theorem RK_same (hη : HPok η) (hg1 : 1 ≤ g) (hg : g ≤ 3) {k : Nat} (hk : k ≤ 8) : (∀ x, RK η r h g k x → ∃ y, RK η r h g (ltS2 η k) y ∧ dV y = dV x) ∧ ∀ x, RK η r h g (ltS2 η k) x → ∃ y, RK η r h g k y ∧ dV y = dV x := by
  have hm : ltS2 η k = min k (sm (pB η) (pR η)) := by unfold ltS2; exact Nat.min_eq_left (Nat.le_trans (Nat.min_le_left _ _) hk)
  by_cases q : k ≤ sm (pB η) (pR η)
  · rw [hm, Nat.min_eq_left q]
    exact ⟨fun x hx => ⟨x, hx, rfl⟩, fun x hx => ⟨x, hx, rfl⟩⟩
  · rw [hm, Nat.min_eq_right (by omega)]
    obtain ⟨d, rfl⟩ : ∃ d, k = sm (pB η) (pR η) + d := ⟨k - sm (pB η) (pR η), by omega⟩
    have f0 : ∀ x, RK η r h g (sm (pB η) (pR η)) x → dV x = fun c => if c < pB η then pR η c else 0 := fun x hx => (RK_full hη hg1 0 (by omega) x hx).2
    have f1 : ∀ x, RK η r h g (sm (pB η) (pR η) + d) x → dV x = fun c => if c < pB η then pR η c else 0 := fun x hx => (RK_full hη hg1 d hk x hx).2
    obtain ⟨y0, hy0⟩ := RK_one (r := r) (h := h) hη hg1 hg (sm (pB η) (pR η))
    obtain ⟨y1, hy1⟩ := RK_one (r := r) (h := h) hη hg1 hg (sm (pB η) (pR η) + d)
    exact ⟨fun x hx => ⟨y0, hy0, (f0 y0 hy0).trans (f1 x hx).symm⟩, fun x hx => ⟨y1, hy1, (f1 y1 hy1).trans (f0 x hx).symm⟩⟩
end FL
