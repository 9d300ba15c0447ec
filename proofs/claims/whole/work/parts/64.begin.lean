/-! all layouts are numbered -/
def NB : Nat → Nat → Nat
  | 0, _ => 1
  | b + 1, r => sm (r + 1) (fun d => NB b (r - d))
theorem NB_le : ∀ B, B < 6 → ∀ m, m < 9 → NB B m ≤ 1287 := by decide
def ord (u : Nat → Nat) : Nat → Nat → Nat
  | 0, _ => 0
  | b + 1, r => sm (u b) (fun d => NB b (r - d)) + ord u b (r - u b)
theorem sm_le_n {n m : Nat} (h : n ≤ m) (f : Nat → Nat) : sm n f ≤ sm m f := sm_mono h
theorem ord_lt {u : Nat → Nat} : ∀ b r, sm b u ≤ r → ord u b r < NB b r := by
  intro b
  induction b with
  | zero => intro r _; exact Nat.one_pos
  | succ b ih =>
    intro r h
    rw [sm_s] at h
    have h1 := ih (r - u b) (by omega)
    have h2 := sm_le_n (show u b + 1 ≤ r + 1 by omega) (fun d => NB b (r - d))
    rw [sm_s] at h2
    rw [ord, NB]
    omega
theorem ord_inj {u v : Nat → Nat} : ∀ b r, sm b u ≤ r → sm b v ≤ r → ord u b r = ord v b r → ∀ c, c < b → u c = v c := by
  intro b
  induction b with
  | zero => intro r _ _ _ c hc; omega
  | succ b ih =>
    intro r hu hv h c hc
    rw [sm_s] at hu hv
    rw [ord, ord] at h
    have h1 := ord_lt (u := u) b (r - u b) (by omega)
    have h2 := ord_lt (u := v) b (r - v b) (by omega)
    have e : u b = v b := by
      rcases Nat.lt_trichotomy (u b) (v b) with q | q | q
      · have := sm_le_n (show u b + 1 ≤ v b from q) (fun d => NB b (r - d))
        rw [sm_s] at this
        omega
      · exact q
      · have := sm_le_n (show v b + 1 ≤ u b from q) (fun d => NB b (r - d))
        rw [sm_s] at this
        omega
    rw [e] at h
    by_cases q : c = b
    · subst q; exact e
    · exact ih (r - v b) (by omega) (by omega) (by omega) c (by omega)
theorem ord_up {u v : Nat → Nat} {B most : Nat} : ∀ d b, b + d = B → (∀ c, b ≤ c → c < B → u c = v c) → ord v b (most - (sm B u - sm b u)) = ord u b (most - (sm B u - sm b u)) + 1 → ord v B most = ord u B most + 1 := by
  intro d
  induction d with
  | zero =>
    intro b hb hc h
    have : b = B := by omega
    subst this
    rw [Nat.sub_self, Nat.sub_zero] at h
    exact h
  | succ d ih =>
    intro b hb hc h
    refine ih (b + 1) (by omega) (fun c h1 h2 => hc c (by omega) h2) ?_
    have h3 := sm_mono (u := u) (show b + 1 ≤ B by omega)
    rw [sm_s] at h3
    rw [ord, ord, ← hc b (by omega) (by omega), sm_s, show most - (sm B u - (sm b u + u b)) - u b = most - (sm B u - sm b u) by omega, h]
    omega
def coS (most : Nat) : Nat → Nat → Nat → (Nat → Nat) → Bool × (Nat → Nat)
  | 0, _, _, u => (false, u)
  | d + 1, b, s, u => if most ≤ s then coS most d (b + 1) (s - u b) (fun c => if c = b then 0 else u c) else (true, fun c => if c = b then u b + 1 else u c)
theorem ord_z {v : Nat → Nat} : ∀ b r, (∀ c, c < b → v c = 0) → ord v b r = 0 := by
  intro b
  induction b with
  | zero => intro r _; rfl
  | succ b ih =>
    intro r h
    rw [ord, h b (by omega), sm_0, Nat.zero_add]
    exact ih _ (fun c hc => h c (by omega))
theorem coS_spec {u : Nat → Nat} {B most : Nat} (hm : sm B u ≤ most) : ∀ d b u', b + d = B → (∀ c, u' c = if c < b then 0 else u c) → ord u b (most - (sm B u - sm b u)) + 1 = NB b (most - (sm B u - sm b u)) →
    ((coS most d b (sm B u - sm b u) u').1 = true → sm B (coS most d b (sm B u - sm b u) u').2 ≤ most ∧ ord (coS most d b (sm B u - sm b u) u').2 B most = ord u B most + 1) ∧ ((coS most d b (sm B u - sm b u) u').1 = false → ord u B most + 1 = NB B most) ∧ ∀ c, B ≤ c → (coS most d b (sm B u - sm b u) u').2 c = u c := by
  intro d
  induction d with
  | zero =>
    intro b u' hb hu h
    have : b = B := by omega
    subst this
    rw [Nat.sub_self, Nat.sub_zero] at h
    refine ⟨(fun q => by cases q), fun _ => h, fun c hc => ?_⟩
    show u' c = _
    rw [hu, if_neg (by omega)]
  | succ d ih =>
    intro b u' hb hu h
    have h3 := sm_mono (u := u) (show b + 1 ≤ B by omega)
    rw [sm_s] at h3
    rw [coS]
    by_cases q : most ≤ sm B u - sm b u
    · rw [if_pos q, hu b, if_neg (by omega), show sm B u - sm b u - u b = sm B u - sm (b + 1) u by rw [sm_s]; omega]
      refine ih (b + 1) _ (by omega) (fun c => ?_) ?_
      · by_cases z : c = b
        · rw [if_pos z, if_pos (by omega)]
        · rw [if_neg z, hu c]
          by_cases z2 : c < b
          · rw [if_pos z2, if_pos (by omega)]
          · rw [if_neg z2, if_neg (by omega)]
      · rw [ord, NB, sm_s, show most - (sm B u - (sm b u + u b)) - u b = most - (sm B u - sm b u) by omega, show most - (sm B u - (sm b u + u b)) + 1 = u b + 1 by omega, sm_s, show most - (sm B u - (sm b u + u b)) - u b = most - (sm B u - sm b u) by omega, ← h]
        omega
    · rw [if_neg q]
      have hv : ∀ c, (fun c => if c = b then u' b + 1 else u' c) c = if c < b then 0 else if c = b then u b + 1 else u c := by
        intro c
        dsimp only
        by_cases z : c = b
        · subst z; rw [if_pos rfl, if_neg (by omega), if_pos rfl, hu c, if_neg (by omega)]
        · rw [if_neg z, hu c]
          by_cases z2 : c < b
          · rw [if_pos z2, if_pos z2]
          · rw [if_neg z2, if_neg z2, if_neg z]
      generalize (fun c => if c = b then u' b + 1 else u' c) = v at hv
      refine ⟨fun _ => ⟨?_, ?_⟩, fun z => (by cases z), fun c hc => ?_⟩
      · have e : ∀ n, b + 1 ≤ n → n ≤ B → sm n v + sm b u = sm n u + 1 := by
          intro n h1 h2
          obtain ⟨k, rfl⟩ : ∃ k, n = b + 1 + k := ⟨n - (b + 1), by omega⟩
          clear h1
          induction k with
          | zero =>
            show sm (b + 1) v + _ = sm (b + 1) u + 1
            rw [sm_s, sm_s, sm_z (fun c hc => by rw [hv c, if_pos hc]), hv b, if_neg (by omega), if_pos rfl]
            omega
          | succ k ihk =>
            have := ihk (by omega)
            show sm (b + 1 + k + 1) v + _ = sm (b + 1 + k + 1) u + 1
            rw [sm_s, sm_s, hv (b + 1 + k), if_neg (by omega), if_neg (by omega)]
            omega
        have := e B (by omega) (by omega)
        show sm B v ≤ most
        omega
      · show ord v B most = ord u B most + 1
        refine ord_up d (b + 1) (by omega) (fun c h1 h2 => by rw [hv c, if_neg (by omega), if_neg (by omega)]) ?_
        rw [ord, ord, hv b, if_neg (by omega), if_pos rfl, sm_s (u b), ord_z b _ (fun c hc => by rw [hv c, if_pos hc]), sm_s b, show most - (sm B u - (sm b u + u b)) - u b = most - (sm B u - sm b u) by omega, ← h]
        omega
      · show v c = u c
        rw [hv c, if_neg (by omega), if_neg (by omega)]
/-- nothing but ints of one place changed -/
def oN (k : Nat) (w w' : GW) : Prop := (∀ p j, p ≠ k → gI w' p j = gI w p j) ∧ (∀ r, gR w' r = gR w r) ∧ ∀ p j, gL w' p j = gL w p j
theorem oN.rf {k : Nat} {w : GW} : oN k w w := ⟨fun _ _ _ => rfl, fun _ => rfl, fun _ _ => rfl⟩
theorem oN.tr {k : Nat} {a b c : GW} (h : oN k a b) (h2 : oN k b c) : oN k a c := ⟨fun p j q => (h2.1 p j q).trans (h.1 p j q), fun r => (h2.2.1 r).trans (h.2.1 r), fun p j => (h2.2.2 p j).trans (h.2.2 p j)⟩
theorem oN.st (k j : Nat) (w : GW) (v : Int32) : oN k w (sI w k j v) := ⟨fun p j' q => by rw [gI_sI, if_neg (fun z => q z.1)], fun _ => rfl, fun _ _ => rfl⟩
theorem fxH_z (x : Nat) : fxH x = 4 ∨ fxH x = 25 ∨ fxH x = 46 := by
  unfold fxH
  by_cases h : kd x = 3
  · rw [if_pos h]
    have h2 : x < 150 := kd_lt h (by decide)
    have key : ∀ x, x < 150 → kd x = 3 → x = 4 ∨ x = 25 ∨ x = 46 := by decide
    exact key x h2 h
  · rw [if_neg h]; exact Or.inl rfl
theorem fxH_lt (x : Nat) : fxH x ≤ 46 := by rcases fxH_z x with h | h | h <;> omega
theorem HCl.of2 {w w' : GW} {x : Nat} {η : HP} (h : HCl w (fxH x) η) (k : ∀ p j, p < 60 → gI w' p j = gI w p j) : HCl w' (fxH x) η := by
  have := fxH_lt x
  obtain ⟨h1, h2, h3, h4, h5, h6, h7, h8⟩ := h
  exact ⟨(k _ _ (by omega)).trans h1, fun b hb => (k _ _ (by omega)).trans (h2 b hb), fun b hb => (k _ _ (by omega)).trans (h3 b hb), (k _ _ (by omega)).trans h4, (k _ _ (by omega)).trans h5, (k _ _ (by omega)).trans h6, (k _ _ (by omega)).trans h7, (k _ _ (by omega)).trans h8⟩
theorem HX.oN {w w' : GW} {k : Nat} {η : HP} (h : HX w η) (hk : 60 ≤ k) (o : oN k w w') : HX w' η := by
  unfold HX
  rw [o.2.1]
  exact HCl.of2 h (fun p j hp => o.1 p j (by omega))
theorem countOn_2 {η : HP} {most : Nat} (hη : HPok η) (hm : most < 1000) : ∀ d b n w u s, b + d = pB η → d < n → HX w η → (∀ c, c < 5 → gI w 113 c = nI (u c)) → s < 1000 → (∀ c, u c < 1000) → (∀ c, c < pB η → b ≤ c → u c ≤ s ∨ s < most) → (sm (pB η) u = sm b u + s) → ∃ w', f_X0_countOn_32 n (nI most) (nI s) (nI b) w = some (if (coS most d b s u).1 then 1 else 0, w') ∧ oN 113 w w' ∧ (∀ c, c < 5 → gI w' 113 c = nI ((coS most d b s u).2 c)) := by
  intro d
  induction d with
  | zero =>
    intro b n w u s hb hn hH hu hs hu1 hc hsum
    obtain ⟨n, rfl⟩ : ∃ m9, n = m9 + 1 := ⟨n - 1, by omega⟩
    have : b = pB η := by omega
    subst this
    have j2 := hη.2.1
    refine ⟨w, ?_, oN.rf, hu⟩
    rw [f_X0_countOn_32, hH.1, if_pos ((le_nI (by omega) (by omega)).mpr (by omega))]
    rfl
  | succ d ih =>
    intro b n w u s hb hn hH hu hs hu1 hc hsum
    obtain ⟨n, rfl⟩ : ∃ m9, n = m9 + 1 := ⟨n - 1, by omega⟩
    have j2 := hη.2.1
    have hub := hu1 b
    have h3 := sm_mono (u := u) (show b + 1 ≤ pB η by omega)
    rw [sm_s] at h3
    rw [f_X0_countOn_32, hH.1, if_neg (fun q9 => absurd ((le_nI (by omega) (by omega)).mp q9) (by omega)), coS]
    by_cases q : most ≤ s
    · rw [if_pos q, if_pos ((le_nI (by omega) (by omega)).mpr (by omega)), if_pos ((inb_nI (by omega)).mpr (by omega)), if_pos ((inb_nI (by omega)).mpr (by omega)), ix_nI (by omega), hu b (by omega), pk_sub (by omega), nI_1]
      have hsm : ∀ n, n ≤ b → sm n (fun c => if c = b then 0 else u c) = sm n u := fun n hn => sm_c (fun i hi => if_neg (by omega))
      have hsm2 : sm (pB η) (fun c => if c = b then 0 else u c) + u b = sm (pB η) u := by
        have := sm_up (n := pB η) (f := fun c => if c = b then 0 else u c) (g := u) (k := b) (by omega) (fun i hi z => if_neg z)
        rw [if_pos rfl] at this
        omega
      obtain ⟨w', a1, a2, a3⟩ := ih (b + 1) n (sI w 113 b 0) (fun c => if c = b then 0 else u c) (s - u b) (by omega) (by omega) (hH.oN (by omega) (oN.st _ _ _ _)) (fun c hc5 => by
        rw [gI_sI]
        by_cases z : c = b
        · rw [if_pos ⟨rfl, z⟩, if_pos z]; rfl
        · rw [if_neg (fun zz => z zz.2), if_neg z, hu c hc5]) (by omega) (fun c => by split; omega; exact hu1 c) (fun c h1 h2 => by
          rw [if_neg (by omega)]
          left
          have e1 : u b + u c ≤ s := by
            have e2 : sm (b + 1) u + u c ≤ sm (pB η) u := by
              have e3 := sm_mono (u := u) (show c + 1 ≤ pB η by omega)
              have e4 := sm_mono (u := u) (show b + 1 ≤ c by omega)
              rw [sm_s] at e3
              omega
            rw [sm_s] at e2
            omega
          omega) (by
          rw [sm_s, hsm b (Nat.le_refl _)]
          rw [if_pos rfl]
          omega)
      refine ⟨w', a1, (oN.st _ _ _ _).tr a2, a3⟩
    · rw [if_neg q, if_neg (fun q9 => absurd ((le_nI (by omega) (by omega)).mp q9) (by omega)), if_pos ((inb_nI (by omega)).mpr (by omega)), if_pos ((inb_nI (by omega)).mpr (by omega)), ix_nI (by omega), hu b (by omega), nI_1]
      refine ⟨_, rfl, oN.st _ _ _ _, fun c hc5 => ?_⟩
      rw [gI_sI]
      show _ = nI (if c = b then u b + 1 else u c)
      by_cases z : c = b
      · rw [if_pos ⟨rfl, z⟩, if_pos z]
      · rw [if_neg (fun zz => z zz.2), if_neg z, hu c hc5]
theorem countOn {η : HP} {most : Nat} {w : GW} {u : Nat → Nat} (hη : HPok η) (hm : most < 1000) (hH : HX w η) (hu : ∀ c, c < 5 → gI w 113 c = nI (u c)) (hu1 : ∀ c, u c < 100) : ∃ w', f_X0_countOn (nI most) w = some (if (coS most (pB η) 0 (sm (pB η) u) u).1 then 1 else 0, w') ∧ oN 113 w w' ∧ (∀ c, c < 5 → gI w' 113 c = nI ((coS most (pB η) 0 (sm (pB η) u) u).2 c)) := by
  have j2 := hη.2.1
  have hs : sm (pB η) u < 1000 := by
    have e : sm (pB η) u ≤ sm (pB η) (fun _ => 100) := sm_le (fun i _ => Nat.le_of_lt (hu1 i))
    have e2 : ∀ n, sm n (fun _ => 100) = 100 * n := by
      intro n
      induction n with
      | zero => rfl
      | succ n ih => rw [sm_s, ih]; omega
    rw [e2] at e
    omega
  obtain ⟨w', a1, a2, a3⟩ := countOn_2 hη hm (pB η) 0 fu w u (sm (pB η) u) (by omega) (fu_gt (by omega)) hH hu hs (fun c => by have := hu1 c; omega) (fun c h1 _ => Or.inl (sm_term h1 u)) (by rw [sm_0]; omega)
  refine ⟨w', ?_, a2, a3⟩
  have key : ∀ d i n, i + d = pB η → d < n → f_X0_countOn_4 n (nI most) (nI (sm i u)) (nI i) w = f_X0_countOn_32 fu (nI most) (nI (sm (pB η) u)) 0 w := by
    intro d
    induction d with
    | zero =>
      intro i n hi hn
      obtain ⟨n, rfl⟩ : ∃ m9, n = m9 + 1 := ⟨n - 1, by omega⟩
      have : i = pB η := by omega
      subst this
      rw [f_X0_countOn_4, hH.1, if_pos ((le_nI (by omega) (by omega)).mpr (by omega))]
    | succ d ih =>
      intro i n hi hn
      obtain ⟨n, rfl⟩ : ∃ m9, n = m9 + 1 := ⟨n - 1, by omega⟩
      have e := ih (i + 1) n (by omega) (by omega)
      rw [sm_s] at e
      rw [f_X0_countOn_4, hH.1, if_neg (fun q9 => absurd ((le_nI (by omega) (by omega)).mp q9) (by omega)), if_pos ((inb_nI (by omega)).mpr (by omega)), ix_nI (by omega), hu i (by omega), nI_add, nI_1]
      exact e
  have e := key (pB η) 0 fu (by omega) (fu_gt (by omega))
  rw [f_X0_countOn, show (0 : Int32) = nI 0 from rfl]
  rw [sm_0] at e
  rw [e, show (0 : Int32) = nI 0 from rfl]
  exact a1
