/-- beyond the boxes nothing lies -/
def ZB (B : Nat) (u : Nat → Nat) : Prop := ∀ c, B ≤ c → u c = 0
theorem pkS_c {u v : Nat → Nat} (h : ∀ c, c < 5 → u c = v c) : pkS u = pkS v := by
  unfold pkS
  rw [h 0 (by omega), h 1 (by omega), h 2 (by omega), h 3 (by omega), h 4 (by omega)]
theorem ZB_c {B : Nat} {u v : Nat → Nat} (hu : ZB B u) (hv : ZB B v) (h : ∀ c, c < B → u c = v c) : u = v := by
  funext c
  by_cases q : c < B
  · exact h c q
  · rw [hu c (by omega), hv c (by omega)]
theorem ZB_le {B : Nat} {u : Nat → Nat} (hu : ZB B u) (c : Nat) : u c ≤ sm B u := by
  by_cases q : c < B
  · exact sm_term q u
  · rw [hu c (by omega)]; exact Nat.zero_le _
/-- which layouts have their packing so far -/
def LIE (w : GW) (B most : Nat) (P : (Nat → Nat) → Prop) : Prop := ∀ v, ZB B v → sm B v ≤ most → P v → gI w 112 (rk v B) = nI (pkS v)
theorem begin_in {η : HP} {most : Nat} (hη : HPok η) (hm : most ≤ 8) : ∀ d i n w u, i + d = 1287 → d + 1 < n → HX w η → (∀ c, c < 5 → gI w 113 c = nI (u c)) → ZB (pB η) u → sm (pB η) u ≤ most → ord u (pB η) most = i → LIE w (pB η) most (fun v => ord v (pB η) most < i) → ∃ w', f_X0_begin_63 n (nI most) 1 (nI i) w = some ((), w') ∧ (∀ r, gR w' r = gR w r) ∧ (∀ p j, p ≠ 112 → p ≠ 113 → gI w' p j = gI w p j) ∧ LIE w' (pB η) most (fun _ => True) ∧ ∃ u', ZB (pB η) u' ∧ ∀ c, c < 5 → gI w' 113 c = nI (u' c) := by
  intro d
  induction d with
  | zero =>
    intro i n w u hi hn hH hu hz hs ho hL
    have h1 := ord_lt (u := u) (pB η) most hs
    have h2 := NB_le (pB η) (by have := hη.2.1; omega) most (by omega)
    omega
  | succ d ih =>
    intro i n w u hi hn hH hu hz hs ho hL
    obtain ⟨n, rfl⟩ : ∃ m9, n = m9 + 1 := ⟨n - 1, by omega⟩
    have j1 := hη.1
    have j2 := hη.2.1
    have u8 : ∀ c, u c ≤ 8 := fun c => by have := ZB_le hz c; omega
    have hr := rk_lt (u := u) j1 j2 (by omega)
    have hH1 : HX (sI w 112 (rk u (pB η)) (nI (pkS u))) η := hH.oN (by omega) (oN.st _ _ _ _)
    have hu1 : ∀ c, c < 5 → gI (sI w 112 (rk u (pB η)) (nI (pkS u))) 113 c = nI (u c) := fun c hc => by rw [gI_sI, if_neg (by omega)]; exact hu c hc
    obtain ⟨w2, a1, a2, a3⟩ := countOn (most := most) (u := u) hη (by omega) hH1 hu1 (fun c => by have := u8 c; omega)
    obtain ⟨c1, c2, c3⟩ := coS_spec (u := u) (B := pB η) (most := most) hs (pB η) 0 u (by omega) (fun c => by rw [if_neg (by omega)]) (by rw [ord, NB])
    rw [sm_0, Nat.sub_zero] at c1 c2 c3
    have hL2 : LIE w2 (pB η) most (fun v => ord v (pB η) most < i + 1) := by
      intro v hv hvs hvo
      rw [a2.1 _ _ (by omega), gI_sI]
      by_cases q : ord v (pB η) most = i
      · have e := ord_inj (u := v) (v := u) (pB η) most hvs hs (by rw [q, ho])
        have := ZB_c hv hz e
        subst this
        rw [if_pos ⟨rfl, rfl⟩]
      · rw [if_neg (fun z => q (by
          have e := rk_inj (pB η) z.2
          have := ZB_c hv hz e
          rw [this]; exact ho))]
        exact hL v hv hvs (by omega)
    rw [f_X0_begin_63, show (1287 : Int32) = nI 1287 from rfl, if_neg (fun q9 => absurd ((le_nI (by omega) (by omega)).mp q9) (by omega)), if_neg one_ne, rank hη hH.1 hu (by omega), bind_some']
    show ∃ w', (if nI (rk u (pB η)) < 0 then _ else _) = _ ∧ _
    rw [if_neg (lt0_nI (by omega)), pack hu (fun b hb => by have := u8 b; omega), bind_some']
    show ∃ w', (if inb (nI (rk u (pB η))) 1287 then f_X0_begin_104 _ _ _ _ else none) = _ ∧ _
    rw [show (1287 : Nat) = 1287 from rfl, if_pos ((inb_nI (by omega)).mpr (by omega)), ix_nI (by omega), f_X0_begin_104, a1, bind_some']
    have k1 : ∀ p j, p ≠ 112 → p ≠ 113 → gI w2 p j = gI w p j := fun p j q1 q2 => by rw [a2.1 p j q2, gI_sI, if_neg (fun z => q1 z.1)]
    cases hb : (coS most (pB η) 0 (sm (pB η) u) u).1 with
    | true =>
      obtain ⟨d1, d2⟩ := c1 hb
      rw [if_pos rfl]
      dsimp only
      rw [nI_1]
      obtain ⟨w', e1, e0, e2, e3⟩ := ih (i + 1) n w2 _ (by omega) (by omega) (hH1.oN (by omega) a2) a3 (fun c hc => by rw [c3 c hc]; exact hz c hc) d1 (by rw [d2, ho]) hL2
      exact ⟨w', e1, fun r => (e0 r).trans (a2.2.1 r), fun p j q1 q2 => (e2 p j q1 q2).trans (k1 p j q1 q2), e3⟩
    | false =>
      have d1 := c2 hb
      obtain ⟨n, rfl⟩ : ∃ n', n = n' + 1 := ⟨n - 1, by omega⟩
      rw [if_neg (by decide), f_X0_begin_63]
      refine ⟨w2, by split <;> rfl, a2.2.1, k1, fun v hv hvs _ => hL2 v hv hvs ?_, _, fun c hc => by rw [c3 c hc]; exact hz c hc, a3⟩
      have := ord_lt (u := v) (pB η) most hvs
      omega
theorem begin_28 {η : HP} {L : Nat} (hη : HPok η) (hL : L < 1000) : ∀ d i n w, i + d = 5 → d < n → HX w η → gI w (fxH (gR w 3)) 2 = nI L → (∀ c, c < i → gI w 113 c = nI 0) → ∃ w', f_X0_begin_28 n (nI i) w = some ((), w') ∧ (∀ r, gR w' r = gR w r) ∧ (∀ p j, p ≠ 112 → p ≠ 113 → gI w' p j = gI w p j) ∧ LIE w' (pB η) (ltS2 η L) (fun _ => True) ∧ ∃ u', ZB (pB η) u' ∧ ∀ c, c < 5 → gI w' 113 c = nI (u' c) := by
  intro d
  induction d with
  | zero =>
    intro i n w hi hn hH h2 h0
    obtain ⟨n, rfl⟩ : ∃ m9, n = m9 + 1 := ⟨n - 1, by omega⟩
    have : i = 5 := by omega
    subst this
    have hl : ltS2 η L ≤ 8 := Nat.min_le_right _ _
    rw [f_X0_begin_28, show (5 : Int32) = nI 5 from rfl, if_pos ((le_nI (by omega) (by omega)).mpr (by omega)), h2, letters hη hH hL, bind_some']
    show ∃ w', f_X0_begin_63 fu (nI (ltS2 η L)) 1 0 w = _ ∧ _
    rw [show (0 : Int32) = nI 0 from rfl]
    refine begin_in hη hl 1287 0 fu w (fun _ => 0) (by omega) (fu_gt (by omega)) hH h0 (fun _ _ => rfl) (by rw [sm_z (fun _ _ => rfl)]; exact Nat.zero_le _) (ord_z _ _ (fun _ _ => rfl)) (fun v _ _ q => by omega)
  | succ d ih =>
    intro i n w hi hn hH h2 h0
    obtain ⟨n, rfl⟩ : ∃ m9, n = m9 + 1 := ⟨n - 1, by omega⟩
    have hz := fxH_lt (gR w 3)
    rw [f_X0_begin_28, show (5 : Int32) = nI 5 from rfl, if_neg (fun q9 => absurd ((le_nI (by omega) (by omega)).mp q9) (by omega)), show (5 : Nat) = 5 from rfl, if_pos ((inb_nI (by omega)).mpr (by omega)), ix_nI (by omega), nI_1]
    obtain ⟨w', e1, e0, e2, e3⟩ := ih (i + 1) n (sI w 113 i 0) (by omega) (by omega) (hH.oN (by omega) (oN.st _ _ _ _)) (by rw [gI_sI, gR_sI, if_neg (by omega)]; exact h2) (fun c hc => by
      rw [gI_sI]
      by_cases q : c = i
      · rw [if_pos ⟨rfl, q⟩]; rfl
      · rw [if_neg (fun z => q z.2)]; exact h0 c (by omega))
    exact ⟨w', e1, e0, fun p j q1 q2 => (e2 p j q1 q2).trans (by rw [gI_sI, if_neg (fun z => q2 z.1)]), e3⟩
theorem begin_7 {η : HP} {L : Nat} (hη : HPok η) (hL : L < 1000) : ∀ d i n w, i + d = 36 → d < n → HX w η → gI w (fxH (gR w 3)) 2 = nI L → (∀ c, c < i → gI w 110 c = 0) → ∃ w', f_X0_begin_7 n (nI i) w = some ((), w') ∧ (∀ r, gR w' r = gR w r) ∧ (∀ c, c < 36 → gI w' 110 c = 0) ∧ LIE w' (pB η) (ltS2 η L) (fun _ => True) ∧ ∃ u', ZB (pB η) u' ∧ ∀ c, c < 5 → gI w' 113 c = nI (u' c) := by
  intro d
  induction d with
  | zero =>
    intro i n w hi hn hH h2 h0
    obtain ⟨n, rfl⟩ : ∃ m9, n = m9 + 1 := ⟨n - 1, by omega⟩
    have : i = 36 := by omega
    subst this
    rw [f_X0_begin_7, show (36 : Int32) = nI 36 from rfl, if_pos ((le_nI (by omega) (by omega)).mpr (by omega)), show (0 : Int32) = nI 0 from rfl]
    obtain ⟨w', e1, e0, e2, e3⟩ := begin_28 hη hL 5 0 fu w (by omega) (fu_gt (by omega)) hH h2 (fun c hc => by omega)
    exact ⟨w', e1, e0, fun c hc => by rw [e2 _ _ (by omega) (by omega)]; exact h0 c hc, e3⟩
  | succ d ih =>
    intro i n w hi hn hH h2 h0
    obtain ⟨n, rfl⟩ : ∃ m9, n = m9 + 1 := ⟨n - 1, by omega⟩
    have hz := fxH_lt (gR w 3)
    rw [f_X0_begin_7, show (36 : Int32) = nI 36 from rfl, if_neg (fun q9 => absurd ((le_nI (by omega) (by omega)).mp q9) (by omega)), show (36 : Nat) = 36 from rfl, if_pos ((inb_nI (by omega)).mpr (by omega)), ix_nI (by omega), nI_1]
    exact ih (i + 1) n (sI w 110 i 0) (by omega) (by omega) (hH.oN (by omega) (oN.st _ _ _ _)) (by rw [gI_sI, gR_sI, if_neg (by omega)]; exact h2) (fun c hc => by
      rw [gI_sI]
      by_cases q : c = i
      · rw [if_pos ⟨rfl, q⟩]
      · rw [if_neg (fun z => q z.2)]; exact h0 c (by omega))
theorem begin0 {w : GW} {η : HP} {L k1 : Nat} (hη : HPok η) (hL : L < 1000) (hH : HCl w (fxH k1) η) (h2 : gI w (fxH k1) 2 = nI L) : ∃ w', f_X0_begin k1 w = some ((), w') ∧ Sm (L_X0_begin k1) R_X0_begin w w' ∧ HX w' η ∧ gR w' 3 = k1 ∧ (∀ c, c < 36 → gI w' 110 c = 0) ∧ LIE w' (pB η) (ltS2 η L) (fun _ => True) ∧ ∃ u', ZB (pB η) u' ∧ ∀ c, c < 5 → gI w' 113 c = nI (u' c) := by
  obtain ⟨w', e1, er, e2, e3, e4⟩ := begin_7 hη hL 36 0 fu (sR w 3 k1) (by omega) (fu_gt (by omega)) (show HX (sR w 3 k1) η from hH) h2 (fun c hc => by omega)
  have e0 : f_X0_begin k1 w = some ((), w') := by rw [f_X0_begin, show (0 : Int32) = nI 0 from rfl]; exact e1
  have S := fr_X0_begin k1 w e0
  have er3 : gR w' 3 = k1 := er 3
  refine ⟨w', e0, S, ?_, er3, e2, e3, e4⟩
  unfold HX
  rw [er3]
  refine hH.of2 (fun p j hp => S.I p j ?_)
  simp [md, L_X0_begin]
  omega
