/-! where the next letter may go: the class -/
section G8
variable {η : HP} {r h g : Nat} {w : GW}
/-- ways to a box, of the class -/
def wtS (η : HP) (u cwf : Nat → Nat) (b : Nat) : Nat := sm (pB η) (fun t => if goT (pB η) (pR η) u t = some b then sm 6 (fun s => cwf (t * 6 + s)) else 0)
theorem goT_lt {η : HP} {u : Nat → Nat} {b : Nat} (hη : HPok η) (hb : b < pB η) : ∀ x, goT (pB η) (pR η) u b = some x → x < 1000 := fun x e => by have := goS_some _ _ _ hb e; have := hη.2.1; omega
theorem waysTo8 (hη : HPok η) (hX : CX w η r h g) {u cwf : Nat → Nat} (hu : ∀ b, b < 5 → gI w 122 b = nI (u b)) (h8 : ∀ b, u b ≤ 8) (hc : ∀ i, i < 30 → gL w 71 i = lN (cwf i)) {b : Nat} (hb : b < 1000) : f_X1_waysTo 122 (nI b) w = some (lN (wtS η u cwf b), w) := by
  have hB5 := hη.2.1
  have in34 : ∀ d s n i (a : Nat) (kk : Nat → Int32 → Int64 → Int32 → GW → Option (Int64 × GW)), s + d = 6 → d < n → i < pB η → f_X1_waysTo_34 kk n 122 (nI b) (lN a) (nI i) (nI s) w = kk 122 (nI b) (lN (a + sm d (fun e => cwf (i * 6 + (s + e))))) (nI (i + 1)) w := by
    intro d
    induction d with
    | zero =>
      intro s n i a kk hs hn hi
      obtain ⟨n, rfl⟩ : ∃ m9, n = m9 + 1 := ⟨n - 1, by omega⟩
      rw [f_X1_waysTo_34, show (6 : Int32) = nI 6 from rfl, if_pos ((le_nI (by omega) (by omega)).mpr (by omega)), f_X1_waysTo_63, nI_1, sm_0]; rfl
    | succ d ih =>
      intro s n i a kk hs hn hi
      obtain ⟨n, rfl⟩ : ∃ m9, n = m9 + 1 := ⟨n - 1, by omega⟩
      rw [f_X1_waysTo_34, show (6 : Int32) = nI 6 from rfl, if_neg (fun q9 => absurd ((le_nI (by omega) (by omega)).mp q9) (by omega)), pk_mul, nI_add, if_pos ((inb_nI (by omega)).mpr (by omega)), ix_nI (by omega), hc (i * 6 + s) (by omega), lN_add, nI_1, ih (s + 1) n i _ kk (by omega) (by omega) hi, sm_first, Nat.add_assoc]
      rw [show (fun e => cwf (i * 6 + (s + 1 + e))) = fun i_1 => cwf (i * 6 + (s + (i_1 + 1))) from funext (fun e => by rw [show s + 1 + e = s + (e + 1) by omega])]
      rfl
  have key : ∀ d i n, i + d = pB η → d < n → f_X1_waysTo_5 n 122 (nI b) (lN (sm i (fun t => if goT (pB η) (pR η) u t = some b then sm 6 (fun s => cwf (t * 6 + s)) else 0))) (nI i) w = some (lN (wtS η u cwf b), w) := by
    intro d
    induction d with
    | zero =>
      intro i n hi hn
      obtain ⟨n, rfl⟩ : ∃ m9, n = m9 + 1 := ⟨n - 1, by omega⟩
      have : i = pB η := by omega
      subst this
      rw [f_X1_waysTo_5, hX.1.1, if_pos ((le_nI (by omega) (by omega)).mpr (by omega))]
      rfl
    | succ d ih =>
      intro i n hi hn
      obtain ⟨n, rfl⟩ : ∃ m9, n = m9 + 1 := ⟨n - 1, by omega⟩
      have e1 := roomFrom (w := w) (u := u) (k0 := fxH (gR w 4)) (k1 := 122) (b := i) hX.1.1 hB5 hX.1.2.1 (fun c hc => hu c (by omega)) (fun c => (hη.2.2.1 c).2) h8 (by omega)
      have e := ih (i + 1) n (by omega) (by omega)
      rw [sm_s] at e
      rw [f_X1_waysTo_5, hX.1.1, if_neg (fun q9 => absurd ((le_nI (by omega) (by omega)).mp q9) (by omega)), e1, bind_some']
      dsimp only
      by_cases z : goT (pB η) (pR η) u i = some b
      · rw [if_pos z] at e
        rw [if_pos ((oI_eq (goT_lt hη (by omega)) hb).mpr z).symm, show (0 : Int32) = nI 0 from rfl, in34 6 0 fu i _ _ (by omega) (fu_gt (by omega)) (by omega)]
        rw [show (fun e => cwf (i * 6 + (0 + e))) = fun s => cwf (i * 6 + s) from funext (fun e => by rw [Nat.zero_add])]
        exact e
      · rw [if_neg z] at e
        rw [if_neg (fun y => z ((oI_eq (goT_lt hη (by omega)) hb).mp y.symm)), f_X1_waysTo_63, nI_1]
        exact e
  rw [f_X1_waysTo, show (0 : Int32) = nI 0 from rfl, show (0 : Int64) = lN 0 from rfl]
  exact key (pB η) 0 fu (by omega) (fu_gt (by omega))
theorem allWays8 {cwf : Nat → Nat} (hc : ∀ i, i < 30 → gL w 71 i = lN (cwf i)) : f_X1_allWays w = some (lN (sm 30 cwf), w) := by
  have key : ∀ d i n, i + d = 30 → d < n → f_X1_allWays_4 n (lN (sm i cwf)) (nI i) w = some (lN (sm 30 cwf), w) := by
    intro d
    induction d with
    | zero =>
      intro i n hi hn
      obtain ⟨n, rfl⟩ : ∃ m9, n = m9 + 1 := ⟨n - 1, by omega⟩
      have : i = 30 := by omega
      subst this
      rw [f_X1_allWays_4, show (30 : Int32) = nI 30 from rfl, if_pos ((le_nI (by omega) (by omega)).mpr (by omega))]
    | succ d ih =>
      intro i n hi hn
      obtain ⟨n, rfl⟩ : ∃ m9, n = m9 + 1 := ⟨n - 1, by omega⟩
      have e := ih (i + 1) n (by omega) (by omega)
      rw [sm_s] at e
      rw [f_X1_allWays_4, show (30 : Int32) = nI 30 from rfl, if_neg (fun q9 => absurd ((le_nI (by omega) (by omega)).mp q9) (by omega)), if_pos ((inb_nI (by omega)).mpr (by omega)), ix_nI (by omega), hc i (by omega), lN_add, nI_1]
      exact e
  rw [f_X1_allWays, show (0 : Int32) = nI 0 from rfl, show (0 : Int64) = lN 0 from rfl]
  exact key 30 0 fu (by omega) (fu_gt (by omega))
/-- one slot alone -/
def oneSl (S : Nat → Prop) (s : Nat) : Prop := S s ∧ ∀ s', S s' → s' = s
/-- slots behind ways to a box -/
def slB (η : HP) (u cwf : Nat → Nat) (b : Nat) (s : Nat) : Prop := ∃ t, t < pB η ∧ s < 6 ∧ goT (pB η) (pR η) u t = some b ∧ 0 < cwf (t * 6 + s)
def oS : Option Nat → Int32
  | none => -1
  | some s => nI s
theorem slotB8 (hη : HPok η) (hX : CX w η r h g) {u cwf : Nat → Nat} (hu : ∀ b, b < 5 → gI w 122 b = nI (u b)) (h8 : ∀ b, u b ≤ 8) (hc : ∀ i, i < 30 → gL w 71 i = lN (cwf i)) (hcl : ∀ i, i < 30 → cwf i < 2147483648) {b : Nat} (hb : b < 1000) : ∃ v, f_X1_slotBehind 122 (nI b) w = some (v, w) ∧ ((∃ s, s < 6 ∧ v = nI s ∧ oneSl (slB η u cwf b) s) ∨ (v = -1 ∧ ¬ ∃ s, oneSl (slB η u cwf b) s)) := by
  have hB5 := hη.2.1
  -- what has been seen: boxes below i, and of box i the slots below s
  have in34 : ∀ d s n i (o : Option Nat) (kk : Nat → Int32 → Int32 → Int32 → GW → Option (Int32 × GW)), s + d = 6 → d < n → i < pB η → goT (pB η) (pR η) u i = some b → (∀ s', o = some s' → s' < 6 ∧ slB η u cwf b s') → (∀ t s', t < pB η → s' < 6 → (t < i ∨ (t = i ∧ s' < s)) → goT (pB η) (pR η) u t = some b → 0 < cwf (t * 6 + s') → o = some s') → (∃ o', f_X1_slotBehind_34 kk n 122 (nI b) (oS o) (nI i) (nI s) w = kk 122 (nI b) (oS o') (nI (i + 1)) w ∧ (∀ s', o' = some s' → s' < 6 ∧ slB η u cwf b s') ∧ (∀ t s', t < pB η → s' < 6 → t < i + 1 → goT (pB η) (pR η) u t = some b → 0 < cwf (t * 6 + s') → o' = some s')) ∨ (f_X1_slotBehind_34 kk n 122 (nI b) (oS o) (nI i) (nI s) w = some (-1, w) ∧ ¬ ∃ s, oneSl (slB η u cwf b) s) := by
    intro d
    induction d with
    | zero =>
      intro s n i o kk hs hn hi hg h1 h2
      obtain ⟨n, rfl⟩ : ∃ m9, n = m9 + 1 := ⟨n - 1, by omega⟩
      refine Or.inl ⟨o, ?_, h1, fun t s' a b c d e => h2 t s' a b (by omega) d e⟩
      rw [f_X1_slotBehind_34, show (6 : Int32) = nI 6 from rfl, if_pos ((le_nI (by omega) (by omega)).mpr (by omega)), f_X1_slotBehind_80, nI_1]
    | succ d ih =>
      intro s n i o kk hs hn hi hg h1 h2
      obtain ⟨n, rfl⟩ : ∃ m9, n = m9 + 1 := ⟨n - 1, by omega⟩
      have hl := hcl (i * 6 + s) (by omega)
      have e0 : f_X1_slotBehind_34 kk (n + 1) 122 (nI b) (oS o) (nI i) (nI s) w = if lN (cwf (i * 6 + s)) ≤ 0 then f_X1_slotBehind_34 kk n 122 (nI b) (oS o) (nI i) (nI (s + 1)) w else if oS o < 0 then f_X1_slotBehind_34 kk n 122 (nI b) (nI s) (nI i) (nI (s + 1)) w else if oS o = nI s then f_X1_slotBehind_34 kk n 122 (nI b) (nI s) (nI i) (nI (s + 1)) w else some (-1, w) := by
        rw [f_X1_slotBehind_34, show (6 : Int32) = nI 6 from rfl, if_neg (fun q9 => absurd ((le_nI (by omega) (by omega)).mp q9) (by omega)), pk_mul, nI_add, if_pos ((inb_nI (by omega)).mpr (by omega)), ix_nI (by omega), hc (i * 6 + s) (by omega), f_X1_slotBehind_71, f_X1_slotBehind_74, f_X1_slotBehind_74, nI_1]
      rw [e0]
      by_cases z : cwf (i * 6 + s) = 0
      · rw [if_pos ((lle0 (by omega)).mpr z)]
        refine ih (s + 1) n i o kk (by omega) (by omega) hi hg h1 (fun t s' a b c d e => ?_)
        by_cases y : t = i ∧ s' = s
        · rw [y.1, y.2] at e; omega
        · exact h2 t s' a b (by omega) d e
      · rw [if_neg (fun y => z ((lle0 (by omega)).mp y))]
        have hS : slB η u cwf b s := ⟨i, hi, by omega, hg, by omega⟩
        cases o with
        | none =>
          rw [if_pos (show oS none < 0 from neg1_lt0)]
          refine ih (s + 1) n i (some s) kk (by omega) (by omega) hi hg (fun s' q => by cases q; exact ⟨by omega, hS⟩) (fun t s' a b c d e => ?_)
          by_cases y : t = i ∧ s' = s
          · rw [y.2]
          · have := h2 t s' a b (by omega) d e
            cases this
        | some o =>
          have ho := (h1 o rfl).1
          rw [if_neg (show ¬ oS (some o) < 0 from lt0_nI (by omega))]
          by_cases y : o = s
          · subst y
            rw [if_pos (show oS (some o) = nI o from rfl)]
            refine ih (o + 1) n i (some o) kk (by omega) (by omega) hi hg h1 (fun t s' a b c d e => ?_)
            by_cases x : t = i ∧ s' = o
            · rw [x.2]
            · exact h2 t s' a b (by omega) d e
          · rw [if_neg (show ¬ oS (some o) = nI s from fun q => y ((eq_nI (by omega) (by omega)).mp q))]
            refine Or.inr ⟨rfl, ?_⟩
            rintro ⟨q, _, q2⟩
            have e1 := q2 s hS
            have e2 := q2 o (h1 o rfl).2
            omega
  have key : ∀ d i n (o : Option Nat), i + d = pB η → d < n → (∀ s', o = some s' → s' < 6 ∧ slB η u cwf b s') → (∀ t s', t < pB η → s' < 6 → t < i → goT (pB η) (pR η) u t = some b → 0 < cwf (t * 6 + s') → o = some s') → ∃ v, f_X1_slotBehind_5 n 122 (nI b) (oS o) (nI i) w = some (v, w) ∧ ((∃ s, s < 6 ∧ v = nI s ∧ oneSl (slB η u cwf b) s) ∨ (v = -1 ∧ ¬ ∃ s, oneSl (slB η u cwf b) s)) := by
    intro d
    induction d with
    | zero =>
      intro i n o hi hn h1 h2
      obtain ⟨n, rfl⟩ : ∃ m9, n = m9 + 1 := ⟨n - 1, by omega⟩
      have : i = pB η := by omega
      subst this
      refine ⟨oS o, by rw [f_X1_slotBehind_5, hX.1.1, if_pos ((le_nI (by omega) (by omega)).mpr (by omega))], ?_⟩
      cases o with
      | none =>
        refine Or.inr ⟨rfl, ?_⟩
        rintro ⟨s, ⟨t, a, b, c, d⟩, _⟩
        have := h2 t s a b a c d
        cases this
      | some o =>
        refine Or.inl ⟨o, (h1 o rfl).1, rfl, (h1 o rfl).2, ?_⟩
        rintro s' ⟨t, a, b, c, d⟩
        have := h2 t s' a b a c d
        cases this
        rfl
    | succ d ih =>
      intro i n o hi hn h1 h2
      obtain ⟨n, rfl⟩ : ∃ m9, n = m9 + 1 := ⟨n - 1, by omega⟩
      have e1 := roomFrom (w := w) (u := u) (k0 := fxH (gR w 4)) (k1 := 122) (b := i) hX.1.1 hB5 hX.1.2.1 (fun c hc => hu c (by omega)) (fun c => (hη.2.2.1 c).2) h8 (by omega)
      have e0 : f_X1_slotBehind_5 (n + 1) 122 (nI b) (oS o) (nI i) w = if oI (goT (pB η) (pR η) u i) = nI b then f_X1_slotBehind_34 (f_X1_slotBehind_5 n) fu 122 (nI b) (oS o) (nI i) 0 w else f_X1_slotBehind_5 n 122 (nI b) (oS o) (nI (i + 1)) w := by
        rw [f_X1_slotBehind_5, hX.1.1, if_neg (fun q9 => absurd ((le_nI (by omega) (by omega)).mp q9) (by omega)), e1, bind_some']
        dsimp only
        rw [f_X1_slotBehind_80, nI_1]
      rw [e0]
      by_cases z : goT (pB η) (pR η) u i = some b
      · rw [if_pos ((oI_eq (goT_lt hη (by omega)) hb).mpr z).symm]
        rcases in34 6 0 fu i o (f_X1_slotBehind_5 n) (by omega) (fu_gt (by omega)) (by omega) z h1 (fun t s' a b c d e => h2 t s' a b (by omega) d e) with ⟨o', q1, q2, q3⟩ | ⟨q1, q2⟩
        · have q1' : f_X1_slotBehind_34 (f_X1_slotBehind_5 n) fu 122 (nI b) (oS o) (nI i) 0 w = f_X1_slotBehind_5 n 122 (nI b) (oS o') (nI (i + 1)) w := q1
          rw [q1']
          exact ih (i + 1) n o' (by omega) (by omega) q2 q3
        · exact ⟨-1, q1, Or.inr ⟨rfl, q2⟩⟩
      · rw [if_neg (fun y => z ((oI_eq (goT_lt hη (by omega)) hb).mp y.symm))]
        refine ih (i + 1) n o (by omega) (by omega) h1 (fun t s' a b c d e => ?_)
        by_cases y : t = i
        · subst y; exact absurd d z
        · exact h2 t s' a b (by omega) d e
  rw [f_X1_slotBehind, show (0 : Int32) = nI 0 from rfl]
  exact key (pB η) 0 fu none (by omega) (fu_gt (by omega)) (fun s' q => by cases q) (fun t s' a b c d e => by omega)
end G8
