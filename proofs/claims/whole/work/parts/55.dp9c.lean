/-! the reference counts ways: all glances of a letter -/
def addE (E : (Nat → Nat) → Nat) (c : Nat) (o : Nat → Nat) (d : Nat) : (Nat → Nat) → Nat := fun g => E g + sm d (fun i => c * g (o i))
def addK (K : Nat → Prop) (o : Nat → Nat) (d : Nat) : Nat → Prop := fun y => K y ∨ ∃ i, i < d ∧ y = o i
theorem sm_first (n : Nat) (f : Nat → Nat) : sm (n + 1) f = f 0 + sm n (fun i => f (i + 1)) := by
  rw [Nat.add_comm, sm_app]
  have : (fun i => f (1 + i)) = fun i => f (i + 1) := funext fun i => by rw [Nat.add_comm]
  rw [this]
  simp [sm]
theorem byG_in (hc : hcap) {η : HP} (hη : HPok η) {ps : Prop} {x r h g nl m c : Nat} {y : Int32} {X5 : Int64} {X8 : Int32} {k : Int32 → Int32 → Int32 → Int32 → Int64 → Int32 → Int32 → Int32 → GW → Option (Unit × GW)} (hx : VK x) (h7 : su (dU x) ≤ 7) (hg1 : 1 ≤ g) (hg : g ≤ 3) (hr : r ≤ 4) (hh : h ≤ 8) (hy : r = 2 → y = nI h) (hb : ps → 0 < c) (hn : nl < 1000) (hm : m < 1000) :
    ∀ d t n w E K, t + d = tnG η r g x m → d < n → HMo w η → TT w E K ps → GL w (tg (pB η) g m) g → ∃ w', f_X9_byGlances_53 k n (nI r) y (nI g) (nI x) X5 (nI nl) X8 (nI m) (lN c) (nI (tnG η r g x m)) (nI t) w = k (nI r) y (nI g) (nI x) X5 (nI nl) X8 (nI (m + 1)) w' ∧ TT w' (addE E (c * coG η r g x m) (fun i => outG η r h g nl x m (t + i)) d) (addK K (fun i => outG η r h g nl x m (t + i)) d) ps ∧ HMo w' η := by
  have hB0 := hη.1
  have hB5 := hη.2.1
  have hxs : ∀ i, tg (pB η) g m i < pB η := fun i => tg_lt (by omega) g m i
  have htn : tnG η r g x m ≤ 3 := by
    unfold tnG tnS
    split
    · exact Nat.le_trans (tcS_le g) hg
    · omega
  have htp : 0 < tnG η r g x m := tnS_pos hg1 (fun i _ => hxs i)
  intro d
  induction d with
  | zero =>
    intro t n w E K hd hn2 hH hT hG
    obtain ⟨n, rfl⟩ : ∃ m9, n = m9 + 1 := ⟨n - 1, by omega⟩
    rw [f_X9_byGlances_53, if_pos ((le_nI (by omega) (by omega)).mpr (by omega)), nI_1]
    refine ⟨w, rfl, hT.c (fun g9 => ?_) (fun y9 => ?_), hH⟩
    · unfold addE; rw [sm_0]; omega
    · unfold addK
      constructor
      · intro z; exact Or.inl z
      · rintro (z | ⟨i, hi, -⟩)
        · exact z
        · omega
  | succ d ih =>
    intro t n w E K hd hn2 hH hT hG
    obtain ⟨n, rfl⟩ : ∃ m9, n = m9 + 1 := ⟨n - 1, by omega⟩
    have ht : t < tnG η r g x m := by omega
    obtain ⟨b, tb, hbB⟩ := tkS_some (u := dU x) (r := r) (h := h) (sl := dK x) hg1 (fun i _ => hxs i) (show t < tnS (dU x) (tg (pB η) g m) (pB η) r g from ht)
    have etk : tkG η r h g x m t = b := by unfold tkG; rw [tb]; rfl
    obtain ⟨w1, e1, L1⟩ := layApart_LK (w := w) hx.1
    have S1 := fr_X9_layApart (nI x) w e1
    have H1 := hH.sm S1 (fun _ => rfl)
    have T1 := hT.sm S1 rfl (fun _ => rfl) (fun _ => rfl) (fun _ => rfl)
    have G1 := hG.sm S1 (fun _ => rfl)
    have e2 := taken (w := w1) (r := r) (h := h) (t := t) (y := y) H1.1 hB0 hB5 L1 (dU_le x) (dK_le hx) hg1 hg (fun i _ => hxs i) G1 hr hh hy (by omega)
    rw [tb] at e2
    obtain ⟨w2, e3, L2, -⟩ := puts (r := r) hη H1 L1 (dU_le x) (dK_le hx) hg (fun i _ => hxs i) G1 hr hbB
    have S2 := fr_X9_puts (nI r) (nI g) (nI b) w1 e3
    have H2 := H1.sm S2 (fun _ => rfl)
    have T2 := T1.sm S2 rfl (fun _ => rfl) (fun _ => rfl) (fun _ => rfl)
    have G2 := G1.sm S2 (fun _ => rfl)
    obtain ⟨w3, e4, L3⟩ := moves_LK hη H2 L2 (ldH_le hη hbB (dU_le x)) hn
    have S3 := fr_X9_moves (nI nl) w2 e4
    have H3 := H2.sm S3 (fun _ => rfl)
    have T3 := T2.sm S3 rfl (fun _ => rfl) (fun _ => rfl) (fun _ => rfl)
    have G3 := G2.sm S3 (fun _ => rfl)
    have eo : enc (mvH η (ldH η (dU x) b) nl) (spS η (dU x) r (dK x) b (msk (tg (pB η) g m) g)) = outG η r h g nl x m t := by
      unfold outG; rw [etk]
    have hV := VK_out hη (n := nl) hbB (dU_le x) h7 (spS_le hη (u := dU x) (r := r) (b := b) (m := msk (tg (pB η) g m) g) (dK_le hx))
    have hco : 0 < coG η r g x m := by
      unfold coG
      split
      · refine Nat.div_pos ?_ htp
        unfold tiO
        have : tnG η r g x m ≤ g := by
          unfold tnG tnS
          split <;> first | exact tcS_le g | exact hg1
        split <;> omega
      · exact Nat.one_pos
    obtain ⟨w4, e5, T4⟩ := comesT hc (bw := c * coG η r g x m) T3 hV (fun p => Nat.mul_pos (hb p) hco)
    have S4 := fr_X9_comesTo (nI (enc (mvH η (ldH η (dU x) b) nl) (spS η (dU x) r (dK x) b (msk (tg (pB η) g m) g)))) (lN (c * coG η r g x m)) w3 e5
    have H4 := H3.sm S4 (fun _ => rfl)
    have G4 := G3.sm S4 (fun _ => rfl)
    rw [eo] at T4 e5
    have L3e := together L3
    rw [eo] at L3e
    obtain ⟨w', e6, T6, H6⟩ := ih (t + 1) n w4 _ _ (by omega) (by omega) H4 T4 G4
    refine ⟨w', ?_, T6.c (fun g9 => ?_) (fun y9 => ?_), H6⟩
    · rw [f_X9_byGlances_53, if_neg (fun q9 => absurd ((le_nI (by omega) (by omega)).mp q9) (by omega)), e1, bind_some']
      show (f_X9_taken _ _ _ _ w1).bind _ = _
      rw [e2, bind_some']
      show (f_X9_puts _ _ (nI b) w1).bind _ = _
      rw [e3, bind_some', if_neg (oI_lt5 hη hbB)]
      show (f_X9_moves _ w2).bind _ = _
      rw [e4, bind_some', f_X9_byGlances_95]
      show (f_X9_together w3).bind _ = _
      rw [L3e, bind_some', ← e6]
      by_cases r0 : r = 0
      · rw [if_pos ((eq0 (by omega)).mpr r0), tiesOf (by omega), bind_some']
        have hne : ¬ (nI (tnG η r g x m)).toInt64 = 0 := by
          rw [nI_l (by omega), show (0 : Int64) = lN 0 from rfl, lN_eq (by omega) (by omega)]
          omega
        rw [if_pos hne, f_X9_byGlances_120]
        show (f_X9_comesTo (nI _) (lN c * (lN (tiO g) / (nI (tnG η r g x m)).toInt64)) w3).bind _ = _
        have hti : tiO g < 2 ^ 63 := by unfold tiO; split <;> omega
        rw [nI_l (by omega), pk_lDiv hti htp (by omega), lN_mul]
        have : tiO g / tnG η r g x m = coG η r g x m := by unfold coG; rw [if_pos r0]
        rw [this, e5, bind_some', nI_1]
      · rw [if_neg (fun q => r0 ((eq0 (by omega)).mp q)), f_X9_byGlances_120]
        show (f_X9_comesTo (nI _) (lN c) w3).bind _ = _
        have : coG η r g x m = 1 := by unfold coG; rw [if_neg r0]
        rw [this, Nat.mul_one] at e5
        rw [e5, bind_some', nI_1]
    · unfold addE
      rw [sm_first]
      show E g9 + c * coG η r g x m * g9 (outG η r h g nl x m t) + sm d (fun i => c * coG η r g x m * g9 (outG η r h g nl x m (t + 1 + i))) = E g9 + (c * coG η r g x m * g9 (outG η r h g nl x m (t + 0)) + sm d (fun i => c * coG η r g x m * g9 (outG η r h g nl x m (t + (i + 1)))))
      rw [Nat.add_zero, Nat.add_assoc]
      exact congrArg (fun z => E g9 + (c * coG η r g x m * g9 (outG η r h g nl x m t) + z)) (sm_c (fun i _ => by rw [show t + 1 + i = t + (i + 1) by omega]))
    · unfold addK
      constructor
      · rintro ((z | z) | ⟨i, hi, z⟩)
        · exact Or.inl z
        · exact Or.inr ⟨0, by omega, z⟩
        · exact Or.inr ⟨i + 1, by omega, by dsimp only at z ⊢; rw [z, show t + 1 + i = t + (i + 1) by omega]⟩
      · rintro (z | ⟨i, hi, z⟩)
        · exact Or.inl (Or.inl z)
        · by_cases i0 : i = 0
          · subst i0; exact Or.inl (Or.inr z)
          · exact Or.inr ⟨i - 1, by omega, by dsimp only at z ⊢; rw [z, show t + 1 + (i - 1) = t + i by omega]⟩
/-- the letter's step on what is asked -/
def TG (η : HP) (r h g n : Nat) (G : Nat → Nat) (x : Nat) : Nat := sm (pB η ^ g) (fun m => sm (tnG η r g x m) (fun t => tw (pB η) (pW η) g m * coG η r g x m * G (outG η r h g n x m t)))
def KG (η : HP) (r h g n x : Nat) (y : Nat) : Prop := ∃ m t, m < pB η ^ g ∧ t < tnG η r g x m ∧ y = outG η r h g n x m t
theorem byG_out (hc : hcap) {η : HP} (hη : HPok η) {ps : Prop} {x r h g nl bw : Nat} {y : Int32} (hx : VK x) (h7 : su (dU x) ≤ 7) (hg1 : 1 ≤ g) (hg : g ≤ 3) (hr : r ≤ 4) (hh : h ≤ 8) (hy : r = 2 → y = nI h) (hb : ps → 0 < bw) (hn : nl < 1000) :
    ∀ d m n w E K, m + d = pB η ^ g → d < n → HMo w η → TT w E K ps → ∃ w', f_X9_byGlances_10 n (nI r) y (nI g) (nI x) (lN bw) (nI nl) (nI (pB η ^ g)) (nI m) w = some ((), w') ∧ TT w' (fun G => E G + sm d (fun i => sm (tnG η r g x (m + i)) (fun t => bw * (tw (pB η) (pW η) g (m + i) * coG η r g x (m + i) * G (outG η r h g nl x (m + i) t))))) (fun y9 => K y9 ∨ ∃ i t, i < d ∧ t < tnG η r g x (m + i) ∧ y9 = outG η r h g nl x (m + i) t) ps ∧ HMo w' η := by
  have hB0 := hη.1
  have hB5 := hη.2.1
  have hp : pB η ^ g ≤ 125 := by
    have h1 : pB η ^ g ≤ 5 ^ g := Nat.pow_le_pow_left hB5 g
    have h2 : 5 ^ g ≤ 5 ^ 3 := Nat.pow_le_pow_right (by omega) hg
    omega
  intro d
  induction d with
  | zero =>
    intro m n w E K hd hn2 hH hT
    obtain ⟨n, rfl⟩ : ∃ m9, n = m9 + 1 := ⟨n - 1, by omega⟩
    rw [f_X9_byGlances_10, if_pos ((le_nI (by omega) (by omega)).mpr (by omega))]
    refine ⟨w, rfl, hT.c (fun g9 => ?_) (fun y9 => ?_), hH⟩
    · rw [sm_0]; omega
    · constructor
      · intro z; exact Or.inl z
      · rintro (z | ⟨i, t, hi, -⟩)
        · exact z
        · omega
  | succ d ih =>
    intro m n w E K hd hn2 hH hT
    obtain ⟨n, rfl⟩ : ∃ m9, n = m9 + 1 := ⟨n - 1, by omega⟩
    obtain ⟨w1, e1, L1⟩ := layApart_LK (w := w) hx.1
    have S1 := fr_X9_layApart (nI x) w e1
    have H1 := hH.sm S1 (fun _ => rfl)
    have T1 := hT.sm S1 rfl (fun _ => rfl) (fun _ => rfl) (fun _ => rfl)
    obtain ⟨w2, e2, G2⟩ := layGlances (g := g) (l := m) hB0 hB5 H1.1 H1.2.2.1 (fun b => (hη.2.2.2.1 b).2) hg (by omega)
    have S2 := fr_X9_layGlances (nI m) (nI g) w1 e2
    have H2 := H1.sm S2 (fun _ => rfl)
    have T2 := T1.sm S2 rfl (fun _ => rfl) (fun _ => rfl) (fun _ => rfl)
    have L2 : ∀ b, b < 5 → gI w2 137 b = nI (dU x b) := fun b hb => by rw [S2.I 137 b rfl]; exact L1.1 b hb
    have hxs : ∀ i, tg (pB η) g m i < pB η := fun i => tg_lt (by omega) g m i
    have hc9 : ps → 0 < tw (pB η) (pW η) g m * bw := fun p => Nat.mul_pos (tw_pos (fun b => (hη.2.2.2.1 b).1) g m) (hb p)
    obtain ⟨w3, e3, T3, H3⟩ := byG_in hc hη (X5 := lN bw) (X8 := nI (pB η ^ g)) (k := f_X9_byGlances_10 n) hx h7 hg1 hg hr hh hy hc9 hn (m := m) (by omega) (tnG η r g x m) 0 fu w2 E K (by omega) (by
      have : tnG η r g x m ≤ 3 := by
        unfold tnG tnS
        split
        · exact Nat.le_trans (tcS_le g) hg
        · omega
      exact fu_gt (by omega)) H2 T2 G2
    obtain ⟨w', e4, T4, H4⟩ := ih (m + 1) n w3 _ _ (by omega) (by omega) H3 T3
    refine ⟨w', ?_, T4.c (fun g9 => ?_) (fun y9 => ?_), H4⟩
    · rw [f_X9_byGlances_10, if_neg (fun q9 => absurd ((le_nI (by omega) (by omega)).mp q9) (by omega)), e1, bind_some']
      show (f_X9_layGlances _ _ w1).bind _ = _
      rw [e2, bind_some', ← e4, ← e3]
      by_cases r0 : r = 0
      · rw [if_pos ((eq0 (by omega)).mpr r0)]
        show (f_X9_ties _ w2).bind _ = _
        rw [ties H2.1 hB0 hB5 L2 (dU_le x) hg1 hg (fun i _ => hxs i) G2, bind_some', f_X9_byGlances_48]
        have : tcS (dU x) (tg (pB η) g m) (lvl (dU x) (tg (pB η) g m) (pB η) g) g = tnG η r g x m := by unfold tnG tnS; rw [if_pos r0]
        show f_X9_byGlances_53 (f_X9_byGlances_10 n) fu (nI r) y (nI g) (nI x) (lN bw) (nI nl) (nI (pB η ^ g)) (nI m) (lN (tw (pB η) (pW η) g m) * lN bw) (nI (tcS (dU x) (tg (pB η) g m) (lvl (dU x) (tg (pB η) g m) (pB η) g) g)) 0 w2 = _
        rw [this, lN_mul]
        rfl
      · rw [if_neg (fun q => r0 ((eq0 (by omega)).mp q)), f_X9_byGlances_48]
        have : tnG η r g x m = 1 := by unfold tnG tnS; rw [if_neg r0]
        show f_X9_byGlances_53 (f_X9_byGlances_10 n) fu (nI r) y (nI g) (nI x) (lN bw) (nI nl) (nI (pB η ^ g)) (nI m) (lN (tw (pB η) (pW η) g m) * lN bw) 1 0 w2 = _
        rw [this, lN_mul]
        rfl
    · rw [sm_first]
      show (E g9 + sm (tnG η r g x m) (fun t => tw (pB η) (pW η) g m * bw * coG η r g x m * g9 (outG η r h g nl x m (0 + t)))) + sm d (fun i => sm (tnG η r g x (m + 1 + i)) (fun t => bw * (tw (pB η) (pW η) g (m + 1 + i) * coG η r g x (m + 1 + i) * g9 (outG η r h g nl x (m + 1 + i) t)))) = E g9 + (sm (tnG η r g x (m + 0)) (fun t => bw * (tw (pB η) (pW η) g (m + 0) * coG η r g x (m + 0) * g9 (outG η r h g nl x (m + 0) t))) + sm d (fun i => sm (tnG η r g x (m + (i + 1))) (fun t => bw * (tw (pB η) (pW η) g (m + (i + 1)) * coG η r g x (m + (i + 1)) * g9 (outG η r h g nl x (m + (i + 1)) t)))))
      rw [Nat.add_zero, Nat.add_assoc]
      rw [sm_c (n := d) (f := fun i => sm (tnG η r g x (m + 1 + i)) (fun t => bw * (tw (pB η) (pW η) g (m + 1 + i) * coG η r g x (m + 1 + i) * g9 (outG η r h g nl x (m + 1 + i) t)))) (g := fun i => sm (tnG η r g x (m + (i + 1))) (fun t => bw * (tw (pB η) (pW η) g (m + (i + 1)) * coG η r g x (m + (i + 1)) * g9 (outG η r h g nl x (m + (i + 1)) t)))) (fun i _ => by rw [show m + 1 + i = m + (i + 1) by omega])]
      exact congrArg (fun z => E g9 + (z + _)) (sm_c (fun i _ => by rw [Nat.zero_add]; ac_rfl))
    · unfold addK
      constructor
      · rintro ((z | ⟨t, ht, z⟩) | ⟨i, t, hi, ht, z⟩)
        · exact Or.inl z
        · exact Or.inr ⟨0, t, by omega, by rw [Nat.add_zero]; exact ht, by dsimp only at z; rw [Nat.add_zero]; rw [Nat.zero_add] at z; exact z⟩
        · exact Or.inr ⟨i + 1, t, by omega, by rw [show m + (i + 1) = m + 1 + i by omega]; exact ht, by rw [z, show m + (i + 1) = m + 1 + i by omega]⟩
      · rintro (z | ⟨i, t, hi, ht, z⟩)
        · exact Or.inl (Or.inl z)
        · by_cases i0 : i = 0
          · subst i0
            rw [Nat.add_zero] at z ht
            exact Or.inl (Or.inr ⟨t, ht, by dsimp only; rw [Nat.zero_add]; exact z⟩)
          · exact Or.inr ⟨i - 1, t, by omega, by rw [show m + 1 + (i - 1) = m + i by omega]; exact ht, by rw [z, show m + 1 + (i - 1) = m + i by omega]⟩
theorem byGlances (hc : hcap) {w : GW} {η : HP} (hη : HPok η) {E : (Nat → Nat) → Nat} {K : Nat → Prop} {ps : Prop} {x r h g nl bw : Nat} {y : Int32} (hH : HMo w η) (hT : TT w E K ps) (hx : VK x) (h7 : su (dU x) ≤ 7) (hg1 : 1 ≤ g) (hg : g ≤ 3) (hr : r ≤ 4) (hh : h ≤ 8) (hy : r = 2 → y = nI h) (hb : ps → 0 < bw) (hn : nl < 1000) : ∃ w', f_X9_byGlances (nI r) y (nI g) (nI x) (lN bw) (nI nl) w = some ((), w') ∧ TT w' (fun G => E G + bw * TG η r h g nl G x) (fun y9 => K y9 ∨ KG η r h g nl x y9) ps := by
  have hp : pB η ^ g ≤ 125 := by
    have h1 : pB η ^ g ≤ 5 ^ g := Nat.pow_le_pow_left hη.2.1 g
    have h2 : 5 ^ g ≤ 5 ^ 3 := Nat.pow_le_pow_right (by omega) hg
    omega
  obtain ⟨w', e, T, -⟩ := byG_out hc hη (bw := bw) hx h7 hg1 hg hr hh hy hb hn (pB η ^ g) 0 fu w E K (by omega) (fu_gt (by omega)) hH hT
  refine ⟨w', ?_, T.c (fun G => ?_) (fun y9 => ?_)⟩
  · rw [f_X9_byGlances, glancesOf hH.1 hη.2.1 hg, bind_some', show (0 : Int32) = nI 0 from rfl]
    exact e
  · unfold TG
    rw [← sm_mul]
    refine congrArg (fun z => E G + z) (sm_c (fun i _ => ?_))
    rw [← sm_mul, Nat.zero_add]
  · unfold KG
    constructor
    · rintro (z | ⟨i, t, hi, ht, z⟩)
      · exact Or.inl z
      · rw [Nat.zero_add] at ht z
        exact Or.inr ⟨i, t, hi, ht, z⟩
    · rintro (z | ⟨i, t, hi, ht, z⟩)
      · exact Or.inl z
      · exact Or.inr ⟨i, t, hi, by rw [Nat.zero_add]; exact ht, by rw [Nat.zero_add]; exact z⟩
