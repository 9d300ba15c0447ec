/-! the reference's lays: all letters, one behind the other -/
theorem clearS {w : GW} : ∃ w', f_X9_clearSlots w = some ((), w') ∧ gI w' 130 29 = nI 0 ∧ ∀ k, k < 16384 → gI w' 141 k = -1 := by
  have loop : ∀ d i n w, i + d = 16384 → d < n → (∀ k, k < i → gI w 141 k = -1) → ∃ w', f_X9_clearSlots_2 n (nI i) w = some ((), w') ∧ gI w' 130 29 = nI 0 ∧ ∀ k, k < 16384 → gI w' 141 k = -1 := by
    intro d
    induction d with
    | zero =>
      intro i n w hi hn h
      obtain ⟨n, rfl⟩ : ∃ m9, n = m9 + 1 := ⟨n - 1, by omega⟩
      have : i = 16384 := by omega
      subst this
      rw [f_X9_clearSlots_2, show (16384 : Int32) = nI 16384 from rfl, if_pos ((le_nI (by omega) (by omega)).mpr (by omega))]
      refine ⟨_, rfl, by simp [gI_sI]; rfl, fun k hk => ?_⟩
      rw [gI_sI, if_neg (by simp)]
      exact h k hk
    | succ d ih =>
      intro i n w hi hn h
      obtain ⟨n, rfl⟩ : ∃ m9, n = m9 + 1 := ⟨n - 1, by omega⟩
      rw [f_X9_clearSlots_2, show (16384 : Int32) = nI 16384 from rfl, if_neg (fun q9 => absurd ((le_nI (by omega) (by omega)).mp q9) (by omega)), if_pos ((inb_nI (by omega)).mpr (by omega)), ix_nI (by omega), nI_1]
      refine ih (i + 1) n _ (by omega) (by omega) (fun k hk => ?_)
      rw [gI_sI]
      by_cases z : k = i
      · subst z; simp
      · rw [if_neg (by simp [z])]; exact h k (by omega)
  rw [f_X9_clearSlots, show (0 : Int32) = nI 0 from rfl]
  exact loop 16384 0 fu w (by omega) (fu_gt (by omega)) (fun k hk => by omega)
theorem TT_0 {w : GW} {ps : Prop} (h1 : gI w 130 29 = nI 0) (h2 : ∀ k, k < 16384 → gI w 141 k = -1) : TT w (fun _ => 0) (fun _ => False) ps :=
  ⟨0, fun _ => 0, fun _ => 0, ⟨h1, fun s hs => by omega, fun i j _ hj => by omega, fun s hs => by omega, fun k hk => Or.inl (h2 k hk), fun _ _ s _ _ hs => by omega, fun s hs => by omega⟩, fun _ => rfl, fun y => ⟨fun ⟨s, hs, _⟩ => by omega, fun z => z.elim⟩, fun _ s hs => by omega⟩
theorem one_ne : ¬ (1 : Int32) = 0 := by decide
/-- the table as lays leaves it -/
def FT (w : GW) (n : Nat) (key way : Nat → Nat) : Prop := gI w 130 28 = nI n ∧ n ≤ 7722 ∧ ∀ s, s < n → gI w 139 s = nI (key s) ∧ gL w 142 s = lN (way s)
theorem drS_dec (dE n : Nat) : drS dE n ∨ ¬ drS dE n := Classical.em _
/-- a letter's step, by the door or by glances -/
noncomputable def TL (η : HP) (r h g n : Nat) (G : Nat → Nat) (x : Nat) : Nat := @ite _ (drS (pE η) n) (Classical.propDecidable _) (G (outD η n x)) (TG η r h g n G x)
def KL (η : HP) (r h g n x y : Nat) : Prop := (drS (pE η) n ∧ y = outD η n x) ∨ (¬ drS (pE η) n ∧ KG η r h g n x y)
theorem TL_d {η : HP} {r h g n : Nat} {G : Nat → Nat} {x : Nat} (q : drS (pE η) n) : TL η r h g n G x = G (outD η n x) := if_pos q
theorem TL_g {η : HP} {r h g n : Nat} {G : Nat → Nat} {x : Nat} (q : ¬ drS (pE η) n) : TL η r h g n G x = TG η r h g n G x := if_neg q
noncomputable def EL (η : HP) (r h g : Nat) : Nat → (Nat → Nat) → Nat
  | 0, G => G 0
  | n + 1, G => EL η r h g n (TL η r h g (n + 1) G)
def RK (η : HP) (r h g : Nat) : Nat → Nat → Prop
  | 0, y => y = 0
  | n + 1, y => ∃ x, RK η r h g n x ∧ KL η r h g (n + 1) x y
theorem su_enc {u : Nat → Nat} {s : Nat} (h : ∀ b, u b ≤ 8) : su (dU (enc u s)) = su u := by
  unfold su
  exact sm_c (fun b hb => dU_enc h b hb)
theorem KL_ok {η : HP} (hη : HPok η) {r h g n x y : Nat} (hg1 : 1 ≤ g) (hx : VK x) (h7 : su (dU x) ≤ 7) (hk : KL η r h g n x y) : VK y ∧ su (dU y) ≤ su (dU x) + 1 := by
  have hB0 := hη.1
  rcases hk with ⟨-, e⟩ | ⟨-, m, t, hm, ht, e⟩
  · subst e
    have hD := hη.2.2.2.2.1
    refine ⟨VK_out hη hD (dU_le x) h7 (dK_le hx), ?_⟩
    unfold outD
    rw [su_enc (mvH_le hη (ldH_le hη hD (dU_le x))), mvH_su hη]
    exact ldH_su hη hD
  · subst e
    obtain ⟨b, tb, hb⟩ := tkS_some (u := dU x) (x := tg (pB η) g m) (r := r) (h := h) (sl := dK x) hg1 (fun i _ => tg_lt (by omega) g m i) (show t < tnS (dU x) (tg (pB η) g m) (pB η) r g from ht)
    have etk : tkG η r h g x m t = b := by unfold tkG; rw [tb]; rfl
    unfold outG
    rw [etk]
    refine ⟨VK_out hη hb (dU_le x) h7 (spS_le hη (dK_le hx)), ?_⟩
    rw [su_enc (mvH_le hη (ldH_le hη hb (dU_le x))), mvH_su hη]
    exact ldH_su hη hb
theorem VK_0 : VK 0 := ⟨by omega, by decide⟩
theorem RK_ok {η : HP} (hη : HPok η) {r h g : Nat} (hg1 : 1 ≤ g) : ∀ n, n ≤ 8 → ∀ y, RK η r h g n y → VK y ∧ su (dU y) ≤ n := by
  intro n
  induction n with
  | zero => intro _ y hy; rw [show y = 0 from hy]; exact ⟨VK_0, by decide⟩
  | succ n ih =>
    intro hn y ⟨x, hx, hk⟩
    obtain ⟨a, b⟩ := ih (by omega) x hx
    obtain ⟨c, d⟩ := KL_ok hη hg1 a (by omega) hk
    exact ⟨c, by omega⟩
section LAY
variable {η : HP} {r h g k : Nat} {y : Int32} {fl : Nat}
/-- one letter over all entries -/
theorem lays_in (hc : hcap) (hη : HPok η) (hg1 : 1 ≤ g) (hg : g ≤ 3) (hr : r ≤ 4) (hh : h ≤ 8) (hy : r = 2 → y = nI h) (hfl : fl = 0 ∨ fl = 1) {N nl : Nat} {key way : Nat → Nat} (hN : N ≤ 7722) (hnl : nl < 1000) (hV : ∀ s, s < N → VK (key s) ∧ su (dU (key s)) ≤ 7) (hw : fl = 1 → ∀ s, s < N → 0 < way s) {kk : Int32 → Int32 → Int32 → Int32 → Int32 → Int32 → GW → Option (Int32 × GW)} :
    ∀ d i n w E K, i + d = N → d < n → HMo w η → FT w N key way → TT w E K (fl = 1) → ∃ w', f_X9_lays_109 kk n (nI r) y (nI g) (nI k) (nI fl) (nI nl) (nI i) w = f_X9_lays_199 kk fu (nI r) y (nI g) (nI k) (nI fl) (nI nl) 0 (sI w' 130 28 (gI w' 130 29)) ∧ HMo w' η ∧ gL w' 130 30 = gL w 130 30 ∧ ∃ E', TT w' E' (fun z => K z ∨ ∃ s, s < d ∧ KL η r h g nl (key (i + s)) z) (fl = 1) ∧ (fl = 1 → ∀ G, E' G = E G + sm d (fun s => way (i + s) * TL η r h g nl G (key (i + s)))) := by
  intro d
  induction d with
  | zero =>
    intro i n w E K hi hn hH hF hT
    obtain ⟨n, rfl⟩ : ∃ m9, n = m9 + 1 := ⟨n - 1, by omega⟩
    rw [f_X9_lays_109, hF.1, if_pos ((le_nI (by omega) (by omega)).mpr (by omega))]
    refine ⟨w, rfl, hH, rfl, E, hT.c (fun _ => rfl) (fun z => ?_), fun _ G => by rw [sm_0, Nat.add_zero]⟩
    constructor
    · intro q; exact Or.inl q
    · rintro (q | ⟨s, hs, -⟩)
      · exact q
      · omega
  | succ d ih =>
    intro i n w E K hi hn hH hF hT
    obtain ⟨n, rfl⟩ : ∃ m9, n = m9 + 1 := ⟨n - 1, by omega⟩
    obtain ⟨hF1, hF2, hF3⟩ := hF
    obtain ⟨hVx, h7⟩ := hV i (by omega)
    obtain ⟨rd, e1, hd⟩ := isDoor (w := w) (n := nl) hH.2.2.2.2.1 hη.2.2.2.2.2.1 hnl
    -- the step of this entry
    have step : ∀ w2 E2 K2, f_X9_lays_109 kk (n + 1) (nI r) y (nI g) (nI k) (nI fl) (nI nl) (nI i) w = f_X9_lays_109 kk n (nI r) y (nI g) (nI k) (nI fl) (nI nl) (nI (i + 1)) w2 → HMo w2 η → K9 w w2 → TT w2 E2 K2 (fl = 1) → (∀ z, K2 z ↔ K z ∨ KL η r h g nl (key i) z) → (fl = 1 → ∀ G, E2 G = E G + way i * TL η r h g nl G (key i)) → ∃ w', f_X9_lays_109 kk (n + 1) (nI r) y (nI g) (nI k) (nI fl) (nI nl) (nI i) w = f_X9_lays_199 kk fu (nI r) y (nI g) (nI k) (nI fl) (nI nl) 0 (sI w' 130 28 (gI w' 130 29)) ∧ HMo w' η ∧ gL w' 130 30 = gL w 130 30 ∧ ∃ E', TT w' E' (fun z => K z ∨ ∃ s, s < d + 1 ∧ KL η r h g nl (key (i + s)) z) (fl = 1) ∧ (fl = 1 → ∀ G, E' G = E G + sm (d + 1) (fun s => way (i + s) * TL η r h g nl G (key (i + s)))) := by
      intro w2 E2 K2 e H2 k9 T2 hK2 hE2
      obtain ⟨w', e', H', g30, E', T', hE'⟩ := ih (i + 1) n w2 E2 K2 (by omega) (by omega) H2 ⟨k9.2.2.2.1.trans hF1, hF2, fun s hs => by rw [k9.2.1, k9.2.2.1]; exact hF3 s hs⟩ T2
      refine ⟨w', e.trans e', H', g30.trans k9.2.2.2.2, E', T'.c (fun _ => rfl) (fun z => ?_), fun q G => ?_⟩
      · rw [hK2]
        constructor
        · rintro ((q | q) | ⟨s, hs, q⟩)
          · exact Or.inl q
          · exact Or.inr ⟨0, by omega, q⟩
          · exact Or.inr ⟨s + 1, by omega, by rw [show i + (s + 1) = i + 1 + s by omega]; exact q⟩
        · rintro (q | ⟨s, hs, q⟩)
          · exact Or.inl (Or.inl q)
          · by_cases s0 : s = 0
            · subst s0; exact Or.inl (Or.inr q)
            · exact Or.inr ⟨s - 1, by omega, by rw [show i + 1 + (s - 1) = i + s by omega]; exact q⟩
      · rw [hE' q G, hE2 q G, sm_first, Nat.add_assoc]
        exact congrArg (fun z => E G + (way i * TL η r h g nl G (key i) + z)) (sm_c (fun s _ => by rw [show i + 1 + s = i + (s + 1) by omega]))
    rcases hd with ⟨hd, rfl⟩ | ⟨hd, rfl⟩
    · -- the door
      obtain ⟨w2, e2, T2⟩ := byDoor hc (bw := way i) hη hH hT hVx h7 (fun q => hw q i (by omega)) hnl
      have S2 := fr_X9_byDoor (nI (key i)) (lN (way i)) (nI nl) w e2
      refine step w2 _ _ ?_ (hH.sm S2 (fun _ => rfl)) ⟨fun j => S2.I 133 j rfl, fun j => S2.I 139 j rfl, fun j => S2.L 142 j rfl, S2.I 130 28 rfl, S2.L 130 30 rfl⟩ T2 (fun z => ?_) (fun _ G => ?_)
      · rw [f_X9_lays_109, hF1, if_neg (fun q9 => absurd ((le_nI (by omega) (by omega)).mp q9) (by omega)), e1, bind_some', if_neg one_ne, if_pos ((inb_nI (by omega)).mpr (by omega)), if_pos ((inb_nI (by omega)).mpr (by omega))]
        show (f_X9_byDoor (gI w 139 (ix (nI i))) (gL w 142 (ix (nI i))) (nI nl) w).bind _ = _
        rw [ix_nI (by omega), (hF3 i (by omega)).1, (hF3 i (by omega)).2, e2, bind_some', f_X9_lays_182, nI_1]
      · unfold KL
        constructor
        · rintro (q | q)
          · exact Or.inl q
          · exact Or.inr (Or.inl ⟨hd, q⟩)
        · rintro (q | ⟨-, q⟩ | ⟨q, -⟩)
          · exact Or.inl q
          · exact Or.inr q
          · exact absurd hd q
      · rw [TL_d hd]
    · -- glances
      have hbw : ∃ bw : Nat, (fl = 1 → bw = way i) ∧ f_X9_lays_109 kk (n + 1) (nI r) y (nI g) (nI k) (nI fl) (nI nl) (nI i) w = (f_X9_byGlances (nI r) y (nI g) (nI (key i)) (lN bw) (nI nl) w).bind (fun q21 => f_X9_lays_182 kk (f_X9_lays_109 kk n) (nI r) y (nI g) (nI k) (nI fl) (nI nl) (nI i) q21.2) := by
        rcases hfl with rfl | rfl
        · refine ⟨0, ⟨fun q => by omega, ?_⟩⟩
          rw [f_X9_lays_109, hF1, if_neg (fun q9 => absurd ((le_nI (by omega) (by omega)).mp q9) (by omega)), e1, bind_some', if_pos rfl, if_pos ((inb_nI (by omega)).mpr (by omega)), if_pos (show nI 0 = 0 from rfl), f_X9_lays_177]
          show (f_X9_byGlances (nI r) y (nI g) (gI w 139 (ix (nI i))) 0 (nI nl) w).bind _ = _
          rw [ix_nI (by omega), (hF3 i (by omega)).1]
          rfl
        · refine ⟨way i, fun _ => rfl, ?_⟩
          rw [f_X9_lays_109, hF1, if_neg (fun q9 => absurd ((le_nI (by omega) (by omega)).mp q9) (by omega)), e1, bind_some', if_pos rfl, if_pos ((inb_nI (by omega)).mpr (by omega)), if_neg (show ¬ nI 1 = 0 from one_ne), if_pos ((inb_nI (by omega)).mpr (by omega)), f_X9_lays_177]
          show (f_X9_byGlances (nI r) y (nI g) (gI w 139 (ix (nI i))) (gL w 142 (ix (nI i))) (nI nl) w).bind _ = _
          rw [ix_nI (by omega), (hF3 i (by omega)).1, (hF3 i (by omega)).2]
      obtain ⟨bw, hbw1, hbw2⟩ := hbw
      obtain ⟨w2, e2, T2⟩ := byGlances hc (bw := bw) (y := y) hη hH hT hVx h7 hg1 hg hr hh hy (fun q => by rw [hbw1 q]; exact hw q i (by omega)) hnl
      have S2 := fr_X9_byGlances (nI r) y (nI g) (nI (key i)) (lN bw) (nI nl) w e2
      refine step w2 _ _ ?_ (hH.sm S2 (fun _ => rfl)) ⟨fun j => S2.I 133 j rfl, fun j => S2.I 139 j rfl, fun j => S2.L 142 j rfl, S2.I 130 28 rfl, S2.L 130 30 rfl⟩ T2 (fun z => ?_) (fun q G => ?_)
      · rw [hbw2, e2, bind_some', f_X9_lays_182, nI_1]
      · unfold KL
        constructor
        · rintro (q | q)
          · exact Or.inl q
          · exact Or.inr (Or.inr ⟨hd, q⟩)
        · rintro (q | ⟨q, -⟩ | ⟨-, q⟩)
          · exact Or.inl q
          · exact absurd q hd
          · exact Or.inr q
      · rw [TL_g hd, hbw1 q]
/-- the new table becomes the old one -/
theorem lays_copy {N nl : Nat} {key way : Nat → Nat} (hN : N ≤ 7722) {kk : Int32 → Int32 → Int32 → Int32 → Int32 → Int32 → GW → Option (Int32 × GW)} : ∀ d i n w, i + d = N → d < n → HMo w η → gI w 130 28 = nI N → (∀ s, s < N → gI w 140 s = nI (key s) ∧ gL w 143 s = lN (way s)) → (∀ s, s < i → gI w 139 s = nI (key s) ∧ gL w 142 s = lN (way s)) → ∃ w', f_X9_lays_199 kk n (nI r) y (nI g) (nI k) (nI fl) (nI nl) (nI i) w = kk (nI r) y (nI g) (nI k) (nI fl) (nI (nl + 1)) w' ∧ HMo w' η ∧ FT w' N key way ∧ gL w' 130 30 = gL w 130 30 := by
  intro d
  induction d with
  | zero =>
    intro i n w hi hn hH h1 h2 h3
    obtain ⟨n, rfl⟩ : ∃ m9, n = m9 + 1 := ⟨n - 1, by omega⟩
    rw [f_X9_lays_199, h1, if_pos ((le_nI (by omega) (by omega)).mpr (by omega)), nI_1]
    exact ⟨w, rfl, hH, ⟨h1, hN, fun s hs => h3 s (by omega)⟩, rfl⟩
  | succ d ih =>
    intro i n w hi hn hH h1 h2 h3
    obtain ⟨n, rfl⟩ : ∃ m9, n = m9 + 1 := ⟨n - 1, by omega⟩
    rw [f_X9_lays_199, h1, if_neg (fun q9 => absurd ((le_nI (by omega) (by omega)).mp q9) (by omega)), if_pos ((inb_nI (by omega)).mpr (by omega)), if_pos ((inb_nI (by omega)).mpr (by omega)), if_pos ((inb_nI (by omega)).mpr (by omega)), if_pos ((inb_nI (by omega)).mpr (by omega)), ix_nI (by omega), nI_1]
    obtain ⟨w', a, b, c, e⟩ := ih (i + 1) n (sL (sI w 139 i (gI w 140 i)) 142 i (gL (sI w 139 i (gI w 140 i)) 143 i)) (by omega) (by omega) (hH.of (fun j => by simp [gI_sI, gI_sL])) (by simp [gI_sI, gI_sL, h1]) (fun s hs => by
      have := h2 s hs
      simp [gI_sI, gI_sL, gL_sL, gL_sI, this.1, this.2]) (fun s hs => by
      by_cases z : s = i
      · subst z
        have := h2 s (by omega)
        simp [gI_sI, gI_sL, gL_sL, gL_sI, this.1, this.2]
      · have := h3 s (by omega)
        simp [gI_sI, gI_sL, gL_sL, gL_sI, this.1, this.2, z])
    exact ⟨w', a, b, c, by rw [e]; simp [gL_sL, gL_sI]⟩
theorem lays_run (hc : hcap) (hη : HPok η) (hg1 : 1 ≤ g) (hg : g ≤ 3) (hr : r ≤ 4) (hh : h ≤ 8) (hy : r = 2 → y = nI h) (hfl : fl = 0 ∨ fl = 1) (hk : k ≤ 8) : ∀ d i n w N key way, i + d = k → d < n → HMo w η → FT w N key way → (∀ z, (∃ s, s < N ∧ key s = z) ↔ RK η r h g i z) → (fl = 1 → ∀ G, tot N key way G = EL η r h g i G) → (fl = 1 → ∀ s, s < N → 0 < way s) →
    ∃ w' N' key' way', f_X9_lays_95 n (nI r) y (nI g) (nI k) (nI fl) (nI (i + 1)) w = some (1, w') ∧ FT w' N' key' way' ∧ (∀ z, (∃ s, s < N' ∧ key' s = z) ↔ RK η r h g k z) ∧ (fl = 1 → ∀ G, tot N' key' way' G = EL η r h g k G) ∧ (fl = 1 → ∀ s, s < N' → 0 < way' s) ∧ gL w' 130 30 = gL w 130 30 := by
  intro d
  induction d with
  | zero =>
    intro i n w N key way hi hn hH hF hR hE hP
    obtain ⟨n, rfl⟩ : ∃ m9, n = m9 + 1 := ⟨n - 1, by omega⟩
    have : i = k := by omega
    subst this
    rw [f_X9_lays_95, if_pos ((lt_nI (by omega) (by omega)).mpr (by omega))]
    exact ⟨w, N, key, way, rfl, hF, hR, hE, hP, rfl⟩
  | succ d ih =>
    intro i n w N key way hi hn hH hF hR hE hP
    obtain ⟨n, rfl⟩ : ∃ m9, n = m9 + 1 := ⟨n - 1, by omega⟩
    rw [f_X9_lays_95, if_neg (fun q9 => absurd ((lt_nI (by omega) (by omega)).mp q9) (by omega))]
    obtain ⟨w1, e1, a1, a2⟩ := clearS (w := w)
    have S1 := fr_X9_clearSlots w e1
    have H1 := hH.sm S1 (fun _ => rfl)
    have F1 : FT w1 N key way := ⟨(S1.I 130 28 rfl).trans hF.1, hF.2.1, fun s hs => by rw [S1.I 139 s rfl, S1.L 142 s rfl]; exact hF.2.2 s hs⟩
    have hV : ∀ s, s < N → VK (key s) ∧ su (dU (key s)) ≤ 7 := fun s hs => by
      have := RK_ok hη hg1 i (by omega) (key s) ((hR _).mp ⟨s, hs, rfl⟩)
      exact ⟨this.1, by omega⟩
    obtain ⟨w2, e2, H2, ee, E', T2, hE2⟩ := lays_in (k := k) (nl := i + 1) (kk := f_X9_lays_95 n) hc hη hg1 hg hr hh hy hfl hF.2.1 (by omega) hV hP N 0 fu w1 _ _ (by omega) (fu_gt (by have := hF.2.1; omega)) H1 F1 (TT_0 a1 a2)
    obtain ⟨N', key', way', ⟨b1, b2, b3, b4, -⟩, c1, c2, c3⟩ := T2
    have hN' : N' ≤ 7722 := hc N' key' b4 b3
    obtain ⟨w3, e3, H3, F3, g3⟩ := lays_copy (r := r) (g := g) (k := k) (y := y) (fl := fl) (nl := i + 1) (key := key') (way := way') (kk := f_X9_lays_95 n) hN' N' 0 fu (sI w2 130 28 (gI w2 130 29)) (by omega) (fu_gt (by omega)) (H2.of (fun j => by simp [gI_sI])) (by simp [gI_sI, b1]) (fun s hs => by have := b2 s hs; simp [gI_sI, gL_sI, this.1, this.2]) (fun s hs => by omega)
    obtain ⟨w4, N4, key4, way4, e4, q1, q2, q3, q4, q5⟩ := ih (i + 1) n w3 N' key' way' (by omega) (by omega) H3 F3 (fun z => by
      rw [c2]
      constructor
      · rintro (q | ⟨s, hs, q⟩)
        · exact q.elim
        · rw [Nat.zero_add] at q
          exact ⟨key s, (hR _).mp ⟨s, hs, rfl⟩, q⟩
      · rintro ⟨x, hx, q⟩
        obtain ⟨s, hs, e⟩ := (hR x).mpr hx
        exact Or.inr ⟨s, hs, by rw [Nat.zero_add, e]; exact q⟩) (fun q G => by
      rw [c1, hE2 q G, EL, ← hE q]
      unfold tot
      rw [Nat.zero_add]
      exact sm_c (fun s _ => by rw [Nat.zero_add])) c3
    refine ⟨w4, N4, key4, way4, ?_, q1, q2, q3, q4, ?_⟩
    · rw [e1, bind_some', show (0 : Int32) = nI 0 from rfl]
      show f_X9_lays_109 (f_X9_lays_95 n) fu (nI r) y (nI g) (nI k) (nI fl) (nI (i + 1)) (nI 0) w1 = _
      rw [e2, show (0 : Int32) = nI 0 from rfl, e3, e4]
    · rw [q5, g3]
      rw [gL_sI, ee, S1.L 130 30 rfl]
end LAY
/-- the ways behind so many letters, none if they are above what is counted; ea: of one letter -/
noncomputable def twS (η : HP) (ea : Nat) : Nat → Nat → Nat → Option Nat
  | 0, _, a => some a
  | d + 1, i, a => @ite _ (drS (pE η) i) (Classical.propDecidable _) (twS η ea d (i + 1) a) (if a ≤ 1000000000000000 / ea then twS η ea d (i + 1) (a * ea) else none)
/-- a letter's ways -/
def WY (η : HP) (r g : Nat) : Nat := sm (pB η) (pW η) ^ g * (if r = 0 then tiO g else 1)
theorem sm_lo {n : Nat} {f : Nat → Nat} (h : ∀ i, i < n → 1 ≤ f i) : n ≤ sm n f := by
  induction n with
  | zero => exact Nat.le_refl _
  | succ n ih => rw [sm_s]; have := ih (fun i hi => h i (by omega)); have := h n (by omega); omega
theorem WT_le {η : HP} (hη : HPok η) : 1 ≤ sm (pB η) (pW η) ∧ sm (pB η) (pW η) ≤ 15 := by
  have h1 := sm_lo (n := pB η) (f := pW η) (fun i _ => (hη.2.2.2.1 i).1)
  have h2 := sm_le (n := pB η) (f := pW η) (g := fun _ => 3) (fun i _ => (hη.2.2.2.1 i).2)
  have h3 : ∀ n, sm n (fun _ => 3) = 3 * n := fun n => by
    induction n with
    | zero => rfl
    | succ n ih => rw [sm_s, ih]; omega
  rw [h3] at h2
  have := hη.1
  have := hη.2.1
  exact ⟨by omega, by omega⟩
theorem WY_le {η : HP} (hη : HPok η) {r g : Nat} (hg1 : 1 ≤ g) (hg : g ≤ 3) : 1 ≤ WY η r g ∧ WY η r g ≤ 20250 := by
  obtain ⟨h1, h2⟩ := WT_le hη
  have a : 1 ≤ sm (pB η) (pW η) ^ g := Nat.pow_pos h1
  have b : sm (pB η) (pW η) ^ g ≤ 15 ^ g := Nat.pow_le_pow_left h2 g
  have c : 15 ^ g ≤ 15 ^ 3 := Nat.pow_le_pow_right (by omega) hg
  have d : 1 ≤ (if r = 0 then tiO g else 1) ∧ (if r = 0 then tiO g else 1) ≤ 6 := by
    unfold tiO
    split
    · split <;> omega
    · omega
  unfold WY
  refine ⟨Nat.mul_le_mul a d.1, ?_⟩
  have := Nat.mul_le_mul (show sm (pB η) (pW η) ^ g ≤ 3375 by omega) d.2
  omega
section LAYS
variable {η : HP} {r h g k : Nat} {y : Int32}
theorem lays_ref (hη : HPok η) (hg1 : 1 ≤ g) (hg : g ≤ 3) (hk : k ≤ 8) : ∀ d i n w a, i + d = k → d < n → HMo w η → gL w 130 30 = lN a → a ≤ 1000000000000000 → (twS η (WY η r g) d (i + 1) a = none ∧ ∃ w', f_X9_lays_35 n (nI r) y (nI g) (nI k) 1 (lN (WY η r g)) (nI (i + 1)) w = some (0, w')) ∨ (∃ a' w', twS η (WY η r g) d (i + 1) a = some a' ∧ a' ≤ 1000000000000000 ∧ f_X9_lays_35 n (nI r) y (nI g) (nI k) 1 (lN (WY η r g)) (nI (i + 1)) w = f_X9_lays_92 (nI r) y (nI g) (nI k) 1 w' ∧ gL w' 130 30 = lN a' ∧ (∀ q j, gI w' q j = gI w q j) ∧ ∀ j, gL w' 142 j = gL w 142 j) := by
  obtain ⟨e1, e2⟩ := WY_le hη (r := r) hg1 hg
  intro d
  induction d with
  | zero =>
    intro i n w a hi hn hH ha ha2
    obtain ⟨n, rfl⟩ : ∃ m9, n = m9 + 1 := ⟨n - 1, by omega⟩
    right
    refine ⟨a, w, rfl, ha2, ?_, ha, fun _ _ => rfl, fun _ => rfl⟩
    rw [f_X9_lays_35, if_pos ((lt_nI (by omega) (by omega)).mpr (by omega))]
  | succ d ih =>
    intro i n w a hi hn hH ha ha2
    obtain ⟨n, rfl⟩ : ∃ m9, n = m9 + 1 := ⟨n - 1, by omega⟩
    obtain ⟨rd, q1, hd⟩ := isDoor (w := w) (n := i + 1) hH.2.2.2.2.1 hη.2.2.2.2.2.1 (by omega)
    rw [f_X9_lays_35, if_neg (fun q9 => absurd ((lt_nI (by omega) (by omega)).mp q9) (by omega)), if_neg one_ne, q1, bind_some', twS]
    rcases hd with ⟨hd, rfl⟩ | ⟨hd, rfl⟩
    · rw [if_pos hd, if_neg one_ne, f_X9_lays_86, nI_1]
      exact ih (i + 1) n w a (by omega) (by omega) hH ha ha2
    · rw [if_neg hd, if_pos rfl]
      have hne : ¬ lN (WY η r g) = 0 := fun z => by
        have := (pk_lEQ (a := WY η r g) (b := 0) (by omega) (by omega)).mp z
        omega
      have hdiv : (1000000000000000 : Int64) / lN (WY η r g) = lN (1000000000000000 / WY η r g) := pk_lDiv (a := 1000000000000000) (by omega) (by omega) (by omega)
      have hdl : 1000000000000000 / WY η r g ≤ 1000000000000000 := Nat.div_le_self _ _
      rw [if_pos hne]
      show (_ ∧ ∃ w', (if gL w 130 30 ≤ _ then _ else _) = _) ∨ ∃ a' w', _ ∧ _ ∧ (if gL w 130 30 ≤ _ then _ else _) = _ ∧ _
      rw [ha, hdiv]
      by_cases hle : a ≤ 1000000000000000 / WY η r g
      · rw [if_pos ((pk_lLE (by omega) (by omega)).mpr hle), if_pos hle, f_X9_lays_86, nI_1]
        have hm : a * WY η r g ≤ 1000000000000000 := by
          have := Nat.mul_le_mul_right (WY η r g) hle
          have h3 := Nat.div_mul_le_self 1000000000000000 (WY η r g)
          omega
        rcases ih (i + 1) n (sL w 130 30 (lN a * lN (WY η r g))) (a * WY η r g) (by omega) (by omega) (hH.of (fun _ => rfl)) (by rw [gL_sL, if_pos ⟨rfl, rfl⟩, lN_mul]) hm with z | ⟨a', w', z1, z2, z3, z4, z5, z6⟩
        · left
          refine ⟨z.1, ?_⟩
          obtain ⟨w', z2⟩ := z.2
          exact ⟨w', z2⟩
        · right
          refine ⟨a', w', z1, z2, ?_, z4, fun q j => z5 q j, fun j => ?_⟩
          · exact z3
          · rw [z6, gL_sL, if_neg (by simp)]
      · rw [if_neg (fun z => hle ((pk_lLE (by omega) (by omega)).mp z)), if_neg hle]
        left
        exact ⟨rfl, _, rfl⟩
/-- lays, whole: refused, or the table of what may be behind k letters -/
theorem lays (hc : hcap) {w : GW} (hη : HPok η) (hH : HMo w η) (hg1 : 1 ≤ g) (hg : g ≤ 3) (hr : r ≤ 4) (hh : h ≤ 8) (hy : r = 2 → y = nI h) (hk : k ≤ 8) :
    (twS η (WY η r g) k 1 1 = none ∧ ∃ w', f_X9_lays (nI r) y (nI g) (nI k) 1 w = some (0, w')) ∨ ∃ a w' N key way, twS η (WY η r g) k 1 1 = some a ∧ a ≤ 1000000000000000 ∧ f_X9_lays (nI r) y (nI g) (nI k) 1 w = some (1, w') ∧ FT w' N key way ∧ (∀ z, (∃ s, s < N ∧ key s = z) ↔ RK η r h g k z) ∧ (∀ G, tot N key way G = EL η r h g k G) ∧ (∀ s, s < N → 0 < way s) ∧ gL w' 130 30 = lN a := by
  have hH0 : HMo (sL (sL (sI (sI w 130 28 1) 139 0 0) 142 0 1) 130 30 1) η := hH.of (fun j => by simp [gI_sI, gI_sL])
  have e0 : f_X9_lays (nI r) y (nI g) (nI k) 1 w = f_X9_lays_35 fu (nI r) y (nI g) (nI k) 1 (lN (WY η r g)) (nI (0 + 1)) (sL (sL (sI (sI w 130 28 1) 139 0 0) 142 0 1) 130 30 1) := by
    rw [f_X9_lays, if_pos (show inb _ _ from by decide), if_pos (show inb _ _ from by decide), show ix (0 : Int32) = 0 from by decide, waysOf hH0.1 hη.2.1 hH0.2.2.1 (fun b => (hη.2.2.2.1 b).2) hg hr, bind_some']
    rfl
  rcases lays_ref (r := r) (g := g) (k := k) (y := y) hη hg1 hg hk k 0 fu _ 1 (by omega) (fu_gt (by omega)) hH0 (by simp [gL_sL]; rfl) (by omega) with ⟨z1, w', z2⟩ | ⟨a', w', z1, z2, z3, z4, z5, z6⟩
  · exact Or.inl ⟨z1, w', by rw [e0]; exact z2⟩
  · right
    have hF : FT w' 1 (fun _ => 0) (fun _ => 1) := by
      refine ⟨by rw [z5]; simp [gI_sI, gI_sL]; rfl, by omega, fun s hs => ?_⟩
      have : s = 0 := by omega
      subst this
      rw [z5, z6]
      refine ⟨by simp [gI_sI, gI_sL]; rfl, by simp [gL_sI, gL_sL]; rfl⟩
    obtain ⟨w2, N, key, way, q1, q2, q3, q4, q5, q6⟩ := lays_run (fl := 1) hc hη hg1 hg hr hh hy (Or.inr rfl) hk k 0 fu w' 1 (fun _ => 0) (fun _ => 1) (by omega) (fu_gt (by omega)) (hH0.of (fun j => z5 133 j)) hF (fun z => ⟨fun ⟨s, _, e⟩ => e.symm, fun e => ⟨0, by omega, e.symm⟩⟩) (fun _ G => by unfold tot; rw [EL]; simp [sm]) (fun _ s _ => by omega)
    refine ⟨a', w2, N, key, way, z1, z2, ?_, q2, q3, q4 rfl, q5 rfl, by rw [q6]; exact z4⟩
    rw [e0, z3, f_X9_lays_92]
    exact q1
/-- lays without counting: which boxes may lie so at all -/
theorem lays0 (hc : hcap) {w : GW} (hη : HPok η) (hH : HMo w η) (hg1 : 1 ≤ g) (hg : g ≤ 3) (hr : r ≤ 4) (hh : h ≤ 8) (hy : r = 2 → y = nI h) (hk : k ≤ 8) :
    ∃ w' N key way, f_X9_lays (nI r) y (nI g) (nI k) 0 w = some (1, w') ∧ FT w' N key way ∧ (∀ z, (∃ s, s < N ∧ key s = z) ↔ RK η r h g k z) := by
  have hH0 : HMo (sL (sL (sI (sI w 130 28 1) 139 0 0) 142 0 1) 130 30 1) η := hH.of (fun j => by simp [gI_sI, gI_sL])
  have e0 : f_X9_lays (nI r) y (nI g) (nI k) 0 w = f_X9_lays_92 (nI r) y (nI g) (nI k) 0 (sL (sL (sI (sI w 130 28 1) 139 0 0) 142 0 1) 130 30 1) := by
    obtain ⟨m, hm⟩ : ∃ m, fu = m + 1 := ⟨fu - 1, by rw [fu_eq]⟩
    rw [f_X9_lays, if_pos (show inb _ _ from by decide), if_pos (show inb _ _ from by decide), show ix (0 : Int32) = 0 from by decide, waysOf hH0.1 hη.2.1 hH0.2.2.1 (fun b => (hη.2.2.2.1 b).2) hg hr, bind_some', hm, f_X9_lays_35]
    by_cases z : nI k < 1
    · rw [if_pos z]
    · rw [if_neg z, if_pos rfl]
  have hF : FT (sL (sL (sI (sI w 130 28 1) 139 0 0) 142 0 1) 130 30 1) 1 (fun _ => 0) (fun _ => 1) := by
    refine ⟨by simp [gI_sI, gI_sL]; rfl, by omega, fun s hs => ?_⟩
    have : s = 0 := by omega
    subst this
    refine ⟨by simp [gI_sI, gI_sL]; rfl, by simp [gL_sI, gL_sL]; rfl⟩
  obtain ⟨w2, N, key, way, q1, q2, q3, -⟩ := lays_run (fl := 0) hc hη hg1 hg hr hh hy (Or.inl rfl) hk k 0 fu _ 1 (fun _ => 0) (fun _ => 1) (by omega) (fu_gt (by omega)) hH0 hF (fun z => ⟨fun ⟨s, _, e⟩ => e.symm, fun e => ⟨0, by omega, e.symm⟩⟩) (fun q => by omega) (fun q => by omega)
  refine ⟨w2, N, key, way, ?_, q2, q3⟩
  rw [e0, f_X9_lays_92]
  exact q1
end LAYS
