/-! how few glances, how lazy -/
section NV
variable {σ : HS} {w : GW}
theorem boundWhy0 (hs : HSok σ) (M : MHl w σ) {x y : Int32} : f_X9_boundWhy x y w = (f_X9_within x 0 (nI (zL σ)) w).bind fun q3 => if q3.1 = 0 then some (2, q3.2) else (f_X9_within y 1 9 q3.2).bind fun q7 => if q7.1 = 0 then some (2, q7.2) else some (0, q7.2) := by
  rw [f_X9_boundWhy, M.1, if_neg one_ne, if_pos (show inb _ _ from by decide), show ix (1 : Int32) = 1 from by decide, M.2.2.1]
theorem CQ.tb (C : CQ w σ) {a b c : Int32} : CQ (sI (sI (sI w 116 0 a) 116 1 b) 116 2 c) σ := by
  refine C.kc ⟨fun p j x y => ⟨?_, rfl⟩, fun _ _ => rfl⟩ (C.2.2.of C.1 (fun p j x => ?_) (fun _ _ _ _ => rfl) rfl rfl)
  · rw [gI_sI, if_neg (by omega), gI_sI, if_neg (by omega), gI_sI, if_neg (by omega)]
  · rw [gI_sI, if_neg (by omega), gI_sI, if_neg (by omega), gI_sI, if_neg (by omega)]
theorem PCl_tb {g r h : Nat} {a : Int32} (ha : r = 2 → a = nI h) : PCl (sI (sI (sI w 116 0 (nI g)) 116 1 (nI r)) 116 2 a) 116 r h g := ⟨rfl, rfl, fun q => ha q⟩
theorem tbec {g r : Int32} {a : Int32} : f_X4_become 116 g r a w = some ((), sI (sI (sI w 116 0 g) 116 1 r) 116 2 a) := rfl
/-- some way leaves a fullest of so many -/
def nvP (σ : HS) (k m g : Nat) : Prop := ∃ x, RK (zE σ) 1 0 g k x ∧ m ≤ flM (dV x) (pB (zE σ))
noncomputable def nvF (σ : HS) (k m : Nat) : Nat → Nat → Int32
  | 0, _ => -2
  | d + 1, g => @ite _ (nvP σ k m g) (Classical.propDecidable _) (nvF σ k m d (g + 1)) (nI g)
theorem nv8 {k m : Nat} (hm : m ≤ 9) : ∀ d g n (w : GW), g + d = 4 → 1 ≤ g → d < n → CQ w σ → k ≤ zL σ → ∃ w', f_X8_never_43 n (nI k) (nI m) (nI g) w = some (nvF σ k m d g, w') ∧ CCh w' σ ∧ gI w' 0 12 = 0 := by
  intro d
  induction d with
  | zero =>
    intro g n w hg hg1 hn C hk
    obtain ⟨n, rfl⟩ : ∃ m9, n = m9 + 1 := ⟨n - 1, by omega⟩
    refine ⟨sI w 0 12 0, ?_, C.2.2.tr C.1, gI_same _ _ _ _⟩
    rw [f_X8_never_43, show (3 : Int32) = nI 3 from rfl, if_pos ((lt_nI (by omega) (by omega)).mpr (by omega))]; rfl
  | succ d ih =>
    intro g n w hg hg1 hn C hk
    obtain ⟨n, rfl⟩ : ∃ m9, n = m9 + 1 := ⟨n - 1, by omega⟩
    have hs := C.1
    have hL := hs.2.1
    obtain ⟨w1, a1, ⟨t, t1, t2, t3⟩, a3, a4, _⟩ := rowQ (C.tb (a := nI g) (b := nI 1) (c := -2)) (k2 := 116) (i := 33 + g - 1) (r := 1) (h := 0) (g := g) (fl := 1) (by omega) hg1 (by omega) (by omega) (by omega) (Or.inr rfl) (PCl_tb (by omega)) (by decide) ((C.tb (a := nI g) (b := nI 1) (c := -2)).2.2.2.2.2.2 g hg1 (by omega)) (fun p hp e => by have := hs.2.2.1; omega) (fun g' h' x y z e => by omega) (fun g' x y e => ⟨rfl, rfl, by omega, rfl⟩)
    have C1 : CQ w1 σ := (C.tb (a := nI g) (b := nI 1) (c := -2)).kc a3 a4
    have hm2 := ltS2_m (η := zE σ) hk
    obtain ⟨v, b1, b2, b3, b4⟩ := furthest (ls := 0) (w := w1) hs.1 hg1 (show g ≤ 3 by omega) (Or.inr rfl) (Or.inl rfl) C1.2.2.2.1 (show k < 1000 by omega) hm2 (t3 _ hm2 (by omega)) t2 (by omega)
    obtain ⟨s1, s2⟩ := RK_same (r := 1) (h := 0) hs.1 hg1 (show g ≤ 3 by omega) (show k ≤ 8 by omega)
    have hv : nvP σ k m g ↔ m ≤ v := by
      constructor
      · rintro ⟨x, x1, x2⟩
        obtain ⟨y, y1, y2⟩ := s1 x x1
        have := b4 y y1
        unfold btr at this
        rw [if_pos rfl, y2] at this
        omega
      · intro h
        obtain ⟨x, x1, x2⟩ := b3
        obtain ⟨y, y1, y2⟩ := s2 x x1
        exact ⟨y, y1, by rw [y2, x2]; exact h⟩
    have a1' : f_X0_rowOf ((33 + nI g) - 1) 116 1 (sI (sI (sI w 116 0 (nI g)) 116 1 1) 116 2 (-2)) = some (74 + (33 + g - 1), w1) := by
      rw [show (33 : Int32) = nI 33 from rfl, nI_add, pB_m1 (by omega)]
      exact a1
    have b1' : f_X0_furthest (74 + (33 + g - 1)) (nI k) 0 w1 = some (nI v, w1) := b1
    have e : f_X8_never_43 (n + 1) (nI k) (nI m) (nI g) w = if nI m ≤ nI v then f_X8_never_43 n (nI k) (nI m) (nI g + 1) w1 else (f_X8_fine (nI g) w1).bind fun q21 => some (q21.1, q21.2) := by
      rw [f_X8_never_43, show (3 : Int32) = nI 3 from rfl, if_neg (fun q9 => absurd ((lt_nI (by omega) (by omega)).mp q9) (by omega)), tbec, bind_some']
      dsimp only
      rw [a1', bind_some']
      dsimp only
      rw [b1', bind_some']
    rw [e, nvF]
    by_cases z : m ≤ v
    · rw [if_pos ((le_nI (by omega) (by omega)).mpr (by omega)), if_pos (hv.mpr z), nI_1]
      exact ih (g + 1) n w1 (by omega) (by omega) (by omega) C1 hk
    · rw [if_neg (fun q9 => absurd ((le_nI (by omega) (by omega)).mp q9) (by omega)), if_neg (fun y => z (hv.mp y))]
      exact ⟨sI w1 0 12 0, rfl, a4.tr hs, gI_same _ _ _ _⟩
theorem nv46 (hs : HSok σ) {k m g N : Nat} {key way : Nat → Nat} (hm : m ≤ 9) (hg1 : 1 ≤ g) (hk : k ≤ 8) (hK : ∀ z, (∃ s, s < N ∧ key s = z) ↔ RK (zE σ) 1 0 g k z) {kk : Int32 → Int32 → Int32 → GW → Option (Int32 × GW)} : ∀ d i n (w : GW) (f : Nat), i + d = N → d < n → MHl w σ → FT w N key way → (f = 0 ∨ f = 1) → (f = 1 ↔ ∀ s, s < i → flM (dV (key s)) (pB (zE σ)) < m) → ∃ w', MHl w' σ ∧ gI w' 130 11 = gI w 130 11 ∧ f_X9_never_46 kk n (nI k) (nI m) (nI g) (nI f) (nI i) w = @ite _ (nvP σ k m g) (Classical.propDecidable _) (kk (nI k) (nI m) (nI g + 1) w') (some (nI g, w')) := by
  intro d
  induction d with
  | zero =>
    intro i n w f hi hn M hF hf hall
    obtain ⟨n, rfl⟩ : ∃ m9, n = m9 + 1 := ⟨n - 1, by omega⟩
    have hN := hF.2.1
    have : i = N := by omega
    subst this
    have hv : nvP σ k m g ↔ ¬ f = 1 := by
      rw [hall]
      constructor
      · rintro ⟨x, x1, x2⟩ q
        obtain ⟨s, s1, rfl⟩ := (hK x).mpr x1
        have := q s s1
        omega
      · intro q
        have ⟨s, hs2⟩ := Classical.not_forall.mp q
        have ⟨h1, h2⟩ := Classical.not_imp.mp hs2
        exact ⟨key s, (hK _).mp ⟨s, h1, rfl⟩, by omega⟩
    refine ⟨w, M, rfl, ?_⟩
    rw [f_X9_never_46, hF.1, if_pos ((le_nI (by omega) (by omega)).mpr (by omega))]
    rcases hf with rfl | rfl
    · rw [if_pos (show nI 0 = 0 from rfl), if_pos (hv.mpr (by omega))]
    · rw [if_neg (show ¬ nI 1 = 0 from one_ne), if_neg (fun z => (hv.mp z) rfl)]
  | succ d ih =>
    intro i n w f hi hn M hF hf hall
    obtain ⟨n, rfl⟩ : ∃ m9, n = m9 + 1 := ⟨n - 1, by omega⟩
    have hN := hF.2.1
    rcases hf with rfl | rfl
    · obtain ⟨w', a, b, c⟩ := ih (i + 1) n w 0 (by omega) (by omega) M hF (Or.inl rfl) ⟨fun q => by omega, fun q => absurd (hall.mpr (fun s hs2 => q s (by omega))) (by omega)⟩
      refine ⟨w', a, b, ?_⟩
      rw [f_X9_never_46, hF.1, if_neg (fun q9 => absurd ((le_nI (by omega) (by omega)).mp q9) (by omega)), if_pos (show nI 0 = 0 from rfl), f_X9_never_79, f_X9_never_80, nI_1]
      exact c
    · obtain ⟨w1, a1⟩ := fullestOf9 (w := w) hs.1 M.2.1.1 (RK_lt hs hg1 hk hK i (by omega))
      have S := fr_X9_fullestOf _ _ a1
      have hfl := flM_le (dV8 (key i)) (pB (zE σ))
      have M1 : MHl w1 σ := M.km (KM.sm S (by decide) rfl)
      have F1 := hF.sm S rfl (fun _ => rfl) (fun _ => rfl)
      by_cases z : m ≤ flM (dV (key i)) (pB (zE σ))
      · obtain ⟨w', a, b, c⟩ := ih (i + 1) n w1 0 (by omega) (by omega) M1 F1 (Or.inl rfl) ⟨fun q => by omega, fun q => by have := q i (by omega); omega⟩
        refine ⟨w', a, b.trans (S.I 130 11 rfl), ?_⟩
        rw [f_X9_never_46, hF.1, if_neg (fun q9 => absurd ((le_nI (by omega) (by omega)).mp q9) (by omega)), if_neg (show ¬ nI 1 = 0 from one_ne), show (8000 : Nat) = 8000 from rfl, if_pos ((inb_nI (by omega)).mpr (by omega)), ix_nI (by omega), (hF.2.2 i (by omega)).1, a1, bind_some']
        dsimp only
        rw [if_pos ((le_nI (by omega) (by omega)).mpr (by omega)), f_X9_never_79, f_X9_never_80, nI_1]
        exact c
      · obtain ⟨w', a, b, c⟩ := ih (i + 1) n w1 1 (by omega) (by omega) M1 F1 (Or.inr rfl) ⟨fun _ s hs2 => by
          by_cases y : s = i
          · subst y; omega
          · exact hall.mp rfl s (by omega), fun _ => rfl⟩
        refine ⟨w', a, b.trans (S.I 130 11 rfl), ?_⟩
        rw [f_X9_never_46, hF.1, if_neg (fun q9 => absurd ((le_nI (by omega) (by omega)).mp q9) (by omega)), if_neg (show ¬ nI 1 = 0 from one_ne), show (8000 : Nat) = 8000 from rfl, if_pos ((inb_nI (by omega)).mpr (by omega)), ix_nI (by omega), (hF.2.2 i (by omega)).1, a1, bind_some']
        dsimp only
        rw [if_neg (fun q9 => absurd ((le_nI (by omega) (by omega)).mp q9) (by omega)), f_X9_never_80, nI_1]
        exact c
theorem nv9 (hs : HSok σ) {k m : Nat} (hm : m ≤ 9) (hk : k ≤ 8) : ∀ d g n (w : GW), g + d = 4 → 1 ≤ g → d < n → MHl w σ → ∃ w', f_X9_never_24 n (nI k) (nI m) (nI g) w = some (nvF σ k m d g, w') ∧ gI w' 130 11 = gI w 130 11 := by
  intro d
  induction d with
  | zero =>
    intro g n w hg hg1 hn M
    obtain ⟨n, rfl⟩ : ∃ m9, n = m9 + 1 := ⟨n - 1, by omega⟩
    refine ⟨w, ?_, rfl⟩
    rw [f_X9_never_24, show (3 : Int32) = nI 3 from rfl, if_pos ((lt_nI (by omega) (by omega)).mpr (by omega))]; rfl
  | succ d ih =>
    intro g n w hg hg1 hn M
    obtain ⟨n, rfl⟩ : ∃ m9, n = m9 + 1 := ⟨n - 1, by omega⟩
    obtain ⟨w1, N, key, way, a1, a2, a3⟩ := lays0 hcap_ok (w := w) (r := 1) (h := 0) (g := g) (k := k) (y := -2) hs.1 M.2.1 hg1 (by omega) (by omega) (by omega) (by omega) hk
    have S := fr_X9_lays _ _ _ _ _ _ a1
    have a1' : f_X9_lays 1 (-2) (nI g) (nI k) 0 w = some (1, w1) := a1
    obtain ⟨w2, b1, b2, b3⟩ := nv46 (m := m) (kk := f_X9_never_24 n) hs hm hg1 hk a3 N 0 fu w1 1 (by omega) (by have := a2.2.1; exact (fu_gt (by omega))) (M.km (KM.sm S (by decide) rfl)) a2 (Or.inr rfl) ⟨fun _ s hs2 => by omega, fun _ => rfl⟩
    have e : f_X9_never_24 (n + 1) (nI k) (nI m) (nI g) w = @ite _ (nvP σ k m g) (Classical.propDecidable _) (f_X9_never_24 n (nI k) (nI m) (nI g + 1) w2) (some (nI g, w2)) := by
      rw [f_X9_never_24, show (3 : Int32) = nI 3 from rfl, if_neg (fun q9 => absurd ((lt_nI (by omega) (by omega)).mp q9) (by omega)), a1', bind_some']
      exact b3
    rw [e, nvF]
    by_cases z : nvP σ k m g
    · rw [if_pos z, if_pos z, nI_1]
      obtain ⟨w', c1, c2⟩ := ih (g + 1) n w2 (by omega) (by omega) (by omega) b1
      exact ⟨w', c1, by rw [c2, b2, S.I 130 11 rfl]⟩
    · rw [if_neg z, if_neg z]
      exact ⟨w2, rfl, by rw [b2, S.I 130 11 rfl]⟩
theorem q_never (C : CQ w σ) (M : MHl w σ) (x1 x2 : Int32) : QAg w σ (f_X8_never x1 x2) (f_X9_never x1 x2) := by
  have hs := C.1
  have hL := hs.2.1
  have K : ∀ z, f_X8_never x1 x2 w = some z → KC w z.2 := fun z hz => KC.sm (fr_X8_never _ _ _ hz) (by decide) (by decide)
  rcases rg_em x1 0 (zL σ) with ⟨k, _, hk, rfl⟩ | h1
  rotate_left
  · refine QAg.mk M (-1) 2 (rf8 C ?_) K (fun w1 M1 => ?_)
    · rw [f_X8_never, C.2.1.1, if_neg one_ne, isC8_f C h1, bind_some', if_pos rfl]; rfl
    · refine rf9 (w0 := gd9 w1) ?_
      rw [f_X9_never, good9, bind_some', boundWhy0 hs M1.gd, w9f h1 (by rfl) (by rfl) (by omega) (by omega), bind_some', if_pos rfl, bind_some', if_neg two_ne]; rfl
  rcases rg_em x2 1 9 with ⟨m, hm1, hm, rfl⟩ | h2
  rotate_left
  · refine QAg.mk M (-1) 2 (rf8 C ?_) K (fun w1 M1 => ?_)
    · rw [f_X8_never, C.2.1.1, if_neg one_ne, isC8_t C hk, bind_some', if_neg one_ne]
      dsimp only
      rw [rg_ite h2 (by rfl) (by rfl) (by omega) (by omega)]; rfl
    · refine rf9 (w0 := gd9 w1) ?_
      rw [f_X9_never, good9, bind_some', boundWhy0 hs M1.gd, w9t (lo := 0) (hi := zL σ) (by omega) hk (by rfl) (by rfl) (by omega), bind_some', if_neg one_ne, w9f h2 (by rfl) (by rfl) (by omega) (by omega), bind_some', if_pos rfl, bind_some', if_neg two_ne]; rfl
  obtain ⟨w1, a1, a2, a3⟩ := nv8 (m := m) hm 3 1 fu w (by omega) (by omega) (fu_gt (by omega)) C hk
  refine QAg.mk M (nvF σ k m 3 1) 0 ⟨w1, ?_, a2, a3⟩ K (fun w2 M2 => ?_)
  · rw [f_X8_never, C.2.1.1, if_neg one_ne, isC8_t C hk, bind_some', if_neg one_ne]
    dsimp only
    rw [rg_itt (lo := 1) (hi := 9) hm1 hm (by rfl) (by rfl) (by omega)]
    exact a1
  · obtain ⟨w3, b1, b2⟩ := nv9 (m := m) hs hm (show k ≤ 8 by omega) 3 1 fu (gd9 w2) (by omega) (by omega) (fu_gt (by omega)) M2.gd
    refine ⟨w3, ?_, by rw [b2]; exact gd9_t⟩
    rw [f_X9_never, good9, bind_some', boundWhy0 hs M2.gd, w9t (lo := 0) (hi := zL σ) (by omega) hk (by rfl) (by rfl) (by omega), bind_some', if_neg one_ne, w9t (lo := 1) (hi := 9) hm1 hm (by rfl) (by rfl) (by omega), bind_some', if_neg one_ne, bind_some', if_pos rfl]
    exact b1
/-- the first of the least -/
def amF (f : Nat → Nat) : Nat → Nat
  | 0 => 0
  | n + 1 => if n = 0 ∨ f n < f (amF f n) then n else amF f n
theorem amF_lt (f : Nat → Nat) : ∀ n, 0 < n → amF f n < n := by
  intro n
  induction n with
  | zero => intro h; omega
  | succ n ih =>
    intro _
    rw [amF]
    split
    · omega
    · next h =>
      have := ih (by omega)
      omega
theorem amF_c {f f' : Nat → Nat} (h : ∀ a b, f a < f b ↔ f' a < f' b) : ∀ n, amF f n = amF f' n := by
  intro n
  induction n with
  | zero => rfl
  | succ n ih =>
    show (if n = 0 ∨ f n < f (amF f n) then n else amF f n) = (if n = 0 ∨ f' n < f' (amF f' n) then n else amF f' n)
    have e : (n = 0 ∨ f n < f (amF f n)) ↔ (n = 0 ∨ f' n < f' (amF f' n)) := by rw [ih, h]
    by_cases z : n = 0 ∨ f n < f (amF f n)
    · rw [if_pos z, if_pos (e.mp z)]
    · rw [if_neg z, if_neg (fun y => z (e.mpr y)), ih]
/-- ways of a fullest of so many, by how lazy -/
noncomputable def lzE (σ : HS) (g k m h : Nat) : Nat := EL (zE σ) 2 h g k (fun x => wo (zE σ) 4 m 0 (dV x))
theorem lzE_le (hs : HSok σ) {g k m h : Nat} (hg1 : 1 ≤ g) (hg : g ≤ 3) : lzE σ g k m h ≤ 1 * alS (zE σ) 2 g k := ELw_le hs hg1 hg
theorem lzE_c (hs : HSok σ) {g k m : Nat} (hg1 : 1 ≤ g) (hg : g ≤ 3) (hk : k ≤ 8) : ∀ a b, lzE σ g (ltS2 (zE σ) k) m a < lzE σ g (ltS2 (zE σ) k) m b ↔ lzE σ g k m a < lzE σ g k m b := by
  intro a b
  have ea := EL_full (r := 2) (h := a) hs.1 hg1 hg hk (fun u => wo (zE σ) 4 m 0 u)
  have eb := EL_full (r := 2) (h := b) hs.1 hg1 hg hk (fun u => wo (zE σ) 4 m 0 u)
  have p1 := alS_p (r := 2) hs hg1 hg k
  have p2 := alS_p (r := 2) hs hg1 hg (ltS2 (zE σ) k)
  unfold lzE
  constructor
  · intro h
    refine Nat.lt_of_mul_lt_mul_right (a := alS (zE σ) 2 g (ltS2 (zE σ) k)) ?_
    rw [ea, eb]
    exact Nat.mul_lt_mul_of_pos_left h p1
  · intro h
    refine Nat.lt_of_mul_lt_mul_left (a := alS (zE σ) 2 g k) ?_
    rw [← ea, ← eb]
    exact Nat.mul_lt_mul_of_pos_right h p2
theorem ofL8 (C : CQ w σ) {g h : Nat} (hg1 : 1 ≤ g) (hg : g ≤ 3) (hh : h ≤ 8) : ∃ w', f_X8_ofLazy (nI g) (nI h) w = some (74 + (6 + (g - 1) * 9 + h), w') ∧ ROW w' (74 + (6 + (g - 1) * 9 + h)) (zE σ) 2 h g 0 (ltS2 (zE σ) (zL σ)) ∧ CQ w' σ := by
  have hs := C.1
  obtain ⟨w1, a1, a2, a3, a4, _⟩ := rowQ (C.tb (a := nI g) (b := nI 2) (c := nI h)) (k2 := 116) (i := 6 + (g - 1) * 9 + h) (r := 2) (h := h) (g := g) (fl := 0) (by omega) hg1 hg (by omega) hh (Or.inl rfl) (PCl_tb (fun _ => rfl)) (by decide) ((C.tb (a := nI g) (b := nI 2) (c := nI h)).2.2.2.2.2.1 g h hg1 hg hh) (fun p hp e => by have := hs.2.2.1; omega) (fun g' h' x y z e => ⟨rfl, by omega, by omega, rfl⟩) (fun g' x y e => by omega)
  refine ⟨w1, ?_, a2, (C.tb (a := nI g) (b := nI 2) (c := nI h)).kc a3 a4⟩
  have a1' : f_X0_rowOf ((6 + ((nI g - 1) * 9)) + nI h) 116 0 (sI (sI (sI w 116 0 (nI g)) 116 1 2) 116 2 (nI h)) = some (74 + (6 + (g - 1) * 9 + h), w1) := by
    rw [pB_m1 hg1, show (9 : Int32) = nI 9 from rfl, pk_mul, show (6 : Int32) = nI 6 from rfl, nI_add, nI_add]
    exact a1
  rw [f_X8_ofLazy, tbec, bind_some']
  dsimp only
  rw [a1']; rfl
theorem ROW.ol {w' : GW} {i r h g most : Nat} (hR : ROW w (74 + i) (zE σ) r h g 0 most) (o : oL 72 w w') : ROW w' (74 + i) (zE σ) r h g 0 most := by
  obtain ⟨t, t1, ⟨A, a1, a2⟩, t3⟩ := hR
  exact ⟨t, t1, ⟨A, a1, fun c hc => by rw [o.2.2 _ _ (by omega)]; exact a2 c hc⟩, t3⟩
theorem lz8 {g k m : Nat} (hg1 : 1 ≤ g) (hg : g ≤ 3) (hm : m ≤ 9) : ∀ d i n (w : GW) (x : Int32) (le : Nat), i + d = 9 → d < n → CQ w σ → k ≤ zL σ → alS (zE σ) 2 g k ≤ 1000000000000000 → (0 < i → x = nI (amF (lzE σ g (ltS2 (zE σ) k) m) i) ∧ PF (zE σ) 2 g (ltS2 (zE σ) k) * le = lzE σ g (ltS2 (zE σ) k) m (amF (lzE σ g (ltS2 (zE σ) k) m) i)) → (i = 0 → x = 0) → le ≤ 1000000000000000 → ∃ w', f_X8_laziest_9 n (nI g) (nI k) (nI m) x (lN le) (nI i) w = some (nI (amF (lzE σ g (ltS2 (zE σ) k) m) 9), w') ∧ CQ w' σ := by
  intro d
  induction d with
  | zero =>
    intro i n w x le hi hn C hk hA hx hx0 hle
    obtain ⟨n, rfl⟩ : ∃ m9, n = m9 + 1 := ⟨n - 1, by omega⟩
    have : i = 9 := by omega
    subst this
    obtain ⟨rfl, _⟩ := hx (by omega)
    refine ⟨w, ?_, C⟩
    rw [f_X8_laziest_9, show (8 : Int32) = nI 8 from rfl, if_pos ((lt_nI (by omega) (by omega)).mpr (by omega))]
  | succ d ih =>
    intro i n w x le hi hn C hk hA hx hx0 hle
    obtain ⟨n, rfl⟩ : ∃ m9, n = m9 + 1 := ⟨n - 1, by omega⟩
    have hs := C.1
    have hL := hs.2.1
    obtain ⟨w1, a1, a2, C1⟩ := ofL8 C hg1 hg (show i ≤ 8 by omega)
    obtain ⟨w2, up, al, b1, b2, b3, b4, b5, b6⟩ := countQ C1 (i := 6 + (g - 1) * 9 + i) (asked := 4) (x := m) (y := 0) (by omega) hg1 hg hk a2 hA (by omega) (by omega) (by omega) (by omega)
    have C2 : CQ w2 σ := C1.kc (KC.oL b6) (C1.2.2.oL hs b6)
    have hal := al_le hs hg1 hg hA b4
    have hup := up_le1 hs hg1 hg (by omega) b4 b5
    have b1' : f_X0_count (74 + (6 + (g - 1) * 9 + i)) (nI k) 4 (nI m) 0 w1 = some ((), w2) := b1
    have hpf := PF_pos (η := zE σ) (r := 2) hg1 (ltS2 (zE σ) k)
    have b5' : PF (zE σ) 2 g (ltS2 (zE σ) k) * up = lzE σ g (ltS2 (zE σ) k) m i := b5
    have e : f_X8_laziest_9 (n + 1) (nI g) (nI k) (nI m) x (lN le) (nI i) w = if nI i = 0 then f_X8_laziest_52 (f_X8_laziest_9 n) (nI g) (nI k) (nI m) (nI i) w2 else if lN le ≤ gL w2 72 9 then f_X8_laziest_65 (f_X8_laziest_9 n) (nI g) (nI k) (nI m) x (lN le) (nI i) w2 else f_X8_laziest_52 (f_X8_laziest_9 n) (nI g) (nI k) (nI m) (nI i) w2 := by
      rw [f_X8_laziest_9, show (8 : Int32) = nI 8 from rfl, if_neg (fun q9 => absurd ((lt_nI (by omega) (by omega)).mp q9) (by omega)), a1, bind_some']
      dsimp only
      rw [b1', bind_some']
    have tk : (i = 0 ∨ lzE σ g (ltS2 (zE σ) k) m i < lzE σ g (ltS2 (zE σ) k) m (amF (lzE σ g (ltS2 (zE σ) k) m) i)) → ∃ w', f_X8_laziest_52 (f_X8_laziest_9 n) (nI g) (nI k) (nI m) (nI i) w2 = some (nI (amF (lzE σ g (ltS2 (zE σ) k) m) 9), w') ∧ CQ w' σ := by
      intro h
      rw [f_X8_laziest_52, f_X8_laziest_65, b2, nI_1]
      refine ih (i + 1) n w2 _ up (by omega) (by omega) C2 hk hA (fun _ => ?_) (fun z => by omega) (by omega)
      rw [amF, if_pos h]
      exact ⟨rfl, b5'⟩
    rw [e]
    by_cases h0 : i = 0
    · rw [if_pos ((eq0 (by omega)).mpr h0)]
      exact tk (Or.inl h0)
    · obtain ⟨hx1, hx2⟩ := hx (by omega)
      rw [if_neg (fun z => h0 ((eq0 (by omega)).mp z)), b2]
      by_cases z : le ≤ up
      · rw [if_pos ((lle (by omega) (by omega)).mpr z), f_X8_laziest_65, nI_1]
        refine ih (i + 1) n w2 x le (by omega) (by omega) C2 hk hA (fun _ => ?_) (fun z => by omega) hle
        have hn : ¬ (i = 0 ∨ lzE σ g (ltS2 (zE σ) k) m i < lzE σ g (ltS2 (zE σ) k) m (amF (lzE σ g (ltS2 (zE σ) k) m) i)) := by
          rintro (y | y)
          · exact h0 y
          · rw [← b5', ← hx2] at y
            exact absurd (Nat.lt_of_mul_lt_mul_left y) (by omega)
        rw [amF, if_neg hn]
        exact ⟨hx1, hx2⟩
      · rw [if_neg (fun y => z ((lle (by omega) (by omega)).mp y))]
        refine tk (Or.inr ?_)
        rw [← b5', ← hx2]
        exact Nat.mul_lt_mul_of_pos_left (by omega) hpf
theorem fb9 (hs : HSok σ) {g k m : Nat} (hg1 : 1 ≤ g) (hg : g ≤ 3) (hm : m ≤ 9) (hk : k ≤ 8) (hA : alS (zE σ) 2 g k ≤ 1000000000000000) : ∀ d i n (w : GW) (x : Int32), i + d = 9 → d < n → MHl w σ → (0 < i → x = nI (amF (lzE σ g k m) i) ∧ gL w 130 34 = lN (lzE σ g k m (amF (lzE σ g k m) i)) ∧ gL w 130 30 = lN (alS (zE σ) 2 g k)) → (i = 0 → x = -1) → ∃ w', f_X9_findBest_6 n (nI g) (nI k) (nI m) x (nI i) w = some (nI (amF (lzE σ g k m) 9), w') ∧ gL w' 130 34 = lN (lzE σ g k m (amF (lzE σ g k m) 9)) ∧ gL w' 130 30 = lN (alS (zE σ) 2 g k) ∧ gI w' 130 11 = gI w 130 11 := by
  intro d
  induction d with
  | zero =>
    intro i n w x hi hn M hx hx0
    obtain ⟨n, rfl⟩ : ∃ m9, n = m9 + 1 := ⟨n - 1, by omega⟩
    have : i = 9 := by omega
    subst this
    obtain ⟨rfl, h2, h3⟩ := hx (by omega)
    refine ⟨w, ?_, h2, h3, rfl⟩
    rw [f_X9_findBest_6, show (8 : Int32) = nI 8 from rfl, if_pos ((lt_nI (by omega) (by omega)).mpr (by omega))]
  | succ d ih =>
    intro i n w x hi hn M hx hx0
    obtain ⟨n, rfl⟩ : ∃ m9, n = m9 + 1 := ⟨n - 1, by omega⟩
    obtain ⟨w1, a1, T⟩ := (laysQ (w := w) (r := 2) (h := i) (y := nI i) hs M hg1 hg (by omega) (by omega) (fun _ => rfl) hk).1 hA
    have S1 := fr_X9_lays _ _ _ _ _ _ a1
    have M1 : MHl w1 σ := M.km (KM.sm S1 (by decide) rfl)
    obtain ⟨w2, b1⟩ := ways9 hs M1 (m := m) hg1 hk (by omega) T
    have S2 := fr_X9_waysOfFullest _ _ b1
    have M2 : MHl w2 σ := M1.km (KM.sm S2 (by decide) rfl)
    have a1' : f_X9_lays 2 (nI i) (nI g) (nI k) 1 w = some (1, w1) := a1
    have hle := ELw_le (h := i) (k := k) (m := m) (r := 2) hs hg1 hg
    have hA2 : gL w2 130 30 = lN (alS (zE σ) 2 g k) := by
      rw [S2.L 130 30 rfl]
      obtain ⟨_, _, _, _, _, _, y⟩ := T
      exact y
    have htr : gI w2 130 11 = gI w 130 11 := by rw [S2.I 130 11 rfl, S1.I 130 11 rfl]
    have e : f_X9_findBest_6 (n + 1) (nI g) (nI k) (nI m) x (nI i) w = if x < 0 then f_X9_findBest_53 (f_X9_findBest_6 n) (nI g) (nI k) (nI m) (nI i) (lN (lzE σ g k m i)) w2 else if lN (lzE σ g k m i) < gL w2 130 34 then f_X9_findBest_53 (f_X9_findBest_6 n) (nI g) (nI k) (nI m) (nI i) (lN (lzE σ g k m i)) w2 else f_X9_findBest_63 (f_X9_findBest_6 n) (nI g) (nI k) (nI m) x (nI i) w2 := by
      rw [f_X9_findBest_6, show (8 : Int32) = nI 8 from rfl, if_neg (fun q9 => absurd ((lt_nI (by omega) (by omega)).mp q9) (by omega)), a1', bind_some', if_neg one_ne, b1, bind_some']
      rfl
    have tk : (i = 0 ∨ lzE σ g k m i < lzE σ g k m (amF (lzE σ g k m) i)) → ∃ w', f_X9_findBest_53 (f_X9_findBest_6 n) (nI g) (nI k) (nI m) (nI i) (lN (lzE σ g k m i)) w2 = some (nI (amF (lzE σ g k m) 9), w') ∧ gL w' 130 34 = lN (lzE σ g k m (amF (lzE σ g k m) 9)) ∧ gL w' 130 30 = lN (alS (zE σ) 2 g k) ∧ gI w' 130 11 = gI w 130 11 := by
      intro h
      rw [f_X9_findBest_53, f_X9_findBest_63, nI_1, ← htr]
      refine ih (i + 1) n (sL w2 130 34 (lN (lzE σ g k m i))) _ (by omega) (by omega) (M2.of rfl (fun _ => rfl)) (fun _ => ?_) (fun z => by omega)
      rw [amF, if_pos h]
      exact ⟨rfl, gL_same _ _ _ _, hA2⟩
    rw [e]
    by_cases h0 : i = 0
    · rw [hx0 h0, if_pos neg1_lt0]
      exact tk (Or.inl h0)
    · obtain ⟨hx1, hx2, hx3⟩ := hx (by omega)
      have hlt := amF_lt (lzE σ g k m) i (by omega)
      have hle2 := ELw_le (h := amF (lzE σ g k m) i) (k := k) (m := m) (r := 2) hs hg1 hg
      have h34 : gL w2 130 34 = lN (lzE σ g k m (amF (lzE σ g k m) i)) := by rw [S2.L 130 34 rfl, S1.L 130 34 rfl, hx2]
      have l1 : lzE σ g k m i < 9223372036854775808 := by have := lzE_le (k := k) (m := m) (h := i) hs hg1 hg; omega
      have l2 : lzE σ g k m (amF (lzE σ g k m) i) < 9223372036854775808 := by have := lzE_le (k := k) (m := m) (h := amF (lzE σ g k m) i) hs hg1 hg; omega
      rw [hx1, if_neg (lt0_nI (by omega)), h34]
      by_cases z : lzE σ g k m i < lzE σ g k m (amF (lzE σ g k m) i)
      · rw [if_pos ((llt l1 l2).mpr z)]
        exact tk (Or.inr z)
      · rw [if_neg (fun y => z ((llt l1 l2).mp y)), f_X9_findBest_63, nI_1, ← htr]
        refine ih (i + 1) n w2 _ (by omega) (by omega) M2 (fun _ => ?_) (fun z => by omega)
        have hn : ¬ (i = 0 ∨ lzE σ g k m i < lzE σ g k m (amF (lzE σ g k m) i)) := by
          rintro (y | y)
          · exact h0 y
          · exact z y
        rw [amF, if_neg hn]
        exact ⟨rfl, h34, hA2⟩
theorem ibr86 {t : Int32} {w : GW} : f_X8_isBestRefused_86 t w = some (if t = 0 then 0 else 1, sI w 0 12 t) := by
  rw [f_X8_isBestRefused_86, gI_same]
  by_cases z : t = 0
  · rw [if_pos z, if_pos z]
  · rw [if_neg z, if_neg z]
/-- the trial porter, as it is tried -/
def trW (w : GW) (x : Int32) : GW := sI (sI (sI w 116 0 x) 116 1 2) 116 2 0
theorem ibr30_0 (C : CQ w σ) {x1 x2 : Int32} : f_X8_isBestRefused_30 x1 x2 0 w = some (1, sI (trW w x1) 0 12 2) := by
  have C2 : CQ (trW w x1) σ := C.tb
  rw [f_X8_isBestRefused_30, tbec, bind_some']
  show (if gI (trW w x1) (fxH (gR (trW w x1) 0)) 0 = 0 then f_X8_isBestRefused_86 1 (trW w x1) else if (0 : Int32) = 0 then f_X8_isBestRefused_86 2 (trW w x1) else _) = _
  rw [C2.2.1.1, if_neg one_ne, if_pos rfl, ibr86]; rfl
theorem ibr_t (C : CQ w σ) {g k m : Nat} (hg1 : 1 ≤ g) (hg : g ≤ 3) (hk : k ≤ zL σ) (hm : m ≤ 9) : f_X8_isBestRefused (nI g) (nI k) (nI m) w = if alS (zE σ) 2 g k ≤ 1000000000000000 then some (0, sI (trW w (nI g)) 0 12 0) else some (1, sI (trW w (nI g)) 0 12 3) := by
  have hL := C.1.2.1
  have C2 : CQ (trW w (nI g)) σ := C.tb
  have hP : PCl (trW w (nI g)) 116 2 0 g := PCl_tb (fun _ => rfl)
  rw [f_X8_isBestRefused, show (1 : Int32) = nI 1 from rfl, if_neg (fun q9 => absurd ((lt_nI (by omega) (by omega)).mp q9) (by omega)), show (3 : Int32) = nI 3 from rfl, if_neg (fun q9 => absurd ((lt_nI (by omega) (by omega)).mp q9) (by omega)), isC8_t C hk, bind_some', if_neg one_ne, isF8_t hm, bind_some', if_neg one_ne]
  show f_X8_isBestRefused_30 (nI g) (nI k) 1 w = _
  rw [f_X8_isBestRefused_30, tbec, bind_some']
  show (if gI (trW w (nI g)) (fxH (gR (trW w (nI g)) 0)) 0 = 0 then f_X8_isBestRefused_86 1 (trW w (nI g)) else if (1 : Int32) = 0 then f_X8_isBestRefused_86 2 (trW w (nI g)) else (f_X3_tooMany (fxH (gR (trW w (nI g)) 0)) 116 (nI k) (trW w (nI g))).bind fun q6 => if q6.1 = 0 then f_X8_isBestRefused_86 0 q6.2 else f_X8_isBestRefused_86 3 q6.2) = _
  rw [C2.2.1.1, if_neg one_ne, if_neg one_ne, tooMany C.1.1 hg1 hg (by omega) C2.2.1.2.1 hP (by omega), bind_some']
  by_cases z : alS (zE σ) 2 g k ≤ 1000000000000000
  · rw [if_pos z, if_pos z, if_pos rfl, ibr86]; rfl
  · rw [if_neg z, if_neg z, if_neg one_ne, ibr86]; rfl
theorem ibr_f (C : CQ w σ) {x1 x2 x3 : Int32} (h : ¬ rg x1 1 3 ∨ ¬ rg x2 0 (zL σ) ∨ ¬ rg x3 0 9) : f_X8_isBestRefused x1 x2 x3 w = some (1, sI (trW w x1) 0 12 2) := by
  rw [f_X8_isBestRefused]
  by_cases z1 : x1 < 1
  · rw [if_pos z1]; exact ibr30_0 C
  · rw [if_neg z1]
    by_cases z2 : 3 < x1
    · rw [if_pos z2]; exact ibr30_0 C
    · rw [if_neg z2]
      rcases rg_em x2 0 (zL σ) with ⟨k, _, hk, rfl⟩ | h2
      · rw [isC8_t C hk, bind_some', if_neg one_ne]
        dsimp only
        rcases rg_em x3 0 9 with ⟨m, _, hm, rfl⟩ | h3
        · exfalso
          rcases h with h | h | h
          · rcases rg_no (by omega) (by omega) h with q | q
            · exact z1 q
            · exact z2 q
          · exact h ⟨k, by omega, hk, rfl⟩
          · exact h ⟨m, by omega, hm, rfl⟩
        · rw [isF8_f h3, bind_some', if_pos rfl]; exact ibr30_0 C
      · rw [isC8_f C h2, bind_some', if_pos rfl]; exact ibr30_0 C
theorem bw_t (hs : HSok σ) (M : MHl w σ) {g k m : Nat} (hg1 : 1 ≤ g) (hg : g ≤ 3) (hk : k ≤ zL σ) (hm : m ≤ 9) : f_X9_bestWhy (nI g) (nI k) (nI m) w = some (0, w) := by
  have := hs.2.1
  rw [f_X9_bestWhy, M.1, if_neg one_ne, if_pos (show inb _ _ from by decide), show ix (1 : Int32) = 1 from by decide, M.2.2.1, w9t (lo := 0) (hi := zL σ) (by omega) hk (by rfl) (by rfl) (by omega), bind_some', if_neg one_ne, w9t (lo := 0) (hi := 9) (by omega) hm (by rfl) (by rfl) (by omega), bind_some', if_neg one_ne, w9t (lo := 1) (hi := 3) hg1 hg (by rfl) (by rfl) (by omega), bind_some', if_neg one_ne]
theorem bw_f (hs : HSok σ) (M : MHl w σ) {x1 x2 x3 : Int32} (h : ¬ rg x1 1 3 ∨ ¬ rg x2 0 (zL σ) ∨ ¬ rg x3 0 9) : f_X9_bestWhy x1 x2 x3 w = some (2, w) := by
  have := hs.2.1
  rw [f_X9_bestWhy, M.1, if_neg one_ne, if_pos (show inb _ _ from by decide), show ix (1 : Int32) = 1 from by decide, M.2.2.1]
  rcases rg_em x2 0 (zL σ) with ⟨k, _, hk, rfl⟩ | h2
  · rw [w9t (lo := 0) (hi := zL σ) (by omega) hk (by rfl) (by rfl) (by omega), bind_some', if_neg one_ne]
    rcases rg_em x3 0 9 with ⟨m, _, hm, rfl⟩ | h3
    · rw [w9t (lo := 0) (hi := 9) (by omega) hm (by rfl) (by rfl) (by omega), bind_some', if_neg one_ne]
      have h1 : ¬ rg x1 1 3 := by
        rcases h with h | h | h
        · exact h
        · exact absurd ⟨k, by omega, hk, rfl⟩ h
        · exact absurd ⟨m, by omega, hm, rfl⟩ h
      rw [w9f h1 (by rfl) (by rfl) (by omega) (by omega), bind_some', if_pos rfl]
    · rw [w9f h3 (by rfl) (by rfl) (by omega) (by omega), bind_some', if_pos rfl]
  · rw [w9f h2 (by rfl) (by rfl) (by omega) (by omega), bind_some', if_pos rfl]
theorem CQ.tr (C : CQ w σ) (x t : Int32) : CQ (sI (trW w x) 0 12 t) σ := CQ.st (show CQ (trW w x) σ from C.tb) t
theorem findBest9_f (hs : HSok σ) (M : MHl w σ) {g k m : Nat} (hg1 : 1 ≤ g) (hg : g ≤ 3) (hk : k ≤ 8) (hA : ¬ alS (zE σ) 2 g k ≤ 1000000000000000) : ∃ w', f_X9_findBest (nI g) (nI k) (nI m) w = some (-1, w') := by
  obtain ⟨w1, a1⟩ := (laysQ (w := w) (r := 2) (h := 0) (y := 0) hs M hg1 hg (by omega) (by omega) (fun _ => rfl) hk).2 hA
  have a1' : f_X9_lays 2 0 (nI g) (nI k) 1 w = some (0, w1) := a1
  obtain ⟨f, hf⟩ : ∃ f, fu = f + 1 := ⟨fu - 1, by rw [fu_eq]⟩
  refine ⟨w1, ?_⟩
  rw [f_X9_findBest, hf, f_X9_findBest_6, if_neg (show ¬ (8 : Int32) < 0 from by decide), a1', bind_some', if_pos rfl]
theorem q_best (C : CQ w σ) (M : MHl w σ) (x1 x2 x3 : Int32) : QAg w σ (f_X8_best x1 x2 x3) (f_X9_best x1 x2 x3) := by
  have hs := C.1
  have hL := hs.2.1
  have K : ∀ z, f_X8_best x1 x2 x3 w = some z → KC w z.2 := fun z hz => KC.sm (fr_X8_best _ _ _ _ hz) (by decide) (by decide)
  by_cases hbad : ¬ rg x1 1 3 ∨ ¬ rg x2 0 (zL σ) ∨ ¬ rg x3 0 9
  · refine QAg.mk M (-1) 2 ⟨_, ?_, (C.tr x1 2).2.2, gI_same _ _ _ _⟩ K (fun w1 M1 => ?_)
    · rw [f_X8_best, ibr_f C hbad, bind_some', if_neg one_ne]
    · refine rf9 (w0 := gd9 w1) ?_
      rw [f_X9_best, good9, bind_some', bw_f hs M1.gd hbad, bind_some', if_neg two_ne]; rfl
  have h1 : rg x1 1 3 := Classical.byContradiction fun z => hbad (Or.inl z)
  have h2 : rg x2 0 (zL σ) := Classical.byContradiction fun z => hbad (Or.inr (Or.inl z))
  have h3 : rg x3 0 9 := Classical.byContradiction fun z => hbad (Or.inr (Or.inr z))
  obtain ⟨g, hg1, hg, rfl⟩ := h1
  obtain ⟨k, _, hk, rfl⟩ := h2
  obtain ⟨m, _, hm, rfl⟩ := h3
  by_cases hA : alS (zE σ) 2 g k ≤ 1000000000000000
  rotate_left
  · refine QAg.mk M (-1) 3 ⟨_, ?_, (C.tr (nI g) 3).2.2, gI_same _ _ _ _⟩ K (fun w1 M1 => ?_)
    · rw [f_X8_best, ibr_t C hg1 hg hk hm, if_neg hA, bind_some', if_neg one_ne]
    · obtain ⟨w2, b⟩ := findBest9_f (m := m) hs M1.gd hg1 hg (show k ≤ 8 by omega) hA
      refine rf9 (w0 := w2) ?_
      rw [f_X9_best, good9, bind_some', bw_t hs M1.gd hg1 hg hk hm, bind_some', if_pos rfl, b, bind_some', if_neg (show ¬ (0 : Int32) ≤ -1 from by decide)]; rfl
  obtain ⟨w1, a1, C1⟩ := lz8 (m := m) hg1 hg hm 9 0 fu _ 0 0 (by omega) (fu_gt (by omega)) (C.tr (nI g) 0) hk hA (fun z => by omega) (fun _ => rfl) (by omega)
  have ham := amF_c (lzE_c (m := m) hs hg1 hg (show k ≤ 8 by omega)) 9
  have hlt := amF_lt (lzE σ g k m) 9 (by omega)
  refine QAg.mk M (nI (amF (lzE σ g k m) 9)) 0 ⟨sI w1 0 12 0, ?_, C1.2.2.tr hs, gI_same _ _ _ _⟩ K (fun w2 M2 => ?_)
  · have a1' : f_X8_laziest (nI g) (nI k) (nI m) (sI (trW w (nI g)) 0 12 0) = some (nI (amF (lzE σ g (ltS2 (zE σ) k) m) 9), w1) := a1
    rw [f_X8_best, ibr_t C hg1 hg hk hm, if_pos hA, bind_some', if_pos rfl, a1', bind_some', ham]; rfl
  · obtain ⟨w3, b1, b2, b3, b4⟩ := fb9 (m := m) hs hg1 hg hm (show k ≤ 8 by omega) hA 9 0 fu (gd9 w2) (-1) (by omega) (fu_gt (by omega)) M2.gd (fun z => by omega) (fun _ => rfl)
    have b1' : f_X9_findBest (nI g) (nI k) (nI m) (gd9 w2) = some (nI (amF (lzE σ g k m) 9), w3) := b1
    refine ⟨w3, ?_, by rw [b4]; exact gd9_t⟩
    rw [f_X9_best, good9, bind_some', bw_t hs M2.gd hg1 hg hk hm, bind_some', if_pos rfl, b1', bind_some', if_pos (show (0 : Int32) ≤ nI _ from (le_nI (a := 0) (by omega) (by omega)).mpr (by omega))]
theorem q_bestChance (C : CQ w σ) (M : MHl w σ) (x1 x2 x3 : Int32) {lo : Nat} (hlo : lo = 0 ∨ lo = 1) : QAg w σ (f_X8_bestChance x1 x2 x3 (nI lo)) (f_X9_bestChance x1 x2 x3 (nI lo)) := by
  have hs := C.1
  have hL := hs.2.1
  have K : ∀ z, f_X8_bestChance x1 x2 x3 (nI lo) w = some z → KC w z.2 := fun z hz => KC.sm (fr_X8_bestChance _ _ _ _ _ hz) (by decide) (by decide)
  by_cases hbad : ¬ rg x1 1 3 ∨ ¬ rg x2 0 (zL σ) ∨ ¬ rg x3 0 9
  · refine QAg.mk M (-1) 2 ⟨_, ?_, (C.tr x1 2).2.2, gI_same _ _ _ _⟩ K (fun w1 M1 => ?_)
    · rw [f_X8_bestChance, ibr_f C hbad, bind_some', if_neg one_ne]
    · refine rf9 (w0 := gd9 w1) ?_
      rw [f_X9_bestChance, good9, bind_some', bw_f hs M1.gd hbad, bind_some', if_neg two_ne]; rfl
  have h1 : rg x1 1 3 := Classical.byContradiction fun z => hbad (Or.inl z)
  have h2 : rg x2 0 (zL σ) := Classical.byContradiction fun z => hbad (Or.inr (Or.inl z))
  have h3 : rg x3 0 9 := Classical.byContradiction fun z => hbad (Or.inr (Or.inr z))
  obtain ⟨g, hg1, hg, rfl⟩ := h1
  obtain ⟨k, _, hk, rfl⟩ := h2
  obtain ⟨m, _, hm, rfl⟩ := h3
  by_cases hA : alS (zE σ) 2 g k ≤ 1000000000000000
  rotate_left
  · refine QAg.mk M (-1) 3 ⟨_, ?_, (C.tr (nI g) 3).2.2, gI_same _ _ _ _⟩ K (fun w1 M1 => ?_)
    · rw [f_X8_bestChance, ibr_t C hg1 hg hk hm, if_neg hA, bind_some', if_neg one_ne]
    · obtain ⟨w2, b⟩ := findBest9_f (m := m) hs M1.gd hg1 hg (show k ≤ 8 by omega) hA
      refine rf9 (w0 := w2) ?_
      rw [f_X9_bestChance, good9, bind_some', bw_t hs M1.gd hg1 hg hk hm, bind_some', if_pos rfl, b, bind_some', if_neg (show ¬ (0 : Int32) ≤ -1 from by decide)]; rfl
  obtain ⟨w1, a1, C1⟩ := lz8 (m := m) hg1 hg hm 9 0 fu _ 0 0 (by omega) (fu_gt (by omega)) (C.tr (nI g) 0) hk hA (fun z => by omega) (fun _ => rfl) (by omega)
  have ham := amF_c (lzE_c (m := m) hs hg1 hg (show k ≤ 8 by omega)) 9
  have hlt := amF_lt (lzE σ g k m) 9 (by omega)
  rw [ham] at a1
  obtain ⟨w2, c1, c2, C2⟩ := ofL8 C1 hg1 hg (show amF (lzE σ g k m) 9 ≤ 8 by omega)
  obtain ⟨w3, up, al, d1, d2, d3, d4, d5, d6⟩ := countQ C2 (i := 6 + (g - 1) * 9 + amF (lzE σ g k m) 9) (asked := 4) (x := m) (y := 0) (by omega) hg1 hg hk c2 hA (by omega) (by omega) (by omega) (by omega)
  have hal := al_le hs hg1 hg hA d4
  have hup := up_le1 hs hg1 hg (by omega) d4 d5
  obtain ⟨f1, f2, f3⟩ := frac_eq (lo := lo) hs.1 hg1 hg (show k ≤ 8 by omega) (G := fun u => wo (zE σ) 4 m 0 u) d4 d5
  refine QAg.mk M (lN (low (lzE σ g k m (amF (lzE σ g k m) 9)) (alS (zE σ) 2 g k) lo)) 0 ⟨sI w3 0 12 0, ?_, (C2.2.2.oL hs d6).tr hs, gI_same _ _ _ _⟩ K (fun w4 M4 => ?_)
  · have a1' : f_X8_laziest (nI g) (nI k) (nI m) (sI (trW w (nI g)) 0 12 0) = some (nI (amF (lzE σ g k m) 9), w1) := a1
    have d1' : f_X0_count (74 + (6 + (g - 1) * 9 + amF (lzE σ g k m) 9)) (nI k) 4 (nI m) 0 w2 = some ((), w3) := d1
    rw [f_X8_bestChance, ibr_t C hg1 hg hk hm, if_pos hA, bind_some', if_pos rfl, a1', bind_some']
    dsimp only
    rw [c1, bind_some']
    dsimp only
    rw [d1', bind_some']
    dsimp only
    rw [d2, d3, told (by omega) (by omega) f1 hlo, bind_some', ← f3]
    rfl
  · obtain ⟨w5, b1, b2, b3, b4⟩ := fb9 (m := m) hs hg1 hg hm (show k ≤ 8 by omega) hA 9 0 fu (gd9 w4) (-1) (by omega) (fu_gt (by omega)) M4.gd (fun z => by omega) (fun _ => rfl)
    have b1' : f_X9_findBest (nI g) (nI k) (nI m) (gd9 w4) = some (nI (amF (lzE σ g k m) 9), w5) := b1
    have hle2 := ELw_le (h := amF (lzE σ g k m) 9) (k := k) (m := m) (r := 2) hs hg1 hg
    have l2 : lzE σ g k m (amF (lzE σ g k m) 9) < 9223372036854775808 := by have := lzE_le (k := k) (m := m) (h := amF (lzE σ g k m) 9) hs hg1 hg; omega
    refine ⟨w5, ?_, by rw [b4]; exact gd9_t⟩
    rw [f_X9_bestChance, good9, bind_some', bw_t hs M4.gd hg1 hg hk hm, bind_some', if_pos rfl, b1', bind_some', if_pos (show (0 : Int32) ≤ nI _ from (le_nI (a := 0) (by omega) (by omega)).mpr (by omega))]
    dsimp only
    rw [b2, b3, lowest l2 (by omega) (alS_p hs hg1 hg k) hlo]
    rfl
end NV
