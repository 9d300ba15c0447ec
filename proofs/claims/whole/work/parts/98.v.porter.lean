/-! the porter's line -/
section PO
variable {tp : Nat → Nat} {n : Nat}
theorem nvS_b {a : Nat} : ∀ m, (∀ j, j < m → isLe (tp (a + j)) = true) → nvS tp a m < 27 ^ m := by
  intro m
  induction m with
  | zero => intro _; exact Nat.one_pos
  | succ m ih =>
    intro h
    have h1 := ih (fun j hj => h j (by omega))
    have h2 := h m (by omega)
    simp only [isLe, decide_eq_true_eq] at h2
    show nvS tp a m * 27 + tp (a + m) - 97 + 1 < 27 ^ (m + 1)
    rw [Nat.pow_succ]
    omega
theorem nmH_b {φ : Nat → Int32} {p : Nat} : ∀ m, (∀ j, j < m → ∃ c, isLe c = true ∧ φ (87 + 8 * p + j) = nI c) → nmH φ p m < 27 ^ m := by
  intro m
  induction m with
  | zero => intro _; exact Nat.one_pos
  | succ m ih =>
    intro h
    have h1 := ih (fun j hj => h j (by omega))
    obtain ⟨c, h2, h3⟩ := h m (by omega)
    simp only [isLe, decide_eq_true_eq] at h2
    show nmH φ p m * 27 + ix (φ (87 + 8 * p + m)) - 97 + 1 < 27 ^ (m + 1)
    rw [Nat.pow_succ, h3, ix_nI (by omega)]
    omega
theorem nm_inj {φ : Nat → Int32} {p a : Nat} : ∀ s m, (∀ j, j < s → ∃ c, isLe c = true ∧ φ (87 + 8 * p + j) = nI c) → (∀ j, j < m → isLe (tp (a + j)) = true) → (nmH φ p s = nvS tp a m ↔ s = m ∧ ∀ j, j < s → φ (87 + 8 * p + j) = nI (tp (a + j))) := by
  intro s
  induction s with
  | zero =>
    intro m h1 h2
    cases m with
    | zero => exact ⟨fun _ => ⟨rfl, fun j hj => absurd hj (by omega)⟩, fun _ => rfl⟩
    | succ m =>
      constructor
      · intro e
        have e' : 0 = nvS tp a m * 27 + tp (a + m) - 97 + 1 := e
        omega
      · intro e
        omega
  | succ s ih =>
    intro m h1 h2
    obtain ⟨c, h3, h4⟩ := h1 s (by omega)
    simp only [isLe, decide_eq_true_eq] at h3
    have eS : nmH φ p (s + 1) = nmH φ p s * 27 + c - 97 + 1 := by
      show nmH φ p s * 27 + ix (φ (87 + 8 * p + s)) - 97 + 1 = _
      rw [h4, ix_nI (by omega)]
    rw [eS]
    cases m with
    | zero =>
      constructor
      · intro e
        have e' : nmH φ p s * 27 + c - 97 + 1 = 0 := e
        omega
      · intro e
        omega
    | succ m =>
      have h5 := h2 m (by omega)
      simp only [isLe, decide_eq_true_eq] at h5
      have I := ih m (fun j hj => h1 j (by omega)) (fun j hj => h2 j (by omega))
      show nmH φ p s * 27 + c - 97 + 1 = nvS tp a m * 27 + tp (a + m) - 97 + 1 ↔ _
      constructor
      · intro e
        have e1 : nmH φ p s = nvS tp a m := by omega
        have e2 : c = tp (a + m) := by omega
        obtain ⟨i1, i2⟩ := I.mp e1
        refine ⟨by omega, fun j hj => ?_⟩
        by_cases z : j = s
        · rw [z, h4, e2, i1]
        · exact i2 j (by omega)
      · rintro ⟨e1, e2⟩
        have e3 : s = m := by omega
        have e4 := I.mpr ⟨e3, fun j hj => e2 j (by omega)⟩
        have e5 := e2 s (by omega)
        rw [h4] at e5
        have e6 := (eq_nI (by omega) (by rw [e3]; omega)).mp e5
        rw [e3] at e6
        omega
/-- words that begin a line -/
def brd (tp : Nat → Nat) (n q : Nat) : Prop := tS tp n 0 q ∨ tS tp n 3 q ∨ tS tp n 6 q ∨ tS tp n 7 q ∨ tS tp n 8 q ∨ tS tp n 9 q
theorem tK_5 (p : Nat) : tK tp n p ≤ 5 := by
  unfold tK
  repeat' split
  all_goals omega
theorem is87_1 {w : GW} : f_X6_isName_87 1 w = some (0, w) := by
  rw [f_X6_isName_87, if_neg one_ne]
  by_cases z : gI w 1 5 = 1
  · rw [if_pos z]
  · rw [if_neg z]
theorem isName8_t (hn : n ≤ 900) {w : GW} {q : Nat} (hq : q ≤ n) (C : CT w tp n q) (h1 : tK tp n q = 1) (h2 : ¬ brd tp n q) : f_X6_isName w = some (1, w) := by
  have s : ∀ u, u = 0 ∨ u = 3 ∨ u = 6 ∨ u = 7 ∨ u = 8 ∨ u = 9 → f_X7_says u w = some (0, w) := fun u hu => says_f hn (by omega) hq C (fun z => h2 (by
    unfold brd
    rcases hu with rfl | rfl | rfl | rfl | rfl | rfl
    · exact Or.inl z
    · exact Or.inr (Or.inl z)
    · exact Or.inr (Or.inr (Or.inl z))
    · exact Or.inr (Or.inr (Or.inr (Or.inl z)))
    · exact Or.inr (Or.inr (Or.inr (Or.inr (Or.inl z))))
    · exact Or.inr (Or.inr (Or.inr (Or.inr (Or.inr z))))))
  rw [f_X6_isName, s 0 (by omega), bind_some', if_pos rfl]
  dsimp only
  rw [s 3 (by omega), bind_some', if_pos rfl]
  dsimp only
  rw [s 6 (by omega), bind_some', if_pos rfl]
  dsimp only
  rw [f_X6_isName_41, if_pos rfl, s 7 (by omega), bind_some', if_pos rfl]
  dsimp only
  rw [s 8 (by omega), bind_some', if_pos rfl]
  dsimp only
  rw [s 9 (by omega), bind_some', if_pos rfl]
  dsimp only
  rw [f_X6_isName_87, C.2.2.1, h1, if_pos (show nI 1 = 1 from rfl), if_pos rfl]
theorem isName8_f (hn : n ≤ 900) {w : GW} {q : Nat} (hq : q ≤ n) (C : CT w tp n q) (h : ¬ (tK tp n q = 1 ∧ ¬ brd tp n q)) : f_X6_isName w = some (0, w) := by
  have hk := tK_5 (tp := tp) (n := n) q
  have e41 : f_X6_isName_41 1 w = some (0, w) := by
    rw [f_X6_isName_41, if_neg one_ne, f_X6_isName_82]
    exact is87_1
  have t : ∀ u, u < 34 → tS tp n u q → f_X7_says u w = some (1, w) := fun u hu z => says_t hn hu hq C z
  have f : ∀ u, u < 34 → ¬ tS tp n u q → f_X7_says u w = some (0, w) := fun u hu z => says_f hn hu hq C z
  rw [f_X6_isName]
  rcases tS_em (tp := tp) (n := n) 0 q with z0 | z0
  · rw [t 0 (by omega) z0, bind_some', if_neg one_ne]
    exact e41
  rw [f 0 (by omega) z0, bind_some', if_pos rfl]
  dsimp only
  rcases tS_em (tp := tp) (n := n) 3 q with z3 | z3
  · rw [t 3 (by omega) z3, bind_some', if_neg one_ne]
    exact e41
  rw [f 3 (by omega) z3, bind_some', if_pos rfl]
  dsimp only
  rcases tS_em (tp := tp) (n := n) 6 q with z6 | z6
  · rw [t 6 (by omega) z6, bind_some', if_neg one_ne]
    exact e41
  rw [f 6 (by omega) z6, bind_some', if_pos rfl]
  dsimp only
  rw [f_X6_isName_41, if_pos rfl]
  rcases tS_em (tp := tp) (n := n) 7 q with z7 | z7
  · rw [t 7 (by omega) z7, bind_some', if_neg one_ne]
    exact is87_1
  rw [f 7 (by omega) z7, bind_some', if_pos rfl]
  dsimp only
  rcases tS_em (tp := tp) (n := n) 8 q with z8 | z8
  · rw [t 8 (by omega) z8, bind_some', if_neg one_ne]
    exact is87_1
  rw [f 8 (by omega) z8, bind_some', if_pos rfl]
  dsimp only
  rcases tS_em (tp := tp) (n := n) 9 q with z9 | z9
  · rw [t 9 (by omega) z9, bind_some', if_neg one_ne]
    exact is87_1
  rw [f 9 (by omega) z9, bind_some', if_pos rfl]
  dsimp only
  have hb : ¬ brd tp n q := by
    unfold brd
    rintro (y | y | y | y | y | y)
    · exact z0 y
    · exact z3 y
    · exact z6 y
    · exact z7 y
    · exact z8 y
    · exact z9 y
  have h1 : ¬ tK tp n q = 1 := fun y => h ⟨y, hb⟩
  rw [f_X6_isName_87, C.2.2.1, show (1 : Int32) = nI 1 from rfl, if_neg (fun q9 => absurd ((eq_nI (by omega) (by omega)).mp q9) (by omega))]
/-- a name that was told -/
def smN (tp : Nat → Nat) (n q : Nat) (φ : Nat → Int32) (k : Nat) : Prop := φ (81 + k) = nI (tE tp n q - tA tp n q) ∧ ∀ j, j < tE tp n q - tA tp n q → φ (87 + 8 * k + j) = nI (tp (tA tp n q + j))
theorem smN_iff {q k : Nat} {φ : Nat → Int32} (hq : q ≤ n) (h1 : tK tp n q = 1) (hW : WFp φ k) : nmH φ k (ix (φ (81 + k))) = tN tp n q ↔ smN tp n q φ k := by
  obtain ⟨_, _, s, s8, s1, s2⟩ := hW
  obtain ⟨k1, k2⟩ := tK_1 hq h1
  unfold smN tN
  rw [s1, ix_nI (by omega), nm_inj s _ s2 k2]
  constructor
  · rintro ⟨a, b⟩
    refine ⟨by rw [a], fun j hj => b j (by omega)⟩
  · rintro ⟨a, b⟩
    have := (eq_nI (by omega) (by omega)).mp a
    exact ⟨this, fun j hj => b j (by omega)⟩
theorem smN_eq {q k : Nat} {w : GW} {H : Nat} {φ : Nat → Int32} {P : Nat} (hq : q ≤ n) (h1 : tK tp n q = 1) (hP : P ≤ 6) (h17 : φ 17 = nI P) (hk : k < P) (hW : WFp φ k) (D : DC w H φ) : gL w (H + 11) k = lN (tN tp n q) ↔ smN tp n q φ k := by
  rw [← smN_iff hq h1 hW, (D.2.2.1 k (by rw [h17, ix_nI (by omega)]; exact hk) (by omega)).2.2.2]
  obtain ⟨_, _, s, s8, s1, s2⟩ := hW
  obtain ⟨k1, k2⟩ := tK_1 hq h1
  have b1 := nmH_b (φ := φ) (p := k) s s2
  have b2 := nvS_b (tp := tp) (a := tA tp n q) (tE tp n q - tA tp n q) k2
  have p1 : 27 ^ s ≤ 27 ^ 8 := Nat.pow_le_pow_right (by omega) s8
  have p2 : 27 ^ (tE tp n q - tA tp n q) ≤ 27 ^ 8 := Nat.pow_le_pow_right (by omega) k1
  have p3 : (27 : Nat) ^ 8 < 2 ^ 63 := by decide
  refine fb_lN_inj ?_ ?_
  · rw [s1, ix_nI (by omega)]; omega
  · unfold tN; omega
theorem hasN_f {q : Nat} {w : GW} {H P : Nat} {φ : Nat → Int32} (hq : q ≤ n) (h1 : tK tp n q = 1) (hP : P ≤ 6) (h17 : φ 17 = nI P) (hW : ∀ k, k < P → WFp φ k) (D : DC w H φ) (hs : ∀ k, k < P → ¬ smN tp n q φ k) : f_X3_hasName H (lN (tN tp n q)) w = some (0, w) := by
  have key : ∀ d i m, i + d = P → d < m → f_X3_hasName_2 m H (lN (tN tp n q)) (nI i) w = some (0, w) := by
    intro d
    induction d with
    | zero =>
      intro i m hi hm
      obtain ⟨m, rfl⟩ : ∃ m9, m = m9 + 1 := ⟨m - 1, by omega⟩
      rw [f_X3_hasName_2, D.1.2.2.2.2.2.2.1, h17, if_pos ((le_nI (by omega) (by omega)).mpr (by omega))]
    | succ d ih =>
      intro i m hi hm
      obtain ⟨m, rfl⟩ : ∃ m9, m = m9 + 1 := ⟨m - 1, by omega⟩
      rw [f_X3_hasName_2, D.1.2.2.2.2.2.2.1, h17, if_neg (fun q9 => absurd ((le_nI (by omega) (by omega)).mp q9) (by omega)), if_pos ((inb_nI (by omega)).mpr (by omega)), ix_nI (by omega), if_neg (fun z => hs i (by omega) ((smN_eq hq h1 hP h17 (by omega) (hW i (by omega)) D).mp z)), nI_1]
      exact ih (i + 1) m (by omega) (by omega)
  rw [f_X3_hasName, show (0 : Int32) = nI 0 from rfl]
  exact key P 0 fu (by omega) (fu_gt (by omega))
theorem hasN_t {q : Nat} {w : GW} {H P : Nat} {φ : Nat → Int32} (hq : q ≤ n) (h1 : tK tp n q = 1) (hP : P ≤ 6) (h17 : φ 17 = nI P) (hW : ∀ k, k < P → WFp φ k) (D : DC w H φ) (hs : ∃ k, k < P ∧ smN tp n q φ k) : f_X3_hasName H (lN (tN tp n q)) w = some (1, w) := by
  have key : ∀ d i m, i + d = P → d < m → (∃ k, i ≤ k ∧ k < P ∧ smN tp n q φ k) → f_X3_hasName_2 m H (lN (tN tp n q)) (nI i) w = some (1, w) := by
    intro d
    induction d with
    | zero =>
      rintro i m hi hm ⟨k, k1, k2, _⟩
      omega
    | succ d ih =>
      rintro i m hi hm ⟨k, k1, k2, k3⟩
      obtain ⟨m, rfl⟩ : ∃ m9, m = m9 + 1 := ⟨m - 1, by omega⟩
      rw [f_X3_hasName_2, D.1.2.2.2.2.2.2.1, h17, if_neg (fun q9 => absurd ((le_nI (by omega) (by omega)).mp q9) (by omega)), if_pos ((inb_nI (by omega)).mpr (by omega)), ix_nI (by omega)]
      by_cases z : gL w (H + 11) i = lN (tN tp n q)
      · rw [if_pos z]
      · rw [if_neg z, nI_1]
        refine ih (i + 1) m (by omega) (by omega) ⟨k, ?_, k2, k3⟩
        have : k ≠ i := fun e => z ((smN_eq hq h1 hP h17 (by omega) (hW i (by omega)) D).mpr (by rw [← e]; exact k3))
        omega
  obtain ⟨k, k1, k2⟩ := hs
  rw [f_X3_hasName, show (0 : Int32) = nI 0 from rfl]
  exact key P 0 fu (by omega) (fu_gt (by omega)) ⟨k, by omega, k1, k2⟩
/-- the reference looks for the name -/
theorem nm9 (hn : n ≤ 900) {q P : Nat} {φ : Nat → Int32} (hq : q ≤ n) (h1 : tK tp n q = 1) (hP : P ≤ 6) (hW : ∀ k, k < P → WFp φ k) {w : GW} (X : XM w tp n (.inr q) φ) : ∀ d i m, i + d = P → d < m → ((∀ k, i ≤ k → k < P → ¬ smN tp n q φ k) ∧ f_X9_porterLine_99 m (nI P) (nI i) w = f_X9_porterLine_209 (nI P) w) ∨ (∃ k, i ≤ k ∧ k < P ∧ smN tp n q φ k) ∧ ∃ w', f_X9_porterLine_99 m (nI P) (nI i) w = some ((), w') ∧ XM w' tp n (.inl (3, tA tp n q)) φ := by
  have M := X.2.2.2.2.2
  obtain ⟨m8, m9⟩ := M.2.2.2.2.1 h1
  obtain ⟨k1, k2⟩ := tK_1 hq h1
  intro d
  induction d with
  | zero =>
    intro i m hi hm
    obtain ⟨m, rfl⟩ : ∃ m9, m = m9 + 1 := ⟨m - 1, by omega⟩
    refine Or.inl ⟨fun k a b => absurd b (by omega), ?_⟩
    rw [f_X9_porterLine_99, if_pos ((le_nI (by omega) (by omega)).mpr (by omega))]
  | succ d ih =>
    intro i m hi hm
    obtain ⟨m, rfl⟩ : ∃ m9, m = m9 + 1 := ⟨m - 1, by omega⟩
    have hi6 : i < 6 := by omega
    have in0 : ∀ K x x5, x ≤ 8 → f_X9_porterLine_137 K (x + 1) (nI P) (nI i) 0 x5 w = K (nI P) (nI (i + 1)) w := by
      intro K x x5 _
      rw [f_X9_porterLine_137]
      by_cases z : gI w 130 8 ≤ x5
      · rw [if_pos z, f_X9_porterLine_189, if_pos rfl, f_X9_porterLine_203, nI_1]
      · rw [if_neg z, if_pos rfl, f_X9_porterLine_189, if_pos rfl, f_X9_porterLine_203, nI_1]
    have in0' : ∀ K f x5, 0 < f → f_X9_porterLine_137 K f (nI P) (nI i) 0 x5 w = K (nI P) (nI (i + 1)) w := by
      intro K f x5 hf
      obtain ⟨f, rfl⟩ : ∃ m9, f = m9 + 1 := ⟨f - 1, by omega⟩
      rw [f_X9_porterLine_137]
      by_cases z : gI w 130 8 ≤ x5
      · rw [if_pos z, f_X9_porterLine_189, if_pos rfl, f_X9_porterLine_203, nI_1]
      · rw [if_neg z, if_pos rfl, f_X9_porterLine_189, if_pos rfl, f_X9_porterLine_203, nI_1]
    obtain ⟨a, X2⟩ := X.wrong (f := 3) (a := tA tp n q)
    have a' : f_X9_wrong 3 (nI (tA tp n q)) w = _ := a
    have in1 : ∀ K e j f, j + e = tE tp n q - tA tp n q → e < f → (((∀ x, j ≤ x → x < tE tp n q - tA tp n q → φ (87 + 8 * i + x) = nI (tp (tA tp n q + x))) ∧ f_X9_porterLine_137 K f (nI P) (nI i) 1 (nI j) w = K (nI P) (nI (i + 1)) (sI (sI (sI w 130 13 1) 130 9 (nI 3)) 130 10 (nI (tA tp n q)))) ∨ ((∃ x, j ≤ x ∧ x < tE tp n q - tA tp n q ∧ φ (87 + 8 * i + x) ≠ nI (tp (tA tp n q + x))) ∧ f_X9_porterLine_137 K f (nI P) (nI i) 1 (nI j) w = K (nI P) (nI (i + 1)) w)) := by
      intro K e
      induction e with
      | zero =>
        intro j f hj hf
        obtain ⟨f, rfl⟩ : ∃ m9, f = m9 + 1 := ⟨f - 1, by omega⟩
        refine Or.inl ⟨fun x a b => absurd b (by omega), ?_⟩
        rw [f_X9_porterLine_137, m8, if_pos ((le_nI (by omega) (by omega)).mpr (by omega)), f_X9_porterLine_189, if_neg one_ne, M.2.1, a', bind_some', f_X9_porterLine_203, nI_1]
      | succ e ih2 =>
        intro j f hj hf
        obtain ⟨f, rfl⟩ : ∃ m9, f = m9 + 1 := ⟨f - 1, by omega⟩
        have h8 : gI w 134 (87 + 8 * i + j) = φ (87 + 8 * i + j) := X.1 _ (by omega)
        have E : f_X9_porterLine_137 K (f + 1) (nI P) (nI i) 1 (nI j) w = if φ (87 + 8 * i + j) = nI (tp (tA tp n q + j)) then f_X9_porterLine_137 K f (nI P) (nI i) 1 (nI (j + 1)) w else f_X9_porterLine_137 K f (nI P) (nI i) 0 (nI (j + 1)) w := by
          rw [f_X9_porterLine_137, m8, if_neg (fun q9 => absurd ((le_nI (by omega) (by omega)).mp q9) (by omega)), if_neg one_ne, show (8 : Int32) = nI 8 from rfl, pk_mul, show (87 : Int32) = nI 87 from rfl, nI_add, nI_add, if_pos ((inb_nI (by omega)).mpr (by omega)), if_pos ((inb_nI (by omega)).mpr (by omega)), ix_nI (by omega), ix_nI (by omega), h8, m9 j (by omega), f_X9_porterLine_181, f_X9_porterLine_181, nI_1]
        rw [E]
        by_cases z : φ (87 + 8 * i + j) = nI (tp (tA tp n q + j))
        · rw [if_pos z]
          rcases ih2 (j + 1) f (by omega) (by omega) with ⟨g1, g2⟩ | ⟨⟨x, g1, g2, g3⟩, g4⟩
          · refine Or.inl ⟨fun x a b => ?_, g2⟩
            by_cases y : x = j
            · rw [y]; exact z
            · exact g1 x (by omega) b
          · exact Or.inr ⟨⟨x, by omega, g2, g3⟩, g4⟩
        · rw [if_neg z]
          exact Or.inr ⟨⟨j, Nat.le_refl _, by omega, z⟩, in0' _ _ _ (by omega)⟩
    have E : f_X9_porterLine_99 (m + 1) (nI P) (nI i) w = if φ (81 + i) = nI (tE tp n q - tA tp n q) then f_X9_porterLine_137 (f_X9_porterLine_99 m) fu (nI P) (nI i) 1 0 w else f_X9_porterLine_137 (f_X9_porterLine_99 m) fu (nI P) (nI i) 0 0 w := by
      rw [f_X9_porterLine_99, if_neg (fun q9 => absurd ((le_nI (by omega) (by omega)).mp q9) (by omega)), X.2.2.1, if_pos rfl, show (81 : Int32) = nI 81 from rfl, nI_add, if_pos ((inb_nI (by omega)).mpr (by omega)), ix_nI (by omega), X.1 _ (by omega), m8, f_X9_porterLine_132, f_X9_porterLine_132]
    rw [E]
    have hfu : 0 < fu := (fu_gt (by omega))
    have next : ¬ smN tp n q φ i → f_X9_porterLine_99 m (nI P) (nI (i + 1)) w = f_X9_porterLine_99 m (nI P) (nI (i + 1)) w → ((∀ k, i ≤ k → k < P → ¬ smN tp n q φ k) ∧ f_X9_porterLine_99 m (nI P) (nI (i + 1)) w = f_X9_porterLine_209 (nI P) w) ∨ (∃ k, i ≤ k ∧ k < P ∧ smN tp n q φ k) ∧ ∃ w', f_X9_porterLine_99 m (nI P) (nI (i + 1)) w = some ((), w') ∧ XM w' tp n (.inl (3, tA tp n q)) φ := by
      intro hx _
      rcases ih (i + 1) m (by omega) (by omega) with ⟨g1, g2⟩ | ⟨⟨k, g1, g2, g3⟩, g4⟩
      · refine Or.inl ⟨fun k a b => ?_, g2⟩
        by_cases y : k = i
        · rw [y]; exact hx
        · exact g1 k (by omega) b
      · exact Or.inr ⟨⟨k, by omega, g2, g3⟩, g4⟩
    by_cases z : φ (81 + i) = nI (tE tp n q - tA tp n q)
    · rw [if_pos z, show (0 : Int32) = nI 0 from rfl]
      rcases in1 (f_X9_porterLine_99 m) (tE tp n q - tA tp n q) 0 fu (by omega) (fu_gt (by omega)) with ⟨g1, g2⟩ | ⟨⟨x, g1, g2, g3⟩, g4⟩
      · rw [g2]
        refine Or.inr ⟨⟨i, Nat.le_refl _, by omega, z, fun j hj => g1 j (by omega) hj⟩, _, ?_, X2⟩
        obtain ⟨m, rfl⟩ : ∃ m9, m = m9 + 1 := ⟨m - 1, by omega⟩
        rw [f_X9_porterLine_99]
        by_cases y : P ≤ i + 1
        · rw [if_pos ((le_nI (by omega) (by omega)).mpr (by omega)), f_X9_porterLine_209, X2.2.2.1, if_neg one_ne]
        · rw [if_neg (fun q9 => absurd ((le_nI (by omega) (by omega)).mp q9) (by omega)), X2.2.2.1, if_neg one_ne, f_X9_porterLine_209, X2.2.2.1, if_neg one_ne]
      · rw [g4]
        exact next (fun y => g3 (y.2 x g2)) rfl
    · rw [if_neg z, in0' _ _ _ hfu]
      exact next (fun y => z y.1) rfl
end PO
