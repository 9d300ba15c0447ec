/-! the porter's line: the rest -/
section PQ
variable {tp : Nat → Nat} {n : Nat}
theorem tS_len {u u' p : Nat} (h : tS tp n u p) (h2 : sLen u ≠ sLen u') : ¬ tS tp n u' p := fun z => h2 (h.2.1.symm.trans z.2.1)
def lF (tp : Nat → Nat) (φ : Nat → Int32) (P a : Nat) : Nat → (Nat → Int32)
  | 0 => φ
  | m + 1 => up (lF tp φ P a m) (87 + 8 * P + m) (nI (tp (a + m)))
theorem lF_o {φ : Nat → Int32} {P a j : Nat} : ∀ m, j < 87 + 8 * P ∨ 87 + 8 * P + m ≤ j → lF tp φ P a m j = φ j := by
  intro m
  induction m with
  | zero => intro _; rfl
  | succ m ih =>
    intro h
    show up (lF tp φ P a m) (87 + 8 * P + m) (nI (tp (a + m))) j = φ j
    rw [up_n (by omega)]
    exact ih (by omega)
theorem lF_i {φ : Nat → Int32} {P a k : Nat} : ∀ m, k < m → lF tp φ P a m (87 + 8 * P + k) = nI (tp (a + k)) := by
  intro m
  induction m with
  | zero => intro h; omega
  | succ m ih =>
    intro h
    show up (lF tp φ P a m) (87 + 8 * P + m) (nI (tp (a + m))) (87 + 8 * P + k) = _
    by_cases z : k = m
    · rw [z, up_s]
    · rw [up_n (by omega)]; exact ih (by omega)
/-- the draft with one porter more -/
def f1F (tp : Nat → Nat) (φ : Nat → Int32) (P a s g : Nat) : Nat → Int32 := up (up (up (lF tp φ P a s) (81 + P) (nI s)) (18 + P) (nI g)) (30 + P) (-2)
def fF (tp : Nat → Nat) (φ : Nat → Int32) (P a s g r h : Nat) : Nat → Int32 := up (up (up (f1F tp φ P a s g) (24 + P) (nI r)) (30 + P) (paI r h)) 17 (nI (P + 1))
theorem fF_s {φ : Nat → Int32} {P a s g r : Nat} (hr : r ≠ 2) : up (up (f1F tp φ P a s g) (24 + P) (nI r)) 17 (nI (P + 1)) = fF tp φ P a s g r 0 := by
  funext j
  unfold fF
  by_cases z : j = 17
  · rw [z, up_s, up_s]
  · rw [up_n z, up_n z]
    by_cases y : j = 30 + P
    · rw [y, up_s, up_n (by omega)]
      unfold paI
      rw [if_neg hr]
      exact up_s _ _ _
    · rw [up_n y]
theorem fF_v {φ : Nat → Int32} {P a s g r h : Nat} (hP : P < 6) (hs : s ≤ 8) : fF tp φ P a s g r h 17 = nI (P + 1) ∧ fF tp φ P a s g r h (18 + P) = nI g ∧ fF tp φ P a s g r h (24 + P) = nI r ∧ fF tp φ P a s g r h (30 + P) = paI r h ∧ fF tp φ P a s g r h (81 + P) = nI s ∧ (∀ k, k < s → fF tp φ P a s g r h (87 + 8 * P + k) = nI (tp (a + k))) ∧ ∀ j, j ≠ 17 → j ≠ 18 + P → j ≠ 24 + P → j ≠ 30 + P → j ≠ 81 + P → j < 87 + 8 * P ∨ 87 + 8 * P + s ≤ j → fF tp φ P a s g r h j = φ j := by
  unfold fF f1F
  refine ⟨up_s _ _ _, ?_, ?_, ?_, ?_, fun k hk => ?_, fun j h1 h2 h3 h4 h5 h6 => ?_⟩
  · rw [up_n (by omega), up_n (by omega), up_n (by omega), up_n (by omega), up_s]
  · rw [up_n (by omega), up_n (by omega), up_s]
  · rw [up_n (by omega), up_s]
  · rw [up_n (by omega), up_n (by omega), up_n (by omega), up_n (by omega), up_n (by omega), up_s]
  · rw [up_n (by omega), up_n (by omega), up_n (by omega), up_n (by omega), up_n (by omega), up_n (by omega)]
    exact lF_i s hk
  · rw [up_n h1, up_n h4, up_n h3, up_n h4, up_n h2, up_n h5]
    exact lF_o s h6
theorem DC.por {w w' : GW} {H P a s g r h : Nat} {φ : Nat → Int32} (hz : 4 ≤ H) (hP : P < 6) (hs : s ≤ 8) (h17 : φ 17 = nI P) (hc : ∀ k, k < s → isLe (tp (a + k)) = true) (hW : ∀ k, k < P → WFp φ k) (D : DC w H φ) (e : ∀ k j, 4 ≤ k → ¬ (k = H ∧ j = 8) → k ≠ H + 4 + 1 + P → gI w' k j = gI w k j) (el : ∀ k j, 4 ≤ k → ¬ (k = H + 11 ∧ j = P) → gL w' k j = gL w k j) (n8 : gI w' H 8 = nI (P + 1)) (n0 : gI w' (H + 4 + 1 + P) 0 = nI g) (n1 : gI w' (H + 4 + 1 + P) 1 = nI r) (n2 : gI w' (H + 4 + 1 + P) 2 = paI r h) (nl : gL w' (H + 11) P = lN (nvS tp a s)) : DC w' H (fF tp φ P a s g r h) := by
  obtain ⟨v1, v2, v3, v4, v5, v6, v7⟩ := fF_v (tp := tp) (φ := φ) (a := a) (g := g) (r := r) (h := h) hP hs
  obtain ⟨⟨a1, a2, a3, a4, a5, a6, a7, a8⟩, bb, c, d⟩ := D
  refine ⟨⟨?_, ?_, ?_, ?_, ?_, ?_, ?_, ?_⟩, fun x hx => ?_, fun p h1 h2 => ?_, fun y x h1 h2 => ?_⟩
  · rw [e _ _ hz (by omega) (by omega), v7 _ (by omega) (by omega) (by omega) (by omega) (by omega) (by omega)]; exact a1
  · rw [e _ _ hz (by omega) (by omega), v7 _ (by omega) (by omega) (by omega) (by omega) (by omega) (by omega)]; exact a2
  · rw [e _ _ hz (by omega) (by omega), v7 _ (by omega) (by omega) (by omega) (by omega) (by omega) (by omega)]; exact a3
  · rw [e _ _ hz (by omega) (by omega), v7 _ (by omega) (by omega) (by omega) (by omega) (by omega) (by omega)]; exact a4
  · rw [e _ _ hz (by omega) (by omega), v7 _ (by omega) (by omega) (by omega) (by omega) (by omega) (by omega)]; exact a5
  · rw [e _ _ hz (by omega) (by omega), v7 _ (by omega) (by omega) (by omega) (by omega) (by omega) (by omega)]; exact a6
  · rw [v1]; exact n8
  · rw [e _ _ hz (by omega) (by omega), v7 _ (by omega) (by omega) (by omega) (by omega) (by omega) (by omega)]; exact a8
  · rw [e _ _ (by omega) (by omega) (by omega), e _ _ (by omega) (by omega) (by omega), e _ _ (by omega) (by omega) (by omega), v7 _ (by omega) (by omega) (by omega) (by omega) (by omega) (by omega), v7 _ (by omega) (by omega) (by omega) (by omega) (by omega) (by omega), v7 _ (by omega) (by omega) (by omega) (by omega) (by omega) (by omega)]
    exact bb x hx
  · rw [v1, ix_nI (by omega)] at h1
    by_cases z : p = P
    · rw [z, n0, n1, n2, nl, v2, v3, v4, v5, ix_nI (by omega)]
      refine ⟨rfl, rfl, rfl, ?_⟩
      rw [(nm_inj (tp := tp) (a := a) s s (fun j hj => ⟨_, hc j hj, v6 j hj⟩) hc).mpr ⟨rfl, v6⟩]
    · obtain ⟨_, _, sp, sp8, sp1, _⟩ := hW p (by omega)
      have hc2 := c p (by rw [h17, ix_nI (by omega)]; omega) h2
      rw [e _ _ (by omega) (by omega) (by omega), e _ _ (by omega) (by omega) (by omega), e _ _ (by omega) (by omega) (by omega), el _ _ (by omega) (by omega), v7 _ (by omega) (by omega) (by omega) (by omega) (by omega) (by omega), v7 _ (by omega) (by omega) (by omega) (by omega) (by omega) (by omega), v7 _ (by omega) (by omega) (by omega) (by omega) (by omega) (by omega), v7 (81 + p) (by omega) (by omega) (by omega) (by omega) (by omega) (by omega), nmH_c (φ := φ) _ (fun k hk => by
        rw [sp1, ix_nI (by omega)] at hk
        exact v7 _ (by omega) (by omega) (by omega) (by omega) (by omega) (by omega))]
      exact hc2
  · rw [e _ _ (by omega) (by omega) (by omega), v7 _ (by omega) (by omega) (by omega) (by omega) (by omega) (by omega)]
    exact d y x h1 h2
theorem WF.por {P a s g r h : Nat} {φ : Nat → Int32} (hP : P < 6) (hs : s ≤ 8) (h17 : φ 17 = nI P) (hc : ∀ k, k < s → isLe (tp (a + k)) = true) (hg : 1 ≤ g ∧ g ≤ 3) (hr : r ≤ 4) (hh : h ≤ 8) (hW : WF φ) : WF (fF tp φ P a s g r h) := by
  obtain ⟨v1, v2, v3, v4, v5, v6, v7⟩ := fF_v (tp := tp) (φ := φ) (a := a) (g := g) (r := r) (h := h) hP hs
  obtain ⟨⟨B, w1⟩, w2, w3, P', q1, q2, q3⟩ := hW
  have : P' = P := (eq_nI (by omega) (by omega)).mp (q2.symm.trans h17)
  subst this
  refine ⟨⟨B, w1.c fun j hj => v7 j (by omega) (by omega) (by omega) (by omega) (by omega) (by omega)⟩, w2.c fun j h1 h2 => v7 j (by omega) (by omega) (by omega) (by omega) (by omega) (by omega), w3.c fun j h1 h2 => v7 j (by omega) (by omega) (by omega) (by omega) (by omega) (by omega), P' + 1, by omega, v1, fun p hp => ?_⟩
  by_cases z : p = P'
  · rw [z]
    exact ⟨by rw [v2]; exact ⟨g, hg.1, hg.2, rfl⟩, ⟨r, h, hr, hh, v3, v4⟩, s, hs, v5, fun k hk => ⟨_, hc k hk, v6 k hk⟩⟩
  · obtain ⟨a1, ⟨r', h', b1, b2, b3, b4⟩, s', c1, c2, c3⟩ := q3 p (by omega)
    refine ⟨by rw [v7 _ (by omega) (by omega) (by omega) (by omega) (by omega) (by omega)]; exact a1, ⟨r', h', b1, b2, by rw [v7 _ (by omega) (by omega) (by omega) (by omega) (by omega) (by omega)]; exact b3, by rw [v7 _ (by omega) (by omega) (by omega) (by omega) (by omega) (by omega)]; exact b4⟩, s', c1, by rw [v7 _ (by omega) (by omega) (by omega) (by omega) (by omega) (by omega)]; exact c2, fun k hk => ?_⟩
    rw [v7 _ (by omega) (by omega) (by omega) (by omega) (by omega) (by omega)]
    exact c3 k hk
/-- the class's end of the line -/
theorem por150 {w0 w : GW} {H P p a s g r h : Nat} {φ : Nat → Int32} (hz : 4 ≤ H) (hP : P < 6) (hs : s ≤ 8) (h17 : φ 17 = nI P) (hc : ∀ k, k < s → isLe (tp (a + k)) = true) (hW : ∀ k, k < P → WFp φ k) (hr : r ≤ 4) (hH : fxH (gR w0 2) = H) (hp : p ≤ n) (C : CT w tp n p) (D : DC w0 H φ) (F : FC H w0 w) (e : ∀ k j, 4 ≤ k → gI w k j = gI w0 k j) (el : ∀ k j, 4 ≤ k → ¬ (k = H + 11 ∧ j = P) → gL w k j = gL w0 k j) (nl : gL w (H + 11) P = lN (nvS tp a s)) (hv : r = 2 → gI w 3 2 = nI h) : ∃ w', f_X6_porterLine_150 (nI P) (nI g) (nI r) w = some (1, w') ∧ LC tp n H w0 w' (.inr p) (fF tp φ P a s g r h) 1 := by
  have hHw : fxH (gR w 2) = H := by rw [F.2.2]; exact hH
  have h8 : gI w H 8 = nI P := by rw [e _ _ hz]; exact D.1.2.2.2.2.2.2.1.trans h17
  have E : f_X6_porterLine_150 (nI P) (nI g) (nI r) w = some (1, sI (sI (sI (sI w (H + 4 + 1 + P) 0 (nI g)) (H + 4 + 1 + P) 1 (nI r)) (H + 4 + 1 + P) 2 (paI r h)) H 8 (nI (P + 1))) := by
    have e175 : ∀ v, f_X6_porterLine_175 v (nI r) (nI g) (H + 4 + 1 + P) w = some (1, sI (sI (sI (sI w (H + 4 + 1 + P) 0 (nI g)) (H + 4 + 1 + P) 1 (nI r)) (H + 4 + 1 + P) 2 v) H 8 (nI (P + 1))) := fun v => by
      rw [f_X6_porterLine_175, f_X4_become, bind_some']
      dsimp only
      rw [gR_sI, gR_sI, gR_sI, hHw, gI_sI, if_neg (by omega), gI_sI, if_neg (by omega), gI_sI, if_neg (by omega), h8, nI_1]
    rw [f_X6_porterLine_150, if_pos ((inb_nI (by omega)).mpr (by omega)), ix_nI (by omega), hHw]
    unfold paI
    by_cases z : r = 2
    · subst z
      rw [if_pos (show nI 2 = 2 from rfl), if_pos rfl, hv rfl]
      exact e175 _
    · rw [show (2 : Int32) = nI 2 from rfl, if_neg (fun q9 => absurd ((eq_nI (by omega) (by omega)).mp q9) (by omega)), if_neg z]
      exact e175 _
  have KK : FC H w (sI (sI (sI (sI w (H + 4 + 1 + P) 0 (nI g)) (H + 4 + 1 + P) 1 (nI r)) (H + 4 + 1 + P) 2 (paI r h)) H 8 (nI (P + 1))) := (((FC.st (by omega) (by omega) hz).tr (FC.st (by omega) (by omega) hz)).tr (FC.st (by omega) (by omega) hz)).tr (FC.st (by omega) (by omega) hz)
  refine ⟨_, E, LC.o (F.tr KK) rfl rfl hp ((((C.st (by omega)).st (by omega)).st (by omega)).st (by omega)) ?_⟩
  refine D.por hz hP hs h17 hc hW (fun k j h1 h2 h3 => ?_) (fun k j h1 h2 => ?_) (gI_same _ _ _ _) ?_ ?_ ?_ nl
  · rw [gI_sI, if_neg h2, gI_sI, if_neg (fun q => h3 q.1), gI_sI, if_neg (fun q => h3 q.1), gI_sI, if_neg (fun q => h3 q.1)]; exact e k j h1
  · exact el k j h1 h2
  · rw [gI_sI, if_neg (by omega), gI_sI, if_neg (by omega), gI_sI, if_neg (by omega), gI_same]
  · rw [gI_sI, if_neg (by omega), gI_sI, if_neg (by omega), gI_same]
  · rw [gI_sI, if_neg (by omega), gI_same]
/-! the reference -/
theorem takes9_f (hn : n ≤ 900) {w : GW} {u p : Nat} {φ : Nat → Int32} (hu : u < 34) (X : XM w tp n (.inr p) φ) (h : ¬ tS tp n u p) : f_X9_takes u w = some (0, w) := by
  rw [f_X9_takes, isWord_f hn hu X h, bind_some', if_pos rfl]
theorem takes9_e {w : GW} {u : Nat} {e : Nat × Nat} {φ : Nat → Int32} (X : XM w tp n (.inl e) φ) : f_X9_takes u w = some (0, w) := by
  rw [f_X9_takes, isWord_e X, bind_some', if_pos rfl]
theorem takes9_t (hn : n ≤ 900) (htp : ∀ j, tp j < 256) {w : GW} {u p : Nat} {φ : Nat → Int32} (hu : u < 34) (X : XM w tp n (.inr p) φ) (h : tS tp n u p) : ∃ w', f_X9_takes u w = some (1, w') ∧ XM w' tp n (.inr (tE tp n p)) φ := by
  obtain ⟨w', a, b⟩ := X.next hn htp
  exact ⟨w', by rw [f_X9_takes, isWord_t hn hu X h, bind_some', if_neg one_ne]; dsimp only; rw [a, bind_some'], b⟩
theorem p414 {w : GW} {P : Nat} {r : RR} {φ : Nat → Int32} (h17 : φ 17 = nI P) (X : XM w tp n r φ) : ∃ w', f_X9_porterLine_414 w = some ((), w') ∧ XM w' tp n r (up φ 17 (nI (P + 1))) := by
  refine ⟨_, ?_, X.set (i := 17) (v := nI (P + 1))⟩
  rw [f_X9_porterLine_414, if_pos (show inb _ _ from by decide), if_pos (show inb _ _ from by decide), show ix (17 : Int32) = 17 from by decide, X.1 17 (by omega), h17, nI_1]
/-- the rule words are tried, one by one -/
theorem rule9_s (hn : n ≤ 900) (htp : ∀ j, tp j < 256) {w : GW} {P p k u : Nat} {φ : Nat → Int32} (hP : P < 6) (h17 : φ 17 = nI P) (X : XM w tp n (.inr p) φ) (hk : (u = 11 ∧ k = 0) ∨ (u = 12 ∧ k = 1) ∨ (u = 14 ∧ k = 3) ∨ (u = 15 ∧ k = 4)) (h : tS tp n u p) : ∃ w', ((f_X9_takes 28 w).bind fun q20 => if q20.1 = 0 then (f_X9_takes 29 q20.2).bind fun q24 => if q24.1 = 0 then (f_X9_takes 30 q24.2).bind fun q28 => if q28.1 = 0 then (f_X9_takes 31 q28.2).bind fun q32 => if q32.1 = 0 then (f_X9_told 32 0 8 (sI q32.2 134 (24 + P) 2)).bind fun q37 => f_X9_porterLine_414 (sI q37.2 134 (30 + P) q37.1) else f_X9_porterLine_414 (sI q32.2 134 (24 + P) 4) else f_X9_porterLine_414 (sI q28.2 134 (24 + P) 3) else f_X9_porterLine_414 (sI q24.2 134 (24 + P) 1) else f_X9_porterLine_414 (sI q20.2 134 (24 + P) 0)) = some ((), w') ∧ XM w' tp n (.inr (tE tp n p)) (up (up φ (24 + P) (nI k)) 17 (nI (P + 1))) := by
  have u17 : ∀ v, up φ (24 + P) v 17 = nI P := fun v => by rw [up_n (by omega)]; exact h17
  rcases hk with ⟨rfl, rfl⟩ | ⟨rfl, rfl⟩ | ⟨rfl, rfl⟩ | ⟨rfl, rfl⟩
  · obtain ⟨w1, a1, X1⟩ := takes9_t (u := 28) hn htp (by omega) X ((tS_u (u := 28) (u' := 11) rfl).mpr h)
    rw [a1, bind_some', if_neg one_ne]
    exact p414 (u17 _) X1.set
  · rw [takes9_f (u := 28) hn (by omega) X (fun z => tS_len h (by decide) ((tS_u (u := 28) (u' := 11) rfl).mp z)), bind_some', if_pos rfl]
    obtain ⟨w1, a1, X1⟩ := takes9_t (u := 29) hn htp (by omega) X ((tS_u (u := 29) (u' := 12) rfl).mpr h)
    dsimp only
    rw [a1, bind_some', if_neg one_ne]
    exact p414 (u17 _) X1.set
  · rw [takes9_f (u := 28) hn (by omega) X (fun z => tS_len h (by decide) ((tS_u (u := 28) (u' := 11) rfl).mp z)), bind_some', if_pos rfl]
    dsimp only
    rw [takes9_f (u := 29) hn (by omega) X (fun z => tS_len h (by decide) ((tS_u (u := 29) (u' := 12) rfl).mp z)), bind_some', if_pos rfl]
    obtain ⟨w1, a1, X1⟩ := takes9_t (u := 30) hn htp (by omega) X ((tS_u (u := 30) (u' := 14) rfl).mpr h)
    dsimp only
    rw [a1, bind_some', if_neg one_ne]
    exact p414 (u17 _) X1.set
  · rw [takes9_f (u := 28) hn (by omega) X (fun z => tS_len h (by decide) ((tS_u (u := 28) (u' := 11) rfl).mp z)), bind_some', if_pos rfl]
    dsimp only
    rw [takes9_f (u := 29) hn (by omega) X (fun z => tS_len h (by decide) ((tS_u (u := 29) (u' := 12) rfl).mp z)), bind_some', if_pos rfl]
    dsimp only
    rw [takes9_f (u := 30) hn (by omega) X (fun z => tS_len h (by decide) ((tS_u (u := 30) (u' := 14) rfl).mp z)), bind_some', if_pos rfl]
    obtain ⟨w1, a1, X1⟩ := takes9_t (u := 31) hn htp (by omega) X ((tS_u (u := 31) (u' := 15) rfl).mpr h)
    dsimp only
    rw [a1, bind_some', if_neg one_ne]
    exact p414 (u17 _) X1.set
theorem rule9_z (hn : n ≤ 900) (htp : ∀ j, tp j < 256) {w : GW} {P : Nat} {r : RR} {φ : Nat → Int32} (hP : P < 6) (h17 : φ 17 = nI P) (X : XM w tp n r φ) (h : ∀ p, r = .inr p → ¬ tS tp n 11 p ∧ ¬ tS tp n 12 p ∧ ¬ tS tp n 14 p ∧ ¬ tS tp n 15 p) : ∃ w', ((f_X9_takes 28 w).bind fun q20 => if q20.1 = 0 then (f_X9_takes 29 q20.2).bind fun q24 => if q24.1 = 0 then (f_X9_takes 30 q24.2).bind fun q28 => if q28.1 = 0 then (f_X9_takes 31 q28.2).bind fun q32 => if q32.1 = 0 then (f_X9_told 32 0 8 (sI q32.2 134 (24 + P) 2)).bind fun q37 => f_X9_porterLine_414 (sI q37.2 134 (30 + P) q37.1) else f_X9_porterLine_414 (sI q32.2 134 (24 + P) 4) else f_X9_porterLine_414 (sI q28.2 134 (24 + P) 3) else f_X9_porterLine_414 (sI q24.2 134 (24 + P) 1) else f_X9_porterLine_414 (sI q20.2 134 (24 + P) 0)) = some ((), w') ∧ XM w' tp n (sNr tp n 0 8 (sWr tp n 13 r)) (up (up (up φ (24 + P) (nI 2)) (30 + P) (nI (sNv tp n 0 8 (sWr tp n 13 r)))) 17 (nI (P + 1))) := by
  have t : ∀ u u', u < 34 → strT.getD u [] = strT.getD u' [] → (u' = 11 ∨ u' = 12 ∨ u' = 14 ∨ u' = 15) → f_X9_takes u w = some (0, w) := by
    intro u u' hu he hx
    cases r with
    | inl e => exact takes9_e X
    | inr p =>
      obtain ⟨h1, h2, h3, h4⟩ := h p rfl
      refine takes9_f hn hu X (fun z => ?_)
      have z2 := (tS_u he).mp z
      rcases hx with rfl | rfl | rfl | rfl
      · exact h1 z2
      · exact h2 z2
      · exact h3 z2
      · exact h4 z2
  rw [t 28 11 (by omega) rfl (by omega), bind_some', if_pos rfl]
  dsimp only
  rw [t 29 12 (by omega) rfl (by omega), bind_some', if_pos rfl]
  dsimp only
  rw [t 30 14 (by omega) rfl (by omega), bind_some', if_pos rfl]
  dsimp only
  rw [t 31 15 (by omega) rfl (by omega), bind_some', if_pos rfl]
  dsimp only
  obtain ⟨w1, a1, X1⟩ := told9 (u := 32) (lo := 0) (hi := 8) hn htp (by omega) (by omega) (by omega) (X.set (i := 24 + P) (v := nI 2))
  rw [sWr_u (u := 32) (u' := 13) rfl] at a1 X1
  have a1' : f_X9_told 32 0 8 (sI w 134 (24 + P) 2) = _ := a1
  rw [a1', bind_some']
  exact p414 (by rw [up_n (by omega), up_n (by omega)]; exact h17) X1.set
end PQ
