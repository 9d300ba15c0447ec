/-! a letter by draws: the class -/
def dsd (d : DS) (x : Nat) : DS := (yW d, x, yP d, yK d, yU d)
theorem DYc.sd {w : GW} {d : DS} (H : DYc w 121 d) (x : Nat) : DYc (sI w 121 1 (nI x)) 121 (dsd d x) := by
  obtain ⟨a, b, c, e, f, g⟩ := H
  exact ⟨by rw [gI_sI, if_neg (by omega)]; exact a, gI_same _ _ _ _, by rw [gI_sI, if_neg (by omega)]; exact c, by rw [gI_sI, if_neg (by omega)]; exact e, by rw [gI_sI, if_neg (by omega)]; exact f, fun y hy => by rw [gI_sI, if_neg (by omega)]; exact g y hy⟩
theorem DOK.sd {σ : HS} {d : DS} (h : DOK σ d) {x : Nat} (hx : x < 65537) : DOK σ (dsd d x) := ⟨h.1, hx, h.2.2.1, h.2.2.2.1, h.2.2.2.2.1, h.2.2.2.2.2.1, h.2.2.2.2.2.2⟩
theorem CX.wI {w : GW} {η : HP} {r h g k j : Nat} {v : Int32} (H : CX w η r h g) (hk : 69 ≤ k) (hk2 : k ≠ 116) : CX (sI w k j v) η r h g := H.oN hk hk2 (oN.st k j w v)
/-- the least that glances show, how many show it -/
def lsF (u x : Nat → Nat) : Nat → Nat
  | 0 => 9
  | i + 1 => min (lsF u x i) (u (x i))
def mnF (u x : Nat → Nat) : Nat → Nat
  | 0 => 0
  | i + 1 => if u (x i) < lsF u x i then 1 else if u (x i) = lsF u x i then mnF u x i + 1 else mnF u x i
theorem lsF_le {u x : Nat → Nat} : ∀ i j, j < i → lsF u x i ≤ u (x j) := by
  intro i
  induction i with
  | zero => intro j h; omega
  | succ i ih =>
    intro j h
    rw [lsF]
    by_cases z : j = i
    · subst z; exact Nat.min_le_right _ _
    · exact Nat.le_trans (Nat.min_le_left _ _) (ih j (by omega))
theorem lsF_in {u x : Nat → Nat} (h8 : ∀ b, u b ≤ 8) : ∀ i, 1 ≤ i → ∃ j, j < i ∧ u (x j) = lsF u x i := by
  intro i
  induction i with
  | zero => intro h; omega
  | succ i ih =>
    intro _
    rw [lsF]
    by_cases z : u (x i) ≤ lsF u x i
    · exact ⟨i, by omega, by rw [Nat.min_eq_right z]⟩
    · by_cases y : i = 0
      · subst y
        have := h8 (x 0)
        rw [lsF] at z
        omega
      · obtain ⟨j, h1, h2⟩ := ih (by omega)
        exact ⟨j, by omega, by rw [Nat.min_eq_left (by omega)]; exact h2⟩
theorem lsF_9 {u x : Nat → Nat} : ∀ i, lsF u x i ≤ 9 := by
  intro i
  induction i with
  | zero => exact Nat.le_refl _
  | succ i ih => exact Nat.le_trans (Nat.min_le_left _ _) ih
theorem tcS_0 {u x : Nat → Nat} {m : Nat} : ∀ i, (∀ j, j < i → m < u (x j)) → tcS u x m i = 0 := by
  intro i
  induction i with
  | zero => intro _; rfl
  | succ i ih =>
    intro h
    rw [tcS, ih (fun j hj => h j (by omega)), if_neg (by have := h i (by omega); omega)]
theorem mnF_tc {u x : Nat → Nat} (h8 : ∀ b, u b ≤ 8) : ∀ i, mnF u x i = tcS u x (lsF u x i) i := by
  intro i
  induction i with
  | zero => rfl
  | succ i ih =>
    rw [mnF, lsF, tcS]
    by_cases z : u (x i) < lsF u x i
    · rw [if_pos z, Nat.min_eq_right (by omega), if_pos rfl, tcS_0 i (fun j hj => by have := lsF_le (u := u) (x := x) i j hj; omega)]
    · rw [if_neg z, Nat.min_eq_left (by omega), ih]
      by_cases y : u (x i) = lsF u x i
      · rw [if_pos y, if_pos y]
      · rw [if_neg y, if_neg y]; rfl
theorem lsF_lvl {u x : Nat → Nat} {B g : Nat} (h8 : ∀ b, u b ≤ 8) (hg : 1 ≤ g) (hx : ∀ i, x i < B) : lsF u x g = lvl u x B g := by
  obtain ⟨⟨i, i1, i2⟩, h2⟩ := lvl_min (u := u) (x := x) (B := B) hg hx
  obtain ⟨j, j1, j2⟩ := lsF_in (u := u) (x := x) h8 g hg
  have e1 := lsF_le (u := u) (x := x) g i i1
  have e2 := h2 j j1
  omega
section P8
variable {η : HP} {r h g : Nat} {w : GW}
theorem glance8 (hη : HPok η) (hX : CX w η r h g) {s : Nat} (hs : s < 65537) (hw : gI w 121 1 = nI s) : f_X1_glance 121 w = some (nI (cfF (pW η) (pB η - 1) (sdN s % sm (pB η) (pW η)) 0), sI w 121 1 (nI (sdN s))) := by
  have hB0 := hη.1
  have hB5 := hη.2.1
  have hW := WT_le hη
  have X2 : CX (sI w 121 1 (nI (sdN s))) η r h g := hX.wI (by omega) (by omega)
  have key : ∀ d b n v, b + d = pB η - 1 → d < n → v < 65537 → f_X1_glance_29 n (nI v) (nI b) (sI w 121 1 (nI (sdN s))) = some (nI (cfF (pW η) d v b), sI w 121 1 (nI (sdN s))) := by
    intro d
    induction d with
    | zero =>
      intro b n v hb hn hv
      obtain ⟨n, rfl⟩ : ∃ m9, n = m9 + 1 := ⟨n - 1, by omega⟩
      rw [f_X1_glance_29, X2.1.1, pB_m1 hB0, if_pos ((le_nI (by omega) (by omega)).mpr (by omega)), cfF]
    | succ d ih =>
      intro b n v hb hn hv
      obtain ⟨n, rfl⟩ : ∃ m9, n = m9 + 1 := ⟨n - 1, by omega⟩
      have hwb := (hη.2.2.2.1 b).2
      rw [f_X1_glance_29, X2.1.1, pB_m1 hB0, if_neg (fun q9 => absurd ((le_nI (by omega) (by omega)).mp q9) (by omega)), if_pos ((inb_nI (by omega)).mpr (by omega)), ix_nI (by omega), X2.1.2.2.1 b (by omega), cfF]
      by_cases z : v < pW η b
      · rw [if_pos ((lt_nI (by omega) (by omega)).mpr (by omega)), if_pos z]
      · rw [if_neg (fun q9 => absurd ((lt_nI (by omega) (by omega)).mp q9) (by omega)), if_neg z, if_pos ((inb_nI (by omega)).mpr (by omega)), pk_sub (by omega), nI_1]
        exact ih (b + 1) n _ (by omega) (by omega) (by omega)
  have hS : sdN s % sm (pB η) (pW η) < 65537 := by
    have := Nat.mod_lt (sdN s) (show 0 < sm (pB η) (pW η) by omega)
    omega
  have e1 : f_X2_draw 121 w = some (nI (sdN s), sI w 121 1 (nI (sdN s))) := by
    rw [f_X2_draw, hw, sd_nI hs, gI_same]
  rw [f_X1_glance, hX.1.2.2.2.2.1, if_neg (fun z => by have := (le0 (by omega)).mp z; omega), e1, bind_some']
  dsimp only
  rw [X2.1.2.2.2.2.1, if_pos (fun z => by have := (eq0 (by omega)).mp z; omega), irm_nI (by have := sdN_lt s; omega) (by omega) (by omega), f_X1_glance_26, show (0 : Int32) = nI 0 from rfl]
  exact key (pB η - 1) 0 fu _ (by omega) (fu_gt (by omega)) hS
theorem put40 (hη : HPok η) (hg1 : 1 ≤ g) (hg : g ≤ 3) {d : DS} (hd : yS d < 65537) : ∀ t i n (w : GW), i + t = g → t < n → CX w η r h g → DYc w 121 (dsd d (sdI (yS d) i)) → (∀ j, j < i → gI w 70 j = nI (bxS η (yS d) j)) → ∃ w', f_X1_putByDraws_40 n 121 (nI (msk (bxS η (yS d)) i)) (nI i) w = f_X1_putByDraws_84 121 (nI (msk (bxS η (yS d)) g)) w' ∧ CX w' η r h g ∧ DYc w' 121 (dsd d (sdI (yS d) g)) ∧ ∀ j, j < g → gI w' 70 j = nI (bxS η (yS d) j) := by
  have hB5 := hη.2.1
  intro t
  induction t with
  | zero =>
    intro i n w hi hn X D h70
    obtain ⟨n, rfl⟩ : ∃ m9, n = m9 + 1 := ⟨n - 1, by omega⟩
    have : i = g := by omega
    subst this
    refine ⟨w, ?_, X, D, h70⟩
    rw [f_X1_putByDraws_40, X.2.1, if_pos ((le_nI (by omega) (by omega)).mpr (by omega))]
  | succ t ih =>
    intro i n w hi hn X D h70
    obtain ⟨n, rfl⟩ : ∃ m9, n = m9 + 1 := ⟨n - 1, by omega⟩
    have hb := bxS_lt hη (yS d) i
    have e1 := glance8 hη X (sdI_lt hd i) D.2.1
    have eb : cfF (pW η) (pB η - 1) (sdN (sdI (yS d) i) % sm (pB η) (pW η)) 0 = bxS η (yS d) i := rfl
    rw [eb] at e1
    obtain ⟨w', a1, a2, a3, a4⟩ := ih (i + 1) n (sI (sI w 121 1 (nI (sdN (sdI (yS d) i)))) 70 i (nI (bxS η (yS d) i))) (by omega) (by omega) ((X.wI (by omega) (by omega)).wI (by omega) (by omega)) ((D.sd (sdN (sdI (yS d) i))).of (fun j => by rw [gI_sI, if_neg (by omega)]) (fun j => by rw [gI_sI, if_neg (by omega)])) (fun j hj => by
      rw [gI_sI]
      by_cases z : j = i
      · rw [if_pos ⟨rfl, z⟩, z]
      · rw [if_neg (fun y => z y.2), gI_sI, if_neg (by omega)]; exact h70 j (by omega))
    refine ⟨w', ?_, a2, a3, a4⟩
    rw [f_X1_putByDraws_40, X.2.1, if_neg (fun q9 => absurd ((le_nI (by omega) (by omega)).mp q9) (by omega)), show (3 : Int32) = nI 3 from rfl, if_neg (fun q9 => absurd ((le_nI (by omega) (by omega)).mp q9) (by omega)), e1, bind_some', if_pos ((inb_nI (by omega)).mpr (by omega)), if_pos ((inb_nI (by omega)).mpr (by omega)), ix_nI (by omega)]
    dsimp only
    rw [gI_same, shl_nI (by omega), or_nI, nI_1]
    exact a1
theorem lot97 (hη : HPok η) (hg1 : 1 ≤ g) (hg : g ≤ 3) {u x : Nat → Nat} {m : Nat} (hx : ∀ i, x i < pB η) (hm : m ≤ 9) (hX : CX w η r h g) (hu : ∀ b, b < 5 → gI w 122 b = nI (u b)) (h8 : ∀ b, u b ≤ 8) (h70 : ∀ j, j < g → gI w 70 j = nI (x j)) : ∀ t i n l, i + t = g → t < n → l < 10 → f_X1_byLot_97 n 121 (nI m) (nI l) (nI i) w = some (oI (ltS u x m t i l), w) := by
  have hB5 := hη.2.1
  intro t
  induction t with
  | zero =>
    intro i n l hi hn hl
    obtain ⟨n, rfl⟩ : ∃ m9, n = m9 + 1 := ⟨n - 1, by omega⟩
    rw [f_X1_byLot_97, hX.2.1, if_pos ((le_nI (by omega) (by omega)).mpr (by omega))]; rfl
  | succ t ih =>
    intro i n l hi hn hl
    obtain ⟨n, rfl⟩ : ∃ m9, n = m9 + 1 := ⟨n - 1, by omega⟩
    have hxi := hx i
    have h8i := h8 (x i)
    rw [f_X1_byLot_97, hX.2.1, if_neg (fun q9 => absurd ((le_nI (by omega) (by omega)).mp q9) (by omega)), show (3 : Int32) = nI 3 from rfl, if_neg (fun q9 => absurd ((le_nI (by omega) (by omega)).mp q9) (by omega)), if_pos ((inb_nI (by omega)).mpr (by omega)), ix_nI (by omega), h70 i (by omega), if_pos ((inb_nI (by omega)).mpr (by omega)), ix_nI (by omega)]
    show (if gI w 122 (x i) = nI m then _ else _) = _
    rw [hu (x i) (by omega), ltS]
    by_cases z : u (x i) = m
    · rw [if_pos ((eq_nI (by omega) (by omega)).mpr (by omega)), if_pos z]
      by_cases y : l = 0
      · rw [if_pos ((eq0 (by omega)).mpr y), if_pos y, if_pos ((inb_nI (by omega)).mpr (by omega))]; rfl
      · rw [if_neg (fun q => y ((eq0 (by omega)).mp q)), if_neg y, f_X1_byLot_147, show nI l + (-1) = nI (l - 1) from by
          obtain ⟨l', rfl⟩ : ∃ l', l = l' + 1 := ⟨l - 1, by omega⟩
          rw [kI_m, kI_s, Nat.add_sub_cancel], nI_1]
        exact ih (i + 1) n (l - 1) (by omega) (by omega) (by omega)
    · rw [if_neg (fun q9 => absurd ((eq_nI (by omega) (by omega)).mp q9) (by omega)), if_neg z, f_X1_byLot_147, nI_1]
      exact ih (i + 1) n l (by omega) (by omega) hl
theorem lot8 (hη : HPok η) (hg1 : 1 ≤ g) (hg : g ≤ 3) {u x : Nat → Nat} (hx : ∀ i, x i < pB η) (hX : CX w η r h g) (hu : ∀ b, b < 5 → gI w 122 b = nI (u b)) (h8 : ∀ b, u b ≤ 8) (h70 : ∀ j, j < g → gI w 70 j = nI (x j)) : ∀ t i n, i + t = g → t < n → f_X1_byLot_8 n 121 (nI (lsF u x i)) (nI (mnF u x i)) (nI i) w = f_X1_byLot_77 121 (nI (lsF u x g)) (nI (mnF u x g)) w := by
  have hB5 := hη.2.1
  intro t
  induction t with
  | zero =>
    intro i n hi hn
    obtain ⟨n, rfl⟩ : ∃ m9, n = m9 + 1 := ⟨n - 1, by omega⟩
    have : i = g := by omega
    subst this
    rw [f_X1_byLot_8, hX.2.1, if_pos ((le_nI (by omega) (by omega)).mpr (by omega))]
  | succ t ih =>
    intro i n hi hn
    obtain ⟨n, rfl⟩ : ∃ m9, n = m9 + 1 := ⟨n - 1, by omega⟩
    have hxi := hx i
    have h8i := h8 (x i)
    have h9 := lsF_9 (u := u) (x := x) i
    have e := ih (i + 1) n (by omega) (by omega)
    rw [f_X1_byLot_8, hX.2.1, if_neg (fun q9 => absurd ((le_nI (by omega) (by omega)).mp q9) (by omega)), show (3 : Int32) = nI 3 from rfl, if_neg (fun q9 => absurd ((le_nI (by omega) (by omega)).mp q9) (by omega)), if_pos ((inb_nI (by omega)).mpr (by omega)), ix_nI (by omega), h70 i (by omega), if_pos ((inb_nI (by omega)).mpr (by omega)), ix_nI (by omega)]
    show (if nI (lsF u x i) ≤ gI w 122 (x i) then (if gI w 122 (x i) = nI (lsF u x i) then f_X1_byLot_63 (f_X1_byLot_8 n) 121 (nI (lsF u x i)) (nI i) (gI w 122 (x i)) (nI (mnF u x i) + 1) w else f_X1_byLot_63 (f_X1_byLot_8 n) 121 (nI (lsF u x i)) (nI i) (gI w 122 (x i)) (nI (mnF u x i)) w) else f_X1_byLot_63 (f_X1_byLot_8 n) 121 (nI (lsF u x i)) (nI i) (gI w 122 (x i)) 1 w) = _
    rw [hu (x i) (by omega), ← e, lsF, mnF]
    have e63 : ∀ c, f_X1_byLot_63 (f_X1_byLot_8 n) 121 (nI (lsF u x i)) (nI i) (nI (u (x i))) (nI c) w = f_X1_byLot_8 n 121 (nI (min (lsF u x i) (u (x i)))) (nI c) (nI (i + 1)) w := by
      intro c
      rw [f_X1_byLot_63, jmin_nI (by omega) (by omega), nI_1]
    by_cases z : u (x i) < lsF u x i
    · rw [if_neg (fun q9 => absurd ((le_nI (by omega) (by omega)).mp q9) (by omega)), if_pos z]
      exact e63 1
    · rw [if_pos ((le_nI (by omega) (by omega)).mpr (by omega)), if_neg z]
      by_cases y : u (x i) = lsF u x i
      · rw [if_pos ((eq_nI (by omega) (by omega)).mpr (by omega)), if_pos y, nI_1]
        exact e63 _
      · rw [if_neg (fun q9 => absurd ((eq_nI (by omega) (by omega)).mp q9) (by omega)), if_neg y]
        exact e63 _
/-- the tie's lot, and the seed behind it -/
def tiT (s tn : Nat) (g : Nat) : Nat := if tn ≤ 1 then 0 else sdI s (g + 1) % tn
def seT (s tn : Nat) (g : Nat) : Nat := if tn ≤ 1 then sdI s g else sdI s (g + 1)
theorem byLot8 (hη : HPok η) (hg1 : 1 ≤ g) (hg : g ≤ 3) {d : DS} (hd : yS d < 65537) {x : Nat → Nat} (hx : ∀ i, x i < pB η) (hX : CX w η r h g) (D : DYc w 121 (dsd d (sdI (yS d) g))) (h8 : ∀ b, yU d b ≤ 8) (h70 : ∀ j, j < g → gI w 70 j = nI (x j)) : ∃ w', f_X1_byLot 121 w = some (oI (ltS (yU d) x (lvl (yU d) x (pB η) g) g 0 (tiT (yS d) (tcS (yU d) x (lvl (yU d) x (pB η) g) g) g)), w') ∧ CX w' η r h g ∧ DYc w' 121 (dsd d (seT (yS d) (tcS (yU d) x (lvl (yU d) x (pB η) g) g) g)) := by
  have e1 := lot8 hη hg1 hg hx hX D.2.2.2.2.2 h8 h70 g 0 fu (by omega) (fu_gt (by omega))
  have el := lsF_lvl (u := yU d) (x := x) (B := pB η) h8 hg1 hx
  have em := mnF_tc (u := yU d) (x := x) h8 g
  have hl9 := lsF_9 (u := yU d) (x := x) g
  rw [el] at em hl9
  have hle := tcS_le (u := yU d) (x := x) (m := lvl (yU d) x (pB η) g) g
  have e0 : f_X1_byLot 121 w = f_X1_byLot_77 121 (nI (lvl (yU d) x (pB η) g)) (nI (tcS (yU d) x (lvl (yU d) x (pB η) g) g)) w := by
    have e1' : f_X1_byLot 121 w = f_X1_byLot_77 121 (nI (lsF (yU d) x g)) (nI (mnF (yU d) x g)) w := e1
    rw [e1', el, em]
  generalize hT : tcS (yU d) x (lvl (yU d) x (pB η) g) g = T at *
  rw [e0]
  unfold tiT seT
  by_cases z : T ≤ 1
  · rw [if_pos z, if_pos z]
    refine ⟨w, ?_, hX, D⟩
    rw [f_X1_byLot_77, show (1 : Int32) = nI 1 from rfl, if_pos ((le_nI (by omega) (by omega)).mpr (by omega)), f_X1_byLot_92, show (0 : Int32) = nI 0 from rfl]
    exact lot97 hη hg1 hg hx hl9 hX D.2.2.2.2.2 h8 h70 g 0 fu 0 (by omega) (fu_gt (by omega)) (by omega)
  · rw [if_neg z, if_neg z]
    have hsl := sdI_lt hd g
    have hs2 := sdN_lt (sdI (yS d) g)
    have X2 : CX (sI w 121 1 (nI (sdN (sdI (yS d) g)))) η r h g := hX.wI (by omega) (by omega)
    refine ⟨sI w 121 1 (nI (sdN (sdI (yS d) g))), ?_, X2, D.sd _⟩
    have e2 : f_X2_draw 121 w = some (nI (sdN (sdI (yS d) g)), sI w 121 1 (nI (sdN (sdI (yS d) g)))) := by
      rw [f_X2_draw, D.2.1, show yS (dsd d (sdI (yS d) g)) = sdI (yS d) g from rfl, sd_nI hsl, gI_same]
    rw [f_X1_byLot_77, show (1 : Int32) = nI 1 from rfl, if_neg (fun q9 => absurd ((le_nI (by omega) (by omega)).mp q9) (by omega)), e2, bind_some', if_pos (fun y => by have := (eq0 (by omega)).mp y; omega), irm_nI (by omega) (by omega) (by omega), f_X1_byLot_92, show (0 : Int32) = nI 0 from rfl]
    have hm := Nat.mod_lt (sdN (sdI (yS d) g)) (show 0 < T by omega)
    exact lot97 hη hg1 hg hx hl9 X2 (fun b hb => by rw [gI_sI, if_neg (by omega)]; exact D.2.2.2.2.2 b hb) h8 (fun j hj => by rw [gI_sI, if_neg (by omega)]; exact h70 j hj) g 0 fu _ (by omega) (fu_gt (by omega)) (by omega)
theorem fnf8 (hη : HPok η) (hg1 : 1 ≤ g) (hg : g ≤ 3) (hh : h ≤ 8) {u x : Nat → Nat} (hx : ∀ i, x i < pB η) (hX : CX w η 2 h g) (hu : ∀ b, b < 5 → gI w 122 b = nI (u b)) (h8 : ∀ b, u b ≤ 8) (h70 : ∀ j, j < g → gI w 70 j = nI (x j)) : f_X1_firstNotFuller 122 w = some (nI (lzS u x h g g 0), w) := by
  have hB5 := hη.2.1
  have key : ∀ t i n (l : Int32), i + t = g → t < n → (1 ≤ i → l = nI (x (i - 1))) → f_X1_firstNotFuller_4 n 122 l (nI i) w = some (nI (lzS u x h g t i), w) := by
    intro t
    induction t with
    | zero =>
      intro i n l hi hn hl
      obtain ⟨n, rfl⟩ : ∃ m9, n = m9 + 1 := ⟨n - 1, by omega⟩
      have : i = g := by omega
      subst this
      rw [f_X1_firstNotFuller_4, hX.2.1, if_pos ((le_nI (by omega) (by omega)).mpr (by omega)), hl hg1]; rfl
    | succ t ih =>
      intro i n l hi hn hl
      obtain ⟨n, rfl⟩ : ∃ m9, n = m9 + 1 := ⟨n - 1, by omega⟩
      have hxi := hx i
      have h8i := h8 (x i)
      rw [f_X1_firstNotFuller_4, hX.2.1, if_neg (fun q9 => absurd ((le_nI (by omega) (by omega)).mp q9) (by omega)), show (3 : Int32) = nI 3 from rfl, if_neg (fun q9 => absurd ((le_nI (by omega) (by omega)).mp q9) (by omega)), if_pos ((inb_nI (by omega)).mpr (by omega)), ix_nI (by omega), h70 i (by omega), if_pos ((inb_nI (by omega)).mpr (by omega)), ix_nI (by omega), hu (x i) (by omega), hX.2.2.2 rfl, lzS]
      by_cases z : u (x i) ≤ h
      · rw [if_neg (fun q9 => absurd ((lt_nI (by omega) (by omega)).mp q9) (by omega)), if_pos z]
      · rw [if_pos ((lt_nI (by omega) (by omega)).mpr (by omega)), if_neg z, nI_1]
        exact ih (i + 1) n _ (by omega) (by omega) (fun _ => by rw [Nat.add_sub_cancel])
  rw [f_X1_firstNotFuller, show (0 : Int32) = nI 0 from rfl]
  exact key g 0 fu (-1) (by omega) (fu_gt (by omega)) (fun z => by omega)
end P8
section PT
variable {σ : HS} {w : GW}
/-- the box taken for the next letter by draws -/
def tnD (σ : HS) (d : DS) : Nat := tnS (yU d) (bxS (zE σ) (yS d)) (pB (zE σ)) (zR σ (yW d)) (zG σ (yW d))
def tkD (σ : HS) (d : DS) : Nat := (tkS (yU d) (bxS (zE σ) (yS d)) (pB (zE σ)) (zR σ (yW d)) (zH σ (yW d)) (zG σ (yW d)) (yK d) (tiT (yS d) (tnD σ d) (zG σ (yW d)))).getD 0
/-- the day a letter later, by draws -/
noncomputable def ptS (σ : HS) (d : DS) : DS := @ite _ (drS (pE (zE σ)) (yP d + 1)) (Classical.propDecidable _) (lnS σ d (yS d) (pD (zE σ)) (yK d)) (lnS σ d (seT (yS d) (tnD σ d) (zG σ (yW d))) (tkD σ d) (spS (zE σ) (yU d) (zR σ (yW d)) (yK d) (tkD σ d) (msk (bxS (zE σ) (yS d)) (zG σ (yW d)))))
theorem tiT_lt {s tn g : Nat} (h : 0 < tn) : tiT s tn g < tn := by
  unfold tiT
  split
  · exact h
  · exact Nat.mod_lt _ h
theorem tkD_some (hs : HSok σ) (d : DS) : tkS (yU d) (bxS (zE σ) (yS d)) (pB (zE σ)) (zR σ (yW d)) (zH σ (yW d)) (zG σ (yW d)) (yK d) (tiT (yS d) (tnD σ d) (zG σ (yW d))) = some (tkD σ d) ∧ tkD σ d < pB (zE σ) := by
  have hq := hs.2.2.2.2.1 (yW d)
  have hx := bxS_lt hs.1 (yS d)
  obtain ⟨b, h1, h2⟩ := tkS_some (u := yU d) (x := bxS (zE σ) (yS d)) (B := pB (zE σ)) (r := zR σ (yW d)) (h := zH σ (yW d)) (g := zG σ (yW d)) (sl := yK d) (t := tiT (yS d) (tnD σ d) (zG σ (yW d))) hq.1.1 (fun i _ => hx i) (tiT_lt (tnS_pos hq.1.1 (fun i _ => hx i)))
  have e : tkD σ d = b := by unfold tkD; rw [h1]; rfl
  rw [e]
  exact ⟨h1, h2⟩
theorem seT_lt {s tn g : Nat} (h : s < 65537) : seT s tn g < 65537 := by
  unfold seT
  split
  · exact sdI_lt h _
  · exact sdI_lt h _
theorem pt_ok (hs : HSok σ) {d : DS} (h : DOK σ d) (hp : yP d < zL σ) : DOK σ (ptS σ d) := by
  unfold ptS
  rcases drS_dec (pE (zE σ)) (yP d + 1) with q | q
  · rw [if_pos q]
    exact ln_ok hs h hp h.2.1 hs.1.2.2.2.2.1 h.2.2.2.1 h.2.2.2.2.1
  · rw [if_neg q]
    refine ln_ok hs h hp (seT_lt h.2.1) (tkD_some hs d).2 (spS_le hs.1 h.2.2.2.1) (fun z => ?_)
    unfold spS
    rw [if_neg z]
    exact h.2.2.2.2.1 z
theorem put150 (hs : HSok σ) {d : DS} (h : DOK σ d) (hp : yP d < zL σ) {s' b : Nat} (hs' : s' < 65537) (hb : b < pB (zE σ)) {r hh g : Nat} (hr : r ≤ 4) (hX : CX w (zE σ) r hh g) (D : DYc w 121 (dsd d s')) {m : Nat} (hm : m < 32) : ∃ w', f_X1_putByDraws_150 121 (nI m) (nI b) w = some ((), w') ∧ DYc w' 121 (lnS σ d s' b (if r = 4 then slO (emT (ldH (zE σ) (yU d) b) m (pB (zE σ))) else 0)) := by
  have hB5 := hs.1.2.1
  obtain ⟨hu8, hsu⟩ := h.u8 hs
  have e1 := roomFrom (w := w) (u := yU d) (k0 := fxH (gR w 4)) (k1 := 121 + 1) hX.1.1 hB5 hX.1.2.1 (fun c hc => D.2.2.2.2.2 c (by omega)) (fun c => (hs.1.2.2.1 c).2) hu8 hb
  have hdd : DOK σ (dsd d s') := h.sd hs'
  rw [f_X1_putByDraws_150, e1, bind_some']
  dsimp only
  rw [hX.2.2.1]
  by_cases z : r = 4
  · have e2 := emptiest1 (w := w) (u := yU d) (k1 := 122) (s := m) (m := goT (pB (zE σ)) (pR (zE σ)) (yU d) b) hX.1.1 hB5 (fun c hc => D.2.2.2.2.2 c (by omega)) hu8 (by omega) (fun t e => by have := goS_some _ _ _ hb e; omega)
    have e2' : f_X1_emptiest (121 + 1) (nI m) (oI (goT (pB (zE σ)) (pR (zE σ)) (yU d) b)) w = some (oI (emT (ldH (zE σ) (yU d) b) m (pB (zE σ))), w) := e2
    obtain ⟨w', a1, a2⟩ := land8 (sl := slO (emT (ldH (zE σ) (yU d) b) m (pB (zE σ)))) hs hdd hp hX.1 D hb
    refine ⟨w', ?_, by rw [if_pos z]; exact a2⟩
    rw [if_pos ((eq4 (by omega)).mpr z), e2', bind_some', f_X1_putByDraws_193, oI_kI, kI_add]
    dsimp only
    rw [a1, bind_some']
  · obtain ⟨w', a1, a2⟩ := land8 (sl := 0) hs hdd hp hX.1 D hb
    have a1' : f_X2_land 121 (fxH (gR w 4)) (nI b) 0 w = some ((), w') := a1
    refine ⟨w', ?_, by rw [if_neg z]; exact a2⟩
    rw [if_neg (fun y => z ((eq4 (by omega)).mp y)), f_X1_putByDraws_193, a1', bind_some']
theorem putD8 (hs : HSok σ) {d : DS} (h : DOK σ d) (hp : yP d < zL σ) (hX : CX w (zE σ) (zR σ (yW d)) (zH σ (yW d)) (zG σ (yW d))) (D : DYc w 121 d) : ∃ w', f_X1_putByDraws 121 w = some ((), w') ∧ DYc w' 121 (ptS σ d) := by
  have hB5 := hs.1.2.1
  have hL := hs.2.1
  have hq := hs.2.2.2.2.1 (yW d)
  obtain ⟨hu8, hsu⟩ := h.u8 hs
  obtain ⟨q1, q2, q3⟩ := isDoors (w := w) (n := yP d + 1) hX.1.2.2.2.2.2.2.1 hs.1.2.2.2.2.2.1 (by omega)
  have hD2 : gI w 121 2 + 1 = nI (yP d + 1) := by rw [D.2.2.1, nI_1]
  unfold ptS
  rcases q3 with ⟨q, rfl⟩ | ⟨q, rfl⟩
  · rw [if_pos q]
    obtain ⟨w', a1, a2⟩ := land8 (sl := yK d) hs h hp hX.1 D hs.1.2.2.2.2.1
    refine ⟨w', ?_, a2⟩
    rw [f_X1_putByDraws, hD2, q2, bind_some', if_neg one_ne]
    dsimp only
    rw [hX.1.2.2.2.2.2.1, D.2.2.2.2.1, a1, bind_some']
  · rw [if_neg q]
    have e0 : f_X1_putByDraws 121 w = f_X1_putByDraws_40 fu 121 0 0 w := by
      rw [f_X1_putByDraws, hD2, q2, bind_some', if_pos rfl]
    have D0 : DYc w 121 (dsd d (sdI (yS d) 0)) := D
    obtain ⟨w1, a1, a2, a3, a4⟩ := put40 hs.1 hq.1.1 hq.1.2 h.2.1 (zG σ (yW d)) 0 fu w (by omega) (fu_gt (by omega)) hX D0 (fun j hj => by omega)
    have hx := bxS_lt hs.1 (yS d)
    have hmsk := msk_lt2 (x := bxS (zE σ) (yS d)) hx (zG σ (yW d))
    have hmsk32 : msk (bxS (zE σ) (yS d)) (zG σ (yW d)) < 32 := Nat.lt_of_lt_of_le hmsk (sm32 hB5)
    have hck := ckS_lt (B := pB (zE σ)) (r := zR σ (yW d)) (sl := yK d) hB5 hmsk h.2.2.2.1
    have eL := lookedAt hs.1 hq.2.1 a2 hmsk h.2.2.2.1
    obtain ⟨tk1, tk2⟩ := tkD_some hs d
    have fin : ∀ (w2 : GW), CX w2 (zE σ) (zR σ (yW d)) (zH σ (yW d)) (zG σ (yW d)) → DYc w2 121 (dsd d (seT (yS d) (tnD σ d) (zG σ (yW d)))) → ∃ w', f_X1_putByDraws_150 121 (nI (ckS (pB (zE σ)) (zR σ (yW d)) (msk (bxS (zE σ) (yS d)) (zG σ (yW d))) (yK d))) (nI (tkD σ d)) w2 = some ((), w') ∧ DYc w' 121 (lnS σ d (seT (yS d) (tnD σ d) (zG σ (yW d))) (tkD σ d) (spS (zE σ) (yU d) (zR σ (yW d)) (yK d) (tkD σ d) (msk (bxS (zE σ) (yS d)) (zG σ (yW d))))) := by
      intro w2 X2 D2
      obtain ⟨w', b1, b2⟩ := put150 hs h hp (seT_lt h.2.1) tk2 hq.2.1 X2 D2 hck
      refine ⟨w', b1, ?_⟩
      have es : (if zR σ (yW d) = 4 then slO (emT (ldH (zE σ) (yU d) (tkD σ d)) (ckS (pB (zE σ)) (zR σ (yW d)) (msk (bxS (zE σ) (yS d)) (zG σ (yW d))) (yK d)) (pB (zE σ))) else 0) = spS (zE σ) (yU d) (zR σ (yW d)) (yK d) (tkD σ d) (msk (bxS (zE σ) (yS d)) (zG σ (yW d))) := by
        unfold spS
        by_cases z : zR σ (yW d) = 4
        · rw [if_pos z, if_pos z]
          unfold ckS
          rw [if_neg (by omega), if_pos z]
        · rw [if_neg z, if_neg z, h.2.2.2.2.1 z]
      rw [es] at b2
      exact b2
    have e84 : f_X1_putByDraws_84 121 (nI (msk (bxS (zE σ) (yS d)) (zG σ (yW d)))) w1 = if nI (zR σ (yW d)) = 0 then (f_X1_byLot 121 w1).bind fun q21 => f_X1_putByDraws_150 121 (nI (ckS (pB (zE σ)) (zR σ (yW d)) (msk (bxS (zE σ) (yS d)) (zG σ (yW d))) (yK d))) q21.1 q21.2 else if nI (zR σ (yW d)) = 2 then (f_X1_firstNotFuller (121 + 1) w1).bind fun q19 => f_X1_putByDraws_150 121 (nI (ckS (pB (zE σ)) (zR σ (yW d)) (msk (bxS (zE σ) (yS d)) (zG σ (yW d))) (yK d))) q19.1 q19.2 else (f_X1_emptiest (121 + 1) (nI (ckS (pB (zE σ)) (zR σ (yW d)) (msk (bxS (zE σ) (yS d)) (zG σ (yW d))) (yK d))) (-1) w1).bind fun q10 => f_X1_putByDraws_150 121 (nI (ckS (pB (zE σ)) (zR σ (yW d)) (msk (bxS (zE σ) (yS d)) (zG σ (yW d))) (yK d))) q10.1 q10.2 := by
      rw [f_X1_putByDraws_84, a3.2.2.2.2.1]
      have eL' : f_X1_lookedAt (nI (msk (bxS (zE σ) (yS d)) (zG σ (yW d)))) (nI (yK (dsd d (sdI (yS d) (zG σ (yW d)))))) w1 = some (nI (ckS (pB (zE σ)) (zR σ (yW d)) (msk (bxS (zE σ) (yS d)) (zG σ (yW d))) (yK d)), w1) := eL
      rw [eL', bind_some']
      dsimp only
      rw [a2.2.2.1]
    rw [e0]
    have a1' : f_X1_putByDraws_40 fu 121 0 0 w = f_X1_putByDraws_84 121 (nI (msk (bxS (zE σ) (yS d)) (zG σ (yW d)))) w1 := a1
    rw [a1', e84]
    have tn1 : zR σ (yW d) ≠ 0 → tnD σ d = 1 := fun z => by unfold tnD tnS; rw [if_neg z]
    have se1 : zR σ (yW d) ≠ 0 → seT (yS d) (tnD σ d) (zG σ (yW d)) = sdI (yS d) (zG σ (yW d)) := fun z => by unfold seT; rw [tn1 z, if_pos (by omega)]
    by_cases z0 : zR σ (yW d) = 0
    · have etn : tnD σ d = tcS (yU d) (bxS (zE σ) (yS d)) (lvl (yU d) (bxS (zE σ) (yS d)) (pB (zE σ)) (zG σ (yW d))) (zG σ (yW d)) := by unfold tnD tnS; rw [if_pos z0]
      obtain ⟨w2, c1, c2, c3⟩ := byLot8 hs.1 hq.1.1 hq.1.2 h.2.1 hx a2 a3 hu8 a4
      rw [← etn] at c1 c3
      have ek : ltS (yU d) (bxS (zE σ) (yS d)) (lvl (yU d) (bxS (zE σ) (yS d)) (pB (zE σ)) (zG σ (yW d))) (zG σ (yW d)) 0 (tiT (yS d) (tnD σ d) (zG σ (yW d))) = some (tkD σ d) := by
        rw [← tk1]; unfold tkS; rw [if_pos z0]
      rw [ek] at c1
      rw [if_pos ((eq0 (by omega)).mpr z0), c1, bind_some']
      exact fin w2 c2 c3
    · rw [if_neg (fun y => z0 ((eq0 (by omega)).mp y))]
      have D1 : DYc w1 121 (dsd d (seT (yS d) (tnD σ d) (zG σ (yW d)))) := by rw [se1 z0]; exact a3
      by_cases z2 : zR σ (yW d) = 2
      · have a2' : CX w1 (zE σ) 2 (zH σ (yW d)) (zG σ (yW d)) := by rw [z2] at a2; exact a2
        have e := fnf8 hs.1 hq.1.1 hq.1.2 hq.2.2 hx a2' a3.2.2.2.2.2 hu8 a4
        have ek : lzS (yU d) (bxS (zE σ) (yS d)) (zH σ (yW d)) (zG σ (yW d)) (zG σ (yW d)) 0 = tkD σ d := by
          unfold tkD tkS
          rw [if_neg z0, if_neg (by omega), if_pos z2]
          rfl
        have e' : f_X1_firstNotFuller (121 + 1) w1 = some (nI (tkD σ d), w1) := by rw [← ek]; exact e
        rw [if_pos ((eq2 (by omega)).mpr z2), e', bind_some']
        exact fin w1 a2 D1
      · rw [if_neg (fun y => z2 ((eq2 (by omega)).mp y))]
        have e := emptiest1 (w := w1) (u := yU d) (k1 := 122) (s := ckS (pB (zE σ)) (zR σ (yW d)) (msk (bxS (zE σ) (yS d)) (zG σ (yW d))) (yK d)) (m := none) a2.1.1 hB5 (fun c hc => a3.2.2.2.2.2 c (by omega)) hu8 (by omega) (fun t e => by cases e)
        rw [upM_none] at e
        have ek : emT (yU d) (ckS (pB (zE σ)) (zR σ (yW d)) (msk (bxS (zE σ) (yS d)) (zG σ (yW d))) (yK d)) (pB (zE σ)) = some (tkD σ d) := by
          rw [← tk1]
          unfold tkS ckS
          rw [if_neg z0]
          by_cases z1 : zR σ (yW d) = 1
          · rw [if_pos z1, if_neg (by omega), if_neg (by omega)]
          · rw [if_neg z1, if_neg z2]
            by_cases z3 : zR σ (yW d) = 3
            · rw [if_pos z3, if_pos z3, bsM_rot hB5 hx]
            · rw [if_neg z3, if_neg z3, if_pos (by omega)]
        rw [ek] at e
        have e' : f_X1_emptiest (121 + 1) (nI (ckS (pB (zE σ)) (zR σ (yW d)) (msk (bxS (zE σ) (yS d)) (zG σ (yW d))) (yK d))) (-1) w1 = some (nI (tkD σ d), w1) := e
        rw [e', bind_some']
        exact fin w1 a2 D1
end PT
