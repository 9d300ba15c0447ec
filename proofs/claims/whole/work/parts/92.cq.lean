/-! questions to the class -/
section CQ8
variable {σ : HS} {w : GW}
theorem CQ.kc {w' : GW} (C : CQ w σ) (k : KC w w') (c : CCh w' σ) : CQ w' σ := ⟨C.1, CHl.kc C.1 C.2.1 k, c⟩
theorem CCh.tr {v : Int32} (hs : HSok σ) (c : CCh w σ) : CCh (sI w 0 12 v) σ := c.of hs (fun p j x => by rw [gI_sI, if_neg (by omega)]) (fun _ _ _ _ => rfl) rfl rfl
theorem isP8_t (C : CQ w σ) {p : Nat} (hp : p < zP σ) : f_X8_isPorter (nI p) w = some (1, w) := by
  have := C.1.2.2.1
  rw [f_X8_isPorter, if_neg (lt0_nI (by omega)), C.2.1.2.2.2.1, if_neg (fun q9 => absurd ((le_nI (by omega) (by omega)).mp q9) (by omega))]
theorem isP8_f (C : CQ w σ) {x : Int32} (h : ¬ rg x 0 (zP σ - 1)) : f_X8_isPorter x w = some (0, w) := by
  have := C.1.2.2.1
  rw [f_X8_isPorter]
  by_cases z : x < 0
  · rw [if_pos z]
  · rw [if_neg z, C.2.1.2.2.2.1]
    rcases rg_no (by omega) (by omega) h with q | q
    · exact absurd q z
    · rw [lt_ss (by omega), show zP σ - 1 + 1 = zP σ by omega] at q
      rw [if_pos q]
theorem isB8_t (C : CQ w σ) {b : Nat} (hb : b < pB (zE σ)) : f_X8_isBox (nI b) w = some (1, w) := by
  have := C.1.1.2.1
  rw [f_X8_isBox, if_neg (lt0_nI (by omega)), C.2.1.2.1.1, if_neg (fun q9 => absurd ((le_nI (by omega) (by omega)).mp q9) (by omega))]
theorem isB8_f (C : CQ w σ) {x : Int32} (h : ¬ rg x 0 (pB (zE σ) - 1)) : f_X8_isBox x w = some (0, w) := by
  have h1 := C.1.1.1
  have := C.1.1.2.1
  rw [f_X8_isBox]
  by_cases z : x < 0
  · rw [if_pos z]
  · rw [if_neg z, C.2.1.2.1.1]
    rcases rg_no (by omega) (by omega) h with q | q
    · exact absurd q z
    · rw [lt_ss (by omega), show pB (zE σ) - 1 + 1 = pB (zE σ) by omega] at q
      rw [if_pos q]
theorem isC8_t (C : CQ w σ) {k : Nat} (hk : k ≤ zL σ) : f_X8_isCount (nI k) w = some (1, w) := by
  have := C.1.2.1
  rw [f_X8_isCount, if_neg (lt0_nI (by omega)), C.2.1.2.2.1, if_neg (fun q9 => absurd ((lt_nI (by omega) (by omega)).mp q9) (by omega))]
theorem isC8_f (C : CQ w σ) {x : Int32} (h : ¬ rg x 0 (zL σ)) : f_X8_isCount x w = some (0, w) := by
  have := C.1.2.1
  rw [f_X8_isCount]
  by_cases z : x < 0
  · rw [if_pos z]
  · rw [if_neg z, C.2.1.2.2.1]
    rcases rg_no (by omega) (by omega) h with q | q
    · exact absurd q z
    · rw [if_pos q]
theorem isF8_t {m : Nat} (hm : m ≤ 9) : f_X8_isFullest (nI m) w = some (1, w) := by
  rw [f_X8_isFullest, if_neg (lt0_nI (by omega)), show (9 : Int32) = nI 9 from rfl, if_neg (fun q9 => absurd ((lt_nI (by omega) (by omega)).mp q9) (by omega))]
theorem isF8_f {x : Int32} (h : ¬ rg x 0 9) : f_X8_isFullest x w = some (0, w) := by
  rw [f_X8_isFullest]
  by_cases z : x < 0
  · rw [if_pos z]
  · rw [if_neg z]
    rcases rg_no (by omega) (by omega) h with q | q
    · exact absurd q z
    · exact if_pos q
theorem kd_po {x p : Nat} (hp : p < 6) : kd (fxH x + 4 + 1 + p) = 4 := kd_el33 (kd_3_4 (kd_H x)) hp
theorem CHl.po {p H : Nat} (h : CHl w H σ) (hp : p < zP σ) : PCl w (H + 4 + 1 + p) (zR σ p) (zH σ p) (zG σ p) := by
  obtain ⟨a, b, c⟩ := h.2.2.2.2.2.1 p hp
  exact ⟨a, b, fun q => by rw [c]; unfold paI; rw [if_pos q]⟩
theorem isT8 (C : CQ w σ) {p k : Nat} (hp : p < zP σ) (hk : k < 1000) : f_X8_isTooMany (nI p) (nI k) w = some (if alS (zE σ) (zR σ p) (zG σ p) k ≤ 1000000000000000 then 0 else 1, w) := by
  have h6 := C.1.2.2.1.2
  have hq := C.1.2.2.2.2.1 p
  rw [f_X8_isTooMany, if_pos ((inb_nI (by omega)).mpr (by omega)), ix_nI (by omega), tooMany C.1.1 hq.1.1 hq.1.2 hq.2.1 C.2.1.2.1 (C.2.1.po hp) hk]
  rfl
theorem ltS2_8 (η : HP) (k : Nat) : ltS2 η k ≤ 8 := Nat.min_le_right _ _
theorem ltS2_m {η : HP} {a b : Nat} (h : a ≤ b) : ltS2 η a ≤ ltS2 η b := by unfold ltS2; omega
theorem ltS2_k {η : HP} (k : Nat) : ltS2 η k ≤ k := by unfold ltS2; omega
/-- a row asked for -/
theorem rowQ (C : CQ w σ) {k2 i r h g fl : Nat} (hi : i < 36) (hg1 : 1 ≤ g) (hg : g ≤ 3) (hr : r ≤ 4) (hh : h ≤ 8) (hfl : fl = 0 ∨ fl = 1) (hP : PCl w k2 r h g) (hk2 : kd k2 = 4) (hb : BR w i (zE σ) r h g fl (ltS2 (zE σ) (zL σ))) (h1 : ∀ p, p < zP σ → p = i → zR σ p = r ∧ zH σ p = h ∧ zG σ p = g ∧ fl = 0) (h2 : ∀ g' h', 1 ≤ g' → g' ≤ 3 → h' ≤ 8 → 6 + (g' - 1) * 9 + h' = i → r = 2 ∧ h' = h ∧ g' = g ∧ fl = 0) (h3 : ∀ g', 1 ≤ g' → g' ≤ 3 → 33 + g' - 1 = i → r = 1 ∧ h = 0 ∧ g' = g ∧ fl = 1) : ∃ w', f_X0_rowOf (nI i) k2 (nI fl) w = some (74 + i, w') ∧ ROW w' (74 + i) (zE σ) r h g fl (ltS2 (zE σ) (zL σ)) ∧ KC w w' ∧ CCh w' σ ∧ Sm (L_X0_rowOf k2) R_X0_rowOf w w' := by
  obtain ⟨hs, hC, hr0, ⟨b1, b2, b3⟩, c, d, e⟩ := C
  have hL := hs.2.1
  obtain ⟨w', a1, a2, a3, a4, a5, a6, a7⟩ := rowOf (L := zL σ) hs.1 hg1 hg hr hh hfl hi (by omega) (w := w) ⟨b1, b2, b3⟩ (by rw [hr0]; exact hC.2.2.1) (show PCl w (fxP k2) r h g by rw [fxP_of hk2]; exact hP) hk2 hb
  have K : KC w w' := KC.sm a4 rfl (fun r hr => by simp [R_X0_rowOf]; omega)
  have key : ∀ i' r' h' g' fl', i' < 36 → (i' = i → r' = r ∧ h' = h ∧ g' = g ∧ fl' = fl) → BR w i' (zE σ) r' h' g' fl' (ltS2 (zE σ) (zL σ)) → BR w' i' (zE σ) r' h' g' fl' (ltS2 (zE σ) (zL σ)) := by
    intro i' r' h' g' fl' hi' he hB
    by_cases q : i' = i
    · obtain ⟨rfl, rfl, rfl, rfl⟩ := he q
      subst q
      exact Or.inr ⟨a3, a2⟩
    · exact hB.of (a5 i' q) (fun j => a6 (74 + i') j (by omega) (by omega) (by omega))
  refine ⟨w', a1, a2, K, ⟨?_, ⟨?_, fun v x y z => ?_, a7⟩, fun p hp => key _ _ _ _ _ (by have := hs.2.2.1; omega) (fun q => ?_) (c p hp), fun g' h' x y z => key _ _ _ _ _ (by omega) (fun q => ?_) (d g' h' x y z), fun g' x y => key _ _ _ _ _ (by omega) (fun q => ?_) (e g' x y)⟩, a4⟩
  · rw [K.2 3 (by omega), K.2 0 (by omega)]; exact hr0
  · unfold HX
    rw [K.2 3 (by omega)]
    exact HCl.of3 b1 (fun p j x y => (K.1 p j (by omega) (by omega)).1)
  · rw [a4.I 112 _ (by rfl)]; exact b2 v x y z
  · obtain ⟨x, y, z, u⟩ := h1 p hp q
    exact ⟨x, y, z, u.symm⟩
  · obtain ⟨x, y, z, u⟩ := h2 g' h' x y z q
    exact ⟨x.symm, y, z, u.symm⟩
  · obtain ⟨x, y, z, u⟩ := h3 g' x y q
    exact ⟨x.symm, y.symm, z, u.symm⟩
/-- of a porter -/
theorem rowP (C : CQ w σ) {p : Nat} (hp : p < zP σ) : ∃ w', f_X0_rowOf (nI p) (fxH (gR w 0) + 4 + 1 + p) 0 w = some (74 + p, w') ∧ ROW w' (74 + p) (zE σ) (zR σ p) (zH σ p) (zG σ p) 0 (ltS2 (zE σ) (zL σ)) ∧ KC w w' ∧ CCh w' σ := by
  have h6 := C.1.2.2.1.2
  have hq := C.1.2.2.2.2.1 p
  obtain ⟨w', a1, a2, a3, a4, _⟩ := rowQ C (i := p) (fl := 0) (by omega) hq.1.1 hq.1.2 hq.2.1 hq.2.2 (Or.inl rfl) (C.2.1.po hp) (kd_po (by omega)) (C.2.2.2.2.1 p hp) (fun p' _ e => by subst e; exact ⟨rfl, rfl, rfl, rfl⟩) (fun g' h' x y z e => by omega) (fun g' x y e => by omega)
  exact ⟨w', a1, a2, a3, a4⟩
theorem CCh.oL {w' : GW} (hs : HSok σ) (c : CCh w σ) (o : oL 72 w w') : CCh w' σ := c.of hs (fun p j _ => o.1 p j) (fun p j x y => o.2.2 p j (by omega)) (o.2.1 0) (o.2.1 3)
theorem KC.oL {w' : GW} (o : oL 72 w w') : KC w w' := ⟨fun p j x _ => ⟨o.1 p j, o.2.2 p j (by omega)⟩, fun r _ => o.2.1 r⟩
/-- a row counted -/
theorem countQ (C : CQ w σ) {i r h g k asked x y : Nat} (hi : i < 36) (hg1 : 1 ≤ g) (hg : g ≤ 3) (hk : k ≤ zL σ) (hR : ROW w (74 + i) (zE σ) r h g 0 (ltS2 (zE σ) (zL σ))) (hTM : alS (zE σ) r g k ≤ 1000000000000000) (ha : asked ≤ 7) (hx : x < 1048576) (hy : y < 1048576) (hx6 : asked = 6 → x < 5) : ∃ w' up al, f_X0_count (74 + i) (nI k) (nI asked) (nI x) (nI y) w = some ((), w') ∧ gL w' 72 9 = lN up ∧ gL w' 72 10 = lN al ∧ PF (zE σ) r g (ltS2 (zE σ) k) * al = alS (zE σ) r g (ltS2 (zE σ) k) ∧ PF (zE σ) r g (ltS2 (zE σ) k) * up = EL (zE σ) r h g (ltS2 (zE σ) k) (fun z => wo (zE σ) asked x y (dV z)) ∧ oL 72 w w' := by
  have hL := C.1.2.1
  obtain ⟨t, t1, t2, t3⟩ := hR
  have hm := ltS2_m (η := zE σ) hk
  have hT2 : alS (zE σ) r g (ltS2 (zE σ) k) ≤ 1000000000000000 := Nat.le_trans (alS_m C.1.1 hg1 hg (ltS2_k k)) hTM
  exact count C.1.1 hg1 hg C.2.2.2.1 (ltS2_8 _ _) hi (by omega) hm (t3 _ hm (fun _ => hT2)) t2 hT2 ha hx hy hx6
theorem wo_le {η : HP} (hη : HPok η) {asked x y : Nat} {u : Nat → Nat} (h8 : ∀ c, u c ≤ 8) (hx : asked = 2 → x ≤ 320) : wo η asked x y u ≤ 320 := by
  have j2 := hη.2.1
  have h1 := flM_le h8 (pB η)
  have h2 := emM_le u (pB η)
  have h4 := sqM_le hη h8
  unfold wo
  repeat' split
  all_goals first | omega | skip
  all_goals (have := hx (by assumption); omega)
theorem dV8 (x c : Nat) : dV x c ≤ 8 := by unfold dV; split; exact dU_le x c; omega
/-- a chance, told -/
theorem chance8 (C : CQ w σ) {p k asked x y lo : Nat} (hp : p < zP σ) (hk : k ≤ zL σ) (ha : asked ≤ 7) (hx : x < 1048576) (hy : y < 1048576) (hx6 : asked = 6 → x < 5) (hx2 : asked = 2 → x ≤ 320) (hlo : lo = 0 ∨ lo = 1) : (alS (zE σ) (zR σ p) (zG σ p) k ≤ 1000000000000000 → ∃ w', f_X8_chance (nI p) (nI k) (nI asked) (nI x) (nI y) (nI lo) w = some (lN (low (EL (zE σ) (zR σ p) (zH σ p) (zG σ p) k (fun z => wo (zE σ) asked x y (dV z))) (alS (zE σ) (zR σ p) (zG σ p) k) lo), w') ∧ CCh w' σ ∧ gI w' 0 12 = 0) ∧ (¬ alS (zE σ) (zR σ p) (zG σ p) k ≤ 1000000000000000 → ∃ w', f_X8_chance (nI p) (nI k) (nI asked) (nI x) (nI y) (nI lo) w = some (-1, w') ∧ CCh w' σ ∧ gI w' 0 12 = 3) := by
  have h6 := C.1.2.2.1.2
  have hL := C.1.2.1
  have hq := C.1.2.2.2.2.1 p
  refine ⟨fun h => ?_, fun h => ?_⟩
  · obtain ⟨w1, a1, a2, a3, a4⟩ := rowP C hp
    obtain ⟨w2, up, al, b1, b2, b3, b4, b5, b6⟩ := countQ (C.kc a3 a4) (i := p) (by omega) hq.1.1 hq.1.2 hk a2 h ha hx hy hx6
    obtain ⟨f1, f2, f3⟩ := frac_eq (lo := lo) C.1.1 hq.1.1 hq.1.2 (show k ≤ 8 by omega) b4 b5
    have hal : al ≤ 1000000000000000 := by
      have := Nat.le_mul_of_pos_left al (PF_pos (η := zE σ) (r := zR σ p) hq.1.1 (ltS2 (zE σ) k))
      have h7 := alS_m (r := zR σ p) C.1.1 hq.1.1 hq.1.2 (ltS2_k (η := zE σ) k)
      omega
    have hup : up ≤ 320 * al := up_le C.1.1 hq.1.1 hq.1.2 (G := fun u => wo (zE σ) asked x y u) (fun z _ => wo_le C.1.1 (dV8 z) hx2) b4 b5
    refine ⟨sI w2 0 12 0, ?_, (a4.oL C.1 b6).tr C.1, by rw [gI_sI, if_pos ⟨rfl, rfl⟩]⟩
    rw [f_X8_chance, isT8 C hp (by omega), if_pos h, bind_some', if_pos rfl, if_pos ((inb_nI (by omega)).mpr (by omega)), ix_nI (by omega), a1, bind_some']
    dsimp only
    rw [b1, bind_some']
    dsimp only
    rw [b2, b3, told (by omega) (by omega) f1 hlo, bind_some', f3]
  · refine ⟨sI w 0 12 3, ?_, C.2.2.tr C.1, by rw [gI_sI, if_pos ⟨rfl, rfl⟩]⟩
    rw [f_X8_chance, isT8 C hp (by omega), if_neg h, bind_some', if_neg one_ne]
    rfl
end CQ8
