/-! questions to the reference -/
section MQ9
variable {σ : HS} {w : GW}
theorem pB_m1 {n : Nat} (h : 1 ≤ n) : nI n - 1 = nI (n - 1) := by
  obtain ⟨m, rfl⟩ : ∃ m, n = m + 1 := ⟨n - 1, by omega⟩
  rw [nI_pred, Nat.add_sub_cancel]
theorem isP9_t (hs : HSok σ) (M : MHl w σ) {p : Nat} (hp : p < zP σ) : f_X9_isPorter (nI p) w = some (1, w) := by
  have := hs.2.2.1
  rw [f_X9_isPorter, M.1, if_neg one_ne, if_pos (show inb _ _ from by decide), show ix (17 : Int32) = 17 from by decide, M.2.2.2.1, pB_m1 (by omega), w9t (lo := 0) (hi := zP σ - 1) (by omega) (by omega) (by rfl) (by rfl) (by omega), bind_some', if_neg one_ne]
theorem isP9_f (hs : HSok σ) (M : MHl w σ) {x : Int32} (h : ¬ rg x 0 (zP σ - 1)) : f_X9_isPorter x w = some (0, w) := by
  have := hs.2.2.1
  rw [f_X9_isPorter, M.1, if_neg one_ne, if_pos (show inb _ _ from by decide), show ix (17 : Int32) = 17 from by decide, M.2.2.2.1, pB_m1 (by omega)]
  rw [show f_X9_within x 0 (nI (zP σ - 1)) w = some (0, w) from within9_f (lo := 0) (by omega) (by omega) h, bind_some', if_pos rfl]
theorem isB9_t (hs : HSok σ) (M : MHl w σ) {b : Nat} (hb : b < pB (zE σ)) : f_X9_isBox (nI b) w = some (1, w) := by
  have := hs.1.2.1
  rw [f_X9_isBox, M.1, if_neg one_ne, if_pos (show inb _ _ from by decide), show ix (0 : Int32) = 0 from by decide, M.2.1.1, pB_m1 (by omega), w9t (lo := 0) (hi := pB (zE σ) - 1) (by omega) (by omega) (by rfl) (by rfl) (by omega), bind_some', if_neg one_ne]
theorem isB9_f (hs : HSok σ) (M : MHl w σ) {x : Int32} (h : ¬ rg x 0 (pB (zE σ) - 1)) : f_X9_isBox x w = some (0, w) := by
  have := hs.1.2.1
  have := hs.1.1
  rw [f_X9_isBox, M.1, if_neg one_ne, if_pos (show inb _ _ from by decide), show ix (0 : Int32) = 0 from by decide, M.2.1.1, pB_m1 (by omega)]
  rw [show f_X9_within x 0 (nI (pB (zE σ) - 1)) w = some (0, w) from within9_f (lo := 0) (by omega) (by omega) h, bind_some', if_pos rfl]
/-- the reference's table -/
def TQ (w : GW) (η : HP) (r h g k : Nat) : Prop := ∃ N key way, FT w N key way ∧ (∀ z, (∃ s, s < N ∧ key s = z) ↔ RK η r h g k z) ∧ (∀ G, tot N key way G = EL η r h g k G) ∧ gL w 130 30 = lN (alS η r g k)
theorem TQ.sm {L : List (Nat × Nat × Nat)} {R : List Nat} {w' : GW} {η : HP} {r h g k : Nat} (H : TQ w η r h g k) (S : Sm L R w w') (h1 : md L 130 28 = false) (h2 : ∀ j, md L 139 j = false) (h3 : ∀ j, md L 142 j = false) (h4 : md L 130 30 = false) : TQ w' η r h g k := by
  obtain ⟨N, key, way, a, b, c, d⟩ := H
  exact ⟨N, key, way, a.sm S h1 h2 h3, b, c, by rw [S.L 130 30 h4]; exact d⟩
theorem laysQ (hs : HSok σ) (M : MHl w σ) {r h g k : Nat} {y : Int32} (hg1 : 1 ≤ g) (hg : g ≤ 3) (hr : r ≤ 4) (hh : h ≤ 8) (hy : r = 2 → y = nI h) (hk : k ≤ 8) : (alS (zE σ) r g k ≤ 1000000000000000 → ∃ w', f_X9_lays (nI r) y (nI g) (nI k) 1 w = some (1, w') ∧ TQ w' (zE σ) r h g k) ∧ (¬ alS (zE σ) r g k ≤ 1000000000000000 → ∃ w', f_X9_lays (nI r) y (nI g) (nI k) 1 w = some (0, w')) := by
  have e := twS_1 (r := r) hs.1 hg1 hg k
  rcases lays hcap_ok (w := w) hs.1 M.2.1 hg1 hg hr hh hy hk with ⟨h1, w', h2⟩ | ⟨a, w', N, key, way, h1, h2, h3, h4, h5, h6, h7, h8⟩
  · refine ⟨fun z => ?_, fun _ => ⟨w', h2⟩⟩
    rw [h1, if_pos z] at e
    cases e
  · refine ⟨fun z => ⟨w', h3, N, key, way, h4, h5, h6, ?_⟩, fun z => ?_⟩
    · rw [h1, if_pos z] at e
      cases e
      exact h8
    · rw [h1, if_neg z] at e
      cases e
theorem laysBy9 (hs : HSok σ) (M : MHl w σ) {p k : Nat} (hp : p < zP σ) (hk : k ≤ 8) : (alS (zE σ) (zR σ p) (zG σ p) k ≤ 1000000000000000 → ∃ w', f_X9_laysBy (nI p) (nI k) w = some (1, w') ∧ TQ w' (zE σ) (zR σ p) (zH σ p) (zG σ p) k) ∧ (¬ alS (zE σ) (zR σ p) (zG σ p) k ≤ 1000000000000000 → ∃ w', f_X9_laysBy (nI p) (nI k) w = some (0, w')) := by
  have h6 := hs.2.2.1.2
  have hq := hs.2.2.2.2.1 p
  obtain ⟨m1, m2, m3⟩ := M.2.2.2.2.2.1 p hp
  obtain ⟨l1, l2⟩ := laysQ (w := w) (r := zR σ p) (h := zH σ p) (y := paI (zR σ p) (zH σ p)) hs M hq.1.1 hq.1.2 hq.2.1 hq.2.2 (fun z => if_pos z) hk
  have e : f_X9_laysBy (nI p) (nI k) w = (f_X9_lays (nI (zR σ p)) (paI (zR σ p) (zH σ p)) (nI (zG σ p)) (nI k) 1 w).bind fun q4 => some (q4.1, q4.2) := by
    rw [f_X9_laysBy, show (24 : Int32) = nI 24 from rfl, show (30 : Int32) = nI 30 from rfl, show (18 : Int32) = nI 18 from rfl, nI_add, nI_add, nI_add, if_pos ((inb_nI (by omega)).mpr (by omega)), if_pos ((inb_nI (by omega)).mpr (by omega)), if_pos ((inb_nI (by omega)).mpr (by omega)), ix_nI (by omega), ix_nI (by omega), ix_nI (by omega), m1, m2, m3]
  refine ⟨fun z => ?_, fun z => ?_⟩
  · obtain ⟨w', a, b⟩ := l1 z
    exact ⟨w', by rw [e, a]; rfl, b⟩
  · obtain ⟨w', a⟩ := l2 z
    exact ⟨w', by rw [e, a]; rfl⟩
theorem why_p (hs : HSok σ) (M : MHl w σ) {x k : Int32} {o : Int32} (h : ¬ rg x 0 (zP σ - 1)) : f_X9_chanceWhy x k o w = some (1, w) := by
  rw [f_X9_chanceWhy, isP9_f hs M h, bind_some', if_pos rfl]
theorem why_k (hs : HSok σ) (M : MHl w σ) {p : Nat} {k o : Int32} (hp : p < zP σ) (h : ¬ rg k 0 (zL σ)) : f_X9_chanceWhy (nI p) k o w = some (2, w) := by
  have := hs.2.1
  rw [f_X9_chanceWhy, isP9_t hs M hp, bind_some', if_neg one_ne, if_pos (show inb _ _ from by decide), show ix (1 : Int32) = 1 from by decide, M.2.2.1]
  rw [show f_X9_within k 0 (nI (zL σ)) w = some (0, w) from within9_f (lo := 0) (by omega) (by omega) h, bind_some', if_pos rfl]
theorem why_o (hs : HSok σ) (M : MHl w σ) {p k : Nat} (hp : p < zP σ) (hk : k ≤ zL σ) : f_X9_chanceWhy (nI p) (nI k) 0 w = some (2, w) := by
  have := hs.2.1
  rw [f_X9_chanceWhy, isP9_t hs M hp, bind_some', if_neg one_ne, if_pos (show inb _ _ from by decide), show ix (1 : Int32) = 1 from by decide, M.2.2.1]
  rw [show f_X9_within (nI k) 0 (nI (zL σ)) w = some (1, w) from within9_t (lo := 0) (by omega) hk (by omega), bind_some', if_neg one_ne, if_pos rfl]
theorem why_g (hs : HSok σ) (M : MHl w σ) {p k : Nat} (hp : p < zP σ) (hk : k ≤ zL σ) : (alS (zE σ) (zR σ p) (zG σ p) k ≤ 1000000000000000 → ∃ w', f_X9_chanceWhy (nI p) (nI k) 1 w = some (0, w') ∧ TQ w' (zE σ) (zR σ p) (zH σ p) (zG σ p) k) ∧ (¬ alS (zE σ) (zR σ p) (zG σ p) k ≤ 1000000000000000 → ∃ w', f_X9_chanceWhy (nI p) (nI k) 1 w = some (3, w')) := by
  have := hs.2.1
  obtain ⟨l1, l2⟩ := laysBy9 hs M hp (show k ≤ 8 by omega)
  have e : f_X9_chanceWhy (nI p) (nI k) 1 w = (f_X9_laysBy (nI p) (nI k) w).bind fun q11 => if q11.1 = 0 then some (3, q11.2) else some (0, q11.2) := by
    rw [f_X9_chanceWhy, isP9_t hs M hp, bind_some', if_neg one_ne, if_pos (show inb _ _ from by decide), show ix (1 : Int32) = 1 from by decide, M.2.2.1]
    rw [show f_X9_within (nI k) 0 (nI (zL σ)) w = some (1, w) from within9_t (lo := 0) (by omega) hk (by omega), bind_some', if_neg one_ne, if_neg one_ne]
  refine ⟨fun z => ?_, fun z => ?_⟩
  · obtain ⟨w', a, b⟩ := l1 z
    exact ⟨w', by rw [e, a, bind_some', if_neg one_ne], b⟩
  · obtain ⟨w', a⟩ := l2 z
    exact ⟨w', by rw [e, a, bind_some', if_pos rfl]⟩
/-- behind good -/
def gd9 (w : GW) : GW := sI (sI w 130 0 0) 130 11 0
theorem good9 : f_X9_good w = some ((), gd9 w) := rfl
theorem MHl.gd (M : MHl w σ) : MHl (gd9 w) σ := M.of rfl (fun _ => rfl)
theorem gd9_t : gI (gd9 w) 130 11 = 0 := rfl
theorem no9 (x : Int32) : f_X9_no x w = some (-1, sI w 130 11 x) := rfl
theorem EL_lt (hs : HSok σ) {r h g k B : Nat} (hg1 : 1 ≤ g) (hg : g ≤ 3) {G : Nat → Nat} (hG : ∀ x, RK (zE σ) r h g k x → G x ≤ B) : EL (zE σ) r h g k G ≤ B * alS (zE σ) r g k := by
  have e1 : EL (zE σ) r h g k G ≤ EL (zE σ) r h g k (fun _ => B * 1) := EL_le (fun x hx => by rw [Nat.mul_one]; exact hG x hx)
  rw [EL_mul, EL_1 hs.1 hg1 hg] at e1
  exact e1
theorem alS_p (hs : HSok σ) {r g : Nat} (hg1 : 1 ≤ g) (hg : g ≤ 3) (k : Nat) : 0 < alS (zE σ) r g k := by
  have := alS_m (r := r) hs.1 hg1 hg (Nat.zero_le k)
  rw [alS] at this
  omega
end MQ9
