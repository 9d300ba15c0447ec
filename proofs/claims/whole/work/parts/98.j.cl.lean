/-! what changes a day: frames and the way back to the invariant -/
/-- what a call to the class that changes the day or the marks leaves -/
def KD (w w' : GW) : Prop := (∀ p j, p ≤ 68 ∨ 130 ≤ p ∨ (110 ≤ p ∧ p ≤ 113) → ¬ (p = 0 ∧ (j = 11 ∨ j = 12)) → gI w' p j = gI w p j) ∧ (∀ p j, (74 ≤ p ∧ p < 110) ∨ 130 ≤ p → gL w' p j = gL w p j) ∧ ∀ r, r < 4 → gR w' r = gR w r
def qD (L : List (Nat × Nat × Nat)) : Bool := L.all (fun q => (decide (q.1 = 0) && decide (q.2.1 = 1) && (decide (q.2.2 = 12) || decide (q.2.2 = 13))) || (decide (69 ≤ q.1) && decide (q.2.1 ≤ 74)) || (decide (114 ≤ q.1) && decide (q.2.1 ≤ 130)))
theorem md_d {L : List (Nat × Nat × Nat)} (h : qD L = true) {k j : Nat} (hk : k ≤ 68 ∨ 130 ≤ k ∨ (74 ≤ k ∧ k ≤ 113)) (h0 : ¬ (k = 0 ∧ (j = 11 ∨ j = 12))) : md L k j = false := by
  cases hm : md L k j with
  | false => rfl
  | true =>
    obtain ⟨q, hq, a, b, c⟩ := md_ex hm
    have := List.all_eq_true.mp h q hq
    simp only [Bool.and_eq_true, Bool.or_eq_true, decide_eq_true_eq] at this
    omega
theorem KD.sm {L : List (Nat × Nat × Nat)} {R : List Nat} {w w' : GW} (S : Sm L R w w') (h : qD L = true) (hr : ∀ r, r < 4 → r ∉ R) : KD w w' := ⟨fun p j x y => S.I p j (md_d h (by omega) y), fun p j x => S.L p j (md_d h (by omega) (by omega)), fun r x => S.2 r (hr r x)⟩
/-- and of the reference -/
def KE (w w' : GW) : Prop := (∀ p j, p ≤ 129 ∨ (131 ≤ p ∧ p ≤ 134) ∨ (p = 130 ∧ (j = 2 ∨ j = 9 ∨ j = 10 ∨ j = 14)) → gI w' p j = gI w p j ∧ gL w' p j = gL w p j) ∧ ∀ r, gR w' r = gR w r
def qE (L : List (Nat × Nat × Nat)) : Bool := L.all (fun q => (decide (q.1 = 130) && decide (q.2.1 = 131) && decide (q.2.2 ≠ 0) && decide (q.2.2 ≠ 3) && decide (q.2.2 ≠ 10) && decide (q.2.2 ≠ 11) && decide (q.2.2 ≠ 15)) || decide (135 ≤ q.1))
theorem KE.sm {L : List (Nat × Nat × Nat)} {R : List Nat} {w w' : GW} (S : Sm L R w w') (h : qE L = true) (hr : R = []) : KE w w' := by
  refine ⟨fun p j x => S.1 p j ?_, fun r => S.2 r (by rw [hr]; exact List.not_mem_nil)⟩
  cases hm : md L p j with
  | false => rfl
  | true =>
    obtain ⟨q, hq, a, b, c⟩ := md_ex hm
    have := List.all_eq_true.mp h q hq
    simp only [Bool.and_eq_true, Bool.or_eq_true, decide_eq_true_eq] at this
    omega
theorem MHl.kd {w w' : GW} {σ : HS} (h : MHl w σ) (k : KD w w') : MHl w' σ := h.of (k.1 130 14 (by omega) (by omega)) (fun j => k.1 133 j (by omega) (by omega))
theorem MHl.ke {w w' : GW} {σ : HS} (h : MHl w σ) (k : KE w w') : MHl w' σ := h.of (k.1 130 14 (by omega)).1 (fun j => (k.1 133 j (by omega)).1)
theorem DYm.kd {w w' : GW} {k o : Nat} {d : DS} (H : DYm w k o d) (K : KD w w') (hk : 130 ≤ k) : DYm w' k o d := H.of (fun j => K.1 k j (by omega) (by omega))
theorem JJ.cl {w w1 w2 : GW} {σ : HS} {d : DS} {mk : Nat} {ms : Nat → DS} (T : JTx w) (hC : CHl w (fxH (gR w 0)) σ) (hX : CCh w σ) (hM : MHl w σ) (K : KD w w1) (E : KE w1 w2) {t : Int32} (t1 : gI w1 0 12 = t) (t2 : gI w2 130 11 = t) (t4 : t ≠ 4) (S : SOK σ d mk ms) (c1 : DYc w1 121 d) (c2 : gI w1 0 11 = nI mk) (c3 : ∀ i, i < mk → DYc w1 (124 + 2 * i) (ms i)) (m1 : DYm w2 135 0 d) (m2 : gI w2 130 19 = nI mk) (m3 : ∀ i, i < mk → DYm w2 136 (9 * i) (ms i)) : JJ w2 := by
  have hmk := S.2.2.1
  have hs := S.1
  obtain ⟨⟨n, a, b, c, d'⟩, e, f, g, h⟩ := T
  have k : ∀ p j, (1 ≤ p ∧ p ≤ 3) ∨ p = 131 ∨ (p = 130 ∧ (j = 2 ∨ j = 9 ∨ j = 10)) → gI w2 p j = gI w p j := fun p j x => by
    rw [(E.1 p j (by omega)).1, K.1 p j (by omega) (by omega)]
  have ht : gI w2 0 12 = t := by rw [(E.1 0 12 (by omega)).1]; exact t1
  have r : ∀ r, r < 4 → gR w2 r = gR w r := fun r hr => by rw [E.2, K.2.2 r hr]
  refine ⟨⟨⟨n, a, by rw [k _ _ (by omega)]; exact b, by rw [k _ _ (by omega)]; exact c, fun j hj => by rw [k _ _ (by omega), k _ _ (by omega)]; exact d' j hj⟩, ?_, by rw [ht, t2], fun q => by rw [ht] at q; exact absurd q t4, ?_⟩, Or.inl ⟨σ, d, mk, ms, S, ⟨?_, ?_, ?_, ?_, fun i hi => ?_⟩, (hM.kd K).ke E, m1, m2, m3⟩⟩
  · rw [k _ _ (by omega), k _ _ (by omega)]; exact e
  · rw [r 0 (by omega), r 1 (by omega)]; exact h
  · rw [r 0 (by omega)]
    exact hC.of hs.2.2.1.2 hs.2.2.2.1 (fun p j x y => by rw [(E.1 p j (by omega)).1, K.1 p j (by omega) (by omega)])
  · exact hX.of hs (fun p j x => by rw [(E.1 p j (by omega)).1, K.1 p j (by omega) (by omega)]) (fun p j x y => by rw [(E.1 p j (by omega)).2, K.2.1 p j (by omega)]) (r 0 (by omega)) (r 3 (by omega))
  · exact c1.of (fun j => (E.1 121 j (by omega)).1) (fun j => (E.1 122 j (by omega)).1)
  · rw [(E.1 0 11 (by omega)).1]; exact c2
  · exact (c3 i hi).of (fun j => (E.1 _ j (by omega)).1) (fun j => (E.1 _ j (by omega)).1)
/-- only the reference's flag of a throw -/
theorem JJ.th {w : GW} (H : JJ w) (x : Int32) : JJ (sI w 130 0 x) := by
  have g : ∀ p j, ¬ (p = 130 ∧ j = 0) → gI (sI w 130 0 x) p j = gI w p j := fun p j h => by rw [gI_sI, if_neg h]
  obtain ⟨⟨⟨n, a, b, c, d'⟩, e, f, gg, h⟩, H⟩ := H
  have hz := fxH_z (gR w 0)
  refine ⟨⟨⟨n, a, by rw [g _ _ (by omega)]; exact b, by rw [g _ _ (by omega)]; exact c, fun j hj => by rw [g _ _ (by omega), g _ _ (by omega)]; exact d' j hj⟩, by rw [g _ _ (by omega), g _ _ (by omega)]; exact e, by rw [g _ _ (by omega), g _ _ (by omega)]; exact f, fun q => ?_, h⟩, ?_⟩
  · rw [g _ _ (by omega)] at q
    rw [g _ _ (by omega), g _ _ (by omega)]; exact gg q
  · rcases H with ⟨σ, d, mk, ms, S, C, M⟩ | ⟨z1, z2, z3, z4, z5⟩
    · have hmk := S.2.2.1
      refine Or.inl ⟨σ, d, mk, ms, S, ⟨?_, ?_, ?_, ?_, fun i hi => ?_⟩, ?_, ?_, ?_, fun i hi => ?_⟩
      · exact C.1.of S.1.2.2.1.2 S.1.2.2.2.1 (fun p j _ _ => g p j (by omega))
      · exact C.2.1.of S.1 (fun p j _ => g p j (by omega)) (fun _ _ _ _ => rfl) rfl rfl
      · exact C.2.2.1.of (fun j => g _ j (by omega)) (fun j => g _ j (by omega))
      · rw [g _ _ (by omega)]; exact C.2.2.2.1
      · exact (C.2.2.2.2 i hi).of (fun j => g _ j (by omega)) (fun j => g _ j (by omega))
      · exact M.1.of (g _ _ (by omega)) (fun j => g _ j (by omega))
      · exact M.2.1.of (fun j => g _ j (by omega))
      · rw [g _ _ (by omega)]; exact M.2.2.1
      · exact (M.2.2.2 i hi).of (fun j => g _ j (by omega))
    · refine Or.inr ⟨fun j hj => ?_, ?_, ?_, ?_, fun j hj => ?_⟩
      · show gI (sI w 130 0 x) (fxH (gR w 0)) j = 0
        rw [g _ _ (by omega)]; exact z1 j hj
      · rw [g _ _ (by omega)]; exact z2
      · rw [g _ _ (by omega)]; exact z3
      · rw [g _ _ (by omega)]; exact z4
      · rw [g _ _ (by omega)]; exact z5 j hj
section DD
variable {σ : HS} {w : GW}
/-- a day begun -/
def d0S (p s : Nat) : DS := (p, s, 0, 0, fun _ => 0)
theorem d0_ok (_hs : HSok σ) {p s : Nat} (hp : p < zP σ) (h : s < 65537) : DOK σ (d0S p s) := ⟨hp, h, Nat.zero_le _, Nat.zero_le _, fun _ => rfl, by show su (fun _ => 0) ≤ 0; rw [su_5]; exact Nat.le_refl _, fun _ _ => rfl⟩
theorem begin8 {p s : Nat} : ∃ w', f_X2_begin 121 (nI p) (nI s) w = some ((), w') ∧ DYc w' 121 (d0S p s) := by
  have key : ∀ t i n (w : GW), i + t = 5 → t < n → gI w 121 0 = nI p → gI w 121 1 = nI s → gI w 121 2 = 0 → gI w 121 3 = 0 → gI w 121 4 = 0 → (∀ b, b < i → gI w 122 b = 0) → ∃ w', f_X2_begin_27 n 121 (nI i) w = some ((), w') ∧ DYc w' 121 (d0S p s) := by
    intro t
    induction t with
    | zero =>
      intro i n w hi hn h0 h1 h2 h3 h4 h5
      obtain ⟨n, rfl⟩ : ∃ m9, n = m9 + 1 := ⟨n - 1, by omega⟩
      exact ⟨w, by rw [f_X2_begin_27, show (5 : Int32) = nI 5 from rfl, if_pos ((le_nI (by omega) (by omega)).mpr (by omega))], h0, h1, h2, h3, h4, fun b hb => h5 b (by omega)⟩
    | succ t ih =>
      intro i n w hi hn h0 h1 h2 h3 h4 h5
      obtain ⟨n, rfl⟩ : ∃ m9, n = m9 + 1 := ⟨n - 1, by omega⟩
      rw [f_X2_begin_27, show (5 : Int32) = nI 5 from rfl, if_neg (fun q9 => absurd ((le_nI (by omega) (by omega)).mp q9) (by omega)), if_pos ((inb_nI (by omega)).mpr (by omega)), ix_nI (by omega), nI_1]
      refine ih (i + 1) n _ (by omega) (by omega) ?_ ?_ ?_ ?_ ?_ (fun b hb => ?_)
      · rw [gI_sI, if_neg (by omega)]; exact h0
      · rw [gI_sI, if_neg (by omega)]; exact h1
      · rw [gI_sI, if_neg (by omega)]; exact h2
      · rw [gI_sI, if_neg (by omega)]; exact h3
      · rw [gI_sI, if_neg (by omega)]; exact h4
      · rw [gI_sI]
        by_cases z : b = i
        · rw [if_pos ⟨rfl, z⟩]
        · rw [if_neg (fun y => z y.2)]; exact h5 b (by omega)
  rw [f_X2_begin, show (0 : Int32) = nI 0 from rfl]
  refine key 5 0 fu _ (by omega) (fu_gt (by omega)) ?_ ?_ ?_ ?_ ?_ (fun b hb => by omega)
  · rw [gI_sI, if_neg (by omega), gI_sI, if_neg (by omega), gI_sI, if_neg (by omega), gI_sI, if_neg (by omega), gI_same]
  · rw [gI_sI, if_neg (by omega), gI_sI, if_neg (by omega), gI_sI, if_neg (by omega), gI_same]
  · rw [gI_sI, if_neg (by omega), gI_sI, if_neg (by omega), gI_same]; rfl
  · rw [gI_sI, if_neg (by omega), gI_same]; rfl
  · rw [gI_same]; rfl
theorem begin9 {p s : Nat} : ∃ w', f_X9_begin (nI p) (nI s) w = some ((), w') ∧ DYm w' 135 0 (d0S p s) := by
  have key : ∀ t i n (w : GW), i + t = 9 → t < n → (∀ b, b < i → gI w 135 b = 0) → ∃ w', f_X9_begin_2 n (nI p) (nI s) (nI i) w = some ((), w') ∧ DYm w' 135 0 (d0S p s) := by
    intro t
    induction t with
    | zero =>
      intro i n w hi hn h
      obtain ⟨n, rfl⟩ : ∃ m9, n = m9 + 1 := ⟨n - 1, by omega⟩
      rw [f_X9_begin_2, show (9 : Int32) = nI 9 from rfl, if_pos ((le_nI (by omega) (by omega)).mpr (by omega)), if_pos (show inb _ _ from by decide), if_pos (show inb _ _ from by decide), if_pos (show inb _ _ from by decide), show ix (5 : Int32) = 5 from by decide, show ix (7 : Int32) = 7 from by decide, show ix (8 : Int32) = 8 from by decide]
      refine ⟨_, rfl, fun b hb => ?_, ?_, ?_, ?_, ?_⟩
      · rw [gI_sI, if_neg (by omega), gI_sI, if_neg (by omega), gI_sI, if_neg (by omega)]; exact h _ (by omega)
      · rw [gI_sI, if_neg (by omega), gI_sI, if_neg (by omega), gI_same]; rfl
      · rw [gI_sI, if_neg (by omega), gI_sI, if_neg (by omega), gI_sI, if_neg (by omega)]; exact h _ (by omega)
      · rw [gI_sI, if_neg (by omega), gI_same]; rfl
      · rw [gI_same]; rfl
    | succ t ih =>
      intro i n w hi hn h
      obtain ⟨n, rfl⟩ : ∃ m9, n = m9 + 1 := ⟨n - 1, by omega⟩
      rw [f_X9_begin_2, show (9 : Int32) = nI 9 from rfl, if_neg (fun q9 => absurd ((le_nI (by omega) (by omega)).mp q9) (by omega)), if_pos ((inb_nI (by omega)).mpr (by omega)), ix_nI (by omega), nI_1]
      refine ih (i + 1) n _ (by omega) (by omega) (fun b hb => ?_)
      rw [gI_sI]
      by_cases z : b = i
      · rw [if_pos ⟨rfl, z⟩]
      · rw [if_neg (fun y => z y.2)]; exact h b (by omega)
  rw [f_X9_begin, show (0 : Int32) = nI 0 from rfl]
  exact key 9 0 fu w (by omega) (fu_gt (by omega)) (fun b hb => by omega)
theorem QAg.mkD {α : Type} {f8 f9 : GW → Option (α × GW)} {d : DS} (M : MHl w σ) (D : DYm w 135 0 d) (v : α) (t : Int32) (h8 : ∃ w1, f8 w = some (v, w1) ∧ CCh w1 σ ∧ gI w1 0 12 = t) (k : ∀ z, f8 w = some z → KC w z.2) (h9 : ∀ w1, MHl w1 σ → DYm w1 135 0 d → ∃ w2, f9 w1 = some (v, w2) ∧ gI w2 130 11 = t) (ht : t ≠ 4 := by decide) : QAg w σ f8 f9 := by
  obtain ⟨w1, a, b, c⟩ := h8
  obtain ⟨w2, e, f⟩ := h9 w1 (M.kc (k _ a)) (D.kc (k _ a) (by omega))
  exact ⟨v, w1, w2, t, a, b, c, e, f, ht⟩
theorem q_box (C : CQ w σ) (M : MHl w σ) {d : DS} (D : DYc w 121 d) (D9 : DYm w 135 0 d) (x : Int32) : QAg w σ (f_X8_box x) (f_X9_box x) := by
  have hs := C.1
  have hB0 := hs.1.1
  have hB5 := hs.1.2.1
  have K : ∀ z, f_X8_box x w = some z → KC w z.2 := fun z hz => KC.sm (fr_X8_box _ _ hz) (by decide) (by decide)
  rcases rg_em x 0 (pB (zE σ) - 1) with ⟨b, _, hb, rfl⟩ | h1
  rotate_left
  · refine QAg.mk M (-1) 1 (rf8 C ?_) K (fun w1 M1 => ?_)
    · rw [f_X8_box, isB8_f C h1, bind_some', if_pos rfl]; rfl
    · refine rf9 (w0 := gd9 w1) ?_
      rw [f_X9_box, good9, bind_some', isB9_f hs M1.gd h1, bind_some', if_pos rfl]; rfl
  refine QAg.mkD M D9 (nI (yU d b)) 0 ⟨sI w 0 12 0, ?_, C.2.2.tr C.1, gI_same _ _ _ _⟩ K (fun w1 M1 D1 => ?_)
  · rw [f_X8_box, isB8_t C (by omega), bind_some', if_neg one_ne, if_pos ((inb_nI (by omega)).mpr (by omega)), ix_nI (by omega)]
    show (f_X8_fine (gI w 122 b) w).bind _ = _
    rw [D.2.2.2.2.2 b (by omega)]; rfl
  · refine ⟨gd9 w1, ?_, gd9_t⟩
    rw [f_X9_box, good9, bind_some', isB9_t hs M1.gd (by omega), bind_some', if_neg one_ne, if_pos ((inb_nI (by omega)).mpr (by omega)), ix_nI (by omega)]
    have := D1.1 b (by omega)
    rw [Nat.zero_add] at this
    show some (gI w1 135 b, gd9 w1) = _
    rw [this]
theorem q_recall (C : CQ w σ) (M : MHl w σ) {d : DS} (h : DOK σ d) (D : DYc w 121 d) (D9 : DYm w 135 0 d) : QAg w σ f_X8_recall f_X9_recall := by
  have K : ∀ z, f_X8_recall w = some z → KC w z.2 := fun z hz => KC.sm (fr_X8_recall _ hz) (by decide) (by decide)
  have hk := h.2.2.2.1
  refine QAg.mkD M D9 (kpI (yK d)) 0 ⟨sI w 0 12 0, ?_, C.2.2.tr C.1, gI_same _ _ _ _⟩ K (fun w1 M1 D1 => ?_)
  · rw [f_X8_recall, C.2.1.1, if_neg one_ne, D.2.2.2.2.1]
    by_cases z : yK d = 0
    · rw [if_pos ((eq0 (by omega)).mpr z)]
      unfold kpI
      rw [if_pos z]; rfl
    · rw [if_neg (fun y => z ((eq0 (by omega)).mp y)), pB_m1 (by omega)]
      unfold kpI
      rw [if_neg z]; rfl
  · refine ⟨gd9 w1, ?_, gd9_t⟩
    rw [f_X9_recall, good9, bind_some', show gI (gd9 w1) 130 14 = 1 from M1.gd.1, if_neg one_ne, if_pos (show inb _ _ from by decide), show ix (7 : Int32) = 7 from by decide]
    have := D1.2.2.2.1
    rw [Nat.zero_add] at this
    show some (gI w1 135 7, gd9 w1) = _
    rw [this]
theorem q_porter (C : CQ w σ) (M : MHl w σ) (x y : Int32) : QAg w σ (f_X8_porter x y) (f_X9_porter x y) := by
  have hs := C.1
  have h6 := hs.2.2.1
  have K : ∀ z, f_X8_porter x y w = some z → KC w z.2 := fun z hz => KC.sm (fr_X8_porter _ _ _ hz) (by decide) (by decide)
  rcases rg_em x 0 (zP σ - 1) with ⟨p, _, hp, rfl⟩ | h1
  rotate_left
  · refine QAg.mk M (-1) 1 (rf8 C ?_) K (fun w1 M1 => ?_)
    · rw [f_X8_porter, isP8_f C h1, bind_some', if_pos rfl]; rfl
    · refine rf9 (w0 := gd9 w1) ?_
      rw [f_X9_porter, good9, bind_some', isP9_f hs M1.gd h1, bind_some', if_pos rfl]; rfl
  have hp : p < zP σ := by omega
  rcases rg_em y 0 2 with ⟨k, _, hk, rfl⟩ | h2
  rotate_left
  · refine QAg.mk M (-1) 1 (rf8 C ?_) K (fun w1 M1 => ?_)
    · rw [f_X8_porter, isP8_t C hp, bind_some', if_neg one_ne]
      dsimp only
      rw [rg_ite h2 (by rfl) (by rfl) (by omega) (by omega)]; rfl
    · refine rf9 (w0 := gd9 w1) ?_
      rw [f_X9_porter, good9, bind_some', isP9_t hs M1.gd hp, bind_some', if_neg one_ne, w9f h2 (by rfl) (by rfl) (by omega) (by omega), bind_some', if_pos rfl]; rfl
  obtain ⟨c1, c2, c3⟩ := C.2.1.2.2.2.2.2.1 p hp
  have e8 : f_X8_porter (nI p) (nI k) w = if nI k = 0 then f_X8_porter_61 (nI (zG σ p)) w else if nI k = 1 then f_X8_porter_61 (nI (zR σ p)) w else f_X8_porter_61 (paI (zR σ p) (zH σ p)) w := by
    rw [f_X8_porter, isP8_t C hp, bind_some', if_neg one_ne]
    dsimp only
    rw [rg_itt (lo := 0) (hi := 2) (by omega) hk (by rfl) (by rfl) (by omega), if_pos ((inb_nI (by omega)).mpr (by omega)), ix_nI (by omega), c1, c2, c3]
  have e9 : ∀ w1, MHl w1 σ → f_X9_porter (nI p) (nI k) w1 = if nI k = 0 then some (nI (zG σ p), gd9 w1) else if nI k = 1 then some (nI (zR σ p), gd9 w1) else some (paI (zR σ p) (zH σ p), gd9 w1) := by
    intro w1 M1
    obtain ⟨m1, m2, m3⟩ := M1.gd.2.2.2.2.2.1 p hp
    rw [f_X9_porter, good9, bind_some', isP9_t hs M1.gd hp, bind_some', if_neg one_ne, w9t (lo := 0) (hi := 2) (by omega) hk (by rfl) (by rfl) (by omega), bind_some', if_neg one_ne, f_X9_porter_46, f_X9_porter_46, f_X9_porter_46, show (18 : Int32) = nI 18 from rfl, show (24 : Int32) = nI 24 from rfl, show (30 : Int32) = nI 30 from rfl, nI_add, nI_add, nI_add, if_pos ((inb_nI (by omega)).mpr (by omega)), if_pos ((inb_nI (by omega)).mpr (by omega)), if_pos ((inb_nI (by omega)).mpr (by omega)), ix_nI (by omega), ix_nI (by omega), ix_nI (by omega)]
    dsimp only
    rw [m1, m2, m3]
  have three : k = 0 ∨ k = 1 ∨ k = 2 := by omega
  rcases three with rfl | rfl | rfl
  · refine QAg.mk M (nI (zG σ p)) 0 ⟨sI w 0 12 0, ?_, C.2.2.tr C.1, gI_same _ _ _ _⟩ K (fun w1 M1 => ⟨gd9 w1, ?_, gd9_t⟩)
    · rw [e8, if_pos (show nI 0 = 0 from rfl)]; rfl
    · rw [e9 w1 M1, if_pos (show nI 0 = 0 from rfl)]
  · refine QAg.mk M (nI (zR σ p)) 0 ⟨sI w 0 12 0, ?_, C.2.2.tr C.1, gI_same _ _ _ _⟩ K (fun w1 M1 => ⟨gd9 w1, ?_, gd9_t⟩)
    · rw [e8, if_neg (show ¬ nI 1 = 0 from one_ne), if_pos (show nI 1 = 1 from rfl)]; rfl
    · rw [e9 w1 M1, if_neg (show ¬ nI 1 = 0 from one_ne), if_pos (show nI 1 = 1 from rfl)]
  · refine QAg.mk M (paI (zR σ p) (zH σ p)) 0 ⟨sI w 0 12 0, ?_, C.2.2.tr C.1, gI_same _ _ _ _⟩ K (fun w1 M1 => ⟨gd9 w1, ?_, gd9_t⟩)
    · rw [e8, if_neg (show ¬ nI 2 = 0 from two_ne), if_neg (show ¬ nI 2 = 1 from by decide)]; rfl
    · rw [e9 w1 M1, if_neg (show ¬ nI 2 = 0 from two_ne), if_neg (show ¬ nI 2 = 1 from by decide)]
theorem q_boxOf (C : CQ w σ) (M : MHl w σ) (x : Int32) {lo : Nat} (hlo : lo = 0 ∨ lo = 1) : QAg w σ (f_X8_boxOf x (nI lo)) (f_X9_boxOf x (nI lo)) := by
  have hs := C.1
  have hB0 := hs.1.1
  have hB5 := hs.1.2.1
  have K : ∀ z, f_X8_boxOf x (nI lo) w = some z → KC w z.2 := fun z hz => KC.sm (fr_X8_boxOf _ _ _ hz) (by decide) (by decide)
  rcases rg_em x 0 (pB (zE σ) - 1) with ⟨b, _, hb, rfl⟩ | h1
  rotate_left
  · refine QAg.mk M (-1) 1 (rf8 C ?_) K (fun w1 M1 => ?_)
    · rw [f_X8_boxOf, isB8_f C h1, bind_some', if_pos rfl]; rfl
    · refine rf9 (w0 := gd9 w1) ?_
      rw [f_X9_boxOf, good9, bind_some', isB9_f hs M1.gd h1, bind_some', if_pos rfl]; rfl
  have hb : b < pB (zE σ) := by omega
  have e8 : f_X8_boxOf (nI b) (nI lo) w = if nI lo = 0 then f_X8_boxOf_40 (nI (pR (zE σ) b)) w else f_X8_boxOf_40 (nI (pW (zE σ) b)) w := by
    rw [f_X8_boxOf, isB8_t C hb, bind_some', if_neg one_ne, if_pos ((inb_nI (by omega)).mpr (by omega)), ix_nI (by omega)]
    dsimp only
    rw [C.2.1.2.1.2.1 b hb, C.2.1.2.1.2.2.1 b hb, if_pos ((inb_nI (by omega)).mpr (by omega))]
  have e9 : ∀ w1, MHl w1 σ → f_X9_boxOf (nI b) (nI lo) w1 = if nI lo = 0 then some (nI (pR (zE σ) b), gd9 w1) else some (nI (pW (zE σ) b), gd9 w1) := by
    intro w1 M1
    rw [f_X9_boxOf, good9, bind_some', isB9_t hs M1.gd hb, bind_some', if_neg one_ne, f_X9_boxOf_26, f_X9_boxOf_26, show (2 : Int32) = nI 2 from rfl, show (7 : Int32) = nI 7 from rfl, nI_add, nI_add, if_pos ((inb_nI (by omega)).mpr (by omega)), if_pos ((inb_nI (by omega)).mpr (by omega)), ix_nI (by omega), ix_nI (by omega)]
    dsimp only
    rw [M1.gd.2.1.2.1 b hb, M1.gd.2.1.2.2.1 b hb]
  rcases hlo with rfl | rfl
  · refine QAg.mk M (nI (pR (zE σ) b)) 0 ⟨sI w 0 12 0, ?_, C.2.2.tr C.1, gI_same _ _ _ _⟩ K (fun w1 M1 => ⟨gd9 w1, ?_, gd9_t⟩)
    · rw [e8, if_pos (show nI 0 = 0 from rfl)]; rfl
    · rw [e9 w1 M1, if_pos (show nI 0 = 0 from rfl)]
  · refine QAg.mk M (nI (pW (zE σ) b)) 0 ⟨sI w 0 12 0, ?_, C.2.2.tr C.1, gI_same _ _ _ _⟩ K (fun w1 M1 => ⟨gd9 w1, ?_, gd9_t⟩)
    · rw [e8, if_neg (show ¬ nI 1 = 0 from one_ne)]; rfl
    · rw [e9 w1 M1, if_neg (show ¬ nI 1 = 0 from one_ne)]
end DD
