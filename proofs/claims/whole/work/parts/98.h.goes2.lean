/-! goes: class and reference alike -/
section GO2
variable {σ : HS} {w : GW}
theorem inr36 {t : Int32} {w : GW} : f_X8_isNextRefused_36 t w = some (if t = 0 then 0 else 1, sI w 0 12 t) := by
  rw [f_X8_isNextRefused_36, gI_same]
  by_cases z : t = 0
  · rw [if_pos z, if_pos z]
  · rw [if_neg z, if_neg z]
theorem inr_b (C : CQ w σ) {x : Int32} (h : ¬ rg x 0 (pB (zE σ) - 1)) : f_X8_isNextRefused x w = some (1, sI w 0 12 1) := by
  rw [f_X8_isNextRefused, isB8_f C h, bind_some', if_pos rfl, inr36]; rfl
theorem inr_l (C : CQ w σ) {d : DS} (D : DYc w 121 d) (h : DOK σ d) {b : Nat} (hb : b < pB (zE σ)) (hp : ¬ yP d < zL σ) : f_X8_isNextRefused (nI b) w = some (1, sI w 0 12 6) := by
  have hL := C.1.2.1
  have h1 := h.2.2.1
  rw [f_X8_isNextRefused, isB8_t C hb, bind_some', if_neg one_ne]
  dsimp only
  rw [D.2.2.1, C.2.1.2.2.1, if_neg (fun q9 => absurd ((lt_nI (by omega) (by omega)).mp q9) (by omega)), inr36]; rfl
theorem inr_g (C : CQ w σ) {d : DS} (D : DYc w 121 d) (h : DOK σ d) {b : Nat} (hb : b < pB (zE σ)) (hp : yP d < zL σ) : f_X8_isNextRefused (nI b) w = some (0, sI w 0 12 0) := by
  have hL := C.1.2.1
  have h1 := h.2.2.1
  rw [f_X8_isNextRefused, isB8_t C hb, bind_some', if_neg one_ne]
  dsimp only
  rw [D.2.2.1, C.2.1.2.2.1, if_pos ((lt_nI (by omega) (by omega)).mpr (by omega)), inr36]; rfl
theorem readyQ (C : CQ w σ) {p : Nat} (hp : p < zP σ) : ∃ w6, f_X1_ready (fxH (gR w 0)) (fxH (gR w 0) + 4 + 1 + p) w = some ((), w6) ∧ CX w6 (zE σ) (zR σ p) (zH σ p) (zG σ p) ∧ (∀ m, m < 32 → gL w6 69 m = lN (snS (pB (zE σ)) (pW (zE σ)) (zG σ p) m)) ∧ (∀ q j, gI w6 q j = gI w q j) ∧ CQ w6 σ ∧ KC w w6 := by
  have h6 := C.1.2.2.1.2
  have hq := C.1.2.2.2.2.1 p
  have hkd := kd_po (x := gR w 0) (p := p) (by omega)
  obtain ⟨w6, a1, a2, a3, a4⟩ := ready (w := w) (H := fxH (gR w 0)) (P := fxH (gR w 0) + 4 + 1 + p) C.1.1 hq.1.2 (by rw [fxH_2]; exact C.2.1.2.1) (by rw [fxP_of hkd]; exact C.2.1.po hp)
  have g1 : ∀ q j, gI w6 q j = gI w q j := fun q j => (a2.1 q j).trans rfl
  have K : KC w w6 := ⟨fun q j x _ => ⟨g1 q j, (a2.2.2 q j (by omega)).trans rfl⟩, fun r hr => by
    rw [a2.2.1, gR_sR, if_neg (by omega), gR_sR, if_neg (by omega)]⟩
  have c : CCh w6 σ := C.2.2.of C.1 (fun q j _ => g1 q j) (fun q j x y => (a2.2.2 q j (by omega)).trans rfl) (K.2 0 (by omega)) (K.2 3 (by omega))
  exact ⟨w6, a1, a3, a4, g1, C.kc K c, K⟩
theorem weighQ (C : CQ w σ) {d : DS} (D : DYc w 121 d) (h : DOK σ d) (hp : yP d < zL σ) : ∃ w6 w8, f_X1_ready (fxH (gR w 0)) (fxH (gR w 0) + 4 + 1 + yW d) w = some ((), w6) ∧ f_X1_weigh 122 (nI (yK d)) (nI (yP d + 1)) w6 = some ((), w8) ∧ CX w8 (zE σ) (zR σ (yW d)) (zH σ (yW d)) (zG σ (yW d)) ∧ (∀ i, i < 30 → gL w8 71 i = lN (cwD σ d i)) ∧ (∀ q j, gI w6 q j = gI w q j) ∧ (∀ q j, gI w8 q j = gI w q j) ∧ CQ w8 σ ∧ KC w w8 := by
  have hL := C.1.2.1
  have hq := C.1.2.2.2.2.1 (yW d)
  obtain ⟨hu8, _⟩ := h.u8 C.1
  obtain ⟨w6, a1, a2, a3, a4, a5, a6⟩ := readyQ C h.1
  obtain ⟨w8, b1, b2, b3⟩ := weigh (k1 := 122) (u := yU d) (sl := yK d) (n := yP d + 1) C.1.1 hq.1.2 hq.2.1 hq.2.2 hu8 h.2.2.2.1 (by omega) (by decide) a2 (fun b hb => by rw [a4]; exact D.2.2.2.2.2 b hb) a3
  have K : KC w6 w8 := ⟨fun q j x _ => ⟨b2.1 q j, b2.2.2 q j (by omega)⟩, fun r _ => b2.2.1 r⟩
  have c : CCh w8 σ := a5.2.2.of C.1 (fun q j _ => b2.1 q j) (fun q j x y => b2.2.2 q j (by omega)) (b2.2.1 0) (b2.2.1 3)
  exact ⟨w6, w8, a1, b1, a2.of b2, b3, a4, fun q j => by rw [b2.1, a4], a5.kc K c, a6.tr K⟩
theorem cwA (hs : HSok σ) {d : DS} (h : DOK σ d) (b : Nat) : 0 < sm 30 (cwD σ d) ∧ sm 30 (cwD σ d) ≤ 20250 ∧ wtS (zE σ) (yU d) (cwD σ d) b ≤ sm 30 (cwD σ d) := by
  have hq := hs.2.2.2.2.1 (yW d)
  have hB5 := hs.1.2.1
  rcases drS_dec (pE (zE σ)) (yP d + 1) with q | q
  · have hk := h.2.2.2.1
    have hbD := hs.1.2.2.2.2.1
    have hA : sm 30 (cwD σ d) = 1 := by
      rw [sm_one (k := pD (zE σ) * 6 + yK d) (by omega) _ (fun i _ hi => by rw [cwD_door q, if_neg hi]), cwD_door q, if_pos rfl]
    have hW : wtS (zE σ) (yU d) (cwD σ d) b ≤ 1 := by
      unfold wtS
      rw [sm_one (k := pD (zE σ)) hbD _ (fun t ht hne => by
        split
        · exact sm_z (fun s hs6 => by rw [cwD_door q, if_neg (by omega)])
        · rfl)]
      split
      · rw [sm_one (k := yK d) (by omega) _ (fun s hs6 hne => by rw [cwD_door q, if_neg (by omega)]), cwD_door q, if_pos rfl]; exact Nat.le_refl _
      · omega
    rw [hA]
    exact ⟨by omega, by omega, hW⟩
  · have hAll : sm 30 (cwD σ d) = sm (pB (zE σ)) (pW (zE σ)) ^ zG σ (yW d) := by
      rw [← cwN_all (h := zH σ (yW d)) (sl := yK d) hs.1 hq.1.1 hq.1.2 hq.2.1 (yU d)]
      exact sm_c (fun i _ => cwD_n q i)
    have hWT := WT_le hs.1
    refine ⟨by rw [hAll]; exact Nat.pow_pos hWT.1, ?_, ?_⟩
    · rw [hAll]
      have h1 : sm (pB (zE σ)) (pW (zE σ)) ^ zG σ (yW d) ≤ 15 ^ zG σ (yW d) := Nat.pow_le_pow_left hWT.2 _
      have h2 : (15 : Nat) ^ zG σ (yW d) ≤ 15 ^ 3 := Nat.pow_le_pow_right (by omega) hq.1.2
      omega
    · rw [wt_F hs q]
      refine sm_le (fun i _ => ?_)
      rw [cwD_n q]
      split
      · rw [Nat.mul_one]; exact Nat.le_refl _
      · rw [Nat.mul_zero]; exact Nat.zero_le _
theorem DYm.kc {w' : GW} {k o : Nat} {d : DS} (H : DYm w k o d) (K : KC w w') (hk : 121 ≤ k) : DYm w' k o d := H.of (fun j => (K.1 k j (by omega) (by omega)).1)
theorem DYc.kc {w' : GW} {k : Nat} {d : DS} (H : DYc w k d) (K : KC w w') (hk : 121 ≤ k) : DYc w' k d := H.of (fun j => (K.1 k j (by omega) (by omega)).1) (fun j => (K.1 (k + 1) j (by omega) (by omega)).1)
theorem st6 {d : DS} (D : DYm w 135 0 d) : gI w 135 6 = nI (yP d) := by have := D.2.2.1; rw [Nat.zero_add] at this; exact this
theorem q_goes (C : CQ w σ) (M : MHl w σ) {d : DS} (h : DOK σ d) (D : DYc w 121 d) (D9 : DYm w 135 0 d) (x : Int32) {lo : Nat} (hlo : lo = 0 ∨ lo = 1) : QAg w σ (f_X8_goes x (nI lo)) (f_X9_goes x (nI lo)) := by
  have hs := C.1
  have hL := hs.2.1
  have hB0 := hs.1.1
  have K : ∀ z, f_X8_goes x (nI lo) w = some z → KC w z.2 := fun z hz => KC.sm (fr_X8_goes _ _ _ hz) (by decide) (by decide)
  rcases rg_em x 0 (pB (zE σ) - 1) with ⟨b, _, hb, rfl⟩ | h1
  rotate_left
  · refine QAg.mk M (-1) 1 (rf8 C ?_) K (fun w1 M1 => ?_)
    · rw [f_X8_goes, inr_b C h1, bind_some', if_neg one_ne]
    · refine rf9 (w0 := gd9 w1) ?_
      rw [f_X9_goes, good9, bind_some', isB9_f hs M1.gd h1, bind_some', if_pos rfl]; rfl
  have hb : b < pB (zE σ) := by omega
  have mk : ∀ (v : Int64) (t : Int32), (∃ w1, f_X8_goes (nI b) (nI lo) w = some (v, w1) ∧ CCh w1 σ ∧ gI w1 0 12 = t) → (∀ w1, MHl w1 σ → DYm w1 135 0 d → ∃ w2, f_X9_goes (nI b) (nI lo) w1 = some (v, w2) ∧ gI w2 130 11 = t) → t ≠ 4 → QAg w σ (f_X8_goes (nI b) (nI lo)) (f_X9_goes (nI b) (nI lo)) := by
    intro v t h8 h9 ht
    obtain ⟨w1, a, b', c⟩ := h8
    have K1 := K _ a
    obtain ⟨w2, e, f⟩ := h9 w1 (M.kc K1) (D9.kc K1 (by omega))
    exact ⟨v, w1, w2, t, a, b', c, e, f, ht⟩
  have e9 : ∀ w1, MHl w1 σ → DYm w1 135 0 d → f_X9_goes (nI b) (nI lo) w1 = if nI (yP d) = nI (zL σ) then (f_X9_no 6 (gd9 w1)).bind fun q14 => some ((q14.1.toInt64), q14.2) else (f_X9_layGoes (nI b) (gd9 w1)).bind fun q10 => (f_X9_lowest (gL q10.2 130 37) (gL q10.2 130 38) (nI lo) q10.2).bind fun q12 => some (q12.1, q12.2) := by
    intro w1 M1 D1
    rw [f_X9_goes, good9, bind_some', isB9_t hs M1.gd hb, bind_some', if_neg one_ne, if_pos (show inb _ _ from by decide), if_pos (show inb _ _ from by decide), show ix (6 : Int32) = 6 from by decide, show ix (1 : Int32) = 1 from by decide]
    dsimp only
    rw [show gI (gd9 w1) 135 6 = nI (yP d) from st6 D1, M1.gd.2.2.1]
  have hyl := h.2.2.1
  by_cases hp : yP d < zL σ
  · obtain ⟨w6, w8, a1, a2, a3, a4, a5, a6, a7, a8⟩ := weighQ (C.st 0) (D.kc KC.st (by omega)) h hp
    obtain ⟨p1, p2, p3⟩ := cwA hs h b
    obtain ⟨hu8, _⟩ := h.u8 hs
    have hu : ∀ c, c < 5 → gI w8 122 c = nI (yU d c) := fun c hc => by rw [a6]; exact (D.kc (KC.st (v := 0)) (by omega)).2.2.2.2.2 c hc
    have eW := waysTo8 hs.1 a3 hu hu8 a4 (b := b) (by have := hs.1.2.1; omega)
    have eA := allWays8 a4
    refine mk (lN (low (wtS (zE σ) (yU d) (cwD σ d) b) (sm 30 (cwD σ d)) lo)) 0 ⟨sI w8 0 12 0, ?_, a7.2.2.tr hs, gI_same _ _ _ _⟩ (fun w1 M1 D1 => ?_) (by decide)
    · have a1' : f_X1_ready (fxH (gR (sI w 0 12 0) 0)) (fxH (gR (sI w 0 12 0) 0) + 4 + 1 + yW d) (sI w 0 12 0) = some ((), w6) := a1
      have d6 : DYc w6 121 d := (D.kc (KC.st (v := 0)) (by omega)).of (fun j => a5 _ j) (fun j => a5 _ j)
      have h6 := hs.2.2.1.2
      have hwho := h.1
      rw [f_X8_goes, inr_g C D h hb hp, bind_some', if_pos rfl]
      dsimp only
      rw [show gI (sI w 0 12 0) 121 0 = nI (yW d) from (D.kc (KC.st (v := 0)) (by omega)).1, if_pos ((inb_nI (by omega)).mpr (by omega)), ix_nI (by omega), a1', bind_some']
      dsimp only
      rw [d6.2.2.2.2.1, d6.2.2.1, nI_1]
      have a2' : f_X1_weigh (121 + 1) (nI (yK d)) (nI (yP d + 1)) w6 = some ((), w8) := a2
      have eW' : f_X1_waysTo (121 + 1) (nI b) w8 = some (lN (wtS (zE σ) (yU d) (cwD σ d) b), w8) := eW
      rw [a2', bind_some']
      dsimp only
      rw [eW', bind_some']
      dsimp only
      rw [eA, bind_some']
      dsimp only
      rw [told (by omega) (by omega) p1 hlo, bind_some']
    · obtain ⟨w2, W, A, K2, b1, b2, b3, b4, b5, b6, b7, b8, _⟩ := layGoes9 hs h hp M1.gd (show DYm (gd9 w1) 135 0 d from D1) hb
      have S := fr_X9_layGoes _ _ b1
      have el : low (wtS (zE σ) (yU d) (cwD σ d) b) (sm 30 (cwD σ d)) lo = low W A lo := low_eq p1 b6 b8.symm
      refine ⟨w2, ?_, ?_⟩
      · rw [e9 w1 M1 D1, if_neg (fun q9 => absurd ((eq_nI (by omega) (by omega)).mp q9) (by omega)), b1, bind_some']
        dsimp only
        rw [b2, b3, lowest (by omega) (by omega) b6 hlo, el]
        rfl
      · rw [S.I 130 11 rfl]; exact gd9_t
  · refine mk (-1) 6 (rf8 C ?_) (fun w1 M1 D1 => ?_) (by decide)
    · rw [f_X8_goes, inr_l C D h hb hp, bind_some', if_neg one_ne]
    · refine rf9 (w0 := gd9 w1) ?_
      rw [e9 w1 M1 D1, if_pos ((eq_nI (by omega) (by omega)).mpr (by omega))]; rfl
end GO2
