/-! a letter by draws: the reference -/
def dnx (d : DS) (x : Nat) : DS := (yW d, x, yP d + 1, yK d, yU d)
section P9
variable {σ : HS} {w : GW}
theorem DYm.seed {d : DS} (H : DYm w 135 0 d) (x : Nat) : DYm (sI w 135 8 (nI x)) 135 0 (yW d, x, yP d, yK d, yU d) := by
  obtain ⟨a, b, c, e, f⟩ := H
  exact ⟨fun y hy => by rw [gI_sI, if_neg (by omega)]; exact a y hy, by rw [gI_sI, if_neg (by omega)]; exact b, by rw [gI_sI, if_neg (by omega)]; exact c, by rw [gI_sI, if_neg (by omega)]; exact e, gI_same _ _ _ _⟩
theorem draw9 {d : DS} (D : DYm w 135 0 d) (hd : yS d < 65537) {n : Nat} (h0 : 0 < n) (hn : n < 1000) : f_X9_draw (nI n) w = some (nI (sdN (yS d) % n), sI w 135 8 (nI (sdN (yS d)))) := by
  have h8 := D.2.2.2.2
  have hs := sdN_lt (yS d)
  rw [Nat.zero_add] at h8
  rw [f_X9_draw, if_pos (show inb _ _ from by decide), if_pos (show inb _ _ from by decide), if_pos (show inb _ _ from by decide), if_pos (fun y => by have := (eq0 (by omega)).mp y; omega), show ix (8 : Int32) = 8 from by decide, h8, sd_nI hd, gI_same, irm_nI (by omega) h0 (by omega)]
theorem p85 (hs : HSok σ) {i : Nat} (hi : i < 3) {x2 x3 : Int32} {kk : Int32 → Int32 → Int32 → GW → Option (Unit × GW)} (M : MHl w σ) : ∀ t b n v, b + t = pB (zE σ) - 1 → t < n → v < 65537 → v + sm b (pW (zE σ)) < sm (pB (zE σ)) (pW (zE σ)) → f_X9_putOne_85 kk n x2 x3 (nI i) (nI v) (nI b) w = kk x2 x3 (nI (i + 1)) (sI w 138 i (nI (cfF (pW (zE σ)) t v b))) := by
  have hB0 := hs.1.1
  have hB5 := hs.1.2.1
  intro t
  induction t with
  | zero =>
    intro b n v hb hn hv hlt
    obtain ⟨n, rfl⟩ : ∃ m9, n = m9 + 1 := ⟨n - 1, by omega⟩
    have e : sm (pB (zE σ)) (pW (zE σ)) = sm b (pW (zE σ)) + pW (zE σ) b := by rw [show pB (zE σ) = b + 1 by omega, sm_s]
    have hwb := (hs.1.2.2.2.1 b).2
    rw [f_X9_putOne_85, show (7 : Int32) = nI 7 from rfl, nI_add, if_pos ((inb_nI (by omega)).mpr (by omega)), ix_nI (by omega), M.2.1.2.2.1 b (by omega), if_pos ((lt_nI (by omega) (by omega)).mpr (by omega)), if_pos ((inb_nI (by omega)).mpr (by omega)), ix_nI (by omega), nI_1, cfF]
  | succ t ih =>
    intro b n v hb hn hv hlt
    obtain ⟨n, rfl⟩ : ∃ m9, n = m9 + 1 := ⟨n - 1, by omega⟩
    have hwb := (hs.1.2.2.2.1 b).2
    rw [f_X9_putOne_85, show (7 : Int32) = nI 7 from rfl, nI_add, if_pos ((inb_nI (by omega)).mpr (by omega)), ix_nI (by omega), M.2.1.2.2.1 b (by omega), cfF]
    by_cases z : v < pW (zE σ) b
    · rw [if_pos ((lt_nI (by omega) (by omega)).mpr (by omega)), if_pos ((inb_nI (by omega)).mpr (by omega)), ix_nI (by omega), nI_1, if_pos z]
    · rw [if_neg (fun q9 => absurd ((lt_nI (by omega) (by omega)).mp q9) (by omega)), if_pos ((inb_nI (by omega)).mpr (by omega)), pk_sub (by omega), nI_1, if_neg z]
      exact ih (b + 1) n _ (by omega) (by omega) (by omega) (by rw [sm_s]; omega)
theorem p66 (hs : HSok σ) {d : DS} (h : DOK σ d) : ∀ t i n (w : GW), i + t = zG σ (yW d) → t < n → MHl w σ → LK w (yU d) (yK d) → DYm w 135 0 (dnx d (sdI (yS d) i)) → GL w (bxS (zE σ) (yS d)) i → ∃ w', f_X9_putOne_66 n (nI (yW d)) (nI (zG σ (yW d))) (nI i) w = (if nI (zR σ (yW d)) = 0 then (f_X9_ties (nI (zG σ (yW d))) w').bind fun q31 => f_X9_putOne_157 (nI (yW d)) (nI (zG σ (yW d))) q31.1 q31.2 else f_X9_putOne_157 (nI (yW d)) (nI (zG σ (yW d))) 1 w') ∧ MHl w' σ ∧ LK w' (yU d) (yK d) ∧ DYm w' 135 0 (dnx d (sdI (yS d) (zG σ (yW d)))) ∧ GL w' (bxS (zE σ) (yS d)) (zG σ (yW d)) := by
  have hB0 := hs.1.1
  have hB5 := hs.1.2.1
  have h6 := hs.2.2.1.2
  have hq := hs.2.2.2.2.1 (yW d)
  have hW := WT_le hs.1
  have hwho := h.1
  intro t
  induction t with
  | zero =>
    intro i n w hi hn M L D G
    obtain ⟨n, rfl⟩ : ∃ m9, n = m9 + 1 := ⟨n - 1, by omega⟩
    have : i = zG σ (yW d) := by omega
    subst this
    refine ⟨w, ?_, M, L, D, G⟩
    rw [f_X9_putOne_66, if_pos ((le_nI (by omega) (by omega)).mpr (by omega)), show (24 : Int32) = nI 24 from rfl, nI_add, if_pos ((inb_nI (by omega)).mpr (by omega)), ix_nI (by omega), (M.2.2.2.2.2.1 (yW d) hwho).2.1]
  | succ t ih =>
    intro i n w hi hn M L D G
    obtain ⟨n, rfl⟩ : ∃ m9, n = m9 + 1 := ⟨n - 1, by omega⟩
    have e1 := draw9 (n := sm (pB (zE σ)) (pW (zE σ))) D (sdI_lt h.2.1 i) (by omega) (by omega)
    have D2 := D.seed (sdN (yS (dnx d (sdI (yS d) i))))
    have M2 : MHl (sI w 135 8 (nI (sdN (yS (dnx d (sdI (yS d) i)))))) σ := M.of rfl (fun j => by rw [gI_sI, if_neg (by omega)])
    have hlt := Nat.mod_lt (sdN (sdI (yS d) i)) (show 0 < sm (pB (zE σ)) (pW (zE σ)) by omega)
    have e2 := p85 (i := i) (x2 := nI (yW d)) (x3 := nI (zG σ (yW d))) (kk := f_X9_putOne_66 n) hs (by omega) M2 (pB (zE σ) - 1) 0 fu (sdN (sdI (yS d) i) % sm (pB (zE σ)) (pW (zE σ))) (by omega) (fu_gt (by omega)) (by omega) (by rw [sm_0]; omega)
    have eb : cfF (pW (zE σ)) (pB (zE σ) - 1) (sdN (sdI (yS d) i) % sm (pB (zE σ)) (pW (zE σ))) 0 = bxS (zE σ) (yS d) i := rfl
    rw [eb] at e2
    obtain ⟨w', a1, a2⟩ := ih (i + 1) n (sI (sI w 135 8 (nI (sdN (yS (dnx d (sdI (yS d) i)))))) 138 i (nI (bxS (zE σ) (yS d) i))) (by omega) (by omega) (M2.of rfl (fun j => by rw [gI_sI, if_neg (by omega)])) ⟨fun b hb => by rw [gI_sI, if_neg (by omega), gI_sI, if_neg (by omega)]; exact L.1 b hb, by rw [gI_sI, if_neg (by omega), gI_sI, if_neg (by omega)]; exact L.2⟩ (D2.of (fun j => by rw [gI_sI, if_neg (by omega)])) (fun j hj => by
      rw [gI_sI]
      by_cases z : j = i
      · rw [if_pos ⟨rfl, z⟩, z]
      · rw [if_neg (fun y => z y.2), gI_sI, if_neg (by omega)]; exact G j (by omega))
    refine ⟨w', ?_, a2⟩
    have e1' : f_X9_draw (nI (sm (pB (zE σ)) (pW (zE σ)))) w = some (nI (sdN (sdI (yS d) i) % sm (pB (zE σ)) (pW (zE σ))), sI w 135 8 (nI (sdN (yS (dnx d (sdI (yS d) i)))))) := e1
    rw [f_X9_putOne_66, if_neg (fun q9 => absurd ((le_nI (by omega) (by omega)).mp q9) (by omega)), allWeights M.2.1.1 hB5 M.2.1.2.2.1, bind_some']
    dsimp only
    rw [e1', bind_some', show (0 : Int32) = nI 0 from rfl]
    exact e2.trans a1
theorem p217 (hs : HSok σ) {d : DS} (h : DOK σ d) (hp : yP d < zL σ) {s' b sl : Nat} (hb : b < pB (zE σ)) (hsl : sl ≤ 5) (M : MHl w σ) (L : LK w (ldH (zE σ) (yU d) b) sl) (D : DYm w 135 0 (dnx d s')) : ∃ w', f_X9_putOne_217 (oI (goT (pB (zE σ)) (pR (zE σ)) (yU d) b)) w = some ((), w') ∧ DYm w' 135 0 (lnS σ d s' b sl) := by
  have hL := hs.2.1
  obtain ⟨hu8, hsu⟩ := h.u8 hs
  obtain ⟨w1, a1, a2⟩ := moves_LK (n := yP d + 1) hs.1 M.2.1 L (ldH_le hs.1 hb hu8) (by omega)
  have S := fr_X9_moves _ _ a1
  obtain ⟨w2, b1, b2, b3, b4⟩ := keepDay9 hsl a2
  obtain ⟨d1, d2, d3, d4, d5⟩ := D
  refine ⟨w2, ?_, fun c hc => by rw [Nat.zero_add]; exact b2 c hc, ?_, ?_, by rw [Nat.zero_add]; exact b3, ?_⟩
  · have d3' : gI w 135 6 = nI (yP d + 1) := by rw [Nat.zero_add] at d3; exact d3
    rw [f_X9_putOne_217, if_neg (oI_lt5 hs.1 hb), if_pos (show inb _ _ from by decide), show ix (6 : Int32) = 6 from by decide, d3', a1, bind_some', f_X9_putOne_233]
    dsimp only
    rw [b1, bind_some']
  · rw [b4 _ (by omega) (by omega), S.I 135 _ rfl]; exact d2
  · rw [b4 _ (by omega) (by omega), S.I 135 _ rfl]; exact d3
  · rw [b4 _ (by omega) (by omega), S.I 135 _ rfl]; exact d5
theorem p175 (hs : HSok σ) {d : DS} (h : DOK σ d) (hp : yP d < zL σ) {s' : Nat} (M : MHl w σ) (L : LK w (yU d) (yK d)) (D : DYm w 135 0 (dnx d s')) (G : GL w (bxS (zE σ) (yS d)) (zG σ (yW d))) {t : Nat} (ht : t = tiT (yS d) (tnD σ d) (zG σ (yW d))) : ∃ w', f_X9_putOne_175 (nI (yW d)) (nI (zG σ (yW d))) (nI t) w = some ((), w') ∧ DYm w' 135 0 (lnS σ d s' (tkD σ d) (spS (zE σ) (yU d) (zR σ (yW d)) (yK d) (tkD σ d) (msk (bxS (zE σ) (yS d)) (zG σ (yW d))))) := by
  have hB0 := hs.1.1
  have hB5 := hs.1.2.1
  have h6 := hs.2.2.1.2
  have hq := hs.2.2.2.2.1 (yW d)
  have hwho := h.1
  obtain ⟨hu8, hsu⟩ := h.u8 hs
  have hx := bxS_lt hs.1 (yS d)
  obtain ⟨tk1, tk2⟩ := tkD_some hs d
  obtain ⟨m1, m2, m3⟩ := M.2.2.2.2.2.1 (yW d) hwho
  have htn : tiT (yS d) (tnD σ d) (zG σ (yW d)) < tnD σ d := tiT_lt (tnS_pos hq.1.1 (fun i _ => hx i))
  have htn3 : tnD σ d ≤ 3 := by
    unfold tnD tnS
    split
    · have := tcS_le (u := yU d) (x := bxS (zE σ) (yS d)) (m := lvl (yU d) (bxS (zE σ) (yS d)) (pB (zE σ)) (zG σ (yW d))) (zG σ (yW d))
      omega
    · omega
  have e1 := taken (w := w) (r := zR σ (yW d)) (h := zH σ (yW d)) (sl := yK d) (t := t) (y := paI (zR σ (yW d)) (zH σ (yW d))) M.2.1.1 hB0 hB5 L hu8 h.2.2.2.1 hq.1.1 hq.1.2 (fun i _ => hx i) G hq.2.1 hq.2.2 (fun z => if_pos z) (by omega)
  rw [ht, tk1, ← ht] at e1
  obtain ⟨w1, a1, a2, a3⟩ := puts (w := w) (r := zR σ (yW d)) hs.1 M.2.1 L hu8 h.2.2.2.1 hq.1.2 (fun i _ => hx i) G hq.2.1 tk2
  have S := fr_X9_puts _ _ _ _ a1
  obtain ⟨w2, b1, b2⟩ := p217 hs h hp tk2 (spS_le hs.1 h.2.2.2.1) (M.km (KM.sm S (by decide) rfl)) a2 (D.of (fun j => S.I 135 j rfl))
  refine ⟨w2, ?_, b2⟩
  have e1' : f_X9_taken (nI (zR σ (yW d))) (paI (zR σ (yW d)) (zH σ (yW d))) (nI (zG σ (yW d))) (nI t) w = some (nI (tkD σ d), w) := e1
  rw [f_X9_putOne_175, show (24 : Int32) = nI 24 from rfl, show (30 : Int32) = nI 30 from rfl, nI_add, nI_add, if_pos ((inb_nI (by omega)).mpr (by omega)), if_pos ((inb_nI (by omega)).mpr (by omega)), if_pos ((inb_nI (by omega)).mpr (by omega)), ix_nI (by omega), ix_nI (by omega), m2, m3, e1', bind_some']
  dsimp only
  rw [a1, bind_some']
  exact b1
theorem putO9 (hs : HSok σ) {d : DS} (h : DOK σ d) (hp : yP d < zL σ) (M : MHl w σ) (D : DYm w 135 0 d) : ∃ w', f_X9_putOne w = some ((), w') ∧ DYm w' 135 0 (ptS σ d) := by
  have hB0 := hs.1.1
  have hB5 := hs.1.2.1
  have h6 := hs.2.2.1.2
  have hL := hs.2.1
  have hq := hs.2.2.2.2.1 (yW d)
  have hwho := h.1
  obtain ⟨hu8, hsu⟩ := h.u8 hs
  have hx := bxS_lt hs.1 (yS d)
  obtain ⟨d1, d2, d3, d4, d5⟩ := D
  rw [Nat.zero_add] at d2 d3 d4 d5
  have D1 : DYm (sI w 135 6 (nI (yP d + 1))) 135 0 (dnx d (sdI (yS d) 0)) := ⟨fun c hc => by rw [gI_sI, if_neg (by omega)]; exact d1 c hc, by rw [gI_sI, if_neg (by omega)]; exact d2, gI_same _ _ _ _, by rw [gI_sI, if_neg (by omega)]; exact d4, by rw [gI_sI, if_neg (by omega)]; exact d5⟩
  have M1 : MHl (sI w 135 6 (nI (yP d + 1))) σ := M.of rfl (fun j => by rw [gI_sI, if_neg (by omega)])
  obtain ⟨w1, a1, a2⟩ := layDay9 (w := sI w 135 6 (nI (yP d + 1))) (d := dnx d (sdI (yS d) 0)) h.2.2.2.1 D1
  have S1 := fr_X9_layDay _ a1
  have M2 : MHl w1 σ := M1.km (KM.sm S1 (by decide) rfl)
  have D2 : DYm w1 135 0 (dnx d (sdI (yS d) 0)) := D1.of (fun j => S1.I 135 j rfl)
  have a2' : LK w1 (yU d) (yK d) := a2
  obtain ⟨q1, q2, q3⟩ := isDoor (w := w1) (n := yP d + 1) M2.2.1.2.2.2.2.1 hs.1.2.2.2.2.2.1 (by omega)
  have g6 : gI w1 135 6 = nI (yP d + 1) := by have := D2.2.2.1; rw [Nat.zero_add] at this; exact this
  have g5 : gI w1 135 5 = nI (yW d) := by have := D2.2.1; rw [Nat.zero_add] at this; exact this
  have e0 : f_X9_putOne w = if q1 = 0 then f_X9_putOne_66 fu (nI (yW d)) (nI (zG σ (yW d))) 0 w1 else (f_X9_goesTo (nI (pD (zE σ))) w1).bind fun q42 => f_X9_putOne_217 q42.1 q42.2 := by
    rw [f_X9_putOne, if_pos (show inb _ _ from by decide), if_pos (show inb _ _ from by decide), show ix (6 : Int32) = 6 from by decide, d3, nI_1, a1, bind_some', if_pos (show inb _ _ from by decide)]
    dsimp only
    rw [g6, q2, bind_some']
    dsimp only
    rw [if_pos (show inb _ _ from by decide), show ix (5 : Int32) = 5 from by decide, g5, show (18 : Int32) = nI 18 from rfl, nI_add, if_pos ((inb_nI (by omega)).mpr (by omega)), ix_nI (by omega), (M2.2.2.2.2.2.1 (yW d) hwho).1, if_pos (show inb _ _ from by decide), show ix (36 : Int32) = 36 from by decide, M2.2.1.2.2.2.1]
  rw [e0]
  unfold ptS
  rcases q3 with ⟨q, rfl⟩ | ⟨q, rfl⟩
  · rw [if_pos q, if_neg one_ne]
    have hb := hs.1.2.2.2.2.1
    have e1 := goesTo (w := w1) (u := yU d) M2.2.1.1 hB5 M2.2.1.2.1 (fun c hc => a2'.1 c (by omega)) (fun c => (hs.1.2.2.1 c).2) hu8 hb
    have S2 := fr_X9_goesTo _ _ e1
    have L2 : LK (gwT w1 (yU d) (goT (pB (zE σ)) (pR (zE σ)) (yU d) (pD (zE σ)))) (ldH (zE σ) (yU d) (pD (zE σ))) (yK d) := by
      unfold ldH
      cases e : goT (pB (zE σ)) (pR (zE σ)) (yU d) (pD (zE σ)) with
      | none => exact a2'
      | some x =>
        refine ⟨fun c hc => ?_, a2'.2⟩
        show gI (sI w1 137 x (nI (yU d x + 1))) 137 c = nI (upM (yU d) (some x) c)
        rw [gI_sI]
        unfold upM
        by_cases z : c = x
        · rw [if_pos ⟨rfl, z⟩, if_pos (by rw [z]), z]
        · rw [if_neg (fun y => z y.2), if_neg (fun y => z (by cases y; rfl))]
          exact a2'.1 c hc
    obtain ⟨w2, b1, b2⟩ := p217 hs h hp (s' := yS d) hb h.2.2.2.1 (M2.km (KM.sm S2 (by decide) rfl)) L2 (D2.of (fun j => S2.I 135 j rfl))
    refine ⟨w2, ?_, b2⟩
    rw [e1, bind_some']
    exact b1
  · rw [if_neg q, if_pos rfl]
    obtain ⟨w2, b1, b2, b3, b4, b5⟩ := p66 hs h (zG σ (yW d)) 0 fu w1 (by omega) (fu_gt (by omega)) M2 a2' D2 (fun j hj => by omega)
    rw [show (0 : Int32) = nI 0 from rfl, b1]
    have e157 : ∀ tn, tn ≤ 3 → tn = tnD σ d → ∃ w', f_X9_putOne_157 (nI (yW d)) (nI (zG σ (yW d))) (nI tn) w2 = some ((), w') ∧ DYm w' 135 0 (lnS σ d (seT (yS d) (tnD σ d) (zG σ (yW d))) (tkD σ d) (spS (zE σ) (yU d) (zR σ (yW d)) (yK d) (tkD σ d) (msk (bxS (zE σ) (yS d)) (zG σ (yW d))))) := by
      intro tn htn3 htn
      by_cases z : tn ≤ 1
      · have es : seT (yS d) (tnD σ d) (zG σ (yW d)) = sdI (yS d) (zG σ (yW d)) := by unfold seT; rw [← htn, if_pos z]
        have et : 0 = tiT (yS d) (tnD σ d) (zG σ (yW d)) := by unfold tiT; rw [← htn, if_pos z]
        obtain ⟨w3, c1, c2⟩ := p175 hs h hp b2 b3 b4 b5 et
        refine ⟨w3, ?_, by rw [es]; exact c2⟩
        rw [f_X9_putOne_157, show (1 : Int32) = nI 1 from rfl, if_pos ((le_nI (by omega) (by omega)).mpr (by omega)), show (0 : Int32) = nI 0 from rfl]
        exact c1
      · have es : seT (yS d) (tnD σ d) (zG σ (yW d)) = sdI (yS d) (zG σ (yW d) + 1) := by unfold seT; rw [← htn, if_neg z]
        have et : sdN (sdI (yS d) (zG σ (yW d))) % tn = tiT (yS d) (tnD σ d) (zG σ (yW d)) := by unfold tiT; rw [← htn, if_neg z]; rfl
        have e1 := draw9 (n := tn) b4 (sdI_lt h.2.1 _) (by omega) (by omega)
        have D3 := b4.seed (sdN (sdI (yS d) (zG σ (yW d))))
        obtain ⟨w3, c1, c2⟩ := p175 (w := sI w2 135 8 (nI (sdN (sdI (yS d) (zG σ (yW d)))))) (s' := sdI (yS d) (zG σ (yW d) + 1)) hs h hp (b2.of rfl (fun j => by rw [gI_sI, if_neg (by omega)])) ⟨fun b hb => by rw [gI_sI, if_neg (by omega)]; exact b3.1 b hb, by rw [gI_sI, if_neg (by omega)]; exact b3.2⟩ D3 (fun j hj => by rw [gI_sI, if_neg (by omega)]; exact b5 j hj) et
        refine ⟨w3, ?_, by rw [es]; exact c2⟩
        have e1' : f_X9_draw (nI tn) w2 = some (nI (sdN (sdI (yS d) (zG σ (yW d))) % tn), sI w2 135 8 (nI (sdN (sdI (yS d) (zG σ (yW d)))))) := e1
        rw [f_X9_putOne_157, show (1 : Int32) = nI 1 from rfl, if_neg (fun q9 => absurd ((le_nI (by omega) (by omega)).mp q9) (by omega)), e1', bind_some']
        exact c1
    by_cases z0 : zR σ (yW d) = 0
    · have etn : tcS (yU d) (bxS (zE σ) (yS d)) (lvl (yU d) (bxS (zE σ) (yS d)) (pB (zE σ)) (zG σ (yW d))) (zG σ (yW d)) = tnD σ d := by unfold tnD tnS; rw [if_pos z0]
      have e1 := ties (w := w2) (g := zG σ (yW d)) b2.2.1.1 hB0 hB5 b3.1 hu8 hq.1.1 hq.1.2 (fun i _ => hx i) b5
      rw [if_pos ((eq0 (by omega)).mpr z0), e1, bind_some']
      exact e157 _ (Nat.le_trans (tcS_le _) hq.1.2) etn
    · rw [if_neg (fun y => z0 ((eq0 (by omega)).mp y))]
      have etn : 1 = tnD σ d := by unfold tnD tnS; rw [if_neg z0]
      exact e157 1 (by omega) etn
end P9
