/-! where the next letter may go: class and reference alike -/
section GO
variable {σ : HS} {w : GW}
/-- the class's ways for the next letter -/
noncomputable def cwD (σ : HS) (d : DS) : Nat → Nat := cw (zE σ) (yU d) (zR σ (yW d)) (zH σ (yW d)) (zG σ (yW d)) (yK d) (yP d + 1)
theorem cwD_door {d : DS} (q : drS (pE (zE σ)) (yP d + 1)) (i : Nat) : cwD σ d i = if i = pD (zE σ) * 6 + yK d then 1 else 0 := by unfold cwD cw; rw [if_pos q]
theorem cwD_n {d : DS} (q : ¬ drS (pE (zE σ)) (yP d + 1)) (i : Nat) : cwD σ d i = cwN (zE σ) (yU d) (zR σ (yW d)) (zH σ (yW d)) (zG σ (yW d)) (yK d) i := by unfold cwD cw cwN; rw [if_neg q]
theorem cwD_lt (hs : HSok σ) (d : DS) : ∀ i, i < 30 → cwD σ d i < 2147483648 := cw_lt hs.1 (hs.2.2.2.2.1 (yW d)).1.1 (hs.2.2.2.2.1 (yW d)).1.2 (hs.2.2.2.2.1 (yW d)).2.1 (yU d)
theorem wt_F (hs : HSok σ) {d : DS} {b : Nat} (q : ¬ drS (pE (zE σ)) (yP d + 1)) : wtS (zE σ) (yU d) (cwD σ d) b = sm 30 (fun i => cwN (zE σ) (yU d) (zR σ (yW d)) (zH σ (yW d)) (zG σ (yW d)) (yK d) i * (if goT (pB (zE σ)) (pR (zE σ)) (yU d) (i / 6) = some b then 1 else 0)) := by
  have hB5 := hs.1.2.1
  rw [show (30 : Nat) = 5 * 6 from rfl, sm_pair, show (5 : Nat) = pB (zE σ) + (5 - pB (zE σ)) by omega, sm_app]
  have z : sm (5 - pB (zE σ)) (fun i => sm 6 (fun j => cwN (zE σ) (yU d) (zR σ (yW d)) (zH σ (yW d)) (zG σ (yW d)) (yK d) ((pB (zE σ) + i) * 6 + j) * (if goT (pB (zE σ)) (pR (zE σ)) (yU d) (((pB (zE σ) + i) * 6 + j) / 6) = some b then 1 else 0))) = 0 := sm_z (fun i _ => sm_z (fun j hj => by rw [cwN_hi hs.1 (by omega), Nat.zero_mul]))
  rw [z, Nat.add_zero (sm _ _)]
  unfold wtS
  refine sm_c (fun t ht => ?_)
  have e : sm 6 (fun j => cwN (zE σ) (yU d) (zR σ (yW d)) (zH σ (yW d)) (zG σ (yW d)) (yK d) (t * 6 + j) * (if goT (pB (zE σ)) (pR (zE σ)) (yU d) ((t * 6 + j) / 6) = some b then 1 else 0)) = sm 6 (fun j => cwN (zE σ) (yU d) (zR σ (yW d)) (zH σ (yW d)) (zG σ (yW d)) (yK d) (t * 6 + j) * (if goT (pB (zE σ)) (pR (zE σ)) (yU d) t = some b then 1 else 0)) := sm_c (fun j hj => by rw [show (t * 6 + j) / 6 = t by omega])
  rw [e]
  by_cases y : goT (pB (zE σ)) (pR (zE σ)) (yU d) t = some b
  · rw [if_pos y, if_pos y]
    exact sm_c (fun j _ => by rw [cwD_n q, Nat.mul_one])
  · rw [if_neg y, if_neg y]
    exact (sm_z (fun j _ => Nat.mul_zero _)).symm
theorem jx_sp {d : DS} (h4 : zR σ (yW d) ≠ 4 → yK d = 0) (hB5 : pB (zE σ) ≤ 5) (m t : Nat) : jxS (zE σ) (yU d) (zR σ (yW d)) (zH σ (yW d)) (zG σ (yW d)) (yK d) (tg (pB (zE σ)) (zG σ (yW d)) m) t = tkU σ d m t * 6 + spU σ d m t ∧ spU σ d m t < 6 := by
  have e : jxS (zE σ) (yU d) (zR σ (yW d)) (zH σ (yW d)) (zG σ (yW d)) (yK d) (tg (pB (zE σ)) (zG σ (yW d)) m) t = tkU σ d m t * 6 + spU σ d m t := by
    unfold jxS spU spS tkU
    by_cases z : zR σ (yW d) = 4
    · rw [if_pos z, if_pos z]
    · rw [if_neg z, if_neg z, h4 z]
  refine ⟨e, ?_⟩
  unfold spU spS
  by_cases z : zR σ (yW d) = 4
  · rw [if_pos z]
    have := slO_le (u := ldH (zE σ) (yU d) (tkU σ d m t)) (s := rcM (msk (tg (pB (zE σ)) (zG σ (yW d)) m) (zG σ (yW d))) (yK d)) hB5
    omega
  · rw [if_neg z, h4 z]
    omega
/-- T_eq, for a day -/
theorem T_day (hs : HSok σ) {d : DS} (h : DOK σ d) (F : Nat → Nat) : sm (pB (zE σ) ^ zG σ (yW d)) (fun m => sm (tnU σ d m) (fun t => tw (pB (zE σ)) (pW (zE σ)) (zG σ (yW d)) m * coU σ d m * F (tkU σ d m t * 6 + spU σ d m t))) = (if zR σ (yW d) = 0 then tiO (zG σ (yW d)) else 1) * sm 30 (fun i => cwN (zE σ) (yU d) (zR σ (yW d)) (zH σ (yW d)) (zG σ (yW d)) (yK d) i * F i) := by
  have hq := hs.2.2.2.2.1 (yW d)
  rw [← T_eq hs.1 hq.1.1 hq.1.2 hq.2.1 h.2.2.2.2.1 (yU d) F]
  unfold gsm
  refine sm_c (fun m _ => ?_)
  rw [← sm_mul]
  refine sm_c (fun t _ => ?_)
  rw [(jx_sp h.2.2.2.2.1 hs.1.2.1 m t).1, Nat.mul_assoc]
  rfl
theorem co_pos (hs : HSok σ) (d : DS) (m : Nat) : 0 < coU σ d m := by
  have hq := hs.2.2.2.2.1 (yW d)
  unfold coU
  by_cases r0 : zR σ (yW d) = 0
  · rw [if_pos r0]
    have e := tn_dvd (u := yU d) (x := tg (pB (zE σ)) (zG σ (yW d)) m) (B := pB (zE σ)) hq.1.1 hq.1.2 (fun i => tg_lt hs.1.1 _ _ _)
    have e2 : tnU σ d m = tnS (yU d) (tg (pB (zE σ)) (zG σ (yW d)) m) (pB (zE σ)) 0 (zG σ (yW d)) := by unfold tnU; rw [r0]
    rw [← e2] at e
    have ht : 0 < tiO (zG σ (yW d)) := by unfold tiO; split <;> omega
    rw [← e] at ht
    exact Nat.pos_of_mul_pos_left ht
  · rw [if_neg r0]; omega
theorem slB_S9 (hs : HSok σ) {d : DS} (h : DOK σ d) {b : Nat} (q : ¬ drS (pE (zE σ)) (yP d + 1)) (s : Nat) : slB (zE σ) (yU d) (cwD σ d) b s ↔ ∃ m, m < pB (zE σ) ^ zG σ (yW d) ∧ ∃ t, t < tnU σ d m ∧ inU σ d b m t = 1 ∧ spU σ d m t = s := by
  have hB5 := hs.1.2.1
  have e := T_day hs h (fun i => if goT (pB (zE σ)) (pR (zE σ)) (yU d) (i / 6) = some b ∧ i % 6 = s ∧ i / 6 < pB (zE σ) then 1 else 0)
  have hti : 0 < (if zR σ (yW d) = 0 then tiO (zG σ (yW d)) else 1) := by
    have := (hs.2.2.2.2.1 (yW d)).1.1
    split
    · unfold tiO; split <;> omega
    · omega
  constructor
  · rintro ⟨t, ht, hs6, hg, hp⟩
    have h2 : 0 < sm 30 (fun i => cwN (zE σ) (yU d) (zR σ (yW d)) (zH σ (yW d)) (zG σ (yW d)) (yK d) i * (if goT (pB (zE σ)) (pR (zE σ)) (yU d) (i / 6) = some b ∧ i % 6 = s ∧ i / 6 < pB (zE σ) then 1 else 0)) := by
      refine sm_pos.mpr ⟨t * 6 + s, by omega, ?_⟩
      rw [cwD_n q] at hp
      have e6 : (t * 6 + s) / 6 = t := by omega
      rw [if_pos ⟨by rw [e6]; exact hg, by omega, by omega⟩, Nat.mul_one]
      exact hp
    have h3 := Nat.mul_pos hti h2
    rw [← e] at h3
    obtain ⟨m, m1, m2⟩ := sm_pos.mp h3
    obtain ⟨t', t1, t2⟩ := sm_pos.mp m2
    have hsp := (jx_sp h.2.2.2.2.1 hB5 m t').2
    have e6 : (tkU σ d m t' * 6 + spU σ d m t') / 6 = tkU σ d m t' := by omega
    have e7 : (tkU σ d m t' * 6 + spU σ d m t') % 6 = spU σ d m t' := by omega
    rw [e6, e7] at t2
    by_cases y : goT (pB (zE σ)) (pR (zE σ)) (yU d) (tkU σ d m t') = some b ∧ spU σ d m t' = s ∧ tkU σ d m t' < pB (zE σ)
    · exact ⟨m, m1, t', t1, if_pos y.1, y.2.1⟩
    · rw [if_neg y, Nat.mul_zero] at t2
      omega
  · rintro ⟨m, m1, t, t1, t2, t3⟩
    have hg : goT (pB (zE σ)) (pR (zE σ)) (yU d) (tkU σ d m t) = some b := Classical.byContradiction fun y => by
      have : inU σ d b m t = 0 := if_neg y
      omega
    obtain ⟨_, htk⟩ := tkU_some hs d t1
    have hsp := (jx_sp h.2.2.2.2.1 hB5 m t).2
    have h3 : 0 < sm (pB (zE σ) ^ zG σ (yW d)) (fun m => sm (tnU σ d m) (fun t => tw (pB (zE σ)) (pW (zE σ)) (zG σ (yW d)) m * coU σ d m * (if goT (pB (zE σ)) (pR (zE σ)) (yU d) ((tkU σ d m t * 6 + spU σ d m t) / 6) = some b ∧ (tkU σ d m t * 6 + spU σ d m t) % 6 = s ∧ (tkU σ d m t * 6 + spU σ d m t) / 6 < pB (zE σ) then 1 else 0))) := by
      refine sm_pos.mpr ⟨m, m1, sm_pos.mpr ⟨t, t1, ?_⟩⟩
      have e6 : (tkU σ d m t * 6 + spU σ d m t) / 6 = tkU σ d m t := by omega
      have e7 : (tkU σ d m t * 6 + spU σ d m t) % 6 = spU σ d m t := by omega
      rw [e6, e7, if_pos ⟨hg, t3, htk⟩, Nat.mul_one]
      exact Nat.mul_pos (tw_pos (fun c => (hs.1.2.2.2.1 c).1) _ _) (co_pos hs d m)
    rw [e] at h3
    obtain ⟨i, i1, i2⟩ := sm_pos.mp (Nat.pos_of_mul_pos_left h3)
    by_cases y : goT (pB (zE σ)) (pR (zE σ)) (yU d) (i / 6) = some b ∧ i % 6 = s ∧ i / 6 < pB (zE σ)
    · refine ⟨i / 6, y.2.2, by omega, y.1, ?_⟩
      rw [cwD_n q, show i / 6 * 6 + s = i by omega]
      exact Nat.pos_of_mul_pos_right i2
    · rw [if_neg y, Nat.mul_zero] at i2
      omega
theorem wt_z {d : DS} {b : Nat} (hz : ∀ s, ¬ slB (zE σ) (yU d) (cwD σ d) b s) : wtS (zE σ) (yU d) (cwD σ d) b = 0 := by
  unfold wtS
  refine sm_z (fun t ht => ?_)
  split
  · next y =>
    refine sm_z (fun s hs6 => ?_)
    exact Classical.byContradiction fun z => hz s ⟨t, ht, hs6, y, by omega⟩
  · rfl
theorem wt_nz (_hs : HSok σ) {d : DS} {b s : Nat} (hz : slB (zE σ) (yU d) (cwD σ d) b s) : wtS (zE σ) (yU d) (cwD σ d) b ≠ 0 := by
  obtain ⟨t, t1, t2, t3, t4⟩ := hz
  have h : 0 < wtS (zE σ) (yU d) (cwD σ d) b := by
    refine sm_pos.mpr ⟨t, t1, ?_⟩
    rw [if_pos t3]
    exact sm_pos.mpr ⟨s, t2, t4⟩
  omega
theorem layGoes9 (hs : HSok σ) {d : DS} (h : DOK σ d) (hp : yP d < zL σ) (M : MHl w σ) (D : DYm w 135 0 d) {b : Nat} (hb : b < pB (zE σ)) : ∃ w' W A K, f_X9_layGoes (nI b) w = some ((), w') ∧ gL w' 130 37 = lN W ∧ gL w' 130 38 = lN A ∧ gI w' 130 39 = K ∧ W < 1000000000 ∧ 0 < A ∧ A < 1000000000 ∧ W * sm 30 (cwD σ d) = wtS (zE σ) (yU d) (cwD σ d) b * A ∧ (W ≠ 0 → (∃ s, s ≤ 5 ∧ K = kI s ∧ oneSl (slB (zE σ) (yU d) (cwD σ d) b) s) ∨ (K = -6 ∧ ¬ ∃ s, oneSl (slB (zE σ) (yU d) (cwD σ d) b) s)) ∧ (W = 0 → ∀ s, ¬ slB (zE σ) (yU d) (cwD σ d) b s) ∧ MHl w' σ ∧ DYm w' 135 0 d := by
  have hB0 := hs.1.1
  have hB5 := hs.1.2.1
  have h6 := hs.2.2.1.2
  have hL := hs.2.1
  have hq := hs.2.2.2.2.1 (yW d)
  have hwho := h.1
  obtain ⟨hu8, hsu⟩ := h.u8 hs
  have hpw : pB (zE σ) ^ zG σ (yW d) ≤ 125 := Nat.le_trans (Nat.pow_le_pow_left hB5 _) (Nat.pow_le_pow_right (by omega) hq.1.2)
  have g5 : gI w 135 5 = nI (yW d) := by have := D.2.1; rw [Nat.zero_add] at this; exact this
  have g6 : gI w 135 6 = nI (yP d) := by have := D.2.2.1; rw [Nat.zero_add] at this; exact this
  have h18 := (M.2.2.2.2.2.1 (yW d) hwho).1
  have M0 : MHl (sI (sL (sL w 130 37 0) 130 38 1) 130 39 (-5)) σ := M.of (by rw [gI_sI, if_neg (by omega)]; rfl) (fun j => by rw [gI_sI, if_neg (by omega)]; rfl)
  have D0 : DYm (sI (sL (sL w 130 37 0) 130 38 1) 130 39 (-5)) 135 0 d := D.of (fun j => by rw [gI_sI, if_neg (by omega)]; rfl)
  obtain ⟨q1, q2, q3⟩ := isDoor (w := sI (sL (sL w 130 37 0) 130 38 1) 130 39 (-5)) (n := yP d + 1) M0.2.1.2.2.2.2.1 hs.1.2.2.2.2.2.1 (by omega)
  have e0 : f_X9_layGoes (nI b) w = if q1 = 0 then (f_X9_waysOf (nI (zR σ (yW d))) (nI (zG σ (yW d))) (sI (sL (sL w 130 37 0) 130 38 1) 130 39 (-5))).bind fun q9 => (f_X9_glancesOf (nI (zG σ (yW d))) (sL q9.2 130 38 q9.1)).bind fun q11 => f_X9_layGoes_114 fu (nI b) (nI (yW d)) (nI (zG σ (yW d))) q11.1 0 q11.2 else (f_X9_layDay (sI (sL (sL w 130 37 0) 130 38 1) 130 39 (-5))).bind fun q40 => if inb 36 135 then (f_X9_goesTo (gI q40.2 133 (ix 36)) q40.2).bind fun q43 => if q43.1 = nI b then f_X9_layGoes_74 1 q43.2 else f_X9_layGoes_74 0 q43.2 else none := by
    have g6' : gI (sI (sL (sL w 130 37 0) 130 38 1) 130 39 (-5)) 135 (ix 6) + 1 = nI (yP d + 1) := by
      rw [show ix (6 : Int32) = 6 from by decide, gI_sI, if_neg (by omega)]
      show gI w 135 6 + 1 = _
      rw [g6, nI_1]
    have h24 : gI (sI (sL (sL w 130 37 0) 130 38 1) 130 39 (-5)) 133 (24 + yW d) = nI (zR σ (yW d)) := (M0.2.2.2.2.2.1 (yW d) hwho).2.1
    rw [f_X9_layGoes, if_pos (show inb _ _ from by decide), show ix (5 : Int32) = 5 from by decide, g5, show (18 : Int32) = nI 18 from rfl, nI_add, if_pos ((inb_nI (by omega)).mpr (by omega)), ix_nI (by omega), h18, if_pos (show inb _ _ from by decide), g6', q2, bind_some']
    dsimp only
    rw [show (24 : Int32) = nI 24 from rfl, nI_add, if_pos ((inb_nI (by omega)).mpr (by omega)), ix_nI (by omega), h24]
  rw [e0]
  rcases q3 with ⟨q, rfl⟩ | ⟨q, rfl⟩
  · rw [if_neg one_ne]
    have hbD := hs.1.2.2.2.2.1
    obtain ⟨w1, a1, a2⟩ := layDay9 h.2.2.2.1 D0
    have S1 := fr_X9_layDay _ a1
    have M1 : MHl w1 σ := M0.km (KM.sm S1 (by decide) rfl)
    have e1 := goesTo (w := w1) (u := yU d) M1.2.1.1 hB5 M1.2.1.2.1 (fun c hc => a2.1 c (by omega)) (fun c => (hs.1.2.2.1 c).2) hu8 hbD
    have S2 := fr_X9_goesTo _ _ e1
    have hS : ∀ s, slB (zE σ) (yU d) (cwD σ d) b s ↔ (goT (pB (zE σ)) (pR (zE σ)) (yU d) (pD (zE σ)) = some b ∧ s = yK d) := by
      intro s
      have hk := h.2.2.2.1
      constructor
      · rintro ⟨t, t1, t2, t3, t4⟩
        rw [cwD_door q] at t4
        by_cases y : t * 6 + s = pD (zE σ) * 6 + yK d
        · have : t = pD (zE σ) := by omega
          subst this
          exact ⟨t3, by omega⟩
        · rw [if_neg y] at t4; omega
      · rintro ⟨t3, rfl⟩
        exact ⟨pD (zE σ), hbD, by omega, t3, by rw [cwD_door q, if_pos rfl]; omega⟩
    have hA : sm 30 (cwD σ d) = 1 := by
      have hk := h.2.2.2.1
      rw [sm_one (k := pD (zE σ) * 6 + yK d) (by omega) _ (fun i _ hi => by rw [cwD_door q, if_neg hi]), cwD_door q, if_pos rfl]
    have hW : wtS (zE σ) (yU d) (cwD σ d) b = if goT (pB (zE σ)) (pR (zE σ)) (yU d) (pD (zE σ)) = some b then 1 else 0 := by
      have hk := h.2.2.2.1
      unfold wtS
      rw [sm_one (k := pD (zE σ)) hbD _ (fun t ht hne => by
        split
        · exact sm_z (fun s hs6 => by rw [cwD_door q, if_neg (by omega)])
        · rfl)]
      split
      · rw [sm_one (k := yK d) (by omega) _ (fun s hs6 hne => by rw [cwD_door q, if_neg (by omega)]), cwD_door q, if_pos rfl]
      · rfl
    have e2 : ((f_X9_layDay (sI (sL (sL w 130 37 0) 130 38 1) 130 39 (-5))).bind fun q40 => if inb 36 135 then (f_X9_goesTo (gI q40.2 133 (ix 36)) q40.2).bind fun q43 => if q43.1 = nI b then f_X9_layGoes_74 1 q43.2 else f_X9_layGoes_74 0 q43.2 else none) = if oI (goT (pB (zE σ)) (pR (zE σ)) (yU d) (pD (zE σ))) = nI b then f_X9_layGoes_74 1 (gwT w1 (yU d) (goT (pB (zE σ)) (pR (zE σ)) (yU d) (pD (zE σ)))) else f_X9_layGoes_74 0 (gwT w1 (yU d) (goT (pB (zE σ)) (pR (zE σ)) (yU d) (pD (zE σ)))) := by
      rw [a1, bind_some', if_pos (show inb _ _ from by decide), show ix (36 : Int32) = 36 from by decide]
      dsimp only
      rw [M1.2.1.2.2.2.1, e1, bind_some']
    rw [e2]
    have h38 : gL (gwT w1 (yU d) (goT (pB (zE σ)) (pR (zE σ)) (yU d) (pD (zE σ)))) 130 38 = lN 1 := by rw [S2.L 130 38 rfl, S1.L 130 38 rfl]; rfl
    have h22 : gI (gwT w1 (yU d) (goT (pB (zE σ)) (pR (zE σ)) (yU d) (pD (zE σ)))) 130 22 = kI (yK d) := by rw [S2.I 130 22 rfl]; exact a2.2
    have M2 := M1.km (KM.sm S2 (by decide) rfl)
    have D2 : DYm (gwT w1 (yU d) (goT (pB (zE σ)) (pR (zE σ)) (yU d) (pD (zE σ)))) 135 0 d := (D0.of (fun j => S1.I 135 j rfl)).of (fun j => S2.I 135 j rfl)
    generalize gwT w1 (yU d) (goT (pB (zE σ)) (pR (zE σ)) (yU d) (pD (zE σ))) = w2 at *
    have fin : ∀ W : Nat, W ≤ 1 → (W = 1 ↔ goT (pB (zE σ)) (pR (zE σ)) (yU d) (pD (zE σ)) = some b) → ∃ w' W' A K, f_X9_layGoes_74 (lN W) w2 = some ((), w') ∧ gL w' 130 37 = lN W' ∧ gL w' 130 38 = lN A ∧ gI w' 130 39 = K ∧ W' < 1000000000 ∧ 0 < A ∧ A < 1000000000 ∧ W' * sm 30 (cwD σ d) = wtS (zE σ) (yU d) (cwD σ d) b * A ∧ (W' ≠ 0 → (∃ s, s ≤ 5 ∧ K = kI s ∧ oneSl (slB (zE σ) (yU d) (cwD σ d) b) s) ∨ (K = -6 ∧ ¬ ∃ s, oneSl (slB (zE σ) (yU d) (cwD σ d) b) s)) ∧ (W' = 0 → ∀ s, ¬ slB (zE σ) (yU d) (cwD σ d) b s) ∧ MHl w' σ ∧ DYm w' 135 0 d := by
      intro W hW1 hWi
      refine ⟨_, W, 1, kI (yK d), rfl, ?_, ?_, ?_, by omega, by omega, by omega, ?_, fun hne => Or.inl ⟨yK d, h.2.2.2.1, rfl, (hS _).mpr ⟨hWi.mp (by omega), rfl⟩, fun s' q => ((hS s').mp q).2⟩, fun h0 s q => ?_, ?_, ?_⟩
      · exact gL_same _ _ _ _
      · show gL (sL w2 130 37 (lN W)) 130 38 = _
        rw [gL_sL, if_neg (by omega)]; exact h38
      · rw [gI_same]; exact h22
      · rw [hA, hW, Nat.mul_one, Nat.mul_one]
        by_cases y : goT (pB (zE σ)) (pR (zE σ)) (yU d) (pD (zE σ)) = some b
        · rw [if_pos y]; exact hWi.mpr y
        · rw [if_neg y]
          have : W ≠ 1 := fun z => y (hWi.mp z)
          omega
      · have := hWi.mpr ((hS s).mp q).1
        omega
      · exact M2.of (by rw [gI_sI, if_neg (by omega)]; rfl) (fun j => by rw [gI_sI, if_neg (by omega)]; rfl)
      · exact D2.of (fun j => by rw [gI_sI, if_neg (by omega)]; rfl)
    by_cases y : goT (pB (zE σ)) (pR (zE σ)) (yU d) (pD (zE σ)) = some b
    · rw [if_pos ((oI_eq (goT_lt hs.1 hbD) (by omega)).mpr y).symm]
      exact fin 1 (by omega) ⟨fun _ => y, fun _ => rfl⟩
    · rw [if_neg (fun z => y ((oI_eq (goT_lt hs.1 hbD) (by omega)).mp z.symm))]
      exact fin 0 (by omega) ⟨fun z => by omega, fun z => absurd z y⟩
  · rw [if_pos rfl]
    have eW := waysOf (w := sI (sL (sL w 130 37 0) 130 38 1) 130 39 (-5)) (r := zR σ (yW d)) (g := zG σ (yW d)) M0.2.1.1 hB5 M0.2.1.2.2.1 (fun c => (hs.1.2.2.2.1 c).2) hq.1.2 hq.2.1
    have hWY := WY_le (r := zR σ (yW d)) hs.1 hq.1.1 hq.1.2
    have eW' : sm (pB (zE σ)) (pW (zE σ)) ^ zG σ (yW d) * (if zR σ (yW d) = 0 then tiO (zG σ (yW d)) else 1) = WY (zE σ) (zR σ (yW d)) (zG σ (yW d)) := rfl
    rw [eW'] at eW
    have M1 : MHl (sL (sI (sL (sL w 130 37 0) 130 38 1) 130 39 (-5)) 130 38 (lN (WY (zE σ) (zR σ (yW d)) (zG σ (yW d))))) σ := M0.of rfl (fun _ => rfl)
    have eG := glancesOf (w := sL (sI (sL (sL w 130 37 0) 130 38 1) 130 39 (-5)) 130 38 (lN (WY (zE σ) (zR σ (yW d)) (zG σ (yW d))))) (g := zG σ (yW d)) M1.2.1.1 hB5 hq.1.2
    have X1 : GX σ d (sL (sI (sL (sL w 130 37 0) 130 38 1) 130 39 (-5)) 130 38 (lN (WY (zE σ) (zR σ (yW d)) (zG σ (yW d))))) 0 (fun _ => False) := ⟨M1, D0, by
      rw [gL_sL, if_neg (by omega)]
      show gL (sL (sL w 130 37 0) 130 38 1) 130 37 = _
      rw [gL_sL, if_neg (by omega), gL_same]; rfl, Or.inl ⟨by show gI (sI (sL (sL w 130 37 0) 130 38 1) 130 39 (-5)) 130 39 = -5; rw [gI_same], fun _ z => z⟩, gL_same _ _ _ _⟩
    obtain ⟨w', S', c1, ⟨c2, c3, c4, c5, c7⟩, c6⟩ := lg114 hs h (b := b) (by omega) (pB (zE σ) ^ zG σ (yW d)) 0 fu _ 0 _ (by omega) (fu_gt (by omega)) X1
    have hS : ∀ s, S' s ↔ slB (zE σ) (yU d) (cwD σ d) b s := by
      intro s
      rw [c6 s, slB_S9 hs h q]
      constructor
      · rintro (z | ⟨k, k1, z⟩)
        · exact absurd z id
        · rw [Nat.zero_add] at z
          exact ⟨k, k1, z⟩
      · rintro ⟨k, k1, z⟩
        exact Or.inr ⟨k, k1, by rw [Nat.zero_add]; exact z⟩
    have hWe : 0 + sm (pB (zE σ) ^ zG σ (yW d)) (fun k => sm (tnU σ d (0 + k)) (fun t => tw (pB (zE σ)) (pW (zE σ)) (zG σ (yW d)) (0 + k) * coU σ d (0 + k) * inU σ d b (0 + k) t)) = (if zR σ (yW d) = 0 then tiO (zG σ (yW d)) else 1) * wtS (zE σ) (yU d) (cwD σ d) b := by
      rw [Nat.zero_add, wt_F hs q, ← T_day hs h]
      refine sm_c (fun m _ => ?_)
      rw [Nat.zero_add m]
      refine sm_c (fun t _ => ?_)
      have hsp := (jx_sp h.2.2.2.2.1 hB5 m t).2
      rw [show (tkU σ d m t * 6 + spU σ d m t) / 6 = tkU σ d m t by omega]
      rfl
    have hAll : sm 30 (cwD σ d) = sm (pB (zE σ)) (pW (zE σ)) ^ zG σ (yW d) := by
      rw [← cwN_all (h := zH σ (yW d)) (sl := yK d) hs.1 hq.1.1 hq.1.2 hq.2.1 (yU d)]
      exact sm_c (fun i _ => cwD_n q i)
    have hwl : wtS (zE σ) (yU d) (cwD σ d) b ≤ sm 30 (cwD σ d) := by
      rw [wt_F hs q]
      refine sm_le (fun i _ => ?_)
      rw [cwD_n q]
      split
      · rw [Nat.mul_one]; exact Nat.le_refl _
      · rw [Nat.mul_zero]; exact Nat.zero_le _
    have hti : 0 < (if zR σ (yW d) = 0 then tiO (zG σ (yW d)) else 1) ∧ (if zR σ (yW d) = 0 then tiO (zG σ (yW d)) else 1) ≤ 6 := by
      split
      · unfold tiO; split <;> omega
      · omega
    have hWl : (if zR σ (yW d) = 0 then tiO (zG σ (yW d)) else 1) * wtS (zE σ) (yU d) (cwD σ d) b ≤ WY (zE σ) (zR σ (yW d)) (zG σ (yW d)) := by
      rw [← eW', Nat.mul_comm, ← hAll]
      exact Nat.mul_le_mul_right _ hwl
    rw [hWe] at c4
    refine ⟨w', _, WY (zE σ) (zR σ (yW d)) (zG σ (yW d)), gI w' 130 39, ?_, c4, c7, rfl, by omega, by omega, by omega, ?_, fun hne => ?_, fun h0 s z => ?_, c2, c3⟩
    · rw [eW, bind_some']
      dsimp only
      rw [eG, bind_some', show (0 : Int32) = nI 0 from rfl]
      exact c1
    · rw [hAll, ← eW', Nat.mul_assoc, Nat.mul_comm, Nat.mul_assoc]
    · rcases c5.c hS with ⟨a, b'⟩ | ⟨s, a, b', c⟩ | ⟨a, s, s', b', c, e⟩
      · exfalso
        refine hne ?_
        rw [wt_z (fun s => b' s), Nat.mul_zero]
      · exact Or.inl ⟨s, a, b', c⟩
      · exact Or.inr ⟨a, fun ⟨s2, y1, y2⟩ => e ((y2 s b').trans (y2 s' c).symm)⟩
    · rcases Nat.mul_eq_zero.mp h0 with y | y
      · omega
      · exact wt_nz hs z y
end GO
