theorem sm_k (n c : Nat) : sm n (fun _ => c) = n * c := by
  induction n with
  | zero => rw [Nat.zero_mul]; rfl
  | succ n ih => rw [sm_s, ih, Nat.succ_mul]
theorem tn_dvd {u x : Nat → Nat} {B g : Nat} (hg1 : 1 ≤ g) (hg : g ≤ 3) (hx : ∀ i, x i < B) : tnS u x B 0 g * (tiO g / tnS u x B 0 g) = tiO g := by
  have h1 := tnS_pos (u := u) (r := 0) hg1 (fun i _ => hx i)
  have h2 : tnS u x B 0 g ≤ g := by unfold tnS; rw [if_pos rfl]; exact tcS_le g
  generalize tnS u x B 0 g = t at *
  unfold tiO
  rcases (show g = 1 ∨ g = 2 ∨ g = 3 by omega) with rfl | rfl | rfl <;> rcases (show t = 1 ∨ t = 2 ∨ t = 3 by omega) with rfl | rfl | rfl <;> first | rfl | omega
theorem cwN_all {η : HP} (hη : HPok η) {g r h sl : Nat} (hg1 : 1 ≤ g) (hg : g ≤ 3) (hr : r ≤ 4) (u : Nat → Nat) : sm 30 (cwN η u r h g sl) = sm (pB η) (pW η) ^ g := by
  have hB0 : 0 < pB η := hη.1
  have j2 := hη.2.1
  have key : (if r = 0 then tiO g else 1) * sm 30 (cwN η u r h g sl) = (if r = 0 then tiO g else 1) * sm (pB η) (pW η) ^ g := by
    by_cases r4 : r = 4
    · subst r4
      simp only [show ¬ (4 : Nat) = 0 by omega, if_false, Nat.one_mul]
      have e1 : sm 30 (cwN η u 4 h g sl) = sm (2 ^ pB η) (fun m => snS (pB η) (pW η) g m * 1) := by
        unfold cwN cwE
        simp only [show ¬ (4 : Nat) = 0 by omega, show ¬ (4 : Nat) = 2 by omega, if_false]
        rw [sm_swap]
        refine sm_c (fun m hm => ?_)
        rw [Nat.mul_one]
        by_cases m0 : m = 0
        · subst m0
          rw [snS_0 hg1]
          exact sm_z (fun i _ => by rw [if_neg (fun q => q.1 rfl)])
        · rw [sm_one (ixS_lt hη (u := u) (r := 4) (sl := sl) hm m0).1 _ (fun i _ q => if_neg (fun z => q z.2.symm)), if_pos ⟨m0, rfl⟩]
      rw [e1, snS_sum j2, gsm_one]
    · have e : sl = 0 ∨ sl ≠ 0 := by omega
      have h0 : cwN η u r h g sl = cwN η u r h g 0 := by
        funext i
        unfold cwN cwE ixS tkM ckS
        simp only [if_neg r4]
      rw [h0]
      have t := T_eq hη hg1 hg hr (sl := 0) (h := h) (fun _ => rfl) u (fun _ => 1)
      simp only [Nat.mul_one] at t
      rw [← show sm 30 (fun i => cwN η u r h g 0 i) = sm 30 (cwN η u r h g 0) from rfl, ← t, ← gsm_one, ← gsm_mul]
      refine gsm_c hB0 (fun x hx => ?_)
      rw [sm_k]
      by_cases r0 : r = 0
      · subst r0
        simp only [if_true, Nat.mul_one]
        exact tn_dvd hg1 hg hx
      · simp only [if_neg r0, Nat.mul_one]
        unfold tnS
        rw [if_neg r0]
  refine Nat.eq_of_mul_eq_mul_left ?_ key
  unfold tiO
  split
  · split <;> omega
  · omega
theorem cw_lt {η : HP} (hη : HPok η) {g r h sl n : Nat} (hg1 : 1 ≤ g) (hg : g ≤ 3) (hr : r ≤ 4) (u : Nat → Nat) : ∀ i, i < 30 → cw η u r h g sl n i < 2147483648 := by
  intro i hi
  have e := cwN_all hη (h := h) (sl := sl) hg1 hg hr u
  have hw15 : sm (pB η) (pW η) ^ g ≤ 15 ^ 3 := Nat.le_trans (Nat.pow_le_pow_left (WT_le hη).2 g) (Nat.pow_le_pow_right (by omega) hg)
  have t := sm_term hi (cwN η u r h g sl)
  unfold cw
  split
  · split <;> omega
  · show cwN η u r h g sl i < _
    omega
/-- what a letter more counts, from a layout and a slot -/
noncomputable def W1 (η : HP) (u : Nat → Nat) (r h g n slot : Nat) (F : Nat → Nat) : Nat := sm (pB η) (fun t => gFS (cw η u r h g slot n) (lbS η u n t) t F)
theorem su_ZB {B : Nat} {u : Nat → Nat} (hB5 : B ≤ 5) (hz : ZB B u) : su u = sm B u := by
  unfold su
  rw [show 5 = B + (5 - B) by omega, sm_app, sm_z (n := 5 - B) (fun i _ => hz _ (by omega)), Nat.add_zero]
theorem ZB_mv {η : HP} (hη : HPok η) {u : Nat → Nat} (hz : ZB (pB η) u) (n : Nat) : ZB (pB η) (mvH η u n) := by
  have j1 := hη.1
  intro c hc
  unfold mvH mvS
  split
  · exact hz c hc
  · have := mvP_lt (B := pB η) (u := u) (pB η - 1) 1 0 0 (by omega) (by omega) (by omega)
    unfold mvE
    split
    · exact hz c hc
    · dsimp only
      rw [if_neg (by omega), if_neg (by omega)]
      exact hz c hc
theorem ZB_ld {η : HP} {u : Nat → Nat} (hz : ZB (pB η) u) {b : Nat} (hb : b < pB η) : ZB (pB η) (ldH η u b) := by
  intro c hc
  unfold ldH
  cases q : goT (pB η) (pR η) u b with
  | none => exact hz c hc
  | some t =>
    have := (goS_some _ _ _ hb q).1
    unfold upM
    rw [if_neg (fun z => by cases z; omega)]
    exact hz c hc
theorem ld_sum {η : HP} (hη : HPok η) {u : Nat → Nat} (hz : ZB (pB η) u) {b t n : Nat} (hb : b < pB η) (hg : goT (pB η) (pR η) u b = some t) : sm (pB η) (mvH η (ldH η u b) n) = sm (pB η) u + 1 := by
  have j2 := hη.2.1
  rw [← su_ZB j2 (ZB_mv hη (ZB_ld hz hb) n), ← su_ZB j2 hz, mvH_su hη]
  have := (goS_some _ _ _ hb hg).1
  unfold ldH
  rw [hg, upM_su (by omega)]
theorem lbS_lvl {η : HP} (hη : HPok η) {u : Nat → Nat} (hz : ZB (pB η) u) (h7 : sm (pB η) u ≤ 7) {b n x : Nat} (hb : b < pB η) (h : lbS η u n b = some x) : fst (pB η) (sm (pB η) u + 1) ≤ x ∧ x < fst (pB η) (sm (pB η) u + 2) ∧ x < 1287 := by
  have j1 := hη.1
  have j2 := hη.2.1
  unfold lbS at h
  cases q : goT (pB η) (pR η) u b with
  | none => rw [q] at h; cases h
  | some t =>
    rw [q] at h
    cases h
    have e := ld_sum hη hz (n := n) hb q
    have k := (rk_lvl (u := mvH η (ldH η u b) n) (s := sm (pB η) u + 1) j1).mpr e
    exact ⟨k.1, k.2, rk_lt j1 j2 (by omega)⟩
theorem sumOf {w : GW} {A : Nat → Nat} {fl i M : Nat} (hM : M ≤ 7722) (hW : WT w A fl M) (hi : i * 6 + 6 ≤ M) : f_X0_sumOfSlots (nI i) w = some (lN (sm 6 (fun s => nrm fl (A (i * 6 + s)))), w) := by
  have key : ∀ d s n, s + d = 6 → d < n → f_X0_sumOfSlots_5 n (nI i) (lN (sm s (fun s => nrm fl (A (i * 6 + s))))) (nI s) w = some (lN (sm 6 (fun s => nrm fl (A (i * 6 + s)))), w) := by
    intro d
    induction d with
    | zero =>
      intro s n hs hn
      obtain ⟨n, rfl⟩ : ∃ m9, n = m9 + 1 := ⟨n - 1, by omega⟩
      have : s = 6 := by omega
      subst this
      rw [f_X0_sumOfSlots_5, show (6 : Int32) = nI 6 from rfl, if_pos ((le_nI (by omega) (by omega)).mpr (by omega))]
    | succ d ih =>
      intro s n hs hn
      obtain ⟨n, rfl⟩ : ∃ m9, n = m9 + 1 := ⟨n - 1, by omega⟩
      have e := ih (s + 1) n (by omega) (by omega)
      rw [sm_s] at e
      rw [f_X0_sumOfSlots_5, show (6 : Int32) = nI 6 from rfl, if_neg (fun q9 => absurd ((le_nI (by omega) (by omega)).mp q9) (by omega)), pk_mul, nI_add, show (7722 : Nat) = 7722 from rfl, if_pos ((inb_nI (by omega)).mpr (by omega)), ix_nI (by omega), hW _ (by omega), lN_add, nI_1]
      exact e
  rw [f_X0_sumOfSlots, show (0 : Int32) = nI 0 from rfl, show (0 : Int64) = lN 0 from rfl]
  exact key 6 0 fu (by omega) (fu_gt (by omega))
section GO
variable {η : HP} {r h g most n i fl M : Nat} {u A : Nat → Nat}
theorem goOn_136 (hη : HPok η) (hg1 : 1 ≤ g) (hg : g ≤ 3) (hr : r ≤ 4) (hfl : fl = 0 ∨ fl = 1) (hz : ZB (pB η) u) (h7 : sm (pB η) u ≤ 7) (hM : M ≤ 7722) (hM2 : fst (pB η) (sm (pB η) u + 2) * 6 ≤ M) {slot a : Nat} (ha : 0 < a) {x1 x2 x4 : Int32} {k : Int32 → Int32 → Int32 → Int32 → GW → Option (Unit × GW)} : ∀ d t m w A, t + d = pB η → d < m → DX w η r h g most → WT w A fl M → (∀ s, s < 30 → gL w 71 s = lN (cw η u r h g slot n s)) → (∀ b, b < pB η → gI w 115 b = oI (lbS η u n b)) → ∃ A' w', f_X0_goOn_136 k m x1 x2 (nI fl) x4 (lN (nrm fl a)) (nI t) w = k x1 x2 (nI fl) (x4 + 1) w' ∧ oL 111 w w' ∧ WT w' A' fl M ∧ (∀ F, sm 7722 (fun j => A' j * F j) = sm 7722 (fun j => A j * F j) + a * sm d (fun e => gFS (cw η u r h g slot n) (lbS η u n (t + e)) (t + e) F)) ∧ ∀ j, j < fst (pB η) (sm (pB η) u + 1) * 6 → A' j = A j := by
  have j2 := hη.2.1
  intro d
  induction d with
  | zero =>
    intro t m w A ht hm hD hW h71 h115
    obtain ⟨m, rfl⟩ : ∃ m9, m = m9 + 1 := ⟨m - 1, by omega⟩
    have : t = pB η := by omega
    subst this
    refine ⟨A, w, ?_, oL.rf, hW, fun F => by rw [sm_0, Nat.mul_zero, Nat.add_zero], fun _ _ => rfl⟩
    rw [f_X0_goOn_136, hD.1.1, if_pos ((le_nI (by omega) (by omega)).mpr (by omega)), f_X0_goOn_163]
  | succ d ih =>
    intro t m w A ht hm hD hW h71 h115
    obtain ⟨m, rfl⟩ : ∃ m9, m = m9 + 1 := ⟨m - 1, by omega⟩
    obtain ⟨A1, w1, a1, a2, a3, a4, a5⟩ := passOn (A := A) (c := cw η u r h g slot n) (o := lbS η u n t) (a := a) (taken := t) hfl (by omega) hM (fun b hb => by have := (lbS_lvl hη hz h7 (by omega) hb).2.1; omega) (cw_lt hη hg1 hg hr u) ha hW h71 (h115 t (by omega))
    obtain ⟨A2, w2, b1, b2, b3, b4, b5⟩ := ih (t + 1) m w1 A1 (by omega) (by omega) (hD.oL a2 (by omega)) a3 (fun s hs => by rw [a2.2.2 _ _ (by omega)]; exact h71 s hs) (fun b hb => by rw [a2.1]; exact h115 b hb)
    refine ⟨A2, w2, ?_, a2.tr b2, b3, fun F => ?_, fun j hj => ?_⟩
    · rw [f_X0_goOn_136, hD.1.1, if_neg (fun q9 => absurd ((le_nI (by omega) (by omega)).mp q9) (by omega)), a1, bind_some', nI_1]
      exact b1
    · rw [b4, a4, sm_first' d, Nat.mul_add, Nat.add_assoc]
      congr 3
      exact sm_c (fun e _ => by rw [show t + 1 + e = t + (e + 1) by omega])
    · rw [b5 j hj, a5 j (fun b hb => by
        have := (lbS_lvl hη hz h7 (by omega) hb).1
        omega)]
theorem goOn_91 (hη : HPok η) (hg1 : 1 ≤ g) (hg : g ≤ 3) (hr : r ≤ 4) (hh : h ≤ 8) (hfl : fl = 0 ∨ fl = 1) (hn : n < 1000) (hz : ZB (pB η) u) (h7 : sm (pB η) u ≤ 7) (hM : M ≤ 7722) (hiM : i * 6 + 6 ≤ M) (hM2 : fst (pB η) (sm (pB η) u + 2) * 6 ≤ M) (hi : rk u (pB η) = i) (hA : fl = 0 → ∀ s, s < 6 → A (i * 6 + s) < 1152921504606846976) : ∀ d s m w A1, s + d = 6 → d < m → DX w η r h g most → WT w A1 fl M → (∀ j, j < fst (pB η) (sm (pB η) u + 1) * 6 → A1 j = A j) → (∀ c, c < 5 → gI w 113 c = nI (u c)) → (∀ b, b < pB η → gI w 115 b = oI (lbS η u n b)) → ∃ A' w', f_X0_goOn_91 m (nI i) (nI n) (nI fl) (nI s) w = some ((), w') ∧ DX w' η r h g most ∧ WT w' A' fl M ∧ (∀ F, sm 7722 (fun j => A' j * F j) = sm 7722 (fun j => A1 j * F j) + sm d (fun e => A (i * 6 + (s + e)) * W1 η u r h g n (s + e) F)) ∧ ∀ j, j < fst (pB η) (sm (pB η) u + 1) * 6 → A' j = A j := by
  have j1 := hη.1
  have j2 := hη.2.1
  have hi2 := ((rk_lvl (u := u) (s := sm (pB η) u) j1).mpr rfl).2
  rw [hi] at hi2
  have hi3 : i < 1287 := by rw [← hi]; exact rk_lt j1 j2 (by omega)
  have u8 : ∀ c, u c ≤ 8 := fun c => by have := ZB_le hz c; omega
  intro d
  induction d with
  | zero =>
    intro s m w A1 hs hm hD hW hlow hu h115
    obtain ⟨m, rfl⟩ : ∃ m9, m = m9 + 1 := ⟨m - 1, by omega⟩
    have : s = 6 := by omega
    subst this
    refine ⟨A1, w, ?_, hD, hW, fun F => by rw [sm_0, Nat.add_zero], hlow⟩
    rw [f_X0_goOn_91, show (6 : Int32) = nI 6 from rfl, if_pos ((le_nI (by omega) (by omega)).mpr (by omega))]
  | succ d ih =>
    intro s m w A1 hs hm hD hW hlow hu h115
    obtain ⟨m, rfl⟩ : ∃ m9, m = m9 + 1 := ⟨m - 1, by omega⟩
    have e1 := hlow (i * 6 + s) (by omega)
    have hn63 : nrm fl (A (i * 6 + s)) < 9223372036854775808 := by
      unfold nrm
      rcases hfl with rfl | rfl
      · have := hA rfl s (by omega)
        rw [if_pos rfl]; omega
      · rw [if_neg (by decide)]; split <;> omega
    rw [f_X0_goOn_91, show (6 : Int32) = nI 6 from rfl, if_neg (fun q9 => absurd ((le_nI (by omega) (by omega)).mp q9) (by omega)), pk_mul, nI_add, show (7722 : Nat) = 7722 from rfl, if_pos ((inb_nI (by omega)).mpr (by omega)), ix_nI (by omega), hW _ (by omega), e1]
    by_cases q : A (i * 6 + s) = 0
    · rw [if_pos ((lle0 hn63).mpr (nrm_z.mpr q)), f_X0_goOn_163, nI_1]
      obtain ⟨A', w', b1, b2, b3, b4, b5⟩ := ih (s + 1) m w A1 (by omega) (by omega) hD hW hlow hu h115
      refine ⟨A', w', b1, b2, b3, fun F => ?_, b5⟩
      rw [b4, sm_first' d, show s + 0 = s from rfl, q, Nat.zero_mul, Nat.zero_add]
      congr 1
      exact sm_c (fun e _ => by rw [show s + 1 + e = s + (e + 1) by omega])
    · rw [if_neg (fun z => q (nrm_z.mp ((lle0 hn63).mp z)))]
      obtain ⟨w1, c1, c2, c3⟩ := weigh (k1 := 113) (sl := s) hη hg hr hh u8 (by omega) hn (by omega) hD.2.1 hu hD.2.2.1
      obtain ⟨A2, w2, d1, d2, d3, d4, d5⟩ := goOn_136 (slot := s) (a := A (i * 6 + s)) (x1 := nI i) (x2 := nI n) (x4 := nI s) (k := f_X0_goOn_91 m) hη hg1 hg hr hfl hz h7 hM hM2 (by omega) (pB η) 0 fu w1 A1 (by omega) (fu_gt (by omega)) (hD.oL c2 (by omega)) (fun j hj => by rw [c2.2.2 _ _ (by omega)]; exact hW j hj) c3 (fun b hb => by rw [c2.1]; exact h115 b hb)
      obtain ⟨A', w', b1, b2, b3, b4, b5⟩ := ih (s + 1) m w2 A2 (by omega) (by omega) ((hD.oL c2 (by omega)).oL d2 (by omega)) d3 (fun j hj => by rw [d5 j hj]; exact hlow j hj) (fun c hc => by rw [d2.1, c2.1]; exact hu c hc) (fun b hb => by rw [d2.1, c2.1]; exact h115 b hb)
      refine ⟨A', w', ?_, b2, b3, fun F => ?_, b5⟩
      · rw [c1, bind_some']
        show f_X0_goOn_136 (f_X0_goOn_91 m) fu (nI i) (nI n) (nI fl) (nI s) (lN (nrm fl (A (i * 6 + s)))) 0 w1 = _
        rw [show (0 : Int32) = nI 0 from rfl, d1, nI_1]
        exact b1
      · rw [b4, d4, sm_first' d, Nat.add_assoc]
        congr 2
        · rw [Nat.add_zero]
          unfold W1
          congr 1
          exact sm_c (fun e _ => by rw [Nat.zero_add])
        · exact sm_c (fun e _ => by rw [show s + 1 + e = s + (e + 1) by omega])
theorem goOn_56 (hη : HPok η) (hn : n < 1000) (hz : ZB (pB η) u) (h7 : sm (pB η) u ≤ 7) {x1 x3 : Int32} : ∀ d b m w, b + d = pB η → d < m → DX w η r h g most → (∀ c, c < 5 → gI w 113 c = nI (u c)) → (∀ c, c < b → gI w 115 c = oI (lbS η u n c)) → ∃ w', f_X0_goOn_56 m x1 (nI n) x3 (nI b) w = f_X0_goOn_91 fu x1 (nI n) x3 0 w' ∧ DX w' η r h g most ∧ (∀ c, c < 5 → gI w' 113 c = nI (u c)) ∧ (∀ c, c < pB η → gI w' 115 c = oI (lbS η u n c)) ∧ ∀ j, gL w' 111 j = gL w 111 j := by
  have j2 := hη.2.1
  have u8 : ∀ c, u c ≤ 8 := fun c => by have := ZB_le hz c; omega
  intro d
  induction d with
  | zero =>
    intro b m w hb hm hD hu h0
    obtain ⟨m, rfl⟩ : ∃ m9, m = m9 + 1 := ⟨m - 1, by omega⟩
    have : b = pB η := by omega
    subst this
    refine ⟨w, ?_, hD, hu, h0, fun _ => rfl⟩
    rw [f_X0_goOn_56, hD.1.1, if_pos ((le_nI (by omega) (by omega)).mpr (by omega))]
  | succ d ih =>
    intro b m w hb hm hD hu h0
    obtain ⟨m, rfl⟩ : ∃ m9, m = m9 + 1 := ⟨m - 1, by omega⟩
    obtain ⟨w1, a1, a2⟩ := lieBehind (b := b) hη hD.1 hu (by rw [su_ZB j2 hz]; exact h7) u8 (by omega) hn
    have hD1 : DX w1 η r h g most := hD.sm a2 (fun p j hp => by simp [md, L_X0_lieBehind]; omega) (by decide) (by decide) (by decide)
    obtain ⟨w', b1, b2, b3, b4, b5⟩ := ih (b + 1) m (sI w1 115 b (oI (lbS η u n b))) (by omega) (by omega) (hD1.oN (by omega) (by omega) (by omega) (oN.st _ _ _ _) (fun c _ _ => by rw [gI_sI, if_neg (by omega)])) (fun c hc => by rw [gI_sI, if_neg (by omega), a2.I 113 c rfl]; exact hu c hc) (fun c hc => by
      rw [gI_sI]
      by_cases z : c = b
      · rw [if_pos ⟨rfl, z⟩, z]
      · rw [if_neg (fun q => z q.2), a2.I 115 c rfl]; exact h0 c (by omega))
    refine ⟨w', ?_, b2, b3, b4, fun j => ?_⟩
    · rw [f_X0_goOn_56, hD.1.1, if_neg (fun q9 => absurd ((le_nI (by omega) (by omega)).mp q9) (by omega)), a1, bind_some', if_pos ((inb_nI (by omega)).mpr (by omega)), ix_nI (by omega), nI_1]
      exact b1
    · rw [b5, gL_sI, a2.L 111 j rfl]
theorem pk_unp {u : Nat → Nat} (h : ∀ c, c < 5 → u c ≤ 15) : ∀ b, b < 5 → pkS u / 2 ^ (4 * b) % 16 = u b := by
  intro b hb
  have h0 := h 0 (by omega)
  have h1 := h 1 (by omega)
  have h2 := h 2 (by omega)
  have h3 := h 3 (by omega)
  have h4 := h 4 (by omega)
  unfold pkS
  rcases (show b = 0 ∨ b = 1 ∨ b = 2 ∨ b = 3 ∨ b = 4 by omega) with rfl | rfl | rfl | rfl | rfl <;> simp only [Nat.mul_zero, Nat.mul_one, Nat.reduceMul, Nat.reducePow] <;> omega
theorem pkS_lt {u : Nat → Nat} (h : ∀ c, c < 5 → u c ≤ 15) : pkS u < 1048576 := by
  have h0 := h 0 (by omega)
  have h1 := h 1 (by omega)
  have h2 := h 2 (by omega)
  have h3 := h 3 (by omega)
  have h4 := h 4 (by omega)
  unfold pkS
  omega
theorem unp {u : Nat → Nat} (h : ∀ c, c < 5 → u c ≤ 15) {b : Nat} (hb : b < 5) : ((nI (pkS u) >>> (((4 : Int32) * nI b) &&& 31)) &&& 15) = nI (u b) := by
  have := pkS_lt h
  rw [show (4 : Int32) = nI 4 from rfl, pk_mul, pk_shrN (by omega) _ (4 * b) (sh_amt _ (by omega)), show (15 : Int32) = nI (2 ^ 4 - 1) from rfl, fa_mask, pk_unp h b hb]
theorem goOn_14 (hη : HPok η) (hz : ZB (pB η) u) (h8 : ∀ c, u c ≤ 8) (hi3 : i < 1287) {x2 x3 : Int32} : ∀ d b m w, b + d = pB η → d < m → DX w η r h g most → gI w 112 i = nI (pkS u) → (∀ c, c < b → gI w 113 c = nI (u c)) → ∃ w', f_X0_goOn_14 m (nI i) x2 x3 (nI b) w = f_X0_goOn_56 fu (nI i) x2 x3 0 w' ∧ DX w' η r h g most ∧ (∀ c, c < 5 → gI w' 113 c = nI (u c)) ∧ ∀ j, gL w' 111 j = gL w 111 j := by
  have j2 := hη.2.1
  intro d
  induction d with
  | zero =>
    intro b m w hb hm hD h112 h0
    obtain ⟨m, rfl⟩ : ∃ m9, m = m9 + 1 := ⟨m - 1, by omega⟩
    have : b = pB η := by omega
    subst this
    refine ⟨w, ?_, hD, fun c hc => ?_, fun _ => rfl⟩
    · rw [f_X0_goOn_14, hD.1.1, if_pos ((le_nI (by omega) (by omega)).mpr (by omega))]
    · by_cases z : c < pB η
      · exact h0 c z
      · rw [hD.2.2.2.2 c (by omega) hc, hz c (by omega)]; rfl
  | succ d ih =>
    intro b m w hb hm hD h112 h0
    obtain ⟨m, rfl⟩ : ∃ m9, m = m9 + 1 := ⟨m - 1, by omega⟩
    obtain ⟨w', b1, b2, b3, b4⟩ := ih (b + 1) m (sI w 113 b (nI (u b))) (by omega) (by omega) (hD.oN (by omega) (by omega) (by omega) (oN.st _ _ _ _) (fun c hc _ => by rw [gI_sI, if_neg (by omega)])) (by rw [gI_sI, if_neg (by omega)]; exact h112) (fun c hc => by
      rw [gI_sI]
      by_cases z : c = b
      · rw [if_pos ⟨rfl, z⟩, z]
      · rw [if_neg (fun q => z q.2)]; exact h0 c (by omega))
    refine ⟨w', ?_, b2, b3, fun j => by rw [b4, gL_sI]⟩
    rw [f_X0_goOn_14, hD.1.1, if_neg (fun q9 => absurd ((le_nI (by omega) (by omega)).mp q9) (by omega)), show (1287 : Nat) = 1287 from rfl, if_pos ((inb_nI (by omega)).mpr (by omega)), if_pos ((inb_nI (by omega)).mpr (by omega)), ix_nI (by omega), ix_nI (by omega), h112, unp (fun c _ => by have := h8 c; omega) (by omega), nI_1]
    exact b1
theorem goOn (hη : HPok η) (hg1 : 1 ≤ g) (hg : g ≤ 3) (hr : r ≤ 4) (hh : h ≤ 8) (hfl : fl = 0 ∨ fl = 1) (hn : n < 1000) {w : GW} (hD : DX w η r h g most) (hW : WT w A fl M) (hM : M ≤ 7722) (hiM : i * 6 + 6 ≤ M) (hA : fl = 0 → ∀ s, s < 6 → A (i * 6 + s) < 1152921504606846976) (hu : (∃ s, s < 6 ∧ A (i * 6 + s) ≠ 0) → ZB (pB η) u ∧ rk u (pB η) = i ∧ sm (pB η) u ≤ most ∧ sm (pB η) u ≤ 7 ∧ fst (pB η) (sm (pB η) u + 2) * 6 ≤ M) : ∃ A' w', f_X0_goOn (nI i) (nI n) (nI fl) w = some ((), w') ∧ DX w' η r h g most ∧ WT w' A' fl M ∧ (∀ F, sm 7722 (fun j => A' j * F j) = sm 7722 (fun j => A j * F j) + sm 6 (fun s => A (i * 6 + s) * W1 η u r h g n s F)) ∧ ∀ j, ((∃ s, s < 6 ∧ A (i * 6 + s) ≠ 0) → j < fst (pB η) (sm (pB η) u + 1) * 6) → A' j = A j := by
  have hs63 : sm 6 (fun s => nrm fl (A (i * 6 + s))) < 9223372036854775808 := by
    have : sm 6 (fun s => nrm fl (A (i * 6 + s))) ≤ sm 6 (fun _ => 1152921504606846976) := sm_le (fun s hs => by
      unfold nrm
      rcases hfl with rfl | rfl
      · have := hA rfl s (by omega)
        rw [if_pos rfl]; omega
      · rw [if_neg (by decide)]; split <;> omega)
    rw [sm_k] at this
    omega
  rw [f_X0_goOn, sumOf hM hW hiM, bind_some']
  dsimp only
  by_cases q : sm 6 (fun s => nrm fl (A (i * 6 + s))) = 0
  · rw [if_pos ((leq0 hs63).mpr q)]
    refine ⟨A, w, rfl, hD, hW, fun F => ?_, fun _ _ => rfl⟩
    rw [sm_z (n := 6) (fun s hs => ?_), Nat.add_zero]
    have := sm_term hs (fun s => nrm fl (A (i * 6 + s)))
    rw [nrm_z.mp (show nrm fl (A (i * 6 + s)) = 0 by omega), Nat.zero_mul]
  · rw [if_neg (fun z => q ((leq0 hs63).mp z)), show (0 : Int32) = nI 0 from rfl]
    obtain ⟨s0, hs0, hs1⟩ := sm_pos.mp (show 0 < sm 6 (fun s => nrm fl (A (i * 6 + s))) by omega)
    have hne : ∃ s, s < 6 ∧ A (i * 6 + s) ≠ 0 := ⟨s0, hs0, fun z => by rw [z, nrm_0] at hs1; omega⟩
    obtain ⟨hz, hrk, hmo, h7, hM2⟩ := hu hne
    have u8 : ∀ c, u c ≤ 8 := fun c => by have := ZB_le hz c; omega
    have h112 : gI w 112 i = nI (pkS u) := by rw [← hrk]; exact hD.2.2.2.1 u hz hmo trivial
    have j2 := hη.2.1
    obtain ⟨w1, a1, a2, a3, a4⟩ := goOn_14 (x2 := nI n) (x3 := nI fl) hη hz u8 (by omega) (pB η) 0 fu w (by omega) (fu_gt (by omega)) hD h112 (fun c hc => by omega)
    obtain ⟨w2, b1, b2, b3, b4, b5⟩ := goOn_56 (x1 := nI i) (x3 := nI fl) hη hn hz h7 (pB η) 0 fu w1 (by omega) (fu_gt (by omega)) a2 a3 (fun c hc => by omega)
    obtain ⟨A', w', c1, c2, c3, c4, c5⟩ := goOn_91 (A := A) hη hg1 hg hr hh hfl hn hz h7 hM hiM hM2 hrk hA 6 0 fu w2 A (by omega) (fu_gt (by omega)) b2 (fun j hj => by rw [b5, a4]; exact hW j hj) (fun _ _ => rfl) b3 b4
    refine ⟨A', w', ?_, c2, c3, fun F => ?_, fun j hj => c5 j (hj hne)⟩
    · rw [a1, show (0 : Int32) = nI 0 from rfl, b1, show (0 : Int32) = nI 0 from rfl, c1]
    · rw [c4, sm_c (n := 6) (fun e _ => by rw [Nat.zero_add])]
end GO
