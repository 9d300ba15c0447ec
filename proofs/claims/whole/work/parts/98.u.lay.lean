/-! the lay's line -/
section LY
variable (tp : Nat → Nat) (n : Nat)
def sCm : RR → RR
  | .inl e => .inl e
  | .inr p => if tK tp n p = 4 then .inr (tE tp n p) else .inl (1, tA tp n p)
def layA (b : Nat) (r : RR) : RR := sNr tp n 0 8 (if b = 0 then r else sCm tp n r)
def layV (b : Nat) (r : RR) : Nat := sNv tp n 0 8 (if b = 0 then r else sCm tp n r)
def layRR : Nat → Nat → RR → RR
  | 0, _, r => r
  | d + 1, b, r => layRR d (b + 1) (layA tp n b r)
def layFF (o : Nat) : Nat → Nat → RR → (Nat → Int32) → (Nat → Int32)
  | 0, _, _, φ => φ
  | d + 1, b, r, φ => layFF o d (b + 1) (layA tp n b r) (up φ (o + b) (nI (layV tp n b r)))
end LY
section LZ
variable {tp : Nat → Nat} {n : Nat}
theorem layA_e {b : Nat} {e : Nat × Nat} : layA tp n b (.inl e) = .inl e := by
  unfold layA
  by_cases z : b = 0
  · rw [if_pos z]; rfl
  · rw [if_neg z]; rfl
theorem layRR_e {e : Nat × Nat} : ∀ d b, layRR tp n d b (.inl e) = .inl e := by
  intro d
  induction d with
  | zero => intro b; rfl
  | succ d ih =>
    intro b
    show layRR tp n d (b + 1) (layA tp n b (.inl e)) = .inl e
    rw [layA_e]
    exact ih _
theorem RLe.cm {p : Nat} {r : RR} (h : RLe n p r) : RLe n p (sCm tp n r) := by
  cases r with
  | inl e => exact h
  | inr p1 =>
    obtain ⟨h1, h2⟩ := h p1 rfl
    show RLe n p (if tK tp n p1 = 4 then .inr (tE tp n p1) else .inl (1, tA tp n p1))
    by_cases q : tK tp n p1 = 4
    · rw [if_pos q]
      intro p' e
      cases e
      obtain ⟨a1, a2⟩ := tA_ge (tp := tp) h2
      obtain ⟨e1, e2, e3⟩ := tE_ge (tp := tp) h2
      omega
    · rw [if_neg q]; exact RLe.e
theorem RLe.la {p b : Nat} {r : RR} (h : RLe n p r) : RLe n p (layA tp n b r) := by
  unfold layA
  by_cases z : b = 0
  · rw [if_pos z]; exact h.num
  · rw [if_neg z]; exact h.cm.num
theorem RLe.lr {p : Nat} : ∀ d b r, RLe n p r → RLe n p (layRR tp n d b r) := by
  intro d
  induction d with
  | zero => intro b r h; exact h
  | succ d ih => intro b r h; exact ih _ _ h.la
theorem layFF_o {o : Nat} : ∀ d b r φ j, j < o + b ∨ o + b + d ≤ j → layFF tp n o d b r φ j = φ j := by
  intro d
  induction d with
  | zero => intro b r φ j h; rfl
  | succ d ih =>
    intro b r φ j h
    show layFF tp n o d (b + 1) (layA tp n b r) (up φ (o + b) (nI (layV tp n b r))) j = φ j
    rw [ih _ _ _ _ (by omega), up_n (by omega)]
theorem layFF_r {o : Nat} : ∀ d b r φ j, rg (φ j) 0 8 → rg (layFF tp n o d b r φ j) 0 8 := by
  intro d
  induction d with
  | zero => intro b r φ j h; exact h
  | succ d ih =>
    intro b r φ j h
    refine ih _ _ _ _ ?_
    by_cases z : j = o + b
    · rw [z, up_s]
      exact ⟨_, Nat.zero_le _, (sNv_rg tp n (by omega) _).2, rfl⟩
    · rw [up_n z]; exact h
theorem lay99 (hn : n ≤ 900) (htp : ∀ j, tp j < 256) {w : GW} {p b k : Nat} {K : Nat → Int32 → GW → Option (Int32 × GW)} (hb : b < 5) (hp : p ≤ n) (C : CT w tp n p) : (∃ e w', sNr tp n 0 8 (.inr p) = .inl e ∧ f_X6_layLine_99 K k (nI b) w = some (0, w') ∧ OC tp n w w' (.inl e) 0) ∨ ∃ p1 w1, sNr tp n 0 8 (.inr p) = .inr p1 ∧ p1 ≤ n ∧ f_X6_layLine_99 K k (nI b) w = K k (nI (b + 1)) (sI w1 k b (nI (sNv tp n 0 8 (.inr p)))) ∧ F13 w w1 ∧ CT w1 tp n p1 := by
  obtain ⟨b6, w6, a6, O6, v6⟩ := whole8 (lo := 0) (hi := 8) hn htp (by omega) (by omega) hp C
  have a6' : f_X6_whole 0 8 w = _ := a6
  rw [f_X6_layLine_99, a6', bind_some']
  rcases O6.cs with ⟨e, er, rfl, L⟩ | ⟨p6, er, rfl, h6, C6⟩
  · rw [er] at O6 ⊢
    rw [if_pos rfl]
    exact Or.inl ⟨e, w6, rfl, rfl, O6⟩
  · rw [if_neg one_ne]
    dsimp only
    rw [if_pos ((inb_nI (by omega)).mpr (by omega)), ix_nI (by omega), v6 rfl, nI_1]
    exact Or.inr ⟨p6, w6, er, h6, rfl, O6.1, C6⟩
theorem lay60 (hn : n ≤ 900) (htp : ∀ j, tp j < 256) {H B Y : Nat} (hz : 4 ≤ H) (hB : 1 ≤ B ∧ B ≤ 5) (hY : Y < 8) : ∀ d b m w p φ, b + d = B → d < m → p ≤ n → CT w tp n p → DC w H φ → φ 0 = nI B → φ 39 = nI Y → fxH (gR w 2) = H → ∃ x w', f_X6_layLine_60 m (H + 12 + 1 + Y) (nI b) w = some (x, w') ∧ LC tp n H w w' (layRR tp n d b (.inr p)) (up (layFF tp n (40 + 5 * Y) d b (.inr p) φ) 39 (nI (Y + 1))) x := by
  intro d
  induction d with
  | zero =>
    intro b m w p φ hb hm hp C D h0 h39 hH
    obtain ⟨m, rfl⟩ : ∃ m9, m = m9 + 1 := ⟨m - 1, by omega⟩
    refine ⟨1, _, ?_, LC.o (FC.st (k := H) (j := 9) (v := nI (Y + 1)) (by omega) (by omega) hz) rfl rfl hp (C.st hz) (D.set (by omega))⟩
    rw [f_X6_layLine_60, hH, D.1.2.1, h0, if_pos ((le_nI (by omega) (by omega)).mpr (by omega)), D.1.2.2.2.2.2.2.2, h39, nI_1]
  | succ d ih =>
    intro b m w p φ hb hm hp C D h0 h39 hH
    obtain ⟨m, rfl⟩ : ∃ m9, m = m9 + 1 := ⟨m - 1, by omega⟩
    have go : ∀ w2 p2, F13 w w2 → p2 ≤ n → CT w2 tp n p2 → (if b = 0 then .inr p else sCm tp n (.inr p)) = (.inr p2 : RR) → ∃ x w', f_X6_layLine_99 (f_X6_layLine_60 m) (H + 12 + 1 + Y) (nI b) w2 = some (x, w') ∧ LC tp n H w w' (layRR tp n (d + 1) b (.inr p)) (up (layFF tp n (40 + 5 * Y) (d + 1) b (.inr p) φ) 39 (nI (Y + 1))) x := by
      intro w2 p2 F2 h2 C2 hr
      have eA : layA tp n b (.inr p) = sNr tp n 0 8 (.inr p2) := by unfold layA; rw [hr]
      have eV : layV tp n b (.inr p) = sNv tp n 0 8 (.inr p2) := by unfold layV; rw [hr]
      show ∃ x w', f_X6_layLine_99 (f_X6_layLine_60 m) (H + 12 + 1 + Y) (nI b) w2 = some (x, w') ∧ LC tp n H w w' (layRR tp n d (b + 1) (layA tp n b (.inr p))) (up (layFF tp n (40 + 5 * Y) d (b + 1) (layA tp n b (.inr p)) (up φ (40 + 5 * Y + b) (nI (layV tp n b (.inr p))))) 39 (nI (Y + 1))) x
      rw [eA, eV]
      rcases lay99 (K := f_X6_layLine_60 m) (k := H + 12 + 1 + Y) hn htp (show b < 5 by omega) h2 C2 with ⟨e, w', s1, s2, s3⟩ | ⟨p1, w1, s1, s2, s3, s4, s5⟩
      · rw [s1, s2, layRR_e]
        exact ⟨0, w', rfl, LC.tr F2.fc s3.lc⟩
      · rw [s1, s3]
        generalize sNv tp n 0 8 (.inr p2) = x
        have F3 := F2.tr s4
        obtain ⟨y, w', t1, t2⟩ := ih (b + 1) m (sI w1 (H + 12 + 1 + Y) b (nI x)) p1 (up φ (40 + 5 * Y + b) (nI x)) (by omega) (by omega) s2 (s5.st (by omega)) ((D.f hz F3).setY hY (by omega)) (by rw [up_n (by omega)]; exact h0) (by rw [up_n (by omega)]; exact h39) (by rw [gR_sI, F3.2.2]; exact hH)
        exact ⟨y, w', t1, LC.tr (F3.fc.tr (FC.st (by omega) (by omega) hz)) t2⟩
    rw [f_X6_layLine_60, hH, D.1.2.1, h0, if_neg (fun q9 => absurd ((le_nI (by omega) (by omega)).mp q9) (by omega))]
    by_cases z : b = 0
    · rw [if_pos ((le0 (by omega)).mpr z)]
      exact go w p F13.rf hp C (if_pos z)
    · rw [if_neg (fun q => z ((le0 (by omega)).mp q)), C.2.2.1]
      have hk5 : tK tp n p ≤ 5 := by
        unfold tK
        repeat' split
        all_goals omega
      by_cases y : tK tp n p = 4
      · rw [y, if_pos (show nI 4 = 4 from rfl)]
        obtain ⟨w2, a2, F2, _, C2, h2⟩ := advC hn htp hp C (by omega)
        rw [a2, bind_some']
        dsimp only
        refine go w2 (tE tp n p) F2 h2 C2 ?_
        rw [if_neg z]
        exact if_pos y
      · rw [show (4 : Int32) = nI 4 from rfl, if_neg (fun q9 => absurd ((eq_nI (by omega) (by omega)).mp q9) (by omega))]
        obtain ⟨w', a, L⟩ := no8 (H := H) (f := 1) (φ := up (layFF tp n (40 + 5 * Y) (d + 1) b (.inr p) φ) 39 (nI (Y + 1))) C
        have a' : f_X6_wrong 1 w = _ := a
        have e1 : layRR tp n (d + 1) b (.inr p) = .inl (1, tA tp n p) := by
          show layRR tp n d (b + 1) (sNr tp n 0 8 (if b = 0 then .inr p else sCm tp n (.inr p))) = .inl (1, tA tp n p)
          rw [if_neg z, show sCm tp n (.inr p) = .inl (1, tA tp n p) from if_neg y]
          exact layRR_e _ _
        rw [a', bind_some', e1]
        exact ⟨0, w', rfl, L⟩
theorem lay23 (hn : n ≤ 900) (htp : ∀ j, tp j < 256) {B Y : Nat} (hB : 1 ≤ B ∧ B ≤ 5) (hY : Y < 8) : ∀ d b m w r φ, b + d = B → d < m → XM w tp n r φ → φ 0 = nI B → φ 39 = nI Y → ∃ w', f_X9_layLine_23 m (nI (40 + 5 * Y)) (nI b) w = some ((), w') ∧ XM w' tp n (layRR tp n d b r) (up (layFF tp n (40 + 5 * Y) d b r φ) 39 (nI (Y + 1))) := by
  intro d
  induction d with
  | zero =>
    intro b m w r φ hb hm X h0 h39
    obtain ⟨m, rfl⟩ : ∃ m9, m = m9 + 1 := ⟨m - 1, by omega⟩
    refine ⟨_, ?_, X.set (i := 39) (v := nI (Y + 1))⟩
    rw [f_X9_layLine_23, if_pos (show inb _ _ from by decide), show ix (0 : Int32) = 0 from by decide, X.1 0 (by omega), h0, if_pos ((le_nI (by omega) (by omega)).mpr (by omega)), if_pos (show inb _ _ from by decide), if_pos (show inb _ _ from by decide), show ix (39 : Int32) = 39 from by decide, X.1 39 (by omega), h39, nI_1]
  | succ d ih =>
    intro b m w r φ hb hm X h0 h39
    obtain ⟨m, rfl⟩ : ∃ m9, m = m9 + 1 := ⟨m - 1, by omega⟩
    have go : ∀ w2, XM w2 tp n (if b = 0 then r else sCm tp n r) φ → ∃ w', f_X9_layLine_73 (f_X9_layLine_23 m) (nI (40 + 5 * Y)) (nI b) w2 = some ((), w') ∧ XM w' tp n (layRR tp n (d + 1) b r) (up (layFF tp n (40 + 5 * Y) (d + 1) b r φ) 39 (nI (Y + 1))) := by
      intro w2 X2
      obtain ⟨w3, a3, X3⟩ := number9 (lo := 0) (hi := 8) hn htp (by omega) (by omega) X2
      have a3' : f_X9_number 0 8 w2 = _ := a3
      rw [f_X9_layLine_73, a3', bind_some']
      dsimp only
      rw [nI_add, if_pos ((inb_nI (by omega)).mpr (by omega)), ix_nI (by omega), nI_1]
      exact ih (b + 1) m _ _ _ (by omega) (by omega) X3.set (by rw [up_n (by omega)]; exact h0) (by rw [up_n (by omega)]; exact h39)
    rw [f_X9_layLine_23, if_pos (show inb _ _ from by decide), show ix (0 : Int32) = 0 from by decide, X.1 0 (by omega), h0, if_neg (fun q9 => absurd ((le_nI (by omega) (by omega)).mp q9) (by omega))]
    by_cases z : b = 0
    · rw [if_pos ((le0 (by omega)).mpr z)]
      refine go w ?_
      rw [if_pos z]
      exact X
    · rw [if_neg (fun q => z ((le0 (by omega)).mp q))]
      cases r with
      | inl e =>
        rw [X.2.2.1, if_neg one_ne]
        refine go w ?_
        rw [if_neg z]
        exact X
      | inr p =>
        have hp := X.2.2.2.2.1
        have M := X.2.2.2.2.2
        have hmk := mK_lt (tK tp n p)
        rw [X.2.2.1, if_pos rfl, M.2.2.2.1]
        by_cases y : tK tp n p = 4
        · rw [y, if_pos (show nI (mK 4) = 44 from rfl), f_X9_layLine_62, X.2.2.1, if_pos rfl]
          obtain ⟨w2, a2, X2⟩ := X.next hn htp
          rw [a2, bind_some']
          dsimp only
          refine go w2 ?_
          rw [if_neg z, show sCm tp n (.inr p) = .inr (tE tp n p) from if_pos y]
          exact X2
        · rw [show (44 : Int32) = nI 44 from rfl, if_neg (fun q => y (mK_44.mp ((eq_nI (by omega) (by omega)).mp q))), M.2.1]
          obtain ⟨a, X2⟩ := X.wrong (f := 1) (a := tA tp n p)
          have a' : f_X9_wrong 1 (nI (tA tp n p)) w = _ := a
          rw [a', bind_some']
          dsimp only
          rw [f_X9_layLine_62, X2.2.2.1, if_neg one_ne]
          refine go _ ?_
          rw [if_neg z, show sCm tp n (.inr p) = .inl (1, tA tp n p) from if_neg y]
          exact X2
theorem layJ (hn : n ≤ 900) (htp : ∀ j, tp j < 256) {H p B Y : Nat} {φ : Nat → Int32} (hz : 4 ≤ H) (hp : p ≤ n) (hk : tK tp n p ≠ 0) (h80 : φ 80 = 1) (hW : WF φ) (hB : 1 ≤ B ∧ B ≤ 5) (h0 : φ 0 = nI B) (hY : Y < 8) (h39 : φ 39 = nI Y) : LNJ tp n H f_X6_layLine f_X9_layLine p (tE tp n p) φ := by
  have hq := (tE_ge (tp := tp) hp).2.1
  refine ⟨layRR tp n B 0 (.inr (tE tp n p)), up (layFF tp n (40 + 5 * Y) B 0 (.inr (tE tp n p)) φ) 39 (nI (Y + 1)), fun w hH C D => ?_, fun w X => ?_, RLe.lr _ _ _ (RLe.i hq), fun p' _ => ?_⟩
  · obtain ⟨w1, a1, F1, _, C1, h1⟩ := advC hn htp hp C hk
    have D1 := D.f hz F1
    obtain ⟨x, w', t1, t2⟩ := lay60 hn htp hz hB hY B 0 fu w1 (tE tp n p) φ (by omega) (fu_gt (by omega)) hq C1 D1 h0 h39 (by rw [F1.2.2]; exact hH)
    refine ⟨x, w', ?_, LC.tr F1.fc t2⟩
    rw [f_X6_layLine, hH, D.1.2.2.2.2.2.2.2, h39, show (8 : Int32) = nI 8 from rfl, if_pos ((lt_nI (by omega) (by omega)).mpr (by omega)), D.1.1, h80, if_neg one_ne, a1, bind_some']
    dsimp only
    rw [F1.2.2 2, hH, D1.1.2.2.2.2.2.2.2, h39, if_pos ((inb_nI (by omega)).mpr (by omega)), ix_nI (by omega)]
    exact t1
  · obtain ⟨w', t1, t2⟩ := lay23 hn htp hB hY B 0 fu w (.inr (tE tp n p)) φ (by omega) (fu_gt (by omega)) X h0 h39
    refine ⟨w', ?_, t2⟩
    rw [f_X9_layLine, X.2.2.1, if_pos rfl, if_pos (show inb _ _ from by decide), show ix (39 : Int32) = 39 from by decide, X.1 39 (by omega), h39, show (5 : Int32) = nI 5 from rfl, pk_mul, show (40 : Int32) = nI 40 from rfl, nI_add]
    exact t1
  · obtain ⟨⟨B', w1⟩, w2, w3, w4⟩ := hW
    have gg : ∀ j, j < 40 ∨ 80 ≤ j → j ≠ 39 → up (layFF tp n (40 + 5 * Y) B 0 (.inr (tE tp n p)) φ) 39 (nI (Y + 1)) j = φ j := fun j h1 h2 => by
      rw [up_n h2, layFF_o _ _ _ _ _ (by omega)]
    have eB : B' = B := by
      rcases w1.2.1 with h | h
      · rw [h80] at h; exact absurd h.1 one_ne
      · have := h.2.2.1
        rw [h0] at this
        exact ((eq_nI (by omega) (by have := w1.1; omega)).mp this).symm
    refine ⟨⟨B', w1.1, ?_, fun y b h1 h2 h3 => ?_⟩, w2.c fun j h1 h2 => gg j (by omega) (by omega), ⟨?_, ?_, ?_, fun y b h1 h2 => ?_⟩, w4.c fun j hj => gg j (by omega) (by omega)⟩
    · rw [gg 80 (by omega) (by omega), gg 36 (by omega) (by omega), gg 0 (by omega) (by omega), gg 1 (by omega) (by omega)]
      exact w1.2.1
    · rw [up_n (by omega)]
      by_cases z : y = Y
      · rw [layFF_o _ _ _ _ _ (by omega)]; exact w1.2.2 y b h1 h2 h3
      · rw [layFF_o _ _ _ _ _ (by omega)]; exact w1.2.2 y b h1 h2 h3
    · rw [gg 37 (by omega) (by omega)]; exact w3.1
    · rw [gg 38 (by omega) (by omega)]; exact w3.2.1
    · rw [up_s]; exact ⟨Y + 1, by omega, by omega, rfl⟩
    · rw [up_n (by omega)]; exact layFF_r _ _ _ _ _ (w3.2.2.2 y b h1 h2)
end LZ
