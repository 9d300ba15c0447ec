/-! a hall read by both: tools -/
def φ0 : Nat → Int32 := fun j => if 2 ≤ j ∧ j < 7 then 8 else if 7 ≤ j ∧ j < 12 then 1 else 0
theorem φ0_z {j : Nat} (h : j < 2 ∨ 12 ≤ j) : φ0 j = 0 := by
  unfold φ0
  rw [if_neg (by omega), if_neg (by omega)]
theorem φ0_8 {b : Nat} (h : b < 5) : φ0 (2 + b) = 8 := if_pos (by omega)
theorem φ0_1 {b : Nat} (h : b < 5) : φ0 (7 + b) = 1 := by
  unfold φ0
  rw [if_neg (by omega), if_pos (by omega)]
theorem WF0 : WF φ0 := by
  refine ⟨⟨0, by omega, Or.inl ⟨φ0_z (by omega), rfl, φ0_z (by omega)⟩, fun y b h1 h2 h3 => φ0_z (by omega)⟩, fun b hb => ⟨?_, ?_, Or.inl (φ0_z (by omega))⟩, ⟨?_, ?_, ?_, fun y b h1 h2 => ?_⟩, 0, by omega, φ0_z (by omega), fun p hp => by omega⟩
  · rw [φ0_8 hb]; exact ⟨8, by omega, by omega, rfl⟩
  · rw [φ0_1 hb]; exact ⟨1, by omega, by omega, rfl⟩
  · rw [φ0_z (by omega)]; exact ⟨0, by omega, by omega, rfl⟩
  · rw [φ0_z (by omega)]; exact ⟨0, by omega, by omega, rfl⟩
  · rw [φ0_z (by omega)]; exact ⟨0, by omega, by omega, rfl⟩
  · rw [φ0_z (by omega)]; exact ⟨0, by omega, by omega, rfl⟩
/-- the class clears its draft -/
theorem clear8 {w : GW} {H : Nat} (hz : 4 ≤ H) : ∃ w', f_X3_clear H w = some ((), w') ∧ FC H w w' ∧ DC w' H φ0 := by
  have Z : ∀ w : GW, Prop := fun _ => True
  let I8 : GW → Prop := fun w => gI w H 0 = 0 ∧ gI w H 1 = 0 ∧ gI w H 2 = 0 ∧ gI w H 5 = 0 ∧ gI w H 6 = 0 ∧ gI w H 7 = 0 ∧ gI w H 8 = 0 ∧ gI w H 9 = 0
  let I5 : Nat → GW → Prop := fun i w => ∀ b, b < i → gI w (H + 1) b = 8 ∧ gI w (H + 2) b = 1 ∧ gI w (H + 3) b = 0
  have I8o : ∀ w k j v, I8 w → k ≠ H → I8 (sI w k j v) := fun w k j v h hk => by
    have g : ∀ x, gI (sI w k j v) H x = gI w H x := fun x => by rw [gI_sI, if_neg (fun q => hk q.1.symm)]
    exact ⟨(g _).trans h.1, (g _).trans h.2.1, (g _).trans h.2.2.1, (g _).trans h.2.2.2.1, (g _).trans h.2.2.2.2.1, (g _).trans h.2.2.2.2.2.1, (g _).trans h.2.2.2.2.2.2.1, (g _).trans h.2.2.2.2.2.2.2⟩
  have I5o : ∀ i w k j v, I5 i w → (k < H + 1 ∨ H + 3 < k) → I5 i (sI w k j v) := fun i w k j v h hk b hb => by
    have g : ∀ y x, H + 1 ≤ y → y ≤ H + 3 → gI (sI w k j v) y x = gI w y x := fun y x h1 h2 => by rw [gI_sI, if_neg (by omega)]
    exact ⟨(g _ _ (by omega) (by omega)).trans (h b hb).1, (g _ _ (by omega) (by omega)).trans (h b hb).2.1, (g _ _ (by omega) (by omega)).trans (h b hb).2.2⟩
  have fin : ∀ w', I8 w' → I5 5 w' → (∀ y b, y < 8 → b < 5 → gI w' (H + 12 + 1 + y) b = 0) → DC w' H φ0 := by
    intro w' h8 h5 hy
    obtain ⟨a1, a2, a3, a4, a5, a6, a7, a8⟩ := h8
    refine ⟨⟨?_, ?_, ?_, ?_, ?_, ?_, ?_, ?_⟩, fun x hx => ?_, fun p h1 _ => ?_, fun y x h1 h2 => ?_⟩
    · rw [φ0_z (by omega)]; exact a1
    · rw [φ0_z (by omega)]; exact a2
    · rw [φ0_z (by omega)]; exact a3
    · rw [φ0_z (by omega)]; exact a4
    · rw [φ0_z (by omega)]; exact a5
    · rw [φ0_z (by omega)]; exact a6
    · rw [φ0_z (by omega)]; exact a7
    · rw [φ0_z (by omega)]; exact a8
    · rw [φ0_8 hx, φ0_1 hx, φ0_z (by omega)]; exact h5 x hx
    · rw [φ0_z (by omega), show ix (0 : Int32) = 0 from by decide] at h1; omega
    · rw [φ0_z (by omega)]; exact hy y x h1 h2
  have in5 : ∀ K y d b m w, b + d = 5 → d < m → y < 8 → I8 w → I5 5 w → (∀ y' b', y' < 8 → b' < 5 → y' < y ∨ (y' = y ∧ b' < b) → gI w (H + 12 + 1 + y') b' = 0) → ∃ w', f_X3_clear_85 K m H (nI y) (nI b) w = K H (nI (y + 1)) w' ∧ FC H w w' ∧ I8 w' ∧ I5 5 w' ∧ (∀ y' b', y' < 8 → b' < 5 → y' < y + 1 → gI w' (H + 12 + 1 + y') b' = 0) := by
    intro K y d
    induction d with
    | zero =>
      intro b m w hb hm hy h8 h5 h
      obtain ⟨m, rfl⟩ : ∃ m9, m = m9 + 1 := ⟨m - 1, by omega⟩
      refine ⟨w, ?_, FC.rf, h8, h5, fun y' b' h1 h2 h3 => h y' b' h1 h2 (by omega)⟩
      rw [f_X3_clear_85, show (5 : Int32) = nI 5 from rfl, if_pos ((le_nI (by omega) (by omega)).mpr (by omega)), nI_1]
    | succ d ih =>
      intro b m w hb hm hy h8 h5 h
      obtain ⟨m, rfl⟩ : ∃ m9, m = m9 + 1 := ⟨m - 1, by omega⟩
      rw [f_X3_clear_85, show (5 : Int32) = nI 5 from rfl, if_neg (fun q9 => absurd ((le_nI (by omega) (by omega)).mp q9) (by omega)), if_pos ((inb_nI (by omega)).mpr (by omega)), if_pos ((inb_nI (by omega)).mpr (by omega)), ix_nI (by omega), ix_nI (by omega), nI_1]
      obtain ⟨w', t1, t2, t3⟩ := ih (b + 1) m (sI w (H + 12 + 1 + y) b 0) (by omega) (by omega) hy (I8o _ _ _ _ h8 (by omega)) (I5o _ _ _ _ _ h5 (by omega)) (fun y' b' h1 h2 h3 => by
        rw [gI_sI]
        by_cases z : y' = y ∧ b' = b
        · rw [if_pos ⟨by omega, z.2⟩]
        · rw [if_neg (by omega)]; exact h y' b' h1 h2 (by omega))
      exact ⟨w', t1, (FC.st (by omega) (by omega) hz).tr t2, t3⟩
  have in8 : ∀ d y m w, y + d = 8 → d < m → I8 w → I5 5 w → (∀ y' b', y' < 8 → b' < 5 → y' < y → gI w (H + 12 + 1 + y') b' = 0) → ∃ w', f_X3_clear_77 m H (nI y) w = some ((), w') ∧ FC H w w' ∧ DC w' H φ0 := by
    intro d
    induction d with
    | zero =>
      intro y m w hy hm h8 h5 h
      obtain ⟨m, rfl⟩ : ∃ m9, m = m9 + 1 := ⟨m - 1, by omega⟩
      refine ⟨w, ?_, FC.rf, fin w h8 h5 (fun y' b' h1 h2 => h y' b' h1 h2 (by omega))⟩
      rw [f_X3_clear_77, show (8 : Int32) = nI 8 from rfl, if_pos ((le_nI (by omega) (by omega)).mpr (by omega))]
    | succ d ih =>
      intro y m w hy hm h8 h5 h
      obtain ⟨m, rfl⟩ : ∃ m9, m = m9 + 1 := ⟨m - 1, by omega⟩
      rw [f_X3_clear_77, show (8 : Int32) = nI 8 from rfl, if_neg (fun q9 => absurd ((le_nI (by omega) (by omega)).mp q9) (by omega)), show (0 : Int32) = nI 0 from rfl]
      obtain ⟨w1, t1, t2, t3, t4, t5⟩ := in5 (f_X3_clear_77 m) y 5 0 fu w (by omega) (fu_gt (by omega)) (by omega) h8 h5 (fun y' b' h1 h2 h3 => h y' b' h1 h2 (by omega))
      obtain ⟨w', s1, s2, s3⟩ := ih (y + 1) m w1 (by omega) (by omega) t3 t4 t5
      exact ⟨w', t1.trans s1, t2.tr s2, s3⟩
  have in42 : ∀ d i m w, i + d = 5 → d < m → I8 w → I5 i w → ∃ w', f_X3_clear_42 m H (nI i) w = some ((), w') ∧ FC H w w' ∧ DC w' H φ0 := by
    intro d
    induction d with
    | zero =>
      intro i m w hi hm h8 h5
      obtain ⟨m, rfl⟩ : ∃ m9, m = m9 + 1 := ⟨m - 1, by omega⟩
      have : i = 5 := by omega
      subst this
      rw [f_X3_clear_42, show (5 : Int32) = nI 5 from rfl, if_pos ((le_nI (by omega) (by omega)).mpr (by omega)), show (0 : Int32) = nI 0 from rfl]
      exact in8 8 0 fu w (by omega) (fu_gt (by omega)) h8 h5 (fun y' b' _ _ h3 => by omega)
    | succ d ih =>
      intro i m w hi hm h8 h5
      obtain ⟨m, rfl⟩ : ∃ m9, m = m9 + 1 := ⟨m - 1, by omega⟩
      rw [f_X3_clear_42, show (5 : Int32) = nI 5 from rfl, if_neg (fun q9 => absurd ((le_nI (by omega) (by omega)).mp q9) (by omega)), if_pos ((inb_nI (by omega)).mpr (by omega)), if_pos ((inb_nI (by omega)).mpr (by omega)), if_pos ((inb_nI (by omega)).mpr (by omega)), ix_nI (by omega), nI_1]
      obtain ⟨w', t1, t2, t3⟩ := ih (i + 1) m (sI (sI (sI w (H + 1) i 8) (H + 2) i 1) (H + 3) i 0) (by omega) (by omega) (I8o _ _ _ _ (I8o _ _ _ _ (I8o _ _ _ _ h8 (by omega)) (by omega)) (by omega)) (fun b hb => by
        by_cases z : b = i
        · subst z
          refine ⟨?_, ?_, gI_same _ _ _ _⟩
          · rw [gI_sI, if_neg (by omega), gI_sI, if_neg (by omega), gI_same]
          · rw [gI_sI, if_neg (by omega), gI_same]
        · have g : ∀ y, gI (sI (sI (sI w (H + 1) i 8) (H + 2) i 1) (H + 3) i 0) y b = gI w y b := fun y => by
            rw [gI_sI, if_neg (by omega), gI_sI, if_neg (by omega), gI_sI, if_neg (by omega)]
          rw [g, g, g]
          exact h5 b (by omega))
      exact ⟨w', t1, (((FC.st (by omega) (by omega) hz).tr (FC.st (by omega) (by omega) hz)).tr (FC.st (by omega) (by omega) hz)).tr t2, t3⟩
  rw [f_X3_clear, show (0 : Int32) = nI 0 from rfl]
  obtain ⟨w', t1, t2, t3⟩ := in42 5 0 fu (sI (sI (sI (sI (sI (sI (sI (sI w H 0 0) H 1 0) H 2 0) H 5 0) H 6 0) H 7 0) H 8 0) H 9 0) (by omega) (fu_gt (by omega)) (by
    refine ⟨?_, ?_, ?_, ?_, ?_, ?_, ?_, gI_same _ _ _ _⟩
    · rw [gI_sI, if_neg (by omega), gI_sI, if_neg (by omega), gI_sI, if_neg (by omega), gI_sI, if_neg (by omega), gI_sI, if_neg (by omega), gI_sI, if_neg (by omega), gI_sI, if_neg (by omega), gI_same]
    · rw [gI_sI, if_neg (by omega), gI_sI, if_neg (by omega), gI_sI, if_neg (by omega), gI_sI, if_neg (by omega), gI_sI, if_neg (by omega), gI_sI, if_neg (by omega), gI_same]
    · rw [gI_sI, if_neg (by omega), gI_sI, if_neg (by omega), gI_sI, if_neg (by omega), gI_sI, if_neg (by omega), gI_sI, if_neg (by omega), gI_same]
    · rw [gI_sI, if_neg (by omega), gI_sI, if_neg (by omega), gI_sI, if_neg (by omega), gI_sI, if_neg (by omega), gI_same]
    · rw [gI_sI, if_neg (by omega), gI_sI, if_neg (by omega), gI_sI, if_neg (by omega), gI_same]
    · rw [gI_sI, if_neg (by omega), gI_sI, if_neg (by omega), gI_same]
    · rw [gI_sI, if_neg (by omega), gI_same]) (fun b hb => by omega)
  refine ⟨w', t1, FC.tr ?_ t2, t3⟩
  exact (((((((FC.st (by omega) (by omega) hz).tr (FC.st (by omega) (by omega) hz)).tr (FC.st (by omega) (by omega) hz)).tr (FC.st (by omega) (by omega) hz)).tr (FC.st (by omega) (by omega) hz)).tr (FC.st (by omega) (by omega) hz)).tr (FC.st (by omega) (by omega) hz)).tr (FC.st (by omega) (by omega) hz)
section HL
variable {tp : Nat → Nat} {n : Nat}
/-- what the class's reading leaves -/
def FR (H : Nat) (w w' : GW) : Prop := (∀ q j, q ≠ 1 → q ≠ 3 → q < H ∨ H + 21 ≤ q → gI w' q j = gI w q j ∧ gL w' q j = gL w q j) ∧ gI w' 1 3 = gI w 1 3 ∧ ∀ r, r ≠ 2 → gR w' r = gR w r
theorem FR.fc {H : Nat} {a b c : GW} (h : FR H a b) (h2 : FC H b c) : FR H a c := ⟨fun q j x y z => ⟨(h2.1 q j x y z).1.trans (h.1 q j x y z).1, (h2.1 q j x y z).2.trans (h.1 q j x y z).2⟩, h2.2.1.trans h.2.1, fun r hr => (h2.2.2 r).trans (h.2.2 r hr)⟩
def TCo (H : Nat) (w' : GW) (r : RR) (φ : Nat → Int32) (b : Int32) : Prop := match r with
  | .inl e => b = 0 ∧ gI w' 3 3 = nI e.1 ∧ gI w' 3 4 = nI e.2
  | .inr _ => b = 1 ∧ gI w' 3 3 = 0 ∧ DS2 w' H φ
theorem reads8 (hn : n ≤ 900) (htp : ∀ j, tp j < 256) {w : GW} {x : Nat} (ht : ∀ j, j < n → gI w 2 j = nI (tp j)) {r : RR} {φ' : Nat → Int32} (A : ∀ w m x', fxH (gR w 2) = fxH x → CT w tp n 0 → DC w (fxH x) φ0 → x' ≤ 0 → n - 0 < m → ∃ b w', f_X6_reads_32 m (nI x') w = some (b, w') ∧ TC (fxH x) w w' r φ' b) : ∃ b w', f_X6_reads (fxH x) (nI n) w = some (b, w') ∧ FR (fxH x) w w' ∧ TCo (fxH x) w' r φ' b := by
  have hz3 := fxH_z x
  have hz : 4 ≤ fxH x := by omega
  have h2 : fxH (gR (sR w 2 (fxH x)) 2) = fxH x := by rw [gR_sR, if_pos rfl]; exact fxH_2 x
  obtain ⟨w1, a1, F1, D1⟩ := clear8 (w := sR w 2 (fxH x)) hz
  have t1 : ∀ j, j < n → gI w1 2 j = nI (tp j) := fun j hj => by rw [(F1.1 2 j (by omega) (by omega) (by omega)).1, gI_sR]; exact ht j hj
  have T3 : TPc (sI (sI (sI (sI w1 3 3 0) 3 4 (-1)) 1 1 (nI n)) 1 2 0) tp n := by
    refine ⟨fun j hj => ?_, ?_⟩
    · rw [gI_sI, if_neg (by omega), gI_sI, if_neg (by omega), gI_sI, if_neg (by omega), gI_sI, if_neg (by omega)]; exact t1 j hj
    · rw [gI_sI, if_neg (by omega), gI_same]
  obtain ⟨w3, a3, C3⟩ := advance hn htp (Nat.zero_le n) T3 (gI_same _ _ _ _)
  obtain ⟨F3, g3, _⟩ := F13.adv a3
  have C3' : CT w3 tp n 0 := C3.c (by rw [g3, gI_sI, if_neg (by omega), gI_sI, if_neg (by omega), gI_sI, if_neg (by omega), gI_same])
  have F2 : F13 w1 (sI (sI (sI (sI w1 3 3 0) 3 4 (-1)) 1 1 (nI n)) 1 2 0) := ⟨fun q j x y => ⟨by rw [gI_sI, if_neg (by omega), gI_sI, if_neg (by omega), gI_sI, if_neg (by omega), gI_sI, if_neg (by omega)], rfl⟩, by rw [gI_sI, if_neg (by omega), gI_sI, if_neg (by omega), gI_sI, if_neg (by omega), gI_sI, if_neg (by omega)], fun _ => rfl⟩
  have F23 := F2.tr F3
  obtain ⟨b, w', c1, c2, c3⟩ := A w3 fu 0 (by rw [F23.2.2, F1.2.2]; exact h2) C3' (D1.f hz F23) (Nat.le_refl _) (fu_gt (by omega))
  have FR1 : FR (fxH x) w w1 := ⟨fun q j x y z => F1.1 q j x y z, F1.2.1, fun r hr => by rw [F1.2.2, gR_sR, if_neg hr]⟩
  refine ⟨b, w', ?_, (FR1.fc F23.fc).fc c2, (by cases r with
    | inl e => exact c3
    | inr q => exact c3)⟩
  rw [f_X6_reads, h2, a1, bind_some', f_X7_begin]
  dsimp only
  have e9 : jmin (nI n) 900 = nI n := by
    rw [show (900 : Int32) = nI 900 from rfl, jmin_nI (by omega) (by omega), Nat.min_eq_left hn]
  rw [e9, a3, bind_some', bind_some']
  exact c1
/-- what the reference's reading leaves, from the start -/
def FZ (w w' : GW) : Prop := (∀ q j, q ≤ 129 ∨ q = 131 ∨ q = 133 ∨ q = 135 ∨ q = 136 ∨ (q = 130 ∧ (j = 14 ∨ j = 19)) → gI w' q j = gI w q j ∧ gL w' q j = gL w q j) ∧ ∀ r, gR w' r = gR w r
theorem FM.fz {w w' : GW} (h : FM w w') : FZ w w' := ⟨fun q j x => h.1 q j (by omega), h.2⟩
theorem FZ.tr {a b c : GW} (h : FZ a b) (h2 : FZ b c) : FZ a c := ⟨fun q j x => ⟨(h2.1 q j x).1.trans (h.1 q j x).1, (h2.1 q j x).2.trans (h.1 q j x).2⟩, fun r => (h2.2 r).trans (h.2 r)⟩
theorem FZ.rf {w : GW} : FZ w w := ⟨fun _ _ _ => ⟨rfl, rfl⟩, fun _ => rfl⟩
theorem FZ.s1 {w : GW} {j : Nat} {v : Int32} (h : j ≠ 14) (h2 : j ≠ 19) : FZ w (sI w 130 j v) := ⟨fun q i x => ⟨by rw [gI_sI, if_neg (by omega)], rfl⟩, fun _ => rfl⟩
theorem FZ.s4 {w : GW} {j : Nat} {v : Int32} : FZ w (sI w 134 j v) := ⟨fun q i x => ⟨by rw [gI_sI, if_neg (by omega)], rfl⟩, fun _ => rfl⟩
theorem read9 (hn : n ≤ 900) (htp : ∀ j, tp j < 256) {w : GW} {T : Nat} (hT : n ≤ T ∧ T ≤ 900) (h2 : gI w 130 2 = nI T) (ht : ∀ j, j < n → gI w 131 j = nI (tp j)) {r : RR} {φ' : Nat → Int32} (A : ∀ w m, XM w tp n (.inr 0) φ0 → n - 0 < m → ∃ w1 w', f_X9_readLine w = some ((), w1) ∧ f_X9_hall_110 m w1 = f_X9_hall_197 w' ∧ XM w' tp n r φ' ∧ FM w w') : ∃ w', f_X9_hall (nI n) w = f_X9_hall_197 w' ∧ XM w' tp n r φ' ∧ FZ w w' ∧ gI w' 130 2 = 0 ∧ gI w' 130 11 = 0 := by
  let Q : GW → Prop := fun w' => (∀ j, j < n → gI w' 131 j = nI (tp j)) ∧ gI w' 130 2 = 0 ∧ gI w' 130 11 = 0 ∧ gI w' 130 9 = 0 ∧ gI w' 130 13 = 0
  have Qs : ∀ w j v, Q w → Q (sI w 134 j v) := fun w j v h => by
    have g : ∀ k x, k ≠ 134 → gI (sI w 134 j v) k x = gI w k x := fun k x hk => by rw [gI_sI, if_neg (fun q => hk q.1)]
    exact ⟨fun i hi => (g _ _ (by omega)).trans (h.1 i hi), (g _ _ (by omega)).trans h.2.1, (g _ _ (by omega)).trans h.2.2.1, (g _ _ (by omega)).trans h.2.2.2.1, (g _ _ (by omega)).trans h.2.2.2.2⟩
  have l61 : ∀ d i m w, i + d = 5 → d < m → Q w → (∀ j, j < 135 → gI w 134 j = if 2 ≤ j ∧ j < 2 + i then 8 else if 7 ≤ j ∧ j < 7 + i then 1 else 0) → ∃ w', f_X9_hall_61 m (nI n) (nI i) w = f_X9_hall_197 w' ∧ XM w' tp n r φ' ∧ FZ w w' ∧ gI w' 130 2 = 0 ∧ gI w' 130 11 = 0 := by
    intro d
    induction d with
    | zero =>
      intro i m w hi hm hQ h
      obtain ⟨m, rfl⟩ : ∃ m9, m = m9 + 1 := ⟨m - 1, by omega⟩
      have : i = 5 := by omega
      subst this
      have g : ∀ k x, ¬ (k = 130 ∧ (x = 3 ∨ x = 5)) → gI (sI (sI w 130 3 (nI n)) 130 5 0) k x = gI w k x := fun k x hk => by rw [gI_sI, if_neg (by omega), gI_sI, if_neg (by omega)]
      have T3 : TPm (sI (sI w 130 3 (nI n)) 130 5 0) tp n := ⟨fun j hj => (g _ _ (by omega)).trans (hQ.1 j hj), by rw [gI_sI, if_neg (by omega), gI_same]⟩
      obtain ⟨w3, a3, M3⟩ := next9 hn htp (Nat.zero_le n) T3 (gI_same _ _ _ _)
      have S := fr_X9_next _ a3
      have X3 : XM w3 tp n (.inr 0) φ0 := by
        refine ⟨fun j hj => ?_, M3.1, ?_, ?_, Nat.zero_le _, M3⟩
        · rw [S.I 134 j rfl, g _ _ (by omega), h j hj]
          unfold φ0
          rfl
        · rw [S.I 130 13 rfl, g _ _ (by omega)]; exact hQ.2.2.2.2
        · rw [S.I 130 9 rfl, g _ _ (by omega)]; exact hQ.2.2.2.1
      have F3 : FM (sI (sI w 130 3 (nI n)) 130 5 0) w3 := FM.sm S (by decide) rfl
      obtain ⟨w1, w', b1, b2, b3, b4⟩ := A w3 fu X3 (fu_gt (by omega))
      have F34 := F3.tr b4
      refine ⟨w', ?_, b3, ((FZ.s1 (by omega) (by omega)).tr (FZ.s1 (by omega) (by omega))).tr F34.fz, ?_, ?_⟩
      · rw [f_X9_hall_61, show (5 : Int32) = nI 5 from rfl, if_pos ((le_nI (by omega) (by omega)).mpr (by omega)), a3, bind_some']
        dsimp only
        rw [b1, bind_some']
        exact b2
      · rw [(F34.1 130 2 (by omega)).1, g _ _ (by omega)]; exact hQ.2.1
      · rw [(F34.1 130 11 (by omega)).1, g _ _ (by omega)]; exact hQ.2.2.1
    | succ d ih =>
      intro i m w hi hm hQ h
      obtain ⟨m, rfl⟩ : ∃ m9, m = m9 + 1 := ⟨m - 1, by omega⟩
      have e2 : (2 : Int32) + nI i = nI (2 + i) := nI_add 2 i
      have e7 : (7 : Int32) + nI i = nI (7 + i) := nI_add 7 i
      rw [f_X9_hall_61, show (5 : Int32) = nI 5 from rfl, if_neg (fun q9 => absurd ((le_nI (by omega) (by omega)).mp q9) (by omega)), e2, if_pos ((inb_nI (by omega)).mpr (by omega)), e7, if_pos ((inb_nI (by omega)).mpr (by omega)), ix_nI (by omega), ix_nI (by omega), nI_1]
      obtain ⟨w', t1, t2, t3, t4⟩ := ih (i + 1) m (sI (sI w 134 (2 + i) 8) 134 (7 + i) 1) (by omega) (by omega) (Qs _ _ _ (Qs _ _ _ hQ)) (fun j hj => by
        rw [gI_sI]
        by_cases z1 : j = 7 + i
        · rw [if_pos ⟨rfl, z1⟩, if_neg (by omega), if_pos (by omega)]
        · rw [if_neg (fun q => z1 q.2), gI_sI]
          by_cases z2 : j = 2 + i
          · rw [if_pos ⟨rfl, z2⟩, if_pos (by omega)]
          · rw [if_neg (fun q => z2 q.2), h j hj]
            by_cases z3 : 2 ≤ j ∧ j < 2 + i
            · rw [if_pos z3, if_pos (by omega)]
            · rw [if_neg z3, if_neg (show ¬ (2 ≤ j ∧ j < 2 + (i + 1)) by omega)]
              by_cases z4 : 7 ≤ j ∧ j < 7 + i
              · rw [if_pos z4, if_pos (by omega)]
              · rw [if_neg z4, if_neg (by omega)])
      exact ⟨w', t1, t2, (FZ.s4.tr FZ.s4).tr t3, t4⟩
  have l39 : ∀ d i m w, i + d = 135 → d < m → Q w → (∀ j, j < i → gI w 134 j = 0) → ∃ w', f_X9_hall_39 m (nI n) (nI i) w = f_X9_hall_197 w' ∧ XM w' tp n r φ' ∧ FZ w w' ∧ gI w' 130 2 = 0 ∧ gI w' 130 11 = 0 := by
    intro d
    induction d with
    | zero =>
      intro i m w hi hm hQ h
      obtain ⟨m, rfl⟩ : ∃ m9, m = m9 + 1 := ⟨m - 1, by omega⟩
      rw [f_X9_hall_39, show (135 : Int32) = nI 135 from rfl, if_pos ((le_nI (by omega) (by omega)).mpr (by omega)), show (0 : Int32) = nI 0 from rfl]
      refine l61 5 0 fu w (by omega) (fu_gt (by omega)) hQ (fun j hj => ?_)
      rw [h j (by omega), if_neg (by omega), if_neg (by omega)]
    | succ d ih =>
      intro i m w hi hm hQ h
      obtain ⟨m, rfl⟩ : ∃ m9, m = m9 + 1 := ⟨m - 1, by omega⟩
      rw [f_X9_hall_39, show (135 : Int32) = nI 135 from rfl, if_neg (fun q9 => absurd ((le_nI (by omega) (by omega)).mp q9) (by omega)), if_pos ((inb_nI (by omega)).mpr (by omega)), ix_nI (by omega), nI_1]
      obtain ⟨w', t1, t2, t3, t4⟩ := ih (i + 1) m (sI w 134 i 0) (by omega) (by omega) (Qs _ _ _ hQ) (fun j hj => by
        rw [gI_sI]
        by_cases z : j = i
        · rw [if_pos ⟨rfl, z⟩]
        · rw [if_neg (fun q => z q.2)]; exact h j (by omega))
      exact ⟨w', t1, t2, FZ.s4.tr t3, t4⟩
  have hw : f_X9_within (nI n) 0 (nI T) (sI (sI w 130 0 0) 130 11 0) = some (1, sI (sI w 130 0 0) 130 11 0) := w9t (lo := 0) (hi := T) (Nat.zero_le _) hT.1 (by rfl) (by rfl) (by omega)
  have e2 : gI (sI (sI w 130 0 0) 130 11 0) 130 2 = nI T := by rw [gI_sI, if_neg (by omega), gI_sI, if_neg (by omega)]; exact h2
  rw [f_X9_hall, f_X9_good, bind_some']
  dsimp only
  rw [e2, hw, bind_some', if_neg one_ne, show (0 : Int32) = nI 0 from rfl]
  dsimp only
  obtain ⟨w', t1, t2, t3, t4⟩ := l39 135 0 fu (sI (sI (sI (sI (sI w 130 0 0) 130 11 0) 130 2 0) 130 9 0) 130 13 0) (by omega) (fu_gt (by omega)) (by
    refine ⟨fun j hj => ?_, ?_, ?_, ?_, gI_same _ _ _ _⟩
    · rw [gI_sI, if_neg (by omega), gI_sI, if_neg (by omega), gI_sI, if_neg (by omega), gI_sI, if_neg (by omega), gI_sI, if_neg (by omega)]; exact ht j hj
    · rw [gI_sI, if_neg (by omega), gI_sI, if_neg (by omega), gI_same]
    · rw [gI_sI, if_neg (by omega), gI_sI, if_neg (by omega), gI_sI, if_neg (by omega), gI_same]
    · rw [gI_sI, if_neg (by omega), gI_same]) (fun j hj => by omega)
  refine ⟨w', t1, t2, FZ.tr ?_ t3, t4⟩
  exact ((((FZ.s1 (by omega) (by omega)).tr (FZ.s1 (by omega) (by omega))).tr (FZ.s1 (by omega) (by omega))).tr (FZ.s1 (by omega) (by omega))).tr (FZ.s1 (by omega) (by omega))
end HL
