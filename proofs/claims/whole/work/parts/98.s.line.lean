/-! lines of the text: tools; the hall's line, the moves' line, the door's line -/
theorem CT.at {w : GW} {tp : Nat → Nat} {n p : Nat} (C : CT w tp n p) : gI w 1 4 = nI (tA tp n p) := C.2.1
def ifok {α : Type} (r : RR) (a b : α) : α := match r with
  | .inl _ => b
  | .inr _ => a
theorem sNv_rg (tp : Nat → Nat) (n : Nat) {lo hi : Nat} (h : lo ≤ hi) (r : RR) : lo ≤ sNv tp n lo hi r ∧ sNv tp n lo hi r ≤ hi := by
  cases r with
  | inl e => exact ⟨Nat.le_refl _, h⟩
  | inr p =>
    by_cases z : tK tp n p = 2 ∧ lo ≤ tV tp n p ∧ tV tp n p ≤ hi
    · rw [show sNv tp n lo hi (.inr p) = tV tp n p from if_pos z]; exact z.2
    · rw [show sNv tp n lo hi (.inr p) = lo from if_neg z]; omega
/-- what is known of a draft without fault -/
def WFa (φ : Nat → Int32) (B : Nat) : Prop := B ≤ 5 ∧ ((φ 80 = 0 ∧ B = 0 ∧ φ 36 = 0) ∨ (φ 80 = 1 ∧ 1 ≤ B ∧ φ 0 = nI B ∧ rg (φ 1) 0 8 ∧ ∃ d, d < B ∧ φ 36 = nI d)) ∧ ∀ y b, y < 8 → B ≤ b → b < 5 → φ (40 + 5 * y + b) = 0
def WFb (φ : Nat → Int32) : Prop := ∀ b, b < 5 → rg (φ (2 + b)) 1 8 ∧ rg (φ (7 + b)) 1 3 ∧ (φ (12 + b) = 0 ∨ φ (12 + b) = 1)
def WFd (φ : Nat → Int32) : Prop := rg (φ 37) 0 9 ∧ rg (φ 38) 0 9 ∧ rg (φ 39) 0 8 ∧ ∀ y b, y < 8 → b < 5 → rg (φ (40 + 5 * y + b)) 0 8
def WFp (φ : Nat → Int32) (p : Nat) : Prop := rg (φ (18 + p)) 1 3 ∧ (∃ r h, r ≤ 4 ∧ h ≤ 8 ∧ φ (24 + p) = nI r ∧ φ (30 + p) = paI r h) ∧ ∃ s, s ≤ 8 ∧ φ (81 + p) = nI s ∧ ∀ k, k < s → ∃ c, isLe c = true ∧ φ (87 + 8 * p + k) = nI c
def WFe (φ : Nat → Int32) : Prop := ∃ P, P ≤ 6 ∧ φ 17 = nI P ∧ ∀ p, p < P → WFp φ p
def WF (φ : Nat → Int32) : Prop := (∃ B, WFa φ B) ∧ WFb φ ∧ WFd φ ∧ WFe φ
theorem WFp.c {φ φ' : Nat → Int32} {p : Nat} (hp : p < 6) (h : WFp φ p) (g : ∀ j, (18 ≤ j ∧ j < 36) ∨ 81 ≤ j → φ' j = φ j) : WFp φ' p := by
  obtain ⟨a, ⟨r, x, b, c, d, f⟩, s, k, l, m⟩ := h
  refine ⟨by rw [g _ (by omega)]; exact a, ⟨r, x, b, c, by rw [g _ (by omega)]; exact d, by rw [g _ (by omega)]; exact f⟩, s, k, by rw [g _ (by omega)]; exact l, fun i hi => ?_⟩
  rw [g _ (by omega)]
  exact m i hi
theorem WFe.c {φ φ' : Nat → Int32} (h : WFe φ) (e : ∀ j, (17 ≤ j ∧ j < 36) ∨ 81 ≤ j → φ' j = φ j) : WFe φ' := by
  obtain ⟨P, a, b, c⟩ := h
  exact ⟨P, a, (e 17 (by omega)).trans b, fun p hp => (c p hp).c (by omega) (fun j hj => e j (by omega))⟩
theorem WFb.c {φ φ' : Nat → Int32} (h : WFb φ) (e : ∀ j, 2 ≤ j → j < 17 → φ' j = φ j) : WFb φ' := fun b hb => by
  rw [e _ (by omega) (by omega), e _ (by omega) (by omega), e _ (by omega) (by omega)]
  exact h b hb
theorem WFd.c {φ φ' : Nat → Int32} (h : WFd φ) (e : ∀ j, 37 ≤ j → j < 80 → φ' j = φ j) : WFd φ' := by
  obtain ⟨a, b, c, d⟩ := h
  refine ⟨by rw [e _ (by omega) (by omega)]; exact a, by rw [e _ (by omega) (by omega)]; exact b, by rw [e _ (by omega) (by omega)]; exact c, fun y x hy hx => ?_⟩
  rw [e _ (by omega) (by omega)]
  exact d y x hy hx
theorem WFa.c {φ φ' : Nat → Int32} {B : Nat} (h : WFa φ B) (e : ∀ j, j = 0 ∨ j = 1 ∨ j = 36 ∨ (40 ≤ j ∧ j ≤ 80) → φ' j = φ j) : WFa φ' B := by
  obtain ⟨a, b, c⟩ := h
  refine ⟨a, ?_, fun y x hy h1 h2 => by rw [e _ (by omega)]; exact c y x hy h1 h2⟩
  rw [e 80 (by omega), e 36 (by omega), e 0 (by omega), e 1 (by omega)]
  exact b
/-! worlds with a write -/
section LN
variable {tp : Nat → Nat} {n : Nat}
theorem MT.set {w : GW} {p i : Nat} {v : Int32} (M : MT w tp n p) : MT (sI w 134 i v) tp n p := by
  obtain ⟨⟨t1, t2⟩, a, b, c, d, e⟩ := M
  have g : ∀ k j, k ≠ 134 → gI (sI w 134 i v) k j = gI w k j := fun k j h => by rw [gI_sI, if_neg (fun q => h q.1)]
  exact ⟨⟨fun j hj => (g _ _ (by omega)).trans (t1 j hj), (g _ _ (by omega)).trans t2⟩, (g _ _ (by omega)).trans a, (g _ _ (by omega)).trans b, (g _ _ (by omega)).trans c, fun q => ⟨(g _ _ (by omega)).trans (d q).1, fun j hj => (g _ _ (by omega)).trans ((d q).2 j hj)⟩, fun q => (g _ _ (by omega)).trans (e q)⟩
theorem XM.set {w : GW} {r : RR} {φ : Nat → Int32} {i : Nat} {v : Int32} (X : XM w tp n r φ) : XM (sI w 134 i v) tp n r (up φ i v) := by
  have g : ∀ k j, k ≠ 134 → gI (sI w 134 i v) k j = gI w k j := fun k j h => by rw [gI_sI, if_neg (fun q => h q.1)]
  obtain ⟨x, ⟨t1, t2⟩, y⟩ := X
  refine ⟨fun j hj => ?_, ⟨fun j hj => (g _ _ (by omega)).trans (t1 j hj), (g _ _ (by omega)).trans t2⟩, ?_⟩
  · rw [gI_sI]
    by_cases z : j = i
    · rw [if_pos ⟨rfl, z⟩, z, up_s]
    · rw [if_neg (fun q => z q.2), up_n z]; exact x j hj
  · cases r with
    | inl e => exact ⟨(g _ _ (by omega)).trans y.1, (g _ _ (by omega)).trans y.2.1, (g _ _ (by omega)).trans y.2.2⟩
    | inr p => exact ⟨(g _ _ (by omega)).trans y.1, (g _ _ (by omega)).trans y.2.1, y.2.2.1, y.2.2.2.set⟩
theorem nmH_c {φ φ' : Nat → Int32} {p : Nat} : ∀ m, (∀ k, k < m → φ' (87 + 8 * p + k) = φ (87 + 8 * p + k)) → nmH φ' p m = nmH φ p m := by
  intro m
  induction m with
  | zero => intro _; rfl
  | succ m ih =>
    intro h
    show nmH φ' p m * 27 + ix (φ' (87 + 8 * p + m)) - 97 + 1 = nmH φ p m * 27 + ix (φ (87 + 8 * p + m)) - 97 + 1
    rw [ih (fun k hk => h k (by omega)), h m (by omega)]
theorem DC.set {w : GW} {H j i : Nat} {φ : Nat → Int32} {v : Int32} (h : (j = 0 ∧ i = 80) ∨ (j = 1 ∧ i = 0) ∨ (j = 2 ∧ i = 1) ∨ (j = 5 ∧ i = 36) ∨ (j = 6 ∧ i = 37) ∨ (j = 7 ∧ i = 38) ∨ (j = 9 ∧ i = 39)) (D : DC w H φ) : DC (sI w H j v) H (up φ i v) := by
  obtain ⟨⟨a1, a2, a3, a4, a5, a6, a7, a8⟩, b, c, d⟩ := D
  have g : ∀ k x, k ≠ H → gI (sI w H j v) k x = gI w k x := fun k x z => by rw [gI_sI, if_neg (fun q => z q.1)]
  have f : ∀ x y, (x = j → y = i) → (y = i → x = j) → gI w H x = φ y → gI (sI w H j v) H x = up φ i v y := fun x y z1 z2 e => by
    rw [gI_sI]
    by_cases q : x = j
    · rw [if_pos ⟨rfl, q⟩, z1 q, up_s]
    · rw [if_neg (fun z => q z.2), up_n (fun z => q (z2 z))]; exact e
  have h17 : up φ i v 17 = φ 17 := up_n (by omega)
  refine ⟨⟨f _ _ (by omega) (by omega) a1, f _ _ (by omega) (by omega) a2, f _ _ (by omega) (by omega) a3, f _ _ (by omega) (by omega) a4, f _ _ (by omega) (by omega) a5, f _ _ (by omega) (by omega) a6, f _ _ (by omega) (by omega) a7, f _ _ (by omega) (by omega) a8⟩, fun x hx => ?_, fun p h1 h2 => ?_, fun y x h1 h2 => ?_⟩
  · rw [g _ _ (by omega), g _ _ (by omega), g _ _ (by omega), up_n (by omega), up_n (by omega), up_n (by omega)]; exact b x hx
  · rw [h17] at h1
    rw [g _ _ (by omega), g _ _ (by omega), g _ _ (by omega), up_n (by omega), up_n (by omega), up_n (by omega), up_n (by omega), nmH_c _ (fun k _ => up_n (by omega))]
    exact c p h1 h2
  · rw [g _ _ (by omega), up_n (by omega)]; exact d y x h1 h2
theorem OC.cs {w w' : GW} {r : RR} {b : Int32} (O : OC tp n w w' r b) : (∃ e, r = .inl e ∧ b = 0 ∧ gI w' 3 3 = nI e.1 ∧ gI w' 3 4 = nI e.2) ∨ ∃ p, r = .inr p ∧ b = 1 ∧ p ≤ n ∧ CT w' tp n p := by
  cases r with
  | inl e => exact Or.inl ⟨e, rfl, O.2.2⟩
  | inr p => exact Or.inr ⟨p, rfl, O.2.2⟩
theorem LC.e {H : Nat} {w w' : GW} {r : RR} {e : Nat × Nat} {φ : Nat → Int32} {b : Int32} (F : FC H w w') (hr : r = .inl e) (hb : b = 0) (L : gI w' 3 3 = nI e.1 ∧ gI w' 3 4 = nI e.2) : LC tp n H w w' r φ b := by
  rw [hr]
  exact ⟨F, hb, L⟩
theorem LC.o {H p : Nat} {w w' : GW} {r : RR} {φ : Nat → Int32} {b : Int32} (F : FC H w w') (hr : r = .inr p) (hb : b = 1) (hp : p ≤ n) (C : CT w' tp n p) (D : DC w' H φ) : LC tp n H w w' r φ b := by
  rw [hr]
  exact ⟨F, hb, hp, C, D⟩
/-- a line that is not begun -/
theorem no8 {H p f : Nat} {w : GW} {φ : Nat → Int32} (C : CT w tp n p) : ∃ w', f_X6_wrong (nI f) w = some (0, w') ∧ LC tp n H w w' (.inl (f, tA tp n p)) φ 0 := by
  obtain ⟨a, b⟩ := wrong8 (f := f) C
  exact ⟨_, a, b.lc⟩
/-! the hall's line -/
noncomputable def hallR (tp : Nat → Nat) (n : Nat) (r : RR) : RR := sNr tp n 0 8 (sWr tp n 2 (sNr tp n 1 5 (sWr tp n 1 r)))
noncomputable def hallF (tp : Nat → Nat) (n : Nat) (r : RR) (φ : Nat → Int32) : Nat → Int32 := ifok (hallR tp n r) (up (up (up φ 0 (nI (sNv tp n 1 5 (sWr tp n 1 r)))) 1 (nI (sNv tp n 0 8 (sWr tp n 2 (sNr tp n 1 5 (sWr tp n 1 r)))))) 80 1) (up (up φ 0 (nI (sNv tp n 1 5 (sWr tp n 1 r)))) 1 (nI (sNv tp n 0 8 (sWr tp n 2 (sNr tp n 1 5 (sWr tp n 1 r))))))
theorem hall8 (hn : n ≤ 900) (htp : ∀ j, tp j < 256) {w : GW} {H p : Nat} {φ : Nat → Int32} (hz : 4 ≤ H) (hp : p ≤ n) (C : CT w tp n p) (hk : tK tp n p ≠ 0) (hH : fxH (gR w 2) = H) (D : DC w H φ) (h80 : φ 80 = 0) : ∃ b w', f_X6_hallLine w = some (b, w') ∧ LC tp n H w w' (hallR tp n (.inr (tE tp n p))) (hallF tp n (.inr (tE tp n p)) φ) b := by
  obtain ⟨w1, a1, F1, _, C1, h1⟩ := advC hn htp hp C hk
  obtain ⟨b2, w2, a2, O2⟩ := word8 (u := 1) hn htp (by omega) h1 C1
  rw [f_X6_hallLine, hH, D.1.1, h80, if_pos rfl, a1, bind_some']
  dsimp only
  rw [a2, bind_some']
  unfold hallF hallR
  have F2 := F1.tr O2.1
  rcases O2.cs with ⟨e, er, rfl, L⟩ | ⟨p2, er, rfl, h2, C2⟩
  · rw [er, if_pos rfl]
    exact ⟨0, w2, rfl, LC.e F2.fc rfl rfl L⟩
  obtain ⟨b3, w3, a3, O3, v3⟩ := whole8 (lo := 1) (hi := 5) hn htp (by omega) (by omega) h2 C2
  have a3' : f_X6_whole 1 5 w2 = _ := a3
  rw [er, if_neg one_ne]
  dsimp only
  rw [a3', bind_some']
  have F3 := F2.tr O3.1
  rcases O3.cs with ⟨e, er3, rfl, L⟩ | ⟨p3, er3, rfl, h3, C3⟩
  · rw [er3, if_pos rfl]
    exact ⟨0, w3, rfl, LC.e F3.fc rfl rfl L⟩
  rw [er3, if_neg one_ne]
  dsimp only
  rw [F3.2.2 2, hH, v3 rfl]
  generalize hv1 : sNv tp n 1 5 (.inr p2) = v1
  have C4 : CT (sI w3 H 1 (nI v1)) tp n p3 := C3.st hz
  have F4 : FC H w (sI w3 H 1 (nI v1)) := F3.fc.tr (FC.st (by omega) (by omega) hz)
  have D4 : DC (sI w3 H 1 (nI v1)) H (up φ 0 (nI v1)) := (D.f hz F3).set (by omega)
  obtain ⟨b5, w5, a5, O5⟩ := word8 (u := 2) hn htp (by omega) h3 C4
  rw [a5, bind_some']
  have F5 := F4.tr O5.1.fc
  rcases O5.cs with ⟨e, er5, rfl, L⟩ | ⟨p5, er5, rfl, h5, C5⟩
  · rw [er5, if_pos rfl]
    exact ⟨0, w5, rfl, LC.e F5 rfl rfl L⟩
  obtain ⟨b6, w6, a6, O6, v6⟩ := whole8 (lo := 0) (hi := 8) hn htp (by omega) (by omega) h5 C5
  have a6' : f_X6_whole 0 8 w5 = _ := a6
  rw [er5, if_neg one_ne]
  dsimp only
  rw [a6', bind_some']
  have F6 := F5.tr O6.1.fc
  rcases O6.cs with ⟨e, er6, rfl, L⟩ | ⟨p6, er6, rfl, h6, C6⟩
  · rw [er6, if_pos rfl]
    exact ⟨0, w6, rfl, LC.e F6 rfl rfl L⟩
  rw [er6, if_neg one_ne]
  dsimp only
  rw [gR_sI, F6.2.2 2, hH, v6 rfl]
  have D6 := (D4.f hz O5.1).f hz O6.1
  exact ⟨1, _, rfl, LC.o (F6.tr ((FC.st (by omega) (by omega) hz).tr (FC.st (by omega) (by omega) hz))) rfl rfl h6 ((C6.st hz).st hz) ((D6.set (by omega)).set (by omega))⟩
theorem hall9 (hn : n ≤ 900) (htp : ∀ j, tp j < 256) {w : GW} {p : Nat} {φ : Nat → Int32} (X : XM w tp n (.inr p) φ) : ∃ w', f_X9_hallLine w = some ((), w') ∧ XM w' tp n (hallR tp n (.inr p)) (hallF tp n (.inr p) φ) := by
  obtain ⟨w1, a1, X1⟩ := told9 (u := 18) (lo := 1) (hi := 5) hn htp (by omega) (by omega) (by omega) X
  have a1' : f_X9_told 18 1 5 w = _ := a1
  rw [f_X9_hallLine, X.2.2.1, if_pos rfl, a1', bind_some', if_pos (show inb _ _ from by decide)]
  dsimp only
  rw [show ix (0 : Int32) = 0 from by decide]
  rw [sWr_u (u := 18) (u' := 1) rfl] at X1 ⊢
  obtain ⟨w2, a2, X2⟩ := told9 (u := 19) (lo := 0) (hi := 8) hn htp (by omega) (by omega) (by omega) (X1.set (i := 0) (v := nI (sNv tp n 1 5 (sWr tp n 1 (.inr p)))))
  rw [sWr_u (u := 19) (u' := 2) rfl] at a2 X2
  have a2' : f_X9_told 19 0 8 (sI w1 134 0 (nI (sNv tp n 1 5 (sWr tp n 1 (.inr p))))) = _ := a2
  rw [a2', bind_some', if_pos (show inb _ _ from by decide)]
  dsimp only
  rw [show ix (1 : Int32) = 1 from by decide]
  have X3 := X2.set (i := 1) (v := nI (sNv tp n 0 8 (sWr tp n 2 (sNr tp n 1 5 (sWr tp n 1 (.inr p))))))
  unfold hallF hallR
  cases hr : sNr tp n 0 8 (sWr tp n 2 (sNr tp n 1 5 (sWr tp n 1 (.inr p)))) with
  | inl e =>
    rw [hr] at X3
    rw [X3.2.2.1, if_neg one_ne]
    exact ⟨_, rfl, X3⟩
  | inr p' =>
    rw [hr] at X3
    rw [X3.2.2.1, if_pos rfl, if_pos (show inb _ _ from by decide), show ix (80 : Int32) = 80 from by decide]
    exact ⟨_, rfl, X3.set⟩
/-! the moves' line -/
noncomputable def movR (tp : Nat → Nat) (n : Nat) (r : RR) : RR := sNr tp n 1 9 (sWr tp n 16 r)
noncomputable def movF (tp : Nat → Nat) (n : Nat) (r : RR) (φ : Nat → Int32) : Nat → Int32 := ifok (movR tp n r) (up φ 38 (nI (sNv tp n 1 9 (sWr tp n 16 r)))) φ
theorem mov8 (hn : n ≤ 900) (htp : ∀ j, tp j < 256) {w : GW} {H p : Nat} {φ : Nat → Int32} (hz : 4 ≤ H) (hp : p ≤ n) (C : CT w tp n p) (hk : tK tp n p ≠ 0) (hH : fxH (gR w 2) = H) (D : DC w H φ) (h38 : φ 38 = 0) : ∃ b w', f_X6_movesLine w = some (b, w') ∧ LC tp n H w w' (movR tp n (.inr (tE tp n p))) (movF tp n (.inr (tE tp n p)) φ) b := by
  obtain ⟨w1, a1, F1, _, C1, h1⟩ := advC hn htp hp C hk
  obtain ⟨b2, w2, a2, O2⟩ := word8 (u := 16) hn htp (by omega) h1 C1
  rw [f_X6_movesLine, hH, D.1.2.2.2.2.2.1, h38, if_pos (show (0 : Int32) ≤ 0 from by decide), a1, bind_some']
  dsimp only
  rw [a2, bind_some']
  unfold movF movR
  have F2 := F1.tr O2.1
  rcases O2.cs with ⟨e, er, rfl, L⟩ | ⟨p2, er, rfl, h2, C2⟩
  · rw [er, if_pos rfl]
    exact ⟨0, w2, rfl, LC.e F2.fc rfl rfl L⟩
  obtain ⟨b3, w3, a3, O3, v3⟩ := whole8 (lo := 1) (hi := 9) hn htp (by omega) (by omega) h2 C2
  have a3' : f_X6_whole 1 9 w2 = _ := a3
  rw [er, if_neg one_ne]
  dsimp only
  rw [a3', bind_some']
  have F3 := F2.tr O3.1
  rcases O3.cs with ⟨e, er3, rfl, L⟩ | ⟨p3, er3, rfl, h3, C3⟩
  · rw [er3, if_pos rfl]
    exact ⟨0, w3, rfl, LC.e F3.fc rfl rfl L⟩
  rw [er3, if_neg one_ne]
  dsimp only
  rw [F3.2.2 2, hH, v3 rfl]
  exact ⟨1, _, rfl, LC.o (F3.fc.tr (FC.st (by omega) (by omega) hz)) rfl rfl h3 (C3.st hz) ((D.f hz F3).set (by omega))⟩
theorem mov9 (hn : n ≤ 900) (htp : ∀ j, tp j < 256) {w : GW} {p : Nat} {φ : Nat → Int32} (X : XM w tp n (.inr p) φ) : ∃ w', f_X9_movesLine w = some ((), w') ∧ XM w' tp n (movR tp n (.inr p)) (movF tp n (.inr p) φ) := by
  obtain ⟨w1, a1, X1⟩ := told9 (u := 33) (lo := 1) (hi := 9) hn htp (by omega) (by omega) (by omega) X
  rw [sWr_u (u := 33) (u' := 16) rfl] at a1 X1
  have a1' : f_X9_told 33 1 9 w = _ := a1
  rw [f_X9_movesLine, a1', bind_some']
  dsimp only
  unfold movF movR
  cases hr : sNr tp n 1 9 (sWr tp n 16 (.inr p)) with
  | inl e =>
    rw [hr] at X1
    rw [X1.2.2.1, if_neg one_ne]
    exact ⟨_, rfl, X1⟩
  | inr p' =>
    rw [hr] at X1
    rw [X1.2.2.1, if_pos rfl, if_pos (show inb _ _ from by decide), show ix (38 : Int32) = 38 from by decide]
    exact ⟨_, rfl, X1.set⟩
/-! the door's line -/
noncomputable def dorR (tp : Nat → Nat) (n B : Nat) (r : RR) : RR := sNr tp n 1 9 (sWr tp n 16 (sNr tp n 0 (B - 1) r))
noncomputable def dorF (tp : Nat → Nat) (n B : Nat) (r : RR) (φ : Nat → Int32) : Nat → Int32 := ifok (dorR tp n B r) (up (up φ 36 (nI (sNv tp n 0 (B - 1) r))) 37 (nI (sNv tp n 1 9 (sWr tp n 16 (sNr tp n 0 (B - 1) r))))) (up φ 36 (nI (sNv tp n 0 (B - 1) r)))
theorem dor8 (hn : n ≤ 900) (htp : ∀ j, tp j < 256) {w : GW} {H p B : Nat} {φ : Nat → Int32} (hz : 4 ≤ H) (hp : p ≤ n) (C : CT w tp n p) (hk : tK tp n p ≠ 0) (hH : fxH (gR w 2) = H) (D : DC w H φ) (h37 : φ 37 = 0) (h80 : φ 80 = 1) (hB : 1 ≤ B ∧ B ≤ 5) (h0 : φ 0 = nI B) : ∃ b w', f_X6_doorLine w = some (b, w') ∧ LC tp n H w w' (dorR tp n B (.inr (tE tp n p))) (dorF tp n B (.inr (tE tp n p)) φ) b := by
  obtain ⟨w1, a1, F1, _, C1, h1⟩ := advC hn htp hp C hk
  have D1 := D.f hz F1
  obtain ⟨b2, w2, a2, O2, v2⟩ := whole8 (lo := 0) (hi := B - 1) hn htp (by omega) (by omega) h1 C1
  have a2' : f_X6_whole 0 (nI B - 1) w1 = some (b2, w2) := by
    rw [show nI B - 1 = nI (B - 1) from pk_sub (b := 1) (by omega)]
    exact a2
  rw [f_X6_doorLine, hH, D.1.2.2.2.2.1, h37, if_pos (show (0 : Int32) ≤ 0 from by decide), D.1.1, h80, if_neg one_ne, a1, bind_some']
  dsimp only
  rw [F1.2.2 2, hH, D1.1.2.1, h0, a2', bind_some']
  unfold dorF dorR
  have F2 := F1.tr O2.1
  rcases O2.cs with ⟨e, er, rfl, L⟩ | ⟨p2, er, rfl, h2, C2⟩
  · rw [er, if_pos rfl]
    exact ⟨0, w2, rfl, LC.e F2.fc rfl rfl L⟩
  rw [er, if_neg one_ne]
  dsimp only
  rw [F2.2.2 2, hH, v2 rfl]
  generalize hv1 : sNv tp n 0 (B - 1) (.inr (tE tp n p)) = v1
  have C4 : CT (sI w2 H 5 (nI v1)) tp n p2 := C2.st hz
  have F4 : FC H w (sI w2 H 5 (nI v1)) := F2.fc.tr (FC.st (by omega) (by omega) hz)
  have D4 : DC (sI w2 H 5 (nI v1)) H (up φ 36 (nI v1)) := (D.f hz F2).set (by omega)
  obtain ⟨b5, w5, a5, O5⟩ := word8 (u := 16) hn htp (by omega) h2 C4
  rw [a5, bind_some']
  have F5 := F4.tr O5.1.fc
  rcases O5.cs with ⟨e, er5, rfl, L⟩ | ⟨p5, er5, rfl, h5, C5⟩
  · rw [er5, if_pos rfl]
    exact ⟨0, w5, rfl, LC.e F5 rfl rfl L⟩
  obtain ⟨b6, w6, a6, O6, v6⟩ := whole8 (lo := 1) (hi := 9) hn htp (by omega) (by omega) h5 C5
  have a6' : f_X6_whole 1 9 w5 = _ := a6
  rw [er5, if_neg one_ne]
  dsimp only
  rw [a6', bind_some']
  have F6 := F5.tr O6.1.fc
  rcases O6.cs with ⟨e, er6, rfl, L⟩ | ⟨p6, er6, rfl, h6, C6⟩
  · rw [er6, if_pos rfl]
    exact ⟨0, w6, rfl, LC.e F6 rfl rfl L⟩
  rw [er6, if_neg one_ne]
  dsimp only
  rw [F6.2.2 2, hH, v6 rfl]
  have D6 := (D4.f hz O5.1).f hz O6.1
  exact ⟨1, _, rfl, LC.o (F6.tr (FC.st (by omega) (by omega) hz)) rfl rfl h6 (C6.st hz) (D6.set (by omega))⟩
theorem dor9 (hn : n ≤ 900) (htp : ∀ j, tp j < 256) {w : GW} {p B : Nat} {φ : Nat → Int32} (hB : 1 ≤ B ∧ B ≤ 5) (h0 : φ 0 = nI B) (X : XM w tp n (.inr p) φ) : ∃ w', f_X9_doorLine w = some ((), w') ∧ XM w' tp n (dorR tp n B (.inr p)) (dorF tp n B (.inr p) φ) := by
  obtain ⟨w1, a1, X1⟩ := number9 (lo := 0) (hi := B - 1) hn htp (by omega) (by omega) X
  have a1' : f_X9_number 0 (nI B - 1) w = some (nI (sNv tp n 0 (B - 1) (.inr p)), w1) := by
    rw [show nI B - 1 = nI (B - 1) from pk_sub (b := 1) (by omega)]
    exact a1
  rw [f_X9_doorLine, X.2.2.1, if_pos rfl, if_pos (show inb _ _ from by decide), show ix (0 : Int32) = 0 from by decide, X.1 0 (by omega), h0, a1', bind_some', if_pos (show inb _ _ from by decide)]
  dsimp only
  rw [show ix (36 : Int32) = 36 from by decide]
  obtain ⟨w2, a2, X2⟩ := told9 (u := 33) (lo := 1) (hi := 9) hn htp (by omega) (by omega) (by omega) (X1.set (i := 36) (v := nI (sNv tp n 0 (B - 1) (.inr p))))
  rw [sWr_u (u := 33) (u' := 16) rfl] at a2 X2
  have a2' : f_X9_told 33 1 9 (sI w1 134 36 (nI (sNv tp n 0 (B - 1) (.inr p)))) = _ := a2
  rw [a2', bind_some']
  dsimp only
  unfold dorF dorR
  cases hr : sNr tp n 1 9 (sWr tp n 16 (sNr tp n 0 (B - 1) (.inr p))) with
  | inl e =>
    rw [hr] at X2
    rw [X2.2.2.1, if_neg one_ne]
    exact ⟨_, rfl, X2⟩
  | inr p' =>
    rw [hr] at X2
    rw [X2.2.2.1, if_pos rfl, if_pos (show inb _ _ from by decide), show ix (37 : Int32) = 37 from by decide]
    exact ⟨_, rfl, X2.set⟩
end LN
