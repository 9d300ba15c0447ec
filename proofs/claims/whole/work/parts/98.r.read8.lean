/-! the class reads words and wholes; the draft -/
section RD
variable {tp : Nat → Nat} {n : Nat}
/-- what reading a token changes -/
def F13 (w w' : GW) : Prop := (∀ q j, q ≠ 1 → q ≠ 3 → gI w' q j = gI w q j ∧ gL w' q j = gL w q j) ∧ gI w' 1 3 = gI w 1 3 ∧ ∀ r, gR w' r = gR w r
theorem F13.tr {a b c : GW} (h : F13 a b) (h2 : F13 b c) : F13 a c := ⟨fun q j x y => ⟨(h2.1 q j x y).1.trans (h.1 q j x y).1, (h2.1 q j x y).2.trans (h.1 q j x y).2⟩, h2.2.1.trans h.2.1, fun r => (h2.2.2 r).trans (h.2.2 r)⟩
theorem F13.rf {w : GW} : F13 w w := ⟨fun _ _ _ _ => ⟨rfl, rfl⟩, rfl, fun _ => rfl⟩
theorem F13.adv {w w' : GW} (h : f_X7_advance w = some ((), w')) : F13 w w' ∧ (∀ j, gI w' 3 j = gI w 3 j) ∧ gI w' 1 1 = gI w 1 1 := by
  have S := fr_X7_advance _ h
  exact ⟨⟨fun q j x y => S.1 q j (by simp [md, L_X7_advance]; omega), S.I 1 3 rfl, fun r => S.2 r (by simp [R_X7_advance])⟩, fun j => S.I 3 j rfl, S.I 1 1 rfl⟩
/-- what came of it -/
def OC (tp : Nat → Nat) (n : Nat) (w w' : GW) (r : RR) (b : Int32) : Prop := F13 w w' ∧ TPc w' tp n ∧ match r with
  | .inl e => b = 0 ∧ gI w' 3 3 = nI e.1 ∧ gI w' 3 4 = nI e.2
  | .inr p => b = 1 ∧ p ≤ n ∧ CT w' tp n p
theorem advC (hn : n ≤ 900) (htp : ∀ j, tp j < 256) {w : GW} {p : Nat} (hp : p ≤ n) (C : CT w tp n p) (hk : tK tp n p ≠ 0) : ∃ w', f_X7_advance w = some ((), w') ∧ F13 w w' ∧ (∀ j, gI w' 3 j = gI w 3 j) ∧ CT w' tp n (tE tp n p) ∧ tE tp n p ≤ n := by
  obtain ⟨e1, e2, e3⟩ := tE_ge (tp := tp) hp
  obtain ⟨w', a, b⟩ := advance hn htp e2 C.1 (C.2.2.2.1 hk)
  obtain ⟨f, g, _⟩ := F13.adv a
  exact ⟨w', a, f, g, b.c (by rw [g]; exact C.2.2.2.2.2.2), e2⟩
theorem wrong8 {w : GW} {f p : Nat} (C : CT w tp n p) : f_X6_wrong (nI f) w = some (0, sI (sI w 3 3 (nI f)) 3 4 (nI (tA tp n p))) ∧ OC tp n w (sI (sI w 3 3 (nI f)) 3 4 (nI (tA tp n p))) (.inl (f, tA tp n p)) 0 := by
  refine ⟨?_, ⟨fun q j x y => ⟨?_, rfl⟩, ?_, fun _ => rfl⟩, ⟨fun j hj => ?_, ?_⟩, rfl, ?_, gI_same _ _ _ _⟩
  · rw [f_X6_wrong, gI_sI, if_neg (by omega), C.2.1]
  · rw [gI_sI, if_neg (by omega), gI_sI, if_neg (by omega)]
  · rw [gI_sI, if_neg (by omega), gI_sI, if_neg (by omega)]
  · rw [gI_sI, if_neg (by omega), gI_sI, if_neg (by omega)]; exact C.1.1 j hj
  · rw [gI_sI, if_neg (by omega), gI_sI, if_neg (by omega)]; exact C.1.2
  · rw [gI_sI, if_neg (by omega), gI_same]
theorem word8 (hn : n ≤ 900) (htp : ∀ j, tp j < 256) {w : GW} {u p : Nat} (hu : u < 34) (hp : p ≤ n) (C : CT w tp n p) : ∃ b w', f_X6_word u w = some (b, w') ∧ OC tp n w w' (sWr tp n u (.inr p)) b := by
  rcases tS_em (tp := tp) (n := n) u p with q | q
  · rw [sWr_t q]
    obtain ⟨w', a, f, _, c, d⟩ := advC hn htp hp C (by have := q.1; omega)
    exact ⟨1, w', by rw [f_X6_word, says_t hn hu hp C q, bind_some', if_neg one_ne]; dsimp only; rw [a, bind_some'], f, c.1, rfl, d, c⟩
  · rw [sWr_f q]
    obtain ⟨a, b⟩ := wrong8 (f := 1) C
    have a' : f_X6_wrong 1 w = _ := a
    exact ⟨0, _, by rw [f_X6_word, says_f hn hu hp C q, bind_some', if_pos rfl]; dsimp only; rw [a', bind_some'], b⟩
theorem isWhole8 (hn : n ≤ 900) {w : GW} {lo hi p : Nat} (hl : lo < 1000) (hh : hi < 1000) (hp : p ≤ n) (C : CT w tp n p) : (tK tp n p = 2 ∧ lo ≤ tV tp n p ∧ tV tp n p ≤ hi ∧ f_X6_isWhole (nI lo) (nI hi) w = some (1, sI w 3 2 (nI (tV tp n p))) ∧ CT (sI w 3 2 (nI (tV tp n p))) tp n p ∧ F13 w (sI w 3 2 (nI (tV tp n p)))) ∨ (∃ e w', sNr tp n lo hi (.inr p) = .inl e ∧ f_X6_isWhole (nI lo) (nI hi) w = some (0, w') ∧ OC tp n w w' (.inl e) 0) := by
  have hC2 : ∀ v, CT (sI w 3 2 v) tp n p := fun v => ⟨⟨fun j hj => by rw [gI_sI, if_neg (by omega)]; exact C.1.1 j hj, by rw [gI_sI, if_neg (by omega)]; exact C.1.2⟩, by rw [gI_sI, if_neg (by omega)]; exact C.2.1, by rw [gI_sI, if_neg (by omega)]; exact C.2.2.1, fun q => by rw [gI_sI, if_neg (by omega)]; exact C.2.2.2.1 q, fun q => by rw [gI_sI, if_neg (by omega)]; exact C.2.2.2.2.1 q, C.2.2.2.2.2.1, by rw [gI_sI, if_neg (by omega)]; exact C.2.2.2.2.2.2⟩
  have hF2 : ∀ v, F13 w (sI w 3 2 v) := fun v => ⟨fun q j x y => ⟨by rw [gI_sI, if_neg (by omega)], rfl⟩, by rw [gI_sI, if_neg (by omega)], fun _ => rfl⟩
  have hk5 : tK tp n p ≤ 5 := by
    unfold tK
    repeat' split
    all_goals omega
  by_cases q : tK tp n p = 2
  · have h6 := C.2.2.2.2.1 q
    have hv := tV_lt hp q
    have e0 : f_X6_isWhole (nI lo) (nI hi) w = if nI (tV tp n p) < nI lo then f_X6_isWhole_44 (sI w 3 2 (nI (tV tp n p))) else if nI (tV tp n p) ≤ nI hi then some (1, sI w 3 2 (nI (tV tp n p))) else f_X6_isWhole_44 (sI w 3 2 (nI (tV tp n p))) := by
      rw [f_X6_isWhole, C.2.2.1, q, if_pos (show nI 2 = 2 from rfl), h6, gI_same]
    by_cases z : lo ≤ tV tp n p ∧ tV tp n p ≤ hi
    · refine Or.inl ⟨q, z.1, z.2, ?_, hC2 _, hF2 _⟩
      rw [e0, if_neg (fun q9 => absurd ((lt_nI (by omega) (by omega)).mp q9) (by omega)), if_pos ((le_nI (by omega) (by omega)).mpr (by omega))]
    · refine Or.inr ⟨(4, tA tp n p), sI (sI (sI w 3 2 (nI (tV tp n p))) 3 3 (nI 4)) 3 4 (nI (tA tp n p)), (sN_b q z).1, ?_, ?_⟩
      · obtain ⟨a, b⟩ := wrong8 (f := 4) (hC2 (nI (tV tp n p)))
        have a' : f_X6_isWhole_44 (sI w 3 2 (nI (tV tp n p))) = some (0, sI (sI (sI w 3 2 (nI (tV tp n p))) 3 3 (nI 4)) 3 4 (nI (tA tp n p))) := by
          have a2 : f_X6_wrong 4 (sI w 3 2 (nI (tV tp n p))) = _ := a
          rw [f_X6_isWhole_44, a2, bind_some', if_pos rfl]
        rw [e0]
        by_cases y : tV tp n p < lo
        · rw [if_pos ((lt_nI (by omega) (by omega)).mpr (by omega)), a']
        · rw [if_neg (fun q9 => absurd ((lt_nI (by omega) (by omega)).mp q9) (by omega)), if_neg (fun q9 => absurd ((le_nI (by omega) (by omega)).mp q9) (by omega)), a']
      · obtain ⟨a, b⟩ := wrong8 (f := 4) (hC2 (nI (tV tp n p)))
        exact ⟨(hF2 _).tr b.1, b.2⟩
  · obtain ⟨a, b⟩ := wrong8 (f := 1) C
    refine Or.inr ⟨(1, tA tp n p), _, (sN_f q).1, ?_, b⟩
    have a' : f_X6_wrong 1 w = _ := a
    rw [f_X6_isWhole, C.2.2.1, show (2 : Int32) = nI 2 from rfl, if_neg (fun q9 => absurd ((eq_nI (by omega) (by omega)).mp q9) (by omega)), a', bind_some']
theorem whole8 (hn : n ≤ 900) (htp : ∀ j, tp j < 256) {w : GW} {lo hi p : Nat} (hl : lo < 1000) (hh : hi < 1000) (hp : p ≤ n) (C : CT w tp n p) : ∃ b w', f_X6_whole (nI lo) (nI hi) w = some (b, w') ∧ OC tp n w w' (sNr tp n lo hi (.inr p)) b ∧ (b = 1 → gI w' 3 2 = nI (sNv tp n lo hi (.inr p))) := by
  rcases isWhole8 hn hl hh hp C with ⟨q, z1, z2, a, b, c⟩ | ⟨e, w', a, b, c⟩
  · obtain ⟨w', d, f, g, h, i⟩ := advC hn htp hp b (by omega)
    rw [(sN_t q ⟨z1, z2⟩).1, (sN_t q ⟨z1, z2⟩).2]
    refine ⟨1, w', ?_, ⟨c.tr f, h.1, rfl, i, h⟩, fun _ => ?_⟩
    · rw [f_X6_whole, a, bind_some', if_neg one_ne]
      dsimp only
      rw [d, bind_some']
    · rw [g, gI_same]
  · rw [a]
    refine ⟨0, w', ?_, c, fun z => by cases z⟩
    rw [f_X6_whole, b, bind_some', if_pos rfl]
def up (φ : Nat → Int32) (j : Nat) (v : Int32) : Nat → Int32 := fun k => if k = j then v else φ k
theorem up_s (φ : Nat → Int32) (j : Nat) (v : Int32) : up φ j v j = v := if_pos rfl
theorem up_n {φ : Nat → Int32} {j k : Nat} {v : Int32} (h : k ≠ j) : up φ j v k = φ k := if_neg h
/-- a name as one number -/
def nmH (φ : Nat → Int32) (p : Nat) : Nat → Nat
  | 0 => 0
  | m + 1 => nmH φ p m * 27 + ix (φ (87 + 8 * p + m)) - 97 + 1
/-- the draft of the class, over what the reference has of it -/
def DC (w : GW) (H : Nat) (φ : Nat → Int32) : Prop := (gI w H 0 = φ 80 ∧ gI w H 1 = φ 0 ∧ gI w H 2 = φ 1 ∧ gI w H 5 = φ 36 ∧ gI w H 6 = φ 37 ∧ gI w H 7 = φ 38 ∧ gI w H 8 = φ 17 ∧ gI w H 9 = φ 39) ∧ (∀ b, b < 5 → gI w (H + 1) b = φ (2 + b) ∧ gI w (H + 2) b = φ (7 + b) ∧ gI w (H + 3) b = φ (12 + b)) ∧ (∀ p, p < ix (φ 17) → p < 6 → gI w (H + 4 + 1 + p) 0 = φ (18 + p) ∧ gI w (H + 4 + 1 + p) 1 = φ (24 + p) ∧ gI w (H + 4 + 1 + p) 2 = φ (30 + p) ∧ gL w (H + 11) p = lN (nmH φ p (ix (φ (81 + p))))) ∧ ∀ y b, y < 8 → b < 5 → gI w (H + 12 + 1 + y) b = φ (40 + 5 * y + b)
theorem DC.f {w w' : GW} {H : Nat} {φ : Nat → Int32} (D : DC w H φ) (hH : 4 ≤ H) (F : F13 w w') : DC w' H φ := by
  obtain ⟨⟨a1, a2, a3, a4, a5, a6, a7, a8⟩, b, c, d⟩ := D
  have g : ∀ q j, 4 ≤ q → gI w' q j = gI w q j := fun q j h => (F.1 q j (by omega) (by omega)).1
  refine ⟨⟨(g _ _ hH).trans a1, (g _ _ hH).trans a2, (g _ _ hH).trans a3, (g _ _ hH).trans a4, (g _ _ hH).trans a5, (g _ _ hH).trans a6, (g _ _ hH).trans a7, (g _ _ hH).trans a8⟩, fun x hx => ?_, fun p h1 h2 => ?_, fun y x h1 h2 => ?_⟩
  · rw [g _ _ (by omega), g _ _ (by omega), g _ _ (by omega)]; exact b x hx
  · rw [g _ _ (by omega), g _ _ (by omega), g _ _ (by omega), (F.1 _ _ (by omega) (by omega)).2]; exact c p h1 h2
  · rw [g _ _ (by omega)]; exact d y x h1 h2
/-- all but the draft, the text's token and the reader -/
def FC (H : Nat) (w w' : GW) : Prop := (∀ q j, q ≠ 1 → q ≠ 3 → q < H ∨ H + 21 ≤ q → gI w' q j = gI w q j ∧ gL w' q j = gL w q j) ∧ gI w' 1 3 = gI w 1 3 ∧ ∀ r, gR w' r = gR w r
theorem FC.tr {H : Nat} {a b c : GW} (h : FC H a b) (h2 : FC H b c) : FC H a c := ⟨fun q j x y z => ⟨(h2.1 q j x y z).1.trans (h.1 q j x y z).1, (h2.1 q j x y z).2.trans (h.1 q j x y z).2⟩, h2.2.1.trans h.2.1, fun r => (h2.2.2 r).trans (h.2.2 r)⟩
theorem F13.fc {H : Nat} {w w' : GW} (h : F13 w w') : FC H w w' := ⟨fun q j x y _ => h.1 q j x y, h.2.1, h.2.2⟩
theorem FC.rf {H : Nat} {w : GW} : FC H w w := F13.rf.fc
theorem FC.st {H k j : Nat} {w : GW} {v : Int32} (h : H ≤ k) (h2 : k < H + 21) (h4 : 4 ≤ H) : FC H w (sI w k j v) := ⟨fun q i x y z => ⟨by rw [gI_sI, if_neg (by omega)], rfl⟩, by rw [gI_sI, if_neg (by omega)], fun _ => rfl⟩
theorem FC.stL {H k j : Nat} {w : GW} {v : Int64} (h : H ≤ k) (h2 : k < H + 21) : FC H w (sL w k j v) := ⟨fun q i x y z => ⟨rfl, by rw [gL_sL, if_neg (by omega)]⟩, rfl, fun _ => rfl⟩
theorem CT.st {k j p : Nat} {w : GW} {v : Int32} (C : CT w tp n p) (h : 4 ≤ k) : CT (sI w k j v) tp n p := ⟨⟨fun i hi => by rw [gI_sI, if_neg (by omega)]; exact C.1.1 i hi, by rw [gI_sI, if_neg (by omega)]; exact C.1.2⟩, by rw [gI_sI, if_neg (by omega)]; exact C.2.1, by rw [gI_sI, if_neg (by omega)]; exact C.2.2.1, fun q => by rw [gI_sI, if_neg (by omega)]; exact C.2.2.2.1 q, fun q => by rw [gI_sI, if_neg (by omega)]; exact C.2.2.2.2.1 q, C.2.2.2.2.2.1, by rw [gI_sI, if_neg (by omega)]; exact C.2.2.2.2.2.2⟩
theorem CT.stL {k j p : Nat} {w : GW} {v : Int64} (C : CT w tp n p) (h : 4 ≤ k) : CT (sL w k j v) tp n p := ⟨⟨fun i hi => C.1.1 i hi, C.1.2⟩, C.2.1, C.2.2.1, C.2.2.2.1, C.2.2.2.2.1, fun q => by rw [gL_sL, if_neg (by omega)]; exact C.2.2.2.2.2.1 q, C.2.2.2.2.2.2⟩
/-- a line read -/
def LC (tp : Nat → Nat) (n H : Nat) (w w' : GW) (r : RR) (φ : Nat → Int32) (b : Int32) : Prop := FC H w w' ∧ match r with
  | .inl e => b = 0 ∧ gI w' 3 3 = nI e.1 ∧ gI w' 3 4 = nI e.2
  | .inr p => b = 1 ∧ p ≤ n ∧ CT w' tp n p ∧ DC w' H φ
theorem OC.lc {H : Nat} {w w' : GW} {e : Nat × Nat} {b : Int32} {φ : Nat → Int32} (O : OC tp n w w' (.inl e) b) : LC tp n H w w' (.inl e) φ b := ⟨O.1.fc, O.2.2⟩
theorem LC.tr {H : Nat} {w w1 w' : GW} {r : RR} {b : Int32} {φ : Nat → Int32} (F : FC H w w1) (L : LC tp n H w1 w' r φ b) : LC tp n H w w' r φ b := ⟨F.tr L.1, L.2⟩
end RD
