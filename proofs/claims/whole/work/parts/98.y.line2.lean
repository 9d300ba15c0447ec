/-! a line of the text, both -/
section LL
variable {tp : Nat → Nat} {n : Nat}
theorem bg_f (hn : n ≤ 900) {w : GW} {u p : Nat} {c f nd : Int32} {φ : Nat → Int32} (hu : u < 34) (X : XM w tp n (.inr p) φ) (h : ¬ tS tp n u p) : f_X9_begins u c f nd w = some (0, w) := by
  rw [f_X9_begins, isWord_f hn hu X h, bind_some', if_pos rfl]
theorem bg_t (hn : n ≤ 900) (htp : ∀ j, tp j < 256) {w : GW} {u p : Nat} {c f nd : Int32} {φ : Nat → Int32} (hu : u < 34) (X : XM w tp n (.inr p) φ) (h : tS tp n u p) (hc : c ≠ 0) (hd : nd = 0 ∨ φ 80 ≠ 0) : ∃ w', f_X9_begins u c f nd w = some (1, w') ∧ XM w' tp n (.inr (tE tp n p)) φ := by
  obtain ⟨w', a, b⟩ := X.next hn htp
  refine ⟨w', ?_, b⟩
  have e48 : f_X9_begins_48 w = some (1, w') := by rw [f_X9_begins_48, X.2.2.1, if_pos rfl, a, bind_some']
  rw [f_X9_begins, isWord_t hn hu X h, bind_some', if_neg one_ne, if_neg hc, f_X9_begins_23]
  by_cases z : nd = 0
  · rw [if_pos z]; exact e48
  · rcases hd with hd | hd
    · exact absurd hd z
    · rw [if_neg z, if_pos (show inb _ _ from by decide), show ix (80 : Int32) = 80 from by decide, X.1 80 (by omega), if_neg hd]; exact e48
theorem bg_n (hn : n ≤ 900) {w : GW} {u p f : Nat} {nd : Int32} {φ : Nat → Int32} (hu : u < 34) (X : XM w tp n (.inr p) φ) (h : tS tp n u p) : ∃ w', f_X9_begins u 0 (nI f) nd w = some (1, w') ∧ XM w' tp n (.inl (f, tA tp n p)) φ := by
  obtain ⟨a, X2⟩ := X.wrong (f := f) (a := tA tp n p)
  refine ⟨_, ?_, X2⟩
  have e48 : f_X9_begins_48 (sI (sI (sI w 130 13 1) 130 9 (nI f)) 130 10 (nI (tA tp n p))) = some (1, sI (sI (sI w 130 13 1) 130 9 (nI f)) 130 10 (nI (tA tp n p))) := by rw [f_X9_begins_48, X2.2.2.1, if_neg one_ne]
  rw [f_X9_begins, isWord_t hn hu X h, bind_some', if_neg one_ne, if_pos rfl, X.2.2.2.2.2.2.1, a, bind_some']
  dsimp only
  rw [f_X9_begins_23]
  by_cases z : nd = 0
  · rw [if_pos z]; exact e48
  · rw [if_neg z, if_pos (show inb _ _ from by decide), show ix (80 : Int32) = 80 from by decide]
    by_cases y : gI (sI (sI (sI w 130 13 1) 130 9 (nI f)) 130 10 (nI (tA tp n p))) 134 80 = 0
    · rw [if_pos y, X2.wrong_e, bind_some']; exact e48
    · rw [if_neg y]; exact e48
theorem bg_d (hn : n ≤ 900) {w : GW} {u p : Nat} {c f : Int32} {φ : Nat → Int32} (hu : u < 34) (X : XM w tp n (.inr p) φ) (h : tS tp n u p) (hc : c ≠ 0) (h80 : φ 80 = 0) : ∃ w', f_X9_begins u c f 1 w = some (1, w') ∧ XM w' tp n (.inl (6, tA tp n p)) φ := by
  obtain ⟨a, X2⟩ := X.wrong (f := 6) (a := tA tp n p)
  have a' : f_X9_wrong 6 (nI (tA tp n p)) w = _ := a
  refine ⟨_, ?_, X2⟩
  rw [f_X9_begins, isWord_t hn hu X h, bind_some', if_neg one_ne, if_neg hc, f_X9_begins_23, if_neg one_ne, if_pos (show inb _ _ from by decide), show ix (80 : Int32) = 80 from by decide, X.1 80 (by omega), if_pos h80, X.2.2.2.2.2.2.1, a', bind_some', f_X9_begins_48, X2.2.2.1, if_neg one_ne]
/-- the beginnings of a line, as the reference tries them -/
theorem rd0 {w : GW} {p : Nat} {φ : Nat → Int32} (X : XM w tp n (.inr p) φ) : f_X9_readLine w = f_X9_readLine_18 (if φ 80 = 0 then 1 else 0) 17 w := by
  rw [f_X9_readLine, if_pos (show inb _ _ from by decide), show ix (80 : Int32) = 80 from by decide, X.1 80 (by omega)]
  by_cases z : φ 80 = 0
  · rw [if_pos z, if_pos z]
  · rw [if_neg z, if_neg z]
theorem rd1 (hn : n ≤ 900) {w : GW} {p : Nat} {φ : Nat → Int32} (X : XM w tp n (.inr p) φ) (h0 : ¬ tS tp n 0 p) : f_X9_readLine w = (f_X9_begins 20 1 1 1 w).bind fun q7 => if q7.1 = 0 then if inb 17 135 then if 6 ≤ (gI q7.2 134 (ix 17)) then f_X9_readLine_72 0 23 q7.2 else f_X9_readLine_72 1 23 q7.2 else none else (f_X9_boxLine q7.2).bind fun q45 => some ((), q45.2) := by
  rw [rd0 X, f_X9_readLine_18, bg_f hn (by omega) X (fun z => h0 ((tS_u (u := 17) (u' := 0) rfl).mp z)), bind_some', if_pos rfl]
theorem rd2 (hn : n ≤ 900) {w : GW} {p : Nat} {φ : Nat → Int32} (X : XM w tp n (.inr p) φ) (h0 : ¬ tS tp n 0 p) (h3 : ¬ tS tp n 3 p) : f_X9_readLine w = f_X9_readLine_72 (if 6 ≤ φ 17 then 0 else 1) 23 w := by
  rw [rd1 hn X h0, bg_f hn (by omega) X (fun z => h3 ((tS_u (u := 20) (u' := 3) rfl).mp z)), bind_some', if_pos rfl, if_pos (show inb _ _ from by decide)]
  dsimp only
  rw [show ix (17 : Int32) = 17 from by decide, X.1 17 (by omega)]
  by_cases z : 6 ≤ φ 17
  · rw [if_pos z, if_pos z]
  · rw [if_neg z, if_neg z]
theorem rd3 (hn : n ≤ 900) {w : GW} {p : Nat} {φ : Nat → Int32} (X : XM w tp n (.inr p) φ) (h0 : ¬ tS tp n 0 p) (h3 : ¬ tS tp n 3 p) (h6 : ¬ tS tp n 6 p) : f_X9_readLine w = f_X9_readLine_105 (if φ 37 = 0 then 1 else 0) 24 w := by
  rw [rd2 hn X h0 h3, f_X9_readLine_72, bg_f hn (by omega) X (fun z => h6 ((tS_u (u := 23) (u' := 6) rfl).mp z)), bind_some', if_pos rfl, if_pos (show inb _ _ from by decide)]
  dsimp only
  rw [show ix (37 : Int32) = 37 from by decide, X.1 37 (by omega)]
  by_cases z : φ 37 = 0
  · rw [if_pos z, if_pos z]
  · rw [if_neg z, if_neg z]
theorem rd4 (hn : n ≤ 900) {w : GW} {p : Nat} {φ : Nat → Int32} (X : XM w tp n (.inr p) φ) (h0 : ¬ tS tp n 0 p) (h3 : ¬ tS tp n 3 p) (h6 : ¬ tS tp n 6 p) (h7 : ¬ tS tp n 7 p) : f_X9_readLine w = f_X9_readLine_138 (if φ 38 = 0 then 1 else 0) 25 w := by
  rw [rd3 hn X h0 h3 h6, f_X9_readLine_105, bg_f hn (by omega) X (fun z => h7 ((tS_u (u := 24) (u' := 7) rfl).mp z)), bind_some', if_pos rfl, if_pos (show inb _ _ from by decide)]
  dsimp only
  rw [show ix (38 : Int32) = 38 from by decide, X.1 38 (by omega)]
  by_cases z : φ 38 = 0
  · rw [if_pos z, if_pos z]
  · rw [if_neg z, if_neg z]
theorem rd5 (hn : n ≤ 900) {w : GW} {p : Nat} {φ : Nat → Int32} (X : XM w tp n (.inr p) φ) (h0 : ¬ tS tp n 0 p) (h3 : ¬ tS tp n 3 p) (h6 : ¬ tS tp n 6 p) (h7 : ¬ tS tp n 7 p) (h8 : ¬ tS tp n 8 p) : f_X9_readLine w = f_X9_readLine_173 (if 8 ≤ φ 39 then 0 else 1) 26 w := by
  rw [rd4 hn X h0 h3 h6 h7, f_X9_readLine_138, bg_f hn (by omega) X (fun z => h8 ((tS_u (u := 25) (u' := 8) rfl).mp z)), bind_some', if_pos rfl, if_pos (show inb _ _ from by decide)]
  dsimp only
  rw [show ix (39 : Int32) = 39 from by decide, X.1 39 (by omega)]
  by_cases z : 8 ≤ φ 39
  · rw [if_pos z, if_pos z]
  · rw [if_neg z, if_neg z]
theorem hall9e {w : GW} {e : Nat × Nat} {φ : Nat → Int32} (X : XM w tp n (.inl e) φ) : f_X9_hallLine w = some ((), w) := by rw [f_X9_hallLine, X.2.2.1, if_neg one_ne]
theorem box9e {w : GW} {e : Nat × Nat} {φ : Nat → Int32} (X : XM w tp n (.inl e) φ) : f_X9_boxLine w = some ((), w) := by rw [f_X9_boxLine, X.2.2.1, if_neg one_ne]
theorem por9e {w : GW} {e : Nat × Nat} {φ : Nat → Int32} (X : XM w tp n (.inl e) φ) : f_X9_porterLine w = some ((), w) := by rw [f_X9_porterLine, X.2.2.1, if_neg one_ne]
theorem dor9e {w : GW} {e : Nat × Nat} {φ : Nat → Int32} (X : XM w tp n (.inl e) φ) : f_X9_doorLine w = some ((), w) := by rw [f_X9_doorLine, X.2.2.1, if_neg one_ne]
theorem lay9e {w : GW} {e : Nat × Nat} {φ : Nat → Int32} (X : XM w tp n (.inl e) φ) : f_X9_layLine w = some ((), w) := by rw [f_X9_layLine, X.2.2.1, if_neg one_ne]
theorem mov9e (hn : n ≤ 900) (htp : ∀ j, tp j < 256) {w : GW} {e : Nat × Nat} {φ : Nat → Int32} (X : XM w tp n (.inl e) φ) : ∃ w', f_X9_movesLine w = some ((), w') ∧ XM w' tp n (.inl e) φ := by
  obtain ⟨w1, a1, X1⟩ := told9 (u := 33) (lo := 1) (hi := 9) hn htp (by omega) (by omega) (by omega) X
  have a1' : f_X9_told 33 1 9 w = _ := a1
  have X1' : XM w1 tp n (.inl e) φ := X1
  exact ⟨w1, by rw [f_X9_movesLine, a1', bind_some']; dsimp only; rw [X1'.2.2.1, if_neg one_ne], X1'⟩
theorem rle_t {p : Nat} (hp : p ≤ n) (hk : tK tp n p ≠ 0) {r : RR} (h : RLe n (tE tp n p) r) : RLe n p r := fun p' e => by
  obtain ⟨a1, a2⟩ := tA_ge (tp := tp) hp
  obtain ⟨e1, e2, e3⟩ := tE_ge (tp := tp) hp
  have := h p' e
  omega
theorem WF.hall {φ : Nat → Int32} {B L : Nat} (hW : WF φ) (h80 : φ 80 = 0) (hB : 1 ≤ B ∧ B ≤ 5) (hL : L ≤ 8) : WF (up (up (up φ 0 (nI B)) 1 (nI L)) 80 1) := by
  obtain ⟨⟨B', a1, a2, a3⟩, w2, w3, w4⟩ := hW
  have g : ∀ j, j ≠ 0 → j ≠ 1 → j ≠ 80 → up (up (up φ 0 (nI B)) 1 (nI L)) 80 1 j = φ j := fun j h1 h2 h3 => by rw [up_n h3, up_n h2, up_n h1]
  have h0 : B' = 0 ∧ φ 36 = 0 := by
    rcases a2 with h | h
    · exact h.2
    · rw [h80] at h; exact absurd h.1 (by decide)
  refine ⟨⟨B, hB.2, Or.inr ⟨up_s _ _ _, hB.1, ?_, ?_, 0, by omega, ?_⟩, fun y b h1 h2 h3 => ?_⟩, w2.c fun j h1 h2 => g j (by omega) (by omega) (by omega), w3.c fun j h1 h2 => g j (by omega) (by omega) (by omega), w4.c fun j hj => ?_⟩
  · rw [up_n (by omega), up_n (by omega), up_s]
  · rw [up_n (by omega), up_s]; exact ⟨L, by omega, hL, rfl⟩
  · rw [g _ (by omega) (by omega) (by omega)]; exact h0.2
  · rw [g _ (by omega) (by omega) (by omega)]; exact a3 y b h1 (by omega) h3
  · by_cases z : j = 80
    · omega
    · exact g j (by omega) (by omega) z
theorem WF.door {φ : Nat → Int32} {B d e : Nat} (hW : WF φ) (h80 : φ 80 = 1) (hB : 1 ≤ B ∧ B ≤ 5) (h0 : φ 0 = nI B) (hd : d < B) (he : e ≤ 9) : WF (up (up φ 36 (nI d)) 37 (nI e)) := by
  obtain ⟨⟨B', a1, a2, a3⟩, w2, ⟨b1, b2, b3, b4⟩, w4⟩ := hW
  have g : ∀ j, j ≠ 36 → j ≠ 37 → up (up φ 36 (nI d)) 37 (nI e) j = φ j := fun j h1 h2 => by rw [up_n h2, up_n h1]
  rcases a2 with h | ⟨c1, c2, c3, c4, c5⟩
  · rw [h80] at h; exact absurd h.1 one_ne
  have eB : B' = B := (eq_nI (by omega) (by omega)).mp (c3.symm.trans h0)
  subst eB
  refine ⟨⟨B', a1, Or.inr ⟨?_, c2, ?_, ?_, d, hd, ?_⟩, fun y b h1 h2 h3 => ?_⟩, w2.c fun j h1 h2 => g j (by omega) (by omega), ⟨?_, ?_, ?_, fun y b h1 h2 => ?_⟩, w4.c fun j hj => g j (by omega) (by omega)⟩
  · rw [g _ (by omega) (by omega)]; exact c1
  · rw [g _ (by omega) (by omega)]; exact c3
  · rw [g _ (by omega) (by omega)]; exact c4
  · rw [up_n (by omega), up_s]
  · rw [g _ (by omega) (by omega)]; exact a3 y b h1 h2 h3
  · rw [up_s]; exact ⟨e, by omega, he, rfl⟩
  · rw [g _ (by omega) (by omega)]; exact b2
  · rw [g _ (by omega) (by omega)]; exact b3
  · rw [g _ (by omega) (by omega)]; exact b4 y b h1 h2
theorem WF.moves {φ : Nat → Int32} {e : Nat} (hW : WF φ) (he : e ≤ 9) : WF (up φ 38 (nI e)) := by
  obtain ⟨⟨B', w1⟩, w2, ⟨b1, b2, b3, b4⟩, w4⟩ := hW
  refine ⟨⟨B', w1.c fun j hj => up_n (by omega)⟩, w2.c fun j h1 h2 => up_n (by omega), ⟨?_, ?_, ?_, fun y b h1 h2 => ?_⟩, w4.c fun j hj => up_n (by omega)⟩
  · rw [up_n (by omega)]; exact b1
  · rw [up_s]; exact ⟨e, by omega, he, rfl⟩
  · rw [up_n (by omega)]; exact b3
  · rw [up_n (by omega)]; exact b4 y b h1 h2
/-- what told says -/
theorem WF.b {φ : Nat → Int32} (hW : WF φ) : φ 80 = 0 ∨ φ 80 = 1 ∧ ∃ B, (1 ≤ B ∧ B ≤ 5) ∧ φ 0 = nI B := by
  obtain ⟨⟨B, a1, a2, a3⟩, _⟩ := hW
  rcases a2 with h | h
  · exact Or.inl h.1
  · exact Or.inr ⟨h.1, B, ⟨h.2.1, a1⟩, h.2.2.1⟩
theorem lineJ (hn : n ≤ 900) (htp : ∀ j, tp j < 256) {H p : Nat} {φ : Nat → Int32} (hz : 4 ≤ H) (hp : p ≤ n) (hW : WF φ) : LNJ tp n H f_X6_line f_X9_readLine p p φ := by
  have hWb := hW.b
  have t8 : ∀ u w, u < 34 → CT w tp n p → tS tp n u p → f_X7_says u w = some (1, w) := fun u w hu C z => says_t hn hu hp C z
  have f8 : ∀ u w, u < 34 → CT w tp n p → ¬ tS tp n u p → f_X7_says u w = some (0, w) := fun u w hu C z => says_f hn hu hp C z
  have hq := (tE_ge (tp := tp) hp).2.1
  have bad : ∀ f, RLe n p (.inl (f, tA tp n p)) ∧ ∀ p', (.inl (f, tA tp n p) : RR) = .inr p' → WF φ := fun f => ⟨RLe.e, fun p' e => by cases e⟩
  rcases tS_em (tp := tp) (n := n) 0 p with z0 | z0
  · -- hall
    have hk : tK tp n p ≠ 0 := by have := z0.1; omega
    have E8 : ∀ w, CT w tp n p → f_X6_line w = (f_X6_hallLine w).bind fun q43 => some (q43.1, q43.2) := fun w C => by
      rw [f_X6_line, t8 0 w (by omega) C z0, bind_some', if_neg one_ne]
    rcases hWb with h80 | ⟨h80, _⟩
    · refine ⟨hallR tp n (.inr (tE tp n p)), hallF tp n (.inr (tE tp n p)) φ, fun w hH C D => ?_, fun w X => ?_, rle_t hp hk (RLe.num (RLe.w (RLe.num (RLe.w (RLe.i hq))))), fun p' e => ?_⟩
      · obtain ⟨b, w', a, L⟩ := hall8 hn htp hz hp C hk hH D h80
        exact ⟨b, w', by rw [E8 w C, a, bind_some'], L⟩
      · obtain ⟨w1, a1, X1⟩ := bg_t (u := 17) (c := 1) (f := 3) (nd := 0) hn htp (by omega) X ((tS_u (u := 17) (u' := 0) rfl).mpr z0) one_ne (Or.inl rfl)
        obtain ⟨w2, a2, X2⟩ := hall9 hn htp X1
        refine ⟨w2, ?_, X2⟩
        rw [rd0 X, if_pos h80, f_X9_readLine_18, a1, bind_some', if_neg one_ne]
        dsimp only
        rw [a2, bind_some']
      · unfold hallF
        rw [e]
        exact hW.hall h80 (sNv_rg tp n (by omega) _) (sNv_rg tp n (by omega) _).2
    · refine ⟨.inl (3, tA tp n p), φ, fun w hH C D => ?_, fun w X => ?_, bad 3⟩
      · obtain ⟨w', a, L⟩ := no8 (H := H) (f := 3) (φ := φ) C
        have a' : f_X6_wrong 3 w = _ := a
        refine ⟨0, w', ?_, L⟩
        rw [E8 w C, f_X6_hallLine, hH, D.1.1, h80, if_neg one_ne, a', bind_some', bind_some']
      · obtain ⟨w1, a1, X1⟩ := bg_n (u := 17) (f := 3) (nd := 0) hn (by omega) X ((tS_u (u := 17) (u' := 0) rfl).mpr z0)
        have a1' : f_X9_begins 17 0 3 0 w = _ := a1
        refine ⟨w1, ?_, X1⟩
        rw [rd0 X, if_neg (by rw [h80]; decide), f_X9_readLine_18, a1', bind_some', if_neg one_ne]
        dsimp only
        rw [hall9e X1, bind_some']
  rcases tS_em (tp := tp) (n := n) 3 p with z3 | z3
  · -- box
    have hk : tK tp n p ≠ 0 := by have := z3.1; omega
    have E8 : ∀ w, CT w tp n p → f_X6_line w = (f_X6_boxLine w).bind fun q43 => some (q43.1, q43.2) := fun w C => by
      rw [f_X6_line, f8 0 w (by omega) C z0, bind_some', if_pos rfl]
      dsimp only
      rw [t8 3 w (by omega) C z3, bind_some', if_neg one_ne]
    rcases hWb with h80 | ⟨h80, B, hB, h0⟩
    · refine ⟨.inl (6, tA tp n p), φ, fun w hH C D => ?_, fun w X => ?_, bad 6⟩
      · obtain ⟨w', a, L⟩ := no8 (H := H) (f := 6) (φ := φ) C
        have a' : f_X6_wrong 6 w = _ := a
        refine ⟨0, w', ?_, L⟩
        rw [E8 w C, f_X6_boxLine, hH, D.1.1, h80, if_pos rfl, a', bind_some', bind_some']
      · obtain ⟨w1, a1, X1⟩ := bg_d (u := 20) (c := 1) (f := 1) hn (by omega) X ((tS_u (u := 20) (u' := 3) rfl).mpr z3) one_ne h80
        refine ⟨w1, ?_, X1⟩
        rw [rd1 hn X z0, a1, bind_some', if_neg one_ne]
        dsimp only
        rw [box9e X1, bind_some']
    · obtain ⟨r, φ', g1, g2, g3, g4⟩ := boxJ hn htp hz hp hk h80 hW hB h0
      refine ⟨r, φ', fun w hH C D => ?_, fun w X => ?_, rle_t hp hk g3, g4⟩
      · obtain ⟨b, w', a, L⟩ := g1 w hH C D
        exact ⟨b, w', by rw [E8 w C, a, bind_some'], L⟩
      · obtain ⟨w1, a1, X1⟩ := bg_t (u := 20) (c := 1) (f := 1) (nd := 1) hn htp (by omega) X ((tS_u (u := 20) (u' := 3) rfl).mpr z3) one_ne (Or.inr (by rw [h80]; exact one_ne))
        obtain ⟨w2, a2, X2⟩ := g2 w1 X1
        refine ⟨w2, ?_, X2⟩
        rw [rd1 hn X z0, a1, bind_some', if_neg one_ne]
        dsimp only
        rw [a2, bind_some']
  rcases tS_em (tp := tp) (n := n) 6 p with z6 | z6
  · -- porter
    have hk : tK tp n p ≠ 0 := by have := z6.1; omega
    have E8 : ∀ w, CT w tp n p → f_X6_line w = (f_X6_porterLine w).bind fun q43 => some (q43.1, q43.2) := fun w C => by
      rw [f_X6_line, f8 0 w (by omega) C z0, bind_some', if_pos rfl]
      dsimp only
      rw [f8 3 w (by omega) C z3, bind_some', if_pos rfl]
      dsimp only
      rw [t8 6 w (by omega) C z6, bind_some', if_neg one_ne]
    obtain ⟨P, hP6, h17, _⟩ := hW.2.2.2
    by_cases hP : P < 6
    · obtain ⟨r, φ', g1, g2, g3, g4⟩ := porJ hn htp hz hp hk hW hP h17
      refine ⟨r, φ', fun w hH C D => ?_, fun w X => ?_, rle_t hp hk g3, g4⟩
      · obtain ⟨b, w', a, L⟩ := g1 w hH C D
        exact ⟨b, w', by rw [E8 w C, a, bind_some'], L⟩
      · obtain ⟨w1, a1, X1⟩ := bg_t (u := 23) (c := 1) (f := 5) (nd := 0) hn htp (by omega) X ((tS_u (u := 23) (u' := 6) rfl).mpr z6) one_ne (Or.inl rfl)
        obtain ⟨w2, a2, X2⟩ := g2 w1 X1
        refine ⟨w2, ?_, X2⟩
        rw [rd2 hn X z0 z3, h17, show (6 : Int32) = nI 6 from rfl, if_neg (fun q9 => absurd ((le_nI (by omega) (by omega)).mp q9) (by omega)), f_X9_readLine_72]
        have a1' : f_X9_begins 23 1 5 0 w = _ := a1
        rw [a1', bind_some', if_neg one_ne]
        dsimp only
        rw [a2, bind_some']
    · refine ⟨.inl (5, tA tp n p), φ, fun w hH C D => ?_, fun w X => ?_, bad 5⟩
      · obtain ⟨w', a, L⟩ := no8 (H := H) (f := 5) (φ := φ) C
        have a' : f_X6_wrong 5 w = _ := a
        refine ⟨0, w', ?_, L⟩
        rw [E8 w C, f_X6_porterLine, hH, D.1.2.2.2.2.2.2.1, h17, show (6 : Int32) = nI 6 from rfl, if_neg (fun q9 => absurd ((lt_nI (by omega) (by omega)).mp q9) (by omega)), a', bind_some', bind_some']
      · obtain ⟨w1, a1, X1⟩ := bg_n (u := 23) (f := 5) (nd := 0) hn (by omega) X ((tS_u (u := 23) (u' := 6) rfl).mpr z6)
        have a1' : f_X9_begins 23 0 5 0 w = _ := a1
        refine ⟨w1, ?_, X1⟩
        rw [rd2 hn X z0 z3, h17, show (6 : Int32) = nI 6 from rfl, if_pos ((le_nI (by omega) (by omega)).mpr (by omega)), f_X9_readLine_72, a1', bind_some', if_neg one_ne]
        dsimp only
        rw [por9e X1, bind_some']
  rcases tS_em (tp := tp) (n := n) 7 p with z7 | z7
  · -- door
    have hk : tK tp n p ≠ 0 := by have := z7.1; omega
    have E8 : ∀ w, CT w tp n p → f_X6_line w = (f_X6_doorLine w).bind fun q43 => some (q43.1, q43.2) := fun w C => by
      rw [f_X6_line, f8 0 w (by omega) C z0, bind_some', if_pos rfl]
      dsimp only
      rw [f8 3 w (by omega) C z3, bind_some', if_pos rfl]
      dsimp only
      rw [f8 6 w (by omega) C z6, bind_some', if_pos rfl]
      dsimp only
      rw [t8 7 w (by omega) C z7, bind_some', if_neg one_ne]
    obtain ⟨e, _, he9, h37⟩ := hW.2.2.1.1
    by_cases he : e = 0
    · have h37' : φ 37 = 0 := by rw [h37, he]; rfl
      rcases hWb with h80 | ⟨h80, B, hB, h0⟩
      · refine ⟨.inl (6, tA tp n p), φ, fun w hH C D => ?_, fun w X => ?_, bad 6⟩
        · obtain ⟨w', a, L⟩ := no8 (H := H) (f := 6) (φ := φ) C
          have a' : f_X6_wrong 6 w = _ := a
          refine ⟨0, w', ?_, L⟩
          rw [E8 w C, f_X6_doorLine, hH, D.1.2.2.2.2.1, h37', if_pos (show (0 : Int32) ≤ 0 from by decide), D.1.1, h80, if_pos rfl, a', bind_some', bind_some']
        · obtain ⟨w1, a1, X1⟩ := bg_d (u := 24) (c := 1) (f := 3) hn (by omega) X ((tS_u (u := 24) (u' := 7) rfl).mpr z7) one_ne h80
          refine ⟨w1, ?_, X1⟩
          rw [rd3 hn X z0 z3 z6, if_pos h37', f_X9_readLine_105, a1, bind_some', if_neg one_ne]
          dsimp only
          rw [dor9e X1, bind_some']
      · refine ⟨dorR tp n B (.inr (tE tp n p)), dorF tp n B (.inr (tE tp n p)) φ, fun w hH C D => ?_, fun w X => ?_, rle_t hp hk (RLe.num (RLe.w (RLe.num (RLe.i hq)))), fun p' e => ?_⟩
        · obtain ⟨b, w', a, L⟩ := dor8 hn htp hz hp C hk hH D h37' h80 hB h0
          exact ⟨b, w', by rw [E8 w C, a, bind_some'], L⟩
        · obtain ⟨w1, a1, X1⟩ := bg_t (u := 24) (c := 1) (f := 3) (nd := 1) hn htp (by omega) X ((tS_u (u := 24) (u' := 7) rfl).mpr z7) one_ne (Or.inr (by rw [h80]; exact one_ne))
          obtain ⟨w2, a2, X2⟩ := dor9 hn htp hB h0 X1
          refine ⟨w2, ?_, X2⟩
          rw [rd3 hn X z0 z3 z6, if_pos h37', f_X9_readLine_105, a1, bind_some', if_neg one_ne]
          dsimp only
          rw [a2, bind_some']
        · unfold dorF
          rw [e]
          exact hW.door h80 hB h0 (by have := (sNv_rg tp n (lo := 0) (hi := B - 1) (by omega) (.inr (tE tp n p))).2; omega) (sNv_rg tp n (by omega) _).2
    · refine ⟨.inl (3, tA tp n p), φ, fun w hH C D => ?_, fun w X => ?_, bad 3⟩
      · obtain ⟨w', a, L⟩ := no8 (H := H) (f := 3) (φ := φ) C
        have a' : f_X6_wrong 3 w = _ := a
        refine ⟨0, w', ?_, L⟩
        rw [E8 w C, f_X6_doorLine, hH, D.1.2.2.2.2.1, h37, if_neg (fun y => he ((le0 (by omega)).mp y)), a', bind_some', bind_some']
      · obtain ⟨w1, a1, X1⟩ := bg_n (u := 24) (f := 3) (nd := 1) hn (by omega) X ((tS_u (u := 24) (u' := 7) rfl).mpr z7)
        have a1' : f_X9_begins 24 0 3 1 w = _ := a1
        refine ⟨w1, ?_, X1⟩
        rw [rd3 hn X z0 z3 z6, h37, if_neg (fun y => he ((eq0 (by omega)).mp y)), f_X9_readLine_105, a1', bind_some', if_neg one_ne]
        dsimp only
        rw [dor9e X1, bind_some']
  rcases tS_em (tp := tp) (n := n) 8 p with z8 | z8
  · -- moves
    have hk : tK tp n p ≠ 0 := by have := z8.1; omega
    have E8 : ∀ w, CT w tp n p → f_X6_line w = (f_X6_movesLine w).bind fun q43 => some (q43.1, q43.2) := fun w C => by
      rw [f_X6_line, f8 0 w (by omega) C z0, bind_some', if_pos rfl]
      dsimp only
      rw [f8 3 w (by omega) C z3, bind_some', if_pos rfl]
      dsimp only
      rw [f8 6 w (by omega) C z6, bind_some', if_pos rfl]
      dsimp only
      rw [f8 7 w (by omega) C z7, bind_some', if_pos rfl]
      dsimp only
      rw [t8 8 w (by omega) C z8, bind_some', if_neg one_ne]
    obtain ⟨e, _, he9, h38⟩ := hW.2.2.1.2.1
    by_cases he : e = 0
    · have h38' : φ 38 = 0 := by rw [h38, he]; rfl
      refine ⟨movR tp n (.inr (tE tp n p)), movF tp n (.inr (tE tp n p)) φ, fun w hH C D => ?_, fun w X => ?_, rle_t hp hk (RLe.num (RLe.w (RLe.i hq))), fun p' e => ?_⟩
      · obtain ⟨b, w', a, L⟩ := mov8 hn htp hz hp C hk hH D h38'
        exact ⟨b, w', by rw [E8 w C, a, bind_some'], L⟩
      · obtain ⟨w1, a1, X1⟩ := bg_t (u := 25) (c := 1) (f := 3) (nd := 0) hn htp (by omega) X ((tS_u (u := 25) (u' := 8) rfl).mpr z8) one_ne (Or.inl rfl)
        obtain ⟨w2, a2, X2⟩ := mov9 hn htp X1
        refine ⟨w2, ?_, X2⟩
        rw [rd4 hn X z0 z3 z6 z7, if_pos h38', f_X9_readLine_138, a1, bind_some', if_neg one_ne]
        dsimp only
        rw [a2, bind_some']
      · unfold movF
        rw [e]
        exact hW.moves (sNv_rg tp n (by omega) _).2
    · refine ⟨.inl (3, tA tp n p), φ, fun w hH C D => ?_, fun w X => ?_, bad 3⟩
      · obtain ⟨w', a, L⟩ := no8 (H := H) (f := 3) (φ := φ) C
        have a' : f_X6_wrong 3 w = _ := a
        refine ⟨0, w', ?_, L⟩
        rw [E8 w C, f_X6_movesLine, hH, D.1.2.2.2.2.2.1, h38, if_neg (fun y => he ((le0 (by omega)).mp y)), a', bind_some', bind_some']
      · obtain ⟨w1, a1, X1⟩ := bg_n (u := 25) (f := 3) (nd := 0) hn (by omega) X ((tS_u (u := 25) (u' := 8) rfl).mpr z8)
        have a1' : f_X9_begins 25 0 3 0 w = _ := a1
        obtain ⟨w2, a2, X2⟩ := mov9e hn htp X1
        refine ⟨w2, ?_, X2⟩
        rw [rd4 hn X z0 z3 z6 z7, h38, if_neg (fun y => he ((eq0 (by omega)).mp y)), f_X9_readLine_138, a1', bind_some', if_neg one_ne]
        dsimp only
        rw [a2, bind_some']
  rcases tS_em (tp := tp) (n := n) 9 p with z9 | z9
  · -- lay
    have hk : tK tp n p ≠ 0 := by have := z9.1; omega
    have E8 : ∀ w, CT w tp n p → f_X6_line w = (f_X6_layLine w).bind fun q43 => some (q43.1, q43.2) := fun w C => by
      rw [f_X6_line, f8 0 w (by omega) C z0, bind_some', if_pos rfl]
      dsimp only
      rw [f8 3 w (by omega) C z3, bind_some', if_pos rfl]
      dsimp only
      rw [f8 6 w (by omega) C z6, bind_some', if_pos rfl]
      dsimp only
      rw [f8 7 w (by omega) C z7, bind_some', if_pos rfl]
      dsimp only
      rw [f8 8 w (by omega) C z8, bind_some', if_pos rfl]
      dsimp only
      rw [t8 9 w (by omega) C z9, bind_some', if_neg one_ne]
    obtain ⟨Y, _, hY8, h39⟩ := hW.2.2.1.2.2.1
    by_cases hY : Y < 8
    · rcases hWb with h80 | ⟨h80, B, hB, h0⟩
      · refine ⟨.inl (6, tA tp n p), φ, fun w hH C D => ?_, fun w X => ?_, bad 6⟩
        · obtain ⟨w', a, L⟩ := no8 (H := H) (f := 6) (φ := φ) C
          have a' : f_X6_wrong 6 w = _ := a
          refine ⟨0, w', ?_, L⟩
          rw [E8 w C, f_X6_layLine, hH, D.1.2.2.2.2.2.2.2, h39, show (8 : Int32) = nI 8 from rfl, if_pos ((lt_nI (by omega) (by omega)).mpr (by omega)), D.1.1, h80, if_pos rfl, a', bind_some', bind_some']
        · obtain ⟨w1, a1, X1⟩ := bg_d (u := 26) (c := 1) (f := 5) hn (by omega) X ((tS_u (u := 26) (u' := 9) rfl).mpr z9) one_ne h80
          refine ⟨w1, ?_, X1⟩
          rw [rd5 hn X z0 z3 z6 z7 z8, h39, show (8 : Int32) = nI 8 from rfl, if_neg (fun q9 => absurd ((le_nI (by omega) (by omega)).mp q9) (by omega)), f_X9_readLine_173, a1, bind_some', if_neg one_ne]
          dsimp only
          rw [lay9e X1, bind_some']
      · obtain ⟨r, φ', g1, g2, g3, g4⟩ := layJ hn htp hz hp hk h80 hW hB h0 hY h39
        refine ⟨r, φ', fun w hH C D => ?_, fun w X => ?_, rle_t hp hk g3, g4⟩
        · obtain ⟨b, w', a, L⟩ := g1 w hH C D
          exact ⟨b, w', by rw [E8 w C, a, bind_some'], L⟩
        · obtain ⟨w1, a1, X1⟩ := bg_t (u := 26) (c := 1) (f := 5) (nd := 1) hn htp (by omega) X ((tS_u (u := 26) (u' := 9) rfl).mpr z9) one_ne (Or.inr (by rw [h80]; exact one_ne))
          obtain ⟨w2, a2, X2⟩ := g2 w1 X1
          refine ⟨w2, ?_, X2⟩
          rw [rd5 hn X z0 z3 z6 z7 z8, h39, show (8 : Int32) = nI 8 from rfl, if_neg (fun q9 => absurd ((le_nI (by omega) (by omega)).mp q9) (by omega)), f_X9_readLine_173, a1, bind_some', if_neg one_ne]
          dsimp only
          rw [a2, bind_some']
    · refine ⟨.inl (5, tA tp n p), φ, fun w hH C D => ?_, fun w X => ?_, bad 5⟩
      · obtain ⟨w', a, L⟩ := no8 (H := H) (f := 5) (φ := φ) C
        have a' : f_X6_wrong 5 w = _ := a
        refine ⟨0, w', ?_, L⟩
        rw [E8 w C, f_X6_layLine, hH, D.1.2.2.2.2.2.2.2, h39, show (8 : Int32) = nI 8 from rfl, if_neg (fun q9 => absurd ((lt_nI (by omega) (by omega)).mp q9) (by omega)), a', bind_some', bind_some']
      · obtain ⟨w1, a1, X1⟩ := bg_n (u := 26) (f := 5) (nd := 1) hn (by omega) X ((tS_u (u := 26) (u' := 9) rfl).mpr z9)
        have a1' : f_X9_begins 26 0 5 1 w = _ := a1
        refine ⟨w1, ?_, X1⟩
        rw [rd5 hn X z0 z3 z6 z7 z8, h39, show (8 : Int32) = nI 8 from rfl, if_pos ((le_nI (by omega) (by omega)).mpr (by omega)), f_X9_readLine_173, a1', bind_some', if_neg one_ne]
        dsimp only
        rw [lay9e X1, bind_some']
  -- no line
  refine ⟨.inl (1, tA tp n p), φ, fun w hH C D => ?_, fun w X => ?_, bad 1⟩
  · obtain ⟨w', a, L⟩ := no8 (H := H) (f := 1) (φ := φ) C
    have a' : f_X6_wrong 1 w = _ := a
    refine ⟨0, w', ?_, L⟩
    rw [f_X6_line, f8 0 w (by omega) C z0, bind_some', if_pos rfl]
    dsimp only
    rw [f8 3 w (by omega) C z3, bind_some', if_pos rfl]
    dsimp only
    rw [f8 6 w (by omega) C z6, bind_some', if_pos rfl]
    dsimp only
    rw [f8 7 w (by omega) C z7, bind_some', if_pos rfl]
    dsimp only
    rw [f8 8 w (by omega) C z8, bind_some', if_pos rfl]
    dsimp only
    rw [f8 9 w (by omega) C z9, bind_some', if_pos rfl]
    dsimp only
    rw [a', bind_some']
  · obtain ⟨a, X2⟩ := X.wrong (f := 1) (a := tA tp n p)
    have a' : f_X9_wrong 1 (nI (tA tp n p)) w = _ := a
    refine ⟨_, ?_, X2⟩
    rw [rd5 hn X z0 z3 z6 z7 z8, f_X9_readLine_173, bg_f hn (by omega) X (fun z => z9 ((tS_u (u := 26) (u' := 9) rfl).mp z)), bind_some', if_pos rfl]
    dsimp only
    rw [X.2.2.2.2.2.2.1, a', bind_some']
end LL
