/-! the invariant of class and reference together -/
/-- the tape, the fault, the trouble; two halls -/
def JTx (w : GW) : Prop := (∃ T, T ≤ 900 ∧ gI w 1 3 = nI T ∧ gI w 130 2 = nI T ∧ ∀ j, j < T → gI w 2 j = gI w 131 j ∧ ∃ c, c < 256 ∧ gI w 2 j = nI c) ∧ gI w 3 3 = gI w 130 9 ∧ gI w 0 12 = gI w 130 11 ∧ (gI w 0 12 = 4 → gI w 3 4 = gI w 130 10) ∧ fxH (gR w 0) ≠ fxH (gR w 1)
def SOK (σ : HS) (d : DS) (mk : Nat) (ms : Nat → DS) : Prop := HSok σ ∧ DOK σ d ∧ mk ≤ 3 ∧ ∀ i, i < mk → DOK σ (ms i)
def CCl (w : GW) (σ : HS) (d : DS) (mk : Nat) (ms : Nat → DS) : Prop := CHl w (fxH (gR w 0)) σ ∧ CCh w σ ∧ DYc w 121 d ∧ gI w 0 11 = nI mk ∧ ∀ i, i < mk → DYc w (124 + 2 * i) (ms i)
def MMo (w : GW) (σ : HS) (d : DS) (mk : Nat) (ms : Nat → DS) : Prop := MHl w σ ∧ DYm w 135 0 d ∧ gI w 130 19 = nI mk ∧ ∀ i, i < mk → DYm w 136 (9 * i) (ms i)
def JH (w : GW) : Prop := ∃ σ d mk ms, SOK σ d mk ms ∧ CCl w σ d mk ms ∧ MMo w σ d mk ms
/-- no hall yet -/
def J0 (w : GW) : Prop := (∀ j, j = 0 ∨ j = 1 ∨ j = 2 ∨ j = 8 ∨ j = 9 → gI w (fxH (gR w 0)) j = 0) ∧ gI w 130 14 = 0 ∧ gI w 0 11 = 0 ∧ gI w 130 19 = 0 ∧ ∀ j, j < 4 → gI w 121 j = 0
def JJ (w : GW) : Prop := JTx w ∧ (JH w ∨ J0 w)
/-- a call of both: the same answer, and the invariant again -/
def ST {α : Type} (w : GW) (f8 f9 : GW → Option (α × GW)) : Prop := ∃ v w1 w2, f8 w = some (v, w1) ∧ f9 w1 = some (v, w2) ∧ JJ w2
theorem JTx.kk {w w1 w2 : GW} (T : JTx w) (K : KC w w1) (M : KM w1 w2) {t : Int32} (h1 : gI w1 0 12 = t) (h2 : gI w2 130 11 = t) (h4 : t ≠ 4) : JTx w2 := by
  obtain ⟨⟨n, a, b, c, d⟩, e, f, g, h⟩ := T
  have k : ∀ p j, (1 ≤ p ∧ p ≤ 3) ∨ p = 131 ∨ (p = 130 ∧ (j = 2 ∨ j = 9 ∨ j = 10)) → gI w2 p j = gI w p j := fun p j x => by
    rw [(M.1 p j (by omega)).1, (K.1 p j (by omega) (by omega)).1]
  have ht : gI w2 0 12 = t := by rw [(M.1 0 12 (by omega)).1]; exact h1
  refine ⟨⟨n, a, by rw [k _ _ (by omega)]; exact b, by rw [k _ _ (by omega)]; exact c, fun j hj => ?_⟩, ?_, ?_, fun q => ?_, ?_⟩
  · rw [k _ _ (by omega), k _ _ (by omega)]; exact d j hj
  · rw [k _ _ (by omega), k _ _ (by omega)]; exact e
  · rw [ht, h2]
  · rw [ht] at q; exact absurd q h4
  · rw [M.2, M.2, K.2 0 (by omega), K.2 1 (by omega)]; exact h
theorem J0.kk {w w1 w2 : GW} (H : J0 w) (K : KC w w1) (M : KM w1 w2) : J0 w2 := by
  obtain ⟨a, b, c, d, e⟩ := H
  have hz := fxH_z (gR w 0)
  refine ⟨fun j hj => ?_, ?_, ?_, ?_, fun j hj => ?_⟩
  · rw [M.2, K.2 0 (by omega), (M.1 _ j (by omega)).1, (K.1 _ j (by omega) (by omega)).1]; exact a j hj
  · rw [(M.1 130 14 (by omega)).1, (K.1 130 14 (by omega) (by omega)).1]; exact b
  · rw [(M.1 0 11 (by omega)).1, (K.1 0 11 (by omega) (by omega)).1]; exact c
  · rw [(M.1 130 19 (by omega)).1, (K.1 130 19 (by omega) (by omega)).1]; exact d
  · rw [(M.1 121 j (by omega)).1, (K.1 121 j (by omega) (by omega)).1]; exact e j hj
theorem CCh.km {w w' : GW} {σ : HS} (hs : HSok σ) (c : CCh w σ) (M : KM w w') : CCh w' σ := c.of hs (fun p j x => (M.1 p j (by omega)).1) (fun p j x y => (M.1 p j (by omega)).2) (M.2 0) (M.2 3)
theorem ST.q {α : Type} {w : GW} {σ : HS} {d : DS} {mk : Nat} {ms : Nat → DS} {f8 f9 : GW → Option (α × GW)} (T : JTx w) (S : SOK σ d mk ms) (C : CCl w σ d mk ms) (M : MMo w σ d mk ms) (Q : QAg w σ f8 f9) (k8 : ∀ z, f8 w = some z → KC w z.2) (k9 : ∀ w1 z, f9 w1 = some z → KM w1 z.2) : ST w f8 f9 := by
  obtain ⟨v, w1, w2, t, a, b, c, e, f, g⟩ := Q
  have K := k8 _ a
  have L := k9 _ _ e
  refine ⟨v, w1, w2, a, e, T.kk K L c f g, Or.inl ⟨σ, d, mk, ms, S, ⟨?_, b.km S.1 L, ?_, ?_, fun i hi => ?_⟩, ?_, ?_, ?_, fun i hi => ?_⟩⟩
  · have h1 := CHl.kc S.1 C.1 K
    rw [L.2]
    exact h1.of S.1.2.2.1.2 S.1.2.2.2.1 (fun p j x y => (L.1 p j (by omega)).1)
  · exact (C.2.2.1.of (fun j => (K.1 121 j (by omega) (by omega)).1) (fun j => (K.1 122 j (by omega) (by omega)).1)).of (fun j => (L.1 121 j (by omega)).1) (fun j => (L.1 122 j (by omega)).1)
  · rw [(L.1 0 11 (by omega)).1, (K.1 0 11 (by omega) (by omega)).1]; exact C.2.2.2.1
  · have hmk := S.2.2.1
    exact ((C.2.2.2.2 i hi).of (fun j => (K.1 _ j (by omega) (by omega)).1) (fun j => (K.1 _ j (by omega) (by omega)).1)).of (fun j => (L.1 _ j (by omega)).1) (fun j => (L.1 _ j (by omega)).1)
  · exact (M.1.kc K).km L
  · exact (M.2.1.of (fun j => (K.1 135 j (by omega) (by omega)).1)).of (fun j => (L.1 135 j (by omega)).1)
  · rw [(L.1 130 19 (by omega)).1, (K.1 130 19 (by omega) (by omega)).1]; exact M.2.2.1
  · exact ((M.2.2.2 i hi).of (fun j => (K.1 136 j (by omega) (by omega)).1)).of (fun j => (L.1 136 j (by omega)).1)
/-- with no hall a question is refused -/
theorem ST.z {α : Type} {w : GW} {f8 f9 : GW → Option (α × GW)} (T : JTx w) (H : J0 w) (v : α) (t : Int32) (h8 : ∃ w1, f8 w = some (v, w1) ∧ gI w1 0 12 = t) (k8 : ∀ z, f8 w = some z → KC w z.2) (h9 : ∀ w1, gI w1 130 14 = 0 → gI w1 130 19 = 0 → ∃ w2, f9 w1 = some (v, w2) ∧ gI w2 130 11 = t) (k9 : ∀ w1 z, f9 w1 = some z → KM w1 z.2) (ht : t ≠ 4 := by decide) : ST w f8 f9 := by
  obtain ⟨w1, a, b⟩ := h8
  have K := k8 _ a
  obtain ⟨w2, c, e⟩ := h9 w1 (by rw [(K.1 130 14 (by omega) (by omega)).1]; exact H.2.1) (by rw [(K.1 130 19 (by omega) (by omega)).1]; exact H.2.2.2.1)
  have L := k9 _ _ c
  exact ⟨v, w1, w2, a, c, T.kk K L b e ht, Or.inr (H.kk K L)⟩
section Z0
variable {w : GW}
theorem zP8 (H : J0 w) (x : Int32) : f_X8_isPorter x w = some (0, w) := by
  rw [f_X8_isPorter]
  by_cases z : x < 0
  · rw [if_pos z]
  · rw [if_neg z, H.1 8 (by omega), if_pos (nlt_le.mp z)]
theorem zB8 (H : J0 w) (x : Int32) : f_X8_isBox x w = some (0, w) := by
  rw [f_X8_isBox]
  by_cases z : x < 0
  · rw [if_pos z]
  · rw [if_neg z, H.1 1 (by omega), if_pos (nlt_le.mp z)]
theorem zP9 (h : gI w 130 14 = 0) (x : Int32) : f_X9_isPorter x w = some (0, w) := by rw [f_X9_isPorter, h, if_pos rfl]
theorem zB9 (h : gI w 130 14 = 0) (x : Int32) : f_X9_isBox x w = some (0, w) := by rw [f_X9_isBox, h, if_pos rfl]
theorem zW9 (h : gI w 130 14 = 0) (x y o : Int32) : f_X9_chanceWhy x y o w = some (1, w) := by rw [f_X9_chanceWhy, zP9 h, bind_some', if_pos rfl]
theorem zf8 {α : Type} {f : Option (α × GW)} {v : α} {n : Int32} (h : f = some (v, sI w 0 12 n)) : ∃ w1, f = some (v, w1) ∧ gI w1 0 12 = n := ⟨_, h, gI_same _ _ _ _⟩
theorem within9_any (x a b : Int32) : ∃ r, f_X9_within x a b w = some (r, w) := by
  rw [f_X9_within]
  by_cases z : x < a
  · exact ⟨0, by rw [if_pos z]⟩
  · by_cases y : b < x
    · exact ⟨0, by rw [if_neg z, if_pos y]⟩
    · exact ⟨1, by rw [if_neg z, if_neg y]⟩
theorem isC8_any (x : Int32) : ∃ r, f_X8_isCount x w = some (r, w) := by
  rw [f_X8_isCount]
  by_cases z : x < 0
  · exact ⟨0, by rw [if_pos z]⟩
  · by_cases y : gI w (fxH (gR w 0)) 2 < x
    · exact ⟨0, by rw [if_neg z, if_pos y]⟩
    · exact ⟨1, by rw [if_neg z, if_neg y]⟩
theorem isF8_any (x : Int32) : ∃ r, f_X8_isFullest x w = some (r, w) := by
  rw [f_X8_isFullest]
  by_cases z : x < 0
  · exact ⟨0, by rw [if_pos z]⟩
  · by_cases y : 9 < x
    · exact ⟨0, by rw [if_neg z, if_pos y]⟩
    · exact ⟨1, by rw [if_neg z, if_neg y]⟩
end Z0
