/-! what a method leaves as it was: a list of the places (and slots: 0 all, j + 1 slot j) that it may write, and of the changing references -/
def md (L : List (Nat × Nat × Nat)) (k j : Nat) : Bool := L.any (fun q => decide (q.1 ≤ k) && decide (k < q.2.1) && (decide (q.2.2 = 0) || decide (q.2.2 = j + 1)))
def Sm (L : List (Nat × Nat × Nat)) (R : List Nat) (w w' : GW) : Prop := (∀ k j, md L k j = false → gI w' k j = gI w k j ∧ gL w' k j = gL w k j) ∧ ∀ r, r ∉ R → gR w' r = gR w r
def Sub (L1 L2 : List (Nat × Nat × Nat)) : Prop := ∀ k j, md L1 k j = true → md L2 k j = true
theorem md_of {L : List (Nat × Nat × Nat)} {lo hi c k j : Nat} (h : (lo, hi, c) ∈ L) (h1 : lo ≤ k) (h2 : k < hi) (h3 : c = 0 ∨ c = j + 1) : md L k j = true := by
  unfold md
  rw [List.any_eq_true]
  refine ⟨_, h, ?_⟩
  rcases h3 with h3 | h3 <;> simp [h1, h2, h3]
theorem Sub.nil {L : List (Nat × Nat × Nat)} : Sub [] L := fun k j h => by simp [md] at h
theorem Sub.cons {L L1 : List (Nat × Nat × Nat)} {lo hi c lo2 hi2 c2 : Nat} (h : (lo2, hi2, c2) ∈ L) (h1 : lo2 ≤ lo) (h2 : hi ≤ hi2) (h3 : c2 = 0 ∨ c2 = c) (hs : Sub L1 L) : Sub ((lo, hi, c) :: L1) L := by
  intro k j hq
  unfold md at hq
  rw [List.any_cons, Bool.or_eq_true] at hq
  rcases hq with hq | hq
  · simp only [Bool.and_eq_true, Bool.or_eq_true, decide_eq_true_eq] at hq
    refine md_of h (by omega) (by omega) ?_
    rcases h3 with h3 | h3
    · exact Or.inl h3
    · rw [h3]; exact hq.2
  · exact hs k j hq
theorem Sm.rf {L : List (Nat × Nat × Nat)} {R : List Nat} {w : GW} : Sm L R w w := ⟨fun _ _ _ => ⟨rfl, rfl⟩, fun _ _ => rfl⟩
theorem Sm.tr {L : List (Nat × Nat × Nat)} {R : List Nat} {a b c : GW} (h : Sm L R a b) (h2 : Sm L R b c) : Sm L R a c :=
  ⟨fun k j q => ⟨((h2.1 k j q).1).trans (h.1 k j q).1, ((h2.1 k j q).2).trans (h.1 k j q).2⟩, fun r q => (h2.2 r q).trans (h.2 r q)⟩
theorem Sm.call {L L1 : List (Nat × Nat × Nat)} {R R1 : List Nat} {a b c : GW} (h : Sm L R a b) (h2 : Sm L1 R1 b c) (hs : Sub L1 L) (hr : ∀ r ∈ R1, r ∈ R) : Sm L R a c :=
  h.tr ⟨fun k j q => h2.1 k j (by
    cases hq : md L1 k j with
    | false => rfl
    | true => rw [hs k j hq] at q; cases q), fun r q => h2.2 r (fun z => q (hr r z))⟩
theorem Sm.wI {L : List (Nat × Nat × Nat)} {R : List Nat} {a b : GW} {lo hi c9 k i : Nat} {v : Int32} (h : Sm L R a b) (hm : (lo, hi, c9) ∈ L) (h1 : lo ≤ k) (h2 : k < hi) (h3 : c9 = 0 ∨ c9 = i + 1) : Sm L R a (sI b k i v) := by
  refine h.tr ⟨fun k' j q => ⟨?_, rfl⟩, fun _ _ => rfl⟩
  show (if k' = k ∧ j = i then v else b.1 k' j) = b.1 k' j
  rw [if_neg]
  rintro ⟨rfl, rfl⟩
  rw [md_of hm h1 h2 h3] at q
  cases q
theorem Sm.wL {L : List (Nat × Nat × Nat)} {R : List Nat} {a b : GW} {lo hi c9 k i : Nat} {v : Int64} (h : Sm L R a b) (hm : (lo, hi, c9) ∈ L) (h1 : lo ≤ k) (h2 : k < hi) (h3 : c9 = 0 ∨ c9 = i + 1) : Sm L R a (sL b k i v) := by
  refine h.tr ⟨fun k' j q => ⟨rfl, ?_⟩, fun _ _ => rfl⟩
  show (if k' = k ∧ j = i then v else b.2.1 k' j) = b.2.1 k' j
  rw [if_neg]
  rintro ⟨rfl, rfl⟩
  rw [md_of hm h1 h2 h3] at q
  cases q
theorem Sm.wR {L : List (Nat × Nat × Nat)} {R : List Nat} {a b : GW} {i v : Nat} (h : Sm L R a b) (hm : i ∈ R) : Sm L R a (sR b i v) := by
  refine h.tr ⟨fun k' j q => ⟨rfl, rfl⟩, fun r q => ?_⟩
  show (if r = i then v else b.2.2 r) = b.2.2 r
  rw [if_neg]
  rintro rfl
  exact q hm
theorem bri {α : Type} {c : Prop} {ci : Decidable c} {A B : Option α} {z : α} (h : (@ite (Option α) c ci A B) = some z) : A = some z ∨ B = some z := by
  by_cases hc : c
  · rw [if_pos hc] at h; exact Or.inl h
  · rw [if_neg hc] at h; exact Or.inr h
theorem rng25 {k : Nat} (h : kd k = 25) : 74 ≤ k ∧ k < 110 := (show ∀ k, k < 150 → kd k = 25 → 74 ≤ k ∧ k < 110 from by decide +kernel) k (kd_lt h (by decide)) h
