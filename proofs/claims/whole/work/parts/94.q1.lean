/-! class and reference answer alike: chances -/
/-- class, then reference: the same answer, and the same trouble -/
def QAg {α : Type} (w : GW) (σ : HS) (f8 f9 : GW → Option (α × GW)) : Prop := ∃ v w1 w2 t, f8 w = some (v, w1) ∧ CCh w1 σ ∧ gI w1 0 12 = t ∧ f9 w1 = some (v, w2) ∧ gI w2 130 11 = t ∧ t ≠ 4
section Q1
variable {σ : HS} {w : GW}
theorem QAg.mk {α : Type} {f8 f9 : GW → Option (α × GW)} (M : MHl w σ) (v : α) (t : Int32) (h8 : ∃ w1, f8 w = some (v, w1) ∧ CCh w1 σ ∧ gI w1 0 12 = t) (k : ∀ z, f8 w = some z → KC w z.2) (h9 : ∀ w1, MHl w1 σ → ∃ w2, f9 w1 = some (v, w2) ∧ gI w2 130 11 = t) (ht : t ≠ 4 := by decide) : QAg w σ f8 f9 := by
  obtain ⟨w1, a, b, c⟩ := h8
  obtain ⟨w2, d, e⟩ := h9 w1 (M.kc (k _ a))
  exact ⟨v, w1, w2, t, a, b, c, d, e, ht⟩
theorem rf8 {α : Type} {f : Option (α × GW)} {v : α} {n : Int32} (C : CQ w σ) (h : f = some (v, sI w 0 12 n)) : ∃ w1, f = some (v, w1) ∧ CCh w1 σ ∧ gI w1 0 12 = n := ⟨_, h, C.2.2.tr C.1, gI_same _ _ _ _⟩
theorem rf9 {α : Type} {f : Option (α × GW)} {v : α} {w0 : GW} {n : Int32} (h : f = some (v, sI w0 130 11 n)) : ∃ w2, f = some (v, w2) ∧ gI w2 130 11 = n := ⟨_, h, gI_same _ _ _ _⟩
theorem RK_lt (hs : HSok σ) {r h g k N : Nat} {key : Nat → Nat} (hg1 : 1 ≤ g) (hk : k ≤ 8) (hK : ∀ z, (∃ s, s < N ∧ key s = z) ↔ RK (zE σ) r h g k z) : ∀ s, s < N → key s < 354294 := fun s hs2 => VK_lt (RK_VK hs.1 hg1 hk ((hK _).mp ⟨s, hs2, rfl⟩))
theorem q_fullest (C : CQ w σ) (M : MHl w σ) (x1 x2 x3 : Int32) {lo : Nat} (hlo : lo = 0 ∨ lo = 1) : QAg w σ (f_X8_fullest x1 x2 x3 (nI lo)) (f_X9_fullest x1 x2 x3 (nI lo)) := by
  have hs := C.1
  have hL := hs.2.1
  have K : ∀ z, f_X8_fullest x1 x2 x3 (nI lo) w = some z → KC w z.2 := fun z hz => KC.sm (fr_X8_fullest _ _ _ _ _ hz) (by decide) (by decide)
  rcases rg_em x1 0 (zP σ - 1) with ⟨p, _, hp, rfl⟩ | h1
  rotate_left
  · refine QAg.mk M (-1) 1 (rf8 C ?_) K (fun w1 M1 => ?_)
    · rw [f_X8_fullest, isP8_f C h1, bind_some', if_pos rfl]; rfl
    · rcases rg_em x3 0 9 with ⟨m, _, hm, rfl⟩ | h3
      · have e : f_X9_within (nI m) 0 9 (gd9 w1) = some (1, gd9 w1) := within9_t (lo := 0) (hi := 9) (by omega) hm (by omega)
        refine rf9 (w0 := gd9 w1) ?_
        rw [f_X9_fullest, good9, bind_some', e, bind_some', why_p hs M1.gd h1, bind_some', if_neg one_ne]; rfl
      · have e : f_X9_within x3 0 9 (gd9 w1) = some (0, gd9 w1) := within9_f (lo := 0) (hi := 9) (by omega) (by omega) h3
        refine rf9 (w0 := gd9 w1) ?_
        rw [f_X9_fullest, good9, bind_some', e, bind_some', why_p hs M1.gd h1, bind_some', if_neg one_ne]; rfl
  have hp : p < zP σ := by have := hs.2.2.1; omega
  have hq := hs.2.2.2.2.1 p
  have two_ne : ¬ (2 : Int32) = 0 := by decide
  have three_ne : ¬ (3 : Int32) = 0 := by decide
  rcases rg_em x2 0 (zL σ) with ⟨k, _, hk, rfl⟩ | h2
  rotate_left
  · refine QAg.mk M (-1) 2 (rf8 C ?_) K (fun w1 M1 => ?_)
    · rw [f_X8_fullest, isP8_t C hp, bind_some', if_neg one_ne, isC8_f C h2, bind_some', if_pos rfl]; rfl
    · rcases rg_em x3 0 9 with ⟨m, _, hm, rfl⟩ | h3
      · have e : f_X9_within (nI m) 0 9 (gd9 w1) = some (1, gd9 w1) := within9_t (lo := 0) (hi := 9) (by omega) hm (by omega)
        refine rf9 (w0 := gd9 w1) ?_
        rw [f_X9_fullest, good9, bind_some', e, bind_some', why_k hs M1.gd hp h2, bind_some', if_neg two_ne]; rfl
      · have e : f_X9_within x3 0 9 (gd9 w1) = some (0, gd9 w1) := within9_f (lo := 0) (hi := 9) (by omega) (by omega) h3
        refine rf9 (w0 := gd9 w1) ?_
        rw [f_X9_fullest, good9, bind_some', e, bind_some', why_k hs M1.gd hp h2, bind_some', if_neg two_ne]; rfl
  rcases rg_em x3 0 9 with ⟨m, _, hm, rfl⟩ | h3
  rotate_left
  · refine QAg.mk M (-1) 2 (rf8 C ?_) K (fun w1 M1 => ?_)
    · rw [f_X8_fullest, isP8_t C hp, bind_some', if_neg one_ne, isC8_t C hk, bind_some', if_neg one_ne, isF8_f h3, bind_some', if_pos rfl]; rfl
    · have e : f_X9_within x3 0 9 (gd9 w1) = some (0, gd9 w1) := within9_f (lo := 0) (hi := 9) (by omega) (by omega) h3
      refine rf9 (w0 := gd9 w1) ?_
      rw [f_X9_fullest, good9, bind_some', e, bind_some', why_o hs M1.gd hp hk, bind_some', if_neg two_ne]; rfl
  have e8 : f_X8_fullest (nI p) (nI k) (nI m) (nI lo) w = f_X8_chance (nI p) (nI k) (nI 4) (nI m) (nI 0) (nI lo) w := by
    rw [f_X8_fullest, isP8_t C hp, bind_some', if_neg one_ne, isC8_t C hk, bind_some', if_neg one_ne, isF8_t hm, bind_some', if_neg one_ne]
    show Option.bind (f_X8_chance (nI p) (nI k) 4 (nI m) 0 (nI lo) w) (fun q => some (q.1, q.2)) = f_X8_chance (nI p) (nI k) 4 (nI m) 0 (nI lo) w
    cases f_X8_chance (nI p) (nI k) 4 (nI m) 0 (nI lo) w <;> rfl
  have e9 : ∀ w1, f_X9_fullest (nI p) (nI k) (nI m) (nI lo) w1 = (f_X9_chanceWhy (nI p) (nI k) 1 (gd9 w1)).bind fun q6 => if q6.1 = 0 then (f_X9_waysOfFullest (nI m) q6.2).bind fun q9 => (f_X9_lowest q9.1 (gL q9.2 130 30) (nI lo) q9.2).bind fun q11 => some (q11.1, q11.2) else (f_X9_no q6.1 q6.2).bind fun q13 => some (q13.1.toInt64, q13.2) := by
    intro w1
    have e : f_X9_within (nI m) 0 9 (gd9 w1) = some (1, gd9 w1) := within9_t (lo := 0) (hi := 9) (by omega) hm (by omega)
    rw [f_X9_fullest, good9, bind_some', e, bind_some']
  obtain ⟨c1, c2⟩ := chance8 C (asked := 4) (x := m) (y := 0) hp hk (by omega) (by omega) (by omega) (by omega) (by omega) hlo
  by_cases hA : alS (zE σ) (zR σ p) (zG σ p) k ≤ 1000000000000000
  · obtain ⟨w1, a1, a2, a3⟩ := c1 hA
    refine QAg.mk M _ 0 ⟨w1, e8.trans a1, a2, a3⟩ K (fun w1 M1 => ?_)
    obtain ⟨w2, b1, N, key, way, b2, b3, b4, b5⟩ := (why_g hs M1.gd hp hk).1 hA
    have S := fr_X9_chanceWhy _ _ _ _ b1
    have M2 : MHl w2 σ := M1.gd.km (KM.sm S (by decide) rfl)
    obtain ⟨w3, d1⟩ := waysOfFullest (w := w2) (m := m) hs.1 M2.2.1.1 b2 (RK_lt hs hq.1.1 (by omega) b3) (by omega)
    have S2 := fr_X9_waysOfFullest _ _ d1
    rw [b4] at d1
    have hle : EL (zE σ) (zR σ p) (zH σ p) (zG σ p) k (fun x => wo (zE σ) 4 m 0 (dV x)) ≤ 320 * alS (zE σ) (zR σ p) (zG σ p) k := EL_lt hs hq.1.1 hq.1.2 (fun x _ => wo_le hs.1 (dV8 x) (by omega))
    refine ⟨w3, ?_, ?_⟩
    · rw [e9, b1, bind_some', if_pos rfl, d1, bind_some']
      dsimp only
      rw [S2.L 130 30 rfl, b5, lowest (by omega) (by omega) (alS_p hs hq.1.1 hq.1.2 k) hlo]
      rfl
    · rw [S2.I 130 11 rfl, S.I 130 11 rfl]
      exact gd9_t
  · obtain ⟨w1, a1, a2, a3⟩ := c2 hA
    refine QAg.mk M _ 3 ⟨w1, e8.trans a1, a2, a3⟩ K (fun w1 M1 => ?_)
    obtain ⟨w2, b1⟩ := (why_g hs M1.gd hp hk).2 hA
    refine rf9 (w0 := w2) ?_
    rw [e9, b1, bind_some', if_neg three_ne]; rfl
end Q1
