/-! class and reference answer alike: chances of other things -/
theorem rg_ite {β : Type} {x lo' hi' : Int32} {lo hi : Nat} {X Y : β} (h : ¬ rg x lo hi) (h1 : lo' = nI lo) (h2 : hi' = nI hi) (hl : lo < 2147483648) (hh : hi < 2147483648) : (if x < lo' then X else if x ≤ hi' then Y else X) = X := by
  subst h1 h2
  rcases rg_no hl hh h with q | q
  · rw [if_pos q]
  · by_cases z : x < nI lo
    · rw [if_pos z]
    · rw [if_neg z, if_neg (fun y => by rw [fa_lt] at q; rw [fa_le] at y; omega)]
theorem rg_itt {β : Type} {n lo hi : Nat} {lo' hi' : Int32} {X Y : β} (a : lo ≤ n) (b : n ≤ hi) (h1 : lo' = nI lo) (h2 : hi' = nI hi) (hh : hi < 2147483648) : (if nI n < lo' then X else if nI n ≤ hi' then Y else X) = Y := by
  subst h1 h2
  rw [if_neg (rg_y1 a (by omega)), if_pos ((le_nI (by omega) hh).mpr b)]
theorem rg_its {β : Type} {x lo' hi' : Int32} {lo hi : Nat} {X Y : β} (h : ¬ rg x lo (hi - 1)) (h1 : lo' = nI lo) (h2 : hi' = nI hi) (h0 : lo < hi) (hh : hi < 2147483648) : (if x < lo' then X else if x < hi' then Y else X) = X := by
  subst h1 h2
  rcases rg_no (by omega) (by omega) h with q | q
  · rw [if_pos q]
  · rw [lt_ss (by omega), show hi - 1 + 1 = hi by omega] at q
    by_cases z : x < nI lo
    · rw [if_pos z]
    · rw [if_neg z, if_neg (fun y => by rw [fa_lt] at y; rw [fa_le] at q; omega)]
theorem rg_itst {β : Type} {n lo hi : Nat} {lo' hi' : Int32} {X Y : β} (a : lo ≤ n) (b : n < hi) (h1 : lo' = nI lo) (h2 : hi' = nI hi) (hh : hi < 2147483648) : (if nI n < lo' then X else if nI n < hi' then Y else X) = Y := by
  subst h1 h2
  rw [if_neg (rg_y1 a (by omega)), if_pos ((lt_nI (by omega) hh).mpr b)]
theorem two_ne : ¬ (2 : Int32) = 0 := by decide
theorem three_ne : ¬ (3 : Int32) = 0 := by decide
theorem bindP {α : Type} (o : Option (α × GW)) : (o.bind fun q => some (q.1, q.2)) = o := by cases o <;> rfl
section Q2
variable {σ : HS} {w : GW}
theorem q_empty (C : CQ w σ) (M : MHl w σ) (x1 x2 x3 : Int32) {lo : Nat} (hlo : lo = 0 ∨ lo = 1) : QAg w σ (f_X8_empty x1 x2 x3 (nI lo)) (f_X9_empty x1 x2 x3 (nI lo)) := by
  have hs := C.1
  have hL := hs.2.1
  have K : ∀ z, f_X8_empty x1 x2 x3 (nI lo) w = some z → KC w z.2 := fun z hz => KC.sm (fr_X8_empty _ _ _ _ _ hz) (by decide) (by decide)
  rcases rg_em x1 0 (zP σ - 1) with ⟨p, _, hp, rfl⟩ | h1
  rotate_left
  · refine QAg.mk M (-1) 1 (rf8 C ?_) K (fun w1 M1 => ?_)
    · rw [f_X8_empty, isP8_f C h1, bind_some', if_pos rfl]; rfl
    · rcases rg_em x3 0 5 with ⟨m, _, hm, rfl⟩ | h3
      · refine rf9 (w0 := gd9 w1) ?_
        rw [f_X9_empty, good9, bind_some', w9t (lo := 0) (hi := 5) (by omega) hm (by rfl) (by rfl) (by omega), bind_some', why_p hs M1.gd h1, bind_some', if_neg one_ne]; rfl
      · refine rf9 (w0 := gd9 w1) ?_
        rw [f_X9_empty, good9, bind_some', w9f h3 (by rfl) (by rfl) (by omega) (by omega), bind_some', why_p hs M1.gd h1, bind_some', if_neg one_ne]; rfl
  have hp : p < zP σ := by have := hs.2.2.1; omega
  have hq := hs.2.2.2.2.1 p
  rcases rg_em x2 0 (zL σ) with ⟨k, _, hk, rfl⟩ | h2
  rotate_left
  · refine QAg.mk M (-1) 2 (rf8 C ?_) K (fun w1 M1 => ?_)
    · rw [f_X8_empty, isP8_t C hp, bind_some', if_neg one_ne, isC8_f C h2, bind_some', if_pos rfl]; rfl
    · rcases rg_em x3 0 5 with ⟨m, _, hm, rfl⟩ | h3
      · refine rf9 (w0 := gd9 w1) ?_
        rw [f_X9_empty, good9, bind_some', w9t (lo := 0) (hi := 5) (by omega) hm (by rfl) (by rfl) (by omega), bind_some', why_k hs M1.gd hp h2, bind_some', if_neg two_ne]; rfl
      · refine rf9 (w0 := gd9 w1) ?_
        rw [f_X9_empty, good9, bind_some', w9f h3 (by rfl) (by rfl) (by omega) (by omega), bind_some', why_k hs M1.gd hp h2, bind_some', if_neg two_ne]; rfl
  rcases rg_em x3 0 5 with ⟨m, _, hm, rfl⟩ | h3
  rotate_left
  · refine QAg.mk M (-1) 2 (rf8 C ?_) K (fun w1 M1 => ?_)
    · rw [f_X8_empty, isP8_t C hp, bind_some', if_neg one_ne, isC8_t C hk, bind_some', if_neg one_ne]
      dsimp only
      rw [rg_ite h3 (by rfl) (by rfl) (by omega) (by omega)]; rfl
    · refine rf9 (w0 := gd9 w1) ?_
      rw [f_X9_empty, good9, bind_some', w9f h3 (by rfl) (by rfl) (by omega) (by omega), bind_some', why_o hs M1.gd hp hk, bind_some', if_neg two_ne]; rfl
  have e8 : f_X8_empty (nI p) (nI k) (nI m) (nI lo) w = f_X8_chance (nI p) (nI k) (nI 5) (nI m) (nI 0) (nI lo) w := by
    rw [f_X8_empty, isP8_t C hp, bind_some', if_neg one_ne, isC8_t C hk, bind_some', if_neg one_ne]
    dsimp only
    rw [rg_itt (lo := 0) (hi := 5) (by omega) hm (by rfl) (by rfl) (by omega)]
    exact bindP (f_X8_chance (nI p) (nI k) 5 (nI m) 0 (nI lo) w)
  have e9 : ∀ w1, f_X9_empty (nI p) (nI k) (nI m) (nI lo) w1 = (f_X9_chanceWhy (nI p) (nI k) 1 (gd9 w1)).bind fun q6 => if q6.1 = 0 then f_X9_empty_37 fu (nI m) (nI lo) 0 0 q6.2 else (f_X9_no q6.1 q6.2).bind fun q13 => some (q13.1.toInt64, q13.2) := by
    intro w1
    rw [f_X9_empty, good9, bind_some', w9t (lo := 0) (hi := 5) (by omega) hm (by rfl) (by rfl) (by omega), bind_some']
  obtain ⟨c1, c2⟩ := chance8 C (asked := 5) (x := m) (y := 0) hp hk (by omega) (by omega) (by omega) (by omega) (by omega) hlo
  by_cases hA : alS (zE σ) (zR σ p) (zG σ p) k ≤ 1000000000000000
  · obtain ⟨w1, a1, a2, a3⟩ := c1 hA
    refine QAg.mk M _ 0 ⟨w1, e8.trans a1, a2, a3⟩ K (fun w1 M1 => ?_)
    obtain ⟨w2, b1, N, key, way, b2, b3, b4, b5⟩ := (why_g hs M1.gd hp hk).1 hA
    have S := fr_X9_chanceWhy _ _ _ _ b1
    have M2 : MHl w2 σ := M1.gd.km (KM.sm S (by decide) rfl)
    have hle : EL (zE σ) (zR σ p) (zH σ p) (zG σ p) k (fun x => wo (zE σ) 5 m 0 (dV x)) ≤ 320 * alS (zE σ) (zR σ p) (zG σ p) k := EL_lt hs hq.1.1 hq.1.2 (fun x _ => wo_le hs.1 (dV8 x) (by omega))
    obtain ⟨w3, d1, d2⟩ := empty9_loop (w := w2) (m := m) (lo := lo) hs.1 M2.2.1.1 b2 (RK_lt hs hq.1.1 (by omega) b3) (by omega) hlo b5 (alS_p hs hq.1.1 hq.1.2 k) (by omega) (by rw [b4]; omega)
    rw [b4] at d1
    refine ⟨w3, ?_, ?_⟩
    · rw [e9, b1, bind_some', if_pos rfl]
      exact d1
    · rw [d2, S.I 130 11 rfl]
      exact gd9_t
  · obtain ⟨w1, a1, a2, a3⟩ := c2 hA
    refine QAg.mk M _ 3 ⟨w1, e8.trans a1, a2, a3⟩ K (fun w1 M1 => ?_)
    obtain ⟨w2, b1⟩ := (why_g hs M1.gd hp hk).2 hA
    refine rf9 (w0 := w2) ?_
    rw [e9, b1, bind_some', if_neg three_ne]; rfl
/-- behind any letters: what is held, and nothing beyond the boxes -/
theorem RK_all (hs : HSok σ) {r h g k : Nat} (hg1 : 1 ≤ g) (hk : k ≤ 8) {x : Nat} (hx : RK (zE σ) r h g k x) : sm (pB (zE σ)) (dV x) = min k (sm (pB (zE σ)) (pR (zE σ))) ∧ ZB (pB (zE σ)) (dV x) := by
  by_cases q : k ≤ sm (pB (zE σ)) (pR (zE σ))
  · obtain ⟨_, b, c, _⟩ := RK_more hs.1 hg1 k hk q x hx
    exact ⟨by rw [b]; omega, c⟩
  · have e : sm (pB (zE σ)) (pR (zE σ)) + (k - sm (pB (zE σ)) (pR (zE σ))) = k := by omega
    obtain ⟨_, b⟩ := RK_full hs.1 hg1 (k - sm (pB (zE σ)) (pR (zE σ))) (by omega) x (by rw [e]; exact hx)
    refine ⟨?_, fun c hc => ?_⟩
    · rw [b, Nat.min_eq_right (by omega)]
      exact sm_c (fun c hc => if_pos hc)
    · rw [b]
      exact if_neg (by omega)
theorem RK_sm (hs : HSok σ) {r h g k : Nat} (hg1 : 1 ≤ g) (hk : k ≤ 8) {x : Nat} (hx : RK (zE σ) r h g k x) : sm (pB (zE σ)) (dV x) ≤ k := by
  rw [(RK_all hs hg1 hk hx).1]
  omega
theorem wo9_wo (hs : HSok σ) {r h g k m : Nat} (hg1 : 1 ≤ g) (hk : k ≤ 8) (hm : m ≤ 3) {x : Nat} (hx : RK (zE σ) r h g k x) : wo9 (zE σ) k m (dV x) = wo (zE σ) m k 0 (dV x) := by
  have e := (RK_all hs hg1 hk hx).1
  unfold wo9 wo
  by_cases h0 : m = 0
  · rw [if_pos h0, if_pos h0]
  · rw [if_neg h0, if_neg h0]
    by_cases h1 : m = 1
    · rw [if_pos h1, if_pos h1]
    · rw [if_neg h1, if_neg h1]
      by_cases h2 : m = 2
      · rw [if_pos h2, if_pos h2, e]
        omega
      · rw [if_neg h2, if_neg h2, if_pos (by omega)]
theorem q_mean (C : CQ w σ) (M : MHl w σ) (x1 x2 x3 : Int32) {lo : Nat} (hlo : lo = 0 ∨ lo = 1) : QAg w σ (f_X8_mean x1 x2 x3 (nI lo)) (f_X9_mean x1 x2 x3 (nI lo)) := by
  have hs := C.1
  have hL := hs.2.1
  have K : ∀ z, f_X8_mean x1 x2 x3 (nI lo) w = some z → KC w z.2 := fun z hz => KC.sm (fr_X8_mean _ _ _ _ _ hz) (by decide) (by decide)
  rcases rg_em x1 0 (zP σ - 1) with ⟨p, _, hp, rfl⟩ | h1
  rotate_left
  · refine QAg.mk M (-1) 1 (rf8 C ?_) K (fun w1 M1 => ?_)
    · rw [f_X8_mean, isP8_f C h1, bind_some', if_pos rfl]; rfl
    · refine rf9 (w0 := gd9 w1) ?_
      rw [f_X9_mean, good9, bind_some', isP9_f hs M1.gd h1, bind_some', if_pos rfl]; rfl
  have hp : p < zP σ := by have := hs.2.2.1; omega
  have hq := hs.2.2.2.2.1 p
  rcases rg_em x3 0 3 with ⟨m, _, hm, rfl⟩ | h3
  rotate_left
  · refine QAg.mk M (-1) 1 (rf8 C ?_) K (fun w1 M1 => ?_)
    · rw [f_X8_mean, isP8_t C hp, bind_some', if_neg one_ne]
      dsimp only
      rw [rg_ite h3 (by rfl) (by rfl) (by omega) (by omega)]; rfl
    · refine rf9 (w0 := gd9 w1) ?_
      rw [f_X9_mean, good9, bind_some', isP9_t hs M1.gd hp, bind_some', if_neg one_ne, w9f h3 (by rfl) (by rfl) (by omega) (by omega), bind_some', if_pos rfl]; rfl
  rcases rg_em x2 0 (zL σ) with ⟨k, _, hk, rfl⟩ | h2
  rotate_left
  · refine QAg.mk M (-1) 2 (rf8 C ?_) K (fun w1 M1 => ?_)
    · rw [f_X8_mean, isP8_t C hp, bind_some', if_neg one_ne]
      dsimp only
      rw [rg_itt (lo := 0) (hi := 3) (by omega) hm (by rfl) (by rfl) (by omega), isC8_f C h2, bind_some', if_pos rfl]; rfl
    · refine rf9 (w0 := gd9 w1) ?_
      rw [f_X9_mean, good9, bind_some', isP9_t hs M1.gd hp, bind_some', if_neg one_ne, w9t (lo := 0) (hi := 3) (by omega) hm (by rfl) (by rfl) (by omega), bind_some', if_neg one_ne, why_k hs M1.gd hp h2, bind_some', if_neg two_ne]; rfl
  have e8 : f_X8_mean (nI p) (nI k) (nI m) (nI lo) w = f_X8_chance (nI p) (nI k) (nI m) (nI k) (nI 0) (nI lo) w := by
    rw [f_X8_mean, isP8_t C hp, bind_some', if_neg one_ne]
    dsimp only
    rw [rg_itt (lo := 0) (hi := 3) (by omega) hm (by rfl) (by rfl) (by omega), isC8_t C hk, bind_some', if_neg one_ne]
    exact bindP (f_X8_chance (nI p) (nI k) (nI m) (nI k) 0 (nI lo) w)
  have e9 : ∀ w1, MHl w1 σ → f_X9_mean (nI p) (nI k) (nI m) (nI lo) w1 = (f_X9_chanceWhy (nI p) (nI k) 1 (gd9 w1)).bind fun q6 => if q6.1 = 0 then f_X9_mean_56 fu (nI k) (nI m) (nI lo) 0 0 q6.2 else (f_X9_no q6.1 q6.2).bind fun q13 => some (q13.1.toInt64, q13.2) := by
    intro w1 M1
    rw [f_X9_mean, good9, bind_some', isP9_t hs M1.gd hp, bind_some', if_neg one_ne, w9t (lo := 0) (hi := 3) (by omega) hm (by rfl) (by rfl) (by omega), bind_some', if_neg one_ne]
  obtain ⟨c1, c2⟩ := chance8 C (asked := m) (x := k) (y := 0) hp hk (by omega) (by omega) (by omega) (by omega) (by omega) hlo
  by_cases hA : alS (zE σ) (zR σ p) (zG σ p) k ≤ 1000000000000000
  · obtain ⟨w1, a1, a2, a3⟩ := c1 hA
    refine QAg.mk M _ 0 ⟨w1, e8.trans a1, a2, a3⟩ K (fun w1 M1 => ?_)
    obtain ⟨w2, b1, N, key, way, b2, b3, b4, b5⟩ := (why_g hs M1.gd hp hk).1 hA
    have S := fr_X9_chanceWhy _ _ _ _ b1
    have M2 : MHl w2 σ := M1.gd.km (KM.sm S (by decide) rfl)
    have hle : EL (zE σ) (zR σ p) (zH σ p) (zG σ p) k (fun x => wo (zE σ) m k 0 (dV x)) ≤ 320 * alS (zE σ) (zR σ p) (zG σ p) k := EL_lt hs hq.1.1 hq.1.2 (fun x _ => wo_le hs.1 (dV8 x) (by omega))
    have hE : tot N key way (fun x => wo9 (zE σ) k m (dV x)) = EL (zE σ) (zR σ p) (zH σ p) (zG σ p) k (fun x => wo (zE σ) m k 0 (dV x)) := by
      rw [b4]
      exact EL_c _ _ _ (fun x hx => wo9_wo hs hq.1.1 (by omega) hm hx)
    obtain ⟨w3, d1, d2⟩ := mean9_loop (w := w2) (k := k) (what := m) (lo := lo) hs.1 M2.2.1.1 b2 (RK_lt hs hq.1.1 (by omega) b3) hm (by omega) (fun _ s hs2 => RK_sm hs hq.1.1 (by omega) ((b3 _).mp ⟨s, hs2, rfl⟩)) hlo b5 (alS_p hs hq.1.1 hq.1.2 k) (by omega) (by rw [hE]; omega)
    rw [hE] at d1
    refine ⟨w3, ?_, ?_⟩
    · rw [e9 w1 M1, b1, bind_some', if_pos rfl]
      exact d1
    · rw [d2, S.I 130 11 rfl]
      exact gd9_t
  · obtain ⟨w1, a1, a2, a3⟩ := c2 hA
    refine QAg.mk M _ 3 ⟨w1, e8.trans a1, a2, a3⟩ K (fun w1 M1 => ?_)
    obtain ⟨w2, b1⟩ := (why_g hs M1.gd hp hk).2 hA
    refine rf9 (w0 := w2) ?_
    rw [e9 w1 M1, b1, bind_some', if_neg three_ne]; rfl
theorem q_holds (C : CQ w σ) (M : MHl w σ) (x1 x2 x3 x4 : Int32) {lo : Nat} (hlo : lo = 0 ∨ lo = 1) : QAg w σ (f_X8_holds x1 x2 x3 x4 (nI lo)) (f_X9_holds x1 x2 x3 x4 (nI lo)) := by
  have hs := C.1
  have hL := hs.2.1
  have K : ∀ z, f_X8_holds x1 x2 x3 x4 (nI lo) w = some z → KC w z.2 := fun z hz => KC.sm (fr_X8_holds _ _ _ _ _ _ hz) (by decide) (by decide)
  rcases rg_em x1 0 (zP σ - 1) with ⟨p, _, hp, rfl⟩ | h1
  rotate_left
  · refine QAg.mk M (-1) 1 (rf8 C ?_) K (fun w1 M1 => ?_)
    · rw [f_X8_holds, isP8_f C h1, bind_some', if_pos rfl]; rfl
    · refine rf9 (w0 := gd9 w1) ?_
      rw [f_X9_holds, good9, bind_some', isP9_f hs M1.gd h1, bind_some', if_pos rfl]; rfl
  have hp : p < zP σ := by have := hs.2.2.1; omega
  have hq := hs.2.2.2.2.1 p
  have hB := hs.1.1
  have hB5 := hs.1.2.1
  rcases rg_em x3 0 (pB (zE σ) - 1) with ⟨b, _, hb, rfl⟩ | h3
  rotate_left
  · refine QAg.mk M (-1) 1 (rf8 C ?_) K (fun w1 M1 => ?_)
    · rw [f_X8_holds, isP8_t C hp, bind_some', if_neg one_ne, isB8_f C h3, bind_some', if_pos rfl]; rfl
    · refine rf9 (w0 := gd9 w1) ?_
      rw [f_X9_holds, good9, bind_some', isP9_t hs M1.gd hp, bind_some', if_neg one_ne, isB9_f hs M1.gd h3, bind_some', if_pos rfl]; rfl
  have hb : b < pB (zE σ) := by omega
  rcases rg_em x2 0 (zL σ) with ⟨k, _, hk, rfl⟩ | h2
  rotate_left
  · refine QAg.mk M (-1) 2 (rf8 C ?_) K (fun w1 M1 => ?_)
    · rw [f_X8_holds, isP8_t C hp, bind_some', if_neg one_ne, isB8_t C hb, bind_some', if_neg one_ne, isC8_f C h2, bind_some', if_pos rfl]; rfl
    · rcases rg_em x4 0 8 with ⟨m, _, hm, rfl⟩ | h4
      · refine rf9 (w0 := gd9 w1) ?_
        rw [f_X9_holds, good9, bind_some', isP9_t hs M1.gd hp, bind_some', if_neg one_ne, isB9_t hs M1.gd hb, bind_some', if_neg one_ne, w9t (lo := 0) (hi := 8) (by omega) hm (by rfl) (by rfl) (by omega), bind_some', why_k hs M1.gd hp h2, bind_some', if_neg two_ne]; rfl
      · refine rf9 (w0 := gd9 w1) ?_
        rw [f_X9_holds, good9, bind_some', isP9_t hs M1.gd hp, bind_some', if_neg one_ne, isB9_t hs M1.gd hb, bind_some', if_neg one_ne, w9f h4 (by rfl) (by rfl) (by omega) (by omega), bind_some', why_k hs M1.gd hp h2, bind_some', if_neg two_ne]; rfl
  rcases rg_em x4 0 8 with ⟨m, _, hm, rfl⟩ | h4
  rotate_left
  · refine QAg.mk M (-1) 2 (rf8 C ?_) K (fun w1 M1 => ?_)
    · rw [f_X8_holds, isP8_t C hp, bind_some', if_neg one_ne, isB8_t C hb, bind_some', if_neg one_ne, isC8_t C hk, bind_some', if_neg one_ne]
      dsimp only
      rw [rg_ite h4 (by rfl) (by rfl) (by omega) (by omega)]; rfl
    · refine rf9 (w0 := gd9 w1) ?_
      rw [f_X9_holds, good9, bind_some', isP9_t hs M1.gd hp, bind_some', if_neg one_ne, isB9_t hs M1.gd hb, bind_some', if_neg one_ne, w9f h4 (by rfl) (by rfl) (by omega) (by omega), bind_some', why_o hs M1.gd hp hk, bind_some', if_neg two_ne]; rfl
  have e8 : f_X8_holds (nI p) (nI k) (nI b) (nI m) (nI lo) w = f_X8_chance (nI p) (nI k) (nI 6) (nI b) (nI m) (nI lo) w := by
    rw [f_X8_holds, isP8_t C hp, bind_some', if_neg one_ne, isB8_t C hb, bind_some', if_neg one_ne, isC8_t C hk, bind_some', if_neg one_ne]
    dsimp only
    rw [rg_itt (lo := 0) (hi := 8) (by omega) hm (by rfl) (by rfl) (by omega)]
    exact bindP (f_X8_chance (nI p) (nI k) 6 (nI b) (nI m) (nI lo) w)
  have e9 : ∀ w1, MHl w1 σ → f_X9_holds (nI p) (nI k) (nI b) (nI m) (nI lo) w1 = (f_X9_chanceWhy (nI p) (nI k) 1 (gd9 w1)).bind fun q6 => if q6.1 = 0 then f_X9_holds_62 fu (nI b) (nI m) (nI lo) 0 0 q6.2 else (f_X9_no q6.1 q6.2).bind fun q13 => some (q13.1.toInt64, q13.2) := by
    intro w1 M1
    rw [f_X9_holds, good9, bind_some', isP9_t hs M1.gd hp, bind_some', if_neg one_ne, isB9_t hs M1.gd hb, bind_some', if_neg one_ne, w9t (lo := 0) (hi := 8) (by omega) hm (by rfl) (by rfl) (by omega), bind_some']
  obtain ⟨c1, c2⟩ := chance8 C (asked := 6) (x := b) (y := m) hp hk (by omega) (by omega) (by omega) (by omega) (by omega) hlo
  by_cases hA : alS (zE σ) (zR σ p) (zG σ p) k ≤ 1000000000000000
  · obtain ⟨w1, a1, a2, a3⟩ := c1 hA
    refine QAg.mk M _ 0 ⟨w1, e8.trans a1, a2, a3⟩ K (fun w1 M1 => ?_)
    obtain ⟨w2, b1, N, key, way, b2, b3, b4, b5⟩ := (why_g hs M1.gd hp hk).1 hA
    have S := fr_X9_chanceWhy _ _ _ _ b1
    have M2 : MHl w2 σ := M1.gd.km (KM.sm S (by decide) rfl)
    have hle : EL (zE σ) (zR σ p) (zH σ p) (zG σ p) k (fun x => wo (zE σ) 6 b m (dV x)) ≤ 320 * alS (zE σ) (zR σ p) (zG σ p) k := EL_lt hs hq.1.1 hq.1.2 (fun x _ => wo_le hs.1 (dV8 x) (by omega))
    obtain ⟨w3, d1, d2⟩ := holds9_loop (w := w2) (b := b) (c := m) (lo := lo) hs.1 M2.2.1.1 b2 (RK_lt hs hq.1.1 (by omega) b3) (by omega) (by omega) hlo b5 (alS_p hs hq.1.1 hq.1.2 k) (by omega) (by rw [b4]; omega)
    rw [b4] at d1
    refine ⟨w3, ?_, ?_⟩
    · rw [e9 w1 M1, b1, bind_some', if_pos rfl]
      exact d1
    · rw [d2, S.I 130 11 rfl]
      exact gd9_t
  · obtain ⟨w1, a1, a2, a3⟩ := c2 hA
    refine QAg.mk M _ 3 ⟨w1, e8.trans a1, a2, a3⟩ K (fun w1 M1 => ?_)
    obtain ⟨w2, b1⟩ := (why_g hs M1.gd hp hk).2 hA
    refine rf9 (w0 := w2) ?_
    rw [e9 w1 M1, b1, bind_some', if_neg three_ne]; rfl
end Q2
