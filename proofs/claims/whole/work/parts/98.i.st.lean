/-! questions: class and reference alike, and the invariant stays -/
theorem s_fullest {w : GW} (H : JJ w) (x1 : Int32) (x2 : Int32) (x3 : Int32) {lo : Nat} (hlo : lo = 0 ∨ lo = 1) : ST w (f_X8_fullest x1 x2 x3 (nI lo)) (f_X9_fullest x1 x2 x3 (nI lo)) := by
  have k8 : ∀ z, f_X8_fullest x1 x2 x3 (nI lo) w = some z → KC w z.2 := fun z hz => KC.sm (fr_X8_fullest _ _ _ _ _ hz) (by decide) (by decide)
  have k9 : ∀ w1 z, f_X9_fullest x1 x2 x3 (nI lo) w1 = some z → KM w1 z.2 := fun w1 z hz => KM.sm (fr_X9_fullest _ _ _ _ _ hz) (by decide) rfl
  obtain ⟨T, ⟨σ, d, mk, ms, S, C, M⟩ | H⟩ := H
  · exact ST.q T S C M (q_fullest (σ := σ) ⟨S.1, C.1, C.2.1⟩ M.1 x1 x2 x3 hlo) k8 k9
  · refine ST.z T H (-1) 1 ?_ k8 (fun w1 h h2 => ?_) k9
    · exact zf8 (by rw [f_X8_fullest, zP8 H, bind_some', if_pos rfl]; rfl)
    · obtain ⟨r, e⟩ := within9_any (w := gd9 w1) x3 0 9
      exact rf9 (w0 := gd9 w1) (by rw [f_X9_fullest, good9, bind_some', e, bind_some', zW9 (show gI (gd9 w1) 130 14 = 0 from h), bind_some', if_neg one_ne]; rfl)
theorem s_empty {w : GW} (H : JJ w) (x1 : Int32) (x2 : Int32) (x3 : Int32) {lo : Nat} (hlo : lo = 0 ∨ lo = 1) : ST w (f_X8_empty x1 x2 x3 (nI lo)) (f_X9_empty x1 x2 x3 (nI lo)) := by
  have k8 : ∀ z, f_X8_empty x1 x2 x3 (nI lo) w = some z → KC w z.2 := fun z hz => KC.sm (fr_X8_empty _ _ _ _ _ hz) (by decide) (by decide)
  have k9 : ∀ w1 z, f_X9_empty x1 x2 x3 (nI lo) w1 = some z → KM w1 z.2 := fun w1 z hz => KM.sm (fr_X9_empty _ _ _ _ _ hz) (by decide) rfl
  obtain ⟨T, ⟨σ, d, mk, ms, S, C, M⟩ | H⟩ := H
  · exact ST.q T S C M (q_empty (σ := σ) ⟨S.1, C.1, C.2.1⟩ M.1 x1 x2 x3 hlo) k8 k9
  · refine ST.z T H (-1) 1 ?_ k8 (fun w1 h h2 => ?_) k9
    · exact zf8 (by rw [f_X8_empty, zP8 H, bind_some', if_pos rfl]; rfl)
    · obtain ⟨r, e⟩ := within9_any (w := gd9 w1) x3 0 5
      exact rf9 (w0 := gd9 w1) (by rw [f_X9_empty, good9, bind_some', e, bind_some', zW9 (show gI (gd9 w1) 130 14 = 0 from h), bind_some', if_neg one_ne]; rfl)
theorem s_holds {w : GW} (H : JJ w) (x1 : Int32) (x2 : Int32) (x3 : Int32) (x4 : Int32) {lo : Nat} (hlo : lo = 0 ∨ lo = 1) : ST w (f_X8_holds x1 x2 x3 x4 (nI lo)) (f_X9_holds x1 x2 x3 x4 (nI lo)) := by
  have k8 : ∀ z, f_X8_holds x1 x2 x3 x4 (nI lo) w = some z → KC w z.2 := fun z hz => KC.sm (fr_X8_holds _ _ _ _ _ _ hz) (by decide) (by decide)
  have k9 : ∀ w1 z, f_X9_holds x1 x2 x3 x4 (nI lo) w1 = some z → KM w1 z.2 := fun w1 z hz => KM.sm (fr_X9_holds _ _ _ _ _ _ hz) (by decide) rfl
  obtain ⟨T, ⟨σ, d, mk, ms, S, C, M⟩ | H⟩ := H
  · exact ST.q T S C M (q_holds (σ := σ) ⟨S.1, C.1, C.2.1⟩ M.1 x1 x2 x3 x4 hlo) k8 k9
  · refine ST.z T H (-1) 1 ?_ k8 (fun w1 h h2 => ?_) k9
    · exact zf8 (by rw [f_X8_holds, zP8 H, bind_some', if_pos rfl]; rfl)
    · exact rf9 (w0 := gd9 w1) (by rw [f_X9_holds, good9, bind_some', zP9 (show gI (gd9 w1) 130 14 = 0 from h), bind_some', if_pos rfl]; rfl)
theorem s_mean {w : GW} (H : JJ w) (x1 : Int32) (x2 : Int32) (x3 : Int32) {lo : Nat} (hlo : lo = 0 ∨ lo = 1) : ST w (f_X8_mean x1 x2 x3 (nI lo)) (f_X9_mean x1 x2 x3 (nI lo)) := by
  have k8 : ∀ z, f_X8_mean x1 x2 x3 (nI lo) w = some z → KC w z.2 := fun z hz => KC.sm (fr_X8_mean _ _ _ _ _ hz) (by decide) (by decide)
  have k9 : ∀ w1 z, f_X9_mean x1 x2 x3 (nI lo) w1 = some z → KM w1 z.2 := fun w1 z hz => KM.sm (fr_X9_mean _ _ _ _ _ hz) (by decide) rfl
  obtain ⟨T, ⟨σ, d, mk, ms, S, C, M⟩ | H⟩ := H
  · exact ST.q T S C M (q_mean (σ := σ) ⟨S.1, C.1, C.2.1⟩ M.1 x1 x2 x3 hlo) k8 k9
  · refine ST.z T H (-1) 1 ?_ k8 (fun w1 h h2 => ?_) k9
    · exact zf8 (by rw [f_X8_mean, zP8 H, bind_some', if_pos rfl]; rfl)
    · exact rf9 (w0 := gd9 w1) (by rw [f_X9_mean, good9, bind_some', zP9 (show gI (gd9 w1) 130 14 = 0 from h), bind_some', if_pos rfl]; rfl)
theorem s_states {w : GW} (H : JJ w) (x1 : Int32) (x2 : Int32) : ST w (f_X8_states x1 x2) (f_X9_states x1 x2) := by
  have k8 : ∀ z, f_X8_states x1 x2 w = some z → KC w z.2 := fun z hz => KC.sm (fr_X8_states _ _ _ hz) (by decide) (by decide)
  have k9 : ∀ w1 z, f_X9_states x1 x2 w1 = some z → KM w1 z.2 := fun w1 z hz => KM.sm (fr_X9_states _ _ _ hz) (by decide) rfl
  obtain ⟨T, ⟨σ, d, mk, ms, S, C, M⟩ | H⟩ := H
  · exact ST.q T S C M (q_states (σ := σ) ⟨S.1, C.1, C.2.1⟩ M.1 x1 x2) k8 k9
  · refine ST.z T H (-1) 1 ?_ k8 (fun w1 h h2 => ?_) k9
    · exact zf8 (by rw [f_X8_states, f_X8_isRefused, zP8 H, bind_some', if_pos rfl, ir39, bind_some']; rfl)
    · exact rf9 (w0 := gd9 w1) (by rw [f_X9_states, good9, bind_some', zW9 (show gI (gd9 w1) 130 14 = 0 from h), bind_some', if_neg one_ne]; rfl)
theorem s_worst {w : GW} (H : JJ w) (x1 : Int32) (x2 : Int32) {lo : Nat} (hlo : lo = 0 ∨ lo = 1) : ST w (f_X8_worst x1 x2 (nI lo)) (f_X9_worst x1 x2 (nI lo)) := by
  have k8 : ∀ z, f_X8_worst x1 x2 (nI lo) w = some z → KC w z.2 := fun z hz => KC.sm (fr_X8_worst _ _ _ _ hz) (by decide) (by decide)
  have k9 : ∀ w1 z, f_X9_worst x1 x2 (nI lo) w1 = some z → KM w1 z.2 := fun w1 z hz => KM.sm (fr_X9_worst _ _ _ _ hz) (by decide) rfl
  obtain ⟨T, ⟨σ, d, mk, ms, S, C, M⟩ | H⟩ := H
  · exact ST.q T S C M (q_worst (σ := σ) ⟨S.1, C.1, C.2.1⟩ M.1 x1 x2 hlo) k8 k9
  · refine ST.z T H (-1) 1 ?_ k8 (fun w1 h h2 => ?_) k9
    · exact zf8 (by rw [f_X8_worst, f_X8_isRefused, zP8 H, bind_some', if_pos rfl, ir39, bind_some']; rfl)
    · exact rf9 (w0 := gd9 w1) (by rw [f_X9_worst, good9, bind_some', zW9 (show gI (gd9 w1) 130 14 = 0 from h), bind_some', if_neg one_ne]; rfl)
theorem s_lies {w : GW} (H : JJ w) (x1 : Int32) (x2 : Int32) {lo : Nat} (hlo : lo = 0 ∨ lo = 1) : ST w (f_X8_lies x1 x2 (nI lo)) (f_X9_lies x1 x2 (nI lo)) := by
  have k8 : ∀ z, f_X8_lies x1 x2 (nI lo) w = some z → KC w z.2 := fun z hz => KC.sm (fr_X8_lies _ _ _ _ hz) (by decide) (by decide)
  have k9 : ∀ w1 z, f_X9_lies x1 x2 (nI lo) w1 = some z → KM w1 z.2 := fun w1 z hz => KM.sm (fr_X9_lies _ _ _ _ hz) (by decide) rfl
  obtain ⟨T, ⟨σ, d, mk, ms, S, C, M⟩ | H⟩ := H
  · exact ST.q T S C M (q_lies (σ := σ) ⟨S.1, C.1, C.2.1⟩ M.1 x1 x2 hlo) k8 k9
  · refine ST.z T H (-1) 1 ?_ k8 (fun w1 h h2 => ?_) k9
    · exact zf8 (by rw [f_X8_lies, zP8 H, bind_some', if_pos rfl]; rfl)
    · exact rf9 (w0 := gd9 w1) (by rw [f_X9_lies, good9, bind_some', zP9 (show gI (gd9 w1) 130 14 = 0 from h), bind_some', if_pos rfl]; rfl)
theorem s_compare {w : GW} (H : JJ w) (x1 : Int32) (x2 : Int32) (x3 : Int32) (x4 : Int32) : ST w (f_X8_compare x1 x2 x3 x4) (f_X9_compare x1 x2 x3 x4) := by
  have k8 : ∀ z, f_X8_compare x1 x2 x3 x4 w = some z → KC w z.2 := fun z hz => KC.sm (fr_X8_compare _ _ _ _ _ hz) (by decide) (by decide)
  have k9 : ∀ w1 z, f_X9_compare x1 x2 x3 x4 w1 = some z → KM w1 z.2 := fun w1 z hz => KM.sm (fr_X9_compare _ _ _ _ _ hz) (by decide) rfl
  obtain ⟨T, ⟨σ, d, mk, ms, S, C, M⟩ | H⟩ := H
  · exact ST.q T S C M (q_compare (σ := σ) ⟨S.1, C.1, C.2.1⟩ M.1 x1 x2 x3 x4) k8 k9
  · refine ST.z T H (-1) 1 ?_ k8 (fun w1 h h2 => ?_) k9
    · exact zf8 (by rw [f_X8_compare, zP8 H, bind_some', if_pos rfl]; rfl)
    · exact rf9 (w0 := gd9 w1) (by rw [f_X9_compare, good9, bind_some', zP9 (show gI (gd9 w1) 130 14 = 0 from h), bind_some', if_pos rfl]; rfl)
theorem s_cannot {w : GW} (H : JJ w) (x1 : Int32) : ST w (f_X8_cannot x1) (f_X9_cannot x1) := by
  have k8 : ∀ z, f_X8_cannot x1 w = some z → KC w z.2 := fun z hz => KC.sm (fr_X8_cannot _ _ hz) (by decide) (by decide)
  have k9 : ∀ w1 z, f_X9_cannot x1 w1 = some z → KM w1 z.2 := fun w1 z hz => KM.sm (fr_X9_cannot _ _ hz) (by decide) rfl
  obtain ⟨T, ⟨σ, d, mk, ms, S, C, M⟩ | H⟩ := H
  · exact ST.q T S C M (q_cannot (σ := σ) ⟨S.1, C.1, C.2.1⟩ M.1 x1) k8 k9
  · refine ST.z T H (-1) 1 ?_ k8 (fun w1 h h2 => ?_) k9
    · exact zf8 (by rw [f_X8_cannot, zP8 H, bind_some', if_pos rfl]; rfl)
    · exact rf9 (w0 := gd9 w1) (by rw [f_X9_cannot, good9, bind_some', zP9 (show gI (gd9 w1) 130 14 = 0 from h), bind_some', if_pos rfl]; rfl)
theorem s_never {w : GW} (H : JJ w) (x1 : Int32) (x2 : Int32) : ST w (f_X8_never x1 x2) (f_X9_never x1 x2) := by
  have k8 : ∀ z, f_X8_never x1 x2 w = some z → KC w z.2 := fun z hz => KC.sm (fr_X8_never _ _ _ hz) (by decide) (by decide)
  have k9 : ∀ w1 z, f_X9_never x1 x2 w1 = some z → KM w1 z.2 := fun w1 z hz => KM.sm (fr_X9_never _ _ _ hz) (by decide) rfl
  obtain ⟨T, ⟨σ, d, mk, ms, S, C, M⟩ | H⟩ := H
  · exact ST.q T S C M (q_never (σ := σ) ⟨S.1, C.1, C.2.1⟩ M.1 x1 x2) k8 k9
  · refine ST.z T H (-1) 1 ?_ k8 (fun w1 h h2 => ?_) k9
    · exact zf8 (by rw [f_X8_never, H.1 0 (by omega), if_pos rfl]; rfl)
    · exact rf9 (w0 := gd9 w1) (by rw [f_X9_never, good9, bind_some', f_X9_boundWhy, if_pos (show gI (gd9 w1) 130 14 = 0 from h), bind_some', if_neg one_ne]; rfl)
theorem zbr8 {w : GW} (H : J0 w) (x1 x2 x3 : Int32) : f_X8_isBestRefused x1 x2 x3 w = some (1, sI (trW w x1) 0 12 1) := by
  have hz := fxH_z (gR w 0)
  have h0 : gI (trW w x1) (fxH (gR (trW w x1) 0)) 0 = 0 := by
    show gI (sI (sI (sI w 116 0 x1) 116 1 2) 116 2 0) (fxH (gR w 0)) 0 = 0
    rw [gI_sI, if_neg (by omega), gI_sI, if_neg (by omega), gI_sI, if_neg (by omega)]
    exact H.1 0 (by omega)
  have e30 : ∀ t, f_X8_isBestRefused_30 x1 x2 t w = some (1, sI (trW w x1) 0 12 1) := by
    intro t
    rw [f_X8_isBestRefused_30, tbec, bind_some']
    show (if gI (trW w x1) (fxH (gR (trW w x1) 0)) 0 = 0 then f_X8_isBestRefused_86 1 (trW w x1) else _) = _
    rw [h0, if_pos rfl, ibr86]; rfl
  rw [f_X8_isBestRefused]
  by_cases z1 : x1 < 1
  · rw [if_pos z1]; exact e30 0
  · rw [if_neg z1]
    by_cases z2 : 3 < x1
    · rw [if_pos z2]; exact e30 0
    · rw [if_neg z2]
      obtain ⟨r, e⟩ := isC8_any (w := w) x2
      rw [e, bind_some']
      by_cases z3 : r = 0
      · rw [if_pos z3]; exact e30 0
      · rw [if_neg z3]
        obtain ⟨r2, e2⟩ := isF8_any (w := w) x3
        dsimp only
        rw [e2, bind_some']
        by_cases z4 : r2 = 0
        · rw [if_pos z4]; exact e30 0
        · rw [if_neg z4]; exact e30 1
theorem s_best {w : GW} (H : JJ w) (x1 : Int32) (x2 : Int32) (x3 : Int32) : ST w (f_X8_best x1 x2 x3) (f_X9_best x1 x2 x3) := by
  have k8 : ∀ z, f_X8_best x1 x2 x3 w = some z → KC w z.2 := fun z hz => KC.sm (fr_X8_best _ _ _ _ hz) (by decide) (by decide)
  have k9 : ∀ w1 z, f_X9_best x1 x2 x3 w1 = some z → KM w1 z.2 := fun w1 z hz => KM.sm (fr_X9_best _ _ _ _ hz) (by decide) rfl
  obtain ⟨T, ⟨σ, d, mk, ms, S, C, M⟩ | H⟩ := H
  · exact ST.q T S C M (q_best (σ := σ) ⟨S.1, C.1, C.2.1⟩ M.1 x1 x2 x3) k8 k9
  · refine ST.z T H (-1) 1 ?_ k8 (fun w1 h h2 => ?_) k9
    · exact ⟨sI (trW w x1) 0 12 1, by rw [f_X8_best, zbr8 H, bind_some', if_neg one_ne], gI_same _ _ _ _⟩
    · exact rf9 (w0 := gd9 w1) (by rw [f_X9_best, good9, bind_some', f_X9_bestWhy, if_pos (show gI (gd9 w1) 130 14 = 0 from h), bind_some', if_neg one_ne]; rfl)
theorem s_bestChance {w : GW} (H : JJ w) (x1 : Int32) (x2 : Int32) (x3 : Int32) {lo : Nat} (hlo : lo = 0 ∨ lo = 1) : ST w (f_X8_bestChance x1 x2 x3 (nI lo)) (f_X9_bestChance x1 x2 x3 (nI lo)) := by
  have k8 : ∀ z, f_X8_bestChance x1 x2 x3 (nI lo) w = some z → KC w z.2 := fun z hz => KC.sm (fr_X8_bestChance _ _ _ _ _ hz) (by decide) (by decide)
  have k9 : ∀ w1 z, f_X9_bestChance x1 x2 x3 (nI lo) w1 = some z → KM w1 z.2 := fun w1 z hz => KM.sm (fr_X9_bestChance _ _ _ _ _ hz) (by decide) rfl
  obtain ⟨T, ⟨σ, d, mk, ms, S, C, M⟩ | H⟩ := H
  · exact ST.q T S C M (q_bestChance (σ := σ) ⟨S.1, C.1, C.2.1⟩ M.1 x1 x2 x3 hlo) k8 k9
  · refine ST.z T H (-1) 1 ?_ k8 (fun w1 h h2 => ?_) k9
    · exact ⟨sI (trW w x1) 0 12 1, by rw [f_X8_bestChance, zbr8 H, bind_some', if_neg one_ne], gI_same _ _ _ _⟩
    · exact rf9 (w0 := gd9 w1) (by rw [f_X9_bestChance, good9, bind_some', f_X9_bestWhy, if_pos (show gI (gd9 w1) 130 14 = 0 from h), bind_some', if_neg one_ne]; rfl)
theorem s_likely {w : GW} (H : JJ w)  : ST w (f_X8_likely ) (f_X9_likely ) := by
  have k8 : ∀ z, f_X8_likely  w = some z → KC w z.2 := fun z hz => KC.sm (fr_X8_likely  _ hz) (by decide) (by decide)
  have k9 : ∀ w1 z, f_X9_likely  w1 = some z → KM w1 z.2 := fun w1 z hz => KM.sm (fr_X9_likely  _ hz) (by decide) rfl
  obtain ⟨T, ⟨σ, d, mk, ms, S, C, M⟩ | H⟩ := H
  · exact ST.q T S C M (q_likely (σ := σ) ⟨S.1, C.1, C.2.1⟩ M.1 ) k8 k9
  · refine ST.z T H (-1) 1 ?_ k8 (fun w1 h h2 => ?_) k9
    · exact zf8 (by rw [f_X8_likely, H.1 0 (by omega), if_pos rfl]; rfl)
    · exact rf9 (w0 := gd9 w1) (by rw [f_X9_likely, good9, bind_some', if_pos (show gI (gd9 w1) 130 14 = 0 from h)]; rfl)
theorem s_goes {w : GW} (H : JJ w) (x1 : Int32) {lo : Nat} (hlo : lo = 0 ∨ lo = 1) : ST w (f_X8_goes x1 (nI lo)) (f_X9_goes x1 (nI lo)) := by
  have k8 : ∀ z, f_X8_goes x1 (nI lo) w = some z → KC w z.2 := fun z hz => KC.sm (fr_X8_goes _ _ _ hz) (by decide) (by decide)
  have k9 : ∀ w1 z, f_X9_goes x1 (nI lo) w1 = some z → KM w1 z.2 := fun w1 z hz => KM.sm (fr_X9_goes _ _ _ hz) (by decide) rfl
  obtain ⟨T, ⟨σ, d, mk, ms, S, C, M⟩ | H⟩ := H
  · exact ST.q T S C M (q_goes ⟨S.1, C.1, C.2.1⟩ M.1 S.2.1 C.2.2.1 M.2.1 x1 hlo) k8 k9
  · refine ST.z T H (-1) 1 ?_ k8 (fun w1 h h2 => ?_) k9
    · exact zf8 (by rw [f_X8_goes, f_X8_isNextRefused, zB8 H, bind_some', if_pos rfl, inr36, bind_some']; rfl)
    · exact rf9 (w0 := gd9 w1) (by rw [f_X9_goes, good9, bind_some', zB9 (show gI (gd9 w1) 130 14 = 0 from h), bind_some', if_pos rfl]; rfl)
