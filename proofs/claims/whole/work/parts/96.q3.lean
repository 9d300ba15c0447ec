/-! class and reference answer alike: lays, states, the worst, what cannot be -/
/-- below a bound -/
def rgs (x : Int32) (hi : Nat) : Prop := ∃ n, n < hi ∧ x = nI n
theorem rgs_em (x : Int32) (hi : Nat) : rgs x hi ∨ ¬ rgs x hi := Classical.em _
theorem pos_nI {x : Int32} (h : ¬ x < 0) : ∃ n, n < 2147483648 ∧ x = nI n := by
  rw [fa_lt] at h
  have h2 := fb_rng x
  have e0 : (0 : Int32).toInt = 0 := rfl
  refine ⟨x.toInt.toNat, by omega, ?_⟩
  rw [fa_eq, nI_toInt (by omega)]
  omega
theorem rgs_ite {β : Type} {x hi' : Int32} {hi : Nat} {X Y : β} (h : ¬ rgs x hi) (h2 : hi' = nI hi) (hh : hi < 2147483648) : (if x < 0 then X else if x < hi' then Y else X) = X := by
  subst h2
  by_cases z : x < 0
  · rw [if_pos z]
  · obtain ⟨n, hn, rfl⟩ := pos_nI z
    rw [if_neg z, if_neg (fun q => h ⟨n, (lt_nI hn hh).mp q, rfl⟩)]
theorem rgs_itt {β : Type} {n hi : Nat} {hi' : Int32} {X Y : β} (b : n < hi) (h2 : hi' = nI hi) (hh : hi < 2147483648) : (if nI n < 0 then X else if nI n < hi' then Y else X) = Y := by
  subst h2
  rw [if_neg (lt0_nI (by omega)), if_pos ((lt_nI (by omega) hh).mpr b)]
theorem within9s_t {w : GW} {n hi : Nat} (b : n < hi) (hh : hi < 1000) : f_X9_within (nI n) 0 (nI hi - 1) w = some (1, w) := by
  rw [pB_m1 (by omega)]
  exact within9_t (lo := 0) (by omega) (by omega) (by omega)
theorem within9s_f {w : GW} {x : Int32} {hi : Nat} (h : ¬ rgs x hi) (hh : hi < 1000) : f_X9_within x 0 (nI hi - 1) w = some (0, w) := by
  rw [f_X9_within]
  by_cases z : x < 0
  · rw [if_pos z]
  · obtain ⟨n, hn, rfl⟩ := pos_nI z
    have : ¬ n < hi := fun q => h ⟨n, q, rfl⟩
    rw [if_neg z, if_pos ?_]
    rw [fa_lt, show (1 : Int32) = nI 1 from rfl, pk_sub_toInt (by omega) (by omega), nI_toInt (by omega)]
    omega
theorem samL_1 {u v : Nat → Nat} : ∀ n, (∀ c, c < n → u c = v c) → samL u v n = 1 := by
  intro n
  induction n with
  | zero => intro _; rfl
  | succ n ih =>
    intro h
    rw [samL, ih (fun c hc => h c (by omega)), if_neg (by omega), if_pos (h n (by omega))]
theorem samL_0 {u v : Nat → Nat} {c : Nat} (hc : u c ≠ v c) : ∀ n, c < n → samL u v n = 0 := by
  intro n
  induction n with
  | zero => intro h; omega
  | succ n ih =>
    intro h
    rw [samL]
    by_cases z : samL u v n = 0
    · rw [if_pos z]
    · rw [if_neg z]
      by_cases y : c = n
      · subst y; rw [if_neg hc]
      · exact absurd (ih (by omega)) z
theorem sam_wo {η : HP} (hη : HPok η) {u v : Nat → Nat} (hu : ZB (pB η) u) (hv : ZB (pB η) v) (hu8 : ∀ c, u c ≤ 8) (hv8 : ∀ c, v c ≤ 8) : samL u v (pB η) = wo η 7 (pkS v) 0 u := by
  have e : wo η 7 (pkS v) 0 u = if pkS u = pkS v then 1 else 0 := rfl
  rw [e]
  by_cases z : ∀ c, c < pB η → u c = v c
  · rw [samL_1 _ z, ZB_c hu hv z, if_pos rfl]
  · have ⟨c, hc⟩ := Classical.not_forall.mp z
    have ⟨hc1, hc2⟩ := Classical.not_imp.mp hc
    have hB5 := hη.2.1
    rw [samL_0 hc2 _ hc1, if_neg (fun y => hc2 ?_)]
    rw [← pk_unp (u := u) (fun c _ => by have := hu8 c; omega) c (by omega), ← pk_unp (u := v) (fun c _ => by have := hv8 c; omega) c (by omega), y]
section Q3
variable {σ : HS} {w : GW}
/-- the ways of a lay -/
noncomputable def lyW (σ : HS) (p k y : Nat) : Nat := EL (zE σ) (zR σ p) (zH σ p) (zG σ p) k (fun x => wo (zE σ) 7 (pkS (zV σ y)) 0 (dV x))
theorem lyW_sam (hs : HSok σ) {p k y : Nat} (hk : k ≤ 8) : EL (zE σ) (zR σ p) (zH σ p) (zG σ p) k (fun x => samL (dV x) (zV σ y) (pB (zE σ))) = lyW σ p k y :=
  EL_c _ _ _ (fun x hx => sam_wo hs.1 (RK_all hs (hs.2.2.2.2.1 p).1.1 hk hx).2 (hs.2.2.2.2.2 y).2 (dV8 x) (hs.2.2.2.2.2 y).1)
theorem lyW_le (hs : HSok σ) {p k y : Nat} : lyW σ p k y ≤ 1 * alS (zE σ) (zR σ p) (zG σ p) k := by
  have hq := hs.2.2.2.2.1 p
  refine EL_lt hs hq.1.1 hq.1.2 (fun x _ => ?_)
  show (if pkS (dV x) = pkS (zV σ y) then 1 else 0) ≤ 1
  split <;> omega
theorem pkV (hs : HSok σ) (y : Nat) : pkS (zV σ y) < 1048576 := pkS_lt (fun c _ => by have := (hs.2.2.2.2.2 y).1 c; omega)
theorem pack8 (C : CQ w σ) {y : Nat} (hy : y < zY σ) : f_X8_pack (fxH (gR w 0) + 12 + 1 + y) w = some (nI (pkS (zV σ y)), w) :=
  pack (C.2.1.2.2.2.2.2.2 y hy) (fun b _ => by have := (C.1.2.2.2.2.2 y).1 b; omega)
theorem lay9 (hs : HSok σ) (M : MHl w σ) {p k y : Nat} (hy : y < zY σ) (hk : k ≤ 8) (T : TQ w (zE σ) (zR σ p) (zH σ p) (zG σ p) k) : ∃ w', f_X9_waysOfLay (nI y) w = some (lN (lyW σ p k y), w') := by
  obtain ⟨N, key, way, b2, b3, b4, b5⟩ := T
  have hY := hs.2.2.2.1
  obtain ⟨w', a⟩ := waysOfLay9 (w := w) hs.1 M.2.1.1 b2 (RK_lt hs (hs.2.2.2.2.1 p).1.1 hk b3) (show y < 8 by omega) (M.2.2.2.2.2.2 y hy) (hs.2.2.2.2.2 y).1
  exact ⟨w', by rw [a, b4, lyW_sam hs hk]⟩
theorem q_lies (C : CQ w σ) (M : MHl w σ) (x1 x2 : Int32) {lo : Nat} (hlo : lo = 0 ∨ lo = 1) : QAg w σ (f_X8_lies x1 x2 (nI lo)) (f_X9_lies x1 x2 (nI lo)) := by
  have hs := C.1
  have hL := hs.2.1
  have hY := hs.2.2.2.1
  have K : ∀ z, f_X8_lies x1 x2 (nI lo) w = some z → KC w z.2 := fun z hz => KC.sm (fr_X8_lies _ _ _ _ hz) (by decide) (by decide)
  rcases rg_em x1 0 (zP σ - 1) with ⟨p, _, hp, rfl⟩ | h1
  rotate_left
  · refine QAg.mk M (-1) 1 (rf8 C ?_) K (fun w1 M1 => ?_)
    · rw [f_X8_lies, isP8_f C h1, bind_some', if_pos rfl]; rfl
    · refine rf9 (w0 := gd9 w1) ?_
      rw [f_X9_lies, good9, bind_some', isP9_f hs M1.gd h1, bind_some', if_pos rfl]; rfl
  have hp : p < zP σ := by have := hs.2.2.1; omega
  have hq := hs.2.2.2.2.1 p
  rcases rgs_em x2 (zY σ) with ⟨y, hy, rfl⟩ | h2
  rotate_left
  · refine QAg.mk M (-1) 1 (rf8 C ?_) K (fun w1 M1 => ?_)
    · rw [f_X8_lies, isP8_t C hp, bind_some', if_neg one_ne]
      dsimp only
      rw [rgs_ite h2 C.2.1.2.2.2.2.1 (by omega)]; rfl
    · refine rf9 (w0 := gd9 w1) ?_
      rw [f_X9_lies, good9, bind_some', isP9_t hs M1.gd hp, bind_some', if_neg one_ne, if_pos (show inb _ _ from by decide), show ix (39 : Int32) = 39 from by decide, M1.gd.2.2.2.2.1, within9s_f h2 (by omega), bind_some', if_pos rfl]; rfl
  have e8 : f_X8_lies (nI p) (nI y) (nI lo) w = f_X8_chance (nI p) (nI (zL σ)) (nI 7) (nI (pkS (zV σ y))) (nI 0) (nI lo) w := by
    rw [f_X8_lies, isP8_t C hp, bind_some', if_neg one_ne]
    dsimp only
    rw [rgs_itt hy C.2.1.2.2.2.2.1 (by omega), if_pos ((inb_nI (by omega)).mpr (by omega)), ix_nI (by omega), pack8 C hy, bind_some', C.2.1.2.2.1]
    exact bindP (f_X8_chance (nI p) (nI (zL σ)) 7 (nI (pkS (zV σ y))) 0 (nI lo) w)
  have e9 : ∀ w1, MHl w1 σ → f_X9_lies (nI p) (nI y) (nI lo) w1 = (f_X9_laysBy (nI p) (nI (zL σ)) (gd9 w1)).bind fun q15 => if q15.1 = 0 then (f_X9_no 3 q15.2).bind fun q19 => some ((q19.1.toInt64), q19.2) else (f_X9_waysOfLay (nI y) q15.2).bind fun q21 => (f_X9_lowest q21.1 (gL q21.2 130 30) (nI lo) q21.2).bind fun q23 => some (q23.1, q23.2) := by
    intro w1 M1
    rw [f_X9_lies, good9, bind_some', isP9_t hs M1.gd hp, bind_some', if_neg one_ne, if_pos (show inb _ _ from by decide), show ix (39 : Int32) = 39 from by decide, M1.gd.2.2.2.2.1, within9s_t hy (by omega), bind_some', if_neg one_ne, if_pos (show inb _ _ from by decide), show ix (1 : Int32) = 1 from by decide, M1.gd.2.2.1]
  have hpk := pkV hs y
  obtain ⟨c1, c2⟩ := chance8 C (asked := 7) (x := pkS (zV σ y)) (y := 0) hp (Nat.le_refl _) (by omega) (by omega) (by omega) (by omega) (by omega) hlo
  by_cases hA : alS (zE σ) (zR σ p) (zG σ p) (zL σ) ≤ 1000000000000000
  · obtain ⟨w1, a1, a2, a3⟩ := c1 hA
    refine QAg.mk M _ 0 ⟨w1, e8.trans a1, a2, a3⟩ K (fun w1 M1 => ?_)
    obtain ⟨w2, b1, T⟩ := (laysBy9 hs M1.gd hp hL).1 hA
    have S := fr_X9_laysBy _ _ _ b1
    have M2 : MHl w2 σ := M1.gd.km (KM.sm S (by decide) rfl)
    obtain ⟨w3, d1⟩ := lay9 hs M2 hy hL T
    have S2 := fr_X9_waysOfLay _ _ d1
    have hle := lyW_le (p := p) (k := zL σ) (y := y) hs
    obtain ⟨_, _, _, _, _, _, b5⟩ := T
    refine ⟨w3, ?_, ?_⟩
    · rw [e9 w1 M1, b1, bind_some', if_neg one_ne, d1, bind_some']
      dsimp only
      rw [S2.L 130 30 rfl, b5, lowest (by omega) (by omega) (alS_p hs hq.1.1 hq.1.2 _) hlo]
      rfl
    · rw [S2.I 130 11 rfl, S.I 130 11 rfl]
      exact gd9_t
  · obtain ⟨w1, a1, a2, a3⟩ := c2 hA
    refine QAg.mk M _ 3 ⟨w1, e8.trans a1, a2, a3⟩ K (fun w1 M1 => ?_)
    obtain ⟨w2, b1⟩ := (laysBy9 hs M1.gd hp hL).2 hA
    refine rf9 (w0 := w2) ?_
    rw [e9 w1 M1, b1, bind_some', if_pos rfl]; rfl
theorem ir39 {t : Int32} {w : GW} : f_X8_isRefused_39 t w = some (if t = 0 then 0 else 1, sI w 0 12 t) := by
  rw [f_X8_isRefused_39, gI_same]
  by_cases z : t = 0
  · rw [if_pos z, if_pos z]
  · rw [if_neg z, if_neg z]
theorem CQ.st (C : CQ w σ) (t : Int32) : CQ (sI w 0 12 t) σ := C.kc KC.st (C.2.2.tr C.1)
theorem isR8_p (C : CQ w σ) {x k : Int32} (h : ¬ rg x 0 (zP σ - 1)) : f_X8_isRefused x k w = some (1, sI w 0 12 1) := by
  rw [f_X8_isRefused, isP8_f C h, bind_some', if_pos rfl, ir39]; rfl
theorem isR8_k (C : CQ w σ) {p : Nat} {k : Int32} (hp : p < zP σ) (h : ¬ rg k 0 (zL σ)) : f_X8_isRefused (nI p) k w = some (1, sI w 0 12 2) := by
  rw [f_X8_isRefused, isP8_t C hp, bind_some', if_neg one_ne, isC8_f C h, bind_some', if_pos rfl, ir39]; rfl
theorem isR8_g (C : CQ w σ) {p k : Nat} (hp : p < zP σ) (hk : k ≤ zL σ) : f_X8_isRefused (nI p) (nI k) w = if alS (zE σ) (zR σ p) (zG σ p) k ≤ 1000000000000000 then some (0, sI w 0 12 0) else some (1, sI w 0 12 3) := by
  have hL := C.1.2.1
  rw [f_X8_isRefused, isP8_t C hp, bind_some', if_neg one_ne, isC8_t C hk, bind_some', if_neg one_ne, isT8 C hp (by omega), bind_some']
  by_cases z : alS (zE σ) (zR σ p) (zG σ p) k ≤ 1000000000000000
  · rw [if_pos z, if_pos z, if_pos rfl, ir39]; rfl
  · rw [if_neg z, if_neg z, if_neg one_ne, ir39]; rfl
theorem ofP8 (C : CQ w σ) {p : Nat} (hp : p < zP σ) : ∃ w', f_X8_ofPorter (nI p) w = some (74 + p, w') ∧ ROW w' (74 + p) (zE σ) (zR σ p) (zH σ p) (zG σ p) 0 (ltS2 (zE σ) (zL σ)) ∧ KC w w' ∧ CCh w' σ := by
  have h6 := C.1.2.2.1.2
  obtain ⟨w', a, b, c, d⟩ := rowP C hp
  exact ⟨w', by rw [f_X8_ofPorter, if_pos ((inb_nI (by omega)).mpr (by omega)), ix_nI (by omega), a]; rfl, b, c, d⟩
theorem btr_as {ls a b : Nat} (h1 : btr ls a b) (h2 : btr ls b a) : a = b := by unfold btr at h1 h2; split at h1 <;> split at h2 <;> omega
theorem fur_eq (hs : HSok σ) {r h g k ls v v' : Nat} (hg1 : 1 ≤ g) (hg : g ≤ 3) (hk : k ≤ 8) (h1 : ∃ x, RK (zE σ) r h g (ltS2 (zE σ) k) x ∧ flM (dV x) (pB (zE σ)) = v) (h2 : ∀ x, RK (zE σ) r h g (ltS2 (zE σ) k) x → btr ls (flM (dV x) (pB (zE σ))) v) (h3 : ∃ x, RK (zE σ) r h g k x ∧ flM (dV x) (pB (zE σ)) = v') (h4 : ∀ x, RK (zE σ) r h g k x → btr ls (flM (dV x) (pB (zE σ))) v') : v = v' := by
  obtain ⟨s1, s2⟩ := RK_same (r := r) (h := h) hs.1 hg1 hg hk
  obtain ⟨x, x1, rfl⟩ := h1
  obtain ⟨y, y1, rfl⟩ := h3
  obtain ⟨x', a1, a2⟩ := s2 x x1
  obtain ⟨y', b1, b2⟩ := s1 y y1
  have e1 := h4 x' a1
  have e2 := h2 y' b1
  rw [a2] at e1
  rw [b2] at e2
  exact btr_as e1 e2
theorem q_worst (C : CQ w σ) (M : MHl w σ) (x1 x2 : Int32) {ls : Nat} (hls : ls = 0 ∨ ls = 1) : QAg w σ (f_X8_worst x1 x2 (nI ls)) (f_X9_worst x1 x2 (nI ls)) := by
  have hs := C.1
  have hL := hs.2.1
  have K : ∀ z, f_X8_worst x1 x2 (nI ls) w = some z → KC w z.2 := fun z hz => KC.sm (fr_X8_worst _ _ _ _ hz) (by decide) (by decide)
  rcases rg_em x1 0 (zP σ - 1) with ⟨p, _, hp, rfl⟩ | h1
  rotate_left
  · refine QAg.mk M (-1) 1 (rf8 C ?_) K (fun w1 M1 => ?_)
    · rw [f_X8_worst, isR8_p C h1, bind_some', if_neg one_ne]
    · refine rf9 (w0 := gd9 w1) ?_
      rw [f_X9_worst, good9, bind_some', why_p hs M1.gd h1, bind_some', if_neg one_ne]; rfl
  have hp : p < zP σ := by have := hs.2.2.1; omega
  have hq := hs.2.2.2.2.1 p
  rcases rg_em x2 0 (zL σ) with ⟨k, _, hk, rfl⟩ | h2
  rotate_left
  · refine QAg.mk M (-1) 2 (rf8 C ?_) K (fun w1 M1 => ?_)
    · rw [f_X8_worst, isR8_k C hp h2, bind_some', if_neg one_ne]
    · refine rf9 (w0 := gd9 w1) ?_
      rw [f_X9_worst, good9, bind_some', why_k hs M1.gd hp h2, bind_some', if_neg two_ne]; rfl
  by_cases hA : alS (zE σ) (zR σ p) (zG σ p) k ≤ 1000000000000000
  rotate_left
  · refine QAg.mk M (-1) 3 (rf8 C ?_) K (fun w1 M1 => ?_)
    · rw [f_X8_worst, isR8_g C hp hk, if_neg hA, bind_some', if_neg one_ne]
    · obtain ⟨w2, b1⟩ := (why_g hs M1.gd hp hk).2 hA
      refine rf9 (w0 := w2) ?_
      rw [f_X9_worst, good9, bind_some', b1, bind_some', if_neg three_ne]; rfl
  obtain ⟨w1, a1, ⟨t, t1, t2, t3⟩, a3, a4⟩ := ofP8 (C.st 0) hp
  have C1 : CQ w1 σ := (C.st 0).kc a3 a4
  have hm := ltS2_m (η := zE σ) hk
  have hT2 : alS (zE σ) (zR σ p) (zG σ p) (ltS2 (zE σ) k) ≤ 1000000000000000 := Nat.le_trans (alS_m hs.1 hq.1.1 hq.1.2 (ltS2_k k)) hA
  obtain ⟨v, b1, b2, b3, b4⟩ := furthest (ls := ls) (w := w1) hs.1 hq.1.1 hq.1.2 (Or.inl rfl) hls C1.2.2.2.1 (show k < 1000 by omega) hm (t3 _ hm (fun _ => hT2)) t2 (fun _ => hT2)
  refine QAg.mk M (nI v) 0 ⟨sI w1 0 12 0, ?_, a4.tr hs, gI_same _ _ _ _⟩ K (fun w2 M2 => ?_)
  · rw [f_X8_worst, isR8_g C hp hk, if_pos hA, bind_some', if_pos rfl, a1, bind_some']
    dsimp only
    rw [b1, bind_some']; rfl
  · obtain ⟨w3, c1, N, key, way, c2, c3, c4, c5⟩ := (why_g hs M2.gd hp hk).1 hA
    have S := fr_X9_chanceWhy _ _ _ _ c1
    have M3 : MHl w3 σ := M2.gd.km (KM.sm S (by decide) rfl)
    have hV := RK_lt hs hq.1.1 (by omega) c3
    have hN1 : 1 ≤ N := by
      obtain ⟨x, hx⟩ := RK_one (r := zR σ p) (h := zH σ p) hs.1 hq.1.1 hq.1.2 k
      obtain ⟨s, hs2, _⟩ := (c3 x).mpr hx
      omega
    obtain ⟨w4, d1⟩ := fullestOf9 (w := w3) hs.1 M3.2.1.1 (hV 0 (by omega))
    have S2 := fr_X9_fullestOf _ _ d1
    have M4 : MHl w4 σ := M3.km (KM.sm S2 (by decide) rfl)
    obtain ⟨w5, v', e1, e2, e3, e4⟩ := worst9_loop (w := w4) hs.1 hls M4.2.1.1 (c2.sm S2 rfl (fun _ => rfl) (fun _ => rfl)) hV hN1 rfl
    have hv : v = v' := by
      refine fur_eq hs hq.1.1 hq.1.2 (show k ≤ 8 by omega) b3 b4 ?_ (fun x hx => ?_)
      · obtain ⟨s, s1, s2⟩ := e3
        exact ⟨key s, (c3 _).mp ⟨s, s1, rfl⟩, s2⟩
      · obtain ⟨s, s1, rfl⟩ := (c3 x).mpr hx
        exact e4 s s1
    refine ⟨w5, ?_, ?_⟩
    · rw [f_X9_worst, good9, bind_some', c1, bind_some', if_pos rfl, if_pos (show inb _ _ from by decide), show ix (0 : Int32) = 0 from by decide]
      dsimp only
      rw [(c2.2.2 0 (by omega)).1, d1, bind_some', hv]
      exact e1
    · rw [e2, S2.I 130 11 rfl, S.I 130 11 rfl]
      exact gd9_t
theorem key_dV {x y : Nat} : x % 59049 = y % 59049 ↔ ∀ c, c < 5 → dV x c = dV y c := by
  have e : ∀ z c, c < 5 → dV z c = dU z c := fun z c hc => dV_5 hc
  constructor
  · intro h c hc
    rw [e _ _ hc, e _ _ hc]
    have : c = 0 ∨ c = 1 ∨ c = 2 ∨ c = 3 ∨ c = 4 := by omega
    rcases this with rfl | rfl | rfl | rfl | rfl
    · rw [dU_0, dU_0]; omega
    · rw [dU_1, dU_1]; omega
    · rw [dU_2, dU_2]; omega
    · rw [dU_3, dU_3]; omega
    · rw [dU_4, dU_4]; omega
  · intro h
    have h0 := h 0 (by omega)
    have h1 := h 1 (by omega)
    have h2 := h 2 (by omega)
    have h3 := h 3 (by omega)
    have h4 := h 4 (by omega)
    rw [e _ _ (by omega), e _ _ (by omega)] at h0 h1 h2 h3 h4
    rw [dU_0, dU_0] at h0
    rw [dU_1, dU_1] at h1
    rw [dU_2, dU_2] at h2
    rw [dU_3, dU_3] at h3
    rw [dU_4, dU_4] at h4
    omega
theorem ite_iff {A B : Prop} (h : A ↔ B) : @ite Nat A (Classical.propDecidable _) 1 0 = @ite Nat B (Classical.propDecidable _) 1 0 := by
  by_cases z : A
  · rw [if_pos z, if_pos (h.mp z)]
  · rw [if_neg z, if_neg (fun y => z (h.mpr y))]
theorem states_eq (hs : HSok σ) {r h g k N : Nat} {key : Nat → Nat} (hg1 : 1 ≤ g) (hg : g ≤ 3) (hk : k ≤ 8) (hK : ∀ z, (∃ s, s < N ∧ key s = z) ↔ RK (zE σ) r h g k z) : sm N (fun s => @ite _ (∀ o, o < s → key o % 59049 ≠ key s % 59049) (Classical.propDecidable _) 1 0) = sm (fst (pB (zE σ)) (ltS2 (zE σ) k + 1) - fst (pB (zE σ)) (ltS2 (zE σ) k)) (fun e => @ite _ (MB (zE σ) r h g (ltS2 (zE σ) k) (fst (pB (zE σ)) (ltS2 (zE σ) k) + e)) (Classical.propDecidable _) 1 0) := by
  have hB := hs.1.1
  obtain ⟨s1, s2⟩ := RK_same (r := r) (h := h) hs.1 hg1 hg hk
  have hl : ∀ s, s < N → fst (pB (zE σ)) (ltS2 (zE σ) k) ≤ rk (dV (key s)) (pB (zE σ)) ∧ rk (dV (key s)) (pB (zE σ)) < fst (pB (zE σ)) (ltS2 (zE σ) k + 1) := fun s hs2 => by
    refine (rk_lvl hB).mpr ?_
    rw [(RK_all hs hg1 hk ((hK _).mp ⟨s, hs2, rfl⟩)).1]
    unfold ltS2
    omega
  have hz : ∀ s, s < N → ZB (pB (zE σ)) (dV (key s)) := fun s hs2 => (RK_all hs hg1 hk ((hK _).mp ⟨s, hs2, rfl⟩)).2
  have e := dist_sum (fun s => rk (dV (key s)) (pB (zE σ)) - fst (pB (zE σ)) (ltS2 (zE σ) k)) (M := fst (pB (zE σ)) (ltS2 (zE σ) k + 1) - fst (pB (zE σ)) (ltS2 (zE σ) k)) N (fun s hs2 => by have := hl s hs2; omega)
  refine (Eq.trans (sm_c (fun s hs2 => ite_iff ?_)) e).trans (sm_c (fun c hc => ite_iff ?_))
  · refine forall_congr' (fun o => ?_)
    refine forall_congr' (fun ho => ?_)
    refine not_congr ?_
    have l1 := hl s hs2
    have l2 := hl o (by omega)
    constructor
    · intro q
      rw [ZB_c (hz o (by omega)) (hz s hs2) (fun c hc => key_dV.mp q c (by have := hs.1.2.1; omega))]
    · intro q
      have q2 : rk (dV (key o)) (pB (zE σ)) = rk (dV (key s)) (pB (zE σ)) := by omega
      rw [key_dV]
      intro c _
      rw [ZB_c (hz o (by omega)) (hz s hs2) (rk_inj _ q2)]
  · constructor
    · rintro ⟨s, hs2, q⟩
      have l1 := hl s hs2
      obtain ⟨y, y1, y2⟩ := s1 (key s) ((hK _).mp ⟨s, hs2, rfl⟩)
      exact ⟨y, y1, by rw [y2]; omega⟩
    · rintro ⟨y, y1, y2⟩
      obtain ⟨x, x1, x2⟩ := s2 y y1
      obtain ⟨s, hs2, rfl⟩ := (hK x).mpr x1
      refine ⟨s, hs2, ?_⟩
      rw [x2, y2]
      omega
theorem q_states (C : CQ w σ) (M : MHl w σ) (x1 x2 : Int32) : QAg w σ (f_X8_states x1 x2) (f_X9_states x1 x2) := by
  have hs := C.1
  have hL := hs.2.1
  have K : ∀ z, f_X8_states x1 x2 w = some z → KC w z.2 := fun z hz => KC.sm (fr_X8_states _ _ _ hz) (by decide) (by decide)
  rcases rg_em x1 0 (zP σ - 1) with ⟨p, _, hp, rfl⟩ | h1
  rotate_left
  · refine QAg.mk M (-1) 1 (rf8 C ?_) K (fun w1 M1 => ?_)
    · rw [f_X8_states, isR8_p C h1, bind_some', if_neg one_ne]
    · refine rf9 (w0 := gd9 w1) ?_
      rw [f_X9_states, good9, bind_some', why_p hs M1.gd h1, bind_some', if_neg one_ne]; rfl
  have hp : p < zP σ := by have := hs.2.2.1; omega
  have hq := hs.2.2.2.2.1 p
  rcases rg_em x2 0 (zL σ) with ⟨k, _, hk, rfl⟩ | h2
  rotate_left
  · refine QAg.mk M (-1) 2 (rf8 C ?_) K (fun w1 M1 => ?_)
    · rw [f_X8_states, isR8_k C hp h2, bind_some', if_neg one_ne]
    · refine rf9 (w0 := gd9 w1) ?_
      rw [f_X9_states, good9, bind_some', why_k hs M1.gd hp h2, bind_some', if_neg two_ne]; rfl
  by_cases hA : alS (zE σ) (zR σ p) (zG σ p) k ≤ 1000000000000000
  rotate_left
  · refine QAg.mk M (-1) 3 (rf8 C ?_) K (fun w1 M1 => ?_)
    · rw [f_X8_states, isR8_g C hp hk, if_neg hA, bind_some', if_neg one_ne]
    · obtain ⟨w2, b1⟩ := (why_g hs M1.gd hp hk).2 hA
      refine rf9 (w0 := w2) ?_
      rw [f_X9_states, good9, bind_some', b1, bind_some', if_neg three_ne]; rfl
  obtain ⟨w1, a1, ⟨t, t1, t2, t3⟩, a3, a4⟩ := ofP8 (C.st 0) hp
  have C1 : CQ w1 σ := (C.st 0).kc a3 a4
  have hm := ltS2_m (η := zE σ) hk
  have hT2 : alS (zE σ) (zR σ p) (zG σ p) (ltS2 (zE σ) k) ≤ 1000000000000000 := Nat.le_trans (alS_m hs.1 hq.1.1 hq.1.2 (ltS2_k k)) hA
  have b1 := waysToLie (w := w1) hs.1 hq.1.1 hq.1.2 C1.2.2.2.1 (show k < 1000 by omega) (t3 _ hm (fun _ => hT2)) t2 hT2
  have e8 : ∀ V, f_X0_waysToLie (74 + p) (nI k) w1 = some (nI V, w1) → f_X8_states (nI p) (nI k) w = some (nI V, sI w1 0 12 0) := by
    intro V b
    rw [f_X8_states, isR8_g C hp hk, if_pos hA, bind_some', if_pos rfl, a1, bind_some']
    dsimp only
    rw [b, bind_some']; rfl
  refine QAg.mk M _ 0 ⟨sI w1 0 12 0, e8 _ b1, a4.tr hs, gI_same _ _ _ _⟩ K (fun w2 M2 => ?_)
  · obtain ⟨w3, c1, N, key, way, c2, c3, c4, c5⟩ := (why_g hs M2.gd hp hk).1 hA
    have S := fr_X9_chanceWhy _ _ _ _ c1
    have hV := RK_lt hs hq.1.1 (by omega) c3
    have e := states9_loop (w := w3) c2 hV
    rw [states_eq hs hq.1.1 hq.1.2 (by omega) c3] at e
    refine ⟨w3, ?_, ?_⟩
    · rw [f_X9_states, good9, bind_some', c1, bind_some', if_pos rfl]
      exact e
    · rw [S.I 130 11 rfl]
      exact gd9_t
/-- the lays that cannot be, as bits -/
noncomputable def bzF (σ : HS) (p : Nat) : Nat → Nat
  | 0 => 0
  | y + 1 => bzF σ p y ||| (if lyW σ p (zL σ) y = 0 then 2 ^ y else 0)
theorem bz8 {p : Nat} : ∀ d i n (w : GW), i + d = zY σ → d < n → CQ w σ → p < zP σ → alS (zE σ) (zR σ p) (zG σ p) (zL σ) ≤ 1000000000000000 → ROW w (74 + p) (zE σ) (zR σ p) (zH σ p) (zG σ p) 0 (ltS2 (zE σ) (zL σ)) → ∃ w', f_X8_cannot_46 n (74 + p) (nI (bzF σ p i)) (nI i) w = some (nI (bzF σ p (zY σ)), w') ∧ CCh w' σ ∧ gI w' 0 12 = 0 := by
  intro d
  induction d with
  | zero =>
    intro i n w hi hn C hp hA hR
    obtain ⟨n, rfl⟩ : ∃ m9, n = m9 + 1 := ⟨n - 1, by omega⟩
    have hY := C.1.2.2.2.1
    have : i = zY σ := by omega
    subst this
    refine ⟨sI w 0 12 0, ?_, C.2.2.tr C.1, gI_same _ _ _ _⟩
    rw [f_X8_cannot_46, C.2.1.2.2.2.2.1, if_pos ((le_nI (by omega) (by omega)).mpr (by omega))]; rfl
  | succ d ih =>
    intro i n w hi hn C hp hA hR
    obtain ⟨n, rfl⟩ : ∃ m9, n = m9 + 1 := ⟨n - 1, by omega⟩
    have hs := C.1
    have hY := hs.2.2.2.1
    have h6 := hs.2.2.1.2
    have hq := hs.2.2.2.2.1 p
    have hpk := pkV hs i
    obtain ⟨w1, up, al, b1, b2, b3, b4, b5, b6⟩ := countQ C (i := p) (asked := 7) (x := pkS (zV σ i)) (y := 0) (by omega) hq.1.1 hq.1.2 (Nat.le_refl _) hR hA (by omega) (by omega) (by omega) (by omega)
    have K1 := KC.oL b6
    have C1 : CQ w1 σ := C.kc K1 (C.2.2.oL hs b6)
    have hR1 : ROW w1 (74 + p) (zE σ) (zR σ p) (zH σ p) (zG σ p) 0 (ltS2 (zE σ) (zL σ)) := by
      obtain ⟨t, t1, ⟨A, a1, a2⟩, t3⟩ := hR
      exact ⟨t, t1, ⟨A, a1, fun c hc => by rw [b6.2.2 _ _ (by omega)]; exact a2 c hc⟩, t3⟩
    obtain ⟨w', e1, e2, e3⟩ := ih (i + 1) n w1 (by omega) (by omega) C1 hp hA hR1
    have hpf := PF_pos (η := zE σ) (r := zR σ p) hq.1.1 (ltS2 (zE σ) (zL σ))
    have hup : up = 0 ↔ lyW σ p (zL σ) i = 0 := by
      have f := EL_full (r := zR σ p) (h := zH σ p) hs.1 hq.1.1 hq.1.2 hs.2.1 (fun u => wo (zE σ) 7 (pkS (zV σ i)) 0 u)
      have p1 := alS_p (r := zR σ p) hs hq.1.1 hq.1.2 (zL σ)
      have p2 := alS_p (r := zR σ p) hs hq.1.1 hq.1.2 (ltS2 (zE σ) (zL σ))
      rw [← b5] at f
      unfold lyW
      constructor
      · intro z
        rw [z, Nat.mul_zero, Nat.mul_zero] at f
        rcases Nat.mul_eq_zero.mp f with y | y
        · exact y
        · omega
      · intro z
        rw [z, Nat.zero_mul] at f
        rcases Nat.mul_eq_zero.mp f.symm with y | y
        · omega
        · rcases Nat.mul_eq_zero.mp y with y | y
          · omega
          · exact y
    have hupl : up ≤ 1000000000000000 := by
      have h1 := lyW_le (p := p) (k := ltS2 (zE σ) (zL σ)) (y := i) hs
      unfold lyW at h1
      rw [← b5] at h1
      have h2 := alS_m (r := zR σ p) hs.1 hq.1.1 hq.1.2 (ltS2_k (η := zE σ) (zL σ))
      have h3 := Nat.le_mul_of_pos_left up hpf
      omega
    refine ⟨w', ?_, e2, e3⟩
    rw [f_X8_cannot_46, C.2.1.2.2.2.2.1, if_neg (fun q9 => absurd ((le_nI (by omega) (by omega)).mp q9) (by omega)), if_pos ((inb_nI (by omega)).mpr (by omega)), ix_nI (by omega), pack8 C (by omega), bind_some', C.2.1.2.2.1]
    have b1' : f_X0_count (74 + p) (nI (zL σ)) 7 (nI (pkS (zV σ i))) 0 w = some ((), w1) := b1
    dsimp only
    rw [b1', bind_some']
    dsimp only
    rw [b2]
    rw [bzF] at e1
    by_cases z : up = 0
    · rw [if_pos (hup.mp z)] at e1
      rw [z, if_pos (show lN 0 = 0 from rfl), f_X8_cannot_108, shl_nI (by omega), or_nI, nI_1]
      exact e1
    · rw [if_neg (fun y => z (hup.mpr y)), Nat.or_zero] at e1
      rw [if_neg (fun y => z ((leq0 (by omega)).mp y)), f_X8_cannot_108, nI_1]
      exact e1
theorem bz9 {p : Nat} (hs : HSok σ) : ∀ d i n (w : GW), i + d = zY σ → d < n → MHl w σ → alS (zE σ) (zR σ p) (zG σ p) (zL σ) ≤ 1000000000000000 → TQ w (zE σ) (zR σ p) (zH σ p) (zG σ p) (zL σ) → ∃ w', f_X9_cannot_42 n (nI (bzF σ p i)) (nI i) w = some (nI (bzF σ p (zY σ)), w') ∧ gI w' 130 11 = gI w 130 11 := by
  intro d
  induction d with
  | zero =>
    intro i n w hi hn M hA T
    obtain ⟨n, rfl⟩ : ∃ m9, n = m9 + 1 := ⟨n - 1, by omega⟩
    have hY := hs.2.2.2.1
    have : i = zY σ := by omega
    subst this
    refine ⟨w, ?_, rfl⟩
    rw [f_X9_cannot_42, if_pos (show inb _ _ from by decide), show ix (39 : Int32) = 39 from by decide, M.2.2.2.2.1, if_pos ((le_nI (by omega) (by omega)).mpr (by omega))]
  | succ d ih =>
    intro i n w hi hn M hA T
    obtain ⟨n, rfl⟩ : ∃ m9, n = m9 + 1 := ⟨n - 1, by omega⟩
    have hY := hs.2.2.2.1
    obtain ⟨w1, a1⟩ := lay9 hs M (y := i) (by omega) hs.2.1 T
    have S := fr_X9_waysOfLay _ _ a1
    have hle := lyW_le (p := p) (k := zL σ) (y := i) hs
    obtain ⟨w', e1, e2⟩ := ih (i + 1) n w1 (by omega) (by omega) (M.km (KM.sm S (by decide) rfl)) hA (T.sm S rfl (fun _ => rfl) (fun _ => rfl) rfl)
    refine ⟨w', ?_, e2.trans (S.I 130 11 rfl)⟩
    rw [f_X9_cannot_42, if_pos (show inb _ _ from by decide), show ix (39 : Int32) = 39 from by decide, M.2.2.2.2.1, if_neg (fun q9 => absurd ((le_nI (by omega) (by omega)).mp q9) (by omega)), a1, bind_some']
    dsimp only
    rw [bzF] at e1
    by_cases z : lyW σ p (zL σ) i = 0
    · rw [if_pos z] at e1
      rw [z, if_pos (show lN 0 = 0 from rfl), f_X9_cannot_71, shl_nI (by omega), or_nI, nI_1]
      exact e1
    · rw [if_neg z] at e1
      rw [if_neg (fun y => z ((leq0 (by omega)).mp y)), f_X9_cannot_71, show (0 : Int32) = nI 0 from rfl, or_nI, nI_1]
      exact e1
theorem q_cannot (C : CQ w σ) (M : MHl w σ) (x1 : Int32) : QAg w σ (f_X8_cannot x1) (f_X9_cannot x1) := by
  have hs := C.1
  have hL := hs.2.1
  have hY := hs.2.2.2.1
  have K : ∀ z, f_X8_cannot x1 w = some z → KC w z.2 := fun z hz => KC.sm (fr_X8_cannot _ _ hz) (by decide) (by decide)
  rcases rg_em x1 0 (zP σ - 1) with ⟨p, _, hp, rfl⟩ | h1
  rotate_left
  · refine QAg.mk M (-1) 1 (rf8 C ?_) K (fun w1 M1 => ?_)
    · rw [f_X8_cannot, isP8_f C h1, bind_some', if_pos rfl]; rfl
    · refine rf9 (w0 := gd9 w1) ?_
      rw [f_X9_cannot, good9, bind_some', isP9_f hs M1.gd h1, bind_some', if_pos rfl]; rfl
  have hp : p < zP σ := by have := hs.2.2.1; omega
  have hq := hs.2.2.2.2.1 p
  have e9 : ∀ w1, MHl w1 σ → f_X9_cannot (nI p) w1 = (f_X9_laysBy (nI p) (nI (zL σ)) (gd9 w1)).bind fun q8 => if q8.1 = 0 then (f_X9_no 3 q8.2).bind fun q17 => some (q17.1, q17.2) else f_X9_cannot_42 fu 0 0 q8.2 := by
    intro w1 M1
    rw [f_X9_cannot, good9, bind_some', isP9_t hs M1.gd hp, bind_some', if_neg one_ne, if_pos (show inb _ _ from by decide), show ix (1 : Int32) = 1 from by decide, M1.gd.2.2.1]
  by_cases hA : alS (zE σ) (zR σ p) (zG σ p) (zL σ) ≤ 1000000000000000
  rotate_left
  · refine QAg.mk M (-1) 3 (rf8 C ?_) K (fun w1 M1 => ?_)
    · rw [f_X8_cannot, isP8_t C hp, bind_some', if_neg one_ne]
      dsimp only
      rw [C.2.1.2.2.1, isT8 C hp (by omega), if_neg hA, bind_some', if_neg one_ne]; rfl
    · obtain ⟨w2, b1⟩ := (laysBy9 hs M1.gd hp hL).2 hA
      refine rf9 (w0 := w2) ?_
      rw [e9 w1 M1, b1, bind_some', if_pos rfl]; rfl
  obtain ⟨w1, a1, a2, a3, a4⟩ := ofP8 C hp
  obtain ⟨w2, b1, b2, b3⟩ := bz8 (p := p) (zY σ) 0 fu w1 (by omega) (fu_gt (by omega)) (C.kc a3 a4) hp hA a2
  refine QAg.mk M (nI (bzF σ p (zY σ))) 0 ⟨w2, ?_, b2, b3⟩ K (fun w3 M3 => ?_)
  · rw [f_X8_cannot, isP8_t C hp, bind_some', if_neg one_ne]
    dsimp only
    rw [C.2.1.2.2.1, isT8 C hp (by omega), if_pos hA, bind_some', if_pos rfl, a1, bind_some']
    exact b1
  · obtain ⟨w4, d1, T⟩ := (laysBy9 hs M3.gd hp hL).1 hA
    have S := fr_X9_laysBy _ _ _ d1
    obtain ⟨w5, e1, e2⟩ := bz9 (p := p) hs (zY σ) 0 fu w4 (by omega) (fu_gt (by omega)) (M3.gd.km (KM.sm S (by decide) rfl)) hA T
    refine ⟨w5, ?_, ?_⟩
    · rw [e9 w3 M3, d1, bind_some', if_neg one_ne]
      exact e1
    · rw [e2, S.I 130 11 rfl]
      exact gd9_t
end Q3
