/-! only what lies in the boxes counts -/
theorem mul_c {a b c : Nat} (h : b = c) : a * b = a * c := by rw [h]
theorem goS_c {B : Nat} {rm u v : Nat → Nat} (h : ∀ c, c < B → u c = v c) : ∀ d b, b < B → goS B rm u d b = goS B rm v d b := by
  intro d
  induction d with
  | zero => intro b _; rfl
  | succ d ih =>
    intro b hb
    rw [goS, goS, h b hb, ih _ (nx_lt hb)]
theorem ldH_c {η : HP} {u v : Nat → Nat} {b n : Nat} (hB5 : pB η ≤ 5) (hb : b < pB η) (h : ∀ c, c < n → u c = v c) (hn : 5 ≤ n) : ∀ c, c < n → ldH η u b c = ldH η v b c := by
  intro c hc
  unfold ldH
  have e : goT (pB η) (pR η) u b = goT (pB η) (pR η) v b := goS_c (fun c hc => h c (by omega)) _ _ hb
  rw [e]
  unfold upM
  rw [h c hc]
theorem mvP_c {B : Nat} {u v : Nat → Nat} (h : ∀ c, c < B → u c = v c) : ∀ d i f t, i + d ≤ B → f < B → t < B → mvP u d i f t = mvP v d i f t := by
  intro d
  induction d with
  | zero => intro i f t _ _ _; rfl
  | succ d ih =>
    intro i f t hi hf ht
    rw [mvP, mvP, h i (by omega), h f hf, h t ht]
    exact ih _ _ _ (by omega) (by split <;> omega) (by split <;> omega)
theorem mvH_c {η : HP} (hη : HPok η) {u v : Nat → Nat} {m n : Nat} (h : ∀ c, c < m → u c = v c) (hm : 5 ≤ m) : ∀ c, c < m → mvH η u n c = mvH η v n c := by
  have j1 := hη.1
  have j2 := hη.2.1
  intro c hc
  unfold mvH mvS
  by_cases q : pM η = 0 ∨ ¬ n % pM η = 0
  · rw [if_pos q, if_pos q]; exact h c hc
  · rw [if_neg q, if_neg q, mvP_c (B := pB η) (v := v) (fun c hc => h c (by omega)) _ _ _ _ (by omega) (by omega) (by omega)]
    have := mvP_lt (B := pB η) (u := v) (pB η - 1) 1 0 0 (by omega) (by omega) (by omega)
    unfold mvE
    rw [h _ (show (mvP v (pB η - 1) 1 0 0).1 < m by omega), h _ (show (mvP v (pB η - 1) 1 0 0).2 < m by omega)]
    split
    · exact h c hc
    · dsimp only
      rw [h c hc]
theorem lbS_c {η : HP} (hη : HPok η) {u v : Nat → Nat} {b n : Nat} (hb : b < pB η) (h : ∀ c, c < 5 → u c = v c) : lbS η u n b = lbS η v n b := by
  have j2 := hη.2.1
  unfold lbS
  have e : goT (pB η) (pR η) u b = goT (pB η) (pR η) v b := goS_c (fun c hc => h c (by omega)) _ _ hb
  rw [e, rk_c (v := mvH η (ldH η v b) n) (fun c hc => mvH_c hη (ldH_c j2 hb h (Nat.le_refl _)) (Nat.le_refl _) c (by omega))]
theorem cw_c {η : HP} (hη : HPok η) {u v : Nat → Nat} {r h g sl n : Nat} (H : ∀ c, c < 5 → u c = v c) : ∀ i, cw η u r h g sl n i = cw η v r h g sl n i := by
  have j2 := hη.2.1
  intro i
  have e1 : cwB (ltW (pB η) (pW η) u g) (pB η) i = cwB (ltW (pB η) (pW η) v g) (pB η) i := by
    unfold cwB
    by_cases q : i % 6 = 0 ∧ i / 6 < pB η
    · rw [if_pos q, if_pos q]
      unfold ltW neS flS
      rw [H (i / 6) (by omega), sm_c (fun c hc => by rw [H c (by omega)]), sm_c (n := pB η) (f := fun c => if v (i / 6) < u c then pW η c else 0) (fun c hc => by rw [H c (by omega)])]
    · rw [if_neg q, if_neg q]
  have e2 : cwB (lzW (pB η) (pW η) u h g) (pB η) i = cwB (lzW (pB η) (pW η) v h g) (pB η) i := by
    unfold cwB
    by_cases q : i % 6 = 0 ∧ i / 6 < pB η
    · rw [if_pos q, if_pos q]
      unfold lzW flS
      rw [H (i / 6) (by omega), sm_c (n := pB η) (f := fun c => if h < u c then pW η c else 0) (fun c hc => by rw [H c (by omega)])]
    · rw [if_neg q, if_neg q]
  have e3 : cwE η u r sl g (2 ^ pB η) i = cwE η v r sl g (2 ^ pB η) i := by
    unfold cwE
    refine sm_c (fun m hm => ?_)
    by_cases m0 : m = 0
    · rw [if_neg (fun z => z.1 m0), if_neg (fun z => z.1 m0)]
    · have t1 : tkM η u r sl m = tkM η v r sl m := by
        unfold tkM
        rw [emT_c (v := v) (fun b hb => H b (by omega))]
      have t2 := (tkM_some hη (u := v) (r := r) (sl := sl) hm m0).2
      unfold ixS
      rw [t1, emT_c (v := ldH η v (tkM η v r sl m)) (fun b hb => ldH_c j2 t2 H (Nat.le_refl _) b (by omega))]
  unfold cw
  rw [e1, e2, e3]
theorem W1_c {η : HP} (hη : HPok η) {u v : Nat → Nat} {r h g n slot : Nat} {F : Nat → Nat} (H : ∀ c, c < 5 → u c = v c) : W1 η u r h g n slot F = W1 η v r h g n slot F := by
  unfold W1
  refine sm_c (fun t ht => ?_)
  rw [lbS_c hη ht H]
  unfold gFS
  cases lbS η v n t with
  | none => rfl
  | some b =>
    dsimp only
    exact sm_c (fun s _ => by rw [cw_c hη H])
/-- the boxes of a key alone -/
def dV (x : Nat) : Nat → Nat := fun c => if c < 5 then dU x c else 0
theorem dV_5 {x c : Nat} (h : c < 5) : dV x c = dU x c := if_pos h
section RM
variable {η : HP} {r h g : Nat}
theorem RK_more (hη : HPok η) (hg1 : 1 ≤ g) : ∀ n, n ≤ 8 → n ≤ sm (pB η) (pR η) → ∀ x, RK η r h g n x → VK x ∧ sm (pB η) (dV x) = n ∧ ZB (pB η) (dV x) ∧ (r ≠ 4 → dK x = 0) := by
  obtain ⟨j1, j2, j3, j4, j5, j6, j7⟩ := id hη
  intro n
  induction n with
  | zero =>
    intro _ _ x hx
    have : x = 0 := hx
    subst this
    have h0 : ∀ c, dV 0 c = 0 := by
      intro c
      unfold dV
      split
      · unfold dU; simp
      · rfl
    exact ⟨VK_0, sm_z (fun c _ => h0 c), fun c _ => h0 c, fun _ => by decide⟩
  | succ n ih =>
    intro h8 hrm y ⟨x, hx, hk⟩
    obtain ⟨a1, a2, a3, a4⟩ := ih (by omega) (by omega) x hx
    have d8 := dU_le x
    have key : ∀ b s, b < pB η → s ≤ 5 → (r ≠ 4 → s = 0) → y = enc (mvH η (ldH η (dU x) b) (n + 1)) s → VK y ∧ sm (pB η) (dV y) = n + 1 ∧ ZB (pB η) (dV y) ∧ (r ≠ 4 → dK y = 0) := by
      intro b s hb hs hs0 hy
      have h7 : sm (pB η) (dV x) < sm (pB η) (pR η) := by omega
      have hsu : su (dU x) ≤ 7 := by
        rw [show su (dU x) = su (dV x) from sm_c (fun c hc => (dV_5 hc).symm), su_ZB j2 a3]
        omega
      have hl8 := mvH_le hη (n := n + 1) (ldH_le hη hb d8)
      have e1 : ∀ c, c < 5 → dV y c = mvH η (ldH η (dV x) b) (n + 1) c := by
        intro c hc
        rw [dV_5 hc, hy, dU_enc hl8 c hc]
        exact mvH_c hη (ldH_c j2 hb (fun c hc => (dV_5 hc).symm) (Nat.le_refl _)) (Nat.le_refl _) c hc
      obtain ⟨t, ht⟩ := goT_none hη hb h7
      refine ⟨?_, ?_, fun c hc => ?_, fun q => ?_⟩
      · rw [hy]; exact VK_out hη hb d8 hsu hs
      · rw [sm_c (fun c hc => e1 c (by omega)), ld_sum hη a3 hb ht, a2]
      · by_cases c5 : c < 5
        · rw [e1 c c5]; exact ZB_mv hη (ZB_ld a3 hb) _ c hc
        · unfold dV; rw [if_neg c5]
      · rw [hy, dK_enc hl8]; exact hs0 q
    rcases hk with ⟨-, e⟩ | ⟨-, m, t, hm, ht, e⟩
    · exact key (pD η) (dK x) j5 (dK_le a1) a4 e
    · obtain ⟨b, tb, hb⟩ := tkS_some (u := dU x) (x := tg (pB η) g m) (r := r) (h := h) (sl := dK x) hg1 (fun i _ => tg_lt (by omega) g m i) ht
      have etk : tkG η r h g x m t = b := by unfold tkG; rw [tb]; rfl
      unfold outG at e
      rw [etk] at e
      exact key b _ hb (spS_le hη (dK_le a1)) (fun q => by unfold spS; rw [if_neg q]; exact a4 q) e
theorem cidx_V {x : Nat} (hB5 : pB η ≤ 5) : cidx (pB η) x = rk (dV x) (pB η) * 6 + dK x := by
  unfold cidx
  rw [rk_c (v := dV x) (fun c hc => (dV_5 (by omega)).symm)]
/-- the entries of one level -/
abbrev lv (η : HP) (n j : Nat) : Prop := fst (pB η) n * 6 ≤ j ∧ j < fst (pB η) (n + 1) * 6
def SL (η : HP) (n : Nat) (A F : Nat → Nat) : Nat := sm 7722 (fun j => if lv η n j then A j * F j else 0)
/-- levels 0 to n are filled -/
def INV (η : HP) (r h g n : Nat) (A : Nat → Nat) : Prop := (∀ l, l ≤ n → ∀ F, PF η r g l * SL η l A F = EL η r h g l (fun x => F (cidx (pB η) x))) ∧ ∀ j, j < 7722 → fst (pB η) (n + 1) * 6 ≤ j → A j = 0
theorem fst_le (hη : HPok η) {n : Nat} (h : n < 10) : fst (pB η) n ≤ 1287 := (FN_t (pB η - 1) (by have := hη.2.1; omega) n h).2
theorem INV_at (hη : HPok η) (hg1 : 1 ≤ g) {n l j : Nat} {A : Nat → Nat} (H : INV η r h g n A) (hl : l ≤ n) (h8 : l ≤ 8) (hj : lv η l j) : PF η r g l * A j = EL η r h g l (fun x => if cidx (pB η) x = j then 1 else 0) := by
  have := H.1 l hl (fun i => if i = j then 1 else 0)
  rw [← this]
  congr 1
  unfold SL
  have h1 := fst_le hη (n := l + 1) (by omega)
  have h2 := hj.2
  rw [sm_one (k := j) (by omega)]
  · rw [if_pos hj]
    dsimp only
    rw [if_pos rfl, Nat.mul_one]
  · intro i hi q
    dsimp only
    rw [if_neg q, Nat.mul_zero, ite_self]
theorem INV_u (hη : HPok η) (hg1 : 1 ≤ g) {n l j : Nat} {A : Nat → Nat} (H : INV η r h g n A) (hl : l ≤ n) (h8 : l ≤ 8) (hj : lv η l j) (h0 : A j ≠ 0) : ∃ x, RK η r h g l x ∧ cidx (pB η) x = j := by
  have e := INV_at hη hg1 H hl h8 hj
  obtain ⟨x, hx, hq⟩ := EL_ne (η := η) (r := r) (h := h) (g := g) (n := l) (G := fun x => if cidx (pB η) x = j then 1 else 0) (by
    rw [← e]
    have := PF_pos (η := η) (r := r) hg1 l
    exact Nat.mul_ne_zero (by omega) h0)
  refine ⟨x, hx, Classical.byContradiction (fun q => hq (if_neg q))⟩
theorem INV_0 (hη : HPok η) {A : Nat → Nat} (h0 : A 0 = 1) (h1 : ∀ j, j ≠ 0 → A j = 0) : INV η r h g 0 A := by
  have hf : fst (pB η) 1 = 1 := by
    obtain ⟨j1, j2, -⟩ := hη
    have key : ∀ b, b < 5 → FN b 1 = 1 := by decide
    exact key _ (by omega)
  have hf0 : fst (pB η) 0 = 0 := FN_0 _
  refine ⟨fun l hl F => ?_, fun j _ hj => h1 j (by rw [hf] at hj; omega)⟩
  have : l = 0 := by omega
  subst this
  unfold SL
  rw [sm_one (k := 0) (by omega)]
  · have e0 : lv η 0 0 := ⟨by rw [hf0]; omega, by rw [hf]; omega⟩
    rw [if_pos e0, h0, Nat.one_mul, PF, Nat.one_mul, EL]
    congr 1
    unfold cidx rk
    rw [sm_z (fun b _ => ?_)]
    · rfl
    · rw [sm_z (fun c _ => ?_), FN_0]
      unfold dU; simp
  · intro j _ q
    rw [h1 j q, Nat.zero_mul, ite_self]
/-- a layout of a number -/
noncomputable def UR (η : HP) (i : Nat) : Nat → Nat := @dite _ (∃ u, ZB (pB η) u ∧ rk u (pB η) = i) (Classical.propDecidable _) (fun h => Classical.choose h) (fun _ => fun _ => 0)
theorem UR_of {u : Nat → Nat} {i : Nat} (hz : ZB (pB η) u) (hi : rk u (pB η) = i) : UR η i = u := by
  unfold UR
  have h : ∃ u, ZB (pB η) u ∧ rk u (pB η) = i := ⟨u, hz, hi⟩
  rw [dif_pos h]
  have := Classical.choose_spec h
  exact ZB_c this.1 hz (rk_inj (pB η) (this.2.trans hi.symm))
/-- one level more -/
theorem INV_s (hη : HPok η) (hg1 : 1 ≤ g) (hg : g ≤ 3) (hr : r ≤ 4) {n : Nat} {A A' : Nat → Nat} (h7 : n ≤ 7) (hrm : n < sm (pB η) (pR η)) (H : INV η r h g n A) (hlow : ∀ j, j < fst (pB η) (n + 1) * 6 → A' j = A j) (hsum : ∀ F, sm 7722 (fun j => A' j * F j) = sm 7722 (fun j => A j * F j) + SL η n A (fun j => W1 η (UR η (j / 6)) r h g (n + 1) (j % 6) F)) : INV η r h g (n + 1) A' := by
  obtain ⟨j1, j2, j3, j4, j5, j6, j7⟩ := id hη
  have hfm : ∀ a b, a ≤ b → fst (pB η) a ≤ fst (pB η) b := fun a b hab => FN_m _ hab
  have hx : ∀ x, RK η r h g n x → VK x ∧ sm (pB η) (dV x) = n ∧ ZB (pB η) (dV x) ∧ (r ≠ 4 → dK x = 0) := RK_more hη hg1 n (by omega) (by omega)
  have hUR : ∀ x, RK η r h g n x → ∀ F, W1 η (UR η (cidx (pB η) x / 6)) r h g (n + 1) (cidx (pB η) x % 6) F = W1 η (dU x) r h g (n + 1) (dK x) F := by
    intro x hx0 F
    obtain ⟨a1, a2, a3, a4⟩ := hx x hx0
    have h5 := dK_le a1
    rw [cidx_V j2, show (rk (dV x) (pB η) * 6 + dK x) / 6 = rk (dV x) (pB η) by omega, show (rk (dV x) (pB η) * 6 + dK x) % 6 = dK x by omega, UR_of a3 rfl]
    exact W1_c hη (fun c hc => dV_5 hc)
  have hstep : ∀ F, EL η r h g (n + 1) (fun x => F (cidx (pB η) x)) = PF η r g (n + 1) * SL η n A (fun j => W1 η (UR η (j / 6)) r h g (n + 1) (j % 6) F) := by
    intro F
    rw [PF, Nat.mul_comm (PF η r g n), Nat.mul_assoc, H.1 n (Nat.le_refl _), ← EL_mul, EL]
    refine EL_c n _ _ (fun x hx0 => ?_)
    obtain ⟨a1, a2, a3, a4⟩ := hx x hx0
    rw [hUR x hx0 F]
    refine TL_W1 hη hg1 hg hr a1 a4 ?_ F
    rw [sm_c (fun c hc => (dV_5 (by omega)).symm), a2]
    exact hrm
  have hA0 : ∀ F : Nat → Nat, (∀ j, j < fst (pB η) (n + 1) * 6 → F j = 0) → sm 7722 (fun j => A j * F j) = 0 := by
    intro F hF
    refine sm_z (fun j hj7 => ?_)
    by_cases q : j < fst (pB η) (n + 1) * 6
    · rw [hF j q, Nat.mul_zero]
    · rw [H.2 j hj7 (by omega), Nat.zero_mul]
  -- what a step can reach
  have hW : ∀ F F' : Nat → Nat, (∀ j, lv η (n + 1) j → F j = F' j) → SL η n A (fun j => W1 η (UR η (j / 6)) r h g (n + 1) (j % 6) F) = SL η n A (fun j => W1 η (UR η (j / 6)) r h g (n + 1) (j % 6) F') := by
    intro F F' hF
    unfold SL
    refine sm_c (fun j _ => ?_)
    by_cases q : lv η n j
    · rw [if_pos q, if_pos q]
      by_cases z : A j = 0
      · rw [z, Nat.zero_mul, Nat.zero_mul]
      · obtain ⟨x, hx0, hxj⟩ := INV_u hη hg1 H (Nat.le_refl _) (by omega) q z
        obtain ⟨a1, a2, a3, a4⟩ := hx x hx0
        rw [← hxj]
        dsimp only
        rw [hUR x hx0 F, hUR x hx0 F']
        refine mul_c ?_
        rw [W1_c hη (v := dV x) (fun c hc => (dV_5 hc).symm), W1_c hη (u := dU x) (v := dV x) (fun c hc => (dV_5 hc).symm)]
        unfold W1
        refine sm_c (fun t ht => ?_)
        unfold gFS
        cases ho : lbS η (dV x) (n + 1) t with
        | none => rfl
        | some b =>
          have k := lbS_lvl hη a3 (by omega) ht ho
          rw [a2] at k
          have k2 : b < fst (pB η) (n + 1 + 1) := k.2.1
          dsimp only
          refine sm_c (fun s hs => ?_)
          rw [hF (b * 6 + s) ⟨by omega, by omega⟩]
    · rw [if_neg q, if_neg q]
  refine ⟨fun l hl F => ?_, fun j h77 hj => ?_⟩
  · by_cases hln : l ≤ n
    · rw [← H.1 l hln F]
      refine mul_c ?_
      unfold SL
      refine sm_c (fun j _ => ?_)
      by_cases q : lv η l j
      · have := hfm (l + 1) (n + 1) (by omega)
        have := q.2
        rw [if_pos q, if_pos q, hlow j (by omega)]
      · rw [if_neg q, if_neg q]
    · have : l = n + 1 := by omega
      subst this
      rw [hstep F]
      refine mul_c ?_
      have e := hsum (fun j => if lv η (n + 1) j then F j else 0)
      rw [hA0 _ (fun j hj => if_neg (fun q => by have := q.1; omega)), Nat.zero_add] at e
      rw [hW F (fun j => if lv η (n + 1) j then F j else 0) (fun j hj => (if_pos hj).symm), ← e]
      unfold SL
      refine sm_c (fun j _ => ?_)
      by_cases q : lv η (n + 1) j
      · rw [if_pos q, if_pos q]
      · rw [if_neg q, if_neg q, Nat.mul_zero]
  · have e := hsum (fun i => if i = j then 1 else 0)
    have hf1 := hfm (n + 1) (n + 1 + 1) (by omega)
    rw [hA0 _ (fun i hi => if_neg (by omega)), Nat.zero_add, hW _ (fun _ => 0) (fun i hi => if_neg (by have := hi.2; omega)), sm_one (k := j) h77 _ (fun i _ q => by rw [if_neg q, Nat.mul_zero]), if_pos rfl, Nat.mul_one] at e
    rw [e]
    unfold SL
    refine sm_z (fun i _ => ?_)
    have : W1 η (UR η (i / 6)) r h g (n + 1) (i % 6) (fun _ => 0) = 0 := by
      unfold W1
      refine sm_z (fun t _ => ?_)
      unfold gFS
      split
      · rfl
      · exact sm_z (fun s _ => Nat.mul_zero _)
    dsimp only
    rw [this, Nat.mul_zero, ite_self]
end RM
