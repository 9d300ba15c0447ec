/-! which layouts may be: over a row -/
section RE
variable {η : HP} {r h g : Nat}
theorem TL_pos (hη : HPok η) (hg1 : 1 ≤ g) (hg : g ≤ 3) {n x y : Nat} {G : Nat → Nat} (hk : KL η r h g n x y) (hG : 0 < G y) : 0 < TL η r h g n G x := by
  have hB0 : 0 < pB η := hη.1
  rcases hk with ⟨q, e⟩ | ⟨q, m, t, hm, ht, e⟩
  · subst e; rw [TL_d q]; exact hG
  · subst e
    rw [TL_g q]
    unfold TG
    refine sm_pos.mpr ⟨m, hm, sm_pos.mpr ⟨t, ht, ?_⟩⟩
    have h1 := tw_pos (B := pB η) (wt := pW η) (fun b => (hη.2.2.2.1 b).1) g m
    have h2 : 0 < coG η r g x m := by
      unfold coG
      by_cases r0 : r = 0
      · subst r0
        rw [if_pos rfl]
        have e := tn_dvd (u := dU x) (x := tg (pB η) g m) hg1 hg (fun i => tg_lt hB0 g m i)
        have e2 : 0 < tiO g := by unfold tiO; split <;> omega
        refine Nat.pos_of_ne_zero (fun z => ?_)
        have z2 : tiO g / tnS (dU x) (tg (pB η) g m) (pB η) 0 g = 0 := z
        rw [z2, Nat.mul_zero] at e
        omega
      · rw [if_neg r0]; exact Nat.one_pos
    exact Nat.mul_pos (Nat.mul_pos h1 h2) hG
theorem EL_pos (hη : HPok η) (hg1 : 1 ≤ g) (hg : g ≤ 3) : ∀ n (G : Nat → Nat) y, RK η r h g n y → 0 < G y → 0 < EL η r h g n G := by
  intro n
  induction n with
  | zero =>
    intro G y hy hG
    have : y = 0 := hy
    subst this
    exact hG
  | succ n ih =>
    intro G y ⟨x, hx, hk⟩ hG
    rw [EL]
    exact ih _ x hx (TL_pos hη hg1 hg hk hG)
theorem RK_one (hη : HPok η) (hg1 : 1 ≤ g) (hg : g ≤ 3) (n : Nat) : ∃ x, RK η r h g n x := by
  obtain ⟨x, hx, -⟩ := EL_ne (η := η) (r := r) (h := h) (g := g) (n := n) (G := fun _ => 1) (by
    rw [EL_1 hη hg1 hg]
    have := alS_m (r := r) hη hg1 hg (Nat.zero_le n)
    rw [alS] at this
    omega)
  exact ⟨x, hx⟩
/-- a number is that of a layout that may be -/
def MB (η : HP) (r h g l c : Nat) : Prop := ∃ x, RK η r h g l x ∧ rk (dV x) (pB η) = c
theorem row_MB (hη : HPok η) (hg1 : 1 ≤ g) (hg : g ≤ 3) {t l : Nat} {A : Nat → Nat} (hI : INV η r h g t A) (hl : l ≤ t) (h8 : l ≤ 8) (hrm : l ≤ sm (pB η) (pR η)) {c : Nat} (hc1 : fst (pB η) l ≤ c) (hc2 : c < fst (pB η) (l + 1)) : sm 6 (fun s => A (c * 6 + s)) ≠ 0 ↔ MB η r h g l c := by
  constructor
  · intro h0
    obtain ⟨s, hs, hs1⟩ := sm_pos.mp (show 0 < sm 6 (fun s => A (c * 6 + s)) by omega)
    obtain ⟨x, hx, hxj⟩ := INV_u hη hg1 hI hl h8 (j := c * 6 + s) ⟨by omega, by omega⟩ (by omega)
    obtain ⟨a1, a2, a3, a4⟩ := RK_more hη hg1 l h8 hrm x hx
    have h5 := dK_le a1
    rw [cidx_V hη.2.1] at hxj
    exact ⟨x, hx, by omega⟩
  · rintro ⟨x, hx, hxc⟩ h0
    obtain ⟨a1, a2, a3, a4⟩ := RK_more hη hg1 l h8 hrm x hx
    have h5 := dK_le a1
    have e := INV_at hη hg1 hI hl h8 (j := c * 6 + dK x) ⟨by omega, by omega⟩
    have t1 := sm_term (k := dK x) (n := 6) (by omega) (fun s => A (c * 6 + s))
    have t2 : A (c * 6 + dK x) = 0 := by omega
    rw [t2, Nat.mul_zero] at e
    have t3 := EL_pos (r := r) (h := h) hη hg1 hg l (fun z => if cidx (pB η) z = c * 6 + dK x then 1 else 0) x hx (by
      rw [if_pos (by rw [cidx_V hη.2.1, hxc])]
      exact Nat.one_pos)
    omega
theorem nrm_sum {fl : Nat} {A : Nat → Nat} {c : Nat} : sm 6 (fun s => nrm fl (A (c * 6 + s))) = 0 ↔ sm 6 (fun s => A (c * 6 + s)) = 0 := by
  constructor
  · intro H
    refine sm_z (fun s hs => ?_)
    have := sm_term hs (fun s => nrm fl (A (c * 6 + s)))
    exact nrm_z.mp (show nrm fl (A (c * 6 + s)) = 0 by omega)
  · intro H
    refine sm_z (fun s hs => ?_)
    have := sm_term hs (fun s => A (c * 6 + s))
    rw [show A (c * 6 + s) = 0 by omega, nrm_0]
theorem row_sml (hη : HPok η) (hg1 : 1 ≤ g) (hg : g ≤ 3) {fl t l : Nat} {A : Nat → Nat} (hfl : fl = 0 ∨ fl = 1) (hI : INV η r h g t A) (hl : l ≤ t) (h8 : l ≤ 8) (hrm : l ≤ sm (pB η) (pR η)) (hTM : fl = 0 → alS η r g l ≤ 1000000000000000) {c : Nat} (hc1 : fst (pB η) l ≤ c) (hc2 : c < fst (pB η) (l + 1)) : sm 6 (fun s => nrm fl (A (c * 6 + s))) ≤ 1000000000000000 := by
  rcases hfl with rfl | rfl
  · exact row_lt hη hg1 hg hI hl h8 hrm (hTM rfl) hc1 hc2
  · have : sm 6 (fun s => nrm 1 (A (c * 6 + s))) ≤ sm 6 (fun _ => 1) := sm_le (fun s _ => by
      unfold nrm
      rw [if_neg (by decide)]
      split <;> omega)
    rw [sm_k] at this
    omega
theorem waysToLie (hη : HPok η) (hg1 : 1 ≤ g) (hg : g ≤ 3) {most t k k4 : Nat} {w : GW} (hX : WX w η most) (hk : k < 1000) (hlt : ltS2 η k ≤ t) (hR : RWok w k4 η r h g 0 t) (hTM : alS η r g (ltS2 η k) ≤ 1000000000000000) : f_X0_waysToLie k4 (nI k) w = some (nI (sm (fst (pB η) (ltS2 η k + 1) - fst (pB η) (ltS2 η k)) (fun e => @ite _ (MB η r h g (ltS2 η k) (fst (pB η) (ltS2 η k) + e)) (Classical.propDecidable _) 1 0)), w) := by
  obtain ⟨A, hI, hA⟩ := hR
  have h8 : ltS2 η k ≤ 8 := Nat.min_le_right _ _
  have hrm : ltS2 η k ≤ sm (pB η) (pR η) := Nat.le_trans (Nat.min_le_left _ _) (Nat.min_le_right _ _)
  have hlet : f_X0_letters (nI k) w = some (nI (ltS2 η k), w) := letters hη hX.1 hk
  generalize ltS2 η k = l at *
  have hf := fst_le hη (n := l + 1) (by omega)
  have hf1 : fst (pB η) l ≤ fst (pB η) (l + 1) := FN_m1 _ _
  have key : ∀ d e n, e + d = fst (pB η) (l + 1) - fst (pB η) l → d < n → f_X0_waysToLie_17 n k4 (nI (sm e (fun e => @ite _ (MB η r h g l (fst (pB η) l + e)) (Classical.propDecidable _) 1 0))) (nI l) (nI (fst (pB η) l + e)) w = some (nI (sm (fst (pB η) (l + 1) - fst (pB η) l) (fun e => @ite _ (MB η r h g l (fst (pB η) l + e)) (Classical.propDecidable _) 1 0)), w) := by
    intro d
    induction d with
    | zero =>
      intro e n he hn
      obtain ⟨n, rfl⟩ : ∃ m9, n = m9 + 1 := ⟨n - 1, by omega⟩
      have : e = fst (pB η) (l + 1) - fst (pB η) l := by omega
      rw [f_X0_waysToLie_17, nI_1, first hη hX.1.1 (by omega), bind_some']
      dsimp only
      rw [if_pos ((le_nI (by omega) (by omega)).mpr (by omega)), this]
    | succ d ih =>
      intro e n he hn
      obtain ⟨n, rfl⟩ : ∃ m9, n = m9 + 1 := ⟨n - 1, by omega⟩
      have e2 := ih (e + 1) n (by omega) (by omega)
      rw [sm_s] at e2
      have hsml := row_lt hη hg1 hg hI hlt h8 hrm hTM (c := fst (pB η) l + e) (by omega) (by omega)
      have hm := row_MB hη hg1 hg hI hlt h8 hrm (c := fst (pB η) l + e) (by omega) (by omega)
      rw [f_X0_waysToLie_17, nI_1, first hη hX.1.1 (by omega), bind_some']
      dsimp only
      rw [if_neg (fun q9 => absurd ((le_nI (by omega) (by omega)).mp q9) (by omega)), show (1287 : Nat) = 1287 from rfl, if_pos ((inb_nI (by omega)).mpr (by omega)), ix_nI (by omega), show gL w k4 (fst (pB η) l + e) = lN (sm 6 (fun s => A ((fst (pB η) l + e) * 6 + s))) from hA _ (by omega)]
      by_cases q : sm 6 (fun s => A ((fst (pB η) l + e) * 6 + s)) = 0
      · rw [if_pos ((lle0 (by omega)).mpr q), f_X0_waysToLie_45, show (0 : Int32) = nI 0 from rfl, nI_add, nI_1, Nat.add_assoc (fst (pB η) l)]
        rw [if_neg (fun z => hm.mpr z q)] at e2
        exact e2
      · rw [if_neg (fun z => q ((lle0 (by omega)).mp z)), f_X0_waysToLie_45, show (1 : Int32) = nI 1 from rfl, nI_add, nI_add, Nat.add_assoc (fst (pB η) l)]
        rw [if_pos (hm.mp q)] at e2
        exact e2
  rw [f_X0_waysToLie, hlet, bind_some']
  dsimp only
  rw [first hη hX.1.1 (by omega), bind_some', show (0 : Int32) = nI 0 from rfl]
  exact key (fst (pB η) (l + 1) - fst (pB η) l) 0 fu (by omega) (fu_gt (by omega))
end RE
