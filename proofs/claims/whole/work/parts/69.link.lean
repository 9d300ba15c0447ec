/-! the reference's sum over layouts, in the class's numbers -/
theorem hcap_ok : hcap := by
  intro m f hV hd
  refine fb_holes 7722 m (fun i => rk (dU (f i)) 5 * 6 + dK (f i)) (fun i hi => ?_) (fun i j hij hj e => hd i j hij hj ?_)
  · have h1 := hV i hi
    have h2 := rk_lt (u := dU (f i)) (B := 5) (by omega) (by omega) (dU_su h1)
    have h3 := dK_le h1
    show rk (dU (f i)) 5 * 6 + dK (f i) < 7722
    omega
  · have h1 := hV i (by omega)
    have h2 := hV j hj
    have h3 := dK_le h1
    have h4 := dK_le h2
    have e' : rk (dU (f i)) 5 * 6 + dK (f i) = rk (dU (f j)) 5 * 6 + dK (f j) := e
    have e1 : rk (dU (f i)) 5 = rk (dU (f j)) 5 := by omega
    have e2 : dK (f i) = dK (f j) := by omega
    have e3 := rk_inj 5 e1
    rw [← enc_dU h1.1, ← enc_dU h2.1, e2]
    exact enc_c e3
section EE
variable {η : HP} {r h g : Nat}
theorem TL_c {n x : Nat} {G G' : Nat → Nat} (H : ∀ y, KL η r h g n x y → G y = G' y) : TL η r h g n G x = TL η r h g n G' x := by
  rcases drS_dec (pE η) n with q | q
  · rw [TL_d q, TL_d q]
    exact H _ (Or.inl ⟨q, rfl⟩)
  · rw [TL_g q, TL_g q]
    unfold TG
    exact sm_c (fun m hm => sm_c (fun t ht => by rw [H _ (Or.inr ⟨q, m, t, hm, ht, rfl⟩)]))
theorem EL_c : ∀ n (G G' : Nat → Nat), (∀ x, RK η r h g n x → G x = G' x) → EL η r h g n G = EL η r h g n G' := by
  intro n
  induction n with
  | zero => intro G G' H; exact H 0 rfl
  | succ n ih =>
    intro G G' H
    rw [EL, EL]
    exact ih _ _ (fun x hx => TL_c (fun y hy => H y ⟨x, hx, hy⟩))
theorem TL_mul {n x c : Nat} {G : Nat → Nat} : TL η r h g n (fun y => c * G y) x = c * TL η r h g n G x := by
  rcases drS_dec (pE η) n with q | q
  · rw [TL_d q, TL_d q]
  · rw [TL_g q, TL_g q]
    unfold TG
    rw [← sm_mul]
    refine sm_c (fun m _ => ?_)
    rw [← sm_mul]
    exact sm_c (fun t _ => by rw [Nat.mul_left_comm])
theorem EL_mul {c : Nat} : ∀ n (G : Nat → Nat), EL η r h g n (fun y => c * G y) = c * EL η r h g n G := by
  intro n
  induction n with
  | zero => intro G; rfl
  | succ n ih =>
    intro G
    rw [EL, EL, ← ih]
    congr 1
    exact funext (fun x => TL_mul)
theorem TL_add {n x : Nat} {G G' : Nat → Nat} : TL η r h g n (fun y => G y + G' y) x = TL η r h g n G x + TL η r h g n G' x := by
  rcases drS_dec (pE η) n with q | q
  · rw [TL_d q, TL_d q, TL_d q]
  · rw [TL_g q, TL_g q, TL_g q]
    unfold TG
    rw [← sm_add]
    refine sm_c (fun m _ => ?_)
    rw [← sm_add]
    exact sm_c (fun t _ => by rw [Nat.mul_add])
theorem EL_add : ∀ n (G G' : Nat → Nat), EL η r h g n (fun y => G y + G' y) = EL η r h g n G + EL η r h g n G' := by
  intro n
  induction n with
  | zero => intro G G'; rfl
  | succ n ih =>
    intro G G'
    rw [EL, EL, EL, ← ih]
    congr 1
    exact funext (fun x => TL_add)
theorem EL_0 (n : Nat) : EL η r h g n (fun _ => 0) = 0 := by
  have := EL_mul (η := η) (r := r) (h := h) (g := g) (c := 0) n (fun _ => 1)
  simp only [Nat.zero_mul] at this
  exact this
theorem EL_le {n : Nat} {G G' : Nat → Nat} (H : ∀ x, RK η r h g n x → G x ≤ G' x) : EL η r h g n G ≤ EL η r h g n G' := by
  have e : EL η r h g n G' = EL η r h g n (fun x => G x + (G' x - G x)) := EL_c n _ _ (fun x hx => by have := H x hx; omega)
  rw [e, EL_add]
  omega
theorem EL_ne {n : Nat} {G : Nat → Nat} (H : EL η r h g n G ≠ 0) : ∃ x, RK η r h g n x ∧ G x ≠ 0 := by
  refine Classical.byContradiction (fun q => H ?_)
  rw [← EL_0 (η := η) (r := r) (h := h) (g := g) n]
  refine EL_c n _ _ (fun x hx => Classical.byContradiction (fun z => q ⟨x, hx, z⟩))
theorem TG_gsm {n x : Nat} {G : Nat → Nat} : TG η r h g n G x = sm (pB η ^ g) (fun m => tw (pB η) (pW η) g m * sm (tnS (dU x) (tg (pB η) g m) (pB η) r g) (fun t => (if r = 0 then tiO g / tnS (dU x) (tg (pB η) g m) (pB η) r g else 1) * G (outG η r h g n x m t))) := by
  unfold TG
  refine sm_c (fun m _ => ?_)
  rw [← sm_mul]
  refine sm_c (fun t _ => ?_)
  rw [Nat.mul_assoc]
  rfl
/-- all ways behind so many letters -/
noncomputable def alS (η : HP) (r g : Nat) : Nat → Nat
  | 0 => 1
  | n + 1 => alS η r g n * @ite _ (drS (pE η) (n + 1)) (Classical.propDecidable _) 1 (WY η r g)
theorem TL_1 (hη : HPok η) (hg1 : 1 ≤ g) (hg : g ≤ 3) {n x : Nat} : TL η r h g n (fun _ => 1) x = @ite _ (drS (pE η) n) (Classical.propDecidable _) 1 (WY η r g) := by
  rcases drS_dec (pE η) n with q | q
  · rw [TL_d q, if_pos q]
  · rw [TL_g q, if_neg q, TG_gsm]
    have hB0 : 0 < pB η := hη.1
    simp only [Nat.mul_one]
    show gsm (pB η) (pW η) g (fun y => sm (tnS (dU x) y (pB η) r g) (fun _ => if r = 0 then tiO g / tnS (dU x) y (pB η) r g else 1)) = _
    unfold WY
    rw [Nat.mul_comm, ← gsm_one, ← gsm_mul]
    refine gsm_c hB0 (fun y hy => ?_)
    rw [sm_k, Nat.mul_one]
    by_cases r0 : r = 0
    · subst r0
      rw [if_pos rfl, if_pos rfl]
      exact tn_dvd hg1 hg hy
    · rw [if_neg r0, if_neg r0]
      unfold tnS
      rw [if_neg r0]
theorem EL_1 (hη : HPok η) (hg1 : 1 ≤ g) (hg : g ≤ 3) : ∀ n, EL η r h g n (fun _ => 1) = alS η r g n := by
  intro n
  induction n with
  | zero => rfl
  | succ n ih =>
    rw [EL, alS, ← ih, Nat.mul_comm, ← EL_mul]
    congr 1
    funext x
    rw [TL_1 hη hg1 hg, Nat.mul_one]
/-- how many of the reference's ways are one of the class's, for a letter -/
noncomputable def fcS (η : HP) (r g n : Nat) : Nat := @ite _ (drS (pE η) n) (Classical.propDecidable _) 1 (if r = 0 then tiO g else 1)
noncomputable def PF (η : HP) (r g : Nat) : Nat → Nat
  | 0 => 1
  | n + 1 => PF η r g n * fcS η r g (n + 1)
theorem fcS_pos (hg1 : 1 ≤ g) (n : Nat) : 0 < fcS η r g n := by
  unfold fcS tiO
  split
  · omega
  · split
    · split <;> omega
    · omega
theorem PF_pos (hg1 : 1 ≤ g) : ∀ n, 0 < PF η r g n := by
  intro n
  induction n with
  | zero => exact Nat.one_pos
  | succ n ih => rw [PF]; exact Nat.mul_pos ih (fcS_pos hg1 _)
def cidx (B x : Nat) : Nat := rk (dU x) B * 6 + dK x
theorem cidx_enc {B : Nat} (hB5 : B ≤ 5) {u : Nat → Nat} {s : Nat} (h : ∀ b, u b ≤ 8) : cidx B (enc u s) = rk u B * 6 + s := by
  unfold cidx
  rw [dK_enc h, rk_c (v := u) (fun b hb => dU_enc h b (by omega))]
theorem lbS_goT (hη : HPok η) {u : Nat → Nat} {b n : Nat} (hb : b < pB η) (h : sm (pB η) u < sm (pB η) (pR η)) : lbS η u n b = some (rk (mvH η (ldH η u b) n) (pB η)) := by
  obtain ⟨t, ht⟩ := goT_none hη (u := u) hb h
  unfold lbS
  rw [ht]
theorem cwN_hi (hη : HPok η) {u : Nat → Nat} {sl i : Nat} (hi : pB η ≤ i / 6) : cwN η u r h g sl i = 0 := by
  unfold cwN cwB
  split
  · rw [if_neg (by omega)]
  · split
    · rw [if_neg (by omega)]
    · unfold cwE
      refine sm_z (fun m hm => if_neg (fun q => ?_))
      obtain ⟨q1, q2⟩ := q
      have e := (ixS_lt hη (u := u) (r := r) (sl := sl) hm q1).2
      have t := (tkM_some hη (u := u) (r := r) (sl := sl) hm q1).2
      rw [q2] at e
      omega
/-- one letter: the reference's step is the class's, but for the factor -/
theorem TL_W1 (hη : HPok η) (hg1 : 1 ≤ g) (hg : g ≤ 3) (hr : r ≤ 4) {n x : Nat} (hx : VK x) (hs : r ≠ 4 → dK x = 0) (h7 : sm (pB η) (dU x) < sm (pB η) (pR η)) (F : Nat → Nat) : TL η r h g n (fun y => F (cidx (pB η) y)) x = fcS η r g n * W1 η (dU x) r h g n (dK x) F := by
  obtain ⟨j1, j2, j3, j4, j5, j6, j7⟩ := id hη
  have hk5 := dK_le hx
  have d8 := dU_le x
  rcases drS_dec (pE η) n with q | q
  · rw [TL_d q]
    unfold fcS
    rw [if_pos q, Nat.one_mul]
    unfold W1 outD
    rw [cidx_enc j2 (mvH_le hη (ldH_le hη j5 d8)), sm_one j5]
    · rw [lbS_goT hη j5 h7]
      unfold gFS
      dsimp only
      rw [sm_one (k := dK x) (by omega)]
      · unfold cw
        rw [if_pos q, if_pos rfl, Nat.one_mul]
      · intro s hs6 hne
        unfold cw
        rw [if_pos q, if_neg (by omega), Nat.zero_mul]
    · intro t ht hne
      rw [lbS_goT hη ht h7]
      unfold gFS
      dsimp only
      refine sm_z (fun s hs6 => ?_)
      unfold cw
      rw [if_pos q, if_neg (by omega), Nat.zero_mul]
  · rw [TL_g q]
    have e1 : TG η r h g n (fun y => F (cidx (pB η) y)) x = gsm (pB η) (pW η) g (fun y => sm (tnS (dU x) y (pB η) r g) (fun t => (if r = 0 then tiO g / tnS (dU x) y (pB η) r g else 1) * (fun i => F (rk (mvH η (ldH η (dU x) (i / 6)) n) (pB η) * 6 + i % 6)) (jxS η (dU x) r h g (dK x) y t))) := by
      rw [TG_gsm]
      unfold gsm
      refine sm_c (fun m hm => ?_)
      congr 1
      refine sm_c (fun t ht => ?_)
      congr 1
      obtain ⟨b, tb, hb⟩ := tkS_some (u := dU x) (x := tg (pB η) g m) (r := r) (h := h) (sl := dK x) hg1 (fun i _ => tg_lt (by omega) g m i) ht
      have etk : tkG η r h g x m t = b := by unfold tkG; rw [tb]; rfl
      unfold outG
      rw [etk, cidx_enc j2 (mvH_le hη (ldH_le hη hb d8))]
      have hsp : spS η (dU x) r (dK x) b (msk (tg (pB η) g m) g) ≤ 5 := spS_le hη hk5
      have ej : jxS η (dU x) r h g (dK x) (tg (pB η) g m) t = b * 6 + spS η (dU x) r (dK x) b (msk (tg (pB η) g m) g) := by
        unfold jxS spS
        rw [tb]
        show b * 6 + _ = _
        congr 1
        by_cases r4 : r = 4
        · rw [if_pos r4, if_pos r4]
          rfl
        · rw [if_neg r4, if_neg r4, hs r4]
      dsimp only
      rw [ej, show (b * 6 + spS η (dU x) r (dK x) b (msk (tg (pB η) g m) g)) / 6 = b by omega, show (b * 6 + spS η (dU x) r (dK x) b (msk (tg (pB η) g m) g)) % 6 = spS η (dU x) r (dK x) b (msk (tg (pB η) g m) g) by omega]
    refine (e1.trans (T_eq hη hg1 hg hr hs (dU x) (fun i => F (rk (mvH η (ldH η (dU x) (i / 6)) n) (pB η) * 6 + i % 6)))).trans ?_
    unfold fcS
    rw [if_neg q]
    congr 1
    unfold W1
    rw [show 30 = 5 * 6 from rfl, sm_pair, show 5 = pB η + (5 - pB η) by omega, sm_app, sm_z (n := 5 - pB η) (fun t _ => sm_z (fun s hs6 => by rw [cwN_hi hη (by omega), Nat.zero_mul])), Nat.add_zero]
    refine sm_c (fun t ht => ?_)
    rw [lbS_goT hη ht h7]
    unfold gFS
    dsimp only
    refine sm_c (fun s hs6 => ?_)
    unfold cw
    rw [if_neg q, show (t * 6 + s) / 6 = t by omega, show (t * 6 + s) % 6 = s by omega]
    rfl
end EE
