theorem lN63 {n : Nat} (h : n < 9223372036854775808) : (lN n).toInt = (n : Int) := lg_ofNat_toInt (by omega)
theorem lle {a b : Nat} (ha : a < 9223372036854775808) (hb : b < 9223372036854775808) : lN a ≤ lN b ↔ a ≤ b := by
  rw [Int64.le_iff_toInt_le, lN63 ha, lN63 hb]; omega
theorem llt {a b : Nat} (ha : a < 9223372036854775808) (hb : b < 9223372036854775808) : lN a < lN b ↔ a < b := by
  rw [Int64.lt_iff_toInt_lt, lN63 ha, lN63 hb]; omega
theorem leq {a b : Nat} (ha : a < 9223372036854775808) (hb : b < 9223372036854775808) : lN a = lN b ↔ a = b := fb_lN_inj (by omega) (by omega)
theorem lle0 {a : Nat} (h : a < 9223372036854775808) : lN a ≤ 0 ↔ a = 0 := (lle (b := 0) h (by omega)).trans (by omega)
theorem leq0 {a : Nat} (h : a < 9223372036854775808) : lN a = 0 ↔ a = 0 := leq (b := 0) h (by omega)
/-- as the table has it: or no more than whether there is a way -/
def nrm (fl a : Nat) : Nat := if fl = 0 then a else if a = 0 then 0 else 1
theorem nrm_0 (fl : Nat) : nrm fl 0 = 0 := by unfold nrm; split <;> rfl
theorem nrm_z {fl a : Nat} : nrm fl a = 0 ↔ a = 0 := by
  unfold nrm
  split
  · exact Iff.rfl
  · split <;> omega
def WT (w : GW) (A : Nat → Nat) (fl M : Nat) : Prop := ∀ j, j < M → gL w 111 j = lN (nrm fl (A j))
def DX (w : GW) (η : HP) (r h g most : Nat) : Prop := HX w η ∧ CX w η r h g ∧ (∀ m, m < 32 → gL w 69 m = lN (snS (pB η) (pW η) g m)) ∧ LIE w (pB η) most (fun _ => True) ∧ ∀ c, pB η ≤ c → c < 5 → gI w 113 c = 0
theorem DX.sm {L : List (Nat × Nat × Nat)} {R : List Nat} {w w' : GW} {η : HP} {r h g most : Nat} (D : DX w η r h g most) (S : Sm L R w w') (h1 : ∀ p j, p ≤ 70 ∨ p = 112 ∨ p = 113 ∨ p = 116 → md L p j = false) (h3 : 3 ∉ R) (h4 : 4 ∉ R) (h5 : 5 ∉ R) : DX w' η r h g most := by
  obtain ⟨d1, d2, d3, d4, d5⟩ := D
  refine ⟨d1.sm S (fun p j hp => h1 p j (by omega)) h3, d2.sm S (fun p j hp => h1 p j (by omega)) h4 h5, fun m hm => ?_, fun v a b c => ?_, fun c a b => ?_⟩
  · rw [S.L 69 m (h1 _ _ (by omega))]; exact d3 m hm
  · rw [S.I 112 _ (h1 _ _ (by omega))]; exact d4 v a b c
  · rw [S.I 113 c (h1 _ _ (by omega))]; exact d5 c a b
theorem DX.oL {w w' : GW} {η : HP} {r h g most k : Nat} (D : DX w η r h g most) (o : oL k w w') (hk : k ≠ 69) : DX w' η r h g most := by
  obtain ⟨d1, d2, d3, d4, d5⟩ := D
  refine ⟨d1.of o.1 (o.2.1 3), d2.of o, fun m hm => ?_, fun v a b c => ?_, fun c a b => ?_⟩
  · rw [o.2.2 69 m (fun q => hk q.symm)]; exact d3 m hm
  · rw [o.1]; exact d4 v a b c
  · rw [o.1]; exact d5 c a b
theorem Sm.stI {k j : Nat} {w : GW} {v : Int32} (L : List (Nat × Nat × Nat)) (h : (k, k + 1, 0) ∈ L) : Sm L [] w (sI w k j v) := by
  refine ⟨fun p i hp => ⟨?_, rfl⟩, fun _ _ => rfl⟩
  rw [gI_sI]
  by_cases q : p = k ∧ i = j
  · rw [md_of h (by omega) (by omega) (Or.inl rfl)] at hp; cases hp
  · rw [if_neg q]
theorem CX.oN {w w' : GW} {k : Nat} {η : HP} {r h g : Nat} (H : CX w η r h g) (hk : 69 ≤ k) (h116 : k ≠ 116) (o : oN k w w') : CX w' η r h g := by
  unfold CX
  rw [o.2.1, o.2.1]
  have z := fxP_z (gR w 5)
  obtain ⟨p1, p2, p3⟩ := H.2
  refine ⟨HCl.of2 H.1 (fun p j hp => o.1 p j (by omega)), ?_⟩
  exact ⟨(o.1 _ _ (by omega)).trans p1, (o.1 _ _ (by omega)).trans p2, fun q => (o.1 _ _ (by omega)).trans (p3 q)⟩
theorem DX.oN {w w' : GW} {η : HP} {r h g most k : Nat} (D : DX w η r h g most) (hk : 69 ≤ k) (h116 : k ≠ 116) (h112 : k ≠ 112) (o : oN k w w') (hz : ∀ c, pB η ≤ c → c < 5 → gI w' 113 c = gI w 113 c) : DX w' η r h g most := by
  obtain ⟨d1, d2, d3, d4, d5⟩ := D
  refine ⟨d1.oN (by omega) o, d2.oN hk h116 o, fun m hm => ?_, fun v a b c => ?_, fun c a b => ?_⟩
  · rw [o.2.2]; exact d3 m hm
  · rw [o.1 _ _ (fun q => h112 q.symm)]; exact d4 v a b c
  · rw [hz c a b]; exact d5 c a b
def pasA (A c : Nat → Nat) (bh a s : Nat) : Nat → Nat := fun j => A j + (if bh * 6 ≤ j ∧ j < bh * 6 + s then a * c (j - bh * 6) else 0)
theorem pasA_sum (A c F : Nat → Nat) {bh a : Nat} (hb : bh < 1287) : sm 7722 (fun j => pasA A c bh a 6 j * F j) = sm 7722 (fun j => A j * F j) + a * sm 6 (fun s => c s * F (bh * 6 + s)) := by
  have e : sm 7722 (fun j => (if bh * 6 ≤ j ∧ j < bh * 6 + 6 then a * c (j - bh * 6) else 0) * F j) = a * sm 6 (fun s => c s * F (bh * 6 + s)) := by
    rw [show 7722 = 1287 * 6 from rfl, sm_pair, sm_one hb, ← sm_mul]
    · refine sm_c (fun s hs => ?_)
      rw [if_pos ⟨by omega, by omega⟩, show bh * 6 + s - bh * 6 = s by omega, Nat.mul_assoc]
    · intro i hi q
      refine sm_z (fun s hs => ?_)
      rw [if_neg (by omega), Nat.zero_mul]
  rw [← e, ← sm_add]
  exact sm_c (fun j _ => by unfold pasA; rw [Nat.add_mul])
section PO
variable {fl M : Nat}
theorem passOn_13 {A c : Nat → Nat} {bh a taken : Nat} (hfl : fl = 0 ∨ fl = 1) (ht : taken < 5) (hM : M ≤ 7722) (hbh : bh * 6 + 6 ≤ M) (hc : ∀ s, s < 6 → c s < 2147483648) (ha : 0 < a) : ∀ d s n w, s + d = 6 → d < n → WT w (pasA A c bh a s) fl M → (∀ s, s < 6 → gL w 71 (taken * 6 + s) = lN (c s)) → gI w 115 taken = nI bh → ∃ w', f_X0_passOn_13 n (nI taken) (lN (nrm fl a)) (nI fl) (nI s) w = some ((), w') ∧ oL 111 w w' ∧ WT w' (pasA A c bh a 6) fl M := by
  intro d
  induction d with
  | zero =>
    intro s n w hs hn hW h71 h115
    obtain ⟨n, rfl⟩ : ∃ m9, n = m9 + 1 := ⟨n - 1, by omega⟩
    have : s = 6 := by omega
    subst this
    refine ⟨w, ?_, oL.rf, hW⟩
    rw [f_X0_passOn_13, show (6 : Int32) = nI 6 from rfl, if_pos ((le_nI (by omega) (by omega)).mpr (by omega))]
  | succ d ih =>
    intro s n w hs hn hW h71 h115
    obtain ⟨n, rfl⟩ : ∃ m9, n = m9 + 1 := ⟨n - 1, by omega⟩
    have hcs := hc s (by omega)
    have hst : ∀ j, pasA A c bh a (s + 1) j = if j = bh * 6 + s then pasA A c bh a s j + a * c s else pasA A c bh a s j := by
      intro j
      unfold pasA
      by_cases q : j = bh * 6 + s
      · subst q
        rw [if_pos rfl, if_pos ⟨by omega, by omega⟩, if_neg (by omega), show bh * 6 + s - bh * 6 = s by omega, Nat.add_zero]
      · rw [if_neg q]
        by_cases q2 : bh * 6 ≤ j ∧ j < bh * 6 + s
        · rw [if_pos q2, if_pos ⟨q2.1, by omega⟩]
        · rw [if_neg q2, if_neg (by omega)]
    rw [f_X0_passOn_13, show (6 : Int32) = nI 6 from rfl, if_neg (fun q9 => absurd ((le_nI (by omega) (by omega)).mp q9) (by omega)), pk_mul, nI_add, show (30 : Nat) = 30 from rfl, if_pos ((inb_nI (by omega)).mpr (by omega)), ix_nI (by omega), h71 s (by omega)]
    by_cases q : c s = 0
    · rw [if_pos ((lle0 (by omega)).mpr q), f_X0_passOn_86, nI_1]
      refine ih (s + 1) n w (by omega) (by omega) (fun j hj => ?_) h71 h115
      rw [hst, q, Nat.mul_zero, Nat.add_zero, ite_self]
      exact hW j hj
    · have hpos : 0 < a * c s := Nat.mul_pos ha (by omega)
      have key : ∀ v : Int64, v = lN (nrm fl (pasA A c bh a (s + 1) (bh * 6 + s))) → ∃ w', f_X0_passOn_85 (f_X0_passOn_13 n) (nI taken) (lN (nrm fl a)) (nI fl) (nI s) v (nI (bh * 6 + s)) w = some ((), w') ∧ oL 111 w w' ∧ WT w' (pasA A c bh a 6) fl M := by
        intro v hv
        obtain ⟨w', e1, e2, e3⟩ := ih (s + 1) n (sL w 111 (bh * 6 + s) v) (by omega) (by omega) (fun j hj => by
          rw [gL_sL]
          by_cases z : j = bh * 6 + s
          · rw [if_pos ⟨rfl, z⟩, hv, z]
          · rw [if_neg (fun zz => z zz.2), hW j hj, hst, if_neg z]) (fun s' hs' => by rw [gL_sL, if_neg (by omega)]; exact h71 s' hs') h115
        refine ⟨w', ?_, (oL.st _ _ _ _).tr e2, e3⟩
        rw [f_X0_passOn_85, show (7722 : Nat) = 7722 from rfl, if_pos ((inb_nI (by omega)).mpr (by omega)), f_X0_passOn_86, ix_nI (by omega), nI_1]
        exact e1
      rw [if_neg (fun z => q ((lle0 (by omega)).mp z)), if_pos ((inb_nI (by omega)).mpr (by omega))]
      rcases hfl with rfl | rfl
      · rw [if_pos (show nI 0 = 0 from rfl), ix_nI (by omega), h115, pk_mul, nI_add, show (7722 : Nat) = 7722 from rfl, if_pos ((inb_nI (by omega)).mpr (by omega)), ix_nI (by omega), hW _ (by omega)]
        refine key _ ?_
        show lN (nrm 0 _) + lN (nrm 0 a) * lN (c s) = _
        rw [lN_mul, lN_add, hst, if_pos rfl]
        rfl
      · rw [if_neg (by decide), ix_nI (by omega), h115, pk_mul, nI_add]
        refine key 1 ?_
        rw [hst, if_pos rfl]
        unfold nrm
        rw [if_neg (by decide), if_neg (by omega)]
        rfl
def gFS (c : Nat → Nat) (o : Option Nat) (taken : Nat) (F : Nat → Nat) : Nat := match o with
  | none => 0
  | some b => sm 6 (fun s => c (taken * 6 + s) * F (b * 6 + s))
theorem passOn {w : GW} {A c : Nat → Nat} {o : Option Nat} {a taken : Nat} (hfl : fl = 0 ∨ fl = 1) (ht : taken < 5) (hM : M ≤ 7722) (ho : ∀ b, o = some b → b * 6 + 6 ≤ M) (hc : ∀ s, s < 30 → c s < 2147483648) (ha : 0 < a) (hW : WT w A fl M) (h71 : ∀ s, s < 30 → gL w 71 s = lN (c s)) (h115 : gI w 115 taken = oI o) : ∃ A' w', f_X0_passOn (nI taken) (lN (nrm fl a)) (nI fl) w = some ((), w') ∧ oL 111 w w' ∧ WT w' A' fl M ∧ (∀ F, sm 7722 (fun j => A' j * F j) = sm 7722 (fun j => A j * F j) + a * gFS c o taken F) ∧ ∀ j, (∀ b, o = some b → j < b * 6) → A' j = A j := by
  rw [f_X0_passOn, if_pos ((inb_nI (by omega)).mpr (by omega)), ix_nI (by omega), h115]
  cases o with
  | none =>
    rw [if_neg (show ¬ (0 : Int32) ≤ oI none from by decide)]
    exact ⟨A, w, rfl, oL.rf, hW, fun F => by unfold gFS; rw [Nat.mul_zero, Nat.add_zero], fun _ _ => rfl⟩
  | some b =>
    have hb := ho b rfl
    rw [if_pos (show (0 : Int32) ≤ oI (some b) from nI_pos' (by omega)), show (0 : Int32) = nI 0 from rfl]
    have hA0 : pasA A (fun s => c (taken * 6 + s)) b a 0 = A := by
      funext j
      unfold pasA
      rw [if_neg (by omega), Nat.add_zero]
    obtain ⟨w', e1, e2, e3⟩ := passOn_13 (A := A) (c := fun s => c (taken * 6 + s)) (bh := b) (a := a) (taken := taken) hfl ht hM hb (fun s hs => hc _ (by omega)) ha 6 0 fu w (by omega) (fu_gt (by omega)) (by rw [hA0]; exact hW) (fun s hs => h71 _ (by omega)) h115
    refine ⟨_, w', e1, e2, e3, fun F => pasA_sum _ _ _ (by omega), fun j hj => ?_⟩
    have := hj b rfl
    unfold pasA
    rw [if_neg (by omega), Nat.add_zero]
end PO
