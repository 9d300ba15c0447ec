/-! the class's product -/
def PG (w : GW) (k V : Nat) : Prop := ∃ p : Nat → Nat, (∀ j, j < 18 → gL w (k + 1) j = lN (p j) ∧ p j < 16777216) ∧ vl 16777216 18 p = V
theorem PG.sm {L : List (Nat × Nat × Nat)} {R : List Nat} {w w' : GW} {k V : Nat} (H : PG w k V) (S : Sm L R w w') (h : ∀ j, md L (k + 1) j = false) : PG w' k V := by
  obtain ⟨d, h1, h2⟩ := H
  exact ⟨d, fun j hj => ⟨by rw [S.L (k + 1) j (h j)]; exact (h1 j hj).1, (h1 j hj).2⟩, h2⟩
theorem vl_sh (b m n : Nat) (p : Nat → Nat) : vl b (n + 1) (fun j => if 1 ≤ j then p (j - 1) * m else 0) = m * b * vl b n p := by
  induction n with
  | zero => rw [vl_s, vl_0, vl_0, if_neg (by omega), Nat.zero_mul, Nat.mul_zero]
  | succ n ih =>
    rw [vl_s, ih, vl_s, if_pos (by omega), Nat.mul_add, Nat.add_sub_cancel, Nat.pow_succ]
    congr 1
    rw [Nat.mul_comm (p n) m, Nat.mul_assoc, Nat.mul_assoc, Nat.mul_comm (b ^ n) b, Nat.mul_left_comm (p n) b]
theorem vl_sh2 (b m n : Nat) (p : Nat → Nat) : vl b (n + 2) (fun j => if 2 ≤ j then p (j - 2) * m else 0) = m * (b * b) * vl b n p := by
  induction n with
  | zero => rw [vl_s, vl_s, vl_0, vl_0, if_neg (by omega), if_neg (by omega), Nat.zero_mul, Nat.zero_mul, Nat.mul_zero]
  | succ n ih =>
    rw [vl_s, ih, vl_s, if_pos (by omega), Nat.mul_add, Nat.add_sub_cancel, Nat.pow_succ, Nat.pow_succ]
    congr 1
    ac_rfl
theorem vl_add (b n : Nat) (p q : Nat → Nat) : vl b n (fun j => p j + q j) = vl b n p + vl b n q := by
  unfold vl
  rw [← sm_add]
  exact sm_c (fun j _ => Nat.add_mul _ _ _)
theorem vl_mul (b n m : Nat) (p : Nat → Nat) : vl b n (fun j => p j * m) = m * vl b n p := by
  unfold vl
  rw [← sm_mul]
  exact sm_c (fun j _ => by show p j * m * b ^ j = _; ac_rfl)
section PR
variable {k0 lo mi hi : Nat} {p : Nat → Nat}
def prq (p : Nat → Nat) (lo mi hi j : Nat) : Nat := p j * lo + (if 1 ≤ j then p (j - 1) * mi else 0) + (if 2 ≤ j then p (j - 2) * hi else 0)
theorem prq_v : ∃ c, vl 16777216 18 (prq p lo mi hi) + c * 16777216 ^ 18 = vl 16777216 18 p * (lo + mi * 16777216 + hi * (16777216 * 16777216)) := by
  have e : vl 16777216 18 (prq p lo mi hi) = lo * vl 16777216 18 p + mi * 16777216 * vl 16777216 17 p + hi * (16777216 * 16777216) * vl 16777216 16 p := by
    rw [← vl_mul, ← vl_sh 16777216 mi 17, ← vl_sh2 16777216 hi 16, ← vl_add, ← vl_add]
    rfl
  have e17 : vl 16777216 18 p = vl 16777216 17 p + p 17 * 16777216 ^ 17 := rfl
  have e16 : vl 16777216 17 p = vl 16777216 16 p + p 16 * 16777216 ^ 16 := rfl
  refine ⟨mi * p 17 + hi * p 16 + hi * 16777216 * p 17, ?_⟩
  have h17 : (16777216 : Nat) ^ 18 = 16777216 * 16777216 ^ 17 := by decide
  have h16 : (16777216 : Nat) ^ 18 = 16777216 * 16777216 * 16777216 ^ 16 := by decide
  have z1 : mi * 16777216 * (p 17 * 16777216 ^ 17) = mi * p 17 * 16777216 ^ 18 := by
    rw [h17]
    generalize 16777216 ^ 17 = Z
    ac_rfl
  have z2 : hi * (16777216 * 16777216) * (p 16 * 16777216 ^ 16) = hi * p 16 * 16777216 ^ 18 := by
    rw [h16]
    generalize 16777216 ^ 16 = Z
    ac_rfl
  have z3 : hi * (16777216 * 16777216) * (p 17 * 16777216 ^ 17) = hi * 16777216 * p 17 * 16777216 ^ 18 := by
    rw [h17]
    generalize 16777216 ^ 17 = Z
    ac_rfl
  have w1 : vl 16777216 18 p * (lo + mi * 16777216 + hi * (16777216 * 16777216)) = lo * vl 16777216 18 p + mi * 16777216 * vl 16777216 18 p + hi * (16777216 * 16777216) * vl 16777216 18 p := by
    rw [Nat.mul_add, Nat.mul_add, Nat.mul_comm _ lo, Nat.mul_comm _ (mi * 16777216), Nat.mul_comm _ (hi * (16777216 * 16777216))]
  have w2 : mi * 16777216 * vl 16777216 18 p = mi * 16777216 * vl 16777216 17 p + mi * p 17 * 16777216 ^ 18 := by rw [e17, Nat.mul_add, z1]
  have w3 : hi * (16777216 * 16777216) * vl 16777216 18 p = hi * (16777216 * 16777216) * vl 16777216 16 p + hi * p 16 * 16777216 ^ 18 + hi * 16777216 * p 17 * 16777216 ^ 18 := by rw [e17, e16, Nat.mul_add, Nat.mul_add, z2, z3]
  rw [e, w1, w2, w3, Nat.add_mul, Nat.add_mul]
  generalize 16777216 ^ 18 = Z at *
  omega
theorem mul_26 (hp : ∀ j, j < 18 → p j < 16777216) : ∀ i n w, i ≤ 18 → i < n → (∀ j, j < 18 → gL w (k0 + 1) j = lN (if j < i then p j else prq p lo mi hi j)) → ∃ w', f_X5_multiply_26 n k0 (lN lo) (lN mi) (lN hi) (kI i) w = f_X5_multiply_117 fu k0 0 0 w' ∧ ∀ j, j < 18 → gL w' (k0 + 1) j = lN (prq p lo mi hi j) := by
  intro i
  induction i with
  | zero =>
    intro n w hi2 hn h
    obtain ⟨n, rfl⟩ : ∃ m9, n = m9 + 1 := ⟨n - 1, by omega⟩
    refine ⟨w, ?_, fun j hj => by rw [h j hj, if_neg (by omega)]⟩
    rw [f_X5_multiply_26, kI_0, if_pos (by decide)]
  | succ i ih =>
    intro n w hi2 hn h
    obtain ⟨n, rfl⟩ : ∃ m9, n = m9 + 1 := ⟨n - 1, by omega⟩
    have hN : ∀ j, j < 18 → gL (sL w (k0 + 1) i (lN (prq p lo mi hi i))) (k0 + 1) j = lN (if j < i then p j else prq p lo mi hi j) := by
      intro j hj
      rw [gL_sL]
      by_cases z : j = i
      · rw [if_pos ⟨rfl, z⟩, if_neg (by omega), z]
      · rw [if_neg (fun y => z y.2), h j hj]
        by_cases z2 : j < i
        · rw [if_pos (by omega), if_pos z2]
        · rw [if_neg (by omega), if_neg z2]
    obtain ⟨w', a1, a2⟩ := ih n _ (by omega) (by omega) hN
    refine ⟨w', ?_, a2⟩
    have h0 := h i (by omega)
    rw [if_pos (by omega)] at h0
    have k93 : ∀ t0 t1, t1 + t0 = lN (prq p lo mi hi i) → f_X5_multiply_93 (f_X5_multiply_26 n) k0 (lN lo) (lN mi) (lN hi) (nI i) t0 t1 w = f_X5_multiply_117 fu k0 0 0 w' := by
      intro t0 t1 e
      rw [f_X5_multiply_93, if_pos ((inb_nI (by omega)).mpr (by omega)), ix_nI (by omega), kI_m, e]
      exact a1
    have k66 : ∀ t0 t1, t1 + t0 = lN (p i * lo + (if 1 ≤ i then p (i - 1) * mi else 0)) → f_X5_multiply_66 (f_X5_multiply_26 n) k0 (lN lo) (lN mi) (lN hi) (nI i) t0 t1 w = f_X5_multiply_117 fu k0 0 0 w' := by
      intro t0 t1 e
      rw [f_X5_multiply_66, show (2 : Int32) = nI 2 from rfl]
      by_cases z : i < 2
      · rw [if_pos ((lt_nI (by omega) (by omega)).mpr (by omega))]
        refine k93 _ _ ?_
        rw [e, show (0 : Int64) = lN 0 from rfl, lN_add]
        unfold prq
        rw [if_neg (show ¬ 2 ≤ i by omega)]
      · have h2 := h (i - 2) (by omega)
        rw [if_pos (by omega)] at h2
        rw [if_neg (fun q9 => absurd ((lt_nI (by omega) (by omega)).mp q9) (by omega)), pk_sub (by omega), if_pos ((inb_nI (by omega)).mpr (by omega)), ix_nI (by omega), h2, lN_mul]
        refine k93 _ _ ?_
        rw [e, lN_add]
        unfold prq
        rw [if_pos (show 2 ≤ i by omega)]
    rw [f_X5_multiply_26, kI_s, if_neg (lt0_nI (by omega)), if_pos ((inb_nI (by omega)).mpr (by omega)), ix_nI (by omega), h0, lN_mul, show (1 : Int32) = nI 1 from rfl]
    by_cases z : i < 1
    · rw [if_pos ((lt_nI (by omega) (by omega)).mpr (by omega))]
      refine k66 _ _ ?_
      rw [show (0 : Int64) = lN 0 from rfl, lN_add, if_neg (show ¬ 1 ≤ i by omega)]
    · have h1 := h (i - 1) (by omega)
      rw [if_pos (by omega)] at h1
      rw [if_neg (fun q9 => absurd ((lt_nI (by omega) (by omega)).mp q9) (by omega)), pk_sub (by omega), if_pos ((inb_nI (by omega)).mpr (by omega)), ix_nI (by omega), h1, lN_mul]
      refine k66 _ _ ?_
      rw [lN_add, if_pos (show 1 ≤ i by omega)]
theorem mul_117 {q : Nat → Nat} (hq : ∀ j, j < 18 → q j < 1125899906842624) : ∀ t i n w c, i + t = 18 → t < n → c < 134217728 → (∀ j, j < 18 → i ≤ j → gL w (k0 + 1) j = lN (q j)) → (∃ r : Nat → Nat, (∀ j, j < i → gL w (k0 + 1) j = lN (r j) ∧ r j < 16777216) ∧ vl 16777216 i r + c * 16777216 ^ i = vl 16777216 i q) → ∃ w' r c', f_X5_multiply_117 n k0 (lN c) (nI i) w = some ((), w') ∧ (∀ j, j < 18 → gL w' (k0 + 1) j = lN (r j) ∧ r j < 16777216) ∧ vl 16777216 18 r + c' * 16777216 ^ 18 = vl 16777216 18 q := by
  intro t
  induction t with
  | zero =>
    intro i n w c hi hn hc h1 h2
    obtain ⟨n, rfl⟩ : ∃ m9, n = m9 + 1 := ⟨n - 1, by omega⟩
    have : i = 18 := by omega
    subst this
    obtain ⟨r, r1, r2⟩ := h2
    refine ⟨w, r, c, ?_, r1, r2⟩
    rw [f_X5_multiply_117, show (18 : Int32) = nI 18 from rfl, if_pos ((le_nI (by omega) (by omega)).mpr (by omega))]
  | succ t ih =>
    intro i n w c hi hn hc h1 h2
    obtain ⟨n, rfl⟩ : ∃ m9, n = m9 + 1 := ⟨n - 1, by omega⟩
    obtain ⟨r, r1, r2⟩ := h2
    have hqi := hq i (by omega)
    have hgi := h1 i (by omega) (by omega)
    obtain ⟨w', r', c', a1, a2, a3⟩ := ih (i + 1) n (sL w (k0 + 1) i (lN ((q i + c) % 16777216))) ((q i + c) / 16777216) (by omega) (by omega) (by omega) (fun j hj hij => by rw [gL_sL, if_neg (fun z => by omega)]; exact h1 j hj (by omega)) ⟨fun j => if j = i then (q i + c) % 16777216 else r j, fun j hj => by
      rw [gL_sL]
      by_cases z : j = i
      · refine ⟨by show _ = lN (if j = i then _ else _); rw [if_pos ⟨rfl, z⟩, if_pos z], ?_⟩
        show (if j = i then _ else _) < _
        rw [if_pos z]
        exact Nat.mod_lt _ (by omega)
      · refine ⟨by show _ = lN (if j = i then _ else _); rw [if_neg (fun y => z y.2), if_neg z]; exact (r1 j (by omega)).1, ?_⟩
        show (if j = i then _ else _) < _
        rw [if_neg z]
        exact (r1 j (by omega)).2, by
      have e1 : vl 16777216 i (fun j => if j = i then (q i + c) % 16777216 else r j) = vl 16777216 i r := vl_c (fun j hj => if_neg (by omega))
      have e2 := tb_v (b := 16777216) (v := q i + c) (B := 16777216 ^ i)
      rw [vl_s, e1, if_pos rfl, vl_s, ← r2, Nat.pow_succ, Nat.mul_comm (16777216 ^ i) 16777216]
      rw [Nat.add_mul] at e2
      generalize 16777216 ^ i = B at *
      omega⟩
    refine ⟨w', r', c', ?_, a2, a3⟩
    rw [f_X5_multiply_117, show (18 : Int32) = nI 18 from rfl, if_neg (fun q9 => absurd ((le_nI (by omega) (by omega)).mp q9) (by omega)), if_pos ((inb_nI (by omega)).mpr (by omega)), if_pos ((inb_nI (by omega)).mpr (by omega)), ix_nI (by omega), hgi, lN_add, pf_shr (d := 24) (by decide) (by omega), show (16777215 : Int64) = lN (2 ^ 24 - 1) from rfl, fb_maskL, nI_1]
    exact a1
theorem multiply {w : GW} {V f : Nat} (hV : PG w k0 V) (hf : f < 1125899906842624) (hVf : V * f < 16777216 ^ 18) : ∃ w', f_X5_multiply k0 (lN f) w = some ((), w') ∧ PG w' k0 (V * f) := by
  obtain ⟨p, p1, p2⟩ := hV
  have hp : ∀ j, j < 18 → p j < 16777216 := fun j hj => (p1 j hj).2
  have e1 : lN f &&& 16777215 = lN (f % 16777216) := by rw [show (16777215 : Int64) = lN (2 ^ 24 - 1) from rfl, fb_maskL]
  have e2 : (lN f >>> ((24 : Int32).toInt64 &&& 63)) &&& 16777215 = lN (f / 16777216 % 16777216) := by rw [pf_shr (d := 24) (by decide) (by omega), show (16777215 : Int64) = lN (2 ^ 24 - 1) from rfl, fb_maskL]
  have e3 : lN f >>> ((48 : Int32).toInt64 &&& 63) = lN (f / 281474976710656) := by rw [pf_shr (d := 48) (by decide) (by omega)]
  have hlo : f % 16777216 < 16777216 := Nat.mod_lt _ (by omega)
  have hmi : f / 16777216 % 16777216 < 16777216 := Nat.mod_lt _ (by omega)
  have hhi : f / 281474976710656 < 16777216 := by omega
  have hff : f % 16777216 + f / 16777216 % 16777216 * 16777216 + f / 281474976710656 * (16777216 * 16777216) = f := by omega
  obtain ⟨w1, a1, a2⟩ := mul_26 (k0 := k0) (lo := f % 16777216) (mi := f / 16777216 % 16777216) (hi := f / 281474976710656) hp 18 fu w (by omega) (fu_gt (by omega)) (fun j hj => by rw [if_pos hj]; exact (p1 j hj).1)
  have hq : ∀ j, j < 18 → prq p (f % 16777216) (f / 16777216 % 16777216) (f / 281474976710656) j < 1125899906842624 := by
    intro j hj
    have b1 : p j * (f % 16777216) ≤ 16777215 * 16777215 := Nat.mul_le_mul (by have := hp j hj; omega) (by omega)
    have b2 : (if 1 ≤ j then p (j - 1) * (f / 16777216 % 16777216) else 0) ≤ 16777215 * 16777215 := by
      split
      · exact Nat.mul_le_mul (by have := hp (j - 1) (by omega); omega) (by omega)
      · omega
    have b3 : (if 2 ≤ j then p (j - 2) * (f / 281474976710656) else 0) ≤ 16777215 * 16777215 := by
      split
      · exact Nat.mul_le_mul (by have := hp (j - 2) (by omega); omega) (by omega)
      · omega
    unfold prq
    omega
  obtain ⟨w2, r, c, b1, b2, b3⟩ := mul_117 (k0 := k0) hq 18 0 fu w1 0 (by omega) (fu_gt (by omega)) (by omega) (fun j hj _ => a2 j hj) ⟨fun _ => 0, fun j hj => by omega, rfl⟩
  refine ⟨w2, ?_, r, b2, ?_⟩
  · rw [f_X5_multiply, e1, e2, e3, show (17 : Int32) = kI 18 from rfl, a1]
    exact b1
  · obtain ⟨c2, h2⟩ := prq_v (p := p) (lo := f % 16777216) (mi := f / 16777216 % 16777216) (hi := f / 281474976710656)
    rw [hff, p2] at h2
    have hc : c + c2 = 0 := by
      rcases Nat.eq_zero_or_pos (c + c2) with z | z
      · exact z
      · have : 1 * 16777216 ^ 18 ≤ (c + c2) * 16777216 ^ 18 := Nat.mul_le_mul_right _ z
        rw [Nat.one_mul, Nat.add_mul] at this
        generalize 16777216 ^ 18 = Z at *
        omega
    have hc1 : c = 0 := by omega
    have hc2 : c2 = 0 := by omega
    subst hc1 hc2
    rw [Nat.zero_mul, Nat.add_zero] at h2 b3
    rw [b3, h2]
end PR
theorem isAbove {w : GW} {k0 k1 V U : Nat} (hV : PG w k0 V) (hU : PG w k1 U) : f_X5_isAbove k0 k1 w = some (if U < V then 1 else 0, w) := by
  obtain ⟨d, d1, rfl⟩ := hV
  obtain ⟨e, e1, rfl⟩ := hU
  have key : ∀ i n, i ≤ 18 → i < n → f_X5_isAbove_3 n k0 k1 (kI i) w = some (if vl 16777216 i e < vl 16777216 i d then 1 else 0, w) := by
    intro i
    induction i with
    | zero =>
      intro n hi hn
      obtain ⟨n, rfl⟩ : ∃ m9, n = m9 + 1 := ⟨n - 1, by omega⟩
      rw [f_X5_isAbove_3, kI_0, if_pos (by decide)]
      rfl
    | succ i ih =>
      intro n hi hn
      obtain ⟨n, rfl⟩ : ∃ m9, n = m9 + 1 := ⟨n - 1, by omega⟩
      have q := ih n (by omega) (by omega)
      have di := d1 i (by omega)
      have ei := e1 i (by omega)
      rw [f_X5_isAbove_3, kI_s, if_neg (lt0_nI (by omega)), if_pos ((inb_nI (by omega)).mpr (by omega)), if_pos ((inb_nI (by omega)).mpr (by omega)), ix_nI (by omega), di.1, ei.1]
      by_cases z : d i = e i
      · rw [if_pos ((leq (by omega) (by omega)).mpr z), kI_m, q, vl_s, vl_s, z]
        by_cases y : vl 16777216 i e < vl 16777216 i d
        · rw [if_pos y, if_pos (by omega)]
        · rw [if_neg y, if_neg (by omega)]
      · rw [if_neg (fun y => z ((leq (by omega) (by omega)).mp y)), if_pos ((inb_nI (by omega)).mpr (by omega)), if_pos ((inb_nI (by omega)).mpr (by omega))]
        by_cases z2 : d i ≤ e i
        · have hlt := vl_top (b := 16777216) (i := i) (d := d) (e := e) (fun j hj => (d1 j (by omega)).2) (by omega)
          rw [if_pos ((lle (by omega) (by omega)).mpr z2), if_neg (by omega)]
        · have hlt := vl_top (b := 16777216) (i := i) (d := e) (e := d) (fun j hj => (e1 j (by omega)).2) (by omega)
          rw [if_neg (fun y => z2 ((lle (by omega) (by omega)).mp y)), if_pos (by omega)]
  rw [f_X5_isAbove, show (17 : Int32) = kI 18 from rfl]
  exact key 18 fu (by omega) (fu_gt (by omega))
theorem pbecome {w : GW} {k0 x : Nat} (hx : x < 16777216) : ∃ w', f_X5_become k0 (lN x) w = some ((), w') ∧ PG w' k0 x := by
  have key : ∀ t i n w, i + t = 18 → t < n → (∀ j, j < i → gL w (k0 + 1) j = 0) → ∃ w', f_X5_become_2 n k0 (lN x) (nI i) w = some ((), w') ∧ PG w' k0 x := by
    intro t
    induction t with
    | zero =>
      intro i n w hi hn h0
      obtain ⟨n, rfl⟩ : ∃ m9, n = m9 + 1 := ⟨n - 1, by omega⟩
      refine ⟨sL w (k0 + 1) 0 (lN x), ?_, fun j => if j = 0 then x else 0, fun j hj => ⟨?_, ?_⟩, ?_⟩
      · rw [f_X5_become_2, show (18 : Int32) = nI 18 from rfl, if_pos ((le_nI (by omega) (by omega)).mpr (by omega)), if_pos (show inb _ _ from by decide), show ix (0 : Int32) = 0 from by decide]
      · rw [gL_sL]
        show _ = lN (if j = 0 then x else 0)
        by_cases q : j = 0
        · rw [if_pos ⟨rfl, q⟩, if_pos q]
        · rw [if_neg (fun z => q z.2), if_neg q, h0 j (by omega)]; rfl
      · show (if j = 0 then x else 0) < 16777216
        split <;> omega
      · unfold vl
        rw [sm_one (k := 0) (by omega) _ (fun j hj hne => by show (if j = 0 then x else 0) * _ = 0; rw [if_neg hne, Nat.zero_mul])]
        show (if 0 = 0 then x else 0) * 1 = x
        rw [if_pos rfl, Nat.mul_one]
    | succ t ih =>
      intro i n w hi hn h0
      obtain ⟨n, rfl⟩ : ∃ m9, n = m9 + 1 := ⟨n - 1, by omega⟩
      rw [f_X5_become_2, show (18 : Int32) = nI 18 from rfl, if_neg (fun q9 => absurd ((le_nI (by omega) (by omega)).mp q9) (by omega)), if_pos ((inb_nI (by omega)).mpr (by omega)), ix_nI (by omega), nI_1]
      refine ih (i + 1) n _ (by omega) (by omega) (fun j hj => ?_)
      rw [gL_sL]
      by_cases q : j = i
      · rw [if_pos ⟨rfl, q⟩]
      · rw [if_neg (fun z => q z.2)]; exact h0 j (by omega)
  rw [f_X5_become, show (0 : Int32) = nI 0 from rfl]
  exact key 18 0 fu w (by omega) (fu_gt (by omega)) (fun j hj => by omega)
theorem pcopy {w : GW} {k0 k1 V : Nat} (hk : k0 ≠ k1) (hV : PG w k1 V) : ∃ w', f_X5_copy k0 k1 w = some ((), w') ∧ PG w' k0 V := by
  obtain ⟨d, d1, d2⟩ := hV
  have key : ∀ t i n w, i + t = 18 → t < n → (∀ j, j < 18 → gL w (k1 + 1) j = lN (d j)) → (∀ j, j < i → gL w (k0 + 1) j = lN (d j)) → ∃ w', f_X5_copy_2 n k0 k1 (nI i) w = some ((), w') ∧ PG w' k0 V := by
    intro t
    induction t with
    | zero =>
      intro i n w hi hn h1 h0
      obtain ⟨n, rfl⟩ : ∃ m9, n = m9 + 1 := ⟨n - 1, by omega⟩
      refine ⟨w, ?_, d, fun j hj => ⟨h0 j (by omega), (d1 j hj).2⟩, d2⟩
      rw [f_X5_copy_2, show (18 : Int32) = nI 18 from rfl, if_pos ((le_nI (by omega) (by omega)).mpr (by omega))]
    | succ t ih =>
      intro i n w hi hn h1 h0
      obtain ⟨n, rfl⟩ : ∃ m9, n = m9 + 1 := ⟨n - 1, by omega⟩
      rw [f_X5_copy_2, show (18 : Int32) = nI 18 from rfl, if_neg (fun q9 => absurd ((le_nI (by omega) (by omega)).mp q9) (by omega)), if_pos ((inb_nI (by omega)).mpr (by omega)), if_pos ((inb_nI (by omega)).mpr (by omega)), ix_nI (by omega), h1 i (by omega), nI_1]
      refine ih (i + 1) n _ (by omega) (by omega) (fun j hj => ?_) (fun j hj => ?_)
      · rw [gL_sL, if_neg (fun z => hk (by omega))]; exact h1 j hj
      · rw [gL_sL]
        by_cases q : j = i
        · rw [if_pos ⟨rfl, q⟩, q]
        · rw [if_neg (fun z => q z.2)]; exact h0 j (by omega)
  rw [f_X5_copy, show (0 : Int32) = nI 0 from rfl]
  exact key 18 0 fu w (by omega) (fu_gt (by omega)) (fun j hj => (d1 j hj).1) (fun j hj => by omega)
