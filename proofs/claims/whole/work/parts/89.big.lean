/-! numbers in figures: the reference's and the class's -/
theorem pf_lI {a : Nat} (h : a < 2 ^ 63) : (lN a).toInt = (a : Int) := lg_ofNat_toInt h
theorem pf_shr {a d : Nat} {D : Int64} (hD : (D.toBitVec.smod 64).toNat = d) (h : a < 2 ^ 62) : lN a >>> D = lN (a / 2 ^ d) := by
  have hd : a / 2 ^ d ≤ a := Nat.div_le_self _ _
  apply Int64.toInt_inj.mp
  have e : (lN a >>> D).toInt = (lN a).toInt >>> d := by
    rw [← hD]
    exact BitVec.toInt_sshiftRight ..
  rw [e, Int.shiftRight_eq_div_pow, pf_lI (by omega), pf_lI (by omega)]
  rfl
def vl (b n : Nat) (d : Nat → Nat) : Nat := sm n (fun j => d j * b ^ j)
theorem vl_s (b n : Nat) (d : Nat → Nat) : vl b (n + 1) d = vl b n d + d n * b ^ n := rfl
theorem vl_0 (b : Nat) (d : Nat → Nat) : vl b 0 d = 0 := rfl
theorem vl_c {b n : Nat} {d e : Nat → Nat} (h : ∀ j, j < n → d j = e j) : vl b n d = vl b n e := sm_c (fun j hj => by rw [h j hj])
theorem vl_lt {b : Nat} {d : Nat → Nat} : ∀ n, (∀ j, j < n → d j < b) → vl b n d < b ^ n := by
  intro n
  induction n with
  | zero => intro _; rw [vl_0, Nat.pow_zero]; exact Nat.one_pos
  | succ n ih =>
    intro h
    have h1 := ih (fun j hj => h j (by omega))
    have h2 : d n + 1 ≤ b := h n (by omega)
    have h3 : (d n + 1) * b ^ n ≤ b * b ^ n := Nat.mul_le_mul_right _ h2
    rw [vl_s, Nat.pow_succ, Nat.mul_comm (b ^ n) b]
    rw [Nat.add_mul, Nat.one_mul] at h3
    omega
theorem vl_up {b n i : Nat} {d e : Nat → Nat} (hi : i < n) (h : ∀ j, j < n → j ≠ i → e j = d j) : vl b n e + d i * b ^ i = vl b n d + e i * b ^ i :=
  sm_up (f := fun j => e j * b ^ j) (g := fun j => d j * b ^ j) hi (fun j hj hn => by rw [h j hj hn])
theorem vl_top {b i : Nat} {d e : Nat → Nat} (hd : ∀ j, j < i → d j < b) (h : d i < e i) : vl b (i + 1) d < vl b (i + 1) e := by
  have h1 := vl_lt i hd
  have h2 : (d i + 1) * b ^ i ≤ e i * b ^ i := Nat.mul_le_mul_right _ h
  rw [Nat.add_mul, Nat.one_mul] at h2
  rw [vl_s, vl_s]
  omega
/-- what comparing tells -/
def cmI (x y : Nat) : Int32 := if x = y then 0 else if x < y then -1 else 1
theorem cmI_add (x y z : Nat) : cmI (x + z) (y + z) = cmI x y := by
  unfold cmI
  by_cases h : x = y
  · rw [if_pos (by omega), if_pos h]
  · rw [if_neg (by omega), if_neg h]
    by_cases h2 : x < y
    · rw [if_pos (by omega), if_pos h2]
    · rw [if_neg (by omega), if_neg h2]
def BG (w : GW) (k V : Nat) : Prop := ∃ d : Nat → Nat, (∀ j, j < 60 → gI w k j = nI (d j) ∧ d j < 1000000000) ∧ vl 1000000000 60 d = V
theorem BG.sm {L : List (Nat × Nat × Nat)} {R : List Nat} {w w' : GW} {k V : Nat} (H : BG w k V) (S : Sm L R w w') (h : ∀ j, md L k j = false) : BG w' k V := by
  obtain ⟨d, h1, h2⟩ := H
  exact ⟨d, fun j hj => ⟨by rw [S.I k j (h j)]; exact (h1 j hj).1, (h1 j hj).2⟩, h2⟩
theorem compareBig {w : GW} {k0 k1 V U : Nat} (hV : BG w k0 V) (hU : BG w k1 U) : f_X9_compareBig k0 k1 w = some (cmI V U, w) := by
  obtain ⟨d, d1, rfl⟩ := hV
  obtain ⟨e, e1, rfl⟩ := hU
  have key : ∀ i n, i ≤ 60 → i < n → f_X9_compareBig_3 n k0 k1 (kI i) w = some (cmI (vl 1000000000 i d) (vl 1000000000 i e), w) := by
    intro i
    induction i with
    | zero =>
      intro n hi hn
      obtain ⟨n, rfl⟩ : ∃ m9, n = m9 + 1 := ⟨n - 1, by omega⟩
      rw [f_X9_compareBig_3, kI_0, if_pos (by decide)]
      rfl
    | succ i ih =>
      intro n hi hn
      obtain ⟨n, rfl⟩ : ∃ m9, n = m9 + 1 := ⟨n - 1, by omega⟩
      have q := ih n (by omega) (by omega)
      have di := d1 i (by omega)
      have ei := e1 i (by omega)
      rw [f_X9_compareBig_3, kI_s, if_neg (lt0_nI (by omega)), if_pos ((inb_nI (by omega)).mpr (by omega)), if_pos ((inb_nI (by omega)).mpr (by omega)), ix_nI (by omega), di.1, ei.1]
      by_cases z : d i = e i
      · rw [if_pos ((eq_nI (by omega) (by omega)).mpr (by omega)), kI_m, q, vl_s, vl_s, z, cmI_add]
      · rw [if_neg (fun q9 => absurd ((eq_nI (by omega) (by omega)).mp q9) (by omega)), if_pos ((inb_nI (by omega)).mpr (by omega)), if_pos ((inb_nI (by omega)).mpr (by omega))]
        by_cases z2 : e i ≤ d i
        · have hlt := vl_top (b := 1000000000) (i := i) (d := e) (e := d) (fun j hj => (e1 j (by omega)).2) (by omega)
          rw [if_pos ((le_nI (by omega) (by omega)).mpr (by omega))]
          unfold cmI
          rw [if_neg (by omega), if_neg (by omega)]
        · have hlt := vl_top (b := 1000000000) (i := i) (d := d) (e := e) (fun j hj => (d1 j (by omega)).2) (by omega)
          rw [if_neg (fun q9 => absurd ((le_nI (by omega) (by omega)).mp q9) (by omega))]
          unfold cmI
          rw [if_neg (by omega), if_pos (by omega)]
  rw [f_X9_compareBig, show (59 : Int32) = kI 60 from rfl]
  exact key 60 fu (by omega) (fu_gt (by omega))
theorem setBig {w : GW} {k : Nat} : ∃ w', f_X9_setBig k w = some ((), w') ∧ BG w' k 1 := by
  have key : ∀ d i n w, i + d = 60 → d < n → (∀ j, j < i → gI w k j = 0) → ∃ w', f_X9_setBig_2 n k (nI i) w = some ((), w') ∧ BG w' k 1 := by
    intro d
    induction d with
    | zero =>
      intro i n w hi hn h0
      obtain ⟨n, rfl⟩ : ∃ m9, n = m9 + 1 := ⟨n - 1, by omega⟩
      refine ⟨sI w k 0 1, ?_, fun j => if j = 0 then 1 else 0, fun j hj => ⟨?_, ?_⟩, ?_⟩
      · rw [f_X9_setBig_2, show (60 : Int32) = nI 60 from rfl, if_pos ((le_nI (by omega) (by omega)).mpr (by omega)), if_pos (show inb _ _ from by decide), show ix (0 : Int32) = 0 from by decide]
      · rw [gI_sI]
        show _ = nI (if j = 0 then 1 else 0)
        by_cases q : j = 0
        · rw [if_pos ⟨rfl, q⟩, if_pos q]; rfl
        · rw [if_neg (fun z => q z.2), if_neg q, h0 j (by omega)]; rfl
      · show (if j = 0 then 1 else 0) < 1000000000
        split <;> omega
      · unfold vl
        rw [sm_one (k := 0) (by omega) _ (fun j hj hne => by show (if j = 0 then 1 else 0) * _ = 0; rw [if_neg hne, Nat.zero_mul])]
        rfl
    | succ d ih =>
      intro i n w hi hn h0
      obtain ⟨n, rfl⟩ : ∃ m9, n = m9 + 1 := ⟨n - 1, by omega⟩
      rw [f_X9_setBig_2, show (60 : Int32) = nI 60 from rfl, if_neg (fun q9 => absurd ((le_nI (by omega) (by omega)).mp q9) (by omega)), if_pos ((inb_nI (by omega)).mpr (by omega)), ix_nI (by omega), nI_1]
      refine ih (i + 1) n _ (by omega) (by omega) (fun j hj => ?_)
      rw [gI_sI]
      by_cases q : j = i
      · rw [if_pos ⟨rfl, q⟩]
      · rw [if_neg (fun z => q z.2)]; exact h0 j (by omega)
  rw [f_X9_setBig, show (0 : Int32) = nI 0 from rfl]
  exact key 60 0 fu w (by omega) (fu_gt (by omega)) (fun j hj => by omega)
section TB
variable {k1 : Nat} {d : Nat → Nat}
/-- the spare and the factor's figures -/
def SP (w : GW) (k1 : Nat) (d q : Nat → Nat) : Prop := (∀ j, j < 60 → gI w k1 j = nI (d j)) ∧ (∀ j, j < 60 → gI w 146 j = nI (q j)) ∧ ∀ j, j < 60 → q j < 1000000000
theorem tb_v {b v B : Nat} : v / b * (b * B) + v % b * B = v * B := by
  rw [← Nat.mul_assoc, ← Nat.add_mul, Nat.mul_comm (v / b) b, Nat.div_add_mod]
theorem tB_51 (hk1 : k1 ≠ 146) (hd : ∀ j, j < 60 → d j < 1000000000) {s P X : Nat} (hP : P < 1000000000) (hX : X < 9223372036854775808) {k : Nat → Int64 → Int32 → GW → Option (Unit × GW)} : ∀ t i n w q ov, i + s + t = 60 → t < n → SP w k1 d q → ov < 1000000000 → ∃ w' q' c, f_X9_timesBig_51 k n k1 (lN X) (nI s) (lN P) (lN ov) (nI i) w = k k1 (lN (X / 1000000000)) (nI (s + 1)) w' ∧ SP w' k1 d q' ∧ vl 1000000000 60 q' + c * 1000000000 ^ 60 = vl 1000000000 60 q + ov * 1000000000 ^ (i + s) + P * sm t (fun e => d (i + e) * 1000000000 ^ (i + e + s)) := by
  intro t
  induction t with
  | zero =>
    intro i n w q ov hi hn hS hov
    obtain ⟨n, rfl⟩ : ∃ m9, n = m9 + 1 := ⟨n - 1, by omega⟩
    refine ⟨w, q, ov, ?_, hS, ?_⟩
    · rw [f_X9_timesBig_51, nI_add, show (60 : Int32) = nI 60 from rfl, if_pos ((le_nI (by omega) (by omega)).mpr (by omega)), nI_1, show (1000000000 : Int64) = lN 1000000000 from rfl, div_lN (by omega) (by omega) (by omega)]
    · rw [show i + s = 60 by omega, sm_0, Nat.mul_zero, Nat.add_zero]
  | succ t ih =>
    intro i n w q ov hi hn hS hov
    obtain ⟨n, rfl⟩ : ∃ m9, n = m9 + 1 := ⟨n - 1, by omega⟩
    obtain ⟨s1, s2, s3⟩ := hS
    have hdi := hd i (by omega)
    have hqi := s3 (i + s) (by omega)
    have hm : d i * P ≤ 999999999 * 999999999 := Nat.mul_le_mul (by omega) (by omega)
    have hv : (q (i + s) + d i * P + ov) / 1000000000 < 1000000000 := Nat.div_lt_of_lt_mul (by omega)
    have hS1 : SP (sI w 146 (i + s) (nI ((q (i + s) + d i * P + ov) % 1000000000))) k1 d (fun j => if j = i + s then (q (i + s) + d i * P + ov) % 1000000000 else q j) := by
      refine ⟨fun j hj => ?_, fun j hj => ?_, fun j hj => ?_⟩
      · rw [gI_sI, if_neg (fun z => hk1 z.1)]; exact s1 j hj
      · rw [gI_sI]
        show _ = nI (if j = i + s then (q (i + s) + d i * P + ov) % 1000000000 else q j)
        by_cases z : j = i + s
        · rw [if_pos ⟨rfl, z⟩, if_pos z]
        · rw [if_neg (fun y => z y.2), if_neg z]; exact s2 j hj
      · show (if j = i + s then (q (i + s) + d i * P + ov) % 1000000000 else q j) < 1000000000
        by_cases z : j = i + s
        · rw [if_pos z]; exact Nat.mod_lt _ (by omega)
        · rw [if_neg z]; exact s3 j hj
    obtain ⟨w', q', c, a1, a2, a3⟩ := ih (i + 1) n _ _ ((q (i + s) + d i * P + ov) / 1000000000) (by omega) (by omega) hS1 hv
    refine ⟨w', q', c, ?_, a2, ?_⟩
    · rw [f_X9_timesBig_51, nI_add, show (60 : Int32) = nI 60 from rfl, if_neg (fun q9 => absurd ((le_nI (by omega) (by omega)).mp q9) (by omega)), if_pos ((inb_nI (by omega)).mpr (by omega)), if_pos ((inb_nI (by omega)).mpr (by omega)), if_pos ((inb_nI (by omega)).mpr (by omega)), ix_nI (by omega), ix_nI (by omega), s1 i (by omega), s2 (i + s) (by omega), nI_l (by omega), nI_l (by omega), lN_mul, lN_add, lN_add, show (1000000000 : Int64) = lN 1000000000 from rfl, div_lN (by omega) (by omega) (by omega), lrm_lN (by omega) (by omega) (by omega), lN_i, nI_1]
      exact a1
    · have e1 := vl_up (b := 1000000000) (n := 60) (i := i + s) (d := q) (e := fun j => if j = i + s then (q (i + s) + d i * P + ov) % 1000000000 else q j) (by omega) (fun j _ hne => if_neg hne)
      rw [if_pos rfl] at e1
      have e2 := tb_v (b := 1000000000) (v := q (i + s) + d i * P + ov) (B := 1000000000 ^ (i + s))
      have e3 : P * sm (t + 1) (fun e => d (i + e) * 1000000000 ^ (i + e + s)) = d i * P * 1000000000 ^ (i + s) + P * sm t (fun e => d (i + 1 + e) * 1000000000 ^ (i + 1 + e + s)) := by
        rw [sm_first, Nat.mul_add]
        refine congr (congrArg _ ?_) ?_
        · show P * (d i * _) = _
          rw [Nat.mul_comm (d i) P, Nat.mul_assoc]
          rfl
        · exact mul_c (sm_c (fun e _ => by rw [show i + (e + 1) = i + 1 + e by omega]))
      have e4 : (1000000000 : Nat) ^ (i + 1 + s) = 1000000000 * 1000000000 ^ (i + s) := by rw [show i + 1 + s = (i + s) + 1 by omega, Nat.pow_succ, Nat.mul_comm]
      rw [e4] at a3
      rw [Nat.add_mul, Nat.add_mul] at e2
      rw [e3]
      generalize 1000000000 ^ (i + s) = B at *
      generalize 1000000000 ^ 60 = Z at *
      omega
theorem tB_134 (hk1 : k1 ≠ 146) {q : Nat → Nat} : ∀ t i n w, i + t = 60 → t < n → (∀ j, j < 60 → gI w 146 j = nI (q j)) → (∀ j, j < i → gI w k1 j = nI (q j)) → ∃ w', f_X9_timesBig_134 n k1 (nI i) w = some ((), w') ∧ ∀ j, j < 60 → gI w' k1 j = nI (q j) := by
  intro t
  induction t with
  | zero =>
    intro i n w hi hn h1 h2
    obtain ⟨n, rfl⟩ : ∃ m9, n = m9 + 1 := ⟨n - 1, by omega⟩
    refine ⟨w, ?_, fun j hj => h2 j (by omega)⟩
    rw [f_X9_timesBig_134, show (60 : Int32) = nI 60 from rfl, if_pos ((le_nI (by omega) (by omega)).mpr (by omega))]
  | succ t ih =>
    intro i n w hi hn h1 h2
    obtain ⟨n, rfl⟩ : ∃ m9, n = m9 + 1 := ⟨n - 1, by omega⟩
    rw [f_X9_timesBig_134, show (60 : Int32) = nI 60 from rfl, if_neg (fun q9 => absurd ((le_nI (by omega) (by omega)).mp q9) (by omega)), if_pos ((inb_nI (by omega)).mpr (by omega)), if_pos ((inb_nI (by omega)).mpr (by omega)), ix_nI (by omega), h1 i (by omega), nI_1]
    refine ih (i + 1) n _ (by omega) (by omega) (fun j hj => ?_) (fun j hj => ?_)
    · rw [gI_sI, if_neg (fun z => hk1 z.1.symm)]; exact h1 j hj
    · rw [gI_sI]
      by_cases z : j = i
      · rw [if_pos ⟨rfl, z⟩, z]
      · rw [if_neg (fun y => z y.2)]; exact h2 j (by omega)
theorem tB_30 (hk1 : k1 ≠ 146) (hd : ∀ j, j < 60 → d j < 1000000000) : ∀ t s n w q X, s + t = 3 → t < n → X < 1000000000 ^ t → X < 9223372036854775808 → SP w k1 d q → ∃ w' q' c, f_X9_timesBig_30 n k1 (lN X) (nI s) w = some ((), w') ∧ (∀ j, j < 60 → gI w' k1 j = nI (q' j) ∧ q' j < 1000000000) ∧ vl 1000000000 60 q' + c * 1000000000 ^ 60 = vl 1000000000 60 q + X * 1000000000 ^ s * vl 1000000000 60 d := by
  intro t
  induction t with
  | zero =>
    intro s n w q X hs hn hX hX63 hS
    obtain ⟨n, rfl⟩ : ∃ m9, n = m9 + 1 := ⟨n - 1, by omega⟩
    have hX0 : X = 0 := by rw [Nat.pow_zero] at hX; omega
    subst hX0
    obtain ⟨w', a1, a2⟩ := tB_134 hk1 60 0 fu w (by omega) (fu_gt (by omega)) hS.2.1 (fun j hj => by omega)
    refine ⟨w', q, 0, ?_, fun j hj => ⟨a2 j hj, hS.2.2 j hj⟩, ?_⟩
    · rw [f_X9_timesBig_30, if_pos ((lle0 (by omega)).mpr rfl), show (0 : Int32) = nI 0 from rfl]
      exact a1
    · rw [Nat.zero_mul, Nat.zero_mul, Nat.zero_mul]
  | succ t ih =>
    intro s n w q X hs hn hX hX63 hS
    obtain ⟨n, rfl⟩ : ∃ m9, n = m9 + 1 := ⟨n - 1, by omega⟩
    by_cases hX0 : X = 0
    · subst hX0
      obtain ⟨w', a1, a2⟩ := tB_134 hk1 60 0 fu w (by omega) (fu_gt (by omega)) hS.2.1 (fun j hj => by omega)
      refine ⟨w', q, 0, ?_, fun j hj => ⟨a2 j hj, hS.2.2 j hj⟩, ?_⟩
      · rw [f_X9_timesBig_30, if_pos ((lle0 (by omega)).mpr rfl), show (0 : Int32) = nI 0 from rfl]
        exact a1
      · rw [Nat.zero_mul, Nat.zero_mul, Nat.zero_mul]
    · have hP : X % 1000000000 < 1000000000 := Nat.mod_lt _ (by omega)
      obtain ⟨w1, q1, c1, a1, a2, a3⟩ := tB_51 (k := f_X9_timesBig_30 n) hk1 hd (s := s) hP hX63 (60 - s) 0 fu w q 0 (by omega) (fu_gt (by omega)) hS (by omega)
      have hX2 : X / 1000000000 < 1000000000 ^ t := Nat.div_lt_of_lt_mul (by rw [Nat.pow_succ, Nat.mul_comm] at hX; exact hX)
      obtain ⟨w', q', c2, b1, b2, b3⟩ := ih (s + 1) n w1 q1 (X / 1000000000) (by omega) (by omega) hX2 (by omega) a2
      have e1 : vl 1000000000 60 d * 1000000000 ^ s = sm (60 - s) (fun e => d e * 1000000000 ^ (e + s)) + sm s (fun e => d (60 - s + e) * 1000000000 ^ e) * 1000000000 ^ 60 := by
        unfold vl
        rw [show (60 : Nat) = (60 - s) + s by omega, sm_app, Nat.add_mul, ← sm_mulr, ← sm_mulr, ← sm_mulr, show 60 - s + s = 60 by omega]
        refine congr (congrArg _ (sm_c (fun e _ => ?_))) (sm_c (fun e _ => ?_))
        · rw [Nat.mul_assoc, ← Nat.pow_add]
        · rw [Nat.mul_assoc, Nat.mul_assoc, ← Nat.pow_add, ← Nat.pow_add, show 60 - s + e + s = e + 60 by omega]
      refine ⟨w', q', c1 + c2 + X % 1000000000 * sm s (fun e => d (60 - s + e) * 1000000000 ^ e), ?_, b2, ?_⟩
      · rw [f_X9_timesBig_30, if_neg (fun z => hX0 ((lle0 (by omega)).mp z)), show (1000000000 : Int64) = lN 1000000000 from rfl, lrm_lN (by omega) (by omega) (by omega), show (0 : Int64) = lN 0 from rfl, show (0 : Int32) = nI 0 from rfl]
        rw [a1]
        exact b1
      · have e2 : X * 1000000000 ^ s * vl 1000000000 60 d = X / 1000000000 * 1000000000 ^ (s + 1) * vl 1000000000 60 d + X % 1000000000 * (vl 1000000000 60 d * 1000000000 ^ s) := by
          have := tb_v (b := 1000000000) (v := X) (B := 1000000000 ^ s)
          rw [Nat.pow_succ, Nat.mul_comm (1000000000 ^ s) 1000000000, ← this, Nat.add_mul, Nat.mul_comm (vl 1000000000 60 d) (1000000000 ^ s), Nat.mul_assoc (X % 1000000000)]
        rw [e2, e1, Nat.mul_add, Nat.add_mul, Nat.add_mul, ← Nat.mul_assoc]
        have e3 : (fun e => d (0 + e) * 1000000000 ^ (0 + e + s)) = fun e => d e * 1000000000 ^ (e + s) := funext (fun e => by rw [Nat.zero_add])
        rw [e3, Nat.zero_mul, Nat.add_zero] at a3
        generalize 1000000000 ^ 60 = Z at *
        omega
theorem timesBig {w : GW} {V x : Nat} (hk1 : k1 ≠ 146) (hV : BG w k1 V) (hx : x < 9223372036854775808) (hVx : V * x < 1000000000 ^ 60) : ∃ w', f_X9_timesBig k1 (lN x) w = some ((), w') ∧ BG w' k1 (V * x) := by
  obtain ⟨d, d1, d2⟩ := hV
  have key : ∀ t i n w, i + t = 60 → t < n → (∀ j, j < 60 → gI w k1 j = nI (d j)) → (∀ j, j < i → gI w 146 j = 0) → ∃ w', f_X9_timesBig_3 n k1 (lN x) (nI i) w = some ((), w') ∧ BG w' k1 (V * x) := by
    intro t
    induction t with
    | zero =>
      intro i n w hi hn h1 h2
      obtain ⟨n, rfl⟩ : ∃ m9, n = m9 + 1 := ⟨n - 1, by omega⟩
      obtain ⟨w', q', c, a1, a2, a3⟩ := tB_30 hk1 (fun j hj => (d1 j hj).2) 3 0 fu w (fun _ => 0) x (by omega) (fu_gt (by omega)) (by omega) hx ⟨h1, fun j hj => h2 j (by omega), fun j hj => Nat.succ_pos _⟩
      refine ⟨w', ?_, q', a2, ?_⟩
      · rw [f_X9_timesBig_3, show (60 : Int32) = nI 60 from rfl, if_pos ((le_nI (by omega) (by omega)).mpr (by omega)), show (0 : Int32) = nI 0 from rfl]
        exact a1
      · have e0 : vl 1000000000 60 (fun _ => 0) = 0 := sm_z (fun j _ => Nat.zero_mul _)
        rw [e0, Nat.zero_add, Nat.pow_zero, Nat.mul_one, d2, Nat.mul_comm x V] at a3
        have hc : c = 0 := by
          rcases Nat.eq_zero_or_pos c with z | z
          · exact z
          · have : 1 * 1000000000 ^ 60 ≤ c * 1000000000 ^ 60 := Nat.mul_le_mul_right _ z
            rw [Nat.one_mul] at this
            generalize 1000000000 ^ 60 = Z at *
            omega
        rw [hc, Nat.zero_mul, Nat.add_zero] at a3
        exact a3
    | succ t ih =>
      intro i n w hi hn h1 h2
      obtain ⟨n, rfl⟩ : ∃ m9, n = m9 + 1 := ⟨n - 1, by omega⟩
      rw [f_X9_timesBig_3, show (60 : Int32) = nI 60 from rfl, if_neg (fun q9 => absurd ((le_nI (by omega) (by omega)).mp q9) (by omega)), if_pos ((inb_nI (by omega)).mpr (by omega)), ix_nI (by omega), nI_1]
      refine ih (i + 1) n _ (by omega) (by omega) (fun j hj => ?_) (fun j hj => ?_)
      · rw [gI_sI, if_neg (fun z => hk1 z.1)]; exact h1 j hj
      · rw [gI_sI]
        by_cases z : j = i
        · rw [if_pos ⟨rfl, z⟩]
        · rw [if_neg (fun y => z y.2)]; exact h2 j (by omega)
  rw [f_X9_timesBig, show (0 : Int32) = nI 0 from rfl]
  exact key 60 0 fu w (by omega) (fu_gt (by omega)) (fun j hj => (d1 j hj).1) (fun j hj => by omega)
end TB
