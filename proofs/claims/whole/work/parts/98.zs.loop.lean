/-! the law's loop, and its start (written by wip/gen/law.py) -/
/-- one turn's place: where the loop's bound lets it go on -/
theorem l_fit {i L : Nat} (hL : L ≤ 3072) (h : ¬ Int32.ofNat L - 6 < nI i) (hi : i ≤ L) : i + 6 ≤ L := by
  rcases Nat.lt_or_ge L 6 with q | q
  · exfalso
    refine h (Int32.lt_of_lt_of_le (b := 0) ?_ (nI_pos' (by omega)))
    rcases (show L = 0 ∨ L = 1 ∨ L = 2 ∨ L = 3 ∨ L = 4 ∨ L = 5 by omega) with rfl | rfl | rfl | rfl | rfl | rfl <;> decide
  · have e : Int32.ofNat L - 6 = nI (L - 6) := by
      have h2 : nI (L - 6) + 6 = Int32.ofNat L := by
        rw [show (6 : Int32) = nI 6 from by decide, nI_add]
        show Int32.ofNat (L - 6 + 6) = Int32.ofNat L
        rw [Nat.sub_add_cancel q]
      rw [← h2, Int32.add_sub_cancel]
    rw [e, nI_ltI (by omega) (by omega)] at h
    omega
set_option maxHeartbeats 4000000 in
set_option maxRecDepth 100000 in
theorem law_loop {p : Program} {l : Launch} {e : Env} {s : State} {m : MethodId} {below : List Frame} {meth : Method} {c : Code} {G : GG} {b L : Nat} {xs : Nat → Int32} (hl0 : l.stackTraces = false) (hL : L ≤ 3072) (C0 : lw_At p s m meth c b L xs) (hAA : ∀ q, gA G q → s.heap.size ≤ q) (hbA : ¬ gA G b) (hLW : LW (gA G) s s.heap) : ∀ (n i : Nat) (w : GW) (H : Heap) (locs : List Loc) (ls : Array Slot), i ≤ L → L + 1 ≤ i + n → JJ w → St G w s H locs → lv_has ls 7 (lwL G b i) → W p l e room_1 s m #[Value.ref b] below meth c H locs (150 + i) (106734 + i) (lw_Z below #[Value.ref b] s) (F0 m 23 ls []) := by
  obtain ⟨hx, hb, hr, hml, hown, hts, hX, hbl, hlocks, hgv⟩ := id C0
  intro n
  induction n with
  | zero =>
    intro i w H locs ls h1 h2
    exact absurd h2 (by omega)
  | succ n ih =>
    intro i w H locs ls hi hin J S hl
    refine lv_iload hx hb dL_law_23 (lv_at hl 4 rfl) ?_
    refine lv_aload_n hx hb dL_law_25 rfl (lv_at hl 0 rfl) ?_
    refine va_slen hx hb hX hbl hbA S.2.2.2.1 dL_law_26 ?_
    refine lv_bipush (v := 6) hx hb dL_law_27 (by decide) ?_
    refine lv_isub hx hb dL_law_29 ?_
    refine lv_icmp_gt (tgt := 1462) hx hb dL_law_30 (by decide) (fun c1 => ?_) (fun c1 => ?_)
    · refine lv_iconst (v := 1) hx hb dL_law_1462 (by decide) ?_
      refine va_forget (fun q hq => hAA _ (S.2.2.2.1.2.2 q hq)) ?_
      refine W.widen (k := 601024) (n := 7293034) (by omega) (by omega) ?_
      exact lw_ret hx hb hr hlocks dL_law_1463
    · have h6 : i + 6 ≤ L := l_fit hL c1 hi
      have hc : 150 + i + 6 ≤ 601024 ∧ 106734 + i + 6 ≤ 7293034 := ⟨by omega, by omega⟩
      have kk : lwKK p l e s m below meth c b i (150 + i) (106734 + i) (lw_Z below #[Value.ref b] s) G := by
        intro w H locs ls J S hl
        refine lv_iinc (v := nI (i + 6)) (lv' := [(4, .int (nI (i + 6))), (0, .ref b), (1, .ref (gad G 0)), (2, .ref (gad G 130)), (3, .ref (gad G 149))]) hx hb dL_law_1456 hl (k := 4) rfl (by rw [show Int32.ofInt 6 = nI 6 from by decide]; exact nI_add i 6) (by decide) rfl (fun ls hl => ?_)
        refine lv_goto (tgt := 23) hx hb dL_law_1459 (by decide) ?_
        exact ih (i + 6) w H locs ls h6 (by omega) J S (lv_sub hl [1, 2, 3, 4, 0] rfl)
      refine lv_aload_n hx hb dL_law_33 rfl (lv_at hl 0 rfl) ?_
      refine lv_iload hx hb dL_law_34 (lv_at hl 4 rfl) ?_
      refine va_sld hx hb hX hbl hbA S.2.2.2.1 (vp_in_nI (show i < L by omega) (by omega)) dL_law_36 ?_
      refine lv_bipush (v := 31) hx hb dL_law_37 (by decide) ?_
      refine lv_iand hx hb dL_law_39 ?_
      obtain ⟨j, hj, ej⟩ := pk_andE (xs (nI i).toNatClampNeg) (m := 31) 5 (by decide)
      rw [ej]
      match j, hj with
      | 0, _ => exact lv_tableIn (tgt := 176) hx hb dL_law_40 (by decide) (by decide) (off := 136) (by decide +kernel) (by decide) (arm_0 C0 hbA hL h6 J S hl hc kk)
      | 1, _ => exact lv_tableIn (tgt := 249) hx hb dL_law_40 (by decide) (by decide) (off := 209) (by decide +kernel) (by decide) (arm_1 C0 hbA hL h6 J S hl hc kk)
      | 2, _ => exact lv_tableIn (tgt := 274) hx hb dL_law_40 (by decide) (by decide) (off := 234) (by decide +kernel) (by decide) (arm_2 C0 hbA hL h6 J S hl hc kk)
      | 3, _ => exact lv_tableIn (tgt := 287) hx hb dL_law_40 (by decide) (by decide) (off := 247) (by decide +kernel) (by decide) (arm_3 C0 hbA hL h6 J S hl hc kk)
      | 4, _ => exact lv_tableIn (tgt := 300) hx hb dL_law_40 (by decide) (by decide) (off := 260) (by decide +kernel) (by decide) (arm_4 C0 hbA hL h6 J S hl hc kk)
      | 5, _ => exact lv_tableIn (tgt := 378) hx hb dL_law_40 (by decide) (by decide) (off := 338) (by decide +kernel) (by decide) (arm_5 C0 hbA hL h6 J S hl hc kk)
      | 6, _ => exact lv_tableIn (tgt := 456) hx hb dL_law_40 (by decide) (by decide) (off := 416) (by decide +kernel) (by decide) (arm_6 C0 hbA hL h6 J S hl hc kk)
      | 7, _ => exact lv_tableIn (tgt := 546) hx hb dL_law_40 (by decide) (by decide) (off := 506) (by decide +kernel) (by decide) (arm_7 C0 hbA hL h6 J S hl hc kk)
      | 8, _ => exact lv_tableIn (tgt := 624) hx hb dL_law_40 (by decide) (by decide) (off := 584) (by decide +kernel) (by decide) (arm_8 C0 hbA hL h6 J S hl hc kk)
      | 9, _ => exact lv_tableIn (tgt := 661) hx hb dL_law_40 (by decide) (by decide) (off := 621) (by decide +kernel) (by decide) (arm_9 C0 hbA hL h6 J S hl hc kk)
      | 10, _ => exact lv_tableIn (tgt := 726) hx hb dL_law_40 (by decide) (by decide) (off := 686) (by decide +kernel) (by decide) (arm_10 C0 hbA hL h6 J S hl hc kk)
      | 11, _ => exact lv_tableIn (tgt := 792) hx hb dL_law_40 (by decide) (by decide) (off := 752) (by decide +kernel) (by decide) (arm_11 C0 hbA hL h6 J S hl hc kk)
      | 12, _ => exact lv_tableIn (tgt := 853) hx hb dL_law_40 (by decide) (by decide) (off := 813) (by decide +kernel) (by decide) (arm_12 C0 hbA hL h6 J S hl hc kk)
      | 13, _ => exact lv_tableIn (tgt := 890) hx hb dL_law_40 (by decide) (by decide) (off := 850) (by decide +kernel) (by decide) (arm_13 C0 hbA hL h6 J S hl hc kk)
      | 14, _ => exact lv_tableIn (tgt := 939) hx hb dL_law_40 (by decide) (by decide) (off := 899) (by decide +kernel) (by decide) (arm_14 C0 hbA hL h6 J S hl hc kk)
      | 15, _ => exact lv_tableIn (tgt := 1017) hx hb dL_law_40 (by decide) (by decide) (off := 977) (by decide +kernel) (by decide) (arm_15 C0 hbA hL h6 J S hl hc kk)
      | 16, _ => exact lv_tableIn (tgt := 1030) hx hb dL_law_40 (by decide) (by decide) (off := 990) (by decide +kernel) (by decide) (arm_16 C0 hbA hL h6 J S hl hc kk)
      | 17, _ => exact lv_tableIn (tgt := 1055) hx hb dL_law_40 (by decide) (by decide) (off := 1015) (by decide +kernel) (by decide) (arm_17 C0 hbA hL h6 J S hl hc kk)
      | 18, _ => exact lv_tableIn (tgt := 1092) hx hb dL_law_40 (by decide) (by decide) (off := 1052) (by decide +kernel) (by decide) (arm_18 C0 hbA hL h6 J S hl hc kk)
      | 19, _ => exact lv_tableIn (tgt := 1117) hx hb dL_law_40 (by decide) (by decide) (off := 1077) (by decide +kernel) (by decide) (arm_19 C0 hbA hL h6 J S hl hc kk)
      | 20, _ => exact lv_tableIn (tgt := 1171) hx hb dL_law_40 (by decide) (by decide) (off := 1131) (by decide +kernel) (by decide) (arm_20 C0 hbA hL h6 J S hl hc kk)
      | 21, _ => exact lv_tableIn (tgt := 1196) hx hb dL_law_40 (by decide) (by decide) (off := 1156) (by decide +kernel) (by decide) (arm_21 C0 hbA hL h6 J S hl hc kk)
      | 22, _ => exact lv_tableIn (tgt := 1221) hx hb dL_law_40 (by decide) (by decide) (off := 1181) (by decide +kernel) (by decide) (arm_22 C0 hbA hL h6 J S hl hc kk)
      | 23, _ => exact lv_tableIn (tgt := 1234) hx hb dL_law_40 (by decide) (by decide) (off := 1194) (by decide +kernel) (by decide) (arm_23 C0 hbA hL h6 J S hl hc kk)
      | 24, _ => exact lv_tableIn (tgt := 1247) hx hb dL_law_40 (by decide) (by decide) (off := 1207) (by decide +kernel) (by decide) (arm_24 C0 hbA hL h6 J S hl hc kk)
      | 25, _ => exact lv_tableIn (tgt := 1272) hx hb dL_law_40 (by decide) (by decide) (off := 1232) (by decide +kernel) (by decide) (arm_25 C0 hbA hL h6 J S hl hc kk)
      | 26, _ => exact lv_tableIn (tgt := 1309) hx hb dL_law_40 (by decide) (by decide) (off := 1269) (by decide +kernel) (by decide) (arm_26 C0 hbA hL h6 J S hl hc kk)
      | 27, _ => exact lv_tableIn (tgt := 1362) hx hb dL_law_40 (by decide) (by decide) (off := 1322) (by decide +kernel) (by decide) (arm_27 hl0 hLW C0 hbA hL h6 J S hl hc kk)
      | 28, _ => exact lv_tableIn (tgt := 1418) hx hb dL_law_40 (by decide) (by decide) (off := 1378) (by decide +kernel) (by decide) (arm_28 C0 hbA hL h6 J S hl hc kk)
      | 29, _ => exact lv_tableIn (tgt := 1443) hx hb dL_law_40 (by decide) (by decide) (off := 1403) (by decide +kernel) (by decide) (arm_29 C0 hbA hL h6 J S hl hc kk)
      | 30, _ => exact lv_tableOut (tgt := 1456) hx hb dL_law_40 (Or.inr (by decide)) (by decide) (W.widen (k := 150 + i + 6) (n := 106734 + i + 6) (Nat.le_add_right _ _) (Nat.le_add_right _ _) (kk w H locs ls J S hl))
      | 31, _ => exact lv_tableOut (tgt := 1456) hx hb dL_law_40 (Or.inr (by decide)) (by decide) (W.widen (k := 150 + i + 6) (n := 106734 + i + 6) (Nat.le_add_right _ _) (Nat.le_add_right _ _) (kk w H locs ls J S hl))
      | j + 32, h => exact absurd h (by omega)
theorem no_traces {l : Launch} (h : l.flags = flags0) : l.stackTraces = false := by
  first
    | (unfold Launch.stackTraces; rw [h]; decide +kernel)
    | (show _ = _; rw [Launch.stackTraces, h]; decide +kernel)
set_option maxHeartbeats 4000000 in
set_option maxRecDepth 100000 in
/-- YOUR PART: from the entry, for every script of at most 3072 ints, the law comes to its end with true ('hflags': the launch's flags, for a law that throws: no stack traces) -/
theorem whole_start {p : Program} {e : Env} {s : State} {m : MethodId} {below : List Frame} {meth : Method} {c : Code} (l : Launch) (hflags : l.flags = flags0) {b L : Nat} {xs : Nat → Int32} (hL : L ≤ 3072) (C0 : lw_At p s m meth c b L xs) : W p l e room_1 s m #[Value.ref b] below meth c s.heap [] 0 0 (lw_Z below #[Value.ref b] s) (entryFrame m ([Value.ref b] : List Value).toArray 7) := by
  obtain ⟨hx, hb, hr, hml, hown, hts, hX, hbl, hlocks, hgv⟩ := id C0
  have hg : ∀ q ∈ lwg, q.before #[Value.ref b] s = true := fun q h => hts q (List.mem_filter.mp h).1
  have F : CallFix p m c cL_law 7 s #[Value.ref b] lwg RL := ⟨hx, hb, hml, hown, hg⟩
  obtain ⟨A, hAe⟩ : ∃ A : Nat → Prop, A = fun q => s.heap.size ≤ q := ⟨_, rfl⟩
  have hA : ∀ q : Nat, s.heap.size ≤ q → A q := fun q h => by rw [hAe]; exact h
  have hA2 : ∀ q : Nat, A q → s.heap.size ≤ q := fun q h => by rw [hAe] at h; exact h
  have hA3 : ∀ a : Nat, a < s.heap.size → ¬ A a := fun a h q => Nat.lt_irrefl _ (Nat.lt_of_lt_of_le h (hA2 a q))
  obtain ⟨D, dA, hK⟩ := start_K hts
  obtain ⟨kf, vf, ff, hSW, hLW, hO⟩ := start_SW hts hgv hA3
  have hS : va_S A s.heap s.heap [] := va_S.rf
  have hP : va_P D vwCl [] s.heap := fun k q h => by simp at h
  have hD : va_D A [] := ⟨fun i j p q h => by simp at h, fun k q h => by simp at h⟩
  refine g_entry (Nat.le_of_ble_eq_true rfl) (fun ls hl => ?_)
  have hl : lv_has ls 7 [(0, .ref b)] := hl
  refine va_new (ci := 8) (fs := [.null, .null, .null, .null, .null, .null, .null, .null, .null, .null, .null, .int 0, .int 0]) (C := RX8) (T := TX8) (N := 13) hx hb (fun q h => hg q (tl_X8 q h)) (fun _ h => h) tyX8 tyX8_ok hown (hg _ t_cl_L_8) (hg _ t_ii_X8) (hg _ t_in_X8) hK hP hD hS hA rfl (fun j hj => by rcases (show j = 0 ∨ j = 1 ∨ j = 2 ∨ j = 3 ∨ j = 4 ∨ j = 5 ∨ j = 6 ∨ j = 7 ∨ j = 8 ∨ j = 9 ∨ j = 10 ∨ j = 11 ∨ j = 12 by omega) with rfl | rfl | rfl | rfl | rfl | rfl | rfl | rfl | rfl | rfl | rfl | rfl | rfl <;> rfl) (Nat.le_of_ble_eq_true rfl) (Nat.le_of_ble_eq_true rfl) dL_law_0 (fun h8 H hP hD hS => ?_)
  refine lv_dup hx hb dL_law_3 rfl ?_
  refine va_callv (va_runI (As := []) (rest := [.ref h8]) F (c_X8_init l D dA A [] h8) (cwI 0 hg (goodU t_co_X8_init) rfl rfl rfl (hg _ t_in_X8) (hg _ t_mi_L_15) (hg _ t_im_X8_init) rfl (by decide +kernel) ⟨Nat.le_of_ble_eq_true rfl, Nat.le_of_ble_eq_true rfl⟩) ⟨PC.blind, fun U hU hW => ⟨rfl, va_K.moved hW.alike hK, by rw [hU]; exact hP, hD, fun q h9 => hA q (Nat.le_trans hS.1 (by rw [← hU]; exact h9)), hO.warm hW⟩⟩ rfl rfl hl.1 rfl (lv_room (Nat.le_of_ble_eq_true rfl)) dL_law_4 ⟨Nat.le_of_ble_eq_true rfl, Nat.le_of_ble_eq_true rfl⟩) hS (fun q _ h => h) (fun q h => h) (fun W8 t H1 locs1 ht hvm e8 hB hz1 hk1 hS => ?_)
  obtain ⟨hP, hD⟩ := hB
  rw [ht] at hP
  rw [List.nil_append] at hP hD
  refine lv_astore_n (lv' := [(1, .ref h8), (0, .ref b)]) hx hb dL_law_7 rfl hl (by decide) rfl (fun ls hl => ?_)
  refine va_new (ci := 9) (fs := [.int 0, .null, .int 0, .int 0, .int 0, .int 0, .int 0, .int 0, .int 0, .int 0, .int 0, .int 0, .null, .int 0, .int 0, .null, .null, .null, .null, .int 0, .null, .null, .int 0, .null, .null, .null, .null, .null, .int 0, .int 0, .long 0, .null, .null, .null, .long 0, .null, .null, .long 0, .long 0, .int 0]) (C := RX9) (T := TX9) (N := 40) hx hb (fun q h => hg q (tl_X9 q h)) (fun _ h => h) tyX9 tyX9_ok hown (hg _ t_cl_L_16) (hg _ t_ii_X9) (hg _ t_in_X9) hK hP hD hS hA rfl (fun j hj => by rcases (show j = 0 ∨ j = 1 ∨ j = 2 ∨ j = 3 ∨ j = 4 ∨ j = 5 ∨ j = 6 ∨ j = 7 ∨ j = 8 ∨ j = 9 ∨ j = 10 ∨ j = 11 ∨ j = 12 ∨ j = 13 ∨ j = 14 ∨ j = 15 ∨ j = 16 ∨ j = 17 ∨ j = 18 ∨ j = 19 ∨ j = 20 ∨ j = 21 ∨ j = 22 ∨ j = 23 ∨ j = 24 ∨ j = 25 ∨ j = 26 ∨ j = 27 ∨ j = 28 ∨ j = 29 ∨ j = 30 ∨ j = 31 ∨ j = 32 ∨ j = 33 ∨ j = 34 ∨ j = 35 ∨ j = 36 ∨ j = 37 ∨ j = 38 ∨ j = 39 by omega) with rfl | rfl | rfl | rfl | rfl | rfl | rfl | rfl | rfl | rfl | rfl | rfl | rfl | rfl | rfl | rfl | rfl | rfl | rfl | rfl | rfl | rfl | rfl | rfl | rfl | rfl | rfl | rfl | rfl | rfl | rfl | rfl | rfl | rfl | rfl | rfl | rfl | rfl | rfl | rfl <;> rfl) (Nat.le_of_ble_eq_true rfl) (Nat.le_of_ble_eq_true rfl) dL_law_8 (fun h9 H hP hD hS => ?_)
  refine lv_dup hx hb dL_law_11 rfl ?_
  refine va_callv (va_runI (As := []) (rest := [.ref h9]) F (c_X9_init l D dA A W8 h9) (cwI 0 hg (goodU t_co_X9_init) rfl rfl rfl (hg _ t_in_X9) (hg _ t_mi_L_18) (hg _ t_im_X9_init) rfl (by decide +kernel) ⟨Nat.le_of_ble_eq_true rfl, Nat.le_of_ble_eq_true rfl⟩) ⟨PC.blind, fun U hU hW => ⟨rfl, va_K.moved hW.alike hK, by rw [hU]; exact hP, hD, fun q h9 => hA q (Nat.le_trans hS.1 (by rw [← hU]; exact h9)), hO.warm hW⟩⟩ rfl rfl hl.1 rfl (lv_room (Nat.le_of_ble_eq_true rfl)) dL_law_12 ⟨Nat.le_of_ble_eq_true rfl, Nat.le_of_ble_eq_true rfl⟩) hS (fun q _ h => h) (fun q h => h) (fun W9 t H1 locs1 ht hvm e9 hB hz1 hk1 hS => ?_)
  obtain ⟨hP, hD⟩ := hB
  rw [ht] at hP
  refine lv_astore_n (lv' := [(2, .ref h9), (1, .ref h8), (0, .ref b)]) hx hb dL_law_15 rfl hl (by decide) rfl (fun ls hl => ?_)
  refine lv_iconst (v := 1) hx hb dL_law_16 (by decide) ?_
  refine va_newa (atype := .long) (N' := 1) (a0 := (1, .inr (.inl (fun _ => 0)))) hx hb (hg _ t_ac_long) rfl hK hP hD hS hA (fun cA => rfl) (by decide) (by decide) (Nat.le_of_ble_eq_true rfl) (Nat.le_of_ble_eq_true rfl) (Nat.le_of_ble_eq_true rfl) dL_law_17 (fun qo cA H hK2 hP hD hS => ?_)
  have hc : cA = dA 1 := arr_one (k := 1) rfl hK2
  subst hc
  refine lv_astore_n (lv' := [(3, .ref qo), (2, .ref h9), (1, .ref h8), (0, .ref b)]) hx hb dL_law_19 rfl hl (by decide) rfl (fun ls hl => ?_)
  refine lv_iconst (v := 0) hx hb dL_law_20 (by decide) ?_
  refine lv_istore (lv' := [(4, .int 0), (3, .ref qo), (2, .ref h9), (1, .ref h8), (0, .ref b)]) hx hb dL_law_21 hl (by decide) rfl (fun ls hl => ?_)
  obtain ⟨ad, a0, a130, a149, hP, hD⟩ := gp_start e8 e9 hP hD
  have S : St (D, ad, dA, A, kf, vf, ff) w00 s H _ := ⟨hK, hP, hD, hS, hSW D ad dA⟩
  refine W.widen (k := 150 + 0) (n := 106734 + 0) (Nat.le_of_ble_eq_true rfl) (Nat.le_of_ble_eq_true rfl) ?_
  exact law_loop (G := (D, ad, dA, A, kf, vf, ff)) (no_traces hflags) hL C0 hA2 (hA3 b hbl) hLW (L + 1) 0 w00 _ _ ls (Nat.zero_le L) (by omega) jj_start S (by
    show lv_has ls 7 [(0, .ref b), (1, .ref (ad 0)), (2, .ref (ad 130)), (3, .ref (ad 149)), (4, .int (nI 0))]
    rw [a0, a130, a149]
    exact lv_sub hl [4, 3, 2, 1, 0] rfl)
