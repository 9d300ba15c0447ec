noncomputable def f_X9_mean_21   (w : GW) : Option (Int64 × GW) :=
  (f_X9_no 1 w).bind fun q7 =>
  some ((q7.1.toInt64), q7.2)
noncomputable def f_X9_mean_56  : Nat → Int32 → Int32 → Int32 → Int64 → Int32 → GW → Option (Int64 × GW)
  | 0, _, _, _, _, _, _ => none
  | n9 + 1, x2, x3, x4, x6, x8, w =>
    if (gI w 130 28) ≤ x8 then
      (f_X9_lowest x6 (gL w 130 30) x4 w).bind fun q17 =>
      some (q17.1, q17.2)
    else
      if inb x8 8000 then
      if inb x8 8000 then
      (f_X9_measured (gI w 139 (ix x8)) x2 x3 w).bind fun q21 =>
      f_X9_mean_56 n9 x2 x3 x4 (x6 + ((gL w 142 (ix x8)) * (q21.1.toInt64))) (x8 + 1) q21.2
      else none
      else none
noncomputable def f_X9_mean (x1 : Int32) (x2 : Int32) (x3 : Int32) (x4 : Int32) (w : GW) : Option (Int64 × GW) :=
  (f_X9_good w).bind fun q1 =>
  (f_X9_isPorter x1 q1.2).bind fun q3 =>
  if q3.1 = 0 then
    f_X9_mean_21 q3.2
  else
    (f_X9_within x3 0 3 q3.2).bind fun q9 =>
    if q9.1 = 0 then
      f_X9_mean_21 q9.2
    else
      (f_X9_chanceWhy x1 x2 1 q9.2).bind fun q13 =>
      if q13.1 = 0 then
        f_X9_mean_56 fu x2 x3 x4 0 0 q13.2
      else
        (f_X9_no q13.1 q13.2).bind fun q23 =>
        some ((q23.1.toInt64), q23.2)
set_option maxHeartbeats 4000000 in
set_option maxRecDepth 100000 in
theorem w_X9_mean_21 {p : Program} {l : Launch} {e : Env} {s : State} {m : MethodId} {args : Array Value} {below : List Frame} {meth : Method} {c : Code} {G : GG} (F : CallFix p m c cX9_mean 9 s args (wsU yX9_mean cX9_mean 9 (some .long)) RX9) (hr : meth.sig.returnType = (some .long)) (hlk : meth.locks = false) {z : Int64 × GW} : (∀ (w : GW) (H : Heap) (locs : List Loc) (ls : Array Slot), St G w s H locs → lv_has ls 9 [(0, .ref (gad G 130))] → f_X9_mean_21  w = some z → W p l e (headSpec (wsU yX9_mean cX9_mean 9 (some .long)) rm_X9_mean).room s m args below meth c H locs 0 0 (MQ below (QL G z) args s 0 0 (gA G)) (F0 m 21 ls [])) := by
  obtain ⟨hx, hb, hml, hown, hts⟩ := id F
  have hg : ∀ q ∈ lwg, q.before args s = true := fun q h => hts q (List.mem_cons_of_mem _ h)
  intro w H locs ls S hl hz
  rw [f_X9_mean_21] at hz
  refine lv_aload_n hx hb dX9_mean_21 rfl (lv_at hl 0 rfl) ?_
  refine lv_iconst (v := 1) hx hb dX9_mean_22 (by decide) ?_
  obtain ⟨q7, e8, hz⟩ := bd hz
  refine g_callVi (As := [.int 1]) (rest := []) F S (c_X9_no l G 1  _ e8) (cw_X9_mean_X9_no_153 hg) (S.obj (by decide) (by decide) rfl (oc_X9 _ _ _ (by decide))) rfl hl.1 rfl (Nat.le_of_ble_eq_true rfl) ⟨Nat.zero_le _, Nat.zero_le _⟩ dX9_mean_23 (fun H locs  S => ?_)
  refine lv_i2l (v := q7.1.toInt64) hx hb dX9_mean_26 rfl ?_
  exact g_retl hx hb hr hlk S hz dX9_mean_27
set_option maxHeartbeats 4000000 in
set_option maxRecDepth 100000 in
theorem w_X9_mean_56 {p : Program} {l : Launch} {e : Env} {s : State} {m : MethodId} {args : Array Value} {below : List Frame} {meth : Method} {c : Code} {G : GG} (F : CallFix p m c cX9_mean 9 s args (wsU yX9_mean cX9_mean 9 (some .long)) RX9) (hr : meth.sig.returnType = (some .long)) (hlk : meth.locks = false) {z : Int64 × GW} : ∀ (n9 : Nat), (∀ (x2 : Int32) (x3 : Int32) (x4 : Int32) (x6 : Int64) (x8 : Int32) (w : GW) (H : Heap) (locs : List Loc) (ls : Array Slot), St G w s H locs → lv_has ls 9 [(0, .ref (gad G 130)), (2, .int x2), (3, .int x3), (4, .int x4), (6, .long x6), (8, .int x8)] → f_X9_mean_56 n9 x2 x3 x4 x6 x8 w = some z → W p l e (headSpec (wsU yX9_mean cX9_mean 9 (some .long)) rm_X9_mean).room s m args below meth c H locs 0 0 (MQ below (QL G z) args s 0 0 (gA G)) (F0 m 56 ls [])) := by
  obtain ⟨hx, hb, hml, hown, hts⟩ := id F
  have hg : ∀ q ∈ lwg, q.before args s = true := fun q h => hts q (List.mem_cons_of_mem _ h)
  intro n9
  induction n9 with
  | zero =>
    intro x2 x3 x4 x6 x8 w H locs ls S hl hz
    rw [f_X9_mean_56] at hz
    cases hz
  | succ n9 ih =>
    intro x2 x3 x4 x6 x8 w H locs ls S hl hz
    rw [f_X9_mean_56] at hz
    refine lv_iload hx hb dX9_mean_56 (lv_at hl 5 rfl) ?_
    refine lv_aload_n hx hb dX9_mean_58 rfl (lv_at hl 0 rfl) ?_
    refine fg_X9_28 hx hb (fun q h => hg q (tl_X9 q h)) hown (hg _ t_fl_X9_252) S (by decide) dX9_mean_59 ?_
    refine lv_icmp_ge (tgt := 98) hx hb dX9_mean_62 (by decide) (fun c16 => ?_) (fun c16 => ?_)
    · have hz := ipt (c16) hz
      refine lv_lload hx hb dX9_mean_98 (lv_at hl 4 rfl) ?_
      refine lv_aload_n hx hb dX9_mean_100 rfl (lv_at hl 0 rfl) ?_
      refine fg_X9_30 hx hb (fun q h => hg q (tl_X9 q h)) hown (hg _ t_fl_X9_255) S (by decide) dX9_mean_101 ?_
      refine lv_iload hx hb dX9_mean_104 (lv_at hl 3 rfl) ?_
      obtain ⟨q17, e18, hz⟩ := bd hz
      refine g_callSl (As := [.long x6, .long (gL w 130 30), .int x4]) (rest := []) F S (c_X9_lowest l G x6 (gL w 130 30) x4  _ e18) (cw_X9_mean_X9_lowest_334 hg) rfl hl.1 rfl (Nat.le_of_ble_eq_true rfl) ⟨Nat.zero_le _, Nat.zero_le _⟩ dX9_mean_106 (fun H locs  S => ?_)
      exact g_retl hx hb hr hlk S hz dX9_mean_109
    · have hz := ipf (c16) hz
      refine lv_lload hx hb dX9_mean_65 (lv_at hl 4 rfl) ?_
      refine lv_aload_n hx hb dX9_mean_67 rfl (lv_at hl 0 rfl) ?_
      refine fg_X9_26 hx hb (fun q h => hg q (tl_X9 q h)) hown (hg _ t_fl_X9_47) S (by decide) dX9_mean_68 ?_
      refine lv_iload hx hb dX9_mean_71 (lv_at hl 5 rfl) ?_
      obtain ⟨h19, hz⟩ := ck hz
      refine g_lald hx hb S (isA_27 (by decide)) h19 dX9_mean_73 ?_
      refine lv_aload_n hx hb dX9_mean_74 rfl (lv_at hl 0 rfl) ?_
      refine lv_aload_n hx hb dX9_mean_75 rfl (lv_at hl 0 rfl) ?_
      refine fg_X9_23 hx hb (fun q h => hg q (tl_X9 q h)) hown (hg _ t_fl_X9_38) S (by decide) dX9_mean_76 ?_
      refine lv_iload hx hb dX9_mean_79 (lv_at hl 5 rfl) ?_
      obtain ⟨h20, hz⟩ := ck hz
      refine g_iald hx hb S (isA_18 (by decide)) h20 dX9_mean_81 ?_
      refine lv_iload_n hx hb dX9_mean_82 rfl (lv_at hl 1 rfl) ?_
      refine lv_iload_n hx hb dX9_mean_83 rfl (lv_at hl 2 rfl) ?_
      obtain ⟨q21, e22, hz⟩ := bd hz
      refine g_callVi (As := [.int (gI w 139 (ix x8)), .int x2, .int x3]) (rest := [.long (gL w 142 (ix x8)), .long x6]) F S (c_X9_measured l G (gI w 139 (ix x8)) x2 x3  _ e22) (cw_X9_mean_X9_measured_344 hg) (S.obj (by decide) (by decide) rfl (oc_X9 _ _ _ (by decide))) rfl hl.1 rfl (Nat.le_of_ble_eq_true rfl) ⟨Nat.zero_le _, Nat.zero_le _⟩ dX9_mean_84 (fun H locs  S => ?_)
      refine lv_i2l (v := q21.1.toInt64) hx hb dX9_mean_87 rfl ?_
      refine lv_lmul hx hb dX9_mean_88 ?_
      refine lv_ladd hx hb dX9_mean_89 ?_
      refine lv_lstore (lv' := [(6, .long (x6 + ((gL w 142 (ix x8)) * (q21.1.toInt64)))), (0, .ref (gad G 130)), (2, .int x2), (3, .int x3), (4, .int x4), (8, .int x8)]) hx hb dX9_mean_90 hl (by decide) rfl (fun ls hl => ?_)
      refine lv_iinc (v := (x8 + 1)) (lv' := [(8, .int (x8 + 1)), (6, .long (x6 + ((gL w 142 (ix x8)) * (q21.1.toInt64)))), (0, .ref (gad G 130)), (2, .int x2), (3, .int x3), (4, .int x4)]) hx hb dX9_mean_92 hl (k := 5) rfl rfl (by decide) rfl (fun ls hl => ?_)
      refine lv_goto (tgt := 56) hx hb dX9_mean_95 (by decide) ?_
      exact ih x2 x3 x4 (x6 + ((gL w 142 (ix x8)) * (q21.1.toInt64))) (x8 + 1)  _ _ _ _ S (lv_sub hl [2, 3, 4, 5, 1, 0] rfl) hz
set_option maxHeartbeats 4000000 in
set_option maxRecDepth 100000 in
theorem c_X9_mean (l : Launch) (G : GG) (x1 : Int32) (x2 : Int32) (x3 : Int32) (x4 : Int32)  (w : GW) {z : Int64 × GW} (hz : f_X9_mean x1 x2 x3 x4 w = some z) : Met l yX9_mean (wsU yX9_mean cX9_mean 9 (some .long)) rm_X9_mean (va_Pc [.ref (gad G 130), .int x1, .int x2, .int x3, .int x4] (PreG G w)) (QL G z) 0 0 (gA G) := by
  refine Met.ofW (cc := cX9_mean) (maxL := 9) (ret := (some .long)) (by decide) rfl ?_
  intro p e s m args below meth c s₁ B hml hv
  obtain ⟨rfl, S⟩ := hv
  have F : CallFix p m c cX9_mean 9 s _ (wsU yX9_mean cX9_mean 9 (some .long)) RX9 := ⟨B.exec, B.bytes, hml, findClass_of_methodNamed B.named, atoms_spec B.pre⟩
  have hr := B.returns
  have hlk := B.notSynchronized
  obtain ⟨hx, hb, -, hown, hts⟩ := id F
  have hg : ∀ q ∈ lwg, q.before _ s = true := fun q h => hts q (List.mem_cons_of_mem _ h)
  refine g_entry (Nat.le_of_ble_eq_true rfl) (fun ls hl => ?_)
  have hl : lv_has ls 9 [(0, .ref (gad G 130)), (1, .int x1), (2, .int x2), (3, .int x3), (4, .int x4)] := hl
  have S : St G w s s.heap [] := S
  generalize s.heap = H at S ⊢
  generalize ([] : List Loc) = locs at S ⊢
  rw [f_X9_mean] at hz
  refine lv_aload_n hx hb dX9_mean_0 rfl (lv_at hl 0 rfl) ?_
  obtain ⟨q1, e2, hz⟩ := bd hz
  refine g_callVv (As := []) (rest := []) F S (c_X9_good l G   _ e2) (cw_X9_mean_X9_good_150 hg) (S.obj (by decide) (by decide) rfl (oc_X9 _ _ _ (by decide))) rfl hl.1 rfl (Nat.le_of_ble_eq_true rfl) ⟨Nat.zero_le _, Nat.zero_le _⟩ dX9_mean_1 (fun H locs  S => ?_)
  refine lv_aload_n hx hb dX9_mean_4 rfl (lv_at hl 0 rfl) ?_
  refine lv_iload_n hx hb dX9_mean_5 rfl (lv_at hl 1 rfl) ?_
  obtain ⟨q3, e4, hz⟩ := bd hz
  refine g_callVb (As := [.int x1]) (rest := []) F S (c_X9_isPorter l G x1  _ e4) (cw_X9_mean_X9_isPorter_320 hg) (S.obj (by decide) (by decide) rfl (oc_X9 _ _ _ (by decide))) rfl hl.1 rfl (Nat.le_of_ble_eq_true rfl) ⟨Nat.zero_le _, Nat.zero_le _⟩ dX9_mean_6 (fun H locs hB5 S => ?_)
  refine lv_if_eq (tgt := 21) hx hb dX9_mean_9 (by decide) (fun c6 => ?_) (fun c6 => ?_)
  · have hz := ipt (c6) hz
    exact w_X9_mean_21 F hr hlk _ _ _ _ S (lv_sub hl [0] rfl) hz
  · have hz := ipf (c6) hz
    refine lv_iload_n hx hb dX9_mean_12 rfl (lv_at hl 3 rfl) ?_
    refine lv_iconst (v := 0) hx hb dX9_mean_13 (by decide) ?_
    refine lv_iconst (v := 3) hx hb dX9_mean_14 (by decide) ?_
    obtain ⟨q9, e10, hz⟩ := bd hz
    refine g_callSb (As := [.int x3, .int 0, .int 3]) (rest := []) F S (c_X9_within l G x3 0 3  _ e10) (cw_X9_mean_X9_within_138 hg) rfl hl.1 rfl (Nat.le_of_ble_eq_true rfl) ⟨Nat.zero_le _, Nat.zero_le _⟩ dX9_mean_15 (fun H locs hB11 S => ?_)
    refine lv_if_ne (tgt := 28) hx hb dX9_mean_18 (by decide) (fun c12 => ?_) (fun c12 => ?_)
    · have hz := ipf (c12) hz
      refine lv_aload_n hx hb dX9_mean_28 rfl (lv_at hl 0 rfl) ?_
      refine lv_iload_n hx hb dX9_mean_29 rfl (lv_at hl 1 rfl) ?_
      refine lv_iload_n hx hb dX9_mean_30 rfl (lv_at hl 2 rfl) ?_
      refine lv_iconst (v := 1) hx hb dX9_mean_31 (by decide) ?_
      obtain ⟨q13, e14, hz⟩ := bd hz
      refine g_callVi (As := [.int x1, .int x2, .int 1]) (rest := []) F S (c_X9_chanceWhy l G x1 x2 1  _ e14) (cw_X9_mean_X9_chanceWhy_327 hg) (S.obj (by decide) (by decide) rfl (oc_X9 _ _ _ (by decide))) rfl hl.1 rfl (Nat.le_of_ble_eq_true rfl) ⟨Nat.zero_le _, Nat.zero_le _⟩ dX9_mean_32 (fun H locs  S => ?_)
      refine lv_istore (lv' := [(5, .int q13.1), (0, .ref (gad G 130)), (1, .int x1), (2, .int x2), (3, .int x3), (4, .int x4)]) hx hb dX9_mean_35 hl (by decide) rfl (fun ls hl => ?_)
      refine lv_iload hx hb dX9_mean_37 (lv_at hl 0 rfl) ?_
      refine lv_if_eq (tgt := 50) hx hb dX9_mean_39 (by decide) (fun c15 => ?_) (fun c15 => ?_)
      · have hz := ipt (c15) hz
        refine lv_lconst (v := 0) hx hb dX9_mean_50 (by decide) ?_
        refine lv_lstore (lv' := [(6, .long 0), (5, .int q13.1), (0, .ref (gad G 130)), (1, .int x1), (2, .int x2), (3, .int x3), (4, .int x4)]) hx hb dX9_mean_51 hl (by decide) rfl (fun ls hl => ?_)
        refine lv_iconst (v := 0) hx hb dX9_mean_53 (by decide) ?_
        refine lv_istore (lv' := [(8, .int 0), (6, .long 0), (5, .int q13.1), (0, .ref (gad G 130)), (1, .int x1), (2, .int x2), (3, .int x3), (4, .int x4)]) hx hb dX9_mean_54 hl (by decide) rfl (fun ls hl => ?_)
        exact w_X9_mean_56 F hr hlk fu x2 x3 x4 0 0 _ _ _ _ S (lv_sub hl [3, 5, 6, 7, 1, 0] rfl) hz
      · have hz := ipf (c15) hz
        refine lv_aload_n hx hb dX9_mean_42 rfl (lv_at hl 1 rfl) ?_
        refine lv_iload hx hb dX9_mean_43 (lv_at hl 0 rfl) ?_
        obtain ⟨q23, e24, hz⟩ := bd hz
        refine g_callVi (As := [.int q13.1]) (rest := []) F S (c_X9_no l G q13.1  _ e24) (cw_X9_mean_X9_no_153 hg) (S.obj (by decide) (by decide) rfl (oc_X9 _ _ _ (by decide))) rfl hl.1 rfl (Nat.le_of_ble_eq_true rfl) ⟨Nat.zero_le _, Nat.zero_le _⟩ dX9_mean_45 (fun H locs  S => ?_)
        refine lv_i2l (v := q23.1.toInt64) hx hb dX9_mean_48 rfl ?_
        exact g_retl hx hb hr hlk S hz dX9_mean_49
    · have hz := ipt (c12) hz
      exact w_X9_mean_21 F hr hlk _ _ _ _ S (lv_sub hl [0] rfl) hz
noncomputable def f_X9_states_103 (k_28 : Int32 → Int32 → GW → Option (Int32 × GW)) (x5 : Int32) (t0 : Int32) (t1 : Int32) (w : GW) : Option (Int32 × GW) :=
  k_28 (t1 + t0) (x5 + 1) w
noncomputable def f_X9_states_91 (k_28 : Int32 → Int32 → GW → Option (Int32 × GW)) (x4 : Int32) (x5 : Int32) (x6 : Int32) (w : GW) : Option (Int32 × GW) :=
  if x6 = 0 then
    f_X9_states_103 k_28 x5 0 x4 w
  else
    f_X9_states_103 k_28 x5 1 x4 w
noncomputable def f_X9_states_83 (k_28 : Int32 → Int32 → GW → Option (Int32 × GW)) (k_43 : Int32 → Int32 → Int32 → Int32 → GW → Option (Int32 × GW)) (x4 : Int32) (x5 : Int32) (x7 : Int32) (t0 : Int32) (w : GW) : Option (Int32 × GW) :=
  k_43 x4 x5 t0 (x7 + 1) w
noncomputable def f_X9_states_43 (k_28 : Int32 → Int32 → GW → Option (Int32 × GW)) : Nat → Int32 → Int32 → Int32 → Int32 → GW → Option (Int32 × GW)
  | 0, _, _, _, _, _ => none
  | n9 + 1, x4, x5, x6, x7, w =>
    if x5 ≤ x7 then
      f_X9_states_91 k_28 x4 x5 x6 w
    else
      if x6 = 0 then
        f_X9_states_91 k_28 x4 x5 x6 w
      else
        if inb x7 8000 then
        if inb x5 8000 then
        if (irm (gI w 139 (ix x7)) 59049) = (irm (gI w 139 (ix x5)) 59049) then
          f_X9_states_83 k_28 (f_X9_states_43 k_28 n9) x4 x5 x7 0 w
        else
          f_X9_states_83 k_28 (f_X9_states_43 k_28 n9) x4 x5 x7 1 w
        else none
        else none
noncomputable def f_X9_states_28  : Nat → Int32 → Int32 → GW → Option (Int32 × GW)
  | 0, _, _, _ => none
  | n9 + 1, x4, x5, w =>
    if (gI w 130 28) ≤ x5 then
      some (x4, w)
    else
      f_X9_states_43 (f_X9_states_28 n9) fu x4 x5 1 0 w
noncomputable def f_X9_states (x1 : Int32) (x2 : Int32) (w : GW) : Option (Int32 × GW) :=
  (f_X9_good w).bind fun q1 =>
  (f_X9_chanceWhy x1 x2 1 q1.2).bind fun q3 =>
  if q3.1 = 0 then
    f_X9_states_28 fu 0 0 q3.2
  else
    (f_X9_no q3.1 q3.2).bind fun q13 =>
    some (q13.1, q13.2)
set_option maxHeartbeats 4000000 in
set_option maxRecDepth 100000 in
theorem w_X9_states_103 {p : Program} {l : Launch} {e : Env} {s : State} {m : MethodId} {args : Array Value} {below : List Frame} {meth : Method} {c : Code} {G : GG} (F : CallFix p m c cX9_states 8 s args (wsU yX9_states cX9_states 8 (some .int)) RX9) (hr : meth.sig.returnType = (some .int)) (hlk : meth.locks = false) {z : Int32 × GW} {k_28 : Int32 → Int32 → GW → Option (Int32 × GW)} (Hk_28 : (∀ (x4 : Int32) (x5 : Int32) (w : GW) (H : Heap) (locs : List Loc) (ls : Array Slot), St G w s H locs → lv_has ls 8 [(0, .ref (gad G 130)), (4, .int x4), (5, .int x5)] → k_28 x4 x5 w = some z → W p l e (headSpec (wsU yX9_states cX9_states 8 (some .int)) rm_X9_states).room s m args below meth c H locs 0 0 (MQ below (QI G z) args s 0 0 (gA G)) (F0 m 28 ls []))) : (∀ (x5 : Int32) (t0 : Int32) (t1 : Int32) (w : GW) (H : Heap) (locs : List Loc) (ls : Array Slot), St G w s H locs → lv_has ls 8 [(0, .ref (gad G 130)), (5, .int x5)] → f_X9_states_103 k_28 x5 t0 t1 w = some z → W p l e (headSpec (wsU yX9_states cX9_states 8 (some .int)) rm_X9_states).room s m args below meth c H locs 0 0 (MQ below (QI G z) args s 0 0 (gA G)) (F0 m 103 ls [.int t0, .int t1])) := by
  obtain ⟨hx, hb, hml, hown, hts⟩ := id F
  have hg : ∀ q ∈ lwg, q.before args s = true := fun q h => hts q (List.mem_cons_of_mem _ h)
  intro x5 t0 t1 w H locs ls S hl hz
  rw [f_X9_states_103] at hz
  refine lv_iadd hx hb dX9_states_103 ?_
  refine lv_istore (lv' := [(4, .int (t1 + t0)), (0, .ref (gad G 130)), (5, .int x5)]) hx hb dX9_states_104 hl (by decide) rfl (fun ls hl => ?_)
  refine lv_iinc (v := (x5 + 1)) (lv' := [(5, .int (x5 + 1)), (4, .int (t1 + t0)), (0, .ref (gad G 130))]) hx hb dX9_states_106 hl (k := 2) rfl rfl (by decide) rfl (fun ls hl => ?_)
  refine lv_goto (tgt := 28) hx hb dX9_states_109 (by decide) ?_
  exact Hk_28 (t1 + t0) (x5 + 1)  _ _ _ _ S (lv_sub hl [2, 1, 0] rfl) hz
set_option maxHeartbeats 4000000 in
set_option maxRecDepth 100000 in
theorem w_X9_states_91 {p : Program} {l : Launch} {e : Env} {s : State} {m : MethodId} {args : Array Value} {below : List Frame} {meth : Method} {c : Code} {G : GG} (F : CallFix p m c cX9_states 8 s args (wsU yX9_states cX9_states 8 (some .int)) RX9) (hr : meth.sig.returnType = (some .int)) (hlk : meth.locks = false) {z : Int32 × GW} {k_28 : Int32 → Int32 → GW → Option (Int32 × GW)} (Hk_28 : (∀ (x4 : Int32) (x5 : Int32) (w : GW) (H : Heap) (locs : List Loc) (ls : Array Slot), St G w s H locs → lv_has ls 8 [(0, .ref (gad G 130)), (4, .int x4), (5, .int x5)] → k_28 x4 x5 w = some z → W p l e (headSpec (wsU yX9_states cX9_states 8 (some .int)) rm_X9_states).room s m args below meth c H locs 0 0 (MQ below (QI G z) args s 0 0 (gA G)) (F0 m 28 ls []))) : (∀ (x4 : Int32) (x5 : Int32) (x6 : Int32) (w : GW) (H : Heap) (locs : List Loc) (ls : Array Slot), St G w s H locs → lv_has ls 8 [(0, .ref (gad G 130)), (4, .int x4), (5, .int x5), (6, .int x6)] → f_X9_states_91 k_28 x4 x5 x6 w = some z → W p l e (headSpec (wsU yX9_states cX9_states 8 (some .int)) rm_X9_states).room s m args below meth c H locs 0 0 (MQ below (QI G z) args s 0 0 (gA G)) (F0 m 91 ls [])) := by
  obtain ⟨hx, hb, hml, hown, hts⟩ := id F
  have hg : ∀ q ∈ lwg, q.before args s = true := fun q h => hts q (List.mem_cons_of_mem _ h)
  intro x4 x5 x6 w H locs ls S hl hz
  rw [f_X9_states_91] at hz
  refine lv_iload hx hb dX9_states_91 (lv_at hl 1 rfl) ?_
  refine lv_iload hx hb dX9_states_93 (lv_at hl 3 rfl) ?_
  refine lv_if_eq (tgt := 102) hx hb dX9_states_95 (by decide) (fun c8 => ?_) (fun c8 => ?_)
  · have hz := ipt (c8) hz
    refine lv_iconst (v := 0) hx hb dX9_states_102 (by decide) ?_
    exact w_X9_states_103 F hr hlk Hk_28 x5 0 x4 _ _ _ _ S (lv_sub hl [0, 2] rfl) hz
  · have hz := ipf (c8) hz
    refine lv_iconst (v := 1) hx hb dX9_states_98 (by decide) ?_
    refine lv_goto (tgt := 103) hx hb dX9_states_99 (by decide) ?_
    exact w_X9_states_103 F hr hlk Hk_28 x5 1 x4 _ _ _ _ S (lv_sub hl [0, 2] rfl) hz
set_option maxHeartbeats 4000000 in
set_option maxRecDepth 100000 in
theorem w_X9_states_83 {p : Program} {l : Launch} {e : Env} {s : State} {m : MethodId} {args : Array Value} {below : List Frame} {meth : Method} {c : Code} {G : GG} (F : CallFix p m c cX9_states 8 s args (wsU yX9_states cX9_states 8 (some .int)) RX9) (hr : meth.sig.returnType = (some .int)) (hlk : meth.locks = false) {z : Int32 × GW} {k_28 : Int32 → Int32 → GW → Option (Int32 × GW)} (Hk_28 : (∀ (x4 : Int32) (x5 : Int32) (w : GW) (H : Heap) (locs : List Loc) (ls : Array Slot), St G w s H locs → lv_has ls 8 [(0, .ref (gad G 130)), (4, .int x4), (5, .int x5)] → k_28 x4 x5 w = some z → W p l e (headSpec (wsU yX9_states cX9_states 8 (some .int)) rm_X9_states).room s m args below meth c H locs 0 0 (MQ below (QI G z) args s 0 0 (gA G)) (F0 m 28 ls []))) {k_43 : Int32 → Int32 → Int32 → Int32 → GW → Option (Int32 × GW)} (Hk_43 : (∀ (x4 : Int32) (x5 : Int32) (x6 : Int32) (x7 : Int32) (w : GW) (H : Heap) (locs : List Loc) (ls : Array Slot), St G w s H locs → lv_has ls 8 [(0, .ref (gad G 130)), (4, .int x4), (5, .int x5), (6, .int x6), (7, .int x7)] → k_43 x4 x5 x6 x7 w = some z → W p l e (headSpec (wsU yX9_states cX9_states 8 (some .int)) rm_X9_states).room s m args below meth c H locs 0 0 (MQ below (QI G z) args s 0 0 (gA G)) (F0 m 43 ls []))) : (∀ (x4 : Int32) (x5 : Int32) (x7 : Int32) (t0 : Int32) (w : GW) (H : Heap) (locs : List Loc) (ls : Array Slot), St G w s H locs → lv_has ls 8 [(0, .ref (gad G 130)), (4, .int x4), (5, .int x5), (7, .int x7)] → f_X9_states_83 k_28 k_43 x4 x5 x7 t0 w = some z → W p l e (headSpec (wsU yX9_states cX9_states 8 (some .int)) rm_X9_states).room s m args below meth c H locs 0 0 (MQ below (QI G z) args s 0 0 (gA G)) (F0 m 83 ls [.int t0])) := by
  obtain ⟨hx, hb, hml, hown, hts⟩ := id F
  have hg : ∀ q ∈ lwg, q.before args s = true := fun q h => hts q (List.mem_cons_of_mem _ h)
  intro x4 x5 x7 t0 w H locs ls S hl hz
  rw [f_X9_states_83] at hz
  refine lv_istore (lv' := [(6, .int t0), (0, .ref (gad G 130)), (4, .int x4), (5, .int x5), (7, .int x7)]) hx hb dX9_states_83 hl (by decide) rfl (fun ls hl => ?_)
  refine lv_iinc (v := (x7 + 1)) (lv' := [(7, .int (x7 + 1)), (6, .int t0), (0, .ref (gad G 130)), (4, .int x4), (5, .int x5)]) hx hb dX9_states_85 hl (k := 4) rfl rfl (by decide) rfl (fun ls hl => ?_)
  refine lv_goto (tgt := 43) hx hb dX9_states_88 (by decide) ?_
  exact Hk_43 x4 x5 t0 (x7 + 1)  _ _ _ _ S (lv_sub hl [2, 3, 4, 1, 0] rfl) hz
set_option maxHeartbeats 4000000 in
set_option maxRecDepth 100000 in
theorem w_X9_states_43 {p : Program} {l : Launch} {e : Env} {s : State} {m : MethodId} {args : Array Value} {below : List Frame} {meth : Method} {c : Code} {G : GG} (F : CallFix p m c cX9_states 8 s args (wsU yX9_states cX9_states 8 (some .int)) RX9) (hr : meth.sig.returnType = (some .int)) (hlk : meth.locks = false) {z : Int32 × GW} {k_28 : Int32 → Int32 → GW → Option (Int32 × GW)} (Hk_28 : (∀ (x4 : Int32) (x5 : Int32) (w : GW) (H : Heap) (locs : List Loc) (ls : Array Slot), St G w s H locs → lv_has ls 8 [(0, .ref (gad G 130)), (4, .int x4), (5, .int x5)] → k_28 x4 x5 w = some z → W p l e (headSpec (wsU yX9_states cX9_states 8 (some .int)) rm_X9_states).room s m args below meth c H locs 0 0 (MQ below (QI G z) args s 0 0 (gA G)) (F0 m 28 ls []))) : ∀ (n9 : Nat), (∀ (x4 : Int32) (x5 : Int32) (x6 : Int32) (x7 : Int32) (w : GW) (H : Heap) (locs : List Loc) (ls : Array Slot), St G w s H locs → lv_has ls 8 [(0, .ref (gad G 130)), (4, .int x4), (5, .int x5), (6, .int x6), (7, .int x7)] → f_X9_states_43 k_28 n9 x4 x5 x6 x7 w = some z → W p l e (headSpec (wsU yX9_states cX9_states 8 (some .int)) rm_X9_states).room s m args below meth c H locs 0 0 (MQ below (QI G z) args s 0 0 (gA G)) (F0 m 43 ls [])) := by
  obtain ⟨hx, hb, hml, hown, hts⟩ := id F
  have hg : ∀ q ∈ lwg, q.before args s = true := fun q h => hts q (List.mem_cons_of_mem _ h)
  intro n9
  induction n9 with
  | zero =>
    intro x4 x5 x6 x7 w H locs ls S hl hz
    rw [f_X9_states_43] at hz
    cases hz
  | succ n9 ih =>
    intro x4 x5 x6 x7 w H locs ls S hl hz
    rw [f_X9_states_43] at hz
    refine lv_iload hx hb dX9_states_43 (lv_at hl 4 rfl) ?_
    refine lv_iload hx hb dX9_states_45 (lv_at hl 2 rfl) ?_
    refine lv_icmp_ge (tgt := 91) hx hb dX9_states_47 (by decide) (fun c7 => ?_) (fun c7 => ?_)
    · have hz := ipt (c7) hz
      exact w_X9_states_91 F hr hlk Hk_28 x4 x5 x6 _ _ _ _ S (lv_sub hl [0, 1, 2, 3] rfl) hz
    · have hz := ipf (c7) hz
      refine lv_iload hx hb dX9_states_50 (lv_at hl 3 rfl) ?_
      refine lv_if_eq (tgt := 91) hx hb dX9_states_52 (by decide) (fun c9 => ?_) (fun c9 => ?_)
      · have hz := ipt (c9) hz
        exact w_X9_states_91 F hr hlk Hk_28 x4 x5 x6 _ _ _ _ S (lv_sub hl [0, 1, 2, 3] rfl) hz
      · have hz := ipf (c9) hz
        refine lv_aload_n hx hb dX9_states_55 rfl (lv_at hl 0 rfl) ?_
        refine fg_X9_23 hx hb (fun q h => hg q (tl_X9 q h)) hown (hg _ t_fl_X9_38) S (by decide) dX9_states_56 ?_
        refine lv_iload hx hb dX9_states_59 (lv_at hl 4 rfl) ?_
        obtain ⟨h10, hz⟩ := ck hz
        refine g_iald hx hb S (isA_18 (by decide)) h10 dX9_states_61 ?_
        refine lv_ldc (v := 59049) hx hb hown (hg _ t_ci_X9_227) dX9_states_62 ?_
        refine g_irem hx hb dX9_states_64 (by decide) ?_
        refine lv_aload_n hx hb dX9_states_65 rfl (lv_at hl 0 rfl) ?_
        refine fg_X9_23 hx hb (fun q h => hg q (tl_X9 q h)) hown (hg _ t_fl_X9_38) S (by decide) dX9_states_66 ?_
        refine lv_iload hx hb dX9_states_69 (lv_at hl 2 rfl) ?_
        obtain ⟨h11, hz⟩ := ck hz
        refine g_iald hx hb S (isA_18 (by decide)) h11 dX9_states_71 ?_
        refine lv_ldc (v := 59049) hx hb hown (hg _ t_ci_X9_227) dX9_states_72 ?_
        refine g_irem hx hb dX9_states_74 (by decide) ?_
        refine lv_icmp_eq (tgt := 82) hx hb dX9_states_75 (by decide) (fun c12 => ?_) (fun c12 => ?_)
        · have hz := ipt (c12) hz
          refine lv_iconst (v := 0) hx hb dX9_states_82 (by decide) ?_
          exact w_X9_states_83 F hr hlk Hk_28 ih x4 x5 x7 0 _ _ _ _ S (lv_sub hl [0, 1, 2, 4] rfl) hz
        · have hz := ipf (c12) hz
          refine lv_iconst (v := 1) hx hb dX9_states_78 (by decide) ?_
          refine lv_goto (tgt := 83) hx hb dX9_states_79 (by decide) ?_
          exact w_X9_states_83 F hr hlk Hk_28 ih x4 x5 x7 1 _ _ _ _ S (lv_sub hl [0, 1, 2, 4] rfl) hz
set_option maxHeartbeats 4000000 in
set_option maxRecDepth 100000 in
theorem w_X9_states_28 {p : Program} {l : Launch} {e : Env} {s : State} {m : MethodId} {args : Array Value} {below : List Frame} {meth : Method} {c : Code} {G : GG} (F : CallFix p m c cX9_states 8 s args (wsU yX9_states cX9_states 8 (some .int)) RX9) (hr : meth.sig.returnType = (some .int)) (hlk : meth.locks = false) {z : Int32 × GW} : ∀ (n9 : Nat), (∀ (x4 : Int32) (x5 : Int32) (w : GW) (H : Heap) (locs : List Loc) (ls : Array Slot), St G w s H locs → lv_has ls 8 [(0, .ref (gad G 130)), (4, .int x4), (5, .int x5)] → f_X9_states_28 n9 x4 x5 w = some z → W p l e (headSpec (wsU yX9_states cX9_states 8 (some .int)) rm_X9_states).room s m args below meth c H locs 0 0 (MQ below (QI G z) args s 0 0 (gA G)) (F0 m 28 ls [])) := by
  obtain ⟨hx, hb, hml, hown, hts⟩ := id F
  have hg : ∀ q ∈ lwg, q.before args s = true := fun q h => hts q (List.mem_cons_of_mem _ h)
  intro n9
  induction n9 with
  | zero =>
    intro x4 x5 w H locs ls S hl hz
    rw [f_X9_states_28] at hz
    cases hz
  | succ n9 ih =>
    intro x4 x5 w H locs ls S hl hz
    rw [f_X9_states_28] at hz
    refine lv_iload hx hb dX9_states_28 (lv_at hl 2 rfl) ?_
    refine lv_aload_n hx hb dX9_states_30 rfl (lv_at hl 0 rfl) ?_
    refine fg_X9_28 hx hb (fun q h => hg q (tl_X9 q h)) hown (hg _ t_fl_X9_252) S (by decide) dX9_states_31 ?_
    refine lv_icmp_ge (tgt := 112) hx hb dX9_states_34 (by decide) (fun c6 => ?_) (fun c6 => ?_)
    · have hz := ipt (c6) hz
      refine lv_iload hx hb dX9_states_112 (lv_at hl 1 rfl) ?_
      exact g_reti hx hb hr hlk S hz dX9_states_114
    · have hz := ipf (c6) hz
      refine lv_iconst (v := 1) hx hb dX9_states_37 (by decide) ?_
      refine lv_istore (lv' := [(6, .int 1), (0, .ref (gad G 130)), (4, .int x4), (5, .int x5)]) hx hb dX9_states_38 hl (by decide) rfl (fun ls hl => ?_)
      refine lv_iconst (v := 0) hx hb dX9_states_40 (by decide) ?_
      refine lv_istore (lv' := [(7, .int 0), (6, .int 1), (0, .ref (gad G 130)), (4, .int x4), (5, .int x5)]) hx hb dX9_states_41 hl (by decide) rfl (fun ls hl => ?_)
      exact w_X9_states_43 F hr hlk ih fu x4 x5 1 0 _ _ _ _ S (lv_sub hl [2, 3, 4, 1, 0] rfl) hz
set_option maxHeartbeats 4000000 in
set_option maxRecDepth 100000 in
theorem c_X9_states (l : Launch) (G : GG) (x1 : Int32) (x2 : Int32)  (w : GW) {z : Int32 × GW} (hz : f_X9_states x1 x2 w = some z) : Met l yX9_states (wsU yX9_states cX9_states 8 (some .int)) rm_X9_states (va_Pc [.ref (gad G 130), .int x1, .int x2] (PreG G w)) (QI G z) 0 0 (gA G) := by
  refine Met.ofW (cc := cX9_states) (maxL := 8) (ret := (some .int)) (by decide) rfl ?_
  intro p e s m args below meth c s₁ B hml hv
  obtain ⟨rfl, S⟩ := hv
  have F : CallFix p m c cX9_states 8 s _ (wsU yX9_states cX9_states 8 (some .int)) RX9 := ⟨B.exec, B.bytes, hml, findClass_of_methodNamed B.named, atoms_spec B.pre⟩
  have hr := B.returns
  have hlk := B.notSynchronized
  obtain ⟨hx, hb, -, hown, hts⟩ := id F
  have hg : ∀ q ∈ lwg, q.before _ s = true := fun q h => hts q (List.mem_cons_of_mem _ h)
  refine g_entry (Nat.le_of_ble_eq_true rfl) (fun ls hl => ?_)
  have hl : lv_has ls 8 [(0, .ref (gad G 130)), (1, .int x1), (2, .int x2)] := hl
  have S : St G w s s.heap [] := S
  generalize s.heap = H at S ⊢
  generalize ([] : List Loc) = locs at S ⊢
  rw [f_X9_states] at hz
  refine lv_aload_n hx hb dX9_states_0 rfl (lv_at hl 0 rfl) ?_
  obtain ⟨q1, e2, hz⟩ := bd hz
  refine g_callVv (As := []) (rest := []) F S (c_X9_good l G   _ e2) (cw_X9_states_X9_good_150 hg) (S.obj (by decide) (by decide) rfl (oc_X9 _ _ _ (by decide))) rfl hl.1 rfl (Nat.le_of_ble_eq_true rfl) ⟨Nat.zero_le _, Nat.zero_le _⟩ dX9_states_1 (fun H locs  S => ?_)
  refine lv_aload_n hx hb dX9_states_4 rfl (lv_at hl 0 rfl) ?_
  refine lv_iload_n hx hb dX9_states_5 rfl (lv_at hl 1 rfl) ?_
  refine lv_iload_n hx hb dX9_states_6 rfl (lv_at hl 2 rfl) ?_
  refine lv_iconst (v := 1) hx hb dX9_states_7 (by decide) ?_
  obtain ⟨q3, e4, hz⟩ := bd hz
  refine g_callVi (As := [.int x1, .int x2, .int 1]) (rest := []) F S (c_X9_chanceWhy l G x1 x2 1  _ e4) (cw_X9_states_X9_chanceWhy_327 hg) (S.obj (by decide) (by decide) rfl (oc_X9 _ _ _ (by decide))) rfl hl.1 rfl (Nat.le_of_ble_eq_true rfl) ⟨Nat.zero_le _, Nat.zero_le _⟩ dX9_states_8 (fun H locs  S => ?_)
  refine lv_istore_n (lv' := [(3, .int q3.1), (0, .ref (gad G 130)), (1, .int x1), (2, .int x2)]) hx hb dX9_states_11 rfl hl (by decide) rfl (fun ls hl => ?_)
  refine lv_iload_n hx hb dX9_states_12 rfl (lv_at hl 0 rfl) ?_
  refine lv_if_eq (tgt := 22) hx hb dX9_states_13 (by decide) (fun c5 => ?_) (fun c5 => ?_)
  · have hz := ipt (c5) hz
    refine lv_iconst (v := 0) hx hb dX9_states_22 (by decide) ?_
    refine lv_istore (lv' := [(4, .int 0), (3, .int q3.1), (0, .ref (gad G 130)), (1, .int x1), (2, .int x2)]) hx hb dX9_states_23 hl (by decide) rfl (fun ls hl => ?_)
    refine lv_iconst (v := 0) hx hb dX9_states_25 (by decide) ?_
    refine lv_istore (lv' := [(5, .int 0), (4, .int 0), (3, .int q3.1), (0, .ref (gad G 130)), (1, .int x1), (2, .int x2)]) hx hb dX9_states_26 hl (by decide) rfl (fun ls hl => ?_)
    exact w_X9_states_28 F hr hlk fu 0 0 _ _ _ _ S (lv_sub hl [3, 1, 0] rfl) hz
  · have hz := ipf (c5) hz
    refine lv_aload_n hx hb dX9_states_16 rfl (lv_at hl 1 rfl) ?_
    refine lv_iload_n hx hb dX9_states_17 rfl (lv_at hl 0 rfl) ?_
    obtain ⟨q13, e14, hz⟩ := bd hz
    refine g_callVi (As := [.int q3.1]) (rest := []) F S (c_X9_no l G q3.1  _ e14) (cw_X9_states_X9_no_153 hg) (S.obj (by decide) (by decide) rfl (oc_X9 _ _ _ (by decide))) rfl hl.1 rfl (Nat.le_of_ble_eq_true rfl) ⟨Nat.zero_le _, Nat.zero_le _⟩ dX9_states_18 (fun H locs  S => ?_)
    exact g_reti hx hb hr hlk S hz dX9_states_21
noncomputable def f_X9_worst_97 (k_40 : Int32 → Int32 → Int32 → GW → Option (Int32 × GW)) (x3 : Int32) (x6 : Int32) (t0 : Int32) (w : GW) : Option (Int32 × GW) :=
  k_40 x3 t0 (x6 + 1) w
noncomputable def f_X9_worst_40  : Nat → Int32 → Int32 → Int32 → GW → Option (Int32 × GW)
  | 0, _, _, _, _ => none
  | n9 + 1, x3, x5, x6, w =>
    if (gI w 130 28) ≤ x6 then
      some (x5, w)
    else
      if inb x6 8000 then
      (f_X9_fullestOf (gI w 139 (ix x6)) w).bind fun q11 =>
      if x3 = 0 then
        if q11.1 ≤ x5 then
          f_X9_worst_97 (f_X9_worst_40 n9) x3 x6 x5 q11.2
        else
          f_X9_worst_97 (f_X9_worst_40 n9) x3 x6 q11.1 q11.2
      else
        if x5 ≤ q11.1 then
          f_X9_worst_97 (f_X9_worst_40 n9) x3 x6 x5 q11.2
        else
          f_X9_worst_97 (f_X9_worst_40 n9) x3 x6 q11.1 q11.2
      else none
noncomputable def f_X9_worst (x1 : Int32) (x2 : Int32) (x3 : Int32) (w : GW) : Option (Int32 × GW) :=
  (f_X9_good w).bind fun q1 =>
  (f_X9_chanceWhy x1 x2 1 q1.2).bind fun q3 =>
  if q3.1 = 0 then
    if inb 0 8000 then
    (f_X9_fullestOf (gI q3.2 139 (ix 0)) q3.2).bind fun q7 =>
    f_X9_worst_40 fu x3 q7.1 1 q7.2
    else none
  else
    (f_X9_no q3.1 q3.2).bind fun q16 =>
    some (q16.1, q16.2)
set_option maxHeartbeats 4000000 in
set_option maxRecDepth 100000 in
theorem w_X9_worst_97 {p : Program} {l : Launch} {e : Env} {s : State} {m : MethodId} {args : Array Value} {below : List Frame} {meth : Method} {c : Code} {G : GG} (F : CallFix p m c cX9_worst 8 s args (wsU yX9_worst cX9_worst 8 (some .int)) RX9) (hr : meth.sig.returnType = (some .int)) (hlk : meth.locks = false) {z : Int32 × GW} {k_40 : Int32 → Int32 → Int32 → GW → Option (Int32 × GW)} (Hk_40 : (∀ (x3 : Int32) (x5 : Int32) (x6 : Int32) (w : GW) (H : Heap) (locs : List Loc) (ls : Array Slot), St G w s H locs → lv_has ls 8 [(0, .ref (gad G 130)), (3, .int x3), (5, .int x5), (6, .int x6)] → k_40 x3 x5 x6 w = some z → W p l e (headSpec (wsU yX9_worst cX9_worst 8 (some .int)) rm_X9_worst).room s m args below meth c H locs 0 0 (MQ below (QI G z) args s 0 0 (gA G)) (F0 m 40 ls []))) : (∀ (x3 : Int32) (x6 : Int32) (t0 : Int32) (w : GW) (H : Heap) (locs : List Loc) (ls : Array Slot), St G w s H locs → lv_has ls 8 [(0, .ref (gad G 130)), (3, .int x3), (6, .int x6)] → f_X9_worst_97 k_40 x3 x6 t0 w = some z → W p l e (headSpec (wsU yX9_worst cX9_worst 8 (some .int)) rm_X9_worst).room s m args below meth c H locs 0 0 (MQ below (QI G z) args s 0 0 (gA G)) (F0 m 97 ls [.int t0])) := by
  obtain ⟨hx, hb, hml, hown, hts⟩ := id F
  have hg : ∀ q ∈ lwg, q.before args s = true := fun q h => hts q (List.mem_cons_of_mem _ h)
  intro x3 x6 t0 w H locs ls S hl hz
  rw [f_X9_worst_97] at hz
  refine lv_istore (lv' := [(5, .int t0), (0, .ref (gad G 130)), (3, .int x3), (6, .int x6)]) hx hb dX9_worst_97 hl (by decide) rfl (fun ls hl => ?_)
  refine lv_iinc (v := (x6 + 1)) (lv' := [(6, .int (x6 + 1)), (5, .int t0), (0, .ref (gad G 130)), (3, .int x3)]) hx hb dX9_worst_99 hl (k := 3) rfl rfl (by decide) rfl (fun ls hl => ?_)
  refine lv_goto (tgt := 40) hx hb dX9_worst_102 (by decide) ?_
  exact Hk_40 x3 t0 (x6 + 1)  _ _ _ _ S (lv_sub hl [2, 3, 1, 0] rfl) hz
set_option maxHeartbeats 4000000 in
set_option maxRecDepth 100000 in
theorem w_X9_worst_40 {p : Program} {l : Launch} {e : Env} {s : State} {m : MethodId} {args : Array Value} {below : List Frame} {meth : Method} {c : Code} {G : GG} (F : CallFix p m c cX9_worst 8 s args (wsU yX9_worst cX9_worst 8 (some .int)) RX9) (hr : meth.sig.returnType = (some .int)) (hlk : meth.locks = false) {z : Int32 × GW} : ∀ (n9 : Nat), (∀ (x3 : Int32) (x5 : Int32) (x6 : Int32) (w : GW) (H : Heap) (locs : List Loc) (ls : Array Slot), St G w s H locs → lv_has ls 8 [(0, .ref (gad G 130)), (3, .int x3), (5, .int x5), (6, .int x6)] → f_X9_worst_40 n9 x3 x5 x6 w = some z → W p l e (headSpec (wsU yX9_worst cX9_worst 8 (some .int)) rm_X9_worst).room s m args below meth c H locs 0 0 (MQ below (QI G z) args s 0 0 (gA G)) (F0 m 40 ls [])) := by
  obtain ⟨hx, hb, hml, hown, hts⟩ := id F
  have hg : ∀ q ∈ lwg, q.before args s = true := fun q h => hts q (List.mem_cons_of_mem _ h)
  intro n9
  induction n9 with
  | zero =>
    intro x3 x5 x6 w H locs ls S hl hz
    rw [f_X9_worst_40] at hz
    cases hz
  | succ n9 ih =>
    intro x3 x5 x6 w H locs ls S hl hz
    rw [f_X9_worst_40] at hz
    refine lv_iload hx hb dX9_worst_40 (lv_at hl 3 rfl) ?_
    refine lv_aload_n hx hb dX9_worst_42 rfl (lv_at hl 0 rfl) ?_
    refine fg_X9_28 hx hb (fun q h => hg q (tl_X9 q h)) hown (hg _ t_fl_X9_252) S (by decide) dX9_worst_43 ?_
    refine lv_icmp_ge (tgt := 105) hx hb dX9_worst_46 (by decide) (fun c9 => ?_) (fun c9 => ?_)
    · have hz := ipt (c9) hz
      refine lv_iload hx hb dX9_worst_105 (lv_at hl 2 rfl) ?_
      exact g_reti hx hb hr hlk S hz dX9_worst_107
    · have hz := ipf (c9) hz
      refine lv_aload_n hx hb dX9_worst_49 rfl (lv_at hl 0 rfl) ?_
      refine lv_aload_n hx hb dX9_worst_50 rfl (lv_at hl 0 rfl) ?_
      refine fg_X9_23 hx hb (fun q h => hg q (tl_X9 q h)) hown (hg _ t_fl_X9_38) S (by decide) dX9_worst_51 ?_
      refine lv_iload hx hb dX9_worst_54 (lv_at hl 3 rfl) ?_
      obtain ⟨h10, hz⟩ := ck hz
      refine g_iald hx hb S (isA_18 (by decide)) h10 dX9_worst_56 ?_
      obtain ⟨q11, e12, hz⟩ := bd hz
      refine g_callVi (As := [.int (gI w 139 (ix x6))]) (rest := []) F S (c_X9_fullestOf l G (gI w 139 (ix x6))  _ e12) (cw_X9_worst_X9_fullestOf_313 hg) (S.obj (by decide) (by decide) rfl (oc_X9 _ _ _ (by decide))) rfl hl.1 rfl (Nat.le_of_ble_eq_true rfl) ⟨Nat.zero_le _, Nat.zero_le _⟩ dX9_worst_57 (fun H locs  S => ?_)
      refine lv_istore (lv' := [(7, .int q11.1), (0, .ref (gad G 130)), (3, .int x3), (5, .int x5), (6, .int x6)]) hx hb dX9_worst_60 hl (by decide) rfl (fun ls hl => ?_)
      refine lv_iload_n hx hb dX9_worst_62 rfl (lv_at hl 2 rfl) ?_
      refine lv_if_eq (tgt := 83) hx hb dX9_worst_63 (by decide) (fun c13 => ?_) (fun c13 => ?_)
      · have hz := ipt (c13) hz
        refine lv_iload hx hb dX9_worst_83 (lv_at hl 0 rfl) ?_
        refine lv_iload hx hb dX9_worst_85 (lv_at hl 3 rfl) ?_
        refine lv_icmp_le (tgt := 95) hx hb dX9_worst_87 (by decide) (fun c14 => ?_) (fun c14 => ?_)
        · have hz := ipt (c14) hz
          refine lv_iload hx hb dX9_worst_95 (lv_at hl 3 rfl) ?_
          exact w_X9_worst_97 F hr hlk ih x3 x6 x5 _ _ _ _ S (lv_sub hl [1, 2, 4] rfl) hz
        · have hz := ipf (c14) hz
          refine lv_iload hx hb dX9_worst_90 (lv_at hl 0 rfl) ?_
          refine lv_goto (tgt := 97) hx hb dX9_worst_92 (by decide) ?_
          exact w_X9_worst_97 F hr hlk ih x3 x6 q11.1 _ _ _ _ S (lv_sub hl [1, 2, 4] rfl) hz
      · have hz := ipf (c13) hz
        refine lv_iload hx hb dX9_worst_66 (lv_at hl 0 rfl) ?_
        refine lv_iload hx hb dX9_worst_68 (lv_at hl 3 rfl) ?_
        refine lv_icmp_ge (tgt := 78) hx hb dX9_worst_70 (by decide) (fun c15 => ?_) (fun c15 => ?_)
        · have hz := ipt (c15) hz
          refine lv_iload hx hb dX9_worst_78 (lv_at hl 3 rfl) ?_
          refine lv_goto (tgt := 97) hx hb dX9_worst_80 (by decide) ?_
          exact w_X9_worst_97 F hr hlk ih x3 x6 x5 _ _ _ _ S (lv_sub hl [1, 2, 4] rfl) hz
        · have hz := ipf (c15) hz
          refine lv_iload hx hb dX9_worst_73 (lv_at hl 0 rfl) ?_
          refine lv_goto (tgt := 97) hx hb dX9_worst_75 (by decide) ?_
          exact w_X9_worst_97 F hr hlk ih x3 x6 q11.1 _ _ _ _ S (lv_sub hl [1, 2, 4] rfl) hz
set_option maxHeartbeats 4000000 in
set_option maxRecDepth 100000 in
theorem c_X9_worst (l : Launch) (G : GG) (x1 : Int32) (x2 : Int32) (x3 : Int32)  (w : GW) {z : Int32 × GW} (hz : f_X9_worst x1 x2 x3 w = some z) : Met l yX9_worst (wsU yX9_worst cX9_worst 8 (some .int)) rm_X9_worst (va_Pc [.ref (gad G 130), .int x1, .int x2, .int x3] (PreG G w)) (QI G z) 0 0 (gA G) := by
  refine Met.ofW (cc := cX9_worst) (maxL := 8) (ret := (some .int)) (by decide) rfl ?_
  intro p e s m args below meth c s₁ B hml hv
  obtain ⟨rfl, S⟩ := hv
  have F : CallFix p m c cX9_worst 8 s _ (wsU yX9_worst cX9_worst 8 (some .int)) RX9 := ⟨B.exec, B.bytes, hml, findClass_of_methodNamed B.named, atoms_spec B.pre⟩
  have hr := B.returns
  have hlk := B.notSynchronized
  obtain ⟨hx, hb, -, hown, hts⟩ := id F
  have hg : ∀ q ∈ lwg, q.before _ s = true := fun q h => hts q (List.mem_cons_of_mem _ h)
  refine g_entry (Nat.le_of_ble_eq_true rfl) (fun ls hl => ?_)
  have hl : lv_has ls 8 [(0, .ref (gad G 130)), (1, .int x1), (2, .int x2), (3, .int x3)] := hl
  have S : St G w s s.heap [] := S
  generalize s.heap = H at S ⊢
  generalize ([] : List Loc) = locs at S ⊢
  rw [f_X9_worst] at hz
  refine lv_aload_n hx hb dX9_worst_0 rfl (lv_at hl 0 rfl) ?_
  obtain ⟨q1, e2, hz⟩ := bd hz
  refine g_callVv (As := []) (rest := []) F S (c_X9_good l G   _ e2) (cw_X9_worst_X9_good_150 hg) (S.obj (by decide) (by decide) rfl (oc_X9 _ _ _ (by decide))) rfl hl.1 rfl (Nat.le_of_ble_eq_true rfl) ⟨Nat.zero_le _, Nat.zero_le _⟩ dX9_worst_1 (fun H locs  S => ?_)
  refine lv_aload_n hx hb dX9_worst_4 rfl (lv_at hl 0 rfl) ?_
  refine lv_iload_n hx hb dX9_worst_5 rfl (lv_at hl 1 rfl) ?_
  refine lv_iload_n hx hb dX9_worst_6 rfl (lv_at hl 2 rfl) ?_
  refine lv_iconst (v := 1) hx hb dX9_worst_7 (by decide) ?_
  obtain ⟨q3, e4, hz⟩ := bd hz
  refine g_callVi (As := [.int x1, .int x2, .int 1]) (rest := []) F S (c_X9_chanceWhy l G x1 x2 1  _ e4) (cw_X9_worst_X9_chanceWhy_327 hg) (S.obj (by decide) (by decide) rfl (oc_X9 _ _ _ (by decide))) rfl hl.1 rfl (Nat.le_of_ble_eq_true rfl) ⟨Nat.zero_le _, Nat.zero_le _⟩ dX9_worst_8 (fun H locs  S => ?_)
  refine lv_istore (lv' := [(4, .int q3.1), (0, .ref (gad G 130)), (1, .int x1), (2, .int x2), (3, .int x3)]) hx hb dX9_worst_11 hl (by decide) rfl (fun ls hl => ?_)
  refine lv_iload hx hb dX9_worst_13 (lv_at hl 0 rfl) ?_
  refine lv_if_eq (tgt := 25) hx hb dX9_worst_15 (by decide) (fun c5 => ?_) (fun c5 => ?_)
  · have hz := ipt (c5) hz
    refine lv_aload_n hx hb dX9_worst_25 rfl (lv_at hl 1 rfl) ?_
    refine lv_aload_n hx hb dX9_worst_26 rfl (lv_at hl 1 rfl) ?_
    refine fg_X9_23 hx hb (fun q h => hg q (tl_X9 q h)) hown (hg _ t_fl_X9_38) S (by decide) dX9_worst_27 ?_
    refine lv_iconst (v := 0) hx hb dX9_worst_30 (by decide) ?_
    obtain ⟨h6, hz⟩ := ck hz
    refine g_iald hx hb S (isA_18 (by decide)) h6 dX9_worst_31 ?_
    obtain ⟨q7, e8, hz⟩ := bd hz
    refine g_callVi (As := [.int (gI q3.2 139 (ix 0))]) (rest := []) F S (c_X9_fullestOf l G (gI q3.2 139 (ix 0))  _ e8) (cw_X9_worst_X9_fullestOf_313 hg) (S.obj (by decide) (by decide) rfl (oc_X9 _ _ _ (by decide))) rfl hl.1 rfl (Nat.le_of_ble_eq_true rfl) ⟨Nat.zero_le _, Nat.zero_le _⟩ dX9_worst_32 (fun H locs  S => ?_)
    refine lv_istore (lv' := [(5, .int q7.1), (4, .int q3.1), (0, .ref (gad G 130)), (1, .int x1), (2, .int x2), (3, .int x3)]) hx hb dX9_worst_35 hl (by decide) rfl (fun ls hl => ?_)
    refine lv_iconst (v := 1) hx hb dX9_worst_37 (by decide) ?_
    refine lv_istore (lv' := [(6, .int 1), (5, .int q7.1), (4, .int q3.1), (0, .ref (gad G 130)), (1, .int x1), (2, .int x2), (3, .int x3)]) hx hb dX9_worst_38 hl (by decide) rfl (fun ls hl => ?_)
    exact w_X9_worst_40 F hr hlk fu x3 q7.1 1 _ _ _ _ S (lv_sub hl [3, 6, 1, 0] rfl) hz
  · have hz := ipf (c5) hz
    refine lv_aload_n hx hb dX9_worst_18 rfl (lv_at hl 1 rfl) ?_
    refine lv_iload hx hb dX9_worst_19 (lv_at hl 0 rfl) ?_
    obtain ⟨q16, e17, hz⟩ := bd hz
    refine g_callVi (As := [.int q3.1]) (rest := []) F S (c_X9_no l G q3.1  _ e17) (cw_X9_worst_X9_no_153 hg) (S.obj (by decide) (by decide) rfl (oc_X9 _ _ _ (by decide))) rfl hl.1 rfl (Nat.le_of_ble_eq_true rfl) ⟨Nat.zero_le _, Nat.zero_le _⟩ dX9_worst_21 (fun H locs  S => ?_)
    exact g_reti hx hb hr hlk S hz dX9_worst_24
noncomputable def f_X9_waysOfLay_101 (k_5 : Int32 → Int64 → Int32 → GW → Option (Int64 × GW)) (x1 : Int32) (x4 : Int32) (t0 : Int64) (t1 : Int64) (w : GW) : Option (Int64 × GW) :=
  k_5 x1 (t1 + t0) (x4 + 1) w
noncomputable def f_X9_waysOfLay_76 (k_5 : Int32 → Int64 → Int32 → GW → Option (Int64 × GW)) (k_31 : Int32 → Int64 → Int32 → Int32 → Int32 → GW → Option (Int64 × GW)) (x1 : Int32) (x2 : Int64) (x4 : Int32) (x6 : Int32) (t0 : Int32) (w : GW) : Option (Int64 × GW) :=
  k_31 x1 x2 x4 t0 (x6 + 1) w
noncomputable def f_X9_waysOfLay_75 (k_5 : Int32 → Int64 → Int32 → GW → Option (Int64 × GW)) (k_31 : Int32 → Int64 → Int32 → Int32 → Int32 → GW → Option (Int64 × GW)) (x1 : Int32) (x2 : Int64) (x4 : Int32) (x6 : Int32) (w : GW) : Option (Int64 × GW) :=
  f_X9_waysOfLay_76 k_5 k_31 x1 x2 x4 x6 0 w
noncomputable def f_X9_waysOfLay_31 (k_5 : Int32 → Int64 → Int32 → GW → Option (Int64 × GW)) : Nat → Int32 → Int64 → Int32 → Int32 → Int32 → GW → Option (Int64 × GW)
  | 0, _, _, _, _, _, _ => none
  | n9 + 1, x1, x2, x4, x5, x6, w =>
    if inb 0 135 then
    if (gI w 133 (ix 0)) ≤ x6 then
      if x5 = 0 then
        f_X9_waysOfLay_101 k_5 x1 x4 0 x2 w
      else
        if inb x4 8000 then
        f_X9_waysOfLay_101 k_5 x1 x4 (gL w 142 (ix x4)) x2 w
        else none
    else
      if x5 = 0 then
        f_X9_waysOfLay_75 k_5 (f_X9_waysOfLay_31 k_5 n9) x1 x2 x4 x6 w
      else
        if inb x6 5 then
        if inb ((40 + (5 * x1)) + x6) 135 then
        if (gI w 137 (ix x6)) = (gI w 133 (ix ((40 + (5 * x1)) + x6))) then
          f_X9_waysOfLay_76 k_5 (f_X9_waysOfLay_31 k_5 n9) x1 x2 x4 x6 1 w
        else
          f_X9_waysOfLay_75 k_5 (f_X9_waysOfLay_31 k_5 n9) x1 x2 x4 x6 w
        else none
        else none
    else none
noncomputable def f_X9_waysOfLay_5  : Nat → Int32 → Int64 → Int32 → GW → Option (Int64 × GW)
  | 0, _, _, _, _ => none
  | n9 + 1, x1, x2, x4, w =>
    if (gI w 130 28) ≤ x4 then
      some (x2, w)
    else
      if inb x4 8000 then
      (f_X9_layApart (gI w 139 (ix x4)) w).bind fun q3 =>
      f_X9_waysOfLay_31 (f_X9_waysOfLay_5 n9) fu x1 x2 x4 1 0 q3.2
      else none
noncomputable def f_X9_waysOfLay (x1 : Int32) (w : GW) : Option (Int64 × GW) :=
  f_X9_waysOfLay_5 fu x1 0 0 w
set_option maxHeartbeats 4000000 in
set_option maxRecDepth 100000 in
theorem w_X9_waysOfLay_101 {p : Program} {l : Launch} {e : Env} {s : State} {m : MethodId} {args : Array Value} {below : List Frame} {meth : Method} {c : Code} {G : GG} (F : CallFix p m c cX9_waysOfLay 7 s args (wsU yX9_waysOfLay cX9_waysOfLay 7 (some .long)) RX9) (hr : meth.sig.returnType = (some .long)) (hlk : meth.locks = false) {z : Int64 × GW} {k_5 : Int32 → Int64 → Int32 → GW → Option (Int64 × GW)} (Hk_5 : (∀ (x1 : Int32) (x2 : Int64) (x4 : Int32) (w : GW) (H : Heap) (locs : List Loc) (ls : Array Slot), St G w s H locs → lv_has ls 7 [(0, .ref (gad G 130)), (1, .int x1), (2, .long x2), (4, .int x4)] → k_5 x1 x2 x4 w = some z → W p l e (headSpec (wsU yX9_waysOfLay cX9_waysOfLay 7 (some .long)) rm_X9_waysOfLay).room s m args below meth c H locs 0 0 (MQ below (QL G z) args s 0 0 (gA G)) (F0 m 5 ls []))) : (∀ (x1 : Int32) (x4 : Int32) (t0 : Int64) (t1 : Int64) (w : GW) (H : Heap) (locs : List Loc) (ls : Array Slot), St G w s H locs → lv_has ls 7 [(0, .ref (gad G 130)), (1, .int x1), (4, .int x4)] → f_X9_waysOfLay_101 k_5 x1 x4 t0 t1 w = some z → W p l e (headSpec (wsU yX9_waysOfLay cX9_waysOfLay 7 (some .long)) rm_X9_waysOfLay).room s m args below meth c H locs 0 0 (MQ below (QL G z) args s 0 0 (gA G)) (F0 m 101 ls [.long t0, .long t1])) := by
  obtain ⟨hx, hb, hml, hown, hts⟩ := id F
  have hg : ∀ q ∈ lwg, q.before args s = true := fun q h => hts q (List.mem_cons_of_mem _ h)
  intro x1 x4 t0 t1 w H locs ls S hl hz
  rw [f_X9_waysOfLay_101] at hz
  refine lv_ladd hx hb dX9_waysOfLay_101 ?_
  refine lv_lstore_n (lv' := [(2, .long (t1 + t0)), (0, .ref (gad G 130)), (1, .int x1), (4, .int x4)]) hx hb dX9_waysOfLay_102 rfl hl (by decide) rfl (fun ls hl => ?_)
  refine lv_iinc (v := (x4 + 1)) (lv' := [(4, .int (x4 + 1)), (2, .long (t1 + t0)), (0, .ref (gad G 130)), (1, .int x1)]) hx hb dX9_waysOfLay_103 hl (k := 3) rfl rfl (by decide) rfl (fun ls hl => ?_)
  refine lv_goto (tgt := 5) hx hb dX9_waysOfLay_106 (by decide) ?_
  exact Hk_5 x1 (t1 + t0) (x4 + 1)  _ _ _ _ S (lv_sub hl [2, 3, 1, 0] rfl) hz
set_option maxHeartbeats 4000000 in
set_option maxRecDepth 100000 in
theorem w_X9_waysOfLay_76 {p : Program} {l : Launch} {e : Env} {s : State} {m : MethodId} {args : Array Value} {below : List Frame} {meth : Method} {c : Code} {G : GG} (F : CallFix p m c cX9_waysOfLay 7 s args (wsU yX9_waysOfLay cX9_waysOfLay 7 (some .long)) RX9) (hr : meth.sig.returnType = (some .long)) (hlk : meth.locks = false) {z : Int64 × GW} {k_5 : Int32 → Int64 → Int32 → GW → Option (Int64 × GW)} (Hk_5 : (∀ (x1 : Int32) (x2 : Int64) (x4 : Int32) (w : GW) (H : Heap) (locs : List Loc) (ls : Array Slot), St G w s H locs → lv_has ls 7 [(0, .ref (gad G 130)), (1, .int x1), (2, .long x2), (4, .int x4)] → k_5 x1 x2 x4 w = some z → W p l e (headSpec (wsU yX9_waysOfLay cX9_waysOfLay 7 (some .long)) rm_X9_waysOfLay).room s m args below meth c H locs 0 0 (MQ below (QL G z) args s 0 0 (gA G)) (F0 m 5 ls []))) {k_31 : Int32 → Int64 → Int32 → Int32 → Int32 → GW → Option (Int64 × GW)} (Hk_31 : (∀ (x1 : Int32) (x2 : Int64) (x4 : Int32) (x5 : Int32) (x6 : Int32) (w : GW) (H : Heap) (locs : List Loc) (ls : Array Slot), St G w s H locs → lv_has ls 7 [(0, .ref (gad G 130)), (1, .int x1), (2, .long x2), (4, .int x4), (5, .int x5), (6, .int x6)] → k_31 x1 x2 x4 x5 x6 w = some z → W p l e (headSpec (wsU yX9_waysOfLay cX9_waysOfLay 7 (some .long)) rm_X9_waysOfLay).room s m args below meth c H locs 0 0 (MQ below (QL G z) args s 0 0 (gA G)) (F0 m 31 ls []))) : (∀ (x1 : Int32) (x2 : Int64) (x4 : Int32) (x6 : Int32) (t0 : Int32) (w : GW) (H : Heap) (locs : List Loc) (ls : Array Slot), St G w s H locs → lv_has ls 7 [(0, .ref (gad G 130)), (1, .int x1), (2, .long x2), (4, .int x4), (6, .int x6)] → f_X9_waysOfLay_76 k_5 k_31 x1 x2 x4 x6 t0 w = some z → W p l e (headSpec (wsU yX9_waysOfLay cX9_waysOfLay 7 (some .long)) rm_X9_waysOfLay).room s m args below meth c H locs 0 0 (MQ below (QL G z) args s 0 0 (gA G)) (F0 m 76 ls [.int t0])) := by
  obtain ⟨hx, hb, hml, hown, hts⟩ := id F
  have hg : ∀ q ∈ lwg, q.before args s = true := fun q h => hts q (List.mem_cons_of_mem _ h)
  intro x1 x2 x4 x6 t0 w H locs ls S hl hz
  rw [f_X9_waysOfLay_76] at hz
  refine lv_istore (lv' := [(5, .int t0), (0, .ref (gad G 130)), (1, .int x1), (2, .long x2), (4, .int x4), (6, .int x6)]) hx hb dX9_waysOfLay_76 hl (by decide) rfl (fun ls hl => ?_)
  refine lv_iinc (v := (x6 + 1)) (lv' := [(6, .int (x6 + 1)), (5, .int t0), (0, .ref (gad G 130)), (1, .int x1), (2, .long x2), (4, .int x4)]) hx hb dX9_waysOfLay_78 hl (k := 5) rfl rfl (by decide) rfl (fun ls hl => ?_)
  refine lv_goto (tgt := 31) hx hb dX9_waysOfLay_81 (by decide) ?_
  exact Hk_31 x1 x2 x4 t0 (x6 + 1)  _ _ _ _ S (lv_sub hl [2, 3, 4, 5, 1, 0] rfl) hz
set_option maxHeartbeats 4000000 in
set_option maxRecDepth 100000 in
theorem w_X9_waysOfLay_75 {p : Program} {l : Launch} {e : Env} {s : State} {m : MethodId} {args : Array Value} {below : List Frame} {meth : Method} {c : Code} {G : GG} (F : CallFix p m c cX9_waysOfLay 7 s args (wsU yX9_waysOfLay cX9_waysOfLay 7 (some .long)) RX9) (hr : meth.sig.returnType = (some .long)) (hlk : meth.locks = false) {z : Int64 × GW} {k_5 : Int32 → Int64 → Int32 → GW → Option (Int64 × GW)} (Hk_5 : (∀ (x1 : Int32) (x2 : Int64) (x4 : Int32) (w : GW) (H : Heap) (locs : List Loc) (ls : Array Slot), St G w s H locs → lv_has ls 7 [(0, .ref (gad G 130)), (1, .int x1), (2, .long x2), (4, .int x4)] → k_5 x1 x2 x4 w = some z → W p l e (headSpec (wsU yX9_waysOfLay cX9_waysOfLay 7 (some .long)) rm_X9_waysOfLay).room s m args below meth c H locs 0 0 (MQ below (QL G z) args s 0 0 (gA G)) (F0 m 5 ls []))) {k_31 : Int32 → Int64 → Int32 → Int32 → Int32 → GW → Option (Int64 × GW)} (Hk_31 : (∀ (x1 : Int32) (x2 : Int64) (x4 : Int32) (x5 : Int32) (x6 : Int32) (w : GW) (H : Heap) (locs : List Loc) (ls : Array Slot), St G w s H locs → lv_has ls 7 [(0, .ref (gad G 130)), (1, .int x1), (2, .long x2), (4, .int x4), (5, .int x5), (6, .int x6)] → k_31 x1 x2 x4 x5 x6 w = some z → W p l e (headSpec (wsU yX9_waysOfLay cX9_waysOfLay 7 (some .long)) rm_X9_waysOfLay).room s m args below meth c H locs 0 0 (MQ below (QL G z) args s 0 0 (gA G)) (F0 m 31 ls []))) : (∀ (x1 : Int32) (x2 : Int64) (x4 : Int32) (x6 : Int32) (w : GW) (H : Heap) (locs : List Loc) (ls : Array Slot), St G w s H locs → lv_has ls 7 [(0, .ref (gad G 130)), (1, .int x1), (2, .long x2), (4, .int x4), (6, .int x6)] → f_X9_waysOfLay_75 k_5 k_31 x1 x2 x4 x6 w = some z → W p l e (headSpec (wsU yX9_waysOfLay cX9_waysOfLay 7 (some .long)) rm_X9_waysOfLay).room s m args below meth c H locs 0 0 (MQ below (QL G z) args s 0 0 (gA G)) (F0 m 75 ls [])) := by
  obtain ⟨hx, hb, hml, hown, hts⟩ := id F
  have hg : ∀ q ∈ lwg, q.before args s = true := fun q h => hts q (List.mem_cons_of_mem _ h)
  intro x1 x2 x4 x6 w H locs ls S hl hz
  rw [f_X9_waysOfLay_75] at hz
  refine lv_iconst (v := 0) hx hb dX9_waysOfLay_75 (by decide) ?_
  exact w_X9_waysOfLay_76 F hr hlk Hk_5 Hk_31 x1 x2 x4 x6 0 _ _ _ _ S (lv_sub hl [0, 1, 2, 3, 4] rfl) hz
set_option maxHeartbeats 4000000 in
set_option maxRecDepth 100000 in
theorem w_X9_waysOfLay_31 {p : Program} {l : Launch} {e : Env} {s : State} {m : MethodId} {args : Array Value} {below : List Frame} {meth : Method} {c : Code} {G : GG} (F : CallFix p m c cX9_waysOfLay 7 s args (wsU yX9_waysOfLay cX9_waysOfLay 7 (some .long)) RX9) (hr : meth.sig.returnType = (some .long)) (hlk : meth.locks = false) {z : Int64 × GW} {k_5 : Int32 → Int64 → Int32 → GW → Option (Int64 × GW)} (Hk_5 : (∀ (x1 : Int32) (x2 : Int64) (x4 : Int32) (w : GW) (H : Heap) (locs : List Loc) (ls : Array Slot), St G w s H locs → lv_has ls 7 [(0, .ref (gad G 130)), (1, .int x1), (2, .long x2), (4, .int x4)] → k_5 x1 x2 x4 w = some z → W p l e (headSpec (wsU yX9_waysOfLay cX9_waysOfLay 7 (some .long)) rm_X9_waysOfLay).room s m args below meth c H locs 0 0 (MQ below (QL G z) args s 0 0 (gA G)) (F0 m 5 ls []))) : ∀ (n9 : Nat), (∀ (x1 : Int32) (x2 : Int64) (x4 : Int32) (x5 : Int32) (x6 : Int32) (w : GW) (H : Heap) (locs : List Loc) (ls : Array Slot), St G w s H locs → lv_has ls 7 [(0, .ref (gad G 130)), (1, .int x1), (2, .long x2), (4, .int x4), (5, .int x5), (6, .int x6)] → f_X9_waysOfLay_31 k_5 n9 x1 x2 x4 x5 x6 w = some z → W p l e (headSpec (wsU yX9_waysOfLay cX9_waysOfLay 7 (some .long)) rm_X9_waysOfLay).room s m args below meth c H locs 0 0 (MQ below (QL G z) args s 0 0 (gA G)) (F0 m 31 ls [])) := by
  obtain ⟨hx, hb, hml, hown, hts⟩ := id F
  have hg : ∀ q ∈ lwg, q.before args s = true := fun q h => hts q (List.mem_cons_of_mem _ h)
  intro n9
  induction n9 with
  | zero =>
    intro x1 x2 x4 x5 x6 w H locs ls S hl hz
    rw [f_X9_waysOfLay_31] at hz
    cases hz
  | succ n9 ih =>
    intro x1 x2 x4 x5 x6 w H locs ls S hl hz
    rw [f_X9_waysOfLay_31] at hz
    refine lv_iload hx hb dX9_waysOfLay_31 (lv_at hl 5 rfl) ?_
    refine lv_aload_n hx hb dX9_waysOfLay_33 rfl (lv_at hl 0 rfl) ?_
    refine fg_X9_15 hx hb (fun q h => hg q (tl_X9 q h)) hown (hg _ t_fl_X9_20) S (by decide) dX9_waysOfLay_34 ?_
    refine lv_iconst (v := 0) hx hb dX9_waysOfLay_37 (by decide) ?_
    obtain ⟨h5, hz⟩ := ck hz
    refine g_iald hx hb S (isA_15 (by decide)) h5 dX9_waysOfLay_38 ?_
    refine lv_icmp_ge (tgt := 84) hx hb dX9_waysOfLay_39 (by decide) (fun c6 => ?_) (fun c6 => ?_)
    · have hz := ipt (c6) hz
      refine lv_lload_n hx hb dX9_waysOfLay_84 rfl (lv_at hl 2 rfl) ?_
      refine lv_iload hx hb dX9_waysOfLay_85 (lv_at hl 4 rfl) ?_
      refine lv_if_eq (tgt := 100) hx hb dX9_waysOfLay_87 (by decide) (fun c7 => ?_) (fun c7 => ?_)
      · have hz := ipt (c7) hz
        refine lv_lconst (v := 0) hx hb dX9_waysOfLay_100 (by decide) ?_
        exact w_X9_waysOfLay_101 F hr hlk Hk_5 x1 x4 0 x2 _ _ _ _ S (lv_sub hl [0, 1, 3] rfl) hz
      · have hz := ipf (c7) hz
        refine lv_aload_n hx hb dX9_waysOfLay_90 rfl (lv_at hl 0 rfl) ?_
        refine fg_X9_26 hx hb (fun q h => hg q (tl_X9 q h)) hown (hg _ t_fl_X9_47) S (by decide) dX9_waysOfLay_91 ?_
        refine lv_iload hx hb dX9_waysOfLay_94 (lv_at hl 3 rfl) ?_
        obtain ⟨h8, hz⟩ := ck hz
        refine g_lald hx hb S (isA_27 (by decide)) h8 dX9_waysOfLay_96 ?_
        refine lv_goto (tgt := 101) hx hb dX9_waysOfLay_97 (by decide) ?_
        exact w_X9_waysOfLay_101 F hr hlk Hk_5 x1 x4 (gL w 142 (ix x4)) x2 _ _ _ _ S (lv_sub hl [0, 1, 3] rfl) hz
    · have hz := ipf (c6) hz
      refine lv_iload hx hb dX9_waysOfLay_42 (lv_at hl 4 rfl) ?_
      refine lv_if_eq (tgt := 75) hx hb dX9_waysOfLay_44 (by decide) (fun c9 => ?_) (fun c9 => ?_)
      · have hz := ipt (c9) hz
        exact w_X9_waysOfLay_75 F hr hlk Hk_5 ih x1 x2 x4 x6 _ _ _ _ S (lv_sub hl [0, 1, 2, 3, 5] rfl) hz
      · have hz := ipf (c9) hz
        refine lv_aload_n hx hb dX9_waysOfLay_47 rfl (lv_at hl 0 rfl) ?_
        refine fg_X9_20 hx hb (fun q h => hg q (tl_X9 q h)) hown (hg _ t_fl_X9_32) S (by decide) dX9_waysOfLay_48 ?_
        refine lv_iload hx hb dX9_waysOfLay_51 (lv_at hl 5 rfl) ?_
        obtain ⟨h10, hz⟩ := ck hz
        refine g_iald hx hb S (isA_10 (by decide)) h10 dX9_waysOfLay_53 ?_
        refine lv_aload_n hx hb dX9_waysOfLay_54 rfl (lv_at hl 0 rfl) ?_
        refine fg_X9_15 hx hb (fun q h => hg q (tl_X9 q h)) hown (hg _ t_fl_X9_20) S (by decide) dX9_waysOfLay_55 ?_
        refine lv_bipush (v := 40) hx hb dX9_waysOfLay_58 (by decide) ?_
        refine lv_iconst (v := 5) hx hb dX9_waysOfLay_60 (by decide) ?_
        refine lv_iload_n hx hb dX9_waysOfLay_61 rfl (lv_at hl 1 rfl) ?_
        refine lv_imul hx hb dX9_waysOfLay_62 ?_
        refine lv_iadd hx hb dX9_waysOfLay_63 ?_
        refine lv_iload hx hb dX9_waysOfLay_64 (lv_at hl 5 rfl) ?_
        refine lv_iadd hx hb dX9_waysOfLay_66 ?_
        obtain ⟨h11, hz⟩ := ck hz
        refine g_iald hx hb S (isA_15 (by decide)) h11 dX9_waysOfLay_67 ?_
        refine lv_icmp_ne (tgt := 75) hx hb dX9_waysOfLay_68 (by decide) (fun c12 => ?_) (fun c12 => ?_)
        · have hz := ipf (c12) hz
          exact w_X9_waysOfLay_75 F hr hlk Hk_5 ih x1 x2 x4 x6 _ _ _ _ S (lv_sub hl [0, 1, 2, 3, 5] rfl) hz
        · have hz := ipt (c12) hz
          refine lv_iconst (v := 1) hx hb dX9_waysOfLay_71 (by decide) ?_
          refine lv_goto (tgt := 76) hx hb dX9_waysOfLay_72 (by decide) ?_
          exact w_X9_waysOfLay_76 F hr hlk Hk_5 ih x1 x2 x4 x6 1 _ _ _ _ S (lv_sub hl [0, 1, 2, 3, 5] rfl) hz
set_option maxHeartbeats 4000000 in
set_option maxRecDepth 100000 in
theorem w_X9_waysOfLay_5 {p : Program} {l : Launch} {e : Env} {s : State} {m : MethodId} {args : Array Value} {below : List Frame} {meth : Method} {c : Code} {G : GG} (F : CallFix p m c cX9_waysOfLay 7 s args (wsU yX9_waysOfLay cX9_waysOfLay 7 (some .long)) RX9) (hr : meth.sig.returnType = (some .long)) (hlk : meth.locks = false) {z : Int64 × GW} : ∀ (n9 : Nat), (∀ (x1 : Int32) (x2 : Int64) (x4 : Int32) (w : GW) (H : Heap) (locs : List Loc) (ls : Array Slot), St G w s H locs → lv_has ls 7 [(0, .ref (gad G 130)), (1, .int x1), (2, .long x2), (4, .int x4)] → f_X9_waysOfLay_5 n9 x1 x2 x4 w = some z → W p l e (headSpec (wsU yX9_waysOfLay cX9_waysOfLay 7 (some .long)) rm_X9_waysOfLay).room s m args below meth c H locs 0 0 (MQ below (QL G z) args s 0 0 (gA G)) (F0 m 5 ls [])) := by
  obtain ⟨hx, hb, hml, hown, hts⟩ := id F
  have hg : ∀ q ∈ lwg, q.before args s = true := fun q h => hts q (List.mem_cons_of_mem _ h)
  intro n9
  induction n9 with
  | zero =>
    intro x1 x2 x4 w H locs ls S hl hz
    rw [f_X9_waysOfLay_5] at hz
    cases hz
  | succ n9 ih =>
    intro x1 x2 x4 w H locs ls S hl hz
    rw [f_X9_waysOfLay_5] at hz
    refine lv_iload hx hb dX9_waysOfLay_5 (lv_at hl 3 rfl) ?_
    refine lv_aload_n hx hb dX9_waysOfLay_7 rfl (lv_at hl 0 rfl) ?_
    refine fg_X9_28 hx hb (fun q h => hg q (tl_X9 q h)) hown (hg _ t_fl_X9_252) S (by decide) dX9_waysOfLay_8 ?_
    refine lv_icmp_ge (tgt := 109) hx hb dX9_waysOfLay_11 (by decide) (fun c1 => ?_) (fun c1 => ?_)
    · have hz := ipt (c1) hz
      refine lv_lload_n hx hb dX9_waysOfLay_109 rfl (lv_at hl 2 rfl) ?_
      exact g_retl hx hb hr hlk S hz dX9_waysOfLay_110
    · have hz := ipf (c1) hz
      refine lv_aload_n hx hb dX9_waysOfLay_14 rfl (lv_at hl 0 rfl) ?_
      refine lv_aload_n hx hb dX9_waysOfLay_15 rfl (lv_at hl 0 rfl) ?_
      refine fg_X9_23 hx hb (fun q h => hg q (tl_X9 q h)) hown (hg _ t_fl_X9_38) S (by decide) dX9_waysOfLay_16 ?_
      refine lv_iload hx hb dX9_waysOfLay_19 (lv_at hl 3 rfl) ?_
      obtain ⟨h2, hz⟩ := ck hz
      refine g_iald hx hb S (isA_18 (by decide)) h2 dX9_waysOfLay_21 ?_
      obtain ⟨q3, e4, hz⟩ := bd hz
      refine g_callVv (As := [.int (gI w 139 (ix x4))]) (rest := []) F S (c_X9_layApart l G (gI w 139 (ix x4))  _ e4) (cw_X9_waysOfLay_X9_layApart_279 hg) (S.obj (by decide) (by decide) rfl (oc_X9 _ _ _ (by decide))) rfl hl.1 rfl (Nat.le_of_ble_eq_true rfl) ⟨Nat.zero_le _, Nat.zero_le _⟩ dX9_waysOfLay_22 (fun H locs  S => ?_)
      refine lv_iconst (v := 1) hx hb dX9_waysOfLay_25 (by decide) ?_
      refine lv_istore (lv' := [(5, .int 1), (0, .ref (gad G 130)), (1, .int x1), (2, .long x2), (4, .int x4)]) hx hb dX9_waysOfLay_26 hl (by decide) rfl (fun ls hl => ?_)
      refine lv_iconst (v := 0) hx hb dX9_waysOfLay_28 (by decide) ?_
      refine lv_istore (lv' := [(6, .int 0), (5, .int 1), (0, .ref (gad G 130)), (1, .int x1), (2, .long x2), (4, .int x4)]) hx hb dX9_waysOfLay_29 hl (by decide) rfl (fun ls hl => ?_)
      exact w_X9_waysOfLay_31 F hr hlk ih fu x1 x2 x4 1 0 _ _ _ _ S (lv_sub hl [2, 3, 4, 5, 1, 0] rfl) hz
set_option maxHeartbeats 4000000 in
set_option maxRecDepth 100000 in
theorem c_X9_waysOfLay (l : Launch) (G : GG) (x1 : Int32)  (w : GW) {z : Int64 × GW} (hz : f_X9_waysOfLay x1 w = some z) : Met l yX9_waysOfLay (wsU yX9_waysOfLay cX9_waysOfLay 7 (some .long)) rm_X9_waysOfLay (va_Pc [.ref (gad G 130), .int x1] (PreG G w)) (QL G z) 0 0 (gA G) := by
  refine Met.ofW (cc := cX9_waysOfLay) (maxL := 7) (ret := (some .long)) (by decide) rfl ?_
  intro p e s m args below meth c s₁ B hml hv
  obtain ⟨rfl, S⟩ := hv
  have F : CallFix p m c cX9_waysOfLay 7 s _ (wsU yX9_waysOfLay cX9_waysOfLay 7 (some .long)) RX9 := ⟨B.exec, B.bytes, hml, findClass_of_methodNamed B.named, atoms_spec B.pre⟩
  have hr := B.returns
  have hlk := B.notSynchronized
  obtain ⟨hx, hb, -, hown, hts⟩ := id F
  have hg : ∀ q ∈ lwg, q.before _ s = true := fun q h => hts q (List.mem_cons_of_mem _ h)
  refine g_entry (Nat.le_of_ble_eq_true rfl) (fun ls hl => ?_)
  have hl : lv_has ls 7 [(0, .ref (gad G 130)), (1, .int x1)] := hl
  have S : St G w s s.heap [] := S
  generalize s.heap = H at S ⊢
  generalize ([] : List Loc) = locs at S ⊢
  rw [f_X9_waysOfLay] at hz
  refine lv_lconst (v := 0) hx hb dX9_waysOfLay_0 (by decide) ?_
  refine lv_lstore_n (lv' := [(2, .long 0), (0, .ref (gad G 130)), (1, .int x1)]) hx hb dX9_waysOfLay_1 rfl hl (by decide) rfl (fun ls hl => ?_)
  refine lv_iconst (v := 0) hx hb dX9_waysOfLay_2 (by decide) ?_
  refine lv_istore (lv' := [(4, .int 0), (2, .long 0), (0, .ref (gad G 130)), (1, .int x1)]) hx hb dX9_waysOfLay_3 hl (by decide) rfl (fun ls hl => ?_)
  exact w_X9_waysOfLay_5 F hr hlk fu x1 0 0 _ _ _ _ S (lv_sub hl [2, 3, 1, 0] rfl) hz
noncomputable def f_X9_lies_29   (w : GW) : Option (Int64 × GW) :=
  (f_X9_no 1 w).bind fun q7 =>
  some ((q7.1.toInt64), q7.2)
noncomputable def f_X9_lies (x1 : Int32) (x2 : Int32) (x3 : Int32) (w : GW) : Option (Int64 × GW) :=
  (f_X9_good w).bind fun q1 =>
  (f_X9_isPorter x1 q1.2).bind fun q3 =>
  if q3.1 = 0 then
    f_X9_lies_29 q3.2
  else
    if inb 39 135 then
    (f_X9_within x2 0 ((gI q3.2 133 (ix 39)) - 1) q3.2).bind fun q10 =>
    if q10.1 = 0 then
      f_X9_lies_29 q10.2
    else
      if inb 1 135 then
      (f_X9_laysBy x1 (gI q10.2 133 (ix 1)) q10.2).bind fun q15 =>
      if q15.1 = 0 then
        (f_X9_no 3 q15.2).bind fun q19 =>
        some ((q19.1.toInt64), q19.2)
      else
        (f_X9_waysOfLay x2 q15.2).bind fun q21 =>
        (f_X9_lowest q21.1 (gL q21.2 130 30) x3 q21.2).bind fun q23 =>
        some (q23.1, q23.2)
      else none
    else none
set_option maxHeartbeats 4000000 in
set_option maxRecDepth 100000 in
theorem w_X9_lies_29 {p : Program} {l : Launch} {e : Env} {s : State} {m : MethodId} {args : Array Value} {below : List Frame} {meth : Method} {c : Code} {G : GG} (F : CallFix p m c cX9_lies 4 s args (wsU yX9_lies cX9_lies 4 (some .long)) RX9) (hr : meth.sig.returnType = (some .long)) (hlk : meth.locks = false) {z : Int64 × GW} : (∀ (w : GW) (H : Heap) (locs : List Loc) (ls : Array Slot), St G w s H locs → lv_has ls 4 [(0, .ref (gad G 130))] → f_X9_lies_29  w = some z → W p l e (headSpec (wsU yX9_lies cX9_lies 4 (some .long)) rm_X9_lies).room s m args below meth c H locs 0 0 (MQ below (QL G z) args s 0 0 (gA G)) (F0 m 29 ls [])) := by
  obtain ⟨hx, hb, hml, hown, hts⟩ := id F
  have hg : ∀ q ∈ lwg, q.before args s = true := fun q h => hts q (List.mem_cons_of_mem _ h)
  intro w H locs ls S hl hz
  rw [f_X9_lies_29] at hz
  refine lv_aload_n hx hb dX9_lies_29 rfl (lv_at hl 0 rfl) ?_
  refine lv_iconst (v := 1) hx hb dX9_lies_30 (by decide) ?_
  obtain ⟨q7, e8, hz⟩ := bd hz
  refine g_callVi (As := [.int 1]) (rest := []) F S (c_X9_no l G 1  _ e8) (cw_X9_lies_X9_no_153 hg) (S.obj (by decide) (by decide) rfl (oc_X9 _ _ _ (by decide))) rfl hl.1 rfl (Nat.le_of_ble_eq_true rfl) ⟨Nat.zero_le _, Nat.zero_le _⟩ dX9_lies_31 (fun H locs  S => ?_)
  refine lv_i2l (v := q7.1.toInt64) hx hb dX9_lies_34 rfl ?_
  exact g_retl hx hb hr hlk S hz dX9_lies_35
set_option maxHeartbeats 4000000 in
set_option maxRecDepth 100000 in
theorem c_X9_lies (l : Launch) (G : GG) (x1 : Int32) (x2 : Int32) (x3 : Int32)  (w : GW) {z : Int64 × GW} (hz : f_X9_lies x1 x2 x3 w = some z) : Met l yX9_lies (wsU yX9_lies cX9_lies 4 (some .long)) rm_X9_lies (va_Pc [.ref (gad G 130), .int x1, .int x2, .int x3] (PreG G w)) (QL G z) 0 0 (gA G) := by
  refine Met.ofW (cc := cX9_lies) (maxL := 4) (ret := (some .long)) (by decide) rfl ?_
  intro p e s m args below meth c s₁ B hml hv
  obtain ⟨rfl, S⟩ := hv
  have F : CallFix p m c cX9_lies 4 s _ (wsU yX9_lies cX9_lies 4 (some .long)) RX9 := ⟨B.exec, B.bytes, hml, findClass_of_methodNamed B.named, atoms_spec B.pre⟩
  have hr := B.returns
  have hlk := B.notSynchronized
  obtain ⟨hx, hb, -, hown, hts⟩ := id F
  have hg : ∀ q ∈ lwg, q.before _ s = true := fun q h => hts q (List.mem_cons_of_mem _ h)
  refine g_entry (Nat.le_of_ble_eq_true rfl) (fun ls hl => ?_)
  have hl : lv_has ls 4 [(0, .ref (gad G 130)), (1, .int x1), (2, .int x2), (3, .int x3)] := hl
  have S : St G w s s.heap [] := S
  generalize s.heap = H at S ⊢
  generalize ([] : List Loc) = locs at S ⊢
  rw [f_X9_lies] at hz
  refine lv_aload_n hx hb dX9_lies_0 rfl (lv_at hl 0 rfl) ?_
  obtain ⟨q1, e2, hz⟩ := bd hz
  refine g_callVv (As := []) (rest := []) F S (c_X9_good l G   _ e2) (cw_X9_lies_X9_good_150 hg) (S.obj (by decide) (by decide) rfl (oc_X9 _ _ _ (by decide))) rfl hl.1 rfl (Nat.le_of_ble_eq_true rfl) ⟨Nat.zero_le _, Nat.zero_le _⟩ dX9_lies_1 (fun H locs  S => ?_)
  refine lv_aload_n hx hb dX9_lies_4 rfl (lv_at hl 0 rfl) ?_
  refine lv_iload_n hx hb dX9_lies_5 rfl (lv_at hl 1 rfl) ?_
  obtain ⟨q3, e4, hz⟩ := bd hz
  refine g_callVb (As := [.int x1]) (rest := []) F S (c_X9_isPorter l G x1  _ e4) (cw_X9_lies_X9_isPorter_320 hg) (S.obj (by decide) (by decide) rfl (oc_X9 _ _ _ (by decide))) rfl hl.1 rfl (Nat.le_of_ble_eq_true rfl) ⟨Nat.zero_le _, Nat.zero_le _⟩ dX9_lies_6 (fun H locs hB5 S => ?_)
  refine lv_if_eq (tgt := 29) hx hb dX9_lies_9 (by decide) (fun c6 => ?_) (fun c6 => ?_)
  · have hz := ipt (c6) hz
    exact w_X9_lies_29 F hr hlk _ _ _ _ S (lv_sub hl [0] rfl) hz
  · have hz := ipf (c6) hz
    refine lv_iload_n hx hb dX9_lies_12 rfl (lv_at hl 2 rfl) ?_
    refine lv_iconst (v := 0) hx hb dX9_lies_13 (by decide) ?_
    refine lv_aload_n hx hb dX9_lies_14 rfl (lv_at hl 0 rfl) ?_
    refine fg_X9_15 hx hb (fun q h => hg q (tl_X9 q h)) hown (hg _ t_fl_X9_20) S (by decide) dX9_lies_15 ?_
    refine lv_bipush (v := 39) hx hb dX9_lies_18 (by decide) ?_
    obtain ⟨h9, hz⟩ := ck hz
    refine g_iald hx hb S (isA_15 (by decide)) h9 dX9_lies_20 ?_
    refine lv_iconst (v := 1) hx hb dX9_lies_21 (by decide) ?_
    refine lv_isub hx hb dX9_lies_22 ?_
    obtain ⟨q10, e11, hz⟩ := bd hz
    refine g_callSb (As := [.int x2, .int 0, .int ((gI q3.2 133 (ix 39)) - 1)]) (rest := []) F S (c_X9_within l G x2 0 ((gI q3.2 133 (ix 39)) - 1)  _ e11) (cw_X9_lies_X9_within_138 hg) rfl hl.1 rfl (Nat.le_of_ble_eq_true rfl) ⟨Nat.zero_le _, Nat.zero_le _⟩ dX9_lies_23 (fun H locs hB12 S => ?_)
    refine lv_if_ne (tgt := 36) hx hb dX9_lies_26 (by decide) (fun c13 => ?_) (fun c13 => ?_)
    · have hz := ipf (c13) hz
      refine lv_aload_n hx hb dX9_lies_36 rfl (lv_at hl 0 rfl) ?_
      refine lv_iload_n hx hb dX9_lies_37 rfl (lv_at hl 1 rfl) ?_
      refine lv_aload_n hx hb dX9_lies_38 rfl (lv_at hl 0 rfl) ?_
      refine fg_X9_15 hx hb (fun q h => hg q (tl_X9 q h)) hown (hg _ t_fl_X9_20) S (by decide) dX9_lies_39 ?_
      refine lv_iconst (v := 1) hx hb dX9_lies_42 (by decide) ?_
      obtain ⟨h14, hz⟩ := ck hz
      refine g_iald hx hb S (isA_15 (by decide)) h14 dX9_lies_43 ?_
      obtain ⟨q15, e16, hz⟩ := bd hz
      refine g_callVb (As := [.int x1, .int (gI q10.2 133 (ix 1))]) (rest := []) F S (c_X9_laysBy l G x1 (gI q10.2 133 (ix 1))  _ e16) (cw_X9_lies_X9_laysBy_323 hg) (S.obj (by decide) (by decide) rfl (oc_X9 _ _ _ (by decide))) rfl hl.1 rfl (Nat.le_of_ble_eq_true rfl) ⟨Nat.zero_le _, Nat.zero_le _⟩ dX9_lies_44 (fun H locs hB17 S => ?_)
      refine lv_if_eq (tgt := 66) hx hb dX9_lies_47 (by decide) (fun c18 => ?_) (fun c18 => ?_)
      · have hz := ipt (c18) hz
        refine lv_aload_n hx hb dX9_lies_66 rfl (lv_at hl 0 rfl) ?_
        refine lv_iconst (v := 3) hx hb dX9_lies_67 (by decide) ?_
        obtain ⟨q19, e20, hz⟩ := bd hz
        refine g_callVi (As := [.int 3]) (rest := []) F S (c_X9_no l G 3  _ e20) (cw_X9_lies_X9_no_153 hg) (S.obj (by decide) (by decide) rfl (oc_X9 _ _ _ (by decide))) rfl hl.1 rfl (Nat.le_of_ble_eq_true rfl) ⟨Nat.zero_le _, Nat.zero_le _⟩ dX9_lies_68 (fun H locs  S => ?_)
        refine lv_i2l (v := q19.1.toInt64) hx hb dX9_lies_71 rfl ?_
        exact g_retl hx hb hr hlk S hz dX9_lies_72
      · have hz := ipf (c18) hz
        refine lv_aload_n hx hb dX9_lies_50 rfl (lv_at hl 0 rfl) ?_
        refine lv_iload_n hx hb dX9_lies_51 rfl (lv_at hl 2 rfl) ?_
        obtain ⟨q21, e22, hz⟩ := bd hz
        refine g_callVl (As := [.int x2]) (rest := []) F S (c_X9_waysOfLay l G x2  _ e22) (cw_X9_lies_X9_waysOfLay_347 hg) (S.obj (by decide) (by decide) rfl (oc_X9 _ _ _ (by decide))) rfl hl.1 rfl (Nat.le_of_ble_eq_true rfl) ⟨Nat.zero_le _, Nat.zero_le _⟩ dX9_lies_52 (fun H locs  S => ?_)
        refine lv_aload_n hx hb dX9_lies_55 rfl (lv_at hl 0 rfl) ?_
        refine fg_X9_30 hx hb (fun q h => hg q (tl_X9 q h)) hown (hg _ t_fl_X9_255) S (by decide) dX9_lies_56 ?_
        refine lv_iload_n hx hb dX9_lies_59 rfl (lv_at hl 3 rfl) ?_
        obtain ⟨q23, e24, hz⟩ := bd hz
        refine g_callSl (As := [.long q21.1, .long (gL q21.2 130 30), .int x3]) (rest := []) F S (c_X9_lowest l G q21.1 (gL q21.2 130 30) x3  _ e24) (cw_X9_lies_X9_lowest_334 hg) rfl hl.1 rfl (Nat.le_of_ble_eq_true rfl) ⟨Nat.zero_le _, Nat.zero_le _⟩ dX9_lies_60 (fun H locs  S => ?_)
        refine lv_goto (tgt := 72) hx hb dX9_lies_63 (by decide) ?_
        exact g_retl hx hb hr hlk S hz dX9_lies_72
    · have hz := ipt (c13) hz
      exact w_X9_lies_29 F hr hlk _ _ _ _ S (lv_sub hl [0] rfl) hz
noncomputable def f_X9_setBig_2  : Nat → Nat → Int32 → GW → Option (Unit × GW)
  | 0, _, _, _ => none
  | n9 + 1, k0, x1, w =>
    if 60 ≤ x1 then
      if inb 0 60 then
      some ((), (sI w k0 (ix 0) 1))
      else none
    else
      if inb x1 60 then
      f_X9_setBig_2 n9 k0 (x1 + 1) (sI w k0 (ix x1) 0)
      else none
noncomputable def f_X9_setBig (k0 : Nat) (w : GW) : Option (Unit × GW) :=
  f_X9_setBig_2 fu k0 0 w
set_option maxHeartbeats 4000000 in
set_option maxRecDepth 100000 in
theorem w_X9_setBig_2 {p : Program} {l : Launch} {e : Env} {s : State} {m : MethodId} {args : Array Value} {below : List Frame} {meth : Method} {c : Code} {G : GG} (F : CallFix p m c cX9_setBig 2 s args (wsU yX9_setBig cX9_setBig 2 none) RX9) (hr : meth.sig.returnType = none) (hlk : meth.locks = false) {z : Unit × GW} : ∀ (n9 : Nat), (∀ (k0 : Nat) (x1 : Int32) (hk0 : kd k0 = 20) (w : GW) (H : Heap) (locs : List Loc) (ls : Array Slot), St G w s H locs → lv_has ls 2 [(0, .ref (gad G k0)), (1, .int x1)] → f_X9_setBig_2 n9 k0 x1 w = some z → W p l e (headSpec (wsU yX9_setBig cX9_setBig 2 none) rm_X9_setBig).room s m args below meth c H locs 0 0 (MQ below (QV G z) args s 0 0 (gA G)) (F0 m 2 ls [])) := by
  obtain ⟨hx, hb, hml, hown, hts⟩ := id F
  have hg : ∀ q ∈ lwg, q.before args s = true := fun q h => hts q (List.mem_cons_of_mem _ h)
  intro n9
  induction n9 with
  | zero =>
    intro k0 x1 hk0 w H locs ls S hl hz
    rw [f_X9_setBig_2] at hz
    cases hz
  | succ n9 ih =>
    intro k0 x1 hk0 w H locs ls S hl hz
    rw [f_X9_setBig_2] at hz
    refine lv_iload_n hx hb dX9_setBig_2 rfl (lv_at hl 1 rfl) ?_
    refine lv_bipush (v := 60) hx hb dX9_setBig_3 (by decide) ?_
    refine lv_icmp_ge (tgt := 18) hx hb dX9_setBig_5 (by decide) (fun c1 => ?_) (fun c1 => ?_)
    · have hz := ipt (c1) hz
      refine lv_aload_n hx hb dX9_setBig_18 rfl (lv_at hl 0 rfl) ?_
      refine lv_iconst (v := 0) hx hb dX9_setBig_19 (by decide) ?_
      refine lv_iconst (v := 1) hx hb dX9_setBig_20 (by decide) ?_
      obtain ⟨h2, hz⟩ := ck hz
      refine g_iast (x := 1) hx hb S (isA_20 hk0) h2 dX9_setBig_21 (fun H locs S => ?_)
      exact g_retv hx hb hr hlk S hz dX9_setBig_22
    · have hz := ipf (c1) hz
      refine lv_aload_n hx hb dX9_setBig_8 rfl (lv_at hl 0 rfl) ?_
      refine lv_iload_n hx hb dX9_setBig_9 rfl (lv_at hl 1 rfl) ?_
      refine lv_iconst (v := 0) hx hb dX9_setBig_10 (by decide) ?_
      obtain ⟨h3, hz⟩ := ck hz
      refine g_iast (x := 0) hx hb S (isA_20 hk0) h3 dX9_setBig_11 (fun H locs S => ?_)
      refine lv_iinc (v := (x1 + 1)) (lv' := [(1, .int (x1 + 1)), (0, .ref (gad G k0))]) hx hb dX9_setBig_12 hl (k := 1) rfl rfl (by decide) rfl (fun ls hl => ?_)
      refine lv_goto (tgt := 2) hx hb dX9_setBig_15 (by decide) ?_
      exact ih k0 (x1 + 1) hk0 _ _ _ _ S (lv_sub hl [1, 0] rfl) hz
set_option maxHeartbeats 4000000 in
set_option maxRecDepth 100000 in
theorem c_X9_setBig (l : Launch) (G : GG) (k0 : Nat) (hk0 : kd k0 = 20) (w : GW) {z : Unit × GW} (hz : f_X9_setBig k0 w = some z) : Met l yX9_setBig (wsU yX9_setBig cX9_setBig 2 none) rm_X9_setBig (va_Pc [.ref (gad G k0)] (PreG G w)) (QV G z) 0 0 (gA G) := by
  refine Met.ofW (cc := cX9_setBig) (maxL := 2) (ret := none) (by decide) rfl ?_
  intro p e s m args below meth c s₁ B hml hv
  obtain ⟨rfl, S⟩ := hv
  have F : CallFix p m c cX9_setBig 2 s _ (wsU yX9_setBig cX9_setBig 2 none) RX9 := ⟨B.exec, B.bytes, hml, findClass_of_methodNamed B.named, atoms_spec B.pre⟩
  have hr := B.returns
  have hlk := B.notSynchronized
  obtain ⟨hx, hb, -, hown, hts⟩ := id F
  have hg : ∀ q ∈ lwg, q.before _ s = true := fun q h => hts q (List.mem_cons_of_mem _ h)
  refine g_entry (Nat.le_of_ble_eq_true rfl) (fun ls hl => ?_)
  have hl : lv_has ls 2 [(0, .ref (gad G k0))] := hl
  have S : St G w s s.heap [] := S
  generalize s.heap = H at S ⊢
  generalize ([] : List Loc) = locs at S ⊢
  rw [f_X9_setBig] at hz
  refine lv_iconst (v := 0) hx hb dX9_setBig_0 (by decide) ?_
  refine lv_istore_n (lv' := [(1, .int 0), (0, .ref (gad G k0))]) hx hb dX9_setBig_1 rfl hl (by decide) rfl (fun ls hl => ?_)
  exact w_X9_setBig_2 F hr hlk fu k0 0 hk0 _ _ _ _ S (lv_sub hl [1, 0] rfl) hz
noncomputable def f_X9_timesBig_134  : Nat → Nat → Int32 → GW → Option (Unit × GW)
  | 0, _, _, _ => none
  | n9 + 1, k1, x7, w =>
    if 60 ≤ x7 then
      some ((), w)
    else
      if inb x7 60 then
      if inb x7 60 then
      f_X9_timesBig_134 n9 k1 (x7 + 1) (sI w k1 (ix x7) (gI w 146 (ix x7)))
      else none
      else none
noncomputable def f_X9_timesBig_51 (k_30 : Nat → Int64 → Int32 → GW → Option (Unit × GW)) : Nat → Nat → Int64 → Int32 → Int64 → Int64 → Int32 → GW → Option (Unit × GW)
  | 0, _, _, _, _, _, _, _ => none
  | n9 + 1, k1, x4, x6, x7, x9, x11, w =>
    if 60 ≤ (x11 + x6) then
      k_30 k1 (x4 / 1000000000) (x6 + 1) w
    else
      if inb (x11 + x6) 60 then
      if inb x11 60 then
      if inb (x11 + x6) 60 then
      f_X9_timesBig_51 k_30 n9 k1 x4 x6 x7 (((((gI w 146 (ix (x11 + x6))).toInt64) + (((gI w k1 (ix x11)).toInt64) * x7)) + x9) / 1000000000) (x11 + 1) (sI w 146 (ix (x11 + x6)) ((lrm ((((gI w 146 (ix (x11 + x6))).toInt64) + (((gI w k1 (ix x11)).toInt64) * x7)) + x9) 1000000000).toInt32))
      else none
      else none
      else none
noncomputable def f_X9_timesBig_30  : Nat → Nat → Int64 → Int32 → GW → Option (Unit × GW)
  | 0, _, _, _, _ => none
  | n9 + 1, k1, x4, x6, w =>
    if x4 ≤ 0 then
      f_X9_timesBig_134 fu k1 0 w
    else
      f_X9_timesBig_51 (f_X9_timesBig_30 n9) fu k1 x4 x6 (lrm x4 1000000000) 0 0 w
noncomputable def f_X9_timesBig_3  : Nat → Nat → Int64 → Int32 → GW → Option (Unit × GW)
  | 0, _, _, _, _ => none
  | n9 + 1, k1, x2, x4, w =>
    if 60 ≤ x4 then
      f_X9_timesBig_30 fu k1 x2 0 w
    else
      if inb x4 60 then
      f_X9_timesBig_3 n9 k1 x2 (x4 + 1) (sI w 146 (ix x4) 0)
      else none
noncomputable def f_X9_timesBig (k1 : Nat) (x2 : Int64) (w : GW) : Option (Unit × GW) :=
  f_X9_timesBig_3 fu k1 x2 0 w
set_option maxHeartbeats 4000000 in
set_option maxRecDepth 100000 in
theorem w_X9_timesBig_134 {p : Program} {l : Launch} {e : Env} {s : State} {m : MethodId} {args : Array Value} {below : List Frame} {meth : Method} {c : Code} {G : GG} (F : CallFix p m c cX9_timesBig 14 s args (wsU yX9_timesBig cX9_timesBig 14 none) RX9) (hr : meth.sig.returnType = none) (hlk : meth.locks = false) {z : Unit × GW} : ∀ (n9 : Nat), (∀ (k1 : Nat) (x7 : Int32) (hk1 : kd k1 = 20) (w : GW) (H : Heap) (locs : List Loc) (ls : Array Slot), St G w s H locs → lv_has ls 14 [(0, .ref (gad G 130)), (1, .ref (gad G k1)), (7, .int x7)] → f_X9_timesBig_134 n9 k1 x7 w = some z → W p l e (headSpec (wsU yX9_timesBig cX9_timesBig 14 none) rm_X9_timesBig).room s m args below meth c H locs 0 0 (MQ below (QV G z) args s 0 0 (gA G)) (F0 m 134 ls [])) := by
  obtain ⟨hx, hb, hml, hown, hts⟩ := id F
  have hg : ∀ q ∈ lwg, q.before args s = true := fun q h => hts q (List.mem_cons_of_mem _ h)
  intro n9
  induction n9 with
  | zero =>
    intro k1 x7 hk1 w H locs ls S hl hz
    rw [f_X9_timesBig_134] at hz
    cases hz
  | succ n9 ih =>
    intro k1 x7 hk1 w H locs ls S hl hz
    rw [f_X9_timesBig_134] at hz
    refine lv_iload hx hb dX9_timesBig_134 (lv_at hl 2 rfl) ?_
    refine lv_bipush (v := 60) hx hb dX9_timesBig_136 (by decide) ?_
    refine lv_icmp_ge (tgt := 158) hx hb dX9_timesBig_138 (by decide) (fun c3 => ?_) (fun c3 => ?_)
    · have hz := ipt (c3) hz
      exact g_retv hx hb hr hlk S hz dX9_timesBig_158
    · have hz := ipf (c3) hz
      refine lv_aload_n hx hb dX9_timesBig_141 rfl (lv_at hl 1 rfl) ?_
      refine lv_iload hx hb dX9_timesBig_142 (lv_at hl 2 rfl) ?_
      refine lv_aload_n hx hb dX9_timesBig_144 rfl (lv_at hl 0 rfl) ?_
      refine fg_X9_33 hx hb (fun q h => hg q (tl_X9 q h)) hown (hg _ t_fl_X9_60) S (by decide) dX9_timesBig_145 ?_
      refine lv_iload hx hb dX9_timesBig_148 (lv_at hl 2 rfl) ?_
      obtain ⟨h4, hz⟩ := ck hz
      refine g_iald hx hb S (isA_20 (by decide)) h4 dX9_timesBig_150 ?_
      obtain ⟨h5, hz⟩ := ck hz
      refine g_iast (x := (gI w 146 (ix x7))) hx hb S (isA_20 hk1) h5 dX9_timesBig_151 (fun H locs S => ?_)
      refine lv_iinc (v := (x7 + 1)) (lv' := [(7, .int (x7 + 1)), (0, .ref (gad G 130)), (1, .ref (gad G k1))]) hx hb dX9_timesBig_152 hl (k := 2) rfl rfl (by decide) rfl (fun ls hl => ?_)
      refine lv_goto (tgt := 134) hx hb dX9_timesBig_155 (by decide) ?_
      exact ih k1 (x7 + 1) hk1 _ _ _ _ S (lv_sub hl [1, 2, 0] rfl) hz
set_option maxHeartbeats 4000000 in
set_option maxRecDepth 100000 in
theorem w_X9_timesBig_51 {p : Program} {l : Launch} {e : Env} {s : State} {m : MethodId} {args : Array Value} {below : List Frame} {meth : Method} {c : Code} {G : GG} (F : CallFix p m c cX9_timesBig 14 s args (wsU yX9_timesBig cX9_timesBig 14 none) RX9) (hr : meth.sig.returnType = none) (hlk : meth.locks = false) {z : Unit × GW} {k_30 : Nat → Int64 → Int32 → GW → Option (Unit × GW)} (Hk_30 : (∀ (k1 : Nat) (x4 : Int64) (x6 : Int32) (hk1 : kd k1 = 20) (w : GW) (H : Heap) (locs : List Loc) (ls : Array Slot), St G w s H locs → lv_has ls 14 [(0, .ref (gad G 130)), (1, .ref (gad G k1)), (4, .long x4), (6, .int x6)] → k_30 k1 x4 x6 w = some z → W p l e (headSpec (wsU yX9_timesBig cX9_timesBig 14 none) rm_X9_timesBig).room s m args below meth c H locs 0 0 (MQ below (QV G z) args s 0 0 (gA G)) (F0 m 30 ls []))) : ∀ (n9 : Nat), (∀ (k1 : Nat) (x4 : Int64) (x6 : Int32) (x7 : Int64) (x9 : Int64) (x11 : Int32) (hk1 : kd k1 = 20) (w : GW) (H : Heap) (locs : List Loc) (ls : Array Slot), St G w s H locs → lv_has ls 14 [(0, .ref (gad G 130)), (1, .ref (gad G k1)), (4, .long x4), (6, .int x6), (7, .long x7), (9, .long x9), (11, .int x11)] → f_X9_timesBig_51 k_30 n9 k1 x4 x6 x7 x9 x11 w = some z → W p l e (headSpec (wsU yX9_timesBig cX9_timesBig 14 none) rm_X9_timesBig).room s m args below meth c H locs 0 0 (MQ below (QV G z) args s 0 0 (gA G)) (F0 m 51 ls [])) := by
  obtain ⟨hx, hb, hml, hown, hts⟩ := id F
  have hg : ∀ q ∈ lwg, q.before args s = true := fun q h => hts q (List.mem_cons_of_mem _ h)
  intro n9
  induction n9 with
  | zero =>
    intro k1 x4 x6 x7 x9 x11 hk1 w H locs ls S hl hz
    rw [f_X9_timesBig_51] at hz
    cases hz
  | succ n9 ih =>
    intro k1 x4 x6 x7 x9 x11 hk1 w H locs ls S hl hz
    rw [f_X9_timesBig_51] at hz
    refine lv_iload hx hb dX9_timesBig_51 (lv_at hl 6 rfl) ?_
    refine lv_iload hx hb dX9_timesBig_53 (lv_at hl 3 rfl) ?_
    refine lv_iadd hx hb dX9_timesBig_55 ?_
    refine lv_bipush (v := 60) hx hb dX9_timesBig_56 (by decide) ?_
    refine lv_icmp_ge (tgt := 117) hx hb dX9_timesBig_58 (by decide) (fun c6 => ?_) (fun c6 => ?_)
    · have hz := ipt (c6) hz
      refine lv_lload hx hb dX9_timesBig_117 (lv_at hl 2 rfl) ?_
      refine lv_ldc2 (v := 1000000000) hx hb hown (hg _ t_cl_X9_350) dX9_timesBig_119 ?_
      refine g_ldiv hx hb dX9_timesBig_122 (by decide) ?_
      refine lv_lstore (lv' := [(4, .long (x4 / 1000000000)), (0, .ref (gad G 130)), (1, .ref (gad G k1)), (6, .int x6), (7, .long x7), (9, .long x9), (11, .int x11)]) hx hb dX9_timesBig_123 hl (by decide) rfl (fun ls hl => ?_)
      refine lv_iinc (v := (x6 + 1)) (lv' := [(6, .int (x6 + 1)), (4, .long (x4 / 1000000000)), (0, .ref (gad G 130)), (1, .ref (gad G k1)), (7, .long x7), (9, .long x9), (11, .int x11)]) hx hb dX9_timesBig_125 hl (k := 3) rfl rfl (by decide) rfl (fun ls hl => ?_)
      refine lv_goto (tgt := 30) hx hb dX9_timesBig_128 (by decide) ?_
      exact Hk_30 k1 (x4 / 1000000000) (x6 + 1) hk1 _ _ _ _ S (lv_sub hl [2, 3, 1, 0] rfl) hz
    · have hz := ipf (c6) hz
      refine lv_aload_n hx hb dX9_timesBig_61 rfl (lv_at hl 0 rfl) ?_
      refine fg_X9_33 hx hb (fun q h => hg q (tl_X9 q h)) hown (hg _ t_fl_X9_60) S (by decide) dX9_timesBig_62 ?_
      refine lv_iload hx hb dX9_timesBig_65 (lv_at hl 6 rfl) ?_
      refine lv_iload hx hb dX9_timesBig_67 (lv_at hl 3 rfl) ?_
      refine lv_iadd hx hb dX9_timesBig_69 ?_
      obtain ⟨h7, hz⟩ := ck hz
      refine g_iald hx hb S (isA_20 (by decide)) h7 dX9_timesBig_70 ?_
      refine lv_i2l (v := (gI w 146 (ix (x11 + x6))).toInt64) hx hb dX9_timesBig_71 rfl ?_
      refine lv_aload_n hx hb dX9_timesBig_72 rfl (lv_at hl 1 rfl) ?_
      refine lv_iload hx hb dX9_timesBig_73 (lv_at hl 6 rfl) ?_
      obtain ⟨h8, hz⟩ := ck hz
      refine g_iald hx hb S (isA_20 hk1) h8 dX9_timesBig_75 ?_
      refine lv_i2l (v := (gI w k1 (ix x11)).toInt64) hx hb dX9_timesBig_76 rfl ?_
      refine lv_lload hx hb dX9_timesBig_77 (lv_at hl 4 rfl) ?_
      refine lv_lmul hx hb dX9_timesBig_79 ?_
      refine lv_ladd hx hb dX9_timesBig_80 ?_
      refine lv_lload hx hb dX9_timesBig_81 (lv_at hl 5 rfl) ?_
      refine lv_ladd hx hb dX9_timesBig_83 ?_
      refine lv_lstore (lv' := [(12, .long ((((gI w 146 (ix (x11 + x6))).toInt64) + (((gI w k1 (ix x11)).toInt64) * x7)) + x9)), (0, .ref (gad G 130)), (1, .ref (gad G k1)), (4, .long x4), (6, .int x6), (7, .long x7), (9, .long x9), (11, .int x11)]) hx hb dX9_timesBig_84 hl (by decide) rfl (fun ls hl => ?_)
      refine lv_aload_n hx hb dX9_timesBig_86 rfl (lv_at hl 1 rfl) ?_
      refine fg_X9_33 hx hb (fun q h => hg q (tl_X9 q h)) hown (hg _ t_fl_X9_60) S (by decide) dX9_timesBig_87 ?_
      refine lv_iload hx hb dX9_timesBig_90 (lv_at hl 7 rfl) ?_
      refine lv_iload hx hb dX9_timesBig_92 (lv_at hl 4 rfl) ?_
      refine lv_iadd hx hb dX9_timesBig_94 ?_
      refine lv_lload hx hb dX9_timesBig_95 (lv_at hl 0 rfl) ?_
      refine lv_ldc2 (v := 1000000000) hx hb hown (hg _ t_cl_X9_350) dX9_timesBig_97 ?_
      refine g_lrem hx hb dX9_timesBig_100 (by decide) ?_
      refine lv_l2i (v := (lrm ((((gI w 146 (ix (x11 + x6))).toInt64) + (((gI w k1 (ix x11)).toInt64) * x7)) + x9) 1000000000).toInt32) hx hb dX9_timesBig_101 rfl ?_
      obtain ⟨h9, hz⟩ := ck hz
      refine g_iast (x := ((lrm ((((gI w 146 (ix (x11 + x6))).toInt64) + (((gI w k1 (ix x11)).toInt64) * x7)) + x9) 1000000000).toInt32)) hx hb S (isA_20 (by decide)) h9 dX9_timesBig_102 (fun H locs S => ?_)
      refine lv_lload hx hb dX9_timesBig_103 (lv_at hl 0 rfl) ?_
      refine lv_ldc2 (v := 1000000000) hx hb hown (hg _ t_cl_X9_350) dX9_timesBig_105 ?_
      refine g_ldiv hx hb dX9_timesBig_108 (by decide) ?_
      refine lv_lstore (lv' := [(9, .long (((((gI w 146 (ix (x11 + x6))).toInt64) + (((gI w k1 (ix x11)).toInt64) * x7)) + x9) / 1000000000)), (12, .long ((((gI w 146 (ix (x11 + x6))).toInt64) + (((gI w k1 (ix x11)).toInt64) * x7)) + x9)), (0, .ref (gad G 130)), (1, .ref (gad G k1)), (4, .long x4), (6, .int x6), (7, .long x7), (11, .int x11)]) hx hb dX9_timesBig_109 hl (by decide) rfl (fun ls hl => ?_)
      refine lv_iinc (v := (x11 + 1)) (lv' := [(11, .int (x11 + 1)), (9, .long (((((gI w 146 (ix (x11 + x6))).toInt64) + (((gI w k1 (ix x11)).toInt64) * x7)) + x9) / 1000000000)), (12, .long ((((gI w 146 (ix (x11 + x6))).toInt64) + (((gI w k1 (ix x11)).toInt64) * x7)) + x9)), (0, .ref (gad G 130)), (1, .ref (gad G k1)), (4, .long x4), (6, .int x6), (7, .long x7)]) hx hb dX9_timesBig_111 hl (k := 7) rfl rfl (by decide) rfl (fun ls hl => ?_)
      refine lv_goto (tgt := 51) hx hb dX9_timesBig_114 (by decide) ?_
      exact ih k1 x4 x6 x7 (((((gI w 146 (ix (x11 + x6))).toInt64) + (((gI w k1 (ix x11)).toInt64) * x7)) + x9) / 1000000000) (x11 + 1) hk1 _ _ _ _ S (lv_sub hl [3, 4, 5, 6, 7, 1, 0] rfl) hz
set_option maxHeartbeats 4000000 in
set_option maxRecDepth 100000 in
theorem w_X9_timesBig_30 {p : Program} {l : Launch} {e : Env} {s : State} {m : MethodId} {args : Array Value} {below : List Frame} {meth : Method} {c : Code} {G : GG} (F : CallFix p m c cX9_timesBig 14 s args (wsU yX9_timesBig cX9_timesBig 14 none) RX9) (hr : meth.sig.returnType = none) (hlk : meth.locks = false) {z : Unit × GW} : ∀ (n9 : Nat), (∀ (k1 : Nat) (x4 : Int64) (x6 : Int32) (hk1 : kd k1 = 20) (w : GW) (H : Heap) (locs : List Loc) (ls : Array Slot), St G w s H locs → lv_has ls 14 [(0, .ref (gad G 130)), (1, .ref (gad G k1)), (4, .long x4), (6, .int x6)] → f_X9_timesBig_30 n9 k1 x4 x6 w = some z → W p l e (headSpec (wsU yX9_timesBig cX9_timesBig 14 none) rm_X9_timesBig).room s m args below meth c H locs 0 0 (MQ below (QV G z) args s 0 0 (gA G)) (F0 m 30 ls [])) := by
  obtain ⟨hx, hb, hml, hown, hts⟩ := id F
  have hg : ∀ q ∈ lwg, q.before args s = true := fun q h => hts q (List.mem_cons_of_mem _ h)
  intro n9
  induction n9 with
  | zero =>
    intro k1 x4 x6 hk1 w H locs ls S hl hz
    rw [f_X9_timesBig_30] at hz
    cases hz
  | succ n9 ih =>
    intro k1 x4 x6 hk1 w H locs ls S hl hz
    rw [f_X9_timesBig_30] at hz
    refine lv_lload hx hb dX9_timesBig_30 (lv_at hl 2 rfl) ?_
    refine lv_lconst (v := 0) hx hb dX9_timesBig_32 (by decide) ?_
    refine W.lcmp hx hb dX9_timesBig_33 ?_
    refine lv_if_le (tgt := 131) hx hb dX9_timesBig_34 (by decide) (fun c2 => ?_) (fun c2 => ?_)
    · have hz := ipt ((lg_cmp_le _ _).mp c2) hz
      refine lv_iconst (v := 0) hx hb dX9_timesBig_131 (by decide) ?_
      refine lv_istore (lv' := [(7, .int 0), (0, .ref (gad G 130)), (1, .ref (gad G k1)), (4, .long x4), (6, .int x6)]) hx hb dX9_timesBig_132 hl (by decide) rfl (fun ls hl => ?_)
      exact w_X9_timesBig_134 F hr hlk fu k1 0 hk1 _ _ _ _ S (lv_sub hl [1, 2, 0] rfl) hz
    · have hz := ipf (fun q9 => c2 ((lg_cmp_le _ _).mpr q9)) hz
      refine lv_lload hx hb dX9_timesBig_37 (lv_at hl 2 rfl) ?_
      refine lv_ldc2 (v := 1000000000) hx hb hown (hg _ t_cl_X9_350) dX9_timesBig_39 ?_
      refine g_lrem hx hb dX9_timesBig_42 (by decide) ?_
      refine lv_lstore (lv' := [(7, .long (lrm x4 1000000000)), (0, .ref (gad G 130)), (1, .ref (gad G k1)), (4, .long x4), (6, .int x6)]) hx hb dX9_timesBig_43 hl (by decide) rfl (fun ls hl => ?_)
      refine lv_lconst (v := 0) hx hb dX9_timesBig_45 (by decide) ?_
      refine lv_lstore (lv' := [(9, .long 0), (7, .long (lrm x4 1000000000)), (0, .ref (gad G 130)), (1, .ref (gad G k1)), (4, .long x4), (6, .int x6)]) hx hb dX9_timesBig_46 hl (by decide) rfl (fun ls hl => ?_)
      refine lv_iconst (v := 0) hx hb dX9_timesBig_48 (by decide) ?_
      refine lv_istore (lv' := [(11, .int 0), (9, .long 0), (7, .long (lrm x4 1000000000)), (0, .ref (gad G 130)), (1, .ref (gad G k1)), (4, .long x4), (6, .int x6)]) hx hb dX9_timesBig_49 hl (by decide) rfl (fun ls hl => ?_)
      exact w_X9_timesBig_51 F hr hlk ih fu k1 x4 x6 (lrm x4 1000000000) 0 0 hk1 _ _ _ _ S (lv_sub hl [3, 4, 5, 6, 2, 1, 0] rfl) hz
set_option maxHeartbeats 4000000 in
set_option maxRecDepth 100000 in
theorem w_X9_timesBig_3 {p : Program} {l : Launch} {e : Env} {s : State} {m : MethodId} {args : Array Value} {below : List Frame} {meth : Method} {c : Code} {G : GG} (F : CallFix p m c cX9_timesBig 14 s args (wsU yX9_timesBig cX9_timesBig 14 none) RX9) (hr : meth.sig.returnType = none) (hlk : meth.locks = false) {z : Unit × GW} : ∀ (n9 : Nat), (∀ (k1 : Nat) (x2 : Int64) (x4 : Int32) (hk1 : kd k1 = 20) (w : GW) (H : Heap) (locs : List Loc) (ls : Array Slot), St G w s H locs → lv_has ls 14 [(0, .ref (gad G 130)), (1, .ref (gad G k1)), (2, .long x2), (4, .int x4)] → f_X9_timesBig_3 n9 k1 x2 x4 w = some z → W p l e (headSpec (wsU yX9_timesBig cX9_timesBig 14 none) rm_X9_timesBig).room s m args below meth c H locs 0 0 (MQ below (QV G z) args s 0 0 (gA G)) (F0 m 3 ls [])) := by
  obtain ⟨hx, hb, hml, hown, hts⟩ := id F
  have hg : ∀ q ∈ lwg, q.before args s = true := fun q h => hts q (List.mem_cons_of_mem _ h)
  intro n9
  induction n9 with
  | zero =>
    intro k1 x2 x4 hk1 w H locs ls S hl hz
    rw [f_X9_timesBig_3] at hz
    cases hz
  | succ n9 ih =>
    intro k1 x2 x4 hk1 w H locs ls S hl hz
    rw [f_X9_timesBig_3] at hz
    refine lv_iload hx hb dX9_timesBig_3 (lv_at hl 3 rfl) ?_
    refine lv_bipush (v := 60) hx hb dX9_timesBig_5 (by decide) ?_
    refine lv_icmp_ge (tgt := 24) hx hb dX9_timesBig_7 (by decide) (fun c1 => ?_) (fun c1 => ?_)
    · have hz := ipt (c1) hz
      refine lv_lload_n hx hb dX9_timesBig_24 rfl (lv_at hl 2 rfl) ?_
      refine lv_lstore (lv' := [(4, .long x2), (0, .ref (gad G 130)), (1, .ref (gad G k1)), (2, .long x2)]) hx hb dX9_timesBig_25 hl (by decide) rfl (fun ls hl => ?_)
      refine lv_iconst (v := 0) hx hb dX9_timesBig_27 (by decide) ?_
      refine lv_istore (lv' := [(6, .int 0), (4, .long x2), (0, .ref (gad G 130)), (1, .ref (gad G k1)), (2, .long x2)]) hx hb dX9_timesBig_28 hl (by decide) rfl (fun ls hl => ?_)
      exact w_X9_timesBig_30 F hr hlk fu k1 x2 0 hk1 _ _ _ _ S (lv_sub hl [2, 3, 1, 0] rfl) hz
    · have hz := ipf (c1) hz
      refine lv_aload_n hx hb dX9_timesBig_10 rfl (lv_at hl 0 rfl) ?_
      refine fg_X9_33 hx hb (fun q h => hg q (tl_X9 q h)) hown (hg _ t_fl_X9_60) S (by decide) dX9_timesBig_11 ?_
      refine lv_iload hx hb dX9_timesBig_14 (lv_at hl 3 rfl) ?_
      refine lv_iconst (v := 0) hx hb dX9_timesBig_16 (by decide) ?_
      obtain ⟨h10, hz⟩ := ck hz
      refine g_iast (x := 0) hx hb S (isA_20 (by decide)) h10 dX9_timesBig_17 (fun H locs S => ?_)
      refine lv_iinc (v := (x4 + 1)) (lv' := [(4, .int (x4 + 1)), (0, .ref (gad G 130)), (1, .ref (gad G k1)), (2, .long x2)]) hx hb dX9_timesBig_18 hl (k := 3) rfl rfl (by decide) rfl (fun ls hl => ?_)
      refine lv_goto (tgt := 3) hx hb dX9_timesBig_21 (by decide) ?_
      exact ih k1 x2 (x4 + 1) hk1 _ _ _ _ S (lv_sub hl [1, 2, 3, 0] rfl) hz
set_option maxHeartbeats 4000000 in
set_option maxRecDepth 100000 in
theorem c_X9_timesBig (l : Launch) (G : GG) (k1 : Nat) (x2 : Int64) (hk1 : kd k1 = 20) (w : GW) {z : Unit × GW} (hz : f_X9_timesBig k1 x2 w = some z) : Met l yX9_timesBig (wsU yX9_timesBig cX9_timesBig 14 none) rm_X9_timesBig (va_Pc [.ref (gad G 130), .ref (gad G k1), .long x2] (PreG G w)) (QV G z) 0 0 (gA G) := by
  refine Met.ofW (cc := cX9_timesBig) (maxL := 14) (ret := none) (by decide) rfl ?_
  intro p e s m args below meth c s₁ B hml hv
  obtain ⟨rfl, S⟩ := hv
  have F : CallFix p m c cX9_timesBig 14 s _ (wsU yX9_timesBig cX9_timesBig 14 none) RX9 := ⟨B.exec, B.bytes, hml, findClass_of_methodNamed B.named, atoms_spec B.pre⟩
  have hr := B.returns
  have hlk := B.notSynchronized
  obtain ⟨hx, hb, -, hown, hts⟩ := id F
  have hg : ∀ q ∈ lwg, q.before _ s = true := fun q h => hts q (List.mem_cons_of_mem _ h)
  refine g_entry (Nat.le_of_ble_eq_true rfl) (fun ls hl => ?_)
  have hl : lv_has ls 14 [(0, .ref (gad G 130)), (1, .ref (gad G k1)), (2, .long x2)] := hl
  have S : St G w s s.heap [] := S
  generalize s.heap = H at S ⊢
  generalize ([] : List Loc) = locs at S ⊢
  rw [f_X9_timesBig] at hz
  refine lv_iconst (v := 0) hx hb dX9_timesBig_0 (by decide) ?_
  refine lv_istore (lv' := [(4, .int 0), (0, .ref (gad G 130)), (1, .ref (gad G k1)), (2, .long x2)]) hx hb dX9_timesBig_1 hl (by decide) rfl (fun ls hl => ?_)
  exact w_X9_timesBig_3 F hr hlk fu k1 x2 0 hk1 _ _ _ _ S (lv_sub hl [1, 2, 3, 0] rfl) hz
noncomputable def f_X9_compareBig_3  : Nat → Nat → Nat → Int32 → GW → Option (Int32 × GW)
  | 0, _, _, _, _ => none
  | n9 + 1, k0, k1, x2, w =>
    if x2 < 0 then
      some (0, w)
    else
      if inb x2 60 then
      if inb x2 60 then
      if (gI w k0 (ix x2)) = (gI w k1 (ix x2)) then
        f_X9_compareBig_3 n9 k0 k1 (x2 + (-1)) w
      else
        if inb x2 60 then
        if inb x2 60 then
        if (gI w k1 (ix x2)) ≤ (gI w k0 (ix x2)) then
          some (1, w)
        else
          some ((-1), w)
        else none
        else none
      else none
      else none
noncomputable def f_X9_compareBig (k0 : Nat) (k1 : Nat) (w : GW) : Option (Int32 × GW) :=
  f_X9_compareBig_3 fu k0 k1 59 w
set_option maxHeartbeats 4000000 in
set_option maxRecDepth 100000 in
theorem w_X9_compareBig_3 {p : Program} {l : Launch} {e : Env} {s : State} {m : MethodId} {args : Array Value} {below : List Frame} {meth : Method} {c : Code} {G : GG} (F : CallFix p m c cX9_compareBig 3 s args (wsU yX9_compareBig cX9_compareBig 3 (some .int)) RX9) (hr : meth.sig.returnType = (some .int)) (hlk : meth.locks = false) {z : Int32 × GW} : ∀ (n9 : Nat), (∀ (k0 : Nat) (k1 : Nat) (x2 : Int32) (hk0 : kd k0 = 20) (hk1 : kd k1 = 20) (w : GW) (H : Heap) (locs : List Loc) (ls : Array Slot), St G w s H locs → lv_has ls 3 [(0, .ref (gad G k0)), (1, .ref (gad G k1)), (2, .int x2)] → f_X9_compareBig_3 n9 k0 k1 x2 w = some z → W p l e (headSpec (wsU yX9_compareBig cX9_compareBig 3 (some .int)) rm_X9_compareBig).room s m args below meth c H locs 0 0 (MQ below (QI G z) args s 0 0 (gA G)) (F0 m 3 ls [])) := by
  obtain ⟨hx, hb, hml, hown, hts⟩ := id F
  have hg : ∀ q ∈ lwg, q.before args s = true := fun q h => hts q (List.mem_cons_of_mem _ h)
  intro n9
  induction n9 with
  | zero =>
    intro k0 k1 x2 hk0 hk1 w H locs ls S hl hz
    rw [f_X9_compareBig_3] at hz
    cases hz
  | succ n9 ih =>
    intro k0 k1 x2 hk0 hk1 w H locs ls S hl hz
    rw [f_X9_compareBig_3] at hz
    refine lv_iload_n hx hb dX9_compareBig_3 rfl (lv_at hl 2 rfl) ?_
    refine lv_if_lt (tgt := 37) hx hb dX9_compareBig_4 (by decide) (fun c1 => ?_) (fun c1 => ?_)
    · have hz := ipt (c1) hz
      refine lv_iconst (v := 0) hx hb dX9_compareBig_37 (by decide) ?_
      exact g_reti hx hb hr hlk S hz dX9_compareBig_38
    · have hz := ipf (c1) hz
      refine lv_aload_n hx hb dX9_compareBig_7 rfl (lv_at hl 0 rfl) ?_
      refine lv_iload_n hx hb dX9_compareBig_8 rfl (lv_at hl 2 rfl) ?_
      obtain ⟨h2, hz⟩ := ck hz
      refine g_iald hx hb S (isA_20 hk0) h2 dX9_compareBig_9 ?_
      refine lv_aload_n hx hb dX9_compareBig_10 rfl (lv_at hl 1 rfl) ?_
      refine lv_iload_n hx hb dX9_compareBig_11 rfl (lv_at hl 2 rfl) ?_
      obtain ⟨h3, hz⟩ := ck hz
      refine g_iald hx hb S (isA_20 hk1) h3 dX9_compareBig_12 ?_
      refine lv_icmp_eq (tgt := 31) hx hb dX9_compareBig_13 (by decide) (fun c4 => ?_) (fun c4 => ?_)
      · have hz := ipt (c4) hz
        refine lv_iinc (v := (x2 + (-1))) (lv' := [(2, .int (x2 + (-1))), (0, .ref (gad G k0)), (1, .ref (gad G k1))]) hx hb dX9_compareBig_31 hl (k := 2) rfl (by rw [show Int32.ofInt (-1) = (-1) from by decide]) (by decide) rfl (fun ls hl => ?_)
        refine lv_goto (tgt := 3) hx hb dX9_compareBig_34 (by decide) ?_
        exact ih k0 k1 (x2 + (-1)) hk0 hk1 _ _ _ _ S (lv_sub hl [1, 2, 0] rfl) hz
      · have hz := ipf (c4) hz
        refine lv_aload_n hx hb dX9_compareBig_16 rfl (lv_at hl 0 rfl) ?_
        refine lv_iload_n hx hb dX9_compareBig_17 rfl (lv_at hl 2 rfl) ?_
        obtain ⟨h5, hz⟩ := ck hz
        refine g_iald hx hb S (isA_20 hk0) h5 dX9_compareBig_18 ?_
        refine lv_aload_n hx hb dX9_compareBig_19 rfl (lv_at hl 1 rfl) ?_
        refine lv_iload_n hx hb dX9_compareBig_20 rfl (lv_at hl 2 rfl) ?_
        obtain ⟨h6, hz⟩ := ck hz
        refine g_iald hx hb S (isA_20 hk1) h6 dX9_compareBig_21 ?_
        refine lv_icmp_ge (tgt := 29) hx hb dX9_compareBig_22 (by decide) (fun c7 => ?_) (fun c7 => ?_)
        · have hz := ipt (c7) hz
          refine lv_iconst (v := 1) hx hb dX9_compareBig_29 (by decide) ?_
          exact g_reti hx hb hr hlk S hz dX9_compareBig_30
        · have hz := ipf (c7) hz
          refine lv_iconst (v := (-1)) hx hb dX9_compareBig_25 (by decide) ?_
          refine lv_goto (tgt := 30) hx hb dX9_compareBig_26 (by decide) ?_
          exact g_reti hx hb hr hlk S hz dX9_compareBig_30
set_option maxHeartbeats 4000000 in
set_option maxRecDepth 100000 in
theorem c_X9_compareBig (l : Launch) (G : GG) (k0 : Nat) (k1 : Nat) (hk0 : kd k0 = 20) (hk1 : kd k1 = 20) (w : GW) {z : Int32 × GW} (hz : f_X9_compareBig k0 k1 w = some z) : Met l yX9_compareBig (wsU yX9_compareBig cX9_compareBig 3 (some .int)) rm_X9_compareBig (va_Pc [.ref (gad G k0), .ref (gad G k1)] (PreG G w)) (QI G z) 0 0 (gA G) := by
  refine Met.ofW (cc := cX9_compareBig) (maxL := 3) (ret := (some .int)) (by decide) rfl ?_
  intro p e s m args below meth c s₁ B hml hv
  obtain ⟨rfl, S⟩ := hv
  have F : CallFix p m c cX9_compareBig 3 s _ (wsU yX9_compareBig cX9_compareBig 3 (some .int)) RX9 := ⟨B.exec, B.bytes, hml, findClass_of_methodNamed B.named, atoms_spec B.pre⟩
  have hr := B.returns
  have hlk := B.notSynchronized
  obtain ⟨hx, hb, -, hown, hts⟩ := id F
  have hg : ∀ q ∈ lwg, q.before _ s = true := fun q h => hts q (List.mem_cons_of_mem _ h)
  refine g_entry (Nat.le_of_ble_eq_true rfl) (fun ls hl => ?_)
  have hl : lv_has ls 3 [(0, .ref (gad G k0)), (1, .ref (gad G k1))] := hl
  have S : St G w s s.heap [] := S
  generalize s.heap = H at S ⊢
  generalize ([] : List Loc) = locs at S ⊢
  rw [f_X9_compareBig] at hz
  refine lv_bipush (v := 59) hx hb dX9_compareBig_0 (by decide) ?_
  refine lv_istore_n (lv' := [(2, .int 59), (0, .ref (gad G k0)), (1, .ref (gad G k1))]) hx hb dX9_compareBig_2 rfl hl (by decide) rfl (fun ls hl => ?_)
  exact w_X9_compareBig_3 F hr hlk fu k0 k1 59 hk0 hk1 _ _ _ _ S (lv_sub hl [1, 2, 0] rfl) hz
noncomputable def f_X9_compare_20   (w : GW) : Option (Int32 × GW) :=
  (f_X9_no 1 w).bind fun q7 =>
  some (q7.1, q7.2)
noncomputable def f_X9_compare (x1 : Int32) (x2 : Int32) (x3 : Int32) (x4 : Int32) (w : GW) : Option (Int32 × GW) :=
  (f_X9_good w).bind fun q1 =>
  (f_X9_isPorter x1 q1.2).bind fun q3 =>
  if q3.1 = 0 then
    f_X9_compare_20 q3.2
  else
    (f_X9_isPorter x2 q3.2).bind fun q9 =>
    if q9.1 = 0 then
      f_X9_compare_20 q9.2
    else
      (f_X9_within x4 0 9 q9.2).bind fun q13 =>
      (f_X9_chanceWhy x1 x3 q13.1 q13.2).bind fun q16 =>
      if q16.1 = 0 then
        (f_X9_waysOfFullest x4 q16.2).bind fun q19 =>
        (f_X9_laysBy x2 x3 q19.2).bind fun q21 =>
        if q21.1 = 0 then
          (f_X9_no 3 q21.2).bind fun q41 =>
          some (q41.1, q41.2)
        else
          (f_X9_setBig 144 q21.2).bind fun q25 =>
          (f_X9_timesBig 144 q19.1 q25.2).bind fun q27 =>
          (f_X9_timesBig 144 (gL q27.2 130 30) q27.2).bind fun q29 =>
          (f_X9_setBig 145 q29.2).bind fun q31 =>
          (f_X9_waysOfFullest x4 q31.2).bind fun q33 =>
          (f_X9_timesBig 145 q33.1 q33.2).bind fun q35 =>
          (f_X9_timesBig 145 (gL q19.2 130 30) q35.2).bind fun q37 =>
          (f_X9_compareBig 144 145 q37.2).bind fun q39 =>
          some ((2 * q39.1), q39.2)
      else
        (f_X9_no q16.1 q16.2).bind fun q43 =>
        some (q43.1, q43.2)
set_option maxHeartbeats 4000000 in
set_option maxRecDepth 100000 in
theorem w_X9_compare_20 {p : Program} {l : Launch} {e : Env} {s : State} {m : MethodId} {args : Array Value} {below : List Frame} {meth : Method} {c : Code} {G : GG} (F : CallFix p m c cX9_compare 10 s args (wsU yX9_compare cX9_compare 10 (some .int)) RX9) (hr : meth.sig.returnType = (some .int)) (hlk : meth.locks = false) {z : Int32 × GW} : (∀ (w : GW) (H : Heap) (locs : List Loc) (ls : Array Slot), St G w s H locs → lv_has ls 10 [(0, .ref (gad G 130))] → f_X9_compare_20  w = some z → W p l e (headSpec (wsU yX9_compare cX9_compare 10 (some .int)) rm_X9_compare).room s m args below meth c H locs 0 0 (MQ below (QI G z) args s 0 0 (gA G)) (F0 m 20 ls [])) := by
  obtain ⟨hx, hb, hml, hown, hts⟩ := id F
  have hg : ∀ q ∈ lwg, q.before args s = true := fun q h => hts q (List.mem_cons_of_mem _ h)
  intro w H locs ls S hl hz
  rw [f_X9_compare_20] at hz
  refine lv_aload_n hx hb dX9_compare_20 rfl (lv_at hl 0 rfl) ?_
  refine lv_iconst (v := 1) hx hb dX9_compare_21 (by decide) ?_
  obtain ⟨q7, e8, hz⟩ := bd hz
  refine g_callVi (As := [.int 1]) (rest := []) F S (c_X9_no l G 1  _ e8) (cw_X9_compare_X9_no_153 hg) (S.obj (by decide) (by decide) rfl (oc_X9 _ _ _ (by decide))) rfl hl.1 rfl (Nat.le_of_ble_eq_true rfl) ⟨Nat.zero_le _, Nat.zero_le _⟩ dX9_compare_22 (fun H locs  S => ?_)
  exact g_reti hx hb hr hlk S hz dX9_compare_25
set_option maxHeartbeats 4000000 in
set_option maxRecDepth 100000 in
theorem c_X9_compare (l : Launch) (G : GG) (x1 : Int32) (x2 : Int32) (x3 : Int32) (x4 : Int32)  (w : GW) {z : Int32 × GW} (hz : f_X9_compare x1 x2 x3 x4 w = some z) : Met l yX9_compare (wsU yX9_compare cX9_compare 10 (some .int)) rm_X9_compare (va_Pc [.ref (gad G 130), .int x1, .int x2, .int x3, .int x4] (PreG G w)) (QI G z) 0 0 (gA G) := by
  refine Met.ofW (cc := cX9_compare) (maxL := 10) (ret := (some .int)) (by decide) rfl ?_
  intro p e s m args below meth c s₁ B hml hv
  obtain ⟨rfl, S⟩ := hv
  have F : CallFix p m c cX9_compare 10 s _ (wsU yX9_compare cX9_compare 10 (some .int)) RX9 := ⟨B.exec, B.bytes, hml, findClass_of_methodNamed B.named, atoms_spec B.pre⟩
  have hr := B.returns
  have hlk := B.notSynchronized
  obtain ⟨hx, hb, -, hown, hts⟩ := id F
  have hg : ∀ q ∈ lwg, q.before _ s = true := fun q h => hts q (List.mem_cons_of_mem _ h)
  refine g_entry (Nat.le_of_ble_eq_true rfl) (fun ls hl => ?_)
  have hl : lv_has ls 10 [(0, .ref (gad G 130)), (1, .int x1), (2, .int x2), (3, .int x3), (4, .int x4)] := hl
  have S : St G w s s.heap [] := S
  generalize s.heap = H at S ⊢
  generalize ([] : List Loc) = locs at S ⊢
  rw [f_X9_compare] at hz
  refine lv_aload_n hx hb dX9_compare_0 rfl (lv_at hl 0 rfl) ?_
  obtain ⟨q1, e2, hz⟩ := bd hz
  refine g_callVv (As := []) (rest := []) F S (c_X9_good l G   _ e2) (cw_X9_compare_X9_good_150 hg) (S.obj (by decide) (by decide) rfl (oc_X9 _ _ _ (by decide))) rfl hl.1 rfl (Nat.le_of_ble_eq_true rfl) ⟨Nat.zero_le _, Nat.zero_le _⟩ dX9_compare_1 (fun H locs  S => ?_)
  refine lv_aload_n hx hb dX9_compare_4 rfl (lv_at hl 0 rfl) ?_
  refine lv_iload_n hx hb dX9_compare_5 rfl (lv_at hl 1 rfl) ?_
  obtain ⟨q3, e4, hz⟩ := bd hz
  refine g_callVb (As := [.int x1]) (rest := []) F S (c_X9_isPorter l G x1  _ e4) (cw_X9_compare_X9_isPorter_320 hg) (S.obj (by decide) (by decide) rfl (oc_X9 _ _ _ (by decide))) rfl hl.1 rfl (Nat.le_of_ble_eq_true rfl) ⟨Nat.zero_le _, Nat.zero_le _⟩ dX9_compare_6 (fun H locs hB5 S => ?_)
  refine lv_if_eq (tgt := 20) hx hb dX9_compare_9 (by decide) (fun c6 => ?_) (fun c6 => ?_)
  · have hz := ipt (c6) hz
    exact w_X9_compare_20 F hr hlk _ _ _ _ S (lv_sub hl [0] rfl) hz
  · have hz := ipf (c6) hz
    refine lv_aload_n hx hb dX9_compare_12 rfl (lv_at hl 0 rfl) ?_
    refine lv_iload_n hx hb dX9_compare_13 rfl (lv_at hl 2 rfl) ?_
    obtain ⟨q9, e10, hz⟩ := bd hz
    refine g_callVb (As := [.int x2]) (rest := []) F S (c_X9_isPorter l G x2  _ e10) (cw_X9_compare_X9_isPorter_320 hg) (S.obj (by decide) (by decide) rfl (oc_X9 _ _ _ (by decide))) rfl hl.1 rfl (Nat.le_of_ble_eq_true rfl) ⟨Nat.zero_le _, Nat.zero_le _⟩ dX9_compare_14 (fun H locs hB11 S => ?_)
    refine lv_if_ne (tgt := 26) hx hb dX9_compare_17 (by decide) (fun c12 => ?_) (fun c12 => ?_)
    · have hz := ipf (c12) hz
      refine lv_aload_n hx hb dX9_compare_26 rfl (lv_at hl 0 rfl) ?_
      refine lv_iload_n hx hb dX9_compare_27 rfl (lv_at hl 1 rfl) ?_
      refine lv_iload_n hx hb dX9_compare_28 rfl (lv_at hl 3 rfl) ?_
      refine lv_iload hx hb dX9_compare_29 (lv_at hl 4 rfl) ?_
      refine lv_iconst (v := 0) hx hb dX9_compare_31 (by decide) ?_
      refine lv_bipush (v := 9) hx hb dX9_compare_32 (by decide) ?_
      obtain ⟨q13, e14, hz⟩ := bd hz
      refine g_callSb (As := [.int x4, .int 0, .int 9]) (rest := [.int x3, .int x1, .ref (gad G 130)]) F S (c_X9_within l G x4 0 9  _ e14) (cw_X9_compare_X9_within_138 hg) rfl hl.1 rfl (Nat.le_of_ble_eq_true rfl) ⟨Nat.zero_le _, Nat.zero_le _⟩ dX9_compare_34 (fun H locs hB15 S => ?_)
      obtain ⟨q16, e17, hz⟩ := bd hz
      refine g_callVi (As := [.int x1, .int x3, .int q13.1]) (rest := []) F S (c_X9_chanceWhy l G x1 x3 q13.1  _ e17) (cw_X9_compare_X9_chanceWhy_327 hg) (S.obj (by decide) (by decide) rfl (oc_X9 _ _ _ (by decide))) rfl hl.1 rfl (Nat.le_of_ble_eq_true rfl) ⟨Nat.zero_le _, Nat.zero_le _⟩ dX9_compare_37 (fun H locs  S => ?_)
      refine lv_istore (lv' := [(5, .int q16.1), (0, .ref (gad G 130)), (1, .int x1), (2, .int x2), (3, .int x3), (4, .int x4)]) hx hb dX9_compare_40 hl (by decide) rfl (fun ls hl => ?_)
      refine lv_iload hx hb dX9_compare_42 (lv_at hl 0 rfl) ?_
      refine lv_if_eq (tgt := 54) hx hb dX9_compare_44 (by decide) (fun c18 => ?_) (fun c18 => ?_)
      · have hz := ipt (c18) hz
        refine lv_aload_n hx hb dX9_compare_54 rfl (lv_at hl 1 rfl) ?_
        refine lv_iload hx hb dX9_compare_55 (lv_at hl 5 rfl) ?_
        obtain ⟨q19, e20, hz⟩ := bd hz
        refine g_callVl (As := [.int x4]) (rest := []) F S (c_X9_waysOfFullest l G x4  _ e20) (cw_X9_compare_X9_waysOfFullest_331 hg) (S.obj (by decide) (by decide) rfl (oc_X9 _ _ _ (by decide))) rfl hl.1 rfl (Nat.le_of_ble_eq_true rfl) ⟨Nat.zero_le _, Nat.zero_le _⟩ dX9_compare_57 (fun H locs  S => ?_)
        refine lv_lstore (lv' := [(6, .long q19.1), (5, .int q16.1), (0, .ref (gad G 130)), (1, .int x1), (2, .int x2), (3, .int x3), (4, .int x4)]) hx hb dX9_compare_60 hl (by decide) rfl (fun ls hl => ?_)
        refine lv_aload_n hx hb dX9_compare_62 rfl (lv_at hl 2 rfl) ?_
        refine fg_X9_30 hx hb (fun q h => hg q (tl_X9 q h)) hown (hg _ t_fl_X9_255) S (by decide) dX9_compare_63 ?_
        refine lv_lstore (lv' := [(8, .long (gL q19.2 130 30)), (6, .long q19.1), (5, .int q16.1), (0, .ref (gad G 130)), (1, .int x1), (2, .int x2), (3, .int x3), (4, .int x4)]) hx hb dX9_compare_66 hl (by decide) rfl (fun ls hl => ?_)
        refine lv_aload_n hx hb dX9_compare_68 rfl (lv_at hl 3 rfl) ?_
        refine lv_iload_n hx hb dX9_compare_69 rfl (lv_at hl 5 rfl) ?_
        refine lv_iload_n hx hb dX9_compare_70 rfl (lv_at hl 6 rfl) ?_
        obtain ⟨q21, e22, hz⟩ := bd hz
        refine g_callVb (As := [.int x2, .int x3]) (rest := []) F S (c_X9_laysBy l G x2 x3  _ e22) (cw_X9_compare_X9_laysBy_323 hg) (S.obj (by decide) (by decide) rfl (oc_X9 _ _ _ (by decide))) rfl hl.1 rfl (Nat.le_of_ble_eq_true rfl) ⟨Nat.zero_le _, Nat.zero_le _⟩ dX9_compare_71 (fun H locs hB23 S => ?_)
        refine lv_if_ne (tgt := 83) hx hb dX9_compare_74 (by decide) (fun c24 => ?_) (fun c24 => ?_)
        · have hz := ipf (c24) hz
          refine lv_aload_n hx hb dX9_compare_83 rfl (lv_at hl 3 rfl) ?_
          refine fg_X9_31 hx hb (fun q h => hg q (tl_X9 q h)) hown (hg _ t_fl_X9_54) S (by decide) dX9_compare_84 ?_
          obtain ⟨q25, e26, hz⟩ := bd hz
          refine g_callSv (As := [.ref (gad G 144)]) (rest := []) F S (c_X9_setBig l G 144 (by decide) _ e26) (cw_X9_compare_X9_setBig_352 hg) rfl hl.1 rfl (Nat.le_of_ble_eq_true rfl) ⟨Nat.zero_le _, Nat.zero_le _⟩ dX9_compare_87 (fun H locs  S => ?_)
          refine lv_aload_n hx hb dX9_compare_90 rfl (lv_at hl 3 rfl) ?_
          refine lv_aload_n hx hb dX9_compare_91 rfl (lv_at hl 3 rfl) ?_
          refine fg_X9_31 hx hb (fun q h => hg q (tl_X9 q h)) hown (hg _ t_fl_X9_54) S (by decide) dX9_compare_92 ?_
          refine lv_lload hx hb dX9_compare_95 (lv_at hl 1 rfl) ?_
          obtain ⟨q27, e28, hz⟩ := bd hz
          refine g_callVv (As := [.ref (gad G 144), .long q19.1]) (rest := []) F S (c_X9_timesBig l G 144 q19.1 (by decide) _ e28) (cw_X9_compare_X9_timesBig_356 hg) (S.obj (by decide) (by decide) rfl (oc_X9 _ _ _ (by decide))) rfl hl.1 rfl (Nat.le_of_ble_eq_true rfl) ⟨Nat.zero_le _, Nat.zero_le _⟩ dX9_compare_97 (fun H locs  S => ?_)
          refine lv_aload_n hx hb dX9_compare_100 rfl (lv_at hl 3 rfl) ?_
          refine lv_aload_n hx hb dX9_compare_101 rfl (lv_at hl 3 rfl) ?_
          refine fg_X9_31 hx hb (fun q h => hg q (tl_X9 q h)) hown (hg _ t_fl_X9_54) S (by decide) dX9_compare_102 ?_
          refine lv_aload_n hx hb dX9_compare_105 rfl (lv_at hl 3 rfl) ?_
          refine fg_X9_30 hx hb (fun q h => hg q (tl_X9 q h)) hown (hg _ t_fl_X9_255) S (by decide) dX9_compare_106 ?_
          obtain ⟨q29, e30, hz⟩ := bd hz
          refine g_callVv (As := [.ref (gad G 144), .long (gL q27.2 130 30)]) (rest := []) F S (c_X9_timesBig l G 144 (gL q27.2 130 30) (by decide) _ e30) (cw_X9_compare_X9_timesBig_356 hg) (S.obj (by decide) (by decide) rfl (oc_X9 _ _ _ (by decide))) rfl hl.1 rfl (Nat.le_of_ble_eq_true rfl) ⟨Nat.zero_le _, Nat.zero_le _⟩ dX9_compare_109 (fun H locs  S => ?_)
          refine lv_aload_n hx hb dX9_compare_112 rfl (lv_at hl 3 rfl) ?_
          refine fg_X9_32 hx hb (fun q h => hg q (tl_X9 q h)) hown (hg _ t_fl_X9_57) S (by decide) dX9_compare_113 ?_
          obtain ⟨q31, e32, hz⟩ := bd hz
          refine g_callSv (As := [.ref (gad G 145)]) (rest := []) F S (c_X9_setBig l G 145 (by decide) _ e32) (cw_X9_compare_X9_setBig_352 hg) rfl hl.1 rfl (Nat.le_of_ble_eq_true rfl) ⟨Nat.zero_le _, Nat.zero_le _⟩ dX9_compare_116 (fun H locs  S => ?_)
          refine lv_aload_n hx hb dX9_compare_119 rfl (lv_at hl 3 rfl) ?_
          refine lv_aload_n hx hb dX9_compare_120 rfl (lv_at hl 3 rfl) ?_
          refine fg_X9_32 hx hb (fun q h => hg q (tl_X9 q h)) hown (hg _ t_fl_X9_57) S (by decide) dX9_compare_121 ?_
          refine lv_aload_n hx hb dX9_compare_124 rfl (lv_at hl 3 rfl) ?_
          refine lv_iload hx hb dX9_compare_125 (lv_at hl 7 rfl) ?_
          obtain ⟨q33, e34, hz⟩ := bd hz
          refine g_callVl (As := [.int x4]) (rest := [.ref (gad G 145), .ref (gad G 130)]) F S (c_X9_waysOfFullest l G x4  _ e34) (cw_X9_compare_X9_waysOfFullest_331 hg) (S.obj (by decide) (by decide) rfl (oc_X9 _ _ _ (by decide))) rfl hl.1 rfl (Nat.le_of_ble_eq_true rfl) ⟨Nat.zero_le _, Nat.zero_le _⟩ dX9_compare_127 (fun H locs  S => ?_)
          obtain ⟨q35, e36, hz⟩ := bd hz
          refine g_callVv (As := [.ref (gad G 145), .long q33.1]) (rest := []) F S (c_X9_timesBig l G 145 q33.1 (by decide) _ e36) (cw_X9_compare_X9_timesBig_356 hg) (S.obj (by decide) (by decide) rfl (oc_X9 _ _ _ (by decide))) rfl hl.1 rfl (Nat.le_of_ble_eq_true rfl) ⟨Nat.zero_le _, Nat.zero_le _⟩ dX9_compare_130 (fun H locs  S => ?_)
          refine lv_aload_n hx hb dX9_compare_133 rfl (lv_at hl 3 rfl) ?_
          refine lv_aload_n hx hb dX9_compare_134 rfl (lv_at hl 3 rfl) ?_
          refine fg_X9_32 hx hb (fun q h => hg q (tl_X9 q h)) hown (hg _ t_fl_X9_57) S (by decide) dX9_compare_135 ?_
          refine lv_lload hx hb dX9_compare_138 (lv_at hl 0 rfl) ?_
          obtain ⟨q37, e38, hz⟩ := bd hz
          refine g_callVv (As := [.ref (gad G 145), .long (gL q19.2 130 30)]) (rest := []) F S (c_X9_timesBig l G 145 (gL q19.2 130 30) (by decide) _ e38) (cw_X9_compare_X9_timesBig_356 hg) (S.obj (by decide) (by decide) rfl (oc_X9 _ _ _ (by decide))) rfl hl.1 rfl (Nat.le_of_ble_eq_true rfl) ⟨Nat.zero_le _, Nat.zero_le _⟩ dX9_compare_140 (fun H locs  S => ?_)
          refine lv_iconst (v := 2) hx hb dX9_compare_143 (by decide) ?_
          refine lv_aload_n hx hb dX9_compare_144 rfl (lv_at hl 3 rfl) ?_
          refine fg_X9_31 hx hb (fun q h => hg q (tl_X9 q h)) hown (hg _ t_fl_X9_54) S (by decide) dX9_compare_145 ?_
          refine lv_aload_n hx hb dX9_compare_148 rfl (lv_at hl 3 rfl) ?_
          refine fg_X9_32 hx hb (fun q h => hg q (tl_X9 q h)) hown (hg _ t_fl_X9_57) S (by decide) dX9_compare_149 ?_
          obtain ⟨q39, e40, hz⟩ := bd hz
          refine g_callSi (As := [.ref (gad G 144), .ref (gad G 145)]) (rest := [.int 2]) F S (c_X9_compareBig l G 144 145 (by decide) (by decide) _ e40) (cw_X9_compare_X9_compareBig_360 hg) rfl hl.1 rfl (Nat.le_of_ble_eq_true rfl) ⟨Nat.zero_le _, Nat.zero_le _⟩ dX9_compare_152 (fun H locs  S => ?_)
          refine lv_imul hx hb dX9_compare_155 ?_
          exact g_reti hx hb hr hlk S hz dX9_compare_156
        · have hz := ipt (c24) hz
          refine lv_aload_n hx hb dX9_compare_77 rfl (lv_at hl 3 rfl) ?_
          refine lv_iconst (v := 3) hx hb dX9_compare_78 (by decide) ?_
          obtain ⟨q41, e42, hz⟩ := bd hz
          refine g_callVi (As := [.int 3]) (rest := []) F S (c_X9_no l G 3  _ e42) (cw_X9_compare_X9_no_153 hg) (S.obj (by decide) (by decide) rfl (oc_X9 _ _ _ (by decide))) rfl hl.1 rfl (Nat.le_of_ble_eq_true rfl) ⟨Nat.zero_le _, Nat.zero_le _⟩ dX9_compare_79 (fun H locs  S => ?_)
          exact g_reti hx hb hr hlk S hz dX9_compare_82
      · have hz := ipf (c18) hz
        refine lv_aload_n hx hb dX9_compare_47 rfl (lv_at hl 1 rfl) ?_
        refine lv_iload hx hb dX9_compare_48 (lv_at hl 0 rfl) ?_
        obtain ⟨q43, e44, hz⟩ := bd hz
        refine g_callVi (As := [.int q16.1]) (rest := []) F S (c_X9_no l G q16.1  _ e44) (cw_X9_compare_X9_no_153 hg) (S.obj (by decide) (by decide) rfl (oc_X9 _ _ _ (by decide))) rfl hl.1 rfl (Nat.le_of_ble_eq_true rfl) ⟨Nat.zero_le _, Nat.zero_le _⟩ dX9_compare_50 (fun H locs  S => ?_)
        exact g_reti hx hb hr hlk S hz dX9_compare_53
    · have hz := ipt (c12) hz
      exact w_X9_compare_20 F hr hlk _ _ _ _ S (lv_sub hl [0] rfl) hz
noncomputable def f_X9_boundWhy (x1 : Int32) (x2 : Int32) (w : GW) : Option (Int32 × GW) :=
  if (gI w 130 14) = 0 then
    some (1, w)
  else
    if inb 1 135 then
    (f_X9_within x1 0 (gI w 133 (ix 1)) w).bind fun q3 =>
    if q3.1 = 0 then
      some (2, q3.2)
    else
      (f_X9_within x2 1 9 q3.2).bind fun q7 =>
      if q7.1 = 0 then
        some (2, q7.2)
      else
        some (0, q7.2)
    else none
set_option maxHeartbeats 4000000 in
set_option maxRecDepth 100000 in
theorem c_X9_boundWhy (l : Launch) (G : GG) (x1 : Int32) (x2 : Int32)  (w : GW) {z : Int32 × GW} (hz : f_X9_boundWhy x1 x2 w = some z) : Met l yX9_boundWhy (wsU yX9_boundWhy cX9_boundWhy 3 (some .int)) rm_X9_boundWhy (va_Pc [.ref (gad G 130), .int x1, .int x2] (PreG G w)) (QI G z) 0 0 (gA G) := by
  refine Met.ofW (cc := cX9_boundWhy) (maxL := 3) (ret := (some .int)) (by decide) rfl ?_
  intro p e s m args below meth c s₁ B hml hv
  obtain ⟨rfl, S⟩ := hv
  have F : CallFix p m c cX9_boundWhy 3 s _ (wsU yX9_boundWhy cX9_boundWhy 3 (some .int)) RX9 := ⟨B.exec, B.bytes, hml, findClass_of_methodNamed B.named, atoms_spec B.pre⟩
  have hr := B.returns
  have hlk := B.notSynchronized
  obtain ⟨hx, hb, -, hown, hts⟩ := id F
  have hg : ∀ q ∈ lwg, q.before _ s = true := fun q h => hts q (List.mem_cons_of_mem _ h)
  refine g_entry (Nat.le_of_ble_eq_true rfl) (fun ls hl => ?_)
  have hl : lv_has ls 3 [(0, .ref (gad G 130)), (1, .int x1), (2, .int x2)] := hl
  have S : St G w s s.heap [] := S
  generalize s.heap = H at S ⊢
  generalize ([] : List Loc) = locs at S ⊢
  rw [f_X9_boundWhy] at hz
  refine lv_aload_n hx hb dX9_boundWhy_0 rfl (lv_at hl 0 rfl) ?_
  refine fg_X9_14 hx hb (fun q h => hg q (tl_X9 q h)) hown (hg _ t_fl_X9_159) S (by decide) dX9_boundWhy_1 ?_
  refine lv_if_ne (tgt := 11) hx hb dX9_boundWhy_4 (by decide) (fun c1 => ?_) (fun c1 => ?_)
  · have hz := ipf (c1) hz
    refine lv_iload_n hx hb dX9_boundWhy_11 rfl (lv_at hl 1 rfl) ?_
    refine lv_iconst (v := 0) hx hb dX9_boundWhy_12 (by decide) ?_
    refine lv_aload_n hx hb dX9_boundWhy_13 rfl (lv_at hl 0 rfl) ?_
    refine fg_X9_15 hx hb (fun q h => hg q (tl_X9 q h)) hown (hg _ t_fl_X9_20) S (by decide) dX9_boundWhy_14 ?_
    refine lv_iconst (v := 1) hx hb dX9_boundWhy_17 (by decide) ?_
    obtain ⟨h2, hz⟩ := ck hz
    refine g_iald hx hb S (isA_15 (by decide)) h2 dX9_boundWhy_18 ?_
    obtain ⟨q3, e4, hz⟩ := bd hz
    refine g_callSb (As := [.int x1, .int 0, .int (gI w 133 (ix 1))]) (rest := []) F S (c_X9_within l G x1 0 (gI w 133 (ix 1))  _ e4) (cw_X9_boundWhy_X9_within_138 hg) rfl hl.1 rfl (Nat.le_of_ble_eq_true rfl) ⟨Nat.zero_le _, Nat.zero_le _⟩ dX9_boundWhy_19 (fun H locs hB5 S => ?_)
    refine lv_if_eq (tgt := 39) hx hb dX9_boundWhy_22 (by decide) (fun c6 => ?_) (fun c6 => ?_)
    · have hz := ipt (c6) hz
      refine lv_iconst (v := 2) hx hb dX9_boundWhy_39 (by decide) ?_
      exact g_reti hx hb hr hlk S hz dX9_boundWhy_40
    · have hz := ipf (c6) hz
      refine lv_iload_n hx hb dX9_boundWhy_25 rfl (lv_at hl 2 rfl) ?_
      refine lv_iconst (v := 1) hx hb dX9_boundWhy_26 (by decide) ?_
      refine lv_bipush (v := 9) hx hb dX9_boundWhy_27 (by decide) ?_
      obtain ⟨q7, e8, hz⟩ := bd hz
      refine g_callSb (As := [.int x2, .int 1, .int 9]) (rest := []) F S (c_X9_within l G x2 1 9  _ e8) (cw_X9_boundWhy_X9_within_138 hg) rfl hl.1 rfl (Nat.le_of_ble_eq_true rfl) ⟨Nat.zero_le _, Nat.zero_le _⟩ dX9_boundWhy_29 (fun H locs hB9 S => ?_)
      refine lv_if_eq (tgt := 39) hx hb dX9_boundWhy_32 (by decide) (fun c10 => ?_) (fun c10 => ?_)
      · have hz := ipt (c10) hz
        refine lv_iconst (v := 2) hx hb dX9_boundWhy_39 (by decide) ?_
        exact g_reti hx hb hr hlk S hz dX9_boundWhy_40
      · have hz := ipf (c10) hz
        refine lv_iconst (v := 0) hx hb dX9_boundWhy_35 (by decide) ?_
        refine lv_goto (tgt := 40) hx hb dX9_boundWhy_36 (by decide) ?_
        exact g_reti hx hb hr hlk S hz dX9_boundWhy_40
  · have hz := ipt (c1) hz
    refine lv_iconst (v := 1) hx hb dX9_boundWhy_7 (by decide) ?_
    refine lv_goto (tgt := 40) hx hb dX9_boundWhy_8 (by decide) ?_
    exact g_reti hx hb hr hlk S hz dX9_boundWhy_40
noncomputable def f_X9_never_80 (k_24 : Int32 → Int32 → Int32 → GW → Option (Int32 × GW)) (k_46 : Int32 → Int32 → Int32 → Int32 → Int32 → GW → Option (Int32 × GW)) (x1 : Int32) (x2 : Int32) (x4 : Int32) (x6 : Int32) (t0 : Int32) (w : GW) : Option (Int32 × GW) :=
  k_46 x1 x2 x4 t0 (x6 + 1) w
noncomputable def f_X9_never_79 (k_24 : Int32 → Int32 → Int32 → GW → Option (Int32 × GW)) (k_46 : Int32 → Int32 → Int32 → Int32 → Int32 → GW → Option (Int32 × GW)) (x1 : Int32) (x2 : Int32) (x4 : Int32) (x6 : Int32) (w : GW) : Option (Int32 × GW) :=
  f_X9_never_80 k_24 k_46 x1 x2 x4 x6 0 w
noncomputable def f_X9_never_46 (k_24 : Int32 → Int32 → Int32 → GW → Option (Int32 × GW)) : Nat → Int32 → Int32 → Int32 → Int32 → Int32 → GW → Option (Int32 × GW)
  | 0, _, _, _, _, _, _ => none
  | n9 + 1, x1, x2, x4, x5, x6, w =>
    if (gI w 130 28) ≤ x6 then
      if x5 = 0 then
        k_24 x1 x2 (x4 + 1) w
      else
        some (x4, w)
    else
      if x5 = 0 then
        f_X9_never_79 k_24 (f_X9_never_46 k_24 n9) x1 x2 x4 x6 w
      else
        if inb x6 8000 then
        (f_X9_fullestOf (gI w 139 (ix x6)) w).bind fun q14 =>
        if x2 ≤ q14.1 then
          f_X9_never_79 k_24 (f_X9_never_46 k_24 n9) x1 x2 x4 x6 q14.2
        else
          f_X9_never_80 k_24 (f_X9_never_46 k_24 n9) x1 x2 x4 x6 1 q14.2
        else none
noncomputable def f_X9_never_24  : Nat → Int32 → Int32 → Int32 → GW → Option (Int32 × GW)
  | 0, _, _, _, _ => none
  | n9 + 1, x1, x2, x4, w =>
    if 3 < x4 then
      some ((-2), w)
    else
      (f_X9_lays 1 (-2) x4 x1 0 w).bind fun q7 =>
      f_X9_never_46 (f_X9_never_24 n9) fu x1 x2 x4 q7.1 0 q7.2
noncomputable def f_X9_never (x1 : Int32) (x2 : Int32) (w : GW) : Option (Int32 × GW) :=
  (f_X9_good w).bind fun q1 =>
  (f_X9_boundWhy x1 x2 q1.2).bind fun q3 =>
  if q3.1 = 0 then
    f_X9_never_24 fu x1 x2 1 q3.2
  else
    (f_X9_no q3.1 q3.2).bind fun q17 =>
    some (q17.1, q17.2)
set_option maxHeartbeats 4000000 in
set_option maxRecDepth 100000 in
theorem w_X9_never_80 {p : Program} {l : Launch} {e : Env} {s : State} {m : MethodId} {args : Array Value} {below : List Frame} {meth : Method} {c : Code} {G : GG} (F : CallFix p m c cX9_never 7 s args (wsU yX9_never cX9_never 7 (some .int)) RX9) (hr : meth.sig.returnType = (some .int)) (hlk : meth.locks = false) {z : Int32 × GW} {k_24 : Int32 → Int32 → Int32 → GW → Option (Int32 × GW)} (Hk_24 : (∀ (x1 : Int32) (x2 : Int32) (x4 : Int32) (w : GW) (H : Heap) (locs : List Loc) (ls : Array Slot), St G w s H locs → lv_has ls 7 [(0, .ref (gad G 130)), (1, .int x1), (2, .int x2), (4, .int x4)] → k_24 x1 x2 x4 w = some z → W p l e (headSpec (wsU yX9_never cX9_never 7 (some .int)) rm_X9_never).room s m args below meth c H locs 0 0 (MQ below (QI G z) args s 0 0 (gA G)) (F0 m 24 ls []))) {k_46 : Int32 → Int32 → Int32 → Int32 → Int32 → GW → Option (Int32 × GW)} (Hk_46 : (∀ (x1 : Int32) (x2 : Int32) (x4 : Int32) (x5 : Int32) (x6 : Int32) (w : GW) (H : Heap) (locs : List Loc) (ls : Array Slot), St G w s H locs → lv_has ls 7 [(0, .ref (gad G 130)), (1, .int x1), (2, .int x2), (4, .int x4), (5, .int x5), (6, .int x6)] → k_46 x1 x2 x4 x5 x6 w = some z → W p l e (headSpec (wsU yX9_never cX9_never 7 (some .int)) rm_X9_never).room s m args below meth c H locs 0 0 (MQ below (QI G z) args s 0 0 (gA G)) (F0 m 46 ls []))) : (∀ (x1 : Int32) (x2 : Int32) (x4 : Int32) (x6 : Int32) (t0 : Int32) (w : GW) (H : Heap) (locs : List Loc) (ls : Array Slot), St G w s H locs → lv_has ls 7 [(0, .ref (gad G 130)), (1, .int x1), (2, .int x2), (4, .int x4), (6, .int x6)] → f_X9_never_80 k_24 k_46 x1 x2 x4 x6 t0 w = some z → W p l e (headSpec (wsU yX9_never cX9_never 7 (some .int)) rm_X9_never).room s m args below meth c H locs 0 0 (MQ below (QI G z) args s 0 0 (gA G)) (F0 m 80 ls [.int t0])) := by
  obtain ⟨hx, hb, hml, hown, hts⟩ := id F
  have hg : ∀ q ∈ lwg, q.before args s = true := fun q h => hts q (List.mem_cons_of_mem _ h)
  intro x1 x2 x4 x6 t0 w H locs ls S hl hz
  rw [f_X9_never_80] at hz
  refine lv_istore (lv' := [(5, .int t0), (0, .ref (gad G 130)), (1, .int x1), (2, .int x2), (4, .int x4), (6, .int x6)]) hx hb dX9_never_80 hl (by decide) rfl (fun ls hl => ?_)
  refine lv_iinc (v := (x6 + 1)) (lv' := [(6, .int (x6 + 1)), (5, .int t0), (0, .ref (gad G 130)), (1, .int x1), (2, .int x2), (4, .int x4)]) hx hb dX9_never_82 hl (k := 5) rfl rfl (by decide) rfl (fun ls hl => ?_)
  refine lv_goto (tgt := 46) hx hb dX9_never_85 (by decide) ?_
  exact Hk_46 x1 x2 x4 t0 (x6 + 1)  _ _ _ _ S (lv_sub hl [2, 3, 4, 5, 1, 0] rfl) hz
set_option maxHeartbeats 4000000 in
set_option maxRecDepth 100000 in
theorem w_X9_never_79 {p : Program} {l : Launch} {e : Env} {s : State} {m : MethodId} {args : Array Value} {below : List Frame} {meth : Method} {c : Code} {G : GG} (F : CallFix p m c cX9_never 7 s args (wsU yX9_never cX9_never 7 (some .int)) RX9) (hr : meth.sig.returnType = (some .int)) (hlk : meth.locks = false) {z : Int32 × GW} {k_24 : Int32 → Int32 → Int32 → GW → Option (Int32 × GW)} (Hk_24 : (∀ (x1 : Int32) (x2 : Int32) (x4 : Int32) (w : GW) (H : Heap) (locs : List Loc) (ls : Array Slot), St G w s H locs → lv_has ls 7 [(0, .ref (gad G 130)), (1, .int x1), (2, .int x2), (4, .int x4)] → k_24 x1 x2 x4 w = some z → W p l e (headSpec (wsU yX9_never cX9_never 7 (some .int)) rm_X9_never).room s m args below meth c H locs 0 0 (MQ below (QI G z) args s 0 0 (gA G)) (F0 m 24 ls []))) {k_46 : Int32 → Int32 → Int32 → Int32 → Int32 → GW → Option (Int32 × GW)} (Hk_46 : (∀ (x1 : Int32) (x2 : Int32) (x4 : Int32) (x5 : Int32) (x6 : Int32) (w : GW) (H : Heap) (locs : List Loc) (ls : Array Slot), St G w s H locs → lv_has ls 7 [(0, .ref (gad G 130)), (1, .int x1), (2, .int x2), (4, .int x4), (5, .int x5), (6, .int x6)] → k_46 x1 x2 x4 x5 x6 w = some z → W p l e (headSpec (wsU yX9_never cX9_never 7 (some .int)) rm_X9_never).room s m args below meth c H locs 0 0 (MQ below (QI G z) args s 0 0 (gA G)) (F0 m 46 ls []))) : (∀ (x1 : Int32) (x2 : Int32) (x4 : Int32) (x6 : Int32) (w : GW) (H : Heap) (locs : List Loc) (ls : Array Slot), St G w s H locs → lv_has ls 7 [(0, .ref (gad G 130)), (1, .int x1), (2, .int x2), (4, .int x4), (6, .int x6)] → f_X9_never_79 k_24 k_46 x1 x2 x4 x6 w = some z → W p l e (headSpec (wsU yX9_never cX9_never 7 (some .int)) rm_X9_never).room s m args below meth c H locs 0 0 (MQ below (QI G z) args s 0 0 (gA G)) (F0 m 79 ls [])) := by
  obtain ⟨hx, hb, hml, hown, hts⟩ := id F
  have hg : ∀ q ∈ lwg, q.before args s = true := fun q h => hts q (List.mem_cons_of_mem _ h)
  intro x1 x2 x4 x6 w H locs ls S hl hz
  rw [f_X9_never_79] at hz
  refine lv_iconst (v := 0) hx hb dX9_never_79 (by decide) ?_
  exact w_X9_never_80 F hr hlk Hk_24 Hk_46 x1 x2 x4 x6 0 _ _ _ _ S (lv_sub hl [0, 1, 2, 3, 4] rfl) hz
set_option maxHeartbeats 4000000 in
set_option maxRecDepth 100000 in
theorem w_X9_never_46 {p : Program} {l : Launch} {e : Env} {s : State} {m : MethodId} {args : Array Value} {below : List Frame} {meth : Method} {c : Code} {G : GG} (F : CallFix p m c cX9_never 7 s args (wsU yX9_never cX9_never 7 (some .int)) RX9) (hr : meth.sig.returnType = (some .int)) (hlk : meth.locks = false) {z : Int32 × GW} {k_24 : Int32 → Int32 → Int32 → GW → Option (Int32 × GW)} (Hk_24 : (∀ (x1 : Int32) (x2 : Int32) (x4 : Int32) (w : GW) (H : Heap) (locs : List Loc) (ls : Array Slot), St G w s H locs → lv_has ls 7 [(0, .ref (gad G 130)), (1, .int x1), (2, .int x2), (4, .int x4)] → k_24 x1 x2 x4 w = some z → W p l e (headSpec (wsU yX9_never cX9_never 7 (some .int)) rm_X9_never).room s m args below meth c H locs 0 0 (MQ below (QI G z) args s 0 0 (gA G)) (F0 m 24 ls []))) : ∀ (n9 : Nat), (∀ (x1 : Int32) (x2 : Int32) (x4 : Int32) (x5 : Int32) (x6 : Int32) (w : GW) (H : Heap) (locs : List Loc) (ls : Array Slot), St G w s H locs → lv_has ls 7 [(0, .ref (gad G 130)), (1, .int x1), (2, .int x2), (4, .int x4), (5, .int x5), (6, .int x6)] → f_X9_never_46 k_24 n9 x1 x2 x4 x5 x6 w = some z → W p l e (headSpec (wsU yX9_never cX9_never 7 (some .int)) rm_X9_never).room s m args below meth c H locs 0 0 (MQ below (QI G z) args s 0 0 (gA G)) (F0 m 46 ls [])) := by
  obtain ⟨hx, hb, hml, hown, hts⟩ := id F
  have hg : ∀ q ∈ lwg, q.before args s = true := fun q h => hts q (List.mem_cons_of_mem _ h)
  intro n9
  induction n9 with
  | zero =>
    intro x1 x2 x4 x5 x6 w H locs ls S hl hz
    rw [f_X9_never_46] at hz
    cases hz
  | succ n9 ih =>
    intro x1 x2 x4 x5 x6 w H locs ls S hl hz
    rw [f_X9_never_46] at hz
    refine lv_iload hx hb dX9_never_46 (lv_at hl 5 rfl) ?_
    refine lv_aload_n hx hb dX9_never_48 rfl (lv_at hl 0 rfl) ?_
    refine fg_X9_28 hx hb (fun q h => hg q (tl_X9 q h)) hown (hg _ t_fl_X9_252) S (by decide) dX9_never_49 ?_
    refine lv_icmp_ge (tgt := 88) hx hb dX9_never_52 (by decide) (fun c10 => ?_) (fun c10 => ?_)
    · have hz := ipt (c10) hz
      refine lv_iload hx hb dX9_never_88 (lv_at hl 4 rfl) ?_
      refine lv_if_eq (tgt := 96) hx hb dX9_never_90 (by decide) (fun c11 => ?_) (fun c11 => ?_)
      · have hz := ipt (c11) hz
        refine lv_iinc (v := (x4 + 1)) (lv' := [(4, .int (x4 + 1)), (0, .ref (gad G 130)), (1, .int x1), (2, .int x2), (5, .int x5), (6, .int x6)]) hx hb dX9_never_96 hl (k := 3) rfl rfl (by decide) rfl (fun ls hl => ?_)
        refine lv_goto (tgt := 24) hx hb dX9_never_99 (by decide) ?_
        exact Hk_24 x1 x2 (x4 + 1)  _ _ _ _ S (lv_sub hl [1, 2, 3, 0] rfl) hz
      · have hz := ipf (c11) hz
        refine lv_iload hx hb dX9_never_93 (lv_at hl 3 rfl) ?_
        exact g_reti hx hb hr hlk S hz dX9_never_95
    · have hz := ipf (c10) hz
      refine lv_iload hx hb dX9_never_55 (lv_at hl 4 rfl) ?_
      refine lv_if_eq (tgt := 79) hx hb dX9_never_57 (by decide) (fun c12 => ?_) (fun c12 => ?_)
      · have hz := ipt (c12) hz
        exact w_X9_never_79 F hr hlk Hk_24 ih x1 x2 x4 x6 _ _ _ _ S (lv_sub hl [0, 1, 2, 3, 5] rfl) hz
      · have hz := ipf (c12) hz
        refine lv_aload_n hx hb dX9_never_60 rfl (lv_at hl 0 rfl) ?_
        refine lv_aload_n hx hb dX9_never_61 rfl (lv_at hl 0 rfl) ?_
        refine fg_X9_23 hx hb (fun q h => hg q (tl_X9 q h)) hown (hg _ t_fl_X9_38) S (by decide) dX9_never_62 ?_
        refine lv_iload hx hb dX9_never_65 (lv_at hl 5 rfl) ?_
        obtain ⟨h13, hz⟩ := ck hz
        refine g_iald hx hb S (isA_18 (by decide)) h13 dX9_never_67 ?_
        obtain ⟨q14, e15, hz⟩ := bd hz
        refine g_callVi (As := [.int (gI w 139 (ix x6))]) (rest := []) F S (c_X9_fullestOf l G (gI w 139 (ix x6))  _ e15) (cw_X9_never_X9_fullestOf_313 hg) (S.obj (by decide) (by decide) rfl (oc_X9 _ _ _ (by decide))) rfl hl.1 rfl (Nat.le_of_ble_eq_true rfl) ⟨Nat.zero_le _, Nat.zero_le _⟩ dX9_never_68 (fun H locs  S => ?_)
        refine lv_iload_n hx hb dX9_never_71 rfl (lv_at hl 2 rfl) ?_
        refine lv_icmp_ge (tgt := 79) hx hb dX9_never_72 (by decide) (fun c16 => ?_) (fun c16 => ?_)
        · have hz := ipt (c16) hz
          exact w_X9_never_79 F hr hlk Hk_24 ih x1 x2 x4 x6 _ _ _ _ S (lv_sub hl [0, 1, 2, 3, 5] rfl) hz
        · have hz := ipf (c16) hz
          refine lv_iconst (v := 1) hx hb dX9_never_75 (by decide) ?_
          refine lv_goto (tgt := 80) hx hb dX9_never_76 (by decide) ?_
          exact w_X9_never_80 F hr hlk Hk_24 ih x1 x2 x4 x6 1 _ _ _ _ S (lv_sub hl [0, 1, 2, 3, 5] rfl) hz
set_option maxHeartbeats 4000000 in
set_option maxRecDepth 100000 in
theorem w_X9_never_24 {p : Program} {l : Launch} {e : Env} {s : State} {m : MethodId} {args : Array Value} {below : List Frame} {meth : Method} {c : Code} {G : GG} (F : CallFix p m c cX9_never 7 s args (wsU yX9_never cX9_never 7 (some .int)) RX9) (hr : meth.sig.returnType = (some .int)) (hlk : meth.locks = false) {z : Int32 × GW} : ∀ (n9 : Nat), (∀ (x1 : Int32) (x2 : Int32) (x4 : Int32) (w : GW) (H : Heap) (locs : List Loc) (ls : Array Slot), St G w s H locs → lv_has ls 7 [(0, .ref (gad G 130)), (1, .int x1), (2, .int x2), (4, .int x4)] → f_X9_never_24 n9 x1 x2 x4 w = some z → W p l e (headSpec (wsU yX9_never cX9_never 7 (some .int)) rm_X9_never).room s m args below meth c H locs 0 0 (MQ below (QI G z) args s 0 0 (gA G)) (F0 m 24 ls [])) := by
  obtain ⟨hx, hb, hml, hown, hts⟩ := id F
  have hg : ∀ q ∈ lwg, q.before args s = true := fun q h => hts q (List.mem_cons_of_mem _ h)
  intro n9
  induction n9 with
  | zero =>
    intro x1 x2 x4 w H locs ls S hl hz
    rw [f_X9_never_24] at hz
    cases hz
  | succ n9 ih =>
    intro x1 x2 x4 w H locs ls S hl hz
    rw [f_X9_never_24] at hz
    refine lv_iload hx hb dX9_never_24 (lv_at hl 3 rfl) ?_
    refine lv_iconst (v := 3) hx hb dX9_never_26 (by decide) ?_
    refine lv_icmp_gt (tgt := 102) hx hb dX9_never_27 (by decide) (fun c6 => ?_) (fun c6 => ?_)
    · have hz := ipt (c6) hz
      refine lv_bipush (v := (-2)) hx hb dX9_never_102 (by decide) ?_
      exact g_reti hx hb hr hlk S hz dX9_never_104
    · have hz := ipf (c6) hz
      refine lv_aload_n hx hb dX9_never_30 rfl (lv_at hl 0 rfl) ?_
      refine lv_iconst (v := 1) hx hb dX9_never_31 (by decide) ?_
      refine lv_bipush (v := (-2)) hx hb dX9_never_32 (by decide) ?_
      refine lv_iload hx hb dX9_never_34 (lv_at hl 3 rfl) ?_
      refine lv_iload_n hx hb dX9_never_36 rfl (lv_at hl 1 rfl) ?_
      refine lv_iconst (v := 0) hx hb dX9_never_37 (by decide) ?_
      obtain ⟨q7, e8, hz⟩ := bd hz
      refine g_callVb (As := [.int 1, .int (-2), .int x4, .int x1, .int 0]) (rest := []) F S (c_X9_lays l G 1 (-2) x4 x1 0  _ e8) (cw_X9_never_X9_lays_309 hg) (S.obj (by decide) (by decide) rfl (oc_X9 _ _ _ (by decide))) rfl hl.1 rfl (Nat.le_of_ble_eq_true rfl) ⟨Nat.zero_le _, Nat.zero_le _⟩ dX9_never_38 (fun H locs hB9 S => ?_)
      refine lv_istore (lv' := [(5, .int q7.1), (0, .ref (gad G 130)), (1, .int x1), (2, .int x2), (4, .int x4)]) hx hb dX9_never_41 hl (by decide) rfl (fun ls hl => ?_)
      refine lv_iconst (v := 0) hx hb dX9_never_43 (by decide) ?_
      refine lv_istore (lv' := [(6, .int 0), (5, .int q7.1), (0, .ref (gad G 130)), (1, .int x1), (2, .int x2), (4, .int x4)]) hx hb dX9_never_44 hl (by decide) rfl (fun ls hl => ?_)
      exact w_X9_never_46 F hr hlk ih fu x1 x2 x4 q7.1 0 _ _ _ _ S (lv_sub hl [2, 3, 4, 5, 1, 0] rfl) hz
set_option maxHeartbeats 4000000 in
set_option maxRecDepth 100000 in
theorem c_X9_never (l : Launch) (G : GG) (x1 : Int32) (x2 : Int32)  (w : GW) {z : Int32 × GW} (hz : f_X9_never x1 x2 w = some z) : Met l yX9_never (wsU yX9_never cX9_never 7 (some .int)) rm_X9_never (va_Pc [.ref (gad G 130), .int x1, .int x2] (PreG G w)) (QI G z) 0 0 (gA G) := by
  refine Met.ofW (cc := cX9_never) (maxL := 7) (ret := (some .int)) (by decide) rfl ?_
  intro p e s m args below meth c s₁ B hml hv
  obtain ⟨rfl, S⟩ := hv
  have F : CallFix p m c cX9_never 7 s _ (wsU yX9_never cX9_never 7 (some .int)) RX9 := ⟨B.exec, B.bytes, hml, findClass_of_methodNamed B.named, atoms_spec B.pre⟩
  have hr := B.returns
  have hlk := B.notSynchronized
  obtain ⟨hx, hb, -, hown, hts⟩ := id F
  have hg : ∀ q ∈ lwg, q.before _ s = true := fun q h => hts q (List.mem_cons_of_mem _ h)
  refine g_entry (Nat.le_of_ble_eq_true rfl) (fun ls hl => ?_)
  have hl : lv_has ls 7 [(0, .ref (gad G 130)), (1, .int x1), (2, .int x2)] := hl
  have S : St G w s s.heap [] := S
  generalize s.heap = H at S ⊢
  generalize ([] : List Loc) = locs at S ⊢
  rw [f_X9_never] at hz
  refine lv_aload_n hx hb dX9_never_0 rfl (lv_at hl 0 rfl) ?_
  obtain ⟨q1, e2, hz⟩ := bd hz
  refine g_callVv (As := []) (rest := []) F S (c_X9_good l G   _ e2) (cw_X9_never_X9_good_150 hg) (S.obj (by decide) (by decide) rfl (oc_X9 _ _ _ (by decide))) rfl hl.1 rfl (Nat.le_of_ble_eq_true rfl) ⟨Nat.zero_le _, Nat.zero_le _⟩ dX9_never_1 (fun H locs  S => ?_)
  refine lv_aload_n hx hb dX9_never_4 rfl (lv_at hl 0 rfl) ?_
  refine lv_iload_n hx hb dX9_never_5 rfl (lv_at hl 1 rfl) ?_
  refine lv_iload_n hx hb dX9_never_6 rfl (lv_at hl 2 rfl) ?_
  obtain ⟨q3, e4, hz⟩ := bd hz
  refine g_callVi (As := [.int x1, .int x2]) (rest := []) F S (c_X9_boundWhy l G x1 x2  _ e4) (cw_X9_never_X9_boundWhy_364 hg) (S.obj (by decide) (by decide) rfl (oc_X9 _ _ _ (by decide))) rfl hl.1 rfl (Nat.le_of_ble_eq_true rfl) ⟨Nat.zero_le _, Nat.zero_le _⟩ dX9_never_7 (fun H locs  S => ?_)
  refine lv_istore_n (lv' := [(3, .int q3.1), (0, .ref (gad G 130)), (1, .int x1), (2, .int x2)]) hx hb dX9_never_10 rfl hl (by decide) rfl (fun ls hl => ?_)
  refine lv_iload_n hx hb dX9_never_11 rfl (lv_at hl 0 rfl) ?_
  refine lv_if_eq (tgt := 21) hx hb dX9_never_12 (by decide) (fun c5 => ?_) (fun c5 => ?_)
  · have hz := ipt (c5) hz
    refine lv_iconst (v := 1) hx hb dX9_never_21 (by decide) ?_
    refine lv_istore (lv' := [(4, .int 1), (3, .int q3.1), (0, .ref (gad G 130)), (1, .int x1), (2, .int x2)]) hx hb dX9_never_22 hl (by decide) rfl (fun ls hl => ?_)
    exact w_X9_never_24 F hr hlk fu x1 x2 1 _ _ _ _ S (lv_sub hl [2, 3, 4, 0] rfl) hz
  · have hz := ipf (c5) hz
    refine lv_aload_n hx hb dX9_never_15 rfl (lv_at hl 1 rfl) ?_
    refine lv_iload_n hx hb dX9_never_16 rfl (lv_at hl 0 rfl) ?_
    obtain ⟨q17, e18, hz⟩ := bd hz
    refine g_callVi (As := [.int q3.1]) (rest := []) F S (c_X9_no l G q3.1  _ e18) (cw_X9_never_X9_no_153 hg) (S.obj (by decide) (by decide) rfl (oc_X9 _ _ _ (by decide))) rfl hl.1 rfl (Nat.le_of_ble_eq_true rfl) ⟨Nat.zero_le _, Nat.zero_le _⟩ dX9_never_17 (fun H locs  S => ?_)
    exact g_reti hx hb hr hlk S hz dX9_never_20
noncomputable def f_X9_findBest_63 (k_6 : Int32 → Int32 → Int32 → Int32 → Int32 → GW → Option (Int32 × GW)) (x1 : Int32) (x2 : Int32) (x3 : Int32) (x4 : Int32) (x5 : Int32) (w : GW) : Option (Int32 × GW) :=
  k_6 x1 x2 x3 x4 (x5 + 1) w
noncomputable def f_X9_findBest_53 (k_6 : Int32 → Int32 → Int32 → Int32 → Int32 → GW → Option (Int32 × GW)) (x1 : Int32) (x2 : Int32) (x3 : Int32) (x5 : Int32) (x6 : Int64) (w : GW) : Option (Int32 × GW) :=
  f_X9_findBest_63 k_6 x1 x2 x3 x5 x5 (sL w 130 34 x6)
noncomputable def f_X9_findBest_6  : Nat → Int32 → Int32 → Int32 → Int32 → Int32 → GW → Option (Int32 × GW)
  | 0, _, _, _, _, _, _ => none
  | n9 + 1, x1, x2, x3, x4, x5, w =>
    if 8 < x5 then
      some (x4, w)
    else
      (f_X9_lays 2 x5 x1 x2 1 w).bind fun q2 =>
      if q2.1 = 0 then
        some ((-1), q2.2)
      else
        (f_X9_waysOfFullest x3 q2.2).bind fun q6 =>
        if x4 < 0 then
          f_X9_findBest_53 (f_X9_findBest_6 n9) x1 x2 x3 x5 q6.1 q6.2
        else
          if q6.1 < (gL q6.2 130 34) then
            f_X9_findBest_53 (f_X9_findBest_6 n9) x1 x2 x3 x5 q6.1 q6.2
          else
            f_X9_findBest_63 (f_X9_findBest_6 n9) x1 x2 x3 x4 x5 q6.2
noncomputable def f_X9_findBest (x1 : Int32) (x2 : Int32) (x3 : Int32) (w : GW) : Option (Int32 × GW) :=
  f_X9_findBest_6 fu x1 x2 x3 (-1) 0 w
set_option maxHeartbeats 4000000 in
set_option maxRecDepth 100000 in
theorem w_X9_findBest_63 {p : Program} {l : Launch} {e : Env} {s : State} {m : MethodId} {args : Array Value} {below : List Frame} {meth : Method} {c : Code} {G : GG} (F : CallFix p m c cX9_findBest 8 s args (wsU yX9_findBest cX9_findBest 8 (some .int)) RX9) (hr : meth.sig.returnType = (some .int)) (hlk : meth.locks = false) {z : Int32 × GW} {k_6 : Int32 → Int32 → Int32 → Int32 → Int32 → GW → Option (Int32 × GW)} (Hk_6 : (∀ (x1 : Int32) (x2 : Int32) (x3 : Int32) (x4 : Int32) (x5 : Int32) (w : GW) (H : Heap) (locs : List Loc) (ls : Array Slot), St G w s H locs → lv_has ls 8 [(0, .ref (gad G 130)), (1, .int x1), (2, .int x2), (3, .int x3), (4, .int x4), (5, .int x5)] → k_6 x1 x2 x3 x4 x5 w = some z → W p l e (headSpec (wsU yX9_findBest cX9_findBest 8 (some .int)) rm_X9_findBest).room s m args below meth c H locs 0 0 (MQ below (QI G z) args s 0 0 (gA G)) (F0 m 6 ls []))) : (∀ (x1 : Int32) (x2 : Int32) (x3 : Int32) (x4 : Int32) (x5 : Int32) (w : GW) (H : Heap) (locs : List Loc) (ls : Array Slot), St G w s H locs → lv_has ls 8 [(0, .ref (gad G 130)), (1, .int x1), (2, .int x2), (3, .int x3), (4, .int x4), (5, .int x5)] → f_X9_findBest_63 k_6 x1 x2 x3 x4 x5 w = some z → W p l e (headSpec (wsU yX9_findBest cX9_findBest 8 (some .int)) rm_X9_findBest).room s m args below meth c H locs 0 0 (MQ below (QI G z) args s 0 0 (gA G)) (F0 m 63 ls [])) := by
  obtain ⟨hx, hb, hml, hown, hts⟩ := id F
  have hg : ∀ q ∈ lwg, q.before args s = true := fun q h => hts q (List.mem_cons_of_mem _ h)
  intro x1 x2 x3 x4 x5 w H locs ls S hl hz
  rw [f_X9_findBest_63] at hz
  refine lv_iinc (v := (x5 + 1)) (lv' := [(5, .int (x5 + 1)), (0, .ref (gad G 130)), (1, .int x1), (2, .int x2), (3, .int x3), (4, .int x4)]) hx hb dX9_findBest_63 hl (k := 5) rfl rfl (by decide) rfl (fun ls hl => ?_)
  refine lv_goto (tgt := 6) hx hb dX9_findBest_66 (by decide) ?_
  exact Hk_6 x1 x2 x3 x4 (x5 + 1)  _ _ _ _ S (lv_sub hl [1, 2, 3, 4, 5, 0] rfl) hz
set_option maxHeartbeats 4000000 in
set_option maxRecDepth 100000 in
theorem w_X9_findBest_53 {p : Program} {l : Launch} {e : Env} {s : State} {m : MethodId} {args : Array Value} {below : List Frame} {meth : Method} {c : Code} {G : GG} (F : CallFix p m c cX9_findBest 8 s args (wsU yX9_findBest cX9_findBest 8 (some .int)) RX9) (hr : meth.sig.returnType = (some .int)) (hlk : meth.locks = false) {z : Int32 × GW} {k_6 : Int32 → Int32 → Int32 → Int32 → Int32 → GW → Option (Int32 × GW)} (Hk_6 : (∀ (x1 : Int32) (x2 : Int32) (x3 : Int32) (x4 : Int32) (x5 : Int32) (w : GW) (H : Heap) (locs : List Loc) (ls : Array Slot), St G w s H locs → lv_has ls 8 [(0, .ref (gad G 130)), (1, .int x1), (2, .int x2), (3, .int x3), (4, .int x4), (5, .int x5)] → k_6 x1 x2 x3 x4 x5 w = some z → W p l e (headSpec (wsU yX9_findBest cX9_findBest 8 (some .int)) rm_X9_findBest).room s m args below meth c H locs 0 0 (MQ below (QI G z) args s 0 0 (gA G)) (F0 m 6 ls []))) : (∀ (x1 : Int32) (x2 : Int32) (x3 : Int32) (x5 : Int32) (x6 : Int64) (w : GW) (H : Heap) (locs : List Loc) (ls : Array Slot), St G w s H locs → lv_has ls 8 [(0, .ref (gad G 130)), (1, .int x1), (2, .int x2), (3, .int x3), (5, .int x5), (6, .long x6)] → f_X9_findBest_53 k_6 x1 x2 x3 x5 x6 w = some z → W p l e (headSpec (wsU yX9_findBest cX9_findBest 8 (some .int)) rm_X9_findBest).room s m args below meth c H locs 0 0 (MQ below (QI G z) args s 0 0 (gA G)) (F0 m 53 ls [])) := by
  obtain ⟨hx, hb, hml, hown, hts⟩ := id F
  have hg : ∀ q ∈ lwg, q.before args s = true := fun q h => hts q (List.mem_cons_of_mem _ h)
  intro x1 x2 x3 x5 x6 w H locs ls S hl hz
  rw [f_X9_findBest_53] at hz
  refine lv_iload hx hb dX9_findBest_53 (lv_at hl 4 rfl) ?_
  refine lv_istore (lv' := [(4, .int x5), (0, .ref (gad G 130)), (1, .int x1), (2, .int x2), (3, .int x3), (5, .int x5), (6, .long x6)]) hx hb dX9_findBest_55 hl (by decide) rfl (fun ls hl => ?_)
  refine lv_aload_n hx hb dX9_findBest_57 rfl (lv_at hl 1 rfl) ?_
  refine lv_lload hx hb dX9_findBest_58 (lv_at hl 6 rfl) ?_
  refine fp_X9_34 (v := x6) hx hb (fun q h => hg q (tl_X9 q h)) hown (hg _ t_fl_X9_367) S (by decide) dX9_findBest_60 (fun H locs S => ?_)
  exact w_X9_findBest_63 F hr hlk Hk_6 x1 x2 x3 x5 x5 _ _ _ _ S (lv_sub hl [1, 2, 3, 4, 0, 5] rfl) hz
set_option maxHeartbeats 4000000 in
set_option maxRecDepth 100000 in
theorem w_X9_findBest_6 {p : Program} {l : Launch} {e : Env} {s : State} {m : MethodId} {args : Array Value} {below : List Frame} {meth : Method} {c : Code} {G : GG} (F : CallFix p m c cX9_findBest 8 s args (wsU yX9_findBest cX9_findBest 8 (some .int)) RX9) (hr : meth.sig.returnType = (some .int)) (hlk : meth.locks = false) {z : Int32 × GW} : ∀ (n9 : Nat), (∀ (x1 : Int32) (x2 : Int32) (x3 : Int32) (x4 : Int32) (x5 : Int32) (w : GW) (H : Heap) (locs : List Loc) (ls : Array Slot), St G w s H locs → lv_has ls 8 [(0, .ref (gad G 130)), (1, .int x1), (2, .int x2), (3, .int x3), (4, .int x4), (5, .int x5)] → f_X9_findBest_6 n9 x1 x2 x3 x4 x5 w = some z → W p l e (headSpec (wsU yX9_findBest cX9_findBest 8 (some .int)) rm_X9_findBest).room s m args below meth c H locs 0 0 (MQ below (QI G z) args s 0 0 (gA G)) (F0 m 6 ls [])) := by
  obtain ⟨hx, hb, hml, hown, hts⟩ := id F
  have hg : ∀ q ∈ lwg, q.before args s = true := fun q h => hts q (List.mem_cons_of_mem _ h)
  intro n9
  induction n9 with
  | zero =>
    intro x1 x2 x3 x4 x5 w H locs ls S hl hz
    rw [f_X9_findBest_6] at hz
    cases hz
  | succ n9 ih =>
    intro x1 x2 x3 x4 x5 w H locs ls S hl hz
    rw [f_X9_findBest_6] at hz
    refine lv_iload hx hb dX9_findBest_6 (lv_at hl 5 rfl) ?_
    refine lv_bipush (v := 8) hx hb dX9_findBest_8 (by decide) ?_
    refine lv_icmp_gt (tgt := 69) hx hb dX9_findBest_10 (by decide) (fun c1 => ?_) (fun c1 => ?_)
    · have hz := ipt (c1) hz
      refine lv_iload hx hb dX9_findBest_69 (lv_at hl 4 rfl) ?_
      exact g_reti hx hb hr hlk S hz dX9_findBest_71
    · have hz := ipf (c1) hz
      refine lv_aload_n hx hb dX9_findBest_13 rfl (lv_at hl 0 rfl) ?_
      refine lv_iconst (v := 2) hx hb dX9_findBest_14 (by decide) ?_
      refine lv_iload hx hb dX9_findBest_15 (lv_at hl 5 rfl) ?_
      refine lv_iload_n hx hb dX9_findBest_17 rfl (lv_at hl 1 rfl) ?_
      refine lv_iload_n hx hb dX9_findBest_18 rfl (lv_at hl 2 rfl) ?_
      refine lv_iconst (v := 1) hx hb dX9_findBest_19 (by decide) ?_
      obtain ⟨q2, e3, hz⟩ := bd hz
      refine g_callVb (As := [.int 2, .int x5, .int x1, .int x2, .int 1]) (rest := []) F S (c_X9_lays l G 2 x5 x1 x2 1  _ e3) (cw_X9_findBest_X9_lays_309 hg) (S.obj (by decide) (by decide) rfl (oc_X9 _ _ _ (by decide))) rfl hl.1 rfl (Nat.le_of_ble_eq_true rfl) ⟨Nat.zero_le _, Nat.zero_le _⟩ dX9_findBest_20 (fun H locs hB4 S => ?_)
      refine lv_if_ne (tgt := 28) hx hb dX9_findBest_23 (by decide) (fun c5 => ?_) (fun c5 => ?_)
      · have hz := ipf (c5) hz
        refine lv_aload_n hx hb dX9_findBest_28 rfl (lv_at hl 0 rfl) ?_
        refine lv_iload_n hx hb dX9_findBest_29 rfl (lv_at hl 3 rfl) ?_
        obtain ⟨q6, e7, hz⟩ := bd hz
        refine g_callVl (As := [.int x3]) (rest := []) F S (c_X9_waysOfFullest l G x3  _ e7) (cw_X9_findBest_X9_waysOfFullest_331 hg) (S.obj (by decide) (by decide) rfl (oc_X9 _ _ _ (by decide))) rfl hl.1 rfl (Nat.le_of_ble_eq_true rfl) ⟨Nat.zero_le _, Nat.zero_le _⟩ dX9_findBest_30 (fun H locs  S => ?_)
        refine lv_lstore (lv' := [(6, .long q6.1), (0, .ref (gad G 130)), (1, .int x1), (2, .int x2), (3, .int x3), (4, .int x4), (5, .int x5)]) hx hb dX9_findBest_33 hl (by decide) rfl (fun ls hl => ?_)
        refine lv_iload hx hb dX9_findBest_35 (lv_at hl 5 rfl) ?_
        refine lv_if_lt (tgt := 53) hx hb dX9_findBest_37 (by decide) (fun c8 => ?_) (fun c8 => ?_)
        · have hz := ipt (c8) hz
          exact w_X9_findBest_53 F hr hlk ih x1 x2 x3 x5 q6.1 _ _ _ _ S (lv_sub hl [1, 2, 3, 4, 6, 0] rfl) hz
        · have hz := ipf (c8) hz
          refine lv_lload hx hb dX9_findBest_40 (lv_at hl 0 rfl) ?_
          refine lv_aload_n hx hb dX9_findBest_42 rfl (lv_at hl 1 rfl) ?_
          refine fg_X9_34 hx hb (fun q h => hg q (tl_X9 q h)) hown (hg _ t_fl_X9_367) S (by decide) dX9_findBest_43 ?_
          refine W.lcmp hx hb dX9_findBest_46 ?_
          refine lv_if_lt (tgt := 53) hx hb dX9_findBest_47 (by decide) (fun c9 => ?_) (fun c9 => ?_)
          · have hz := ipt ((lg_cmp_lt _ _).mp c9) hz
            exact w_X9_findBest_53 F hr hlk ih x1 x2 x3 x5 q6.1 _ _ _ _ S (lv_sub hl [1, 2, 3, 4, 6, 0] rfl) hz
          · have hz := ipf (fun q9 => c9 ((lg_cmp_lt _ _).mpr q9)) hz
            refine lv_goto (tgt := 63) hx hb dX9_findBest_50 (by decide) ?_
            exact w_X9_findBest_63 F hr hlk ih x1 x2 x3 x4 x5 _ _ _ _ S (lv_sub hl [1, 2, 3, 4, 5, 6] rfl) hz
      · have hz := ipt (c5) hz
        refine lv_iconst (v := (-1)) hx hb dX9_findBest_26 (by decide) ?_
        exact g_reti hx hb hr hlk S hz dX9_findBest_27
set_option maxHeartbeats 4000000 in
set_option maxRecDepth 100000 in
theorem c_X9_findBest (l : Launch) (G : GG) (x1 : Int32) (x2 : Int32) (x3 : Int32)  (w : GW) {z : Int32 × GW} (hz : f_X9_findBest x1 x2 x3 w = some z) : Met l yX9_findBest (wsU yX9_findBest cX9_findBest 8 (some .int)) rm_X9_findBest (va_Pc [.ref (gad G 130), .int x1, .int x2, .int x3] (PreG G w)) (QI G z) 0 0 (gA G) := by
  refine Met.ofW (cc := cX9_findBest) (maxL := 8) (ret := (some .int)) (by decide) rfl ?_
  intro p e s m args below meth c s₁ B hml hv
  obtain ⟨rfl, S⟩ := hv
  have F : CallFix p m c cX9_findBest 8 s _ (wsU yX9_findBest cX9_findBest 8 (some .int)) RX9 := ⟨B.exec, B.bytes, hml, findClass_of_methodNamed B.named, atoms_spec B.pre⟩
  have hr := B.returns
  have hlk := B.notSynchronized
  obtain ⟨hx, hb, -, hown, hts⟩ := id F
  have hg : ∀ q ∈ lwg, q.before _ s = true := fun q h => hts q (List.mem_cons_of_mem _ h)
  refine g_entry (Nat.le_of_ble_eq_true rfl) (fun ls hl => ?_)
  have hl : lv_has ls 8 [(0, .ref (gad G 130)), (1, .int x1), (2, .int x2), (3, .int x3)] := hl
  have S : St G w s s.heap [] := S
  generalize s.heap = H at S ⊢
  generalize ([] : List Loc) = locs at S ⊢
  rw [f_X9_findBest] at hz
  refine lv_iconst (v := (-1)) hx hb dX9_findBest_0 (by decide) ?_
  refine lv_istore (lv' := [(4, .int (-1)), (0, .ref (gad G 130)), (1, .int x1), (2, .int x2), (3, .int x3)]) hx hb dX9_findBest_1 hl (by decide) rfl (fun ls hl => ?_)
  refine lv_iconst (v := 0) hx hb dX9_findBest_3 (by decide) ?_
  refine lv_istore (lv' := [(5, .int 0), (4, .int (-1)), (0, .ref (gad G 130)), (1, .int x1), (2, .int x2), (3, .int x3)]) hx hb dX9_findBest_4 hl (by decide) rfl (fun ls hl => ?_)
  exact w_X9_findBest_6 F hr hlk fu x1 x2 x3 (-1) 0 _ _ _ _ S (lv_sub hl [2, 3, 4, 5, 1, 0] rfl) hz
