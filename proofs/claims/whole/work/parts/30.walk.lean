noncomputable def f_X9_byGlances_120 (k_10 : Int32 → Int32 → Int32 → Int32 → Int64 → Int32 → Int32 → Int32 → GW → Option (Unit × GW)) (k_53 : Int32 → Int32 → Int32 → Int32 → Int64 → Int32 → Int32 → Int32 → Int64 → Int32 → Int32 → GW → Option (Unit × GW)) (x1 : Int32) (x2 : Int32) (x3 : Int32) (x4 : Int32) (x5 : Int64) (x7 : Int32) (x8 : Int32) (x9 : Int32) (x10 : Int64) (x12 : Int32) (x13 : Int32) (t0 : Int64) (t1 : Int32) (w : GW) : Option (Unit × GW) :=
  (f_X9_comesTo t1 t0 w).bind fun q20 =>
  k_53 x1 x2 x3 x4 x5 x7 x8 x9 x10 x12 (x13 + 1) q20.2
noncomputable def f_X9_byGlances_95 (k_10 : Int32 → Int32 → Int32 → Int32 → Int64 → Int32 → Int32 → Int32 → GW → Option (Unit × GW)) (k_53 : Int32 → Int32 → Int32 → Int32 → Int64 → Int32 → Int32 → Int32 → Int64 → Int32 → Int32 → GW → Option (Unit × GW)) (x1 : Int32) (x2 : Int32) (x3 : Int32) (x4 : Int32) (x5 : Int64) (x7 : Int32) (x8 : Int32) (x9 : Int32) (x10 : Int64) (x12 : Int32) (x13 : Int32) (w : GW) : Option (Unit × GW) :=
  (f_X9_together w).bind fun q17 =>
  if x1 = 0 then
    (f_X9_tiesOf x3 q17.2).bind fun q22 =>
    if ¬ (x12.toInt64) = 0 then
    f_X9_byGlances_120 k_10 k_53 x1 x2 x3 x4 x5 x7 x8 x9 x10 x12 x13 (x10 * (q22.1 / (x12.toInt64))) q17.1 q22.2
    else none
  else
    f_X9_byGlances_120 k_10 k_53 x1 x2 x3 x4 x5 x7 x8 x9 x10 x12 x13 x10 q17.1 q17.2
noncomputable def f_X9_byGlances_53 (k_10 : Int32 → Int32 → Int32 → Int32 → Int64 → Int32 → Int32 → Int32 → GW → Option (Unit × GW)) : Nat → Int32 → Int32 → Int32 → Int32 → Int64 → Int32 → Int32 → Int32 → Int64 → Int32 → Int32 → GW → Option (Unit × GW)
  | 0, _, _, _, _, _, _, _, _, _, _, _, _ => none
  | n9 + 1, x1, x2, x3, x4, x5, x7, x8, x9, x10, x12, x13, w =>
    if x12 ≤ x13 then
      k_10 x1 x2 x3 x4 x5 x7 x8 (x9 + 1) w
    else
      (f_X9_layApart x4 w).bind fun q10 =>
      (f_X9_taken x1 x2 x3 x13 q10.2).bind fun q12 =>
      (f_X9_puts x1 x3 q12.1 q12.2).bind fun q14 =>
      if 5 ≤ q14.1 then
        f_X9_byGlances_95 k_10 (f_X9_byGlances_53 k_10 n9) x1 x2 x3 x4 x5 x7 x8 x9 x10 x12 x13 q14.2
      else
        (f_X9_moves x7 q14.2).bind fun q25 =>
        f_X9_byGlances_95 k_10 (f_X9_byGlances_53 k_10 n9) x1 x2 x3 x4 x5 x7 x8 x9 x10 x12 x13 q25.2
noncomputable def f_X9_byGlances_48 (k_10 : Int32 → Int32 → Int32 → Int32 → Int64 → Int32 → Int32 → Int32 → GW → Option (Unit × GW)) (x1 : Int32) (x2 : Int32) (x3 : Int32) (x4 : Int32) (x5 : Int64) (x7 : Int32) (x8 : Int32) (x9 : Int32) (x10 : Int64) (t0 : Int32) (w : GW) : Option (Unit × GW) :=
  f_X9_byGlances_53 k_10 fu x1 x2 x3 x4 x5 x7 x8 x9 x10 t0 0 w
noncomputable def f_X9_byGlances_10  : Nat → Int32 → Int32 → Int32 → Int32 → Int64 → Int32 → Int32 → Int32 → GW → Option (Unit × GW)
  | 0, _, _, _, _, _, _, _, _, _ => none
  | n9 + 1, x1, x2, x3, x4, x5, x7, x8, x9, w =>
    if x8 ≤ x9 then
      some ((), w)
    else
      (f_X9_layApart x4 w).bind fun q4 =>
      (f_X9_layGlances x9 x3 q4.2).bind fun q6 =>
      if x1 = 0 then
        (f_X9_ties x3 q6.2).bind fun q27 =>
        f_X9_byGlances_48 (f_X9_byGlances_10 n9) x1 x2 x3 x4 x5 x7 x8 x9 (q6.1 * x5) q27.1 q27.2
      else
        f_X9_byGlances_48 (f_X9_byGlances_10 n9) x1 x2 x3 x4 x5 x7 x8 x9 (q6.1 * x5) 1 q6.2
noncomputable def f_X9_byGlances (x1 : Int32) (x2 : Int32) (x3 : Int32) (x4 : Int32) (x5 : Int64) (x7 : Int32) (w : GW) : Option (Unit × GW) :=
  (f_X9_glancesOf x3 w).bind fun q1 =>
  f_X9_byGlances_10 fu x1 x2 x3 x4 x5 x7 q1.1 0 q1.2
set_option maxHeartbeats 4000000 in
set_option maxRecDepth 100000 in
theorem w_X9_byGlances_120 {p : Program} {l : Launch} {e : Env} {s : State} {m : MethodId} {args : Array Value} {below : List Frame} {meth : Method} {c : Code} {G : GG} (F : CallFix p m c cX9_byGlances 15 s args (wsU yX9_byGlances cX9_byGlances 15 none) RX9) (hr : meth.sig.returnType = none) (hlk : meth.locks = false) {z : Unit × GW} {k_10 : Int32 → Int32 → Int32 → Int32 → Int64 → Int32 → Int32 → Int32 → GW → Option (Unit × GW)} (Hk_10 : (∀ (x1 : Int32) (x2 : Int32) (x3 : Int32) (x4 : Int32) (x5 : Int64) (x7 : Int32) (x8 : Int32) (x9 : Int32) (w : GW) (H : Heap) (locs : List Loc) (ls : Array Slot), St G w s H locs → lv_has ls 15 [(0, .ref (gad G 130)), (1, .int x1), (2, .int x2), (3, .int x3), (4, .int x4), (5, .long x5), (7, .int x7), (8, .int x8), (9, .int x9)] → k_10 x1 x2 x3 x4 x5 x7 x8 x9 w = some z → W p l e (headSpec (wsU yX9_byGlances cX9_byGlances 15 none) rm_X9_byGlances).room s m args below meth c H locs 0 0 (MQ below (QV G z) args s 0 0 (gA G)) (F0 m 10 ls []))) {k_53 : Int32 → Int32 → Int32 → Int32 → Int64 → Int32 → Int32 → Int32 → Int64 → Int32 → Int32 → GW → Option (Unit × GW)} (Hk_53 : (∀ (x1 : Int32) (x2 : Int32) (x3 : Int32) (x4 : Int32) (x5 : Int64) (x7 : Int32) (x8 : Int32) (x9 : Int32) (x10 : Int64) (x12 : Int32) (x13 : Int32) (w : GW) (H : Heap) (locs : List Loc) (ls : Array Slot), St G w s H locs → lv_has ls 15 [(0, .ref (gad G 130)), (1, .int x1), (2, .int x2), (3, .int x3), (4, .int x4), (5, .long x5), (7, .int x7), (8, .int x8), (9, .int x9), (10, .long x10), (12, .int x12), (13, .int x13)] → k_53 x1 x2 x3 x4 x5 x7 x8 x9 x10 x12 x13 w = some z → W p l e (headSpec (wsU yX9_byGlances cX9_byGlances 15 none) rm_X9_byGlances).room s m args below meth c H locs 0 0 (MQ below (QV G z) args s 0 0 (gA G)) (F0 m 53 ls []))) : (∀ (x1 : Int32) (x2 : Int32) (x3 : Int32) (x4 : Int32) (x5 : Int64) (x7 : Int32) (x8 : Int32) (x9 : Int32) (x10 : Int64) (x12 : Int32) (x13 : Int32) (t0 : Int64) (t1 : Int32) (w : GW) (H : Heap) (locs : List Loc) (ls : Array Slot), St G w s H locs → lv_has ls 15 [(0, .ref (gad G 130)), (1, .int x1), (2, .int x2), (3, .int x3), (4, .int x4), (5, .long x5), (7, .int x7), (8, .int x8), (9, .int x9), (10, .long x10), (12, .int x12), (13, .int x13)] → f_X9_byGlances_120 k_10 k_53 x1 x2 x3 x4 x5 x7 x8 x9 x10 x12 x13 t0 t1 w = some z → W p l e (headSpec (wsU yX9_byGlances cX9_byGlances 15 none) rm_X9_byGlances).room s m args below meth c H locs 0 0 (MQ below (QV G z) args s 0 0 (gA G)) (F0 m 120 ls [.long t0, .int t1, .ref (gad G 130)])) := by
  obtain ⟨hx, hb, hml, hown, hts⟩ := id F
  have hg : ∀ q ∈ lwg, q.before args s = true := fun q h => hts q (List.mem_cons_of_mem _ h)
  intro x1 x2 x3 x4 x5 x7 x8 x9 x10 x12 x13 t0 t1 w H locs ls S hl hz
  rw [f_X9_byGlances_120] at hz
  obtain ⟨q20, e21, hz⟩ := bd hz
  refine g_callVv (As := [.int t1, .long t0]) (rest := []) F S (c_X9_comesTo l G t1 t0  _ e21) (cw_X9_byGlances_X9_comesTo_288 hg) (S.obj (by decide) (by decide) rfl (oc_X9 _ _ _ (by decide))) rfl hl.1 rfl (Nat.le_of_ble_eq_true rfl) ⟨Nat.zero_le _, Nat.zero_le _⟩ dX9_byGlances_120 (fun H locs  S => ?_)
  refine lv_iinc (v := (x13 + 1)) (lv' := [(13, .int (x13 + 1)), (0, .ref (gad G 130)), (1, .int x1), (2, .int x2), (3, .int x3), (4, .int x4), (5, .long x5), (7, .int x7), (8, .int x8), (9, .int x9), (10, .long x10), (12, .int x12)]) hx hb dX9_byGlances_123 hl (k := 11) rfl rfl (by decide) rfl (fun ls hl => ?_)
  refine lv_goto (tgt := 53) hx hb dX9_byGlances_126 (by decide) ?_
  exact Hk_53 x1 x2 x3 x4 x5 x7 x8 x9 x10 x12 (x13 + 1)  _ _ _ _ S (lv_sub hl [1, 2, 3, 4, 5, 6, 7, 8, 9, 10, 11, 0] rfl) hz
set_option maxHeartbeats 4000000 in
set_option maxRecDepth 100000 in
theorem w_X9_byGlances_95 {p : Program} {l : Launch} {e : Env} {s : State} {m : MethodId} {args : Array Value} {below : List Frame} {meth : Method} {c : Code} {G : GG} (F : CallFix p m c cX9_byGlances 15 s args (wsU yX9_byGlances cX9_byGlances 15 none) RX9) (hr : meth.sig.returnType = none) (hlk : meth.locks = false) {z : Unit × GW} {k_10 : Int32 → Int32 → Int32 → Int32 → Int64 → Int32 → Int32 → Int32 → GW → Option (Unit × GW)} (Hk_10 : (∀ (x1 : Int32) (x2 : Int32) (x3 : Int32) (x4 : Int32) (x5 : Int64) (x7 : Int32) (x8 : Int32) (x9 : Int32) (w : GW) (H : Heap) (locs : List Loc) (ls : Array Slot), St G w s H locs → lv_has ls 15 [(0, .ref (gad G 130)), (1, .int x1), (2, .int x2), (3, .int x3), (4, .int x4), (5, .long x5), (7, .int x7), (8, .int x8), (9, .int x9)] → k_10 x1 x2 x3 x4 x5 x7 x8 x9 w = some z → W p l e (headSpec (wsU yX9_byGlances cX9_byGlances 15 none) rm_X9_byGlances).room s m args below meth c H locs 0 0 (MQ below (QV G z) args s 0 0 (gA G)) (F0 m 10 ls []))) {k_53 : Int32 → Int32 → Int32 → Int32 → Int64 → Int32 → Int32 → Int32 → Int64 → Int32 → Int32 → GW → Option (Unit × GW)} (Hk_53 : (∀ (x1 : Int32) (x2 : Int32) (x3 : Int32) (x4 : Int32) (x5 : Int64) (x7 : Int32) (x8 : Int32) (x9 : Int32) (x10 : Int64) (x12 : Int32) (x13 : Int32) (w : GW) (H : Heap) (locs : List Loc) (ls : Array Slot), St G w s H locs → lv_has ls 15 [(0, .ref (gad G 130)), (1, .int x1), (2, .int x2), (3, .int x3), (4, .int x4), (5, .long x5), (7, .int x7), (8, .int x8), (9, .int x9), (10, .long x10), (12, .int x12), (13, .int x13)] → k_53 x1 x2 x3 x4 x5 x7 x8 x9 x10 x12 x13 w = some z → W p l e (headSpec (wsU yX9_byGlances cX9_byGlances 15 none) rm_X9_byGlances).room s m args below meth c H locs 0 0 (MQ below (QV G z) args s 0 0 (gA G)) (F0 m 53 ls []))) : (∀ (x1 : Int32) (x2 : Int32) (x3 : Int32) (x4 : Int32) (x5 : Int64) (x7 : Int32) (x8 : Int32) (x9 : Int32) (x10 : Int64) (x12 : Int32) (x13 : Int32) (w : GW) (H : Heap) (locs : List Loc) (ls : Array Slot), St G w s H locs → lv_has ls 15 [(0, .ref (gad G 130)), (1, .int x1), (2, .int x2), (3, .int x3), (4, .int x4), (5, .long x5), (7, .int x7), (8, .int x8), (9, .int x9), (10, .long x10), (12, .int x12), (13, .int x13)] → f_X9_byGlances_95 k_10 k_53 x1 x2 x3 x4 x5 x7 x8 x9 x10 x12 x13 w = some z → W p l e (headSpec (wsU yX9_byGlances cX9_byGlances 15 none) rm_X9_byGlances).room s m args below meth c H locs 0 0 (MQ below (QV G z) args s 0 0 (gA G)) (F0 m 95 ls [])) := by
  obtain ⟨hx, hb, hml, hown, hts⟩ := id F
  have hg : ∀ q ∈ lwg, q.before args s = true := fun q h => hts q (List.mem_cons_of_mem _ h)
  intro x1 x2 x3 x4 x5 x7 x8 x9 x10 x12 x13 w H locs ls S hl hz
  rw [f_X9_byGlances_95] at hz
  refine lv_aload_n hx hb dX9_byGlances_95 rfl (lv_at hl 0 rfl) ?_
  refine lv_aload_n hx hb dX9_byGlances_96 rfl (lv_at hl 0 rfl) ?_
  obtain ⟨q17, e18, hz⟩ := bd hz
  refine g_callVi (As := []) (rest := [.ref (gad G 130)]) F S (c_X9_together l G   _ e18) (cw_X9_byGlances_X9_together_285 hg) (S.obj (by decide) (by decide) rfl (oc_X9 _ _ _ (by decide))) rfl hl.1 rfl (Nat.le_of_ble_eq_true rfl) ⟨Nat.zero_le _, Nat.zero_le _⟩ dX9_byGlances_97 (fun H locs  S => ?_)
  refine lv_iload_n hx hb dX9_byGlances_100 rfl (lv_at hl 1 rfl) ?_
  refine lv_if_ne (tgt := 118) hx hb dX9_byGlances_101 (by decide) (fun c19 => ?_) (fun c19 => ?_)
  · have hz := ipf (c19) hz
    refine lv_lload hx hb dX9_byGlances_118 (lv_at hl 9 rfl) ?_
    exact w_X9_byGlances_120 F hr hlk Hk_10 Hk_53 x1 x2 x3 x4 x5 x7 x8 x9 x10 x12 x13 x10 q17.1 _ _ _ _ S (lv_sub hl [0, 1, 2, 3, 4, 5, 6, 7, 8, 9, 10, 11] rfl) hz
  · have hz := ipt (c19) hz
    refine lv_lload hx hb dX9_byGlances_104 (lv_at hl 9 rfl) ?_
    refine lv_iload_n hx hb dX9_byGlances_106 rfl (lv_at hl 3 rfl) ?_
    obtain ⟨q22, e23, hz⟩ := bd hz
    refine g_callSl (As := [.int x3]) (rest := [.long x10, .int q17.1, .ref (gad G 130)]) F S (c_X9_tiesOf l G x3  _ e23) (cw_X9_byGlances_X9_tiesOf_243 hg) rfl hl.1 rfl (Nat.le_of_ble_eq_true rfl) ⟨Nat.zero_le _, Nat.zero_le _⟩ dX9_byGlances_107 (fun H locs  S => ?_)
    refine lv_iload hx hb dX9_byGlances_110 (lv_at hl 10 rfl) ?_
    refine lv_i2l (v := x12.toInt64) hx hb dX9_byGlances_112 rfl ?_
    obtain ⟨h24, hz⟩ := ck hz
    refine g_ldiv hx hb dX9_byGlances_113 h24 ?_
    refine lv_lmul hx hb dX9_byGlances_114 ?_
    refine lv_goto (tgt := 120) hx hb dX9_byGlances_115 (by decide) ?_
    exact w_X9_byGlances_120 F hr hlk Hk_10 Hk_53 x1 x2 x3 x4 x5 x7 x8 x9 x10 x12 x13 (x10 * (q22.1 / (x12.toInt64))) q17.1 _ _ _ _ S (lv_sub hl [0, 1, 2, 3, 4, 5, 6, 7, 8, 9, 10, 11] rfl) hz
set_option maxHeartbeats 4000000 in
set_option maxRecDepth 100000 in
theorem w_X9_byGlances_53 {p : Program} {l : Launch} {e : Env} {s : State} {m : MethodId} {args : Array Value} {below : List Frame} {meth : Method} {c : Code} {G : GG} (F : CallFix p m c cX9_byGlances 15 s args (wsU yX9_byGlances cX9_byGlances 15 none) RX9) (hr : meth.sig.returnType = none) (hlk : meth.locks = false) {z : Unit × GW} {k_10 : Int32 → Int32 → Int32 → Int32 → Int64 → Int32 → Int32 → Int32 → GW → Option (Unit × GW)} (Hk_10 : (∀ (x1 : Int32) (x2 : Int32) (x3 : Int32) (x4 : Int32) (x5 : Int64) (x7 : Int32) (x8 : Int32) (x9 : Int32) (w : GW) (H : Heap) (locs : List Loc) (ls : Array Slot), St G w s H locs → lv_has ls 15 [(0, .ref (gad G 130)), (1, .int x1), (2, .int x2), (3, .int x3), (4, .int x4), (5, .long x5), (7, .int x7), (8, .int x8), (9, .int x9)] → k_10 x1 x2 x3 x4 x5 x7 x8 x9 w = some z → W p l e (headSpec (wsU yX9_byGlances cX9_byGlances 15 none) rm_X9_byGlances).room s m args below meth c H locs 0 0 (MQ below (QV G z) args s 0 0 (gA G)) (F0 m 10 ls []))) : ∀ (n9 : Nat), (∀ (x1 : Int32) (x2 : Int32) (x3 : Int32) (x4 : Int32) (x5 : Int64) (x7 : Int32) (x8 : Int32) (x9 : Int32) (x10 : Int64) (x12 : Int32) (x13 : Int32) (w : GW) (H : Heap) (locs : List Loc) (ls : Array Slot), St G w s H locs → lv_has ls 15 [(0, .ref (gad G 130)), (1, .int x1), (2, .int x2), (3, .int x3), (4, .int x4), (5, .long x5), (7, .int x7), (8, .int x8), (9, .int x9), (10, .long x10), (12, .int x12), (13, .int x13)] → f_X9_byGlances_53 k_10 n9 x1 x2 x3 x4 x5 x7 x8 x9 x10 x12 x13 w = some z → W p l e (headSpec (wsU yX9_byGlances cX9_byGlances 15 none) rm_X9_byGlances).room s m args below meth c H locs 0 0 (MQ below (QV G z) args s 0 0 (gA G)) (F0 m 53 ls [])) := by
  obtain ⟨hx, hb, hml, hown, hts⟩ := id F
  have hg : ∀ q ∈ lwg, q.before args s = true := fun q h => hts q (List.mem_cons_of_mem _ h)
  intro n9
  induction n9 with
  | zero =>
    intro x1 x2 x3 x4 x5 x7 x8 x9 x10 x12 x13 w H locs ls S hl hz
    rw [f_X9_byGlances_53] at hz
    cases hz
  | succ n9 ih =>
    intro x1 x2 x3 x4 x5 x7 x8 x9 x10 x12 x13 w H locs ls S hl hz
    rw [f_X9_byGlances_53] at hz
    refine lv_iload hx hb dX9_byGlances_53 (lv_at hl 11 rfl) ?_
    refine lv_iload hx hb dX9_byGlances_55 (lv_at hl 10 rfl) ?_
    refine lv_icmp_ge (tgt := 129) hx hb dX9_byGlances_57 (by decide) (fun c9 => ?_) (fun c9 => ?_)
    · have hz := ipt (c9) hz
      refine lv_iinc (v := (x9 + 1)) (lv' := [(9, .int (x9 + 1)), (0, .ref (gad G 130)), (1, .int x1), (2, .int x2), (3, .int x3), (4, .int x4), (5, .long x5), (7, .int x7), (8, .int x8), (10, .long x10), (12, .int x12), (13, .int x13)]) hx hb dX9_byGlances_129 hl (k := 8) rfl rfl (by decide) rfl (fun ls hl => ?_)
      refine lv_goto (tgt := 10) hx hb dX9_byGlances_132 (by decide) ?_
      exact Hk_10 x1 x2 x3 x4 x5 x7 x8 (x9 + 1)  _ _ _ _ S (lv_sub hl [1, 2, 3, 4, 5, 6, 7, 8, 0] rfl) hz
    · have hz := ipf (c9) hz
      refine lv_aload_n hx hb dX9_byGlances_60 rfl (lv_at hl 0 rfl) ?_
      refine lv_iload hx hb dX9_byGlances_61 (lv_at hl 4 rfl) ?_
      obtain ⟨q10, e11, hz⟩ := bd hz
      refine g_callVv (As := [.int x4]) (rest := []) F S (c_X9_layApart l G x4  _ e11) (cw_X9_byGlances_X9_layApart_279 hg) (S.obj (by decide) (by decide) rfl (oc_X9 _ _ _ (by decide))) rfl hl.1 rfl (Nat.le_of_ble_eq_true rfl) ⟨Nat.zero_le _, Nat.zero_le _⟩ dX9_byGlances_63 (fun H locs  S => ?_)
      refine lv_aload_n hx hb dX9_byGlances_66 rfl (lv_at hl 0 rfl) ?_
      refine lv_iload_n hx hb dX9_byGlances_67 rfl (lv_at hl 1 rfl) ?_
      refine lv_iload_n hx hb dX9_byGlances_68 rfl (lv_at hl 3 rfl) ?_
      refine lv_aload_n hx hb dX9_byGlances_69 rfl (lv_at hl 0 rfl) ?_
      refine lv_iload_n hx hb dX9_byGlances_70 rfl (lv_at hl 1 rfl) ?_
      refine lv_iload_n hx hb dX9_byGlances_71 rfl (lv_at hl 2 rfl) ?_
      refine lv_iload_n hx hb dX9_byGlances_72 rfl (lv_at hl 3 rfl) ?_
      refine lv_iload hx hb dX9_byGlances_73 (lv_at hl 11 rfl) ?_
      obtain ⟨q12, e13, hz⟩ := bd hz
      refine g_callVi (As := [.int x1, .int x2, .int x3, .int x13]) (rest := [.int x3, .int x1, .ref (gad G 130)]) F S (c_X9_taken l G x1 x2 x3 x13  _ e13) (cw_X9_byGlances_X9_taken_301 hg) (S.obj (by decide) (by decide) rfl (oc_X9 _ _ _ (by decide))) rfl hl.1 rfl (Nat.le_of_ble_eq_true rfl) ⟨Nat.zero_le _, Nat.zero_le _⟩ dX9_byGlances_75 (fun H locs  S => ?_)
      obtain ⟨q14, e15, hz⟩ := bd hz
      refine g_callVi (As := [.int x1, .int x3, .int q12.1]) (rest := []) F S (c_X9_puts l G x1 x3 q12.1  _ e15) (cw_X9_byGlances_X9_puts_305 hg) (S.obj (by decide) (by decide) rfl (oc_X9 _ _ _ (by decide))) rfl hl.1 rfl (Nat.le_of_ble_eq_true rfl) ⟨Nat.zero_le _, Nat.zero_le _⟩ dX9_byGlances_78 (fun H locs  S => ?_)
      refine lv_istore (lv' := [(14, .int q14.1), (0, .ref (gad G 130)), (1, .int x1), (2, .int x2), (3, .int x3), (4, .int x4), (5, .long x5), (7, .int x7), (8, .int x8), (9, .int x9), (10, .long x10), (12, .int x12), (13, .int x13)]) hx hb dX9_byGlances_81 hl (by decide) rfl (fun ls hl => ?_)
      refine lv_iload hx hb dX9_byGlances_83 (lv_at hl 0 rfl) ?_
      refine lv_iconst (v := 5) hx hb dX9_byGlances_85 (by decide) ?_
      refine lv_icmp_ge (tgt := 95) hx hb dX9_byGlances_86 (by decide) (fun c16 => ?_) (fun c16 => ?_)
      · have hz := ipt (c16) hz
        exact w_X9_byGlances_95 F hr hlk Hk_10 ih x1 x2 x3 x4 x5 x7 x8 x9 x10 x12 x13 _ _ _ _ S (lv_sub hl [1, 2, 3, 4, 5, 6, 7, 8, 9, 10, 11, 12] rfl) hz
      · have hz := ipf (c16) hz
        refine lv_aload_n hx hb dX9_byGlances_89 rfl (lv_at hl 1 rfl) ?_
        refine lv_iload hx hb dX9_byGlances_90 (lv_at hl 7 rfl) ?_
        obtain ⟨q25, e26, hz⟩ := bd hz
        refine g_callVv (As := [.int x7]) (rest := []) F S (c_X9_moves l G x7  _ e26) (cw_X9_byGlances_X9_moves_283 hg) (S.obj (by decide) (by decide) rfl (oc_X9 _ _ _ (by decide))) rfl hl.1 rfl (Nat.le_of_ble_eq_true rfl) ⟨Nat.zero_le _, Nat.zero_le _⟩ dX9_byGlances_92 (fun H locs  S => ?_)
        exact w_X9_byGlances_95 F hr hlk Hk_10 ih x1 x2 x3 x4 x5 x7 x8 x9 x10 x12 x13 _ _ _ _ S (lv_sub hl [1, 2, 3, 4, 5, 6, 7, 8, 9, 10, 11, 12] rfl) hz
set_option maxHeartbeats 4000000 in
set_option maxRecDepth 100000 in
theorem w_X9_byGlances_48 {p : Program} {l : Launch} {e : Env} {s : State} {m : MethodId} {args : Array Value} {below : List Frame} {meth : Method} {c : Code} {G : GG} (F : CallFix p m c cX9_byGlances 15 s args (wsU yX9_byGlances cX9_byGlances 15 none) RX9) (hr : meth.sig.returnType = none) (hlk : meth.locks = false) {z : Unit × GW} {k_10 : Int32 → Int32 → Int32 → Int32 → Int64 → Int32 → Int32 → Int32 → GW → Option (Unit × GW)} (Hk_10 : (∀ (x1 : Int32) (x2 : Int32) (x3 : Int32) (x4 : Int32) (x5 : Int64) (x7 : Int32) (x8 : Int32) (x9 : Int32) (w : GW) (H : Heap) (locs : List Loc) (ls : Array Slot), St G w s H locs → lv_has ls 15 [(0, .ref (gad G 130)), (1, .int x1), (2, .int x2), (3, .int x3), (4, .int x4), (5, .long x5), (7, .int x7), (8, .int x8), (9, .int x9)] → k_10 x1 x2 x3 x4 x5 x7 x8 x9 w = some z → W p l e (headSpec (wsU yX9_byGlances cX9_byGlances 15 none) rm_X9_byGlances).room s m args below meth c H locs 0 0 (MQ below (QV G z) args s 0 0 (gA G)) (F0 m 10 ls []))) : (∀ (x1 : Int32) (x2 : Int32) (x3 : Int32) (x4 : Int32) (x5 : Int64) (x7 : Int32) (x8 : Int32) (x9 : Int32) (x10 : Int64) (t0 : Int32) (w : GW) (H : Heap) (locs : List Loc) (ls : Array Slot), St G w s H locs → lv_has ls 15 [(0, .ref (gad G 130)), (1, .int x1), (2, .int x2), (3, .int x3), (4, .int x4), (5, .long x5), (7, .int x7), (8, .int x8), (9, .int x9), (10, .long x10)] → f_X9_byGlances_48 k_10 x1 x2 x3 x4 x5 x7 x8 x9 x10 t0 w = some z → W p l e (headSpec (wsU yX9_byGlances cX9_byGlances 15 none) rm_X9_byGlances).room s m args below meth c H locs 0 0 (MQ below (QV G z) args s 0 0 (gA G)) (F0 m 48 ls [.int t0])) := by
  obtain ⟨hx, hb, hml, hown, hts⟩ := id F
  have hg : ∀ q ∈ lwg, q.before args s = true := fun q h => hts q (List.mem_cons_of_mem _ h)
  intro x1 x2 x3 x4 x5 x7 x8 x9 x10 t0 w H locs ls S hl hz
  rw [f_X9_byGlances_48] at hz
  refine lv_istore (lv' := [(12, .int t0), (0, .ref (gad G 130)), (1, .int x1), (2, .int x2), (3, .int x3), (4, .int x4), (5, .long x5), (7, .int x7), (8, .int x8), (9, .int x9), (10, .long x10)]) hx hb dX9_byGlances_48 hl (by decide) rfl (fun ls hl => ?_)
  refine lv_iconst (v := 0) hx hb dX9_byGlances_50 (by decide) ?_
  refine lv_istore (lv' := [(13, .int 0), (12, .int t0), (0, .ref (gad G 130)), (1, .int x1), (2, .int x2), (3, .int x3), (4, .int x4), (5, .long x5), (7, .int x7), (8, .int x8), (9, .int x9), (10, .long x10)]) hx hb dX9_byGlances_51 hl (by decide) rfl (fun ls hl => ?_)
  exact w_X9_byGlances_53 F hr hlk Hk_10 fu x1 x2 x3 x4 x5 x7 x8 x9 x10 t0 0 _ _ _ _ S (lv_sub hl [2, 3, 4, 5, 6, 7, 8, 9, 10, 11, 1, 0] rfl) hz
set_option maxHeartbeats 4000000 in
set_option maxRecDepth 100000 in
theorem w_X9_byGlances_10 {p : Program} {l : Launch} {e : Env} {s : State} {m : MethodId} {args : Array Value} {below : List Frame} {meth : Method} {c : Code} {G : GG} (F : CallFix p m c cX9_byGlances 15 s args (wsU yX9_byGlances cX9_byGlances 15 none) RX9) (hr : meth.sig.returnType = none) (hlk : meth.locks = false) {z : Unit × GW} : ∀ (n9 : Nat), (∀ (x1 : Int32) (x2 : Int32) (x3 : Int32) (x4 : Int32) (x5 : Int64) (x7 : Int32) (x8 : Int32) (x9 : Int32) (w : GW) (H : Heap) (locs : List Loc) (ls : Array Slot), St G w s H locs → lv_has ls 15 [(0, .ref (gad G 130)), (1, .int x1), (2, .int x2), (3, .int x3), (4, .int x4), (5, .long x5), (7, .int x7), (8, .int x8), (9, .int x9)] → f_X9_byGlances_10 n9 x1 x2 x3 x4 x5 x7 x8 x9 w = some z → W p l e (headSpec (wsU yX9_byGlances cX9_byGlances 15 none) rm_X9_byGlances).room s m args below meth c H locs 0 0 (MQ below (QV G z) args s 0 0 (gA G)) (F0 m 10 ls [])) := by
  obtain ⟨hx, hb, hml, hown, hts⟩ := id F
  have hg : ∀ q ∈ lwg, q.before args s = true := fun q h => hts q (List.mem_cons_of_mem _ h)
  intro n9
  induction n9 with
  | zero =>
    intro x1 x2 x3 x4 x5 x7 x8 x9 w H locs ls S hl hz
    rw [f_X9_byGlances_10] at hz
    cases hz
  | succ n9 ih =>
    intro x1 x2 x3 x4 x5 x7 x8 x9 w H locs ls S hl hz
    rw [f_X9_byGlances_10] at hz
    refine lv_iload hx hb dX9_byGlances_10 (lv_at hl 8 rfl) ?_
    refine lv_iload hx hb dX9_byGlances_12 (lv_at hl 7 rfl) ?_
    refine lv_icmp_ge (tgt := 135) hx hb dX9_byGlances_14 (by decide) (fun c3 => ?_) (fun c3 => ?_)
    · have hz := ipt (c3) hz
      exact g_retv hx hb hr hlk S hz dX9_byGlances_135
    · have hz := ipf (c3) hz
      refine lv_aload_n hx hb dX9_byGlances_17 rfl (lv_at hl 0 rfl) ?_
      refine lv_iload hx hb dX9_byGlances_18 (lv_at hl 4 rfl) ?_
      obtain ⟨q4, e5, hz⟩ := bd hz
      refine g_callVv (As := [.int x4]) (rest := []) F S (c_X9_layApart l G x4  _ e5) (cw_X9_byGlances_X9_layApart_279 hg) (S.obj (by decide) (by decide) rfl (oc_X9 _ _ _ (by decide))) rfl hl.1 rfl (Nat.le_of_ble_eq_true rfl) ⟨Nat.zero_le _, Nat.zero_le _⟩ dX9_byGlances_20 (fun H locs  S => ?_)
      refine lv_aload_n hx hb dX9_byGlances_23 rfl (lv_at hl 0 rfl) ?_
      refine lv_iload hx hb dX9_byGlances_24 (lv_at hl 8 rfl) ?_
      refine lv_iload_n hx hb dX9_byGlances_26 rfl (lv_at hl 3 rfl) ?_
      obtain ⟨q6, e7, hz⟩ := bd hz
      refine g_callVl (As := [.int x9, .int x3]) (rest := []) F S (c_X9_layGlances l G x9 x3  _ e7) (cw_X9_byGlances_X9_layGlances_295 hg) (S.obj (by decide) (by decide) rfl (oc_X9 _ _ _ (by decide))) rfl hl.1 rfl (Nat.le_of_ble_eq_true rfl) ⟨Nat.zero_le _, Nat.zero_le _⟩ dX9_byGlances_27 (fun H locs  S => ?_)
      refine lv_lload hx hb dX9_byGlances_30 (lv_at hl 5 rfl) ?_
      refine lv_lmul hx hb dX9_byGlances_32 ?_
      refine lv_lstore (lv' := [(10, .long (q6.1 * x5)), (0, .ref (gad G 130)), (1, .int x1), (2, .int x2), (3, .int x3), (4, .int x4), (5, .long x5), (7, .int x7), (8, .int x8), (9, .int x9)]) hx hb dX9_byGlances_33 hl (by decide) rfl (fun ls hl => ?_)
      refine lv_iload_n hx hb dX9_byGlances_35 rfl (lv_at hl 2 rfl) ?_
      refine lv_if_ne (tgt := 47) hx hb dX9_byGlances_36 (by decide) (fun c8 => ?_) (fun c8 => ?_)
      · have hz := ipf (c8) hz
        refine lv_iconst (v := 1) hx hb dX9_byGlances_47 (by decide) ?_
        exact w_X9_byGlances_48 F hr hlk ih x1 x2 x3 x4 x5 x7 x8 x9 (q6.1 * x5) 1 _ _ _ _ S (lv_sub hl [1, 2, 3, 4, 5, 6, 7, 8, 9, 0] rfl) hz
      · have hz := ipt (c8) hz
        refine lv_aload_n hx hb dX9_byGlances_39 rfl (lv_at hl 1 rfl) ?_
        refine lv_iload_n hx hb dX9_byGlances_40 rfl (lv_at hl 4 rfl) ?_
        obtain ⟨q27, e28, hz⟩ := bd hz
        refine g_callVi (As := [.int x3]) (rest := []) F S (c_X9_ties l G x3  _ e28) (cw_X9_byGlances_X9_ties_298 hg) (S.obj (by decide) (by decide) rfl (oc_X9 _ _ _ (by decide))) rfl hl.1 rfl (Nat.le_of_ble_eq_true rfl) ⟨Nat.zero_le _, Nat.zero_le _⟩ dX9_byGlances_41 (fun H locs  S => ?_)
        refine lv_goto (tgt := 48) hx hb dX9_byGlances_44 (by decide) ?_
        exact w_X9_byGlances_48 F hr hlk ih x1 x2 x3 x4 x5 x7 x8 x9 (q6.1 * x5) q27.1 _ _ _ _ S (lv_sub hl [1, 2, 3, 4, 5, 6, 7, 8, 9, 0] rfl) hz
set_option maxHeartbeats 4000000 in
set_option maxRecDepth 100000 in
theorem c_X9_byGlances (l : Launch) (G : GG) (x1 : Int32) (x2 : Int32) (x3 : Int32) (x4 : Int32) (x5 : Int64) (x7 : Int32)  (w : GW) {z : Unit × GW} (hz : f_X9_byGlances x1 x2 x3 x4 x5 x7 w = some z) : Met l yX9_byGlances (wsU yX9_byGlances cX9_byGlances 15 none) rm_X9_byGlances (va_Pc [.ref (gad G 130), .int x1, .int x2, .int x3, .int x4, .long x5, .int x7] (PreG G w)) (QV G z) 0 0 (gA G) := by
  refine Met.ofW (cc := cX9_byGlances) (maxL := 15) (ret := none) (by decide) rfl ?_
  intro p e s m args below meth c s₁ B hml hv
  obtain ⟨rfl, S⟩ := hv
  have F : CallFix p m c cX9_byGlances 15 s _ (wsU yX9_byGlances cX9_byGlances 15 none) RX9 := ⟨B.exec, B.bytes, hml, findClass_of_methodNamed B.named, atoms_spec B.pre⟩
  have hr := B.returns
  have hlk := B.notSynchronized
  obtain ⟨hx, hb, -, hown, hts⟩ := id F
  have hg : ∀ q ∈ lwg, q.before _ s = true := fun q h => hts q (List.mem_cons_of_mem _ h)
  refine g_entry (Nat.le_of_ble_eq_true rfl) (fun ls hl => ?_)
  have hl : lv_has ls 15 [(0, .ref (gad G 130)), (1, .int x1), (2, .int x2), (3, .int x3), (4, .int x4), (5, .long x5), (7, .int x7)] := hl
  have S : St G w s s.heap [] := S
  generalize s.heap = H at S ⊢
  generalize ([] : List Loc) = locs at S ⊢
  rw [f_X9_byGlances] at hz
  refine lv_aload_n hx hb dX9_byGlances_0 rfl (lv_at hl 0 rfl) ?_
  refine lv_iload_n hx hb dX9_byGlances_1 rfl (lv_at hl 3 rfl) ?_
  obtain ⟨q1, e2, hz⟩ := bd hz
  refine g_callVi (As := [.int x3]) (rest := []) F S (c_X9_glancesOf l G x3  _ e2) (cw_X9_byGlances_X9_glancesOf_292 hg) (S.obj (by decide) (by decide) rfl (oc_X9 _ _ _ (by decide))) rfl hl.1 rfl (Nat.le_of_ble_eq_true rfl) ⟨Nat.zero_le _, Nat.zero_le _⟩ dX9_byGlances_2 (fun H locs  S => ?_)
  refine lv_istore (lv' := [(8, .int q1.1), (0, .ref (gad G 130)), (1, .int x1), (2, .int x2), (3, .int x3), (4, .int x4), (5, .long x5), (7, .int x7)]) hx hb dX9_byGlances_5 hl (by decide) rfl (fun ls hl => ?_)
  refine lv_iconst (v := 0) hx hb dX9_byGlances_7 (by decide) ?_
  refine lv_istore (lv' := [(9, .int 0), (8, .int q1.1), (0, .ref (gad G 130)), (1, .int x1), (2, .int x2), (3, .int x3), (4, .int x4), (5, .long x5), (7, .int x7)]) hx hb dX9_byGlances_8 hl (by decide) rfl (fun ls hl => ?_)
  exact w_X9_byGlances_10 F hr hlk fu x1 x2 x3 x4 x5 x7 q1.1 0 _ _ _ _ S (lv_sub hl [2, 3, 4, 5, 6, 7, 8, 1, 0] rfl) hz
noncomputable def f_X9_lays_199 (k_95 : Int32 → Int32 → Int32 → Int32 → Int32 → Int32 → GW → Option (Int32 × GW)) : Nat → Int32 → Int32 → Int32 → Int32 → Int32 → Int32 → Int32 → GW → Option (Int32 × GW)
  | 0, _, _, _, _, _, _, _, _ => none
  | n9 + 1, x1, x2, x3, x4, x5, x8, x9, w =>
    if (gI w 130 28) ≤ x9 then
      k_95 x1 x2 x3 x4 x5 (x8 + 1) w
    else
      if inb x9 8000 then
      if inb x9 8000 then
      if inb x9 8000 then
      if inb x9 8000 then
      f_X9_lays_199 k_95 n9 x1 x2 x3 x4 x5 x8 (x9 + 1) (sL (sI w 139 (ix x9) (gI w 140 (ix x9))) 142 (ix x9) (gL (sI w 139 (ix x9) (gI w 140 (ix x9))) 143 (ix x9)))
      else none
      else none
      else none
      else none
noncomputable def f_X9_lays_182 (k_95 : Int32 → Int32 → Int32 → Int32 → Int32 → Int32 → GW → Option (Int32 × GW)) (k_109 : Int32 → Int32 → Int32 → Int32 → Int32 → Int32 → Int32 → GW → Option (Int32 × GW)) (x1 : Int32) (x2 : Int32) (x3 : Int32) (x4 : Int32) (x5 : Int32) (x8 : Int32) (x9 : Int32) (w : GW) : Option (Int32 × GW) :=
  k_109 x1 x2 x3 x4 x5 x8 (x9 + 1) w
noncomputable def f_X9_lays_177 (k_95 : Int32 → Int32 → Int32 → Int32 → Int32 → Int32 → GW → Option (Int32 × GW)) (k_109 : Int32 → Int32 → Int32 → Int32 → Int32 → Int32 → Int32 → GW → Option (Int32 × GW)) (x1 : Int32) (x2 : Int32) (x3 : Int32) (x4 : Int32) (x5 : Int32) (x8 : Int32) (x9 : Int32) (t0 : Int64) (t1 : Int32) (t2 : Int32) (t3 : Int32) (t4 : Int32) (w : GW) : Option (Int32 × GW) :=
  (f_X9_byGlances t4 t3 t2 t1 t0 x8 w).bind fun q21 =>
  f_X9_lays_182 k_95 k_109 x1 x2 x3 x4 x5 x8 x9 q21.2
noncomputable def f_X9_lays_109 (k_95 : Int32 → Int32 → Int32 → Int32 → Int32 → Int32 → GW → Option (Int32 × GW)) : Nat → Int32 → Int32 → Int32 → Int32 → Int32 → Int32 → Int32 → GW → Option (Int32 × GW)
  | 0, _, _, _, _, _, _, _, _ => none
  | n9 + 1, x1, x2, x3, x4, x5, x8, x9, w =>
    if (gI w 130 28) ≤ x9 then
      f_X9_lays_199 k_95 fu x1 x2 x3 x4 x5 x8 0 (sI w 130 28 (gI w 130 29))
    else
      (f_X9_isDoor x8 w).bind fun q15 =>
      if q15.1 = 0 then
        if inb x9 8000 then
        if x5 = 0 then
          f_X9_lays_177 k_95 (f_X9_lays_109 k_95 n9) x1 x2 x3 x4 x5 x8 x9 0 (gI q15.2 139 (ix x9)) x3 x2 x1 q15.2
        else
          if inb x9 8000 then
          f_X9_lays_177 k_95 (f_X9_lays_109 k_95 n9) x1 x2 x3 x4 x5 x8 x9 (gL q15.2 142 (ix x9)) (gI q15.2 139 (ix x9)) x3 x2 x1 q15.2
          else none
        else none
      else
        if inb x9 8000 then
        if inb x9 8000 then
        (f_X9_byDoor (gI q15.2 139 (ix x9)) (gL q15.2 142 (ix x9)) x8 q15.2).bind fun q26 =>
        f_X9_lays_182 k_95 (f_X9_lays_109 k_95 n9) x1 x2 x3 x4 x5 x8 x9 q26.2
        else none
        else none
noncomputable def f_X9_lays_95  : Nat → Int32 → Int32 → Int32 → Int32 → Int32 → Int32 → GW → Option (Int32 × GW)
  | 0, _, _, _, _, _, _, _ => none
  | n9 + 1, x1, x2, x3, x4, x5, x8, w =>
    if x4 < x8 then
      some (1, w)
    else
      (f_X9_clearSlots w).bind fun q7 =>
      f_X9_lays_109 (f_X9_lays_95 n9) fu x1 x2 x3 x4 x5 x8 0 q7.2
noncomputable def f_X9_lays_92  (x1 : Int32) (x2 : Int32) (x3 : Int32) (x4 : Int32) (x5 : Int32) (w : GW) : Option (Int32 × GW) :=
  f_X9_lays_95 fu x1 x2 x3 x4 x5 1 w
noncomputable def f_X9_lays_86 (k_35 : Int32 → Int32 → Int32 → Int32 → Int32 → Int64 → Int32 → GW → Option (Int32 × GW)) (x1 : Int32) (x2 : Int32) (x3 : Int32) (x4 : Int32) (x5 : Int32) (x6 : Int64) (x8 : Int32) (w : GW) : Option (Int32 × GW) :=
  k_35 x1 x2 x3 x4 x5 x6 (x8 + 1) w
noncomputable def f_X9_lays_35  : Nat → Int32 → Int32 → Int32 → Int32 → Int32 → Int64 → Int32 → GW → Option (Int32 × GW)
  | 0, _, _, _, _, _, _, _, _ => none
  | n9 + 1, x1, x2, x3, x4, x5, x6, x8, w =>
    if x4 < x8 then
      f_X9_lays_92 x1 x2 x3 x4 x5 w
    else
      if x5 = 0 then
        f_X9_lays_92 x1 x2 x3 x4 x5 w
      else
        (f_X9_isDoor x8 w).bind fun q29 =>
        if q29.1 = 0 then
          if ¬ x6 = 0 then
          if (gL q29.2 130 30) ≤ (1000000000000000 / x6) then
            f_X9_lays_86 (f_X9_lays_35 n9) x1 x2 x3 x4 x5 x6 x8 (sL q29.2 130 30 ((gL q29.2 130 30) * x6))
          else
            some (0, q29.2)
          else none
        else
          f_X9_lays_86 (f_X9_lays_35 n9) x1 x2 x3 x4 x5 x6 x8 q29.2
noncomputable def f_X9_lays (x1 : Int32) (x2 : Int32) (x3 : Int32) (x4 : Int32) (x5 : Int32) (w : GW) : Option (Int32 × GW) :=
  if inb 0 8000 then
  if inb 0 8000 then
  (f_X9_waysOf x1 x3 (sL (sL (sI (sI w 130 28 1) 139 (ix 0) 0) 142 (ix 0) 1) 130 30 1)).bind fun q3 =>
  f_X9_lays_35 fu x1 x2 x3 x4 x5 q3.1 1 q3.2
  else none
  else none
set_option maxHeartbeats 4000000 in
set_option maxRecDepth 100000 in
theorem w_X9_lays_199 {p : Program} {l : Launch} {e : Env} {s : State} {m : MethodId} {args : Array Value} {below : List Frame} {meth : Method} {c : Code} {G : GG} (F : CallFix p m c cX9_lays 10 s args (wsU yX9_lays cX9_lays 10 (some .boolean)) RX9) (hr : meth.sig.returnType = (some .boolean)) (hlk : meth.locks = false) {z : Int32 × GW} {k_95 : Int32 → Int32 → Int32 → Int32 → Int32 → Int32 → GW → Option (Int32 × GW)} (Hk_95 : (∀ (x1 : Int32) (x2 : Int32) (x3 : Int32) (x4 : Int32) (x5 : Int32) (x8 : Int32) (w : GW) (H : Heap) (locs : List Loc) (ls : Array Slot), St G w s H locs → lv_has ls 10 [(0, .ref (gad G 130)), (1, .int x1), (2, .int x2), (3, .int x3), (4, .int x4), (5, .int x5), (8, .int x8)] → k_95 x1 x2 x3 x4 x5 x8 w = some z → W p l e (headSpec (wsU yX9_lays cX9_lays 10 (some .boolean)) rm_X9_lays).room s m args below meth c H locs 0 0 (MQ below (QB G z) args s 0 0 (gA G)) (F0 m 95 ls []))) : ∀ (n9 : Nat), (∀ (x1 : Int32) (x2 : Int32) (x3 : Int32) (x4 : Int32) (x5 : Int32) (x8 : Int32) (x9 : Int32) (w : GW) (H : Heap) (locs : List Loc) (ls : Array Slot), St G w s H locs → lv_has ls 10 [(0, .ref (gad G 130)), (1, .int x1), (2, .int x2), (3, .int x3), (4, .int x4), (5, .int x5), (8, .int x8), (9, .int x9)] → f_X9_lays_199 k_95 n9 x1 x2 x3 x4 x5 x8 x9 w = some z → W p l e (headSpec (wsU yX9_lays cX9_lays 10 (some .boolean)) rm_X9_lays).room s m args below meth c H locs 0 0 (MQ below (QB G z) args s 0 0 (gA G)) (F0 m 199 ls [])) := by
  obtain ⟨hx, hb, hml, hown, hts⟩ := id F
  have hg : ∀ q ∈ lwg, q.before args s = true := fun q h => hts q (List.mem_cons_of_mem _ h)
  intro n9
  induction n9 with
  | zero =>
    intro x1 x2 x3 x4 x5 x8 x9 w H locs ls S hl hz
    rw [f_X9_lays_199] at hz
    cases hz
  | succ n9 ih =>
    intro x1 x2 x3 x4 x5 x8 x9 w H locs ls S hl hz
    rw [f_X9_lays_199] at hz
    refine lv_iload hx hb dX9_lays_199 (lv_at hl 7 rfl) ?_
    refine lv_aload_n hx hb dX9_lays_201 rfl (lv_at hl 0 rfl) ?_
    refine fg_X9_28 hx hb (fun q h => hg q (tl_X9 q h)) hown (hg _ t_fl_X9_252) S (by decide) dX9_lays_202 ?_
    refine lv_icmp_ge (tgt := 242) hx hb dX9_lays_205 (by decide) (fun c10 => ?_) (fun c10 => ?_)
    · have hz := ipt (c10) hz
      refine lv_iinc (v := (x8 + 1)) (lv' := [(8, .int (x8 + 1)), (0, .ref (gad G 130)), (1, .int x1), (2, .int x2), (3, .int x3), (4, .int x4), (5, .int x5), (9, .int x9)]) hx hb dX9_lays_242 hl (k := 6) rfl rfl (by decide) rfl (fun ls hl => ?_)
      refine lv_goto (tgt := 95) hx hb dX9_lays_245 (by decide) ?_
      exact Hk_95 x1 x2 x3 x4 x5 (x8 + 1)  _ _ _ _ S (lv_sub hl [1, 2, 3, 4, 5, 6, 0] rfl) hz
    · have hz := ipf (c10) hz
      refine lv_aload_n hx hb dX9_lays_208 rfl (lv_at hl 0 rfl) ?_
      refine fg_X9_23 hx hb (fun q h => hg q (tl_X9 q h)) hown (hg _ t_fl_X9_38) S (by decide) dX9_lays_209 ?_
      refine lv_iload hx hb dX9_lays_212 (lv_at hl 7 rfl) ?_
      refine lv_aload_n hx hb dX9_lays_214 rfl (lv_at hl 0 rfl) ?_
      refine fg_X9_24 hx hb (fun q h => hg q (tl_X9 q h)) hown (hg _ t_fl_X9_41) S (by decide) dX9_lays_215 ?_
      refine lv_iload hx hb dX9_lays_218 (lv_at hl 7 rfl) ?_
      obtain ⟨h11, hz⟩ := ck hz
      refine g_iald hx hb S (isA_18 (by decide)) h11 dX9_lays_220 ?_
      obtain ⟨h12, hz⟩ := ck hz
      refine g_iast (x := (gI w 140 (ix x9))) hx hb S (isA_18 (by decide)) h12 dX9_lays_221 (fun H locs S => ?_)
      refine lv_aload_n hx hb dX9_lays_222 rfl (lv_at hl 0 rfl) ?_
      refine fg_X9_26 hx hb (fun q h => hg q (tl_X9 q h)) hown (hg _ t_fl_X9_47) S (by decide) dX9_lays_223 ?_
      refine lv_iload hx hb dX9_lays_226 (lv_at hl 7 rfl) ?_
      refine lv_aload_n hx hb dX9_lays_228 rfl (lv_at hl 0 rfl) ?_
      refine fg_X9_27 hx hb (fun q h => hg q (tl_X9 q h)) hown (hg _ t_fl_X9_51) S (by decide) dX9_lays_229 ?_
      refine lv_iload hx hb dX9_lays_232 (lv_at hl 7 rfl) ?_
      obtain ⟨h13, hz⟩ := ck hz
      refine g_lald hx hb S (isA_27 (by decide)) h13 dX9_lays_234 ?_
      obtain ⟨h14, hz⟩ := ck hz
      refine g_last (x := (gL (sI w 139 (ix x9) (gI w 140 (ix x9))) 143 (ix x9))) hx hb S (isA_27 (by decide)) h14 dX9_lays_235 (fun H locs S => ?_)
      refine lv_iinc (v := (x9 + 1)) (lv' := [(9, .int (x9 + 1)), (0, .ref (gad G 130)), (1, .int x1), (2, .int x2), (3, .int x3), (4, .int x4), (5, .int x5), (8, .int x8)]) hx hb dX9_lays_236 hl (k := 7) rfl rfl (by decide) rfl (fun ls hl => ?_)
      refine lv_goto (tgt := 199) hx hb dX9_lays_239 (by decide) ?_
      exact ih x1 x2 x3 x4 x5 x8 (x9 + 1)  _ _ _ _ S (lv_sub hl [1, 2, 3, 4, 5, 6, 7, 0] rfl) hz
set_option maxHeartbeats 4000000 in
set_option maxRecDepth 100000 in
theorem w_X9_lays_182 {p : Program} {l : Launch} {e : Env} {s : State} {m : MethodId} {args : Array Value} {below : List Frame} {meth : Method} {c : Code} {G : GG} (F : CallFix p m c cX9_lays 10 s args (wsU yX9_lays cX9_lays 10 (some .boolean)) RX9) (hr : meth.sig.returnType = (some .boolean)) (hlk : meth.locks = false) {z : Int32 × GW} {k_95 : Int32 → Int32 → Int32 → Int32 → Int32 → Int32 → GW → Option (Int32 × GW)} (Hk_95 : (∀ (x1 : Int32) (x2 : Int32) (x3 : Int32) (x4 : Int32) (x5 : Int32) (x8 : Int32) (w : GW) (H : Heap) (locs : List Loc) (ls : Array Slot), St G w s H locs → lv_has ls 10 [(0, .ref (gad G 130)), (1, .int x1), (2, .int x2), (3, .int x3), (4, .int x4), (5, .int x5), (8, .int x8)] → k_95 x1 x2 x3 x4 x5 x8 w = some z → W p l e (headSpec (wsU yX9_lays cX9_lays 10 (some .boolean)) rm_X9_lays).room s m args below meth c H locs 0 0 (MQ below (QB G z) args s 0 0 (gA G)) (F0 m 95 ls []))) {k_109 : Int32 → Int32 → Int32 → Int32 → Int32 → Int32 → Int32 → GW → Option (Int32 × GW)} (Hk_109 : (∀ (x1 : Int32) (x2 : Int32) (x3 : Int32) (x4 : Int32) (x5 : Int32) (x8 : Int32) (x9 : Int32) (w : GW) (H : Heap) (locs : List Loc) (ls : Array Slot), St G w s H locs → lv_has ls 10 [(0, .ref (gad G 130)), (1, .int x1), (2, .int x2), (3, .int x3), (4, .int x4), (5, .int x5), (8, .int x8), (9, .int x9)] → k_109 x1 x2 x3 x4 x5 x8 x9 w = some z → W p l e (headSpec (wsU yX9_lays cX9_lays 10 (some .boolean)) rm_X9_lays).room s m args below meth c H locs 0 0 (MQ below (QB G z) args s 0 0 (gA G)) (F0 m 109 ls []))) : (∀ (x1 : Int32) (x2 : Int32) (x3 : Int32) (x4 : Int32) (x5 : Int32) (x8 : Int32) (x9 : Int32) (w : GW) (H : Heap) (locs : List Loc) (ls : Array Slot), St G w s H locs → lv_has ls 10 [(0, .ref (gad G 130)), (1, .int x1), (2, .int x2), (3, .int x3), (4, .int x4), (5, .int x5), (8, .int x8), (9, .int x9)] → f_X9_lays_182 k_95 k_109 x1 x2 x3 x4 x5 x8 x9 w = some z → W p l e (headSpec (wsU yX9_lays cX9_lays 10 (some .boolean)) rm_X9_lays).room s m args below meth c H locs 0 0 (MQ below (QB G z) args s 0 0 (gA G)) (F0 m 182 ls [])) := by
  obtain ⟨hx, hb, hml, hown, hts⟩ := id F
  have hg : ∀ q ∈ lwg, q.before args s = true := fun q h => hts q (List.mem_cons_of_mem _ h)
  intro x1 x2 x3 x4 x5 x8 x9 w H locs ls S hl hz
  rw [f_X9_lays_182] at hz
  refine lv_iinc (v := (x9 + 1)) (lv' := [(9, .int (x9 + 1)), (0, .ref (gad G 130)), (1, .int x1), (2, .int x2), (3, .int x3), (4, .int x4), (5, .int x5), (8, .int x8)]) hx hb dX9_lays_182 hl (k := 7) rfl rfl (by decide) rfl (fun ls hl => ?_)
  refine lv_goto (tgt := 109) hx hb dX9_lays_185 (by decide) ?_
  exact Hk_109 x1 x2 x3 x4 x5 x8 (x9 + 1)  _ _ _ _ S (lv_sub hl [1, 2, 3, 4, 5, 6, 7, 0] rfl) hz
set_option maxHeartbeats 4000000 in
set_option maxRecDepth 100000 in
theorem w_X9_lays_177 {p : Program} {l : Launch} {e : Env} {s : State} {m : MethodId} {args : Array Value} {below : List Frame} {meth : Method} {c : Code} {G : GG} (F : CallFix p m c cX9_lays 10 s args (wsU yX9_lays cX9_lays 10 (some .boolean)) RX9) (hr : meth.sig.returnType = (some .boolean)) (hlk : meth.locks = false) {z : Int32 × GW} {k_95 : Int32 → Int32 → Int32 → Int32 → Int32 → Int32 → GW → Option (Int32 × GW)} (Hk_95 : (∀ (x1 : Int32) (x2 : Int32) (x3 : Int32) (x4 : Int32) (x5 : Int32) (x8 : Int32) (w : GW) (H : Heap) (locs : List Loc) (ls : Array Slot), St G w s H locs → lv_has ls 10 [(0, .ref (gad G 130)), (1, .int x1), (2, .int x2), (3, .int x3), (4, .int x4), (5, .int x5), (8, .int x8)] → k_95 x1 x2 x3 x4 x5 x8 w = some z → W p l e (headSpec (wsU yX9_lays cX9_lays 10 (some .boolean)) rm_X9_lays).room s m args below meth c H locs 0 0 (MQ below (QB G z) args s 0 0 (gA G)) (F0 m 95 ls []))) {k_109 : Int32 → Int32 → Int32 → Int32 → Int32 → Int32 → Int32 → GW → Option (Int32 × GW)} (Hk_109 : (∀ (x1 : Int32) (x2 : Int32) (x3 : Int32) (x4 : Int32) (x5 : Int32) (x8 : Int32) (x9 : Int32) (w : GW) (H : Heap) (locs : List Loc) (ls : Array Slot), St G w s H locs → lv_has ls 10 [(0, .ref (gad G 130)), (1, .int x1), (2, .int x2), (3, .int x3), (4, .int x4), (5, .int x5), (8, .int x8), (9, .int x9)] → k_109 x1 x2 x3 x4 x5 x8 x9 w = some z → W p l e (headSpec (wsU yX9_lays cX9_lays 10 (some .boolean)) rm_X9_lays).room s m args below meth c H locs 0 0 (MQ below (QB G z) args s 0 0 (gA G)) (F0 m 109 ls []))) : (∀ (x1 : Int32) (x2 : Int32) (x3 : Int32) (x4 : Int32) (x5 : Int32) (x8 : Int32) (x9 : Int32) (t0 : Int64) (t1 : Int32) (t2 : Int32) (t3 : Int32) (t4 : Int32) (w : GW) (H : Heap) (locs : List Loc) (ls : Array Slot), St G w s H locs → lv_has ls 10 [(0, .ref (gad G 130)), (1, .int x1), (2, .int x2), (3, .int x3), (4, .int x4), (5, .int x5), (8, .int x8), (9, .int x9)] → f_X9_lays_177 k_95 k_109 x1 x2 x3 x4 x5 x8 x9 t0 t1 t2 t3 t4 w = some z → W p l e (headSpec (wsU yX9_lays cX9_lays 10 (some .boolean)) rm_X9_lays).room s m args below meth c H locs 0 0 (MQ below (QB G z) args s 0 0 (gA G)) (F0 m 177 ls [.long t0, .int t1, .int t2, .int t3, .int t4, .ref (gad G 130)])) := by
  obtain ⟨hx, hb, hml, hown, hts⟩ := id F
  have hg : ∀ q ∈ lwg, q.before args s = true := fun q h => hts q (List.mem_cons_of_mem _ h)
  intro x1 x2 x3 x4 x5 x8 x9 t0 t1 t2 t3 t4 w H locs ls S hl hz
  rw [f_X9_lays_177] at hz
  refine lv_iload hx hb dX9_lays_177 (lv_at hl 6 rfl) ?_
  obtain ⟨q21, e22, hz⟩ := bd hz
  refine g_callVv (As := [.int t4, .int t3, .int t2, .int t1, .long t0, .int x8]) (rest := []) F S (c_X9_byGlances l G t4 t3 t2 t1 t0 x8  _ e22) (cw_X9_lays_X9_byGlances_275 hg) (S.obj (by decide) (by decide) rfl (oc_X9 _ _ _ (by decide))) rfl hl.1 rfl (Nat.le_of_ble_eq_true rfl) ⟨Nat.zero_le _, Nat.zero_le _⟩ dX9_lays_179 (fun H locs  S => ?_)
  exact w_X9_lays_182 F hr hlk Hk_95 Hk_109 x1 x2 x3 x4 x5 x8 x9 _ _ _ _ S (lv_sub hl [0, 1, 2, 3, 4, 5, 6, 7] rfl) hz
set_option maxHeartbeats 4000000 in
set_option maxRecDepth 100000 in
theorem w_X9_lays_109 {p : Program} {l : Launch} {e : Env} {s : State} {m : MethodId} {args : Array Value} {below : List Frame} {meth : Method} {c : Code} {G : GG} (F : CallFix p m c cX9_lays 10 s args (wsU yX9_lays cX9_lays 10 (some .boolean)) RX9) (hr : meth.sig.returnType = (some .boolean)) (hlk : meth.locks = false) {z : Int32 × GW} {k_95 : Int32 → Int32 → Int32 → Int32 → Int32 → Int32 → GW → Option (Int32 × GW)} (Hk_95 : (∀ (x1 : Int32) (x2 : Int32) (x3 : Int32) (x4 : Int32) (x5 : Int32) (x8 : Int32) (w : GW) (H : Heap) (locs : List Loc) (ls : Array Slot), St G w s H locs → lv_has ls 10 [(0, .ref (gad G 130)), (1, .int x1), (2, .int x2), (3, .int x3), (4, .int x4), (5, .int x5), (8, .int x8)] → k_95 x1 x2 x3 x4 x5 x8 w = some z → W p l e (headSpec (wsU yX9_lays cX9_lays 10 (some .boolean)) rm_X9_lays).room s m args below meth c H locs 0 0 (MQ below (QB G z) args s 0 0 (gA G)) (F0 m 95 ls []))) : ∀ (n9 : Nat), (∀ (x1 : Int32) (x2 : Int32) (x3 : Int32) (x4 : Int32) (x5 : Int32) (x8 : Int32) (x9 : Int32) (w : GW) (H : Heap) (locs : List Loc) (ls : Array Slot), St G w s H locs → lv_has ls 10 [(0, .ref (gad G 130)), (1, .int x1), (2, .int x2), (3, .int x3), (4, .int x4), (5, .int x5), (8, .int x8), (9, .int x9)] → f_X9_lays_109 k_95 n9 x1 x2 x3 x4 x5 x8 x9 w = some z → W p l e (headSpec (wsU yX9_lays cX9_lays 10 (some .boolean)) rm_X9_lays).room s m args below meth c H locs 0 0 (MQ below (QB G z) args s 0 0 (gA G)) (F0 m 109 ls [])) := by
  obtain ⟨hx, hb, hml, hown, hts⟩ := id F
  have hg : ∀ q ∈ lwg, q.before args s = true := fun q h => hts q (List.mem_cons_of_mem _ h)
  intro n9
  induction n9 with
  | zero =>
    intro x1 x2 x3 x4 x5 x8 x9 w H locs ls S hl hz
    rw [f_X9_lays_109] at hz
    cases hz
  | succ n9 ih =>
    intro x1 x2 x3 x4 x5 x8 x9 w H locs ls S hl hz
    rw [f_X9_lays_109] at hz
    refine lv_iload hx hb dX9_lays_109 (lv_at hl 7 rfl) ?_
    refine lv_aload_n hx hb dX9_lays_111 rfl (lv_at hl 0 rfl) ?_
    refine fg_X9_28 hx hb (fun q h => hg q (tl_X9 q h)) hown (hg _ t_fl_X9_252) S (by decide) dX9_lays_112 ?_
    refine lv_icmp_ge (tgt := 188) hx hb dX9_lays_115 (by decide) (fun c9 => ?_) (fun c9 => ?_)
    · have hz := ipt (c9) hz
      refine lv_aload_n hx hb dX9_lays_188 rfl (lv_at hl 0 rfl) ?_
      refine lv_aload_n hx hb dX9_lays_189 rfl (lv_at hl 0 rfl) ?_
      refine fg_X9_29 hx hb (fun q h => hg q (tl_X9 q h)) hown (hg _ t_fl_X9_249) S (by decide) dX9_lays_190 ?_
      refine fp_X9_28 (v := (gI w 130 29)) hx hb (fun q h => hg q (tl_X9 q h)) hown (hg _ t_fl_X9_252) S (by decide) dX9_lays_193 (fun H locs S => ?_)
      refine lv_iconst (v := 0) hx hb dX9_lays_196 (by decide) ?_
      refine lv_istore (lv' := [(9, .int 0), (0, .ref (gad G 130)), (1, .int x1), (2, .int x2), (3, .int x3), (4, .int x4), (5, .int x5), (8, .int x8)]) hx hb dX9_lays_197 hl (by decide) rfl (fun ls hl => ?_)
      exact w_X9_lays_199 F hr hlk Hk_95 fu x1 x2 x3 x4 x5 x8 0 _ _ _ _ S (lv_sub hl [1, 2, 3, 4, 5, 6, 7, 0] rfl) hz
    · have hz := ipf (c9) hz
      refine lv_aload_n hx hb dX9_lays_118 rfl (lv_at hl 0 rfl) ?_
      refine lv_iload hx hb dX9_lays_119 (lv_at hl 6 rfl) ?_
      obtain ⟨q15, e16, hz⟩ := bd hz
      refine g_callVb (As := [.int x8]) (rest := []) F S (c_X9_isDoor l G x8  _ e16) (cw_X9_lays_X9_isDoor_263 hg) (S.obj (by decide) (by decide) rfl (oc_X9 _ _ _ (by decide))) rfl hl.1 rfl (Nat.le_of_ble_eq_true rfl) ⟨Nat.zero_le _, Nat.zero_le _⟩ dX9_lays_121 (fun H locs hB17 S => ?_)
      refine lv_if_eq (tgt := 150) hx hb dX9_lays_124 (by decide) (fun c18 => ?_) (fun c18 => ?_)
      · have hz := ipt (c18) hz
        refine lv_aload_n hx hb dX9_lays_150 rfl (lv_at hl 0 rfl) ?_
        refine lv_iload_n hx hb dX9_lays_151 rfl (lv_at hl 1 rfl) ?_
        refine lv_iload_n hx hb dX9_lays_152 rfl (lv_at hl 2 rfl) ?_
        refine lv_iload_n hx hb dX9_lays_153 rfl (lv_at hl 3 rfl) ?_
        refine lv_aload_n hx hb dX9_lays_154 rfl (lv_at hl 0 rfl) ?_
        refine fg_X9_23 hx hb (fun q h => hg q (tl_X9 q h)) hown (hg _ t_fl_X9_38) S (by decide) dX9_lays_155 ?_
        refine lv_iload hx hb dX9_lays_158 (lv_at hl 7 rfl) ?_
        obtain ⟨h19, hz⟩ := ck hz
        refine g_iald hx hb S (isA_18 (by decide)) h19 dX9_lays_160 ?_
        refine lv_iload hx hb dX9_lays_161 (lv_at hl 5 rfl) ?_
        refine lv_if_eq (tgt := 176) hx hb dX9_lays_163 (by decide) (fun c20 => ?_) (fun c20 => ?_)
        · have hz := ipt (c20) hz
          refine lv_lconst (v := 0) hx hb dX9_lays_176 (by decide) ?_
          exact w_X9_lays_177 F hr hlk Hk_95 ih x1 x2 x3 x4 x5 x8 x9 0 (gI q15.2 139 (ix x9)) x3 x2 x1 _ _ _ _ S (lv_sub hl [0, 1, 2, 3, 4, 5, 6, 7] rfl) hz
        · have hz := ipf (c20) hz
          refine lv_aload_n hx hb dX9_lays_166 rfl (lv_at hl 0 rfl) ?_
          refine fg_X9_26 hx hb (fun q h => hg q (tl_X9 q h)) hown (hg _ t_fl_X9_47) S (by decide) dX9_lays_167 ?_
          refine lv_iload hx hb dX9_lays_170 (lv_at hl 7 rfl) ?_
          obtain ⟨h23, hz⟩ := ck hz
          refine g_lald hx hb S (isA_27 (by decide)) h23 dX9_lays_172 ?_
          refine lv_goto (tgt := 177) hx hb dX9_lays_173 (by decide) ?_
          exact w_X9_lays_177 F hr hlk Hk_95 ih x1 x2 x3 x4 x5 x8 x9 (gL q15.2 142 (ix x9)) (gI q15.2 139 (ix x9)) x3 x2 x1 _ _ _ _ S (lv_sub hl [0, 1, 2, 3, 4, 5, 6, 7] rfl) hz
      · have hz := ipf (c18) hz
        refine lv_aload_n hx hb dX9_lays_127 rfl (lv_at hl 0 rfl) ?_
        refine lv_aload_n hx hb dX9_lays_128 rfl (lv_at hl 0 rfl) ?_
        refine fg_X9_23 hx hb (fun q h => hg q (tl_X9 q h)) hown (hg _ t_fl_X9_38) S (by decide) dX9_lays_129 ?_
        refine lv_iload hx hb dX9_lays_132 (lv_at hl 7 rfl) ?_
        obtain ⟨h24, hz⟩ := ck hz
        refine g_iald hx hb S (isA_18 (by decide)) h24 dX9_lays_134 ?_
        refine lv_aload_n hx hb dX9_lays_135 rfl (lv_at hl 0 rfl) ?_
        refine fg_X9_26 hx hb (fun q h => hg q (tl_X9 q h)) hown (hg _ t_fl_X9_47) S (by decide) dX9_lays_136 ?_
        refine lv_iload hx hb dX9_lays_139 (lv_at hl 7 rfl) ?_
        obtain ⟨h25, hz⟩ := ck hz
        refine g_lald hx hb S (isA_27 (by decide)) h25 dX9_lays_141 ?_
        refine lv_iload hx hb dX9_lays_142 (lv_at hl 6 rfl) ?_
        obtain ⟨q26, e27, hz⟩ := bd hz
        refine g_callVv (As := [.int (gI q15.2 139 (ix x9)), .long (gL q15.2 142 (ix x9)), .int x8]) (rest := []) F S (c_X9_byDoor l G (gI q15.2 139 (ix x9)) (gL q15.2 142 (ix x9)) x8  _ e27) (cw_X9_lays_X9_byDoor_271 hg) (S.obj (by decide) (by decide) rfl (oc_X9 _ _ _ (by decide))) rfl hl.1 rfl (Nat.le_of_ble_eq_true rfl) ⟨Nat.zero_le _, Nat.zero_le _⟩ dX9_lays_144 (fun H locs  S => ?_)
        refine lv_goto (tgt := 182) hx hb dX9_lays_147 (by decide) ?_
        exact w_X9_lays_182 F hr hlk Hk_95 ih x1 x2 x3 x4 x5 x8 x9 _ _ _ _ S (lv_sub hl [0, 1, 2, 3, 4, 5, 6, 7] rfl) hz
set_option maxHeartbeats 4000000 in
set_option maxRecDepth 100000 in
theorem w_X9_lays_95 {p : Program} {l : Launch} {e : Env} {s : State} {m : MethodId} {args : Array Value} {below : List Frame} {meth : Method} {c : Code} {G : GG} (F : CallFix p m c cX9_lays 10 s args (wsU yX9_lays cX9_lays 10 (some .boolean)) RX9) (hr : meth.sig.returnType = (some .boolean)) (hlk : meth.locks = false) {z : Int32 × GW} : ∀ (n9 : Nat), (∀ (x1 : Int32) (x2 : Int32) (x3 : Int32) (x4 : Int32) (x5 : Int32) (x8 : Int32) (w : GW) (H : Heap) (locs : List Loc) (ls : Array Slot), St G w s H locs → lv_has ls 10 [(0, .ref (gad G 130)), (1, .int x1), (2, .int x2), (3, .int x3), (4, .int x4), (5, .int x5), (8, .int x8)] → f_X9_lays_95 n9 x1 x2 x3 x4 x5 x8 w = some z → W p l e (headSpec (wsU yX9_lays cX9_lays 10 (some .boolean)) rm_X9_lays).room s m args below meth c H locs 0 0 (MQ below (QB G z) args s 0 0 (gA G)) (F0 m 95 ls [])) := by
  obtain ⟨hx, hb, hml, hown, hts⟩ := id F
  have hg : ∀ q ∈ lwg, q.before args s = true := fun q h => hts q (List.mem_cons_of_mem _ h)
  intro n9
  induction n9 with
  | zero =>
    intro x1 x2 x3 x4 x5 x8 w H locs ls S hl hz
    rw [f_X9_lays_95] at hz
    cases hz
  | succ n9 ih =>
    intro x1 x2 x3 x4 x5 x8 w H locs ls S hl hz
    rw [f_X9_lays_95] at hz
    refine lv_iload hx hb dX9_lays_95 (lv_at hl 6 rfl) ?_
    refine lv_iload hx hb dX9_lays_97 (lv_at hl 4 rfl) ?_
    refine lv_icmp_gt (tgt := 248) hx hb dX9_lays_99 (by decide) (fun c6 => ?_) (fun c6 => ?_)
    · have hz := ipt (c6) hz
      refine lv_iconst (v := 1) hx hb dX9_lays_248 (by decide) ?_
      exact g_retb hx hb hr hlk S isB_1 hz dX9_lays_249
    · have hz := ipf (c6) hz
      refine lv_aload_n hx hb dX9_lays_102 rfl (lv_at hl 0 rfl) ?_
      obtain ⟨q7, e8, hz⟩ := bd hz
      refine g_callVv (As := []) (rest := []) F S (c_X9_clearSlots l G   _ e8) (cw_X9_lays_X9_clearSlots_268 hg) (S.obj (by decide) (by decide) rfl (oc_X9 _ _ _ (by decide))) rfl hl.1 rfl (Nat.le_of_ble_eq_true rfl) ⟨Nat.zero_le _, Nat.zero_le _⟩ dX9_lays_103 (fun H locs  S => ?_)
      refine lv_iconst (v := 0) hx hb dX9_lays_106 (by decide) ?_
      refine lv_istore (lv' := [(9, .int 0), (0, .ref (gad G 130)), (1, .int x1), (2, .int x2), (3, .int x3), (4, .int x4), (5, .int x5), (8, .int x8)]) hx hb dX9_lays_107 hl (by decide) rfl (fun ls hl => ?_)
      exact w_X9_lays_109 F hr hlk ih fu x1 x2 x3 x4 x5 x8 0 _ _ _ _ S (lv_sub hl [1, 2, 3, 4, 5, 6, 7, 0] rfl) hz
set_option maxHeartbeats 4000000 in
set_option maxRecDepth 100000 in
theorem w_X9_lays_92 {p : Program} {l : Launch} {e : Env} {s : State} {m : MethodId} {args : Array Value} {below : List Frame} {meth : Method} {c : Code} {G : GG} (F : CallFix p m c cX9_lays 10 s args (wsU yX9_lays cX9_lays 10 (some .boolean)) RX9) (hr : meth.sig.returnType = (some .boolean)) (hlk : meth.locks = false) {z : Int32 × GW} : (∀ (x1 : Int32) (x2 : Int32) (x3 : Int32) (x4 : Int32) (x5 : Int32) (w : GW) (H : Heap) (locs : List Loc) (ls : Array Slot), St G w s H locs → lv_has ls 10 [(0, .ref (gad G 130)), (1, .int x1), (2, .int x2), (3, .int x3), (4, .int x4), (5, .int x5)] → f_X9_lays_92 x1 x2 x3 x4 x5 w = some z → W p l e (headSpec (wsU yX9_lays cX9_lays 10 (some .boolean)) rm_X9_lays).room s m args below meth c H locs 0 0 (MQ below (QB G z) args s 0 0 (gA G)) (F0 m 92 ls [])) := by
  obtain ⟨hx, hb, hml, hown, hts⟩ := id F
  have hg : ∀ q ∈ lwg, q.before args s = true := fun q h => hts q (List.mem_cons_of_mem _ h)
  intro x1 x2 x3 x4 x5 w H locs ls S hl hz
  rw [f_X9_lays_92] at hz
  refine lv_iconst (v := 1) hx hb dX9_lays_92 (by decide) ?_
  refine lv_istore (lv' := [(8, .int 1), (0, .ref (gad G 130)), (1, .int x1), (2, .int x2), (3, .int x3), (4, .int x4), (5, .int x5)]) hx hb dX9_lays_93 hl (by decide) rfl (fun ls hl => ?_)
  exact w_X9_lays_95 F hr hlk fu x1 x2 x3 x4 x5 1 _ _ _ _ S (lv_sub hl [1, 2, 3, 4, 5, 6, 0] rfl) hz
set_option maxHeartbeats 4000000 in
set_option maxRecDepth 100000 in
theorem w_X9_lays_86 {p : Program} {l : Launch} {e : Env} {s : State} {m : MethodId} {args : Array Value} {below : List Frame} {meth : Method} {c : Code} {G : GG} (F : CallFix p m c cX9_lays 10 s args (wsU yX9_lays cX9_lays 10 (some .boolean)) RX9) (hr : meth.sig.returnType = (some .boolean)) (hlk : meth.locks = false) {z : Int32 × GW} {k_35 : Int32 → Int32 → Int32 → Int32 → Int32 → Int64 → Int32 → GW → Option (Int32 × GW)} (Hk_35 : (∀ (x1 : Int32) (x2 : Int32) (x3 : Int32) (x4 : Int32) (x5 : Int32) (x6 : Int64) (x8 : Int32) (w : GW) (H : Heap) (locs : List Loc) (ls : Array Slot), St G w s H locs → lv_has ls 10 [(0, .ref (gad G 130)), (1, .int x1), (2, .int x2), (3, .int x3), (4, .int x4), (5, .int x5), (6, .long x6), (8, .int x8)] → k_35 x1 x2 x3 x4 x5 x6 x8 w = some z → W p l e (headSpec (wsU yX9_lays cX9_lays 10 (some .boolean)) rm_X9_lays).room s m args below meth c H locs 0 0 (MQ below (QB G z) args s 0 0 (gA G)) (F0 m 35 ls []))) : (∀ (x1 : Int32) (x2 : Int32) (x3 : Int32) (x4 : Int32) (x5 : Int32) (x6 : Int64) (x8 : Int32) (w : GW) (H : Heap) (locs : List Loc) (ls : Array Slot), St G w s H locs → lv_has ls 10 [(0, .ref (gad G 130)), (1, .int x1), (2, .int x2), (3, .int x3), (4, .int x4), (5, .int x5), (6, .long x6), (8, .int x8)] → f_X9_lays_86 k_35 x1 x2 x3 x4 x5 x6 x8 w = some z → W p l e (headSpec (wsU yX9_lays cX9_lays 10 (some .boolean)) rm_X9_lays).room s m args below meth c H locs 0 0 (MQ below (QB G z) args s 0 0 (gA G)) (F0 m 86 ls [])) := by
  obtain ⟨hx, hb, hml, hown, hts⟩ := id F
  have hg : ∀ q ∈ lwg, q.before args s = true := fun q h => hts q (List.mem_cons_of_mem _ h)
  intro x1 x2 x3 x4 x5 x6 x8 w H locs ls S hl hz
  rw [f_X9_lays_86] at hz
  refine lv_iinc (v := (x8 + 1)) (lv' := [(8, .int (x8 + 1)), (0, .ref (gad G 130)), (1, .int x1), (2, .int x2), (3, .int x3), (4, .int x4), (5, .int x5), (6, .long x6)]) hx hb dX9_lays_86 hl (k := 7) rfl rfl (by decide) rfl (fun ls hl => ?_)
  refine lv_goto (tgt := 35) hx hb dX9_lays_89 (by decide) ?_
  exact Hk_35 x1 x2 x3 x4 x5 x6 (x8 + 1)  _ _ _ _ S (lv_sub hl [1, 2, 3, 4, 5, 6, 7, 0] rfl) hz
set_option maxHeartbeats 4000000 in
set_option maxRecDepth 100000 in
theorem w_X9_lays_35 {p : Program} {l : Launch} {e : Env} {s : State} {m : MethodId} {args : Array Value} {below : List Frame} {meth : Method} {c : Code} {G : GG} (F : CallFix p m c cX9_lays 10 s args (wsU yX9_lays cX9_lays 10 (some .boolean)) RX9) (hr : meth.sig.returnType = (some .boolean)) (hlk : meth.locks = false) {z : Int32 × GW} : ∀ (n9 : Nat), (∀ (x1 : Int32) (x2 : Int32) (x3 : Int32) (x4 : Int32) (x5 : Int32) (x6 : Int64) (x8 : Int32) (w : GW) (H : Heap) (locs : List Loc) (ls : Array Slot), St G w s H locs → lv_has ls 10 [(0, .ref (gad G 130)), (1, .int x1), (2, .int x2), (3, .int x3), (4, .int x4), (5, .int x5), (6, .long x6), (8, .int x8)] → f_X9_lays_35 n9 x1 x2 x3 x4 x5 x6 x8 w = some z → W p l e (headSpec (wsU yX9_lays cX9_lays 10 (some .boolean)) rm_X9_lays).room s m args below meth c H locs 0 0 (MQ below (QB G z) args s 0 0 (gA G)) (F0 m 35 ls [])) := by
  obtain ⟨hx, hb, hml, hown, hts⟩ := id F
  have hg : ∀ q ∈ lwg, q.before args s = true := fun q h => hts q (List.mem_cons_of_mem _ h)
  intro n9
  induction n9 with
  | zero =>
    intro x1 x2 x3 x4 x5 x6 x8 w H locs ls S hl hz
    rw [f_X9_lays_35] at hz
    cases hz
  | succ n9 ih =>
    intro x1 x2 x3 x4 x5 x6 x8 w H locs ls S hl hz
    rw [f_X9_lays_35] at hz
    refine lv_iload hx hb dX9_lays_35 (lv_at hl 7 rfl) ?_
    refine lv_iload hx hb dX9_lays_37 (lv_at hl 4 rfl) ?_
    refine lv_icmp_gt (tgt := 92) hx hb dX9_lays_39 (by decide) (fun c5 => ?_) (fun c5 => ?_)
    · have hz := ipt (c5) hz
      exact w_X9_lays_92 F hr hlk x1 x2 x3 x4 x5 _ _ _ _ S (lv_sub hl [0, 1, 2, 3, 4, 5] rfl) hz
    · have hz := ipf (c5) hz
      refine lv_iload hx hb dX9_lays_42 (lv_at hl 5 rfl) ?_
      refine lv_if_eq (tgt := 92) hx hb dX9_lays_44 (by decide) (fun c28 => ?_) (fun c28 => ?_)
      · have hz := ipt (c28) hz
        exact w_X9_lays_92 F hr hlk x1 x2 x3 x4 x5 _ _ _ _ S (lv_sub hl [0, 1, 2, 3, 4, 5] rfl) hz
      · have hz := ipf (c28) hz
        refine lv_aload_n hx hb dX9_lays_47 rfl (lv_at hl 0 rfl) ?_
        refine lv_iload hx hb dX9_lays_48 (lv_at hl 7 rfl) ?_
        obtain ⟨q29, e30, hz⟩ := bd hz
        refine g_callVb (As := [.int x8]) (rest := []) F S (c_X9_isDoor l G x8  _ e30) (cw_X9_lays_X9_isDoor_263 hg) (S.obj (by decide) (by decide) rfl (oc_X9 _ _ _ (by decide))) rfl hl.1 rfl (Nat.le_of_ble_eq_true rfl) ⟨Nat.zero_le _, Nat.zero_le _⟩ dX9_lays_50 (fun H locs hB31 S => ?_)
        refine lv_if_eq (tgt := 59) hx hb dX9_lays_53 (by decide) (fun c32 => ?_) (fun c32 => ?_)
        · have hz := ipt (c32) hz
          refine lv_aload_n hx hb dX9_lays_59 rfl (lv_at hl 0 rfl) ?_
          refine fg_X9_30 hx hb (fun q h => hg q (tl_X9 q h)) hown (hg _ t_fl_X9_255) S (by decide) dX9_lays_60 ?_
          refine lv_ldc2 (v := 1000000000000000) hx hb hown (hg _ t_cl_X9_266) dX9_lays_63 ?_
          refine lv_lload hx hb dX9_lays_66 (lv_at hl 6 rfl) ?_
          obtain ⟨h33, hz⟩ := ck hz
          refine g_ldiv hx hb dX9_lays_68 h33 ?_
          refine W.lcmp hx hb dX9_lays_69 ?_
          refine lv_if_le (tgt := 75) hx hb dX9_lays_70 (by decide) (fun c34 => ?_) (fun c34 => ?_)
          · have hz := ipt ((lg_cmp_le _ _).mp c34) hz
            refine lv_aload_n hx hb dX9_lays_75 rfl (lv_at hl 0 rfl) ?_
            refine lv_dup hx hb dX9_lays_76 rfl ?_
            refine fg_X9_30 hx hb (fun q h => hg q (tl_X9 q h)) hown (hg _ t_fl_X9_255) S (by decide) dX9_lays_77 ?_
            refine lv_lload hx hb dX9_lays_80 (lv_at hl 6 rfl) ?_
            refine lv_lmul hx hb dX9_lays_82 ?_
            refine fp_X9_30 (v := ((gL q29.2 130 30) * x6)) hx hb (fun q h => hg q (tl_X9 q h)) hown (hg _ t_fl_X9_255) S (by decide) dX9_lays_83 (fun H locs S => ?_)
            exact w_X9_lays_86 F hr hlk ih x1 x2 x3 x4 x5 x6 x8 _ _ _ _ S (lv_sub hl [0, 1, 2, 3, 4, 5, 6, 7] rfl) hz
          · have hz := ipf (fun q9 => c34 ((lg_cmp_le _ _).mpr q9)) hz
            refine lv_iconst (v := 0) hx hb dX9_lays_73 (by decide) ?_
            exact g_retb hx hb hr hlk S isB_0 hz dX9_lays_74
        · have hz := ipf (c32) hz
          refine lv_goto (tgt := 86) hx hb dX9_lays_56 (by decide) ?_
          exact w_X9_lays_86 F hr hlk ih x1 x2 x3 x4 x5 x6 x8 _ _ _ _ S (lv_sub hl [0, 1, 2, 3, 4, 5, 6, 7] rfl) hz
set_option maxHeartbeats 4000000 in
set_option maxRecDepth 100000 in
theorem c_X9_lays (l : Launch) (G : GG) (x1 : Int32) (x2 : Int32) (x3 : Int32) (x4 : Int32) (x5 : Int32)  (w : GW) {z : Int32 × GW} (hz : f_X9_lays x1 x2 x3 x4 x5 w = some z) : Met l yX9_lays (wsU yX9_lays cX9_lays 10 (some .boolean)) rm_X9_lays (va_Pc [.ref (gad G 130), .int x1, .int x2, .int x3, .int x4, .int x5] (PreG G w)) (QB G z) 0 0 (gA G) := by
  refine Met.ofW (cc := cX9_lays) (maxL := 10) (ret := (some .boolean)) (by decide) rfl ?_
  intro p e s m args below meth c s₁ B hml hv
  obtain ⟨rfl, S⟩ := hv
  have F : CallFix p m c cX9_lays 10 s _ (wsU yX9_lays cX9_lays 10 (some .boolean)) RX9 := ⟨B.exec, B.bytes, hml, findClass_of_methodNamed B.named, atoms_spec B.pre⟩
  have hr := B.returns
  have hlk := B.notSynchronized
  obtain ⟨hx, hb, -, hown, hts⟩ := id F
  have hg : ∀ q ∈ lwg, q.before _ s = true := fun q h => hts q (List.mem_cons_of_mem _ h)
  refine g_entry (Nat.le_of_ble_eq_true rfl) (fun ls hl => ?_)
  have hl : lv_has ls 10 [(0, .ref (gad G 130)), (1, .int x1), (2, .int x2), (3, .int x3), (4, .int x4), (5, .int x5)] := hl
  have S : St G w s s.heap [] := S
  generalize s.heap = H at S ⊢
  generalize ([] : List Loc) = locs at S ⊢
  rw [f_X9_lays] at hz
  refine lv_aload_n hx hb dX9_lays_0 rfl (lv_at hl 0 rfl) ?_
  refine lv_iconst (v := 1) hx hb dX9_lays_1 (by decide) ?_
  refine fp_X9_28 (v := 1) hx hb (fun q h => hg q (tl_X9 q h)) hown (hg _ t_fl_X9_252) S (by decide) dX9_lays_2 (fun H locs S => ?_)
  refine lv_aload_n hx hb dX9_lays_5 rfl (lv_at hl 0 rfl) ?_
  refine fg_X9_23 hx hb (fun q h => hg q (tl_X9 q h)) hown (hg _ t_fl_X9_38) S (by decide) dX9_lays_6 ?_
  refine lv_iconst (v := 0) hx hb dX9_lays_9 (by decide) ?_
  refine lv_iconst (v := 0) hx hb dX9_lays_10 (by decide) ?_
  obtain ⟨h1, hz⟩ := ck hz
  refine g_iast (x := 0) hx hb S (isA_18 (by decide)) h1 dX9_lays_11 (fun H locs S => ?_)
  refine lv_aload_n hx hb dX9_lays_12 rfl (lv_at hl 0 rfl) ?_
  refine fg_X9_26 hx hb (fun q h => hg q (tl_X9 q h)) hown (hg _ t_fl_X9_47) S (by decide) dX9_lays_13 ?_
  refine lv_iconst (v := 0) hx hb dX9_lays_16 (by decide) ?_
  refine lv_lconst (v := 1) hx hb dX9_lays_17 (by decide) ?_
  obtain ⟨h2, hz⟩ := ck hz
  refine g_last (x := 1) hx hb S (isA_27 (by decide)) h2 dX9_lays_18 (fun H locs S => ?_)
  refine lv_aload_n hx hb dX9_lays_19 rfl (lv_at hl 0 rfl) ?_
  refine lv_lconst (v := 1) hx hb dX9_lays_20 (by decide) ?_
  refine fp_X9_30 (v := 1) hx hb (fun q h => hg q (tl_X9 q h)) hown (hg _ t_fl_X9_255) S (by decide) dX9_lays_21 (fun H locs S => ?_)
  refine lv_aload_n hx hb dX9_lays_24 rfl (lv_at hl 0 rfl) ?_
  refine lv_iload_n hx hb dX9_lays_25 rfl (lv_at hl 1 rfl) ?_
  refine lv_iload_n hx hb dX9_lays_26 rfl (lv_at hl 3 rfl) ?_
  obtain ⟨q3, e4, hz⟩ := bd hz
  refine g_callVl (As := [.int x1, .int x3]) (rest := []) F S (c_X9_waysOf l G x1 x3  _ e4) (cw_X9_lays_X9_waysOf_259 hg) (S.obj (by decide) (by decide) rfl (oc_X9 _ _ _ (by decide))) rfl hl.1 rfl (Nat.le_of_ble_eq_true rfl) ⟨Nat.zero_le _, Nat.zero_le _⟩ dX9_lays_27 (fun H locs  S => ?_)
  refine lv_lstore (lv' := [(6, .long q3.1), (0, .ref (gad G 130)), (1, .int x1), (2, .int x2), (3, .int x3), (4, .int x4), (5, .int x5)]) hx hb dX9_lays_30 hl (by decide) rfl (fun ls hl => ?_)
  refine lv_iconst (v := 1) hx hb dX9_lays_32 (by decide) ?_
  refine lv_istore (lv' := [(8, .int 1), (6, .long q3.1), (0, .ref (gad G 130)), (1, .int x1), (2, .int x2), (3, .int x3), (4, .int x4), (5, .int x5)]) hx hb dX9_lays_33 hl (by decide) rfl (fun ls hl => ?_)
  exact w_X9_lays_35 F hr hlk fu x1 x2 x3 x4 x5 q3.1 1 _ _ _ _ S (lv_sub hl [2, 3, 4, 5, 6, 7, 1, 0] rfl) hz
noncomputable def f_X9_laysBy (x1 : Int32) (x2 : Int32) (w : GW) : Option (Int32 × GW) :=
  if inb (24 + x1) 135 then
  if inb (30 + x1) 135 then
  if inb (18 + x1) 135 then
  (f_X9_lays (gI w 133 (ix (24 + x1))) (gI w 133 (ix (30 + x1))) (gI w 133 (ix (18 + x1))) x2 1 w).bind fun q4 =>
  some (q4.1, q4.2)
  else none
  else none
  else none
set_option maxHeartbeats 4000000 in
set_option maxRecDepth 100000 in
theorem c_X9_laysBy (l : Launch) (G : GG) (x1 : Int32) (x2 : Int32)  (w : GW) {z : Int32 × GW} (hz : f_X9_laysBy x1 x2 w = some z) : Met l yX9_laysBy (wsU yX9_laysBy cX9_laysBy 3 (some .boolean)) rm_X9_laysBy (va_Pc [.ref (gad G 130), .int x1, .int x2] (PreG G w)) (QB G z) 0 0 (gA G) := by
  refine Met.ofW (cc := cX9_laysBy) (maxL := 3) (ret := (some .boolean)) (by decide) rfl ?_
  intro p e s m args below meth c s₁ B hml hv
  obtain ⟨rfl, S⟩ := hv
  have F : CallFix p m c cX9_laysBy 3 s _ (wsU yX9_laysBy cX9_laysBy 3 (some .boolean)) RX9 := ⟨B.exec, B.bytes, hml, findClass_of_methodNamed B.named, atoms_spec B.pre⟩
  have hr := B.returns
  have hlk := B.notSynchronized
  obtain ⟨hx, hb, -, hown, hts⟩ := id F
  have hg : ∀ q ∈ lwg, q.before _ s = true := fun q h => hts q (List.mem_cons_of_mem _ h)
  refine g_entry (Nat.le_of_ble_eq_true rfl) (fun ls hl => ?_)
  have hl : lv_has ls 3 [(0, .ref (gad G 130)), (1, .int x1), (2, .int x2)] := hl
  have S : St G w s s.heap [] := S
  generalize s.heap = H at S ⊢
  generalize ([] : List Loc) = locs at S ⊢
  rw [f_X9_laysBy] at hz
  refine lv_aload_n hx hb dX9_laysBy_0 rfl (lv_at hl 0 rfl) ?_
  refine lv_aload_n hx hb dX9_laysBy_1 rfl (lv_at hl 0 rfl) ?_
  refine fg_X9_15 hx hb (fun q h => hg q (tl_X9 q h)) hown (hg _ t_fl_X9_20) S (by decide) dX9_laysBy_2 ?_
  refine lv_bipush (v := 24) hx hb dX9_laysBy_5 (by decide) ?_
  refine lv_iload_n hx hb dX9_laysBy_7 rfl (lv_at hl 1 rfl) ?_
  refine lv_iadd hx hb dX9_laysBy_8 ?_
  obtain ⟨h1, hz⟩ := ck hz
  refine g_iald hx hb S (isA_15 (by decide)) h1 dX9_laysBy_9 ?_
  refine lv_aload_n hx hb dX9_laysBy_10 rfl (lv_at hl 0 rfl) ?_
  refine fg_X9_15 hx hb (fun q h => hg q (tl_X9 q h)) hown (hg _ t_fl_X9_20) S (by decide) dX9_laysBy_11 ?_
  refine lv_bipush (v := 30) hx hb dX9_laysBy_14 (by decide) ?_
  refine lv_iload_n hx hb dX9_laysBy_16 rfl (lv_at hl 1 rfl) ?_
  refine lv_iadd hx hb dX9_laysBy_17 ?_
  obtain ⟨h2, hz⟩ := ck hz
  refine g_iald hx hb S (isA_15 (by decide)) h2 dX9_laysBy_18 ?_
  refine lv_aload_n hx hb dX9_laysBy_19 rfl (lv_at hl 0 rfl) ?_
  refine fg_X9_15 hx hb (fun q h => hg q (tl_X9 q h)) hown (hg _ t_fl_X9_20) S (by decide) dX9_laysBy_20 ?_
  refine lv_bipush (v := 18) hx hb dX9_laysBy_23 (by decide) ?_
  refine lv_iload_n hx hb dX9_laysBy_25 rfl (lv_at hl 1 rfl) ?_
  refine lv_iadd hx hb dX9_laysBy_26 ?_
  obtain ⟨h3, hz⟩ := ck hz
  refine g_iald hx hb S (isA_15 (by decide)) h3 dX9_laysBy_27 ?_
  refine lv_iload_n hx hb dX9_laysBy_28 rfl (lv_at hl 2 rfl) ?_
  refine lv_iconst (v := 1) hx hb dX9_laysBy_29 (by decide) ?_
  obtain ⟨q4, e5, hz⟩ := bd hz
  refine g_callVb (As := [.int (gI w 133 (ix (24 + x1))), .int (gI w 133 (ix (30 + x1))), .int (gI w 133 (ix (18 + x1))), .int x2, .int 1]) (rest := []) F S (c_X9_lays l G (gI w 133 (ix (24 + x1))) (gI w 133 (ix (30 + x1))) (gI w 133 (ix (18 + x1))) x2 1  _ e5) (cw_X9_laysBy_X9_lays_309 hg) (S.obj (by decide) (by decide) rfl (oc_X9 _ _ _ (by decide))) rfl hl.1 rfl (Nat.le_of_ble_eq_true rfl) ⟨Nat.zero_le _, Nat.zero_le _⟩ dX9_laysBy_30 (fun H locs hB6 S => ?_)
  exact g_retb hx hb hr hlk S hB6 hz dX9_laysBy_33
noncomputable def f_X9_fullestOf_39 (k_9 : Int32 → Int32 → GW → Option (Int32 × GW)) (x3 : Int32) (t0 : Int32) (w : GW) : Option (Int32 × GW) :=
  k_9 t0 (x3 + 1) w
noncomputable def f_X9_fullestOf_9  : Nat → Int32 → Int32 → GW → Option (Int32 × GW)
  | 0, _, _, _ => none
  | n9 + 1, x2, x3, w =>
    if inb 0 135 then
    if (gI w 133 (ix 0)) ≤ x3 then
      some (x2, w)
    else
      if inb x3 5 then
      if (gI w 137 (ix x3)) ≤ x2 then
        f_X9_fullestOf_39 (f_X9_fullestOf_9 n9) x3 x2 w
      else
        if inb x3 5 then
        f_X9_fullestOf_39 (f_X9_fullestOf_9 n9) x3 (gI w 137 (ix x3)) w
        else none
      else none
    else none
noncomputable def f_X9_fullestOf (x1 : Int32) (w : GW) : Option (Int32 × GW) :=
  (f_X9_layApart x1 w).bind fun q1 =>
  f_X9_fullestOf_9 fu 0 0 q1.2
set_option maxHeartbeats 4000000 in
set_option maxRecDepth 100000 in
theorem w_X9_fullestOf_39 {p : Program} {l : Launch} {e : Env} {s : State} {m : MethodId} {args : Array Value} {below : List Frame} {meth : Method} {c : Code} {G : GG} (F : CallFix p m c cX9_fullestOf 4 s args (wsU yX9_fullestOf cX9_fullestOf 4 (some .int)) RX9) (hr : meth.sig.returnType = (some .int)) (hlk : meth.locks = false) {z : Int32 × GW} {k_9 : Int32 → Int32 → GW → Option (Int32 × GW)} (Hk_9 : (∀ (x2 : Int32) (x3 : Int32) (w : GW) (H : Heap) (locs : List Loc) (ls : Array Slot), St G w s H locs → lv_has ls 4 [(0, .ref (gad G 130)), (2, .int x2), (3, .int x3)] → k_9 x2 x3 w = some z → W p l e (headSpec (wsU yX9_fullestOf cX9_fullestOf 4 (some .int)) rm_X9_fullestOf).room s m args below meth c H locs 0 0 (MQ below (QI G z) args s 0 0 (gA G)) (F0 m 9 ls []))) : (∀ (x3 : Int32) (t0 : Int32) (w : GW) (H : Heap) (locs : List Loc) (ls : Array Slot), St G w s H locs → lv_has ls 4 [(0, .ref (gad G 130)), (3, .int x3)] → f_X9_fullestOf_39 k_9 x3 t0 w = some z → W p l e (headSpec (wsU yX9_fullestOf cX9_fullestOf 4 (some .int)) rm_X9_fullestOf).room s m args below meth c H locs 0 0 (MQ below (QI G z) args s 0 0 (gA G)) (F0 m 39 ls [.int t0])) := by
  obtain ⟨hx, hb, hml, hown, hts⟩ := id F
  have hg : ∀ q ∈ lwg, q.before args s = true := fun q h => hts q (List.mem_cons_of_mem _ h)
  intro x3 t0 w H locs ls S hl hz
  rw [f_X9_fullestOf_39] at hz
  refine lv_istore_n (lv' := [(2, .int t0), (0, .ref (gad G 130)), (3, .int x3)]) hx hb dX9_fullestOf_39 rfl hl (by decide) rfl (fun ls hl => ?_)
  refine lv_iinc (v := (x3 + 1)) (lv' := [(3, .int (x3 + 1)), (2, .int t0), (0, .ref (gad G 130))]) hx hb dX9_fullestOf_40 hl (k := 2) rfl rfl (by decide) rfl (fun ls hl => ?_)
  refine lv_goto (tgt := 9) hx hb dX9_fullestOf_43 (by decide) ?_
  exact Hk_9 t0 (x3 + 1)  _ _ _ _ S (lv_sub hl [2, 1, 0] rfl) hz
set_option maxHeartbeats 4000000 in
set_option maxRecDepth 100000 in
theorem w_X9_fullestOf_9 {p : Program} {l : Launch} {e : Env} {s : State} {m : MethodId} {args : Array Value} {below : List Frame} {meth : Method} {c : Code} {G : GG} (F : CallFix p m c cX9_fullestOf 4 s args (wsU yX9_fullestOf cX9_fullestOf 4 (some .int)) RX9) (hr : meth.sig.returnType = (some .int)) (hlk : meth.locks = false) {z : Int32 × GW} : ∀ (n9 : Nat), (∀ (x2 : Int32) (x3 : Int32) (w : GW) (H : Heap) (locs : List Loc) (ls : Array Slot), St G w s H locs → lv_has ls 4 [(0, .ref (gad G 130)), (2, .int x2), (3, .int x3)] → f_X9_fullestOf_9 n9 x2 x3 w = some z → W p l e (headSpec (wsU yX9_fullestOf cX9_fullestOf 4 (some .int)) rm_X9_fullestOf).room s m args below meth c H locs 0 0 (MQ below (QI G z) args s 0 0 (gA G)) (F0 m 9 ls [])) := by
  obtain ⟨hx, hb, hml, hown, hts⟩ := id F
  have hg : ∀ q ∈ lwg, q.before args s = true := fun q h => hts q (List.mem_cons_of_mem _ h)
  intro n9
  induction n9 with
  | zero =>
    intro x2 x3 w H locs ls S hl hz
    rw [f_X9_fullestOf_9] at hz
    cases hz
  | succ n9 ih =>
    intro x2 x3 w H locs ls S hl hz
    rw [f_X9_fullestOf_9] at hz
    refine lv_iload_n hx hb dX9_fullestOf_9 rfl (lv_at hl 2 rfl) ?_
    refine lv_aload_n hx hb dX9_fullestOf_10 rfl (lv_at hl 0 rfl) ?_
    refine fg_X9_15 hx hb (fun q h => hg q (tl_X9 q h)) hown (hg _ t_fl_X9_20) S (by decide) dX9_fullestOf_11 ?_
    refine lv_iconst (v := 0) hx hb dX9_fullestOf_14 (by decide) ?_
    obtain ⟨h3, hz⟩ := ck hz
    refine g_iald hx hb S (isA_15 (by decide)) h3 dX9_fullestOf_15 ?_
    refine lv_icmp_ge (tgt := 46) hx hb dX9_fullestOf_16 (by decide) (fun c4 => ?_) (fun c4 => ?_)
    · have hz := ipt (c4) hz
      refine lv_iload_n hx hb dX9_fullestOf_46 rfl (lv_at hl 1 rfl) ?_
      exact g_reti hx hb hr hlk S hz dX9_fullestOf_47
    · have hz := ipf (c4) hz
      refine lv_aload_n hx hb dX9_fullestOf_19 rfl (lv_at hl 0 rfl) ?_
      refine fg_X9_20 hx hb (fun q h => hg q (tl_X9 q h)) hown (hg _ t_fl_X9_32) S (by decide) dX9_fullestOf_20 ?_
      refine lv_iload_n hx hb dX9_fullestOf_23 rfl (lv_at hl 2 rfl) ?_
      obtain ⟨h5, hz⟩ := ck hz
      refine g_iald hx hb S (isA_10 (by decide)) h5 dX9_fullestOf_24 ?_
      refine lv_iload_n hx hb dX9_fullestOf_25 rfl (lv_at hl 1 rfl) ?_
      refine lv_icmp_le (tgt := 38) hx hb dX9_fullestOf_26 (by decide) (fun c6 => ?_) (fun c6 => ?_)
      · have hz := ipt (c6) hz
        refine lv_iload_n hx hb dX9_fullestOf_38 rfl (lv_at hl 1 rfl) ?_
        exact w_X9_fullestOf_39 F hr hlk ih x3 x2 _ _ _ _ S (lv_sub hl [0, 2] rfl) hz
      · have hz := ipf (c6) hz
        refine lv_aload_n hx hb dX9_fullestOf_29 rfl (lv_at hl 0 rfl) ?_
        refine fg_X9_20 hx hb (fun q h => hg q (tl_X9 q h)) hown (hg _ t_fl_X9_32) S (by decide) dX9_fullestOf_30 ?_
        refine lv_iload_n hx hb dX9_fullestOf_33 rfl (lv_at hl 2 rfl) ?_
        obtain ⟨h7, hz⟩ := ck hz
        refine g_iald hx hb S (isA_10 (by decide)) h7 dX9_fullestOf_34 ?_
        refine lv_goto (tgt := 39) hx hb dX9_fullestOf_35 (by decide) ?_
        exact w_X9_fullestOf_39 F hr hlk ih x3 (gI w 137 (ix x3)) _ _ _ _ S (lv_sub hl [0, 2] rfl) hz
set_option maxHeartbeats 4000000 in
set_option maxRecDepth 100000 in
theorem c_X9_fullestOf (l : Launch) (G : GG) (x1 : Int32)  (w : GW) {z : Int32 × GW} (hz : f_X9_fullestOf x1 w = some z) : Met l yX9_fullestOf (wsU yX9_fullestOf cX9_fullestOf 4 (some .int)) rm_X9_fullestOf (va_Pc [.ref (gad G 130), .int x1] (PreG G w)) (QI G z) 0 0 (gA G) := by
  refine Met.ofW (cc := cX9_fullestOf) (maxL := 4) (ret := (some .int)) (by decide) rfl ?_
  intro p e s m args below meth c s₁ B hml hv
  obtain ⟨rfl, S⟩ := hv
  have F : CallFix p m c cX9_fullestOf 4 s _ (wsU yX9_fullestOf cX9_fullestOf 4 (some .int)) RX9 := ⟨B.exec, B.bytes, hml, findClass_of_methodNamed B.named, atoms_spec B.pre⟩
  have hr := B.returns
  have hlk := B.notSynchronized
  obtain ⟨hx, hb, -, hown, hts⟩ := id F
  have hg : ∀ q ∈ lwg, q.before _ s = true := fun q h => hts q (List.mem_cons_of_mem _ h)
  refine g_entry (Nat.le_of_ble_eq_true rfl) (fun ls hl => ?_)
  have hl : lv_has ls 4 [(0, .ref (gad G 130)), (1, .int x1)] := hl
  have S : St G w s s.heap [] := S
  generalize s.heap = H at S ⊢
  generalize ([] : List Loc) = locs at S ⊢
  rw [f_X9_fullestOf] at hz
  refine lv_aload_n hx hb dX9_fullestOf_0 rfl (lv_at hl 0 rfl) ?_
  refine lv_iload_n hx hb dX9_fullestOf_1 rfl (lv_at hl 1 rfl) ?_
  obtain ⟨q1, e2, hz⟩ := bd hz
  refine g_callVv (As := [.int x1]) (rest := []) F S (c_X9_layApart l G x1  _ e2) (cw_X9_fullestOf_X9_layApart_279 hg) (S.obj (by decide) (by decide) rfl (oc_X9 _ _ _ (by decide))) rfl hl.1 rfl (Nat.le_of_ble_eq_true rfl) ⟨Nat.zero_le _, Nat.zero_le _⟩ dX9_fullestOf_2 (fun H locs  S => ?_)
  refine lv_iconst (v := 0) hx hb dX9_fullestOf_5 (by decide) ?_
  refine lv_istore_n (lv' := [(2, .int 0), (0, .ref (gad G 130)), (1, .int x1)]) hx hb dX9_fullestOf_6 rfl hl (by decide) rfl (fun ls hl => ?_)
  refine lv_iconst (v := 0) hx hb dX9_fullestOf_7 (by decide) ?_
  refine lv_istore_n (lv' := [(3, .int 0), (2, .int 0), (0, .ref (gad G 130)), (1, .int x1)]) hx hb dX9_fullestOf_8 rfl hl (by decide) rfl (fun ls hl => ?_)
  exact w_X9_fullestOf_9 F hr hlk fu 0 0 _ _ _ _ S (lv_sub hl [2, 1, 0] rfl) hz
noncomputable def f_X9_waysOfFullest_41 (k_5 : Int32 → Int64 → Int32 → GW → Option (Int64 × GW)) (x1 : Int32) (x4 : Int32) (t0 : Int64) (t1 : Int64) (w : GW) : Option (Int64 × GW) :=
  k_5 x1 (t1 + t0) (x4 + 1) w
noncomputable def f_X9_waysOfFullest_5  : Nat → Int32 → Int64 → Int32 → GW → Option (Int64 × GW)
  | 0, _, _, _, _ => none
  | n9 + 1, x1, x2, x4, w =>
    if (gI w 130 28) ≤ x4 then
      some (x2, w)
    else
      if inb x4 8000 then
      (f_X9_fullestOf (gI w 139 (ix x4)) w).bind fun q3 =>
      if q3.1 < x1 then
        f_X9_waysOfFullest_41 (f_X9_waysOfFullest_5 n9) x1 x4 0 x2 q3.2
      else
        if inb x4 8000 then
        f_X9_waysOfFullest_41 (f_X9_waysOfFullest_5 n9) x1 x4 (gL q3.2 142 (ix x4)) x2 q3.2
        else none
      else none
noncomputable def f_X9_waysOfFullest (x1 : Int32) (w : GW) : Option (Int64 × GW) :=
  f_X9_waysOfFullest_5 fu x1 0 0 w
set_option maxHeartbeats 4000000 in
set_option maxRecDepth 100000 in
theorem w_X9_waysOfFullest_41 {p : Program} {l : Launch} {e : Env} {s : State} {m : MethodId} {args : Array Value} {below : List Frame} {meth : Method} {c : Code} {G : GG} (F : CallFix p m c cX9_waysOfFullest 5 s args (wsU yX9_waysOfFullest cX9_waysOfFullest 5 (some .long)) RX9) (hr : meth.sig.returnType = (some .long)) (hlk : meth.locks = false) {z : Int64 × GW} {k_5 : Int32 → Int64 → Int32 → GW → Option (Int64 × GW)} (Hk_5 : (∀ (x1 : Int32) (x2 : Int64) (x4 : Int32) (w : GW) (H : Heap) (locs : List Loc) (ls : Array Slot), St G w s H locs → lv_has ls 5 [(0, .ref (gad G 130)), (1, .int x1), (2, .long x2), (4, .int x4)] → k_5 x1 x2 x4 w = some z → W p l e (headSpec (wsU yX9_waysOfFullest cX9_waysOfFullest 5 (some .long)) rm_X9_waysOfFullest).room s m args below meth c H locs 0 0 (MQ below (QL G z) args s 0 0 (gA G)) (F0 m 5 ls []))) : (∀ (x1 : Int32) (x4 : Int32) (t0 : Int64) (t1 : Int64) (w : GW) (H : Heap) (locs : List Loc) (ls : Array Slot), St G w s H locs → lv_has ls 5 [(0, .ref (gad G 130)), (1, .int x1), (4, .int x4)] → f_X9_waysOfFullest_41 k_5 x1 x4 t0 t1 w = some z → W p l e (headSpec (wsU yX9_waysOfFullest cX9_waysOfFullest 5 (some .long)) rm_X9_waysOfFullest).room s m args below meth c H locs 0 0 (MQ below (QL G z) args s 0 0 (gA G)) (F0 m 41 ls [.long t0, .long t1])) := by
  obtain ⟨hx, hb, hml, hown, hts⟩ := id F
  have hg : ∀ q ∈ lwg, q.before args s = true := fun q h => hts q (List.mem_cons_of_mem _ h)
  intro x1 x4 t0 t1 w H locs ls S hl hz
  rw [f_X9_waysOfFullest_41] at hz
  refine lv_ladd hx hb dX9_waysOfFullest_41 ?_
  refine lv_lstore_n (lv' := [(2, .long (t1 + t0)), (0, .ref (gad G 130)), (1, .int x1), (4, .int x4)]) hx hb dX9_waysOfFullest_42 rfl hl (by decide) rfl (fun ls hl => ?_)
  refine lv_iinc (v := (x4 + 1)) (lv' := [(4, .int (x4 + 1)), (2, .long (t1 + t0)), (0, .ref (gad G 130)), (1, .int x1)]) hx hb dX9_waysOfFullest_43 hl (k := 3) rfl rfl (by decide) rfl (fun ls hl => ?_)
  refine lv_goto (tgt := 5) hx hb dX9_waysOfFullest_46 (by decide) ?_
  exact Hk_5 x1 (t1 + t0) (x4 + 1)  _ _ _ _ S (lv_sub hl [2, 3, 1, 0] rfl) hz
set_option maxHeartbeats 4000000 in
set_option maxRecDepth 100000 in
theorem w_X9_waysOfFullest_5 {p : Program} {l : Launch} {e : Env} {s : State} {m : MethodId} {args : Array Value} {below : List Frame} {meth : Method} {c : Code} {G : GG} (F : CallFix p m c cX9_waysOfFullest 5 s args (wsU yX9_waysOfFullest cX9_waysOfFullest 5 (some .long)) RX9) (hr : meth.sig.returnType = (some .long)) (hlk : meth.locks = false) {z : Int64 × GW} : ∀ (n9 : Nat), (∀ (x1 : Int32) (x2 : Int64) (x4 : Int32) (w : GW) (H : Heap) (locs : List Loc) (ls : Array Slot), St G w s H locs → lv_has ls 5 [(0, .ref (gad G 130)), (1, .int x1), (2, .long x2), (4, .int x4)] → f_X9_waysOfFullest_5 n9 x1 x2 x4 w = some z → W p l e (headSpec (wsU yX9_waysOfFullest cX9_waysOfFullest 5 (some .long)) rm_X9_waysOfFullest).room s m args below meth c H locs 0 0 (MQ below (QL G z) args s 0 0 (gA G)) (F0 m 5 ls [])) := by
  obtain ⟨hx, hb, hml, hown, hts⟩ := id F
  have hg : ∀ q ∈ lwg, q.before args s = true := fun q h => hts q (List.mem_cons_of_mem _ h)
  intro n9
  induction n9 with
  | zero =>
    intro x1 x2 x4 w H locs ls S hl hz
    rw [f_X9_waysOfFullest_5] at hz
    cases hz
  | succ n9 ih =>
    intro x1 x2 x4 w H locs ls S hl hz
    rw [f_X9_waysOfFullest_5] at hz
    refine lv_iload hx hb dX9_waysOfFullest_5 (lv_at hl 3 rfl) ?_
    refine lv_aload_n hx hb dX9_waysOfFullest_7 rfl (lv_at hl 0 rfl) ?_
    refine fg_X9_28 hx hb (fun q h => hg q (tl_X9 q h)) hown (hg _ t_fl_X9_252) S (by decide) dX9_waysOfFullest_8 ?_
    refine lv_icmp_ge (tgt := 49) hx hb dX9_waysOfFullest_11 (by decide) (fun c1 => ?_) (fun c1 => ?_)
    · have hz := ipt (c1) hz
      refine lv_lload_n hx hb dX9_waysOfFullest_49 rfl (lv_at hl 2 rfl) ?_
      exact g_retl hx hb hr hlk S hz dX9_waysOfFullest_50
    · have hz := ipf (c1) hz
      refine lv_lload_n hx hb dX9_waysOfFullest_14 rfl (lv_at hl 2 rfl) ?_
      refine lv_aload_n hx hb dX9_waysOfFullest_15 rfl (lv_at hl 0 rfl) ?_
      refine lv_aload_n hx hb dX9_waysOfFullest_16 rfl (lv_at hl 0 rfl) ?_
      refine fg_X9_23 hx hb (fun q h => hg q (tl_X9 q h)) hown (hg _ t_fl_X9_38) S (by decide) dX9_waysOfFullest_17 ?_
      refine lv_iload hx hb dX9_waysOfFullest_20 (lv_at hl 3 rfl) ?_
      obtain ⟨h2, hz⟩ := ck hz
      refine g_iald hx hb S (isA_18 (by decide)) h2 dX9_waysOfFullest_22 ?_
      obtain ⟨q3, e4, hz⟩ := bd hz
      refine g_callVi (As := [.int (gI w 139 (ix x4))]) (rest := [.long x2]) F S (c_X9_fullestOf l G (gI w 139 (ix x4))  _ e4) (cw_X9_waysOfFullest_X9_fullestOf_313 hg) (S.obj (by decide) (by decide) rfl (oc_X9 _ _ _ (by decide))) rfl hl.1 rfl (Nat.le_of_ble_eq_true rfl) ⟨Nat.zero_le _, Nat.zero_le _⟩ dX9_waysOfFullest_23 (fun H locs  S => ?_)
      refine lv_iload_n hx hb dX9_waysOfFullest_26 rfl (lv_at hl 1 rfl) ?_
      refine lv_icmp_lt (tgt := 40) hx hb dX9_waysOfFullest_27 (by decide) (fun c5 => ?_) (fun c5 => ?_)
      · have hz := ipt (c5) hz
        refine lv_lconst (v := 0) hx hb dX9_waysOfFullest_40 (by decide) ?_
        exact w_X9_waysOfFullest_41 F hr hlk ih x1 x4 0 x2 _ _ _ _ S (lv_sub hl [0, 1, 3] rfl) hz
      · have hz := ipf (c5) hz
        refine lv_aload_n hx hb dX9_waysOfFullest_30 rfl (lv_at hl 0 rfl) ?_
        refine fg_X9_26 hx hb (fun q h => hg q (tl_X9 q h)) hown (hg _ t_fl_X9_47) S (by decide) dX9_waysOfFullest_31 ?_
        refine lv_iload hx hb dX9_waysOfFullest_34 (lv_at hl 3 rfl) ?_
        obtain ⟨h6, hz⟩ := ck hz
        refine g_lald hx hb S (isA_27 (by decide)) h6 dX9_waysOfFullest_36 ?_
        refine lv_goto (tgt := 41) hx hb dX9_waysOfFullest_37 (by decide) ?_
        exact w_X9_waysOfFullest_41 F hr hlk ih x1 x4 (gL q3.2 142 (ix x4)) x2 _ _ _ _ S (lv_sub hl [0, 1, 3] rfl) hz
set_option maxHeartbeats 4000000 in
set_option maxRecDepth 100000 in
theorem c_X9_waysOfFullest (l : Launch) (G : GG) (x1 : Int32)  (w : GW) {z : Int64 × GW} (hz : f_X9_waysOfFullest x1 w = some z) : Met l yX9_waysOfFullest (wsU yX9_waysOfFullest cX9_waysOfFullest 5 (some .long)) rm_X9_waysOfFullest (va_Pc [.ref (gad G 130), .int x1] (PreG G w)) (QL G z) 0 0 (gA G) := by
  refine Met.ofW (cc := cX9_waysOfFullest) (maxL := 5) (ret := (some .long)) (by decide) rfl ?_
  intro p e s m args below meth c s₁ B hml hv
  obtain ⟨rfl, S⟩ := hv
  have F : CallFix p m c cX9_waysOfFullest 5 s _ (wsU yX9_waysOfFullest cX9_waysOfFullest 5 (some .long)) RX9 := ⟨B.exec, B.bytes, hml, findClass_of_methodNamed B.named, atoms_spec B.pre⟩
  have hr := B.returns
  have hlk := B.notSynchronized
  obtain ⟨hx, hb, -, hown, hts⟩ := id F
  have hg : ∀ q ∈ lwg, q.before _ s = true := fun q h => hts q (List.mem_cons_of_mem _ h)
  refine g_entry (Nat.le_of_ble_eq_true rfl) (fun ls hl => ?_)
  have hl : lv_has ls 5 [(0, .ref (gad G 130)), (1, .int x1)] := hl
  have S : St G w s s.heap [] := S
  generalize s.heap = H at S ⊢
  generalize ([] : List Loc) = locs at S ⊢
  rw [f_X9_waysOfFullest] at hz
  refine lv_lconst (v := 0) hx hb dX9_waysOfFullest_0 (by decide) ?_
  refine lv_lstore_n (lv' := [(2, .long 0), (0, .ref (gad G 130)), (1, .int x1)]) hx hb dX9_waysOfFullest_1 rfl hl (by decide) rfl (fun ls hl => ?_)
  refine lv_iconst (v := 0) hx hb dX9_waysOfFullest_2 (by decide) ?_
  refine lv_istore (lv' := [(4, .int 0), (2, .long 0), (0, .ref (gad G 130)), (1, .int x1)]) hx hb dX9_waysOfFullest_3 hl (by decide) rfl (fun ls hl => ?_)
  exact w_X9_waysOfFullest_5 F hr hlk fu x1 0 0 _ _ _ _ S (lv_sub hl [2, 3, 1, 0] rfl) hz
noncomputable def f_X9_common_6  : Nat → Int64 → Int64 → GW → Option (Int64 × GW)
  | 0, _, _, _ => none
  | n9 + 1, x4, x6, w =>
    if x6 = 0 then
      some (x4, w)
    else
      if ¬ x6 = 0 then
      f_X9_common_6 n9 x6 (lrm x4 x6) w
      else none
noncomputable def f_X9_common (x0 : Int64) (x2 : Int64) (w : GW) : Option (Int64 × GW) :=
  f_X9_common_6 fu x0 x2 w
set_option maxHeartbeats 4000000 in
set_option maxRecDepth 100000 in
theorem w_X9_common_6 {p : Program} {l : Launch} {e : Env} {s : State} {m : MethodId} {args : Array Value} {below : List Frame} {meth : Method} {c : Code} {G : GG} (F : CallFix p m c cX9_common 10 s args (wsU yX9_common cX9_common 10 (some .long)) RX9) (hr : meth.sig.returnType = (some .long)) (hlk : meth.locks = false) {z : Int64 × GW} : ∀ (n9 : Nat), (∀ (x4 : Int64) (x6 : Int64) (w : GW) (H : Heap) (locs : List Loc) (ls : Array Slot), St G w s H locs → lv_has ls 10 [(4, .long x4), (6, .long x6)] → f_X9_common_6 n9 x4 x6 w = some z → W p l e (headSpec (wsU yX9_common cX9_common 10 (some .long)) rm_X9_common).room s m args below meth c H locs 0 0 (MQ below (QL G z) args s 0 0 (gA G)) (F0 m 6 ls [])) := by
  obtain ⟨hx, hb, hml, hown, hts⟩ := id F
  have hg : ∀ q ∈ lwg, q.before args s = true := fun q h => hts q (List.mem_cons_of_mem _ h)
  intro n9
  induction n9 with
  | zero =>
    intro x4 x6 w H locs ls S hl hz
    rw [f_X9_common_6] at hz
    cases hz
  | succ n9 ih =>
    intro x4 x6 w H locs ls S hl hz
    rw [f_X9_common_6] at hz
    refine lv_lload hx hb dX9_common_6 (lv_at hl 1 rfl) ?_
    refine lv_lconst (v := 0) hx hb dX9_common_8 (by decide) ?_
    refine W.lcmp hx hb dX9_common_9 ?_
    refine lv_if_eq (tgt := 31) hx hb dX9_common_10 (by decide) (fun c1 => ?_) (fun c1 => ?_)
    · have hz := ipt ((lg_cmp_eq _ _).mp c1) hz
      refine lv_lload hx hb dX9_common_31 (lv_at hl 0 rfl) ?_
      exact g_retl hx hb hr hlk S hz dX9_common_33
    · have hz := ipf (fun q9 => c1 ((lg_cmp_eq _ _).mpr q9)) hz
      refine lv_lload hx hb dX9_common_13 (lv_at hl 0 rfl) ?_
      refine lv_lload hx hb dX9_common_15 (lv_at hl 1 rfl) ?_
      obtain ⟨h2, hz⟩ := ck hz
      refine g_lrem hx hb dX9_common_17 h2 ?_
      refine lv_lstore (lv' := [(8, .long (lrm x4 x6)), (4, .long x4), (6, .long x6)]) hx hb dX9_common_18 hl (by decide) rfl (fun ls hl => ?_)
      refine lv_lload hx hb dX9_common_20 (lv_at hl 2 rfl) ?_
      refine lv_lstore (lv' := [(4, .long x6), (8, .long (lrm x4 x6)), (6, .long x6)]) hx hb dX9_common_22 hl (by decide) rfl (fun ls hl => ?_)
      refine lv_lload hx hb dX9_common_24 (lv_at hl 1 rfl) ?_
      refine lv_lstore (lv' := [(6, .long (lrm x4 x6)), (4, .long x6), (8, .long (lrm x4 x6))]) hx hb dX9_common_26 hl (by decide) rfl (fun ls hl => ?_)
      refine lv_goto (tgt := 6) hx hb dX9_common_28 (by decide) ?_
      exact ih x6 (lrm x4 x6)  _ _ _ _ S (lv_sub hl [1, 0] rfl) hz
set_option maxHeartbeats 4000000 in
set_option maxRecDepth 100000 in
theorem c_X9_common (l : Launch) (G : GG) (x0 : Int64) (x2 : Int64)  (w : GW) {z : Int64 × GW} (hz : f_X9_common x0 x2 w = some z) : Met l yX9_common (wsU yX9_common cX9_common 10 (some .long)) rm_X9_common (va_Pc [.long x0, .long x2] (PreG G w)) (QL G z) 0 0 (gA G) := by
  refine Met.ofW (cc := cX9_common) (maxL := 10) (ret := (some .long)) (by decide) rfl ?_
  intro p e s m args below meth c s₁ B hml hv
  obtain ⟨rfl, S⟩ := hv
  have F : CallFix p m c cX9_common 10 s _ (wsU yX9_common cX9_common 10 (some .long)) RX9 := ⟨B.exec, B.bytes, hml, findClass_of_methodNamed B.named, atoms_spec B.pre⟩
  have hr := B.returns
  have hlk := B.notSynchronized
  obtain ⟨hx, hb, -, hown, hts⟩ := id F
  have hg : ∀ q ∈ lwg, q.before _ s = true := fun q h => hts q (List.mem_cons_of_mem _ h)
  refine g_entry (Nat.le_of_ble_eq_true rfl) (fun ls hl => ?_)
  have hl : lv_has ls 10 [(0, .long x0), (2, .long x2)] := hl
  have S : St G w s s.heap [] := S
  generalize s.heap = H at S ⊢
  generalize ([] : List Loc) = locs at S ⊢
  rw [f_X9_common] at hz
  refine lv_lload_n hx hb dX9_common_0 rfl (lv_at hl 0 rfl) ?_
  refine lv_lstore (lv' := [(4, .long x0), (0, .long x0), (2, .long x2)]) hx hb dX9_common_1 hl (by decide) rfl (fun ls hl => ?_)
  refine lv_lload_n hx hb dX9_common_3 rfl (lv_at hl 2 rfl) ?_
  refine lv_lstore (lv' := [(6, .long x2), (4, .long x0), (0, .long x0), (2, .long x2)]) hx hb dX9_common_4 hl (by decide) rfl (fun ls hl => ?_)
  exact w_X9_common_6 F hr hlk fu x0 x2 _ _ _ _ S (lv_sub hl [1, 0] rfl) hz
noncomputable def f_X9_lowest (x0 : Int64) (x2 : Int64) (x4 : Int32) (w : GW) : Option (Int64 × GW) :=
  (f_X9_common x0 x2 w).bind fun q1 =>
  if x4 = 0 then
    if ¬ q1.1 = 0 then
    some ((x0 / q1.1), q1.2)
    else none
  else
    if ¬ q1.1 = 0 then
    some ((x2 / q1.1), q1.2)
    else none
set_option maxHeartbeats 4000000 in
set_option maxRecDepth 100000 in
theorem c_X9_lowest (l : Launch) (G : GG) (x0 : Int64) (x2 : Int64) (x4 : Int32)  (w : GW) {z : Int64 × GW} (hz : f_X9_lowest x0 x2 x4 w = some z) : Met l yX9_lowest (wsU yX9_lowest cX9_lowest 7 (some .long)) rm_X9_lowest (va_Pc [.long x0, .long x2, .int x4] (PreG G w)) (QL G z) 0 0 (gA G) := by
  refine Met.ofW (cc := cX9_lowest) (maxL := 7) (ret := (some .long)) (by decide) rfl ?_
  intro p e s m args below meth c s₁ B hml hv
  obtain ⟨rfl, S⟩ := hv
  have F : CallFix p m c cX9_lowest 7 s _ (wsU yX9_lowest cX9_lowest 7 (some .long)) RX9 := ⟨B.exec, B.bytes, hml, findClass_of_methodNamed B.named, atoms_spec B.pre⟩
  have hr := B.returns
  have hlk := B.notSynchronized
  obtain ⟨hx, hb, -, hown, hts⟩ := id F
  have hg : ∀ q ∈ lwg, q.before _ s = true := fun q h => hts q (List.mem_cons_of_mem _ h)
  refine g_entry (Nat.le_of_ble_eq_true rfl) (fun ls hl => ?_)
  have hl : lv_has ls 7 [(0, .long x0), (2, .long x2), (4, .int x4)] := hl
  have S : St G w s s.heap [] := S
  generalize s.heap = H at S ⊢
  generalize ([] : List Loc) = locs at S ⊢
  rw [f_X9_lowest] at hz
  refine lv_lload_n hx hb dX9_lowest_0 rfl (lv_at hl 0 rfl) ?_
  refine lv_lload_n hx hb dX9_lowest_1 rfl (lv_at hl 1 rfl) ?_
  obtain ⟨q1, e2, hz⟩ := bd hz
  refine g_callSl (As := [.long x0, .long x2]) (rest := []) F S (c_X9_common l G x0 x2  _ e2) (cw_X9_lowest_X9_common_316 hg) rfl hl.1 rfl (Nat.le_of_ble_eq_true rfl) ⟨Nat.zero_le _, Nat.zero_le _⟩ dX9_lowest_2 (fun H locs  S => ?_)
  refine lv_lstore (lv' := [(5, .long q1.1), (0, .long x0), (2, .long x2), (4, .int x4)]) hx hb dX9_lowest_5 hl (by decide) rfl (fun ls hl => ?_)
  refine lv_iload hx hb dX9_lowest_7 (lv_at hl 3 rfl) ?_
  refine lv_if_eq (tgt := 16) hx hb dX9_lowest_9 (by decide) (fun c3 => ?_) (fun c3 => ?_)
  · have hz := ipt (c3) hz
    refine lv_lload_n hx hb dX9_lowest_16 rfl (lv_at hl 1 rfl) ?_
    refine lv_lload hx hb dX9_lowest_17 (lv_at hl 0 rfl) ?_
    obtain ⟨h4, hz⟩ := ck hz
    refine g_ldiv hx hb dX9_lowest_19 h4 ?_
    exact g_retl hx hb hr hlk S hz dX9_lowest_20
  · have hz := ipf (c3) hz
    refine lv_lload_n hx hb dX9_lowest_12 rfl (lv_at hl 2 rfl) ?_
    refine lv_goto (tgt := 17) hx hb dX9_lowest_13 (by decide) ?_
    refine lv_lload hx hb dX9_lowest_17 (lv_at hl 0 rfl) ?_
    obtain ⟨h5, hz⟩ := ck hz
    refine g_ldiv hx hb dX9_lowest_19 h5 ?_
    exact g_retl hx hb hr hlk S hz dX9_lowest_20
noncomputable def f_X9_chanceWhy (x1 : Int32) (x2 : Int32) (x3 : Int32) (w : GW) : Option (Int32 × GW) :=
  (f_X9_isPorter x1 w).bind fun q1 =>
  if q1.1 = 0 then
    some (1, q1.2)
  else
    if inb 1 135 then
    (f_X9_within x2 0 (gI q1.2 133 (ix 1)) q1.2).bind fun q6 =>
    if q6.1 = 0 then
      some (2, q6.2)
    else
      if x3 = 0 then
        some (2, q6.2)
      else
        (f_X9_laysBy x1 x2 q6.2).bind fun q11 =>
        if q11.1 = 0 then
          some (3, q11.2)
        else
          some (0, q11.2)
    else none
set_option maxHeartbeats 4000000 in
set_option maxRecDepth 100000 in
theorem c_X9_chanceWhy (l : Launch) (G : GG) (x1 : Int32) (x2 : Int32) (x3 : Int32)  (w : GW) {z : Int32 × GW} (hz : f_X9_chanceWhy x1 x2 x3 w = some z) : Met l yX9_chanceWhy (wsU yX9_chanceWhy cX9_chanceWhy 4 (some .int)) rm_X9_chanceWhy (va_Pc [.ref (gad G 130), .int x1, .int x2, .int x3] (PreG G w)) (QI G z) 0 0 (gA G) := by
  refine Met.ofW (cc := cX9_chanceWhy) (maxL := 4) (ret := (some .int)) (by decide) rfl ?_
  intro p e s m args below meth c s₁ B hml hv
  obtain ⟨rfl, S⟩ := hv
  have F : CallFix p m c cX9_chanceWhy 4 s _ (wsU yX9_chanceWhy cX9_chanceWhy 4 (some .int)) RX9 := ⟨B.exec, B.bytes, hml, findClass_of_methodNamed B.named, atoms_spec B.pre⟩
  have hr := B.returns
  have hlk := B.notSynchronized
  obtain ⟨hx, hb, -, hown, hts⟩ := id F
  have hg : ∀ q ∈ lwg, q.before _ s = true := fun q h => hts q (List.mem_cons_of_mem _ h)
  refine g_entry (Nat.le_of_ble_eq_true rfl) (fun ls hl => ?_)
  have hl : lv_has ls 4 [(0, .ref (gad G 130)), (1, .int x1), (2, .int x2), (3, .int x3)] := hl
  have S : St G w s s.heap [] := S
  generalize s.heap = H at S ⊢
  generalize ([] : List Loc) = locs at S ⊢
  rw [f_X9_chanceWhy] at hz
  refine lv_aload_n hx hb dX9_chanceWhy_0 rfl (lv_at hl 0 rfl) ?_
  refine lv_iload_n hx hb dX9_chanceWhy_1 rfl (lv_at hl 1 rfl) ?_
  obtain ⟨q1, e2, hz⟩ := bd hz
  refine g_callVb (As := [.int x1]) (rest := []) F S (c_X9_isPorter l G x1  _ e2) (cw_X9_chanceWhy_X9_isPorter_320 hg) (S.obj (by decide) (by decide) rfl (oc_X9 _ _ _ (by decide))) rfl hl.1 rfl (Nat.le_of_ble_eq_true rfl) ⟨Nat.zero_le _, Nat.zero_le _⟩ dX9_chanceWhy_2 (fun H locs hB3 S => ?_)
  refine lv_if_ne (tgt := 12) hx hb dX9_chanceWhy_5 (by decide) (fun c4 => ?_) (fun c4 => ?_)
  · have hz := ipf (c4) hz
    refine lv_iload_n hx hb dX9_chanceWhy_12 rfl (lv_at hl 2 rfl) ?_
    refine lv_iconst (v := 0) hx hb dX9_chanceWhy_13 (by decide) ?_
    refine lv_aload_n hx hb dX9_chanceWhy_14 rfl (lv_at hl 0 rfl) ?_
    refine fg_X9_15 hx hb (fun q h => hg q (tl_X9 q h)) hown (hg _ t_fl_X9_20) S (by decide) dX9_chanceWhy_15 ?_
    refine lv_iconst (v := 1) hx hb dX9_chanceWhy_18 (by decide) ?_
    obtain ⟨h5, hz⟩ := ck hz
    refine g_iald hx hb S (isA_15 (by decide)) h5 dX9_chanceWhy_19 ?_
    obtain ⟨q6, e7, hz⟩ := bd hz
    refine g_callSb (As := [.int x2, .int 0, .int (gI q1.2 133 (ix 1))]) (rest := []) F S (c_X9_within l G x2 0 (gI q1.2 133 (ix 1))  _ e7) (cw_X9_chanceWhy_X9_within_138 hg) rfl hl.1 rfl (Nat.le_of_ble_eq_true rfl) ⟨Nat.zero_le _, Nat.zero_le _⟩ dX9_chanceWhy_20 (fun H locs hB8 S => ?_)
    refine lv_if_eq (tgt := 30) hx hb dX9_chanceWhy_23 (by decide) (fun c9 => ?_) (fun c9 => ?_)
    · have hz := ipt (c9) hz
      refine lv_iconst (v := 2) hx hb dX9_chanceWhy_30 (by decide) ?_
      refine lv_goto (tgt := 48) hx hb dX9_chanceWhy_31 (by decide) ?_
      exact g_reti hx hb hr hlk S hz dX9_chanceWhy_48
    · have hz := ipf (c9) hz
      refine lv_iload_n hx hb dX9_chanceWhy_26 rfl (lv_at hl 3 rfl) ?_
      refine lv_if_ne (tgt := 34) hx hb dX9_chanceWhy_27 (by decide) (fun c10 => ?_) (fun c10 => ?_)
      · have hz := ipf (c10) hz
        refine lv_aload_n hx hb dX9_chanceWhy_34 rfl (lv_at hl 0 rfl) ?_
        refine lv_iload_n hx hb dX9_chanceWhy_35 rfl (lv_at hl 1 rfl) ?_
        refine lv_iload_n hx hb dX9_chanceWhy_36 rfl (lv_at hl 2 rfl) ?_
        obtain ⟨q11, e12, hz⟩ := bd hz
        refine g_callVb (As := [.int x1, .int x2]) (rest := []) F S (c_X9_laysBy l G x1 x2  _ e12) (cw_X9_chanceWhy_X9_laysBy_323 hg) (S.obj (by decide) (by decide) rfl (oc_X9 _ _ _ (by decide))) rfl hl.1 rfl (Nat.le_of_ble_eq_true rfl) ⟨Nat.zero_le _, Nat.zero_le _⟩ dX9_chanceWhy_37 (fun H locs hB13 S => ?_)
        refine lv_if_eq (tgt := 47) hx hb dX9_chanceWhy_40 (by decide) (fun c14 => ?_) (fun c14 => ?_)
        · have hz := ipt (c14) hz
          refine lv_iconst (v := 3) hx hb dX9_chanceWhy_47 (by decide) ?_
          exact g_reti hx hb hr hlk S hz dX9_chanceWhy_48
        · have hz := ipf (c14) hz
          refine lv_iconst (v := 0) hx hb dX9_chanceWhy_43 (by decide) ?_
          refine lv_goto (tgt := 48) hx hb dX9_chanceWhy_44 (by decide) ?_
          exact g_reti hx hb hr hlk S hz dX9_chanceWhy_48
      · have hz := ipt (c10) hz
        refine lv_iconst (v := 2) hx hb dX9_chanceWhy_30 (by decide) ?_
        refine lv_goto (tgt := 48) hx hb dX9_chanceWhy_31 (by decide) ?_
        exact g_reti hx hb hr hlk S hz dX9_chanceWhy_48
  · have hz := ipt (c4) hz
    refine lv_iconst (v := 1) hx hb dX9_chanceWhy_8 (by decide) ?_
    refine lv_goto (tgt := 48) hx hb dX9_chanceWhy_9 (by decide) ?_
    exact g_reti hx hb hr hlk S hz dX9_chanceWhy_48
noncomputable def f_X9_fullest (x1 : Int32) (x2 : Int32) (x3 : Int32) (x4 : Int32) (w : GW) : Option (Int64 × GW) :=
  (f_X9_good w).bind fun q1 =>
  (f_X9_within x3 0 9 q1.2).bind fun q3 =>
  (f_X9_chanceWhy x1 x2 q3.1 q3.2).bind fun q6 =>
  if q6.1 = 0 then
    (f_X9_waysOfFullest x3 q6.2).bind fun q9 =>
    (f_X9_lowest q9.1 (gL q9.2 130 30) x4 q9.2).bind fun q11 =>
    some (q11.1, q11.2)
  else
    (f_X9_no q6.1 q6.2).bind fun q13 =>
    some ((q13.1.toInt64), q13.2)
set_option maxHeartbeats 4000000 in
set_option maxRecDepth 100000 in
theorem c_X9_fullest (l : Launch) (G : GG) (x1 : Int32) (x2 : Int32) (x3 : Int32) (x4 : Int32)  (w : GW) {z : Int64 × GW} (hz : f_X9_fullest x1 x2 x3 x4 w = some z) : Met l yX9_fullest (wsU yX9_fullest cX9_fullest 6 (some .long)) rm_X9_fullest (va_Pc [.ref (gad G 130), .int x1, .int x2, .int x3, .int x4] (PreG G w)) (QL G z) 0 0 (gA G) := by
  refine Met.ofW (cc := cX9_fullest) (maxL := 6) (ret := (some .long)) (by decide) rfl ?_
  intro p e s m args below meth c s₁ B hml hv
  obtain ⟨rfl, S⟩ := hv
  have F : CallFix p m c cX9_fullest 6 s _ (wsU yX9_fullest cX9_fullest 6 (some .long)) RX9 := ⟨B.exec, B.bytes, hml, findClass_of_methodNamed B.named, atoms_spec B.pre⟩
  have hr := B.returns
  have hlk := B.notSynchronized
  obtain ⟨hx, hb, -, hown, hts⟩ := id F
  have hg : ∀ q ∈ lwg, q.before _ s = true := fun q h => hts q (List.mem_cons_of_mem _ h)
  refine g_entry (Nat.le_of_ble_eq_true rfl) (fun ls hl => ?_)
  have hl : lv_has ls 6 [(0, .ref (gad G 130)), (1, .int x1), (2, .int x2), (3, .int x3), (4, .int x4)] := hl
  have S : St G w s s.heap [] := S
  generalize s.heap = H at S ⊢
  generalize ([] : List Loc) = locs at S ⊢
  rw [f_X9_fullest] at hz
  refine lv_aload_n hx hb dX9_fullest_0 rfl (lv_at hl 0 rfl) ?_
  obtain ⟨q1, e2, hz⟩ := bd hz
  refine g_callVv (As := []) (rest := []) F S (c_X9_good l G   _ e2) (cw_X9_fullest_X9_good_150 hg) (S.obj (by decide) (by decide) rfl (oc_X9 _ _ _ (by decide))) rfl hl.1 rfl (Nat.le_of_ble_eq_true rfl) ⟨Nat.zero_le _, Nat.zero_le _⟩ dX9_fullest_1 (fun H locs  S => ?_)
  refine lv_aload_n hx hb dX9_fullest_4 rfl (lv_at hl 0 rfl) ?_
  refine lv_iload_n hx hb dX9_fullest_5 rfl (lv_at hl 1 rfl) ?_
  refine lv_iload_n hx hb dX9_fullest_6 rfl (lv_at hl 2 rfl) ?_
  refine lv_iload_n hx hb dX9_fullest_7 rfl (lv_at hl 3 rfl) ?_
  refine lv_iconst (v := 0) hx hb dX9_fullest_8 (by decide) ?_
  refine lv_bipush (v := 9) hx hb dX9_fullest_9 (by decide) ?_
  obtain ⟨q3, e4, hz⟩ := bd hz
  refine g_callSb (As := [.int x3, .int 0, .int 9]) (rest := [.int x2, .int x1, .ref (gad G 130)]) F S (c_X9_within l G x3 0 9  _ e4) (cw_X9_fullest_X9_within_138 hg) rfl hl.1 rfl (Nat.le_of_ble_eq_true rfl) ⟨Nat.zero_le _, Nat.zero_le _⟩ dX9_fullest_11 (fun H locs hB5 S => ?_)
  obtain ⟨q6, e7, hz⟩ := bd hz
  refine g_callVi (As := [.int x1, .int x2, .int q3.1]) (rest := []) F S (c_X9_chanceWhy l G x1 x2 q3.1  _ e7) (cw_X9_fullest_X9_chanceWhy_327 hg) (S.obj (by decide) (by decide) rfl (oc_X9 _ _ _ (by decide))) rfl hl.1 rfl (Nat.le_of_ble_eq_true rfl) ⟨Nat.zero_le _, Nat.zero_le _⟩ dX9_fullest_14 (fun H locs  S => ?_)
  refine lv_istore (lv' := [(5, .int q6.1), (0, .ref (gad G 130)), (1, .int x1), (2, .int x2), (3, .int x3), (4, .int x4)]) hx hb dX9_fullest_17 hl (by decide) rfl (fun ls hl => ?_)
  refine lv_iload hx hb dX9_fullest_19 (lv_at hl 0 rfl) ?_
  refine lv_if_eq (tgt := 34) hx hb dX9_fullest_21 (by decide) (fun c8 => ?_) (fun c8 => ?_)
  · have hz := ipt (c8) hz
    refine lv_aload_n hx hb dX9_fullest_34 rfl (lv_at hl 1 rfl) ?_
    refine lv_iload_n hx hb dX9_fullest_35 rfl (lv_at hl 4 rfl) ?_
    obtain ⟨q9, e10, hz⟩ := bd hz
    refine g_callVl (As := [.int x3]) (rest := []) F S (c_X9_waysOfFullest l G x3  _ e10) (cw_X9_fullest_X9_waysOfFullest_331 hg) (S.obj (by decide) (by decide) rfl (oc_X9 _ _ _ (by decide))) rfl hl.1 rfl (Nat.le_of_ble_eq_true rfl) ⟨Nat.zero_le _, Nat.zero_le _⟩ dX9_fullest_36 (fun H locs  S => ?_)
    refine lv_aload_n hx hb dX9_fullest_39 rfl (lv_at hl 1 rfl) ?_
    refine fg_X9_30 hx hb (fun q h => hg q (tl_X9 q h)) hown (hg _ t_fl_X9_255) S (by decide) dX9_fullest_40 ?_
    refine lv_iload hx hb dX9_fullest_43 (lv_at hl 5 rfl) ?_
    obtain ⟨q11, e12, hz⟩ := bd hz
    refine g_callSl (As := [.long q9.1, .long (gL q9.2 130 30), .int x4]) (rest := []) F S (c_X9_lowest l G q9.1 (gL q9.2 130 30) x4  _ e12) (cw_X9_fullest_X9_lowest_334 hg) rfl hl.1 rfl (Nat.le_of_ble_eq_true rfl) ⟨Nat.zero_le _, Nat.zero_le _⟩ dX9_fullest_45 (fun H locs  S => ?_)
    exact g_retl hx hb hr hlk S hz dX9_fullest_48
  · have hz := ipf (c8) hz
    refine lv_aload_n hx hb dX9_fullest_24 rfl (lv_at hl 1 rfl) ?_
    refine lv_iload hx hb dX9_fullest_25 (lv_at hl 0 rfl) ?_
    obtain ⟨q13, e14, hz⟩ := bd hz
    refine g_callVi (As := [.int q6.1]) (rest := []) F S (c_X9_no l G q6.1  _ e14) (cw_X9_fullest_X9_no_153 hg) (S.obj (by decide) (by decide) rfl (oc_X9 _ _ _ (by decide))) rfl hl.1 rfl (Nat.le_of_ble_eq_true rfl) ⟨Nat.zero_le _, Nat.zero_le _⟩ dX9_fullest_27 (fun H locs  S => ?_)
    refine lv_i2l (v := q13.1.toInt64) hx hb dX9_fullest_30 rfl ?_
    refine lv_goto (tgt := 48) hx hb dX9_fullest_31 (by decide) ?_
    exact g_retl hx hb hr hlk S hz dX9_fullest_48
noncomputable def f_X9_emptyOf_34 (k_9 : Int32 → Int32 → GW → Option (Int32 × GW)) (x3 : Int32) (t0 : Int32) (t1 : Int32) (w : GW) : Option (Int32 × GW) :=
  k_9 (t1 + t0) (x3 + 1) w
noncomputable def f_X9_emptyOf_9  : Nat → Int32 → Int32 → GW → Option (Int32 × GW)
  | 0, _, _, _ => none
  | n9 + 1, x2, x3, w =>
    if inb 0 135 then
    if (gI w 133 (ix 0)) ≤ x3 then
      some (x2, w)
    else
      if inb x3 5 then
      if (gI w 137 (ix x3)) = 0 then
        f_X9_emptyOf_34 (f_X9_emptyOf_9 n9) x3 1 x2 w
      else
        f_X9_emptyOf_34 (f_X9_emptyOf_9 n9) x3 0 x2 w
      else none
    else none
noncomputable def f_X9_emptyOf (x1 : Int32) (w : GW) : Option (Int32 × GW) :=
  (f_X9_layApart x1 w).bind fun q1 =>
  f_X9_emptyOf_9 fu 0 0 q1.2
set_option maxHeartbeats 4000000 in
set_option maxRecDepth 100000 in
theorem w_X9_emptyOf_34 {p : Program} {l : Launch} {e : Env} {s : State} {m : MethodId} {args : Array Value} {below : List Frame} {meth : Method} {c : Code} {G : GG} (F : CallFix p m c cX9_emptyOf 4 s args (wsU yX9_emptyOf cX9_emptyOf 4 (some .int)) RX9) (hr : meth.sig.returnType = (some .int)) (hlk : meth.locks = false) {z : Int32 × GW} {k_9 : Int32 → Int32 → GW → Option (Int32 × GW)} (Hk_9 : (∀ (x2 : Int32) (x3 : Int32) (w : GW) (H : Heap) (locs : List Loc) (ls : Array Slot), St G w s H locs → lv_has ls 4 [(0, .ref (gad G 130)), (2, .int x2), (3, .int x3)] → k_9 x2 x3 w = some z → W p l e (headSpec (wsU yX9_emptyOf cX9_emptyOf 4 (some .int)) rm_X9_emptyOf).room s m args below meth c H locs 0 0 (MQ below (QI G z) args s 0 0 (gA G)) (F0 m 9 ls []))) : (∀ (x3 : Int32) (t0 : Int32) (t1 : Int32) (w : GW) (H : Heap) (locs : List Loc) (ls : Array Slot), St G w s H locs → lv_has ls 4 [(0, .ref (gad G 130)), (3, .int x3)] → f_X9_emptyOf_34 k_9 x3 t0 t1 w = some z → W p l e (headSpec (wsU yX9_emptyOf cX9_emptyOf 4 (some .int)) rm_X9_emptyOf).room s m args below meth c H locs 0 0 (MQ below (QI G z) args s 0 0 (gA G)) (F0 m 34 ls [.int t0, .int t1])) := by
  obtain ⟨hx, hb, hml, hown, hts⟩ := id F
  have hg : ∀ q ∈ lwg, q.before args s = true := fun q h => hts q (List.mem_cons_of_mem _ h)
  intro x3 t0 t1 w H locs ls S hl hz
  rw [f_X9_emptyOf_34] at hz
  refine lv_iadd hx hb dX9_emptyOf_34 ?_
  refine lv_istore_n (lv' := [(2, .int (t1 + t0)), (0, .ref (gad G 130)), (3, .int x3)]) hx hb dX9_emptyOf_35 rfl hl (by decide) rfl (fun ls hl => ?_)
  refine lv_iinc (v := (x3 + 1)) (lv' := [(3, .int (x3 + 1)), (2, .int (t1 + t0)), (0, .ref (gad G 130))]) hx hb dX9_emptyOf_36 hl (k := 2) rfl rfl (by decide) rfl (fun ls hl => ?_)
  refine lv_goto (tgt := 9) hx hb dX9_emptyOf_39 (by decide) ?_
  exact Hk_9 (t1 + t0) (x3 + 1)  _ _ _ _ S (lv_sub hl [2, 1, 0] rfl) hz
set_option maxHeartbeats 4000000 in
set_option maxRecDepth 100000 in
theorem w_X9_emptyOf_9 {p : Program} {l : Launch} {e : Env} {s : State} {m : MethodId} {args : Array Value} {below : List Frame} {meth : Method} {c : Code} {G : GG} (F : CallFix p m c cX9_emptyOf 4 s args (wsU yX9_emptyOf cX9_emptyOf 4 (some .int)) RX9) (hr : meth.sig.returnType = (some .int)) (hlk : meth.locks = false) {z : Int32 × GW} : ∀ (n9 : Nat), (∀ (x2 : Int32) (x3 : Int32) (w : GW) (H : Heap) (locs : List Loc) (ls : Array Slot), St G w s H locs → lv_has ls 4 [(0, .ref (gad G 130)), (2, .int x2), (3, .int x3)] → f_X9_emptyOf_9 n9 x2 x3 w = some z → W p l e (headSpec (wsU yX9_emptyOf cX9_emptyOf 4 (some .int)) rm_X9_emptyOf).room s m args below meth c H locs 0 0 (MQ below (QI G z) args s 0 0 (gA G)) (F0 m 9 ls [])) := by
  obtain ⟨hx, hb, hml, hown, hts⟩ := id F
  have hg : ∀ q ∈ lwg, q.before args s = true := fun q h => hts q (List.mem_cons_of_mem _ h)
  intro n9
  induction n9 with
  | zero =>
    intro x2 x3 w H locs ls S hl hz
    rw [f_X9_emptyOf_9] at hz
    cases hz
  | succ n9 ih =>
    intro x2 x3 w H locs ls S hl hz
    rw [f_X9_emptyOf_9] at hz
    refine lv_iload_n hx hb dX9_emptyOf_9 rfl (lv_at hl 2 rfl) ?_
    refine lv_aload_n hx hb dX9_emptyOf_10 rfl (lv_at hl 0 rfl) ?_
    refine fg_X9_15 hx hb (fun q h => hg q (tl_X9 q h)) hown (hg _ t_fl_X9_20) S (by decide) dX9_emptyOf_11 ?_
    refine lv_iconst (v := 0) hx hb dX9_emptyOf_14 (by decide) ?_
    obtain ⟨h3, hz⟩ := ck hz
    refine g_iald hx hb S (isA_15 (by decide)) h3 dX9_emptyOf_15 ?_
    refine lv_icmp_ge (tgt := 42) hx hb dX9_emptyOf_16 (by decide) (fun c4 => ?_) (fun c4 => ?_)
    · have hz := ipt (c4) hz
      refine lv_iload_n hx hb dX9_emptyOf_42 rfl (lv_at hl 1 rfl) ?_
      exact g_reti hx hb hr hlk S hz dX9_emptyOf_43
    · have hz := ipf (c4) hz
      refine lv_iload_n hx hb dX9_emptyOf_19 rfl (lv_at hl 1 rfl) ?_
      refine lv_aload_n hx hb dX9_emptyOf_20 rfl (lv_at hl 0 rfl) ?_
      refine fg_X9_20 hx hb (fun q h => hg q (tl_X9 q h)) hown (hg _ t_fl_X9_32) S (by decide) dX9_emptyOf_21 ?_
      refine lv_iload_n hx hb dX9_emptyOf_24 rfl (lv_at hl 2 rfl) ?_
      obtain ⟨h5, hz⟩ := ck hz
      refine g_iald hx hb S (isA_10 (by decide)) h5 dX9_emptyOf_25 ?_
      refine lv_if_ne (tgt := 33) hx hb dX9_emptyOf_26 (by decide) (fun c6 => ?_) (fun c6 => ?_)
      · have hz := ipf (c6) hz
        refine lv_iconst (v := 0) hx hb dX9_emptyOf_33 (by decide) ?_
        exact w_X9_emptyOf_34 F hr hlk ih x3 0 x2 _ _ _ _ S (lv_sub hl [0, 2] rfl) hz
      · have hz := ipt (c6) hz
        refine lv_iconst (v := 1) hx hb dX9_emptyOf_29 (by decide) ?_
        refine lv_goto (tgt := 34) hx hb dX9_emptyOf_30 (by decide) ?_
        exact w_X9_emptyOf_34 F hr hlk ih x3 1 x2 _ _ _ _ S (lv_sub hl [0, 2] rfl) hz
set_option maxHeartbeats 4000000 in
set_option maxRecDepth 100000 in
theorem c_X9_emptyOf (l : Launch) (G : GG) (x1 : Int32)  (w : GW) {z : Int32 × GW} (hz : f_X9_emptyOf x1 w = some z) : Met l yX9_emptyOf (wsU yX9_emptyOf cX9_emptyOf 4 (some .int)) rm_X9_emptyOf (va_Pc [.ref (gad G 130), .int x1] (PreG G w)) (QI G z) 0 0 (gA G) := by
  refine Met.ofW (cc := cX9_emptyOf) (maxL := 4) (ret := (some .int)) (by decide) rfl ?_
  intro p e s m args below meth c s₁ B hml hv
  obtain ⟨rfl, S⟩ := hv
  have F : CallFix p m c cX9_emptyOf 4 s _ (wsU yX9_emptyOf cX9_emptyOf 4 (some .int)) RX9 := ⟨B.exec, B.bytes, hml, findClass_of_methodNamed B.named, atoms_spec B.pre⟩
  have hr := B.returns
  have hlk := B.notSynchronized
  obtain ⟨hx, hb, -, hown, hts⟩ := id F
  have hg : ∀ q ∈ lwg, q.before _ s = true := fun q h => hts q (List.mem_cons_of_mem _ h)
  refine g_entry (Nat.le_of_ble_eq_true rfl) (fun ls hl => ?_)
  have hl : lv_has ls 4 [(0, .ref (gad G 130)), (1, .int x1)] := hl
  have S : St G w s s.heap [] := S
  generalize s.heap = H at S ⊢
  generalize ([] : List Loc) = locs at S ⊢
  rw [f_X9_emptyOf] at hz
  refine lv_aload_n hx hb dX9_emptyOf_0 rfl (lv_at hl 0 rfl) ?_
  refine lv_iload_n hx hb dX9_emptyOf_1 rfl (lv_at hl 1 rfl) ?_
  obtain ⟨q1, e2, hz⟩ := bd hz
  refine g_callVv (As := [.int x1]) (rest := []) F S (c_X9_layApart l G x1  _ e2) (cw_X9_emptyOf_X9_layApart_279 hg) (S.obj (by decide) (by decide) rfl (oc_X9 _ _ _ (by decide))) rfl hl.1 rfl (Nat.le_of_ble_eq_true rfl) ⟨Nat.zero_le _, Nat.zero_le _⟩ dX9_emptyOf_2 (fun H locs  S => ?_)
  refine lv_iconst (v := 0) hx hb dX9_emptyOf_5 (by decide) ?_
  refine lv_istore_n (lv' := [(2, .int 0), (0, .ref (gad G 130)), (1, .int x1)]) hx hb dX9_emptyOf_6 rfl hl (by decide) rfl (fun ls hl => ?_)
  refine lv_iconst (v := 0) hx hb dX9_emptyOf_7 (by decide) ?_
  refine lv_istore_n (lv' := [(3, .int 0), (2, .int 0), (0, .ref (gad G 130)), (1, .int x1)]) hx hb dX9_emptyOf_8 rfl hl (by decide) rfl (fun ls hl => ?_)
  exact w_X9_emptyOf_9 F hr hlk fu 0 0 _ _ _ _ S (lv_sub hl [2, 1, 0] rfl) hz
noncomputable def f_X9_empty_74 (k_37 : Int32 → Int32 → Int64 → Int32 → GW → Option (Int64 × GW)) (x3 : Int32) (x4 : Int32) (x8 : Int32) (t0 : Int64) (t1 : Int64) (w : GW) : Option (Int64 × GW) :=
  k_37 x3 x4 (t1 + t0) (x8 + 1) w
noncomputable def f_X9_empty_37  : Nat → Int32 → Int32 → Int64 → Int32 → GW → Option (Int64 × GW)
  | 0, _, _, _, _, _ => none
  | n9 + 1, x3, x4, x6, x8, w =>
    if (gI w 130 28) ≤ x8 then
      (f_X9_lowest x6 (gL w 130 30) x4 w).bind fun q10 =>
      some (q10.1, q10.2)
    else
      if inb x8 8000 then
      (f_X9_emptyOf (gI w 139 (ix x8)) w).bind fun q13 =>
      if q13.1 = x3 then
        if inb x8 8000 then
        f_X9_empty_74 (f_X9_empty_37 n9) x3 x4 x8 (gL q13.2 142 (ix x8)) x6 q13.2
        else none
      else
        f_X9_empty_74 (f_X9_empty_37 n9) x3 x4 x8 0 x6 q13.2
      else none
noncomputable def f_X9_empty (x1 : Int32) (x2 : Int32) (x3 : Int32) (x4 : Int32) (w : GW) : Option (Int64 × GW) :=
  (f_X9_good w).bind fun q1 =>
  (f_X9_within x3 0 5 q1.2).bind fun q3 =>
  (f_X9_chanceWhy x1 x2 q3.1 q3.2).bind fun q6 =>
  if q6.1 = 0 then
    f_X9_empty_37 fu x3 x4 0 0 q6.2
  else
    (f_X9_no q6.1 q6.2).bind fun q17 =>
    some ((q17.1.toInt64), q17.2)
set_option maxHeartbeats 4000000 in
set_option maxRecDepth 100000 in
theorem w_X9_empty_74 {p : Program} {l : Launch} {e : Env} {s : State} {m : MethodId} {args : Array Value} {below : List Frame} {meth : Method} {c : Code} {G : GG} (F : CallFix p m c cX9_empty 9 s args (wsU yX9_empty cX9_empty 9 (some .long)) RX9) (hr : meth.sig.returnType = (some .long)) (hlk : meth.locks = false) {z : Int64 × GW} {k_37 : Int32 → Int32 → Int64 → Int32 → GW → Option (Int64 × GW)} (Hk_37 : (∀ (x3 : Int32) (x4 : Int32) (x6 : Int64) (x8 : Int32) (w : GW) (H : Heap) (locs : List Loc) (ls : Array Slot), St G w s H locs → lv_has ls 9 [(0, .ref (gad G 130)), (3, .int x3), (4, .int x4), (6, .long x6), (8, .int x8)] → k_37 x3 x4 x6 x8 w = some z → W p l e (headSpec (wsU yX9_empty cX9_empty 9 (some .long)) rm_X9_empty).room s m args below meth c H locs 0 0 (MQ below (QL G z) args s 0 0 (gA G)) (F0 m 37 ls []))) : (∀ (x3 : Int32) (x4 : Int32) (x8 : Int32) (t0 : Int64) (t1 : Int64) (w : GW) (H : Heap) (locs : List Loc) (ls : Array Slot), St G w s H locs → lv_has ls 9 [(0, .ref (gad G 130)), (3, .int x3), (4, .int x4), (8, .int x8)] → f_X9_empty_74 k_37 x3 x4 x8 t0 t1 w = some z → W p l e (headSpec (wsU yX9_empty cX9_empty 9 (some .long)) rm_X9_empty).room s m args below meth c H locs 0 0 (MQ below (QL G z) args s 0 0 (gA G)) (F0 m 74 ls [.long t0, .long t1])) := by
  obtain ⟨hx, hb, hml, hown, hts⟩ := id F
  have hg : ∀ q ∈ lwg, q.before args s = true := fun q h => hts q (List.mem_cons_of_mem _ h)
  intro x3 x4 x8 t0 t1 w H locs ls S hl hz
  rw [f_X9_empty_74] at hz
  refine lv_ladd hx hb dX9_empty_74 ?_
  refine lv_lstore (lv' := [(6, .long (t1 + t0)), (0, .ref (gad G 130)), (3, .int x3), (4, .int x4), (8, .int x8)]) hx hb dX9_empty_75 hl (by decide) rfl (fun ls hl => ?_)
  refine lv_iinc (v := (x8 + 1)) (lv' := [(8, .int (x8 + 1)), (6, .long (t1 + t0)), (0, .ref (gad G 130)), (3, .int x3), (4, .int x4)]) hx hb dX9_empty_77 hl (k := 4) rfl rfl (by decide) rfl (fun ls hl => ?_)
  refine lv_goto (tgt := 37) hx hb dX9_empty_80 (by decide) ?_
  exact Hk_37 x3 x4 (t1 + t0) (x8 + 1)  _ _ _ _ S (lv_sub hl [2, 3, 4, 1, 0] rfl) hz
set_option maxHeartbeats 4000000 in
set_option maxRecDepth 100000 in
theorem w_X9_empty_37 {p : Program} {l : Launch} {e : Env} {s : State} {m : MethodId} {args : Array Value} {below : List Frame} {meth : Method} {c : Code} {G : GG} (F : CallFix p m c cX9_empty 9 s args (wsU yX9_empty cX9_empty 9 (some .long)) RX9) (hr : meth.sig.returnType = (some .long)) (hlk : meth.locks = false) {z : Int64 × GW} : ∀ (n9 : Nat), (∀ (x3 : Int32) (x4 : Int32) (x6 : Int64) (x8 : Int32) (w : GW) (H : Heap) (locs : List Loc) (ls : Array Slot), St G w s H locs → lv_has ls 9 [(0, .ref (gad G 130)), (3, .int x3), (4, .int x4), (6, .long x6), (8, .int x8)] → f_X9_empty_37 n9 x3 x4 x6 x8 w = some z → W p l e (headSpec (wsU yX9_empty cX9_empty 9 (some .long)) rm_X9_empty).room s m args below meth c H locs 0 0 (MQ below (QL G z) args s 0 0 (gA G)) (F0 m 37 ls [])) := by
  obtain ⟨hx, hb, hml, hown, hts⟩ := id F
  have hg : ∀ q ∈ lwg, q.before args s = true := fun q h => hts q (List.mem_cons_of_mem _ h)
  intro n9
  induction n9 with
  | zero =>
    intro x3 x4 x6 x8 w H locs ls S hl hz
    rw [f_X9_empty_37] at hz
    cases hz
  | succ n9 ih =>
    intro x3 x4 x6 x8 w H locs ls S hl hz
    rw [f_X9_empty_37] at hz
    refine lv_iload hx hb dX9_empty_37 (lv_at hl 4 rfl) ?_
    refine lv_aload_n hx hb dX9_empty_39 rfl (lv_at hl 0 rfl) ?_
    refine fg_X9_28 hx hb (fun q h => hg q (tl_X9 q h)) hown (hg _ t_fl_X9_252) S (by decide) dX9_empty_40 ?_
    refine lv_icmp_ge (tgt := 83) hx hb dX9_empty_43 (by decide) (fun c9 => ?_) (fun c9 => ?_)
    · have hz := ipt (c9) hz
      refine lv_lload hx hb dX9_empty_83 (lv_at hl 3 rfl) ?_
      refine lv_aload_n hx hb dX9_empty_85 rfl (lv_at hl 0 rfl) ?_
      refine fg_X9_30 hx hb (fun q h => hg q (tl_X9 q h)) hown (hg _ t_fl_X9_255) S (by decide) dX9_empty_86 ?_
      refine lv_iload hx hb dX9_empty_89 (lv_at hl 2 rfl) ?_
      obtain ⟨q10, e11, hz⟩ := bd hz
      refine g_callSl (As := [.long x6, .long (gL w 130 30), .int x4]) (rest := []) F S (c_X9_lowest l G x6 (gL w 130 30) x4  _ e11) (cw_X9_empty_X9_lowest_334 hg) rfl hl.1 rfl (Nat.le_of_ble_eq_true rfl) ⟨Nat.zero_le _, Nat.zero_le _⟩ dX9_empty_91 (fun H locs  S => ?_)
      exact g_retl hx hb hr hlk S hz dX9_empty_94
    · have hz := ipf (c9) hz
      refine lv_lload hx hb dX9_empty_46 (lv_at hl 3 rfl) ?_
      refine lv_aload_n hx hb dX9_empty_48 rfl (lv_at hl 0 rfl) ?_
      refine lv_aload_n hx hb dX9_empty_49 rfl (lv_at hl 0 rfl) ?_
      refine fg_X9_23 hx hb (fun q h => hg q (tl_X9 q h)) hown (hg _ t_fl_X9_38) S (by decide) dX9_empty_50 ?_
      refine lv_iload hx hb dX9_empty_53 (lv_at hl 4 rfl) ?_
      obtain ⟨h12, hz⟩ := ck hz
      refine g_iald hx hb S (isA_18 (by decide)) h12 dX9_empty_55 ?_
      obtain ⟨q13, e14, hz⟩ := bd hz
      refine g_callVi (As := [.int (gI w 139 (ix x8))]) (rest := [.long x6]) F S (c_X9_emptyOf l G (gI w 139 (ix x8))  _ e14) (cw_X9_empty_X9_emptyOf_338 hg) (S.obj (by decide) (by decide) rfl (oc_X9 _ _ _ (by decide))) rfl hl.1 rfl (Nat.le_of_ble_eq_true rfl) ⟨Nat.zero_le _, Nat.zero_le _⟩ dX9_empty_56 (fun H locs  S => ?_)
      refine lv_iload_n hx hb dX9_empty_59 rfl (lv_at hl 1 rfl) ?_
      refine lv_icmp_ne (tgt := 73) hx hb dX9_empty_60 (by decide) (fun c15 => ?_) (fun c15 => ?_)
      · have hz := ipf (c15) hz
        refine lv_lconst (v := 0) hx hb dX9_empty_73 (by decide) ?_
        exact w_X9_empty_74 F hr hlk ih x3 x4 x8 0 x6 _ _ _ _ S (lv_sub hl [0, 1, 2, 4] rfl) hz
      · have hz := ipt (c15) hz
        refine lv_aload_n hx hb dX9_empty_63 rfl (lv_at hl 0 rfl) ?_
        refine fg_X9_26 hx hb (fun q h => hg q (tl_X9 q h)) hown (hg _ t_fl_X9_47) S (by decide) dX9_empty_64 ?_
        refine lv_iload hx hb dX9_empty_67 (lv_at hl 4 rfl) ?_
        obtain ⟨h16, hz⟩ := ck hz
        refine g_lald hx hb S (isA_27 (by decide)) h16 dX9_empty_69 ?_
        refine lv_goto (tgt := 74) hx hb dX9_empty_70 (by decide) ?_
        exact w_X9_empty_74 F hr hlk ih x3 x4 x8 (gL q13.2 142 (ix x8)) x6 _ _ _ _ S (lv_sub hl [0, 1, 2, 4] rfl) hz
set_option maxHeartbeats 4000000 in
set_option maxRecDepth 100000 in
theorem c_X9_empty (l : Launch) (G : GG) (x1 : Int32) (x2 : Int32) (x3 : Int32) (x4 : Int32)  (w : GW) {z : Int64 × GW} (hz : f_X9_empty x1 x2 x3 x4 w = some z) : Met l yX9_empty (wsU yX9_empty cX9_empty 9 (some .long)) rm_X9_empty (va_Pc [.ref (gad G 130), .int x1, .int x2, .int x3, .int x4] (PreG G w)) (QL G z) 0 0 (gA G) := by
  refine Met.ofW (cc := cX9_empty) (maxL := 9) (ret := (some .long)) (by decide) rfl ?_
  intro p e s m args below meth c s₁ B hml hv
  obtain ⟨rfl, S⟩ := hv
  have F : CallFix p m c cX9_empty 9 s _ (wsU yX9_empty cX9_empty 9 (some .long)) RX9 := ⟨B.exec, B.bytes, hml, findClass_of_methodNamed B.named, atoms_spec B.pre⟩
  have hr := B.returns
  have hlk := B.notSynchronized
  obtain ⟨hx, hb, -, hown, hts⟩ := id F
  have hg : ∀ q ∈ lwg, q.before _ s = true := fun q h => hts q (List.mem_cons_of_mem _ h)
  refine g_entry (Nat.le_of_ble_eq_true rfl) (fun ls hl => ?_)
  have hl : lv_has ls 9 [(0, .ref (gad G 130)), (1, .int x1), (2, .int x2), (3, .int x3), (4, .int x4)] := hl
  have S : St G w s s.heap [] := S
  generalize s.heap = H at S ⊢
  generalize ([] : List Loc) = locs at S ⊢
  rw [f_X9_empty] at hz
  refine lv_aload_n hx hb dX9_empty_0 rfl (lv_at hl 0 rfl) ?_
  obtain ⟨q1, e2, hz⟩ := bd hz
  refine g_callVv (As := []) (rest := []) F S (c_X9_good l G   _ e2) (cw_X9_empty_X9_good_150 hg) (S.obj (by decide) (by decide) rfl (oc_X9 _ _ _ (by decide))) rfl hl.1 rfl (Nat.le_of_ble_eq_true rfl) ⟨Nat.zero_le _, Nat.zero_le _⟩ dX9_empty_1 (fun H locs  S => ?_)
  refine lv_aload_n hx hb dX9_empty_4 rfl (lv_at hl 0 rfl) ?_
  refine lv_iload_n hx hb dX9_empty_5 rfl (lv_at hl 1 rfl) ?_
  refine lv_iload_n hx hb dX9_empty_6 rfl (lv_at hl 2 rfl) ?_
  refine lv_iload_n hx hb dX9_empty_7 rfl (lv_at hl 3 rfl) ?_
  refine lv_iconst (v := 0) hx hb dX9_empty_8 (by decide) ?_
  refine lv_iconst (v := 5) hx hb dX9_empty_9 (by decide) ?_
  obtain ⟨q3, e4, hz⟩ := bd hz
  refine g_callSb (As := [.int x3, .int 0, .int 5]) (rest := [.int x2, .int x1, .ref (gad G 130)]) F S (c_X9_within l G x3 0 5  _ e4) (cw_X9_empty_X9_within_138 hg) rfl hl.1 rfl (Nat.le_of_ble_eq_true rfl) ⟨Nat.zero_le _, Nat.zero_le _⟩ dX9_empty_10 (fun H locs hB5 S => ?_)
  obtain ⟨q6, e7, hz⟩ := bd hz
  refine g_callVi (As := [.int x1, .int x2, .int q3.1]) (rest := []) F S (c_X9_chanceWhy l G x1 x2 q3.1  _ e7) (cw_X9_empty_X9_chanceWhy_327 hg) (S.obj (by decide) (by decide) rfl (oc_X9 _ _ _ (by decide))) rfl hl.1 rfl (Nat.le_of_ble_eq_true rfl) ⟨Nat.zero_le _, Nat.zero_le _⟩ dX9_empty_13 (fun H locs  S => ?_)
  refine lv_istore (lv' := [(5, .int q6.1), (0, .ref (gad G 130)), (1, .int x1), (2, .int x2), (3, .int x3), (4, .int x4)]) hx hb dX9_empty_16 hl (by decide) rfl (fun ls hl => ?_)
  refine lv_iload hx hb dX9_empty_18 (lv_at hl 0 rfl) ?_
  refine lv_if_eq (tgt := 31) hx hb dX9_empty_20 (by decide) (fun c8 => ?_) (fun c8 => ?_)
  · have hz := ipt (c8) hz
    refine lv_lconst (v := 0) hx hb dX9_empty_31 (by decide) ?_
    refine lv_lstore (lv' := [(6, .long 0), (5, .int q6.1), (0, .ref (gad G 130)), (1, .int x1), (2, .int x2), (3, .int x3), (4, .int x4)]) hx hb dX9_empty_32 hl (by decide) rfl (fun ls hl => ?_)
    refine lv_iconst (v := 0) hx hb dX9_empty_34 (by decide) ?_
    refine lv_istore (lv' := [(8, .int 0), (6, .long 0), (5, .int q6.1), (0, .ref (gad G 130)), (1, .int x1), (2, .int x2), (3, .int x3), (4, .int x4)]) hx hb dX9_empty_35 hl (by decide) rfl (fun ls hl => ?_)
    exact w_X9_empty_37 F hr hlk fu x3 x4 0 0 _ _ _ _ S (lv_sub hl [3, 6, 7, 1, 0] rfl) hz
  · have hz := ipf (c8) hz
    refine lv_aload_n hx hb dX9_empty_23 rfl (lv_at hl 1 rfl) ?_
    refine lv_iload hx hb dX9_empty_24 (lv_at hl 0 rfl) ?_
    obtain ⟨q17, e18, hz⟩ := bd hz
    refine g_callVi (As := [.int q6.1]) (rest := []) F S (c_X9_no l G q6.1  _ e18) (cw_X9_empty_X9_no_153 hg) (S.obj (by decide) (by decide) rfl (oc_X9 _ _ _ (by decide))) rfl hl.1 rfl (Nat.le_of_ble_eq_true rfl) ⟨Nat.zero_le _, Nat.zero_le _⟩ dX9_empty_26 (fun H locs  S => ?_)
    refine lv_i2l (v := q17.1.toInt64) hx hb dX9_empty_29 rfl ?_
    exact g_retl hx hb hr hlk S hz dX9_empty_30
noncomputable def f_X9_holds_20   (w : GW) : Option (Int64 × GW) :=
  (f_X9_no 1 w).bind fun q7 =>
  some ((q7.1.toInt64), q7.2)
noncomputable def f_X9_holds_106 (k_62 : Int32 → Int32 → Int32 → Int64 → Int32 → GW → Option (Int64 × GW)) (x3 : Int32) (x4 : Int32) (x5 : Int32) (x9 : Int32) (t0 : Int64) (t1 : Int64) (w : GW) : Option (Int64 × GW) :=
  k_62 x3 x4 x5 (t1 + t0) (x9 + 1) w
noncomputable def f_X9_holds_62  : Nat → Int32 → Int32 → Int32 → Int64 → Int32 → GW → Option (Int64 × GW)
  | 0, _, _, _, _, _, _ => none
  | n9 + 1, x3, x4, x5, x7, x9, w =>
    if (gI w 130 28) ≤ x9 then
      (f_X9_lowest x7 (gL w 130 30) x5 w).bind fun q20 =>
      some (q20.1, q20.2)
    else
      if inb x9 8000 then
      (f_X9_layApart (gI w 139 (ix x9)) w).bind fun q23 =>
      if inb x3 5 then
      if (gI q23.2 137 (ix x3)) = x4 then
        if inb x9 8000 then
        f_X9_holds_106 (f_X9_holds_62 n9) x3 x4 x5 x9 (gL q23.2 142 (ix x9)) x7 q23.2
        else none
      else
        f_X9_holds_106 (f_X9_holds_62 n9) x3 x4 x5 x9 0 x7 q23.2
      else none
      else none
noncomputable def f_X9_holds (x1 : Int32) (x2 : Int32) (x3 : Int32) (x4 : Int32) (x5 : Int32) (w : GW) : Option (Int64 × GW) :=
  (f_X9_good w).bind fun q1 =>
  (f_X9_isPorter x1 q1.2).bind fun q3 =>
  if q3.1 = 0 then
    f_X9_holds_20 q3.2
  else
    (f_X9_isBox x3 q3.2).bind fun q9 =>
    if q9.1 = 0 then
      f_X9_holds_20 q9.2
    else
      (f_X9_within x4 0 8 q9.2).bind fun q13 =>
      (f_X9_chanceWhy x1 x2 q13.1 q13.2).bind fun q16 =>
      if q16.1 = 0 then
        f_X9_holds_62 fu x3 x4 x5 0 0 q16.2
      else
        (f_X9_no q16.1 q16.2).bind fun q28 =>
        some ((q28.1.toInt64), q28.2)
set_option maxHeartbeats 4000000 in
set_option maxRecDepth 100000 in
theorem w_X9_holds_20 {p : Program} {l : Launch} {e : Env} {s : State} {m : MethodId} {args : Array Value} {below : List Frame} {meth : Method} {c : Code} {G : GG} (F : CallFix p m c cX9_holds 10 s args (wsU yX9_holds cX9_holds 10 (some .long)) RX9) (hr : meth.sig.returnType = (some .long)) (hlk : meth.locks = false) {z : Int64 × GW} : (∀ (w : GW) (H : Heap) (locs : List Loc) (ls : Array Slot), St G w s H locs → lv_has ls 10 [(0, .ref (gad G 130))] → f_X9_holds_20  w = some z → W p l e (headSpec (wsU yX9_holds cX9_holds 10 (some .long)) rm_X9_holds).room s m args below meth c H locs 0 0 (MQ below (QL G z) args s 0 0 (gA G)) (F0 m 20 ls [])) := by
  obtain ⟨hx, hb, hml, hown, hts⟩ := id F
  have hg : ∀ q ∈ lwg, q.before args s = true := fun q h => hts q (List.mem_cons_of_mem _ h)
  intro w H locs ls S hl hz
  rw [f_X9_holds_20] at hz
  refine lv_aload_n hx hb dX9_holds_20 rfl (lv_at hl 0 rfl) ?_
  refine lv_iconst (v := 1) hx hb dX9_holds_21 (by decide) ?_
  obtain ⟨q7, e8, hz⟩ := bd hz
  refine g_callVi (As := [.int 1]) (rest := []) F S (c_X9_no l G 1  _ e8) (cw_X9_holds_X9_no_153 hg) (S.obj (by decide) (by decide) rfl (oc_X9 _ _ _ (by decide))) rfl hl.1 rfl (Nat.le_of_ble_eq_true rfl) ⟨Nat.zero_le _, Nat.zero_le _⟩ dX9_holds_22 (fun H locs  S => ?_)
  refine lv_i2l (v := q7.1.toInt64) hx hb dX9_holds_25 rfl ?_
  exact g_retl hx hb hr hlk S hz dX9_holds_26
set_option maxHeartbeats 4000000 in
set_option maxRecDepth 100000 in
theorem w_X9_holds_106 {p : Program} {l : Launch} {e : Env} {s : State} {m : MethodId} {args : Array Value} {below : List Frame} {meth : Method} {c : Code} {G : GG} (F : CallFix p m c cX9_holds 10 s args (wsU yX9_holds cX9_holds 10 (some .long)) RX9) (hr : meth.sig.returnType = (some .long)) (hlk : meth.locks = false) {z : Int64 × GW} {k_62 : Int32 → Int32 → Int32 → Int64 → Int32 → GW → Option (Int64 × GW)} (Hk_62 : (∀ (x3 : Int32) (x4 : Int32) (x5 : Int32) (x7 : Int64) (x9 : Int32) (w : GW) (H : Heap) (locs : List Loc) (ls : Array Slot), St G w s H locs → lv_has ls 10 [(0, .ref (gad G 130)), (3, .int x3), (4, .int x4), (5, .int x5), (7, .long x7), (9, .int x9)] → k_62 x3 x4 x5 x7 x9 w = some z → W p l e (headSpec (wsU yX9_holds cX9_holds 10 (some .long)) rm_X9_holds).room s m args below meth c H locs 0 0 (MQ below (QL G z) args s 0 0 (gA G)) (F0 m 62 ls []))) : (∀ (x3 : Int32) (x4 : Int32) (x5 : Int32) (x9 : Int32) (t0 : Int64) (t1 : Int64) (w : GW) (H : Heap) (locs : List Loc) (ls : Array Slot), St G w s H locs → lv_has ls 10 [(0, .ref (gad G 130)), (3, .int x3), (4, .int x4), (5, .int x5), (9, .int x9)] → f_X9_holds_106 k_62 x3 x4 x5 x9 t0 t1 w = some z → W p l e (headSpec (wsU yX9_holds cX9_holds 10 (some .long)) rm_X9_holds).room s m args below meth c H locs 0 0 (MQ below (QL G z) args s 0 0 (gA G)) (F0 m 106 ls [.long t0, .long t1])) := by
  obtain ⟨hx, hb, hml, hown, hts⟩ := id F
  have hg : ∀ q ∈ lwg, q.before args s = true := fun q h => hts q (List.mem_cons_of_mem _ h)
  intro x3 x4 x5 x9 t0 t1 w H locs ls S hl hz
  rw [f_X9_holds_106] at hz
  refine lv_ladd hx hb dX9_holds_106 ?_
  refine lv_lstore (lv' := [(7, .long (t1 + t0)), (0, .ref (gad G 130)), (3, .int x3), (4, .int x4), (5, .int x5), (9, .int x9)]) hx hb dX9_holds_107 hl (by decide) rfl (fun ls hl => ?_)
  refine lv_iinc (v := (x9 + 1)) (lv' := [(9, .int (x9 + 1)), (7, .long (t1 + t0)), (0, .ref (gad G 130)), (3, .int x3), (4, .int x4), (5, .int x5)]) hx hb dX9_holds_109 hl (k := 5) rfl rfl (by decide) rfl (fun ls hl => ?_)
  refine lv_goto (tgt := 62) hx hb dX9_holds_112 (by decide) ?_
  exact Hk_62 x3 x4 x5 (t1 + t0) (x9 + 1)  _ _ _ _ S (lv_sub hl [2, 3, 4, 5, 1, 0] rfl) hz
set_option maxHeartbeats 4000000 in
set_option maxRecDepth 100000 in
theorem w_X9_holds_62 {p : Program} {l : Launch} {e : Env} {s : State} {m : MethodId} {args : Array Value} {below : List Frame} {meth : Method} {c : Code} {G : GG} (F : CallFix p m c cX9_holds 10 s args (wsU yX9_holds cX9_holds 10 (some .long)) RX9) (hr : meth.sig.returnType = (some .long)) (hlk : meth.locks = false) {z : Int64 × GW} : ∀ (n9 : Nat), (∀ (x3 : Int32) (x4 : Int32) (x5 : Int32) (x7 : Int64) (x9 : Int32) (w : GW) (H : Heap) (locs : List Loc) (ls : Array Slot), St G w s H locs → lv_has ls 10 [(0, .ref (gad G 130)), (3, .int x3), (4, .int x4), (5, .int x5), (7, .long x7), (9, .int x9)] → f_X9_holds_62 n9 x3 x4 x5 x7 x9 w = some z → W p l e (headSpec (wsU yX9_holds cX9_holds 10 (some .long)) rm_X9_holds).room s m args below meth c H locs 0 0 (MQ below (QL G z) args s 0 0 (gA G)) (F0 m 62 ls [])) := by
  obtain ⟨hx, hb, hml, hown, hts⟩ := id F
  have hg : ∀ q ∈ lwg, q.before args s = true := fun q h => hts q (List.mem_cons_of_mem _ h)
  intro n9
  induction n9 with
  | zero =>
    intro x3 x4 x5 x7 x9 w H locs ls S hl hz
    rw [f_X9_holds_62] at hz
    cases hz
  | succ n9 ih =>
    intro x3 x4 x5 x7 x9 w H locs ls S hl hz
    rw [f_X9_holds_62] at hz
    refine lv_iload hx hb dX9_holds_62 (lv_at hl 5 rfl) ?_
    refine lv_aload_n hx hb dX9_holds_64 rfl (lv_at hl 0 rfl) ?_
    refine fg_X9_28 hx hb (fun q h => hg q (tl_X9 q h)) hown (hg _ t_fl_X9_252) S (by decide) dX9_holds_65 ?_
    refine lv_icmp_ge (tgt := 115) hx hb dX9_holds_68 (by decide) (fun c19 => ?_) (fun c19 => ?_)
    · have hz := ipt (c19) hz
      refine lv_lload hx hb dX9_holds_115 (lv_at hl 4 rfl) ?_
      refine lv_aload_n hx hb dX9_holds_117 rfl (lv_at hl 0 rfl) ?_
      refine fg_X9_30 hx hb (fun q h => hg q (tl_X9 q h)) hown (hg _ t_fl_X9_255) S (by decide) dX9_holds_118 ?_
      refine lv_iload hx hb dX9_holds_121 (lv_at hl 3 rfl) ?_
      obtain ⟨q20, e21, hz⟩ := bd hz
      refine g_callSl (As := [.long x7, .long (gL w 130 30), .int x5]) (rest := []) F S (c_X9_lowest l G x7 (gL w 130 30) x5  _ e21) (cw_X9_holds_X9_lowest_334 hg) rfl hl.1 rfl (Nat.le_of_ble_eq_true rfl) ⟨Nat.zero_le _, Nat.zero_le _⟩ dX9_holds_123 (fun H locs  S => ?_)
      exact g_retl hx hb hr hlk S hz dX9_holds_126
    · have hz := ipf (c19) hz
      refine lv_aload_n hx hb dX9_holds_71 rfl (lv_at hl 0 rfl) ?_
      refine lv_aload_n hx hb dX9_holds_72 rfl (lv_at hl 0 rfl) ?_
      refine fg_X9_23 hx hb (fun q h => hg q (tl_X9 q h)) hown (hg _ t_fl_X9_38) S (by decide) dX9_holds_73 ?_
      refine lv_iload hx hb dX9_holds_76 (lv_at hl 5 rfl) ?_
      obtain ⟨h22, hz⟩ := ck hz
      refine g_iald hx hb S (isA_18 (by decide)) h22 dX9_holds_78 ?_
      obtain ⟨q23, e24, hz⟩ := bd hz
      refine g_callVv (As := [.int (gI w 139 (ix x9))]) (rest := []) F S (c_X9_layApart l G (gI w 139 (ix x9))  _ e24) (cw_X9_holds_X9_layApart_279 hg) (S.obj (by decide) (by decide) rfl (oc_X9 _ _ _ (by decide))) rfl hl.1 rfl (Nat.le_of_ble_eq_true rfl) ⟨Nat.zero_le _, Nat.zero_le _⟩ dX9_holds_79 (fun H locs  S => ?_)
      refine lv_lload hx hb dX9_holds_82 (lv_at hl 4 rfl) ?_
      refine lv_aload_n hx hb dX9_holds_84 rfl (lv_at hl 0 rfl) ?_
      refine fg_X9_20 hx hb (fun q h => hg q (tl_X9 q h)) hown (hg _ t_fl_X9_32) S (by decide) dX9_holds_85 ?_
      refine lv_iload_n hx hb dX9_holds_88 rfl (lv_at hl 1 rfl) ?_
      obtain ⟨h25, hz⟩ := ck hz
      refine g_iald hx hb S (isA_10 (by decide)) h25 dX9_holds_89 ?_
      refine lv_iload hx hb dX9_holds_90 (lv_at hl 2 rfl) ?_
      refine lv_icmp_ne (tgt := 105) hx hb dX9_holds_92 (by decide) (fun c26 => ?_) (fun c26 => ?_)
      · have hz := ipf (c26) hz
        refine lv_lconst (v := 0) hx hb dX9_holds_105 (by decide) ?_
        exact w_X9_holds_106 F hr hlk ih x3 x4 x5 x9 0 x7 _ _ _ _ S (lv_sub hl [0, 1, 2, 3, 5] rfl) hz
      · have hz := ipt (c26) hz
        refine lv_aload_n hx hb dX9_holds_95 rfl (lv_at hl 0 rfl) ?_
        refine fg_X9_26 hx hb (fun q h => hg q (tl_X9 q h)) hown (hg _ t_fl_X9_47) S (by decide) dX9_holds_96 ?_
        refine lv_iload hx hb dX9_holds_99 (lv_at hl 5 rfl) ?_
        obtain ⟨h27, hz⟩ := ck hz
        refine g_lald hx hb S (isA_27 (by decide)) h27 dX9_holds_101 ?_
        refine lv_goto (tgt := 106) hx hb dX9_holds_102 (by decide) ?_
        exact w_X9_holds_106 F hr hlk ih x3 x4 x5 x9 (gL q23.2 142 (ix x9)) x7 _ _ _ _ S (lv_sub hl [0, 1, 2, 3, 5] rfl) hz
set_option maxHeartbeats 4000000 in
set_option maxRecDepth 100000 in
theorem c_X9_holds (l : Launch) (G : GG) (x1 : Int32) (x2 : Int32) (x3 : Int32) (x4 : Int32) (x5 : Int32)  (w : GW) {z : Int64 × GW} (hz : f_X9_holds x1 x2 x3 x4 x5 w = some z) : Met l yX9_holds (wsU yX9_holds cX9_holds 10 (some .long)) rm_X9_holds (va_Pc [.ref (gad G 130), .int x1, .int x2, .int x3, .int x4, .int x5] (PreG G w)) (QL G z) 0 0 (gA G) := by
  refine Met.ofW (cc := cX9_holds) (maxL := 10) (ret := (some .long)) (by decide) rfl ?_
  intro p e s m args below meth c s₁ B hml hv
  obtain ⟨rfl, S⟩ := hv
  have F : CallFix p m c cX9_holds 10 s _ (wsU yX9_holds cX9_holds 10 (some .long)) RX9 := ⟨B.exec, B.bytes, hml, findClass_of_methodNamed B.named, atoms_spec B.pre⟩
  have hr := B.returns
  have hlk := B.notSynchronized
  obtain ⟨hx, hb, -, hown, hts⟩ := id F
  have hg : ∀ q ∈ lwg, q.before _ s = true := fun q h => hts q (List.mem_cons_of_mem _ h)
  refine g_entry (Nat.le_of_ble_eq_true rfl) (fun ls hl => ?_)
  have hl : lv_has ls 10 [(0, .ref (gad G 130)), (1, .int x1), (2, .int x2), (3, .int x3), (4, .int x4), (5, .int x5)] := hl
  have S : St G w s s.heap [] := S
  generalize s.heap = H at S ⊢
  generalize ([] : List Loc) = locs at S ⊢
  rw [f_X9_holds] at hz
  refine lv_aload_n hx hb dX9_holds_0 rfl (lv_at hl 0 rfl) ?_
  obtain ⟨q1, e2, hz⟩ := bd hz
  refine g_callVv (As := []) (rest := []) F S (c_X9_good l G   _ e2) (cw_X9_holds_X9_good_150 hg) (S.obj (by decide) (by decide) rfl (oc_X9 _ _ _ (by decide))) rfl hl.1 rfl (Nat.le_of_ble_eq_true rfl) ⟨Nat.zero_le _, Nat.zero_le _⟩ dX9_holds_1 (fun H locs  S => ?_)
  refine lv_aload_n hx hb dX9_holds_4 rfl (lv_at hl 0 rfl) ?_
  refine lv_iload_n hx hb dX9_holds_5 rfl (lv_at hl 1 rfl) ?_
  obtain ⟨q3, e4, hz⟩ := bd hz
  refine g_callVb (As := [.int x1]) (rest := []) F S (c_X9_isPorter l G x1  _ e4) (cw_X9_holds_X9_isPorter_320 hg) (S.obj (by decide) (by decide) rfl (oc_X9 _ _ _ (by decide))) rfl hl.1 rfl (Nat.le_of_ble_eq_true rfl) ⟨Nat.zero_le _, Nat.zero_le _⟩ dX9_holds_6 (fun H locs hB5 S => ?_)
  refine lv_if_eq (tgt := 20) hx hb dX9_holds_9 (by decide) (fun c6 => ?_) (fun c6 => ?_)
  · have hz := ipt (c6) hz
    exact w_X9_holds_20 F hr hlk _ _ _ _ S (lv_sub hl [0] rfl) hz
  · have hz := ipf (c6) hz
    refine lv_aload_n hx hb dX9_holds_12 rfl (lv_at hl 0 rfl) ?_
    refine lv_iload_n hx hb dX9_holds_13 rfl (lv_at hl 3 rfl) ?_
    obtain ⟨q9, e10, hz⟩ := bd hz
    refine g_callVb (As := [.int x3]) (rest := []) F S (c_X9_isBox l G x3  _ e10) (cw_X9_holds_X9_isBox_341 hg) (S.obj (by decide) (by decide) rfl (oc_X9 _ _ _ (by decide))) rfl hl.1 rfl (Nat.le_of_ble_eq_true rfl) ⟨Nat.zero_le _, Nat.zero_le _⟩ dX9_holds_14 (fun H locs hB11 S => ?_)
    refine lv_if_ne (tgt := 27) hx hb dX9_holds_17 (by decide) (fun c12 => ?_) (fun c12 => ?_)
    · have hz := ipf (c12) hz
      refine lv_aload_n hx hb dX9_holds_27 rfl (lv_at hl 0 rfl) ?_
      refine lv_iload_n hx hb dX9_holds_28 rfl (lv_at hl 1 rfl) ?_
      refine lv_iload_n hx hb dX9_holds_29 rfl (lv_at hl 2 rfl) ?_
      refine lv_iload hx hb dX9_holds_30 (lv_at hl 4 rfl) ?_
      refine lv_iconst (v := 0) hx hb dX9_holds_32 (by decide) ?_
      refine lv_bipush (v := 8) hx hb dX9_holds_33 (by decide) ?_
      obtain ⟨q13, e14, hz⟩ := bd hz
      refine g_callSb (As := [.int x4, .int 0, .int 8]) (rest := [.int x2, .int x1, .ref (gad G 130)]) F S (c_X9_within l G x4 0 8  _ e14) (cw_X9_holds_X9_within_138 hg) rfl hl.1 rfl (Nat.le_of_ble_eq_true rfl) ⟨Nat.zero_le _, Nat.zero_le _⟩ dX9_holds_35 (fun H locs hB15 S => ?_)
      obtain ⟨q16, e17, hz⟩ := bd hz
      refine g_callVi (As := [.int x1, .int x2, .int q13.1]) (rest := []) F S (c_X9_chanceWhy l G x1 x2 q13.1  _ e17) (cw_X9_holds_X9_chanceWhy_327 hg) (S.obj (by decide) (by decide) rfl (oc_X9 _ _ _ (by decide))) rfl hl.1 rfl (Nat.le_of_ble_eq_true rfl) ⟨Nat.zero_le _, Nat.zero_le _⟩ dX9_holds_38 (fun H locs  S => ?_)
      refine lv_istore (lv' := [(6, .int q16.1), (0, .ref (gad G 130)), (1, .int x1), (2, .int x2), (3, .int x3), (4, .int x4), (5, .int x5)]) hx hb dX9_holds_41 hl (by decide) rfl (fun ls hl => ?_)
      refine lv_iload hx hb dX9_holds_43 (lv_at hl 0 rfl) ?_
      refine lv_if_eq (tgt := 56) hx hb dX9_holds_45 (by decide) (fun c18 => ?_) (fun c18 => ?_)
      · have hz := ipt (c18) hz
        refine lv_lconst (v := 0) hx hb dX9_holds_56 (by decide) ?_
        refine lv_lstore (lv' := [(7, .long 0), (6, .int q16.1), (0, .ref (gad G 130)), (1, .int x1), (2, .int x2), (3, .int x3), (4, .int x4), (5, .int x5)]) hx hb dX9_holds_57 hl (by decide) rfl (fun ls hl => ?_)
        refine lv_iconst (v := 0) hx hb dX9_holds_59 (by decide) ?_
        refine lv_istore (lv' := [(9, .int 0), (7, .long 0), (6, .int q16.1), (0, .ref (gad G 130)), (1, .int x1), (2, .int x2), (3, .int x3), (4, .int x4), (5, .int x5)]) hx hb dX9_holds_60 hl (by decide) rfl (fun ls hl => ?_)
        exact w_X9_holds_62 F hr hlk fu x3 x4 x5 0 0 _ _ _ _ S (lv_sub hl [3, 6, 7, 8, 1, 0] rfl) hz
      · have hz := ipf (c18) hz
        refine lv_aload_n hx hb dX9_holds_48 rfl (lv_at hl 1 rfl) ?_
        refine lv_iload hx hb dX9_holds_49 (lv_at hl 0 rfl) ?_
        obtain ⟨q28, e29, hz⟩ := bd hz
        refine g_callVi (As := [.int q16.1]) (rest := []) F S (c_X9_no l G q16.1  _ e29) (cw_X9_holds_X9_no_153 hg) (S.obj (by decide) (by decide) rfl (oc_X9 _ _ _ (by decide))) rfl hl.1 rfl (Nat.le_of_ble_eq_true rfl) ⟨Nat.zero_le _, Nat.zero_le _⟩ dX9_holds_51 (fun H locs  S => ?_)
        refine lv_i2l (v := q28.1.toInt64) hx hb dX9_holds_54 rfl ?_
        exact g_retl hx hb hr hlk S hz dX9_holds_55
    · have hz := ipt (c12) hz
      exact w_X9_holds_20 F hr hlk _ _ _ _ S (lv_sub hl [0] rfl) hz
noncomputable def f_X9_measured_75 (k_32 : Int32 → Int32 → Int32 → Int32 → GW → Option (Int32 × GW)) (x2 : Int32) (x3 : Int32) (x5 : Int32) (t0 : Int32) (t1 : Int32) (w : GW) : Option (Int32 × GW) :=
  k_32 x2 x3 (t1 + t0) (x5 + 1) w
noncomputable def f_X9_measured_32  : Nat → Int32 → Int32 → Int32 → Int32 → GW → Option (Int32 × GW)
  | 0, _, _, _, _, _ => none
  | n9 + 1, x2, x3, x4, x5, w =>
    if inb 0 135 then
    if (gI w 133 (ix 0)) ≤ x5 then
      if x3 = 2 then
        some ((x2 - x4), w)
      else
        some (x4, w)
    else
      if x3 = 2 then
        if inb x5 5 then
        f_X9_measured_75 (f_X9_measured_32 n9) x2 x3 x5 (gI w 137 (ix x5)) x4 w
        else none
      else
        if inb x5 5 then
        if inb x5 5 then
        f_X9_measured_75 (f_X9_measured_32 n9) x2 x3 x5 ((gI w 137 (ix x5)) * (gI w 137 (ix x5))) x4 w
        else none
        else none
    else none
noncomputable def f_X9_measured (x1 : Int32) (x2 : Int32) (x3 : Int32) (w : GW) : Option (Int32 × GW) :=
  if x3 = 0 then
    (f_X9_fullestOf x1 w).bind fun q14 =>
    some (q14.1, q14.2)
  else
    if x3 = 1 then
      (f_X9_emptyOf x1 w).bind fun q12 =>
      some (q12.1, q12.2)
    else
      (f_X9_layApart x1 w).bind fun q3 =>
      f_X9_measured_32 fu x2 x3 0 0 q3.2
set_option maxHeartbeats 4000000 in
set_option maxRecDepth 100000 in
theorem w_X9_measured_75 {p : Program} {l : Launch} {e : Env} {s : State} {m : MethodId} {args : Array Value} {below : List Frame} {meth : Method} {c : Code} {G : GG} (F : CallFix p m c cX9_measured 6 s args (wsU yX9_measured cX9_measured 6 (some .int)) RX9) (hr : meth.sig.returnType = (some .int)) (hlk : meth.locks = false) {z : Int32 × GW} {k_32 : Int32 → Int32 → Int32 → Int32 → GW → Option (Int32 × GW)} (Hk_32 : (∀ (x2 : Int32) (x3 : Int32) (x4 : Int32) (x5 : Int32) (w : GW) (H : Heap) (locs : List Loc) (ls : Array Slot), St G w s H locs → lv_has ls 6 [(0, .ref (gad G 130)), (2, .int x2), (3, .int x3), (4, .int x4), (5, .int x5)] → k_32 x2 x3 x4 x5 w = some z → W p l e (headSpec (wsU yX9_measured cX9_measured 6 (some .int)) rm_X9_measured).room s m args below meth c H locs 0 0 (MQ below (QI G z) args s 0 0 (gA G)) (F0 m 32 ls []))) : (∀ (x2 : Int32) (x3 : Int32) (x5 : Int32) (t0 : Int32) (t1 : Int32) (w : GW) (H : Heap) (locs : List Loc) (ls : Array Slot), St G w s H locs → lv_has ls 6 [(0, .ref (gad G 130)), (2, .int x2), (3, .int x3), (5, .int x5)] → f_X9_measured_75 k_32 x2 x3 x5 t0 t1 w = some z → W p l e (headSpec (wsU yX9_measured cX9_measured 6 (some .int)) rm_X9_measured).room s m args below meth c H locs 0 0 (MQ below (QI G z) args s 0 0 (gA G)) (F0 m 75 ls [.int t0, .int t1])) := by
  obtain ⟨hx, hb, hml, hown, hts⟩ := id F
  have hg : ∀ q ∈ lwg, q.before args s = true := fun q h => hts q (List.mem_cons_of_mem _ h)
  intro x2 x3 x5 t0 t1 w H locs ls S hl hz
  rw [f_X9_measured_75] at hz
  refine lv_iadd hx hb dX9_measured_75 ?_
  refine lv_istore (lv' := [(4, .int (t1 + t0)), (0, .ref (gad G 130)), (2, .int x2), (3, .int x3), (5, .int x5)]) hx hb dX9_measured_76 hl (by decide) rfl (fun ls hl => ?_)
  refine lv_iinc (v := (x5 + 1)) (lv' := [(5, .int (x5 + 1)), (4, .int (t1 + t0)), (0, .ref (gad G 130)), (2, .int x2), (3, .int x3)]) hx hb dX9_measured_78 hl (k := 4) rfl rfl (by decide) rfl (fun ls hl => ?_)
  refine lv_goto (tgt := 32) hx hb dX9_measured_81 (by decide) ?_
  exact Hk_32 x2 x3 (t1 + t0) (x5 + 1)  _ _ _ _ S (lv_sub hl [2, 3, 4, 1, 0] rfl) hz
set_option maxHeartbeats 4000000 in
set_option maxRecDepth 100000 in
theorem w_X9_measured_32 {p : Program} {l : Launch} {e : Env} {s : State} {m : MethodId} {args : Array Value} {below : List Frame} {meth : Method} {c : Code} {G : GG} (F : CallFix p m c cX9_measured 6 s args (wsU yX9_measured cX9_measured 6 (some .int)) RX9) (hr : meth.sig.returnType = (some .int)) (hlk : meth.locks = false) {z : Int32 × GW} : ∀ (n9 : Nat), (∀ (x2 : Int32) (x3 : Int32) (x4 : Int32) (x5 : Int32) (w : GW) (H : Heap) (locs : List Loc) (ls : Array Slot), St G w s H locs → lv_has ls 6 [(0, .ref (gad G 130)), (2, .int x2), (3, .int x3), (4, .int x4), (5, .int x5)] → f_X9_measured_32 n9 x2 x3 x4 x5 w = some z → W p l e (headSpec (wsU yX9_measured cX9_measured 6 (some .int)) rm_X9_measured).room s m args below meth c H locs 0 0 (MQ below (QI G z) args s 0 0 (gA G)) (F0 m 32 ls [])) := by
  obtain ⟨hx, hb, hml, hown, hts⟩ := id F
  have hg : ∀ q ∈ lwg, q.before args s = true := fun q h => hts q (List.mem_cons_of_mem _ h)
  intro n9
  induction n9 with
  | zero =>
    intro x2 x3 x4 x5 w H locs ls S hl hz
    rw [f_X9_measured_32] at hz
    cases hz
  | succ n9 ih =>
    intro x2 x3 x4 x5 w H locs ls S hl hz
    rw [f_X9_measured_32] at hz
    refine lv_iload hx hb dX9_measured_32 (lv_at hl 4 rfl) ?_
    refine lv_aload_n hx hb dX9_measured_34 rfl (lv_at hl 0 rfl) ?_
    refine fg_X9_15 hx hb (fun q h => hg q (tl_X9 q h)) hown (hg _ t_fl_X9_20) S (by decide) dX9_measured_35 ?_
    refine lv_iconst (v := 0) hx hb dX9_measured_38 (by decide) ?_
    obtain ⟨h5, hz⟩ := ck hz
    refine g_iald hx hb S (isA_15 (by decide)) h5 dX9_measured_39 ?_
    refine lv_icmp_ge (tgt := 84) hx hb dX9_measured_40 (by decide) (fun c6 => ?_) (fun c6 => ?_)
    · have hz := ipt (c6) hz
      refine lv_iload_n hx hb dX9_measured_84 rfl (lv_at hl 2 rfl) ?_
      refine lv_iconst (v := 2) hx hb dX9_measured_85 (by decide) ?_
      refine lv_icmp_ne (tgt := 96) hx hb dX9_measured_86 (by decide) (fun c7 => ?_) (fun c7 => ?_)
      · have hz := ipf (c7) hz
        refine lv_iload hx hb dX9_measured_96 (lv_at hl 3 rfl) ?_
        exact g_reti hx hb hr hlk S hz dX9_measured_98
      · have hz := ipt (c7) hz
        refine lv_iload_n hx hb dX9_measured_89 rfl (lv_at hl 1 rfl) ?_
        refine lv_iload hx hb dX9_measured_90 (lv_at hl 3 rfl) ?_
        refine lv_isub hx hb dX9_measured_92 ?_
        refine lv_goto (tgt := 98) hx hb dX9_measured_93 (by decide) ?_
        exact g_reti hx hb hr hlk S hz dX9_measured_98
    · have hz := ipf (c6) hz
      refine lv_iload hx hb dX9_measured_43 (lv_at hl 3 rfl) ?_
      refine lv_iload_n hx hb dX9_measured_45 rfl (lv_at hl 2 rfl) ?_
      refine lv_iconst (v := 2) hx hb dX9_measured_46 (by decide) ?_
      refine lv_icmp_ne (tgt := 60) hx hb dX9_measured_47 (by decide) (fun c8 => ?_) (fun c8 => ?_)
      · have hz := ipf (c8) hz
        refine lv_aload_n hx hb dX9_measured_60 rfl (lv_at hl 0 rfl) ?_
        refine fg_X9_20 hx hb (fun q h => hg q (tl_X9 q h)) hown (hg _ t_fl_X9_32) S (by decide) dX9_measured_61 ?_
        refine lv_iload hx hb dX9_measured_64 (lv_at hl 4 rfl) ?_
        obtain ⟨h9, hz⟩ := ck hz
        refine g_iald hx hb S (isA_10 (by decide)) h9 dX9_measured_66 ?_
        refine lv_aload_n hx hb dX9_measured_67 rfl (lv_at hl 0 rfl) ?_
        refine fg_X9_20 hx hb (fun q h => hg q (tl_X9 q h)) hown (hg _ t_fl_X9_32) S (by decide) dX9_measured_68 ?_
        refine lv_iload hx hb dX9_measured_71 (lv_at hl 4 rfl) ?_
        obtain ⟨h10, hz⟩ := ck hz
        refine g_iald hx hb S (isA_10 (by decide)) h10 dX9_measured_73 ?_
        refine lv_imul hx hb dX9_measured_74 ?_
        exact w_X9_measured_75 F hr hlk ih x2 x3 x5 ((gI w 137 (ix x5)) * (gI w 137 (ix x5))) x4 _ _ _ _ S (lv_sub hl [0, 1, 2, 4] rfl) hz
      · have hz := ipt (c8) hz
        refine lv_aload_n hx hb dX9_measured_50 rfl (lv_at hl 0 rfl) ?_
        refine fg_X9_20 hx hb (fun q h => hg q (tl_X9 q h)) hown (hg _ t_fl_X9_32) S (by decide) dX9_measured_51 ?_
        refine lv_iload hx hb dX9_measured_54 (lv_at hl 4 rfl) ?_
        obtain ⟨h11, hz⟩ := ck hz
        refine g_iald hx hb S (isA_10 (by decide)) h11 dX9_measured_56 ?_
        refine lv_goto (tgt := 75) hx hb dX9_measured_57 (by decide) ?_
        exact w_X9_measured_75 F hr hlk ih x2 x3 x5 (gI w 137 (ix x5)) x4 _ _ _ _ S (lv_sub hl [0, 1, 2, 4] rfl) hz
set_option maxHeartbeats 4000000 in
set_option maxRecDepth 100000 in
theorem c_X9_measured (l : Launch) (G : GG) (x1 : Int32) (x2 : Int32) (x3 : Int32)  (w : GW) {z : Int32 × GW} (hz : f_X9_measured x1 x2 x3 w = some z) : Met l yX9_measured (wsU yX9_measured cX9_measured 6 (some .int)) rm_X9_measured (va_Pc [.ref (gad G 130), .int x1, .int x2, .int x3] (PreG G w)) (QI G z) 0 0 (gA G) := by
  refine Met.ofW (cc := cX9_measured) (maxL := 6) (ret := (some .int)) (by decide) rfl ?_
  intro p e s m args below meth c s₁ B hml hv
  obtain ⟨rfl, S⟩ := hv
  have F : CallFix p m c cX9_measured 6 s _ (wsU yX9_measured cX9_measured 6 (some .int)) RX9 := ⟨B.exec, B.bytes, hml, findClass_of_methodNamed B.named, atoms_spec B.pre⟩
  have hr := B.returns
  have hlk := B.notSynchronized
  obtain ⟨hx, hb, -, hown, hts⟩ := id F
  have hg : ∀ q ∈ lwg, q.before _ s = true := fun q h => hts q (List.mem_cons_of_mem _ h)
  refine g_entry (Nat.le_of_ble_eq_true rfl) (fun ls hl => ?_)
  have hl : lv_has ls 6 [(0, .ref (gad G 130)), (1, .int x1), (2, .int x2), (3, .int x3)] := hl
  have S : St G w s s.heap [] := S
  generalize s.heap = H at S ⊢
  generalize ([] : List Loc) = locs at S ⊢
  rw [f_X9_measured] at hz
  refine lv_iload_n hx hb dX9_measured_0 rfl (lv_at hl 3 rfl) ?_
  refine lv_if_ne (tgt := 10) hx hb dX9_measured_1 (by decide) (fun c1 => ?_) (fun c1 => ?_)
  · have hz := ipf (c1) hz
    refine lv_iload_n hx hb dX9_measured_10 rfl (lv_at hl 3 rfl) ?_
    refine lv_iconst (v := 1) hx hb dX9_measured_11 (by decide) ?_
    refine lv_icmp_ne (tgt := 21) hx hb dX9_measured_12 (by decide) (fun c2 => ?_) (fun c2 => ?_)
    · have hz := ipf (c2) hz
      refine lv_aload_n hx hb dX9_measured_21 rfl (lv_at hl 0 rfl) ?_
      refine lv_iload_n hx hb dX9_measured_22 rfl (lv_at hl 1 rfl) ?_
      obtain ⟨q3, e4, hz⟩ := bd hz
      refine g_callVv (As := [.int x1]) (rest := []) F S (c_X9_layApart l G x1  _ e4) (cw_X9_measured_X9_layApart_279 hg) (S.obj (by decide) (by decide) rfl (oc_X9 _ _ _ (by decide))) rfl hl.1 rfl (Nat.le_of_ble_eq_true rfl) ⟨Nat.zero_le _, Nat.zero_le _⟩ dX9_measured_23 (fun H locs  S => ?_)
      refine lv_iconst (v := 0) hx hb dX9_measured_26 (by decide) ?_
      refine lv_istore (lv' := [(4, .int 0), (0, .ref (gad G 130)), (1, .int x1), (2, .int x2), (3, .int x3)]) hx hb dX9_measured_27 hl (by decide) rfl (fun ls hl => ?_)
      refine lv_iconst (v := 0) hx hb dX9_measured_29 (by decide) ?_
      refine lv_istore (lv' := [(5, .int 0), (4, .int 0), (0, .ref (gad G 130)), (1, .int x1), (2, .int x2), (3, .int x3)]) hx hb dX9_measured_30 hl (by decide) rfl (fun ls hl => ?_)
      exact w_X9_measured_32 F hr hlk fu x2 x3 0 0 _ _ _ _ S (lv_sub hl [2, 4, 5, 1, 0] rfl) hz
    · have hz := ipt (c2) hz
      refine lv_aload_n hx hb dX9_measured_15 rfl (lv_at hl 0 rfl) ?_
      refine lv_iload_n hx hb dX9_measured_16 rfl (lv_at hl 1 rfl) ?_
      obtain ⟨q12, e13, hz⟩ := bd hz
      refine g_callVi (As := [.int x1]) (rest := []) F S (c_X9_emptyOf l G x1  _ e13) (cw_X9_measured_X9_emptyOf_338 hg) (S.obj (by decide) (by decide) rfl (oc_X9 _ _ _ (by decide))) rfl hl.1 rfl (Nat.le_of_ble_eq_true rfl) ⟨Nat.zero_le _, Nat.zero_le _⟩ dX9_measured_17 (fun H locs  S => ?_)
      exact g_reti hx hb hr hlk S hz dX9_measured_20
  · have hz := ipt (c1) hz
    refine lv_aload_n hx hb dX9_measured_4 rfl (lv_at hl 0 rfl) ?_
    refine lv_iload_n hx hb dX9_measured_5 rfl (lv_at hl 1 rfl) ?_
    obtain ⟨q14, e15, hz⟩ := bd hz
    refine g_callVi (As := [.int x1]) (rest := []) F S (c_X9_fullestOf l G x1  _ e15) (cw_X9_measured_X9_fullestOf_313 hg) (S.obj (by decide) (by decide) rfl (oc_X9 _ _ _ (by decide))) rfl hl.1 rfl (Nat.le_of_ble_eq_true rfl) ⟨Nat.zero_le _, Nat.zero_le _⟩ dX9_measured_6 (fun H locs  S => ?_)
    exact g_reti hx hb hr hlk S hz dX9_measured_9
