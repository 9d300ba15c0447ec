noncomputable def f_X1_weighLazy_96 (k_58 : Nat → Int64 → Int32 → GW → Option (Unit × GW)) (k1 : Nat) (x2 : Int64) (x4 : Int32) (t0 : Int64) (w : GW) : Option (Unit × GW) :=
  if inb x4 5 then
  (f_X1_mixed t0 x2 (gI w (fxP (gR w 5)) 0) w).bind fun q6 =>
  if inb (x4 * 6) 30 then
  k_58 k1 x2 (x4 + 1) (sL q6.2 71 (ix (x4 * 6)) (((gI w ((fxH (gR w 4)) + 2) (ix x4)).toInt64) * q6.1))
  else none
  else none
noncomputable def f_X1_weighLazy_58  : Nat → Nat → Int64 → Int32 → GW → Option (Unit × GW)
  | 0, _, _, _, _ => none
  | n9 + 1, k1, x2, x4, w =>
    if (gI w (fxH (gR w 4)) 1) ≤ x4 then
      some ((), w)
    else
      if inb x4 5 then
      if (gI w k1 (ix x4)) ≤ (gI w (fxP (gR w 5)) 2) then
        f_X1_weighLazy_96 (f_X1_weighLazy_58 n9) k1 x2 x4 ((gI w (fxH (gR w 4)) 4).toInt64) w
      else
        f_X1_weighLazy_96 (f_X1_weighLazy_58 n9) k1 x2 x4 0 w
      else none
noncomputable def f_X1_weighLazy_47 (k_5 : Nat → Int64 → Int32 → GW → Option (Unit × GW)) (k1 : Nat) (x4 : Int32) (t0 : Int64) (t1 : Int64) (w : GW) : Option (Unit × GW) :=
  k_5 k1 (t1 + t0) (x4 + 1) w
noncomputable def f_X1_weighLazy_5  : Nat → Nat → Int64 → Int32 → GW → Option (Unit × GW)
  | 0, _, _, _, _ => none
  | n9 + 1, k1, x2, x4, w =>
    if (gI w (fxH (gR w 4)) 1) ≤ x4 then
      f_X1_weighLazy_58 fu k1 x2 0 w
    else
      if inb x4 5 then
      if (gI w k1 (ix x4)) ≤ (gI w (fxP (gR w 5)) 2) then
        f_X1_weighLazy_47 (f_X1_weighLazy_5 n9) k1 x4 0 x2 w
      else
        if inb x4 5 then
        f_X1_weighLazy_47 (f_X1_weighLazy_5 n9) k1 x4 ((gI w ((fxH (gR w 4)) + 2) (ix x4)).toInt64) x2 w
        else none
      else none
noncomputable def f_X1_weighLazy (k1 : Nat) (w : GW) : Option (Unit × GW) :=
  f_X1_weighLazy_5 fu k1 0 0 w
set_option maxHeartbeats 4000000 in
set_option maxRecDepth 100000 in
theorem w_X1_weighLazy_96 {p : Program} {l : Launch} {e : Env} {s : State} {m : MethodId} {args : Array Value} {below : List Frame} {meth : Method} {c : Code} {G : GG} (F : CallFix p m c cX1_weighLazy 7 s args (wsU yX1_weighLazy cX1_weighLazy 7 none) RX1) (hr : meth.sig.returnType = none) (hlk : meth.locks = false) {z : Unit × GW} {k_58 : Nat → Int64 → Int32 → GW → Option (Unit × GW)} (Hk_58 : (∀ (k1 : Nat) (x2 : Int64) (x4 : Int32) (hk1 : kd k1 = 10) (w : GW) (H : Heap) (locs : List Loc) (ls : Array Slot), St G w s H locs → lv_has ls 7 [(0, .ref (gad G 67)), (1, .ref (gad G k1)), (2, .long x2), (4, .int x4)] → k_58 k1 x2 x4 w = some z → W p l e (headSpec (wsU yX1_weighLazy cX1_weighLazy 7 none) rm_X1_weighLazy).room s m args below meth c H locs 0 0 (MQ below (QV G z) args s 0 0 (gA G)) (F0 m 58 ls []))) : (∀ (k1 : Nat) (x2 : Int64) (x4 : Int32) (t0 : Int64) (hk1 : kd k1 = 10) (w : GW) (H : Heap) (locs : List Loc) (ls : Array Slot), St G w s H locs → lv_has ls 7 [(0, .ref (gad G 67)), (1, .ref (gad G k1)), (2, .long x2), (4, .int x4)] → f_X1_weighLazy_96 k_58 k1 x2 x4 t0 w = some z → W p l e (headSpec (wsU yX1_weighLazy cX1_weighLazy 7 none) rm_X1_weighLazy).room s m args below meth c H locs 0 0 (MQ below (QV G z) args s 0 0 (gA G)) (F0 m 96 ls [.long t0])) := by
  obtain ⟨hx, hb, hml, hown, hts⟩ := id F
  have hg : ∀ q ∈ lwg, q.before args s = true := fun q h => hts q (List.mem_cons_of_mem _ h)
  intro k1 x2 x4 t0 hk1 w H locs ls S hl hz
  rw [f_X1_weighLazy_96] at hz
  refine lv_lstore (lv' := [(5, .long t0), (0, .ref (gad G 67)), (1, .ref (gad G k1)), (2, .long x2), (4, .int x4)]) hx hb dX1_weighLazy_96 hl (by decide) rfl (fun ls hl => ?_)
  refine lv_aload_n hx hb dX1_weighLazy_98 rfl (lv_at hl 1 rfl) ?_
  refine fg_X1_2 hx hb (fun q h => hg q (tl_X1 q h)) hown (hg _ t_fl_X1_30) S (by decide) dX1_weighLazy_99 ?_
  refine lv_iload hx hb dX1_weighLazy_102 (lv_at hl 4 rfl) ?_
  refine lv_bipush (v := 6) hx hb dX1_weighLazy_104 (by decide) ?_
  refine lv_imul hx hb dX1_weighLazy_106 ?_
  refine lv_aload_n hx hb dX1_weighLazy_107 rfl (lv_at hl 1 rfl) ?_
  refine fg_X1_3 hx hb (fun q h => hg q (tl_X1 q h)) hown (hg _ t_fl_X1_9) S (by decide) dX1_weighLazy_108 ?_
  refine fg_X3_11 hx hb (fun q h => hg q (tl_X3 q h)) hown (hg _ t_fl_X1_46) S (kd_H _) dX1_weighLazy_111 ?_
  refine lv_iload hx hb dX1_weighLazy_114 (lv_at hl 4 rfl) ?_
  obtain ⟨h5, hz⟩ := ck hz
  refine g_iald hx hb S (isA_10 (kd_3_2 (kd_H _))) h5 dX1_weighLazy_116 ?_
  refine lv_i2l (v := (gI w ((fxH (gR w 4)) + 2) (ix x4)).toInt64) hx hb dX1_weighLazy_117 rfl ?_
  refine lv_lload hx hb dX1_weighLazy_118 (lv_at hl 0 rfl) ?_
  refine lv_lload_n hx hb dX1_weighLazy_120 rfl (lv_at hl 3 rfl) ?_
  refine lv_aload_n hx hb dX1_weighLazy_121 rfl (lv_at hl 1 rfl) ?_
  refine fg_X1_4 hx hb (fun q h => hg q (tl_X1 q h)) hown (hg _ t_fl_X1_18) S (by decide) dX1_weighLazy_122 ?_
  refine fg_X4_0 hx hb (fun q h => hg q (tl_X4 q h)) hown (hg _ t_fl_X1_39) S (kd_P _) dX1_weighLazy_125 ?_
  obtain ⟨q6, e7, hz⟩ := bd hz
  refine g_callSl (As := [.long t0, .long x2, .int (gI w (fxP (gR w 5)) 0)]) (rest := [.long ((gI w ((fxH (gR w 4)) + 2) (ix x4)).toInt64), .int (x4 * 6), .ref (gad G 71)]) F S (c_X1_mixed l G t0 x2 (gI w (fxP (gR w 5)) 0)  _ e7) (cw_X1_weighLazy_X1_mixed_70 hg) rfl hl.1 rfl (Nat.le_of_ble_eq_true rfl) ⟨Nat.zero_le _, Nat.zero_le _⟩ dX1_weighLazy_128 (fun H locs  S => ?_)
  refine lv_lmul hx hb dX1_weighLazy_131 ?_
  obtain ⟨h8, hz⟩ := ck hz
  refine g_last (x := (((gI w ((fxH (gR w 4)) + 2) (ix x4)).toInt64) * q6.1)) hx hb S (isA_23 (by decide)) h8 dX1_weighLazy_132 (fun H locs S => ?_)
  refine lv_iinc (v := (x4 + 1)) (lv' := [(4, .int (x4 + 1)), (5, .long t0), (0, .ref (gad G 67)), (1, .ref (gad G k1)), (2, .long x2)]) hx hb dX1_weighLazy_133 hl (k := 4) rfl rfl (by decide) rfl (fun ls hl => ?_)
  refine lv_goto (tgt := 58) hx hb dX1_weighLazy_136 (by decide) ?_
  exact Hk_58 k1 x2 (x4 + 1) hk1 _ _ _ _ S (lv_sub hl [2, 3, 4, 0] rfl) hz
set_option maxHeartbeats 4000000 in
set_option maxRecDepth 100000 in
theorem w_X1_weighLazy_58 {p : Program} {l : Launch} {e : Env} {s : State} {m : MethodId} {args : Array Value} {below : List Frame} {meth : Method} {c : Code} {G : GG} (F : CallFix p m c cX1_weighLazy 7 s args (wsU yX1_weighLazy cX1_weighLazy 7 none) RX1) (hr : meth.sig.returnType = none) (hlk : meth.locks = false) {z : Unit × GW} : ∀ (n9 : Nat), (∀ (k1 : Nat) (x2 : Int64) (x4 : Int32) (hk1 : kd k1 = 10) (w : GW) (H : Heap) (locs : List Loc) (ls : Array Slot), St G w s H locs → lv_has ls 7 [(0, .ref (gad G 67)), (1, .ref (gad G k1)), (2, .long x2), (4, .int x4)] → f_X1_weighLazy_58 n9 k1 x2 x4 w = some z → W p l e (headSpec (wsU yX1_weighLazy cX1_weighLazy 7 none) rm_X1_weighLazy).room s m args below meth c H locs 0 0 (MQ below (QV G z) args s 0 0 (gA G)) (F0 m 58 ls [])) := by
  obtain ⟨hx, hb, hml, hown, hts⟩ := id F
  have hg : ∀ q ∈ lwg, q.before args s = true := fun q h => hts q (List.mem_cons_of_mem _ h)
  intro n9
  induction n9 with
  | zero =>
    intro k1 x2 x4 hk1 w H locs ls S hl hz
    rw [f_X1_weighLazy_58] at hz
    cases hz
  | succ n9 ih =>
    intro k1 x2 x4 hk1 w H locs ls S hl hz
    rw [f_X1_weighLazy_58] at hz
    refine lv_iload hx hb dX1_weighLazy_58 (lv_at hl 3 rfl) ?_
    refine lv_aload_n hx hb dX1_weighLazy_60 rfl (lv_at hl 0 rfl) ?_
    refine fg_X1_3 hx hb (fun q h => hg q (tl_X1 q h)) hown (hg _ t_fl_X1_9) S (by decide) dX1_weighLazy_61 ?_
    refine fg_X3_1 hx hb (fun q h => hg q (tl_X3 q h)) hown (hg _ t_fl_X1_33) S (kd_H _) dX1_weighLazy_64 ?_
    refine lv_icmp_ge (tgt := 139) hx hb dX1_weighLazy_67 (by decide) (fun c2 => ?_) (fun c2 => ?_)
    · have hz := ipt (c2) hz
      exact g_retv hx hb hr hlk S hz dX1_weighLazy_139
    · have hz := ipf (c2) hz
      refine lv_aload_n hx hb dX1_weighLazy_70 rfl (lv_at hl 1 rfl) ?_
      refine lv_iload hx hb dX1_weighLazy_71 (lv_at hl 3 rfl) ?_
      obtain ⟨h3, hz⟩ := ck hz
      refine g_iald hx hb S (isA_10 hk1) h3 dX1_weighLazy_73 ?_
      refine lv_aload_n hx hb dX1_weighLazy_74 rfl (lv_at hl 0 rfl) ?_
      refine fg_X1_4 hx hb (fun q h => hg q (tl_X1 q h)) hown (hg _ t_fl_X1_18) S (by decide) dX1_weighLazy_75 ?_
      refine fg_X4_2 hx hb (fun q h => hg q (tl_X4 q h)) hown (hg _ t_fl_X1_74) S (kd_P _) dX1_weighLazy_78 ?_
      refine lv_icmp_le (tgt := 88) hx hb dX1_weighLazy_81 (by decide) (fun c4 => ?_) (fun c4 => ?_)
      · have hz := ipt (c4) hz
        refine lv_aload_n hx hb dX1_weighLazy_88 rfl (lv_at hl 0 rfl) ?_
        refine fg_X1_3 hx hb (fun q h => hg q (tl_X1 q h)) hown (hg _ t_fl_X1_9) S (by decide) dX1_weighLazy_89 ?_
        refine fg_X3_4 hx hb (fun q h => hg q (tl_X3 q h)) hown (hg _ t_fl_X1_77) S (kd_H _) dX1_weighLazy_92 ?_
        refine lv_i2l (v := (gI w (fxH (gR w 4)) 4).toInt64) hx hb dX1_weighLazy_95 rfl ?_
        exact w_X1_weighLazy_96 F hr hlk ih k1 x2 x4 ((gI w (fxH (gR w 4)) 4).toInt64) hk1 _ _ _ _ S (lv_sub hl [0, 1, 2, 3] rfl) hz
      · have hz := ipf (c4) hz
        refine lv_lconst (v := 0) hx hb dX1_weighLazy_84 (by decide) ?_
        refine lv_goto (tgt := 96) hx hb dX1_weighLazy_85 (by decide) ?_
        exact w_X1_weighLazy_96 F hr hlk ih k1 x2 x4 0 hk1 _ _ _ _ S (lv_sub hl [0, 1, 2, 3] rfl) hz
set_option maxHeartbeats 4000000 in
set_option maxRecDepth 100000 in
theorem w_X1_weighLazy_47 {p : Program} {l : Launch} {e : Env} {s : State} {m : MethodId} {args : Array Value} {below : List Frame} {meth : Method} {c : Code} {G : GG} (F : CallFix p m c cX1_weighLazy 7 s args (wsU yX1_weighLazy cX1_weighLazy 7 none) RX1) (hr : meth.sig.returnType = none) (hlk : meth.locks = false) {z : Unit × GW} {k_5 : Nat → Int64 → Int32 → GW → Option (Unit × GW)} (Hk_5 : (∀ (k1 : Nat) (x2 : Int64) (x4 : Int32) (hk1 : kd k1 = 10) (w : GW) (H : Heap) (locs : List Loc) (ls : Array Slot), St G w s H locs → lv_has ls 7 [(0, .ref (gad G 67)), (1, .ref (gad G k1)), (2, .long x2), (4, .int x4)] → k_5 k1 x2 x4 w = some z → W p l e (headSpec (wsU yX1_weighLazy cX1_weighLazy 7 none) rm_X1_weighLazy).room s m args below meth c H locs 0 0 (MQ below (QV G z) args s 0 0 (gA G)) (F0 m 5 ls []))) : (∀ (k1 : Nat) (x4 : Int32) (t0 : Int64) (t1 : Int64) (hk1 : kd k1 = 10) (w : GW) (H : Heap) (locs : List Loc) (ls : Array Slot), St G w s H locs → lv_has ls 7 [(0, .ref (gad G 67)), (1, .ref (gad G k1)), (4, .int x4)] → f_X1_weighLazy_47 k_5 k1 x4 t0 t1 w = some z → W p l e (headSpec (wsU yX1_weighLazy cX1_weighLazy 7 none) rm_X1_weighLazy).room s m args below meth c H locs 0 0 (MQ below (QV G z) args s 0 0 (gA G)) (F0 m 47 ls [.long t0, .long t1])) := by
  obtain ⟨hx, hb, hml, hown, hts⟩ := id F
  have hg : ∀ q ∈ lwg, q.before args s = true := fun q h => hts q (List.mem_cons_of_mem _ h)
  intro k1 x4 t0 t1 hk1 w H locs ls S hl hz
  rw [f_X1_weighLazy_47] at hz
  refine lv_ladd hx hb dX1_weighLazy_47 ?_
  refine lv_lstore_n (lv' := [(2, .long (t1 + t0)), (0, .ref (gad G 67)), (1, .ref (gad G k1)), (4, .int x4)]) hx hb dX1_weighLazy_48 rfl hl (by decide) rfl (fun ls hl => ?_)
  refine lv_iinc (v := (x4 + 1)) (lv' := [(4, .int (x4 + 1)), (2, .long (t1 + t0)), (0, .ref (gad G 67)), (1, .ref (gad G k1))]) hx hb dX1_weighLazy_49 hl (k := 3) rfl rfl (by decide) rfl (fun ls hl => ?_)
  refine lv_goto (tgt := 5) hx hb dX1_weighLazy_52 (by decide) ?_
  exact Hk_5 k1 (t1 + t0) (x4 + 1) hk1 _ _ _ _ S (lv_sub hl [2, 3, 1, 0] rfl) hz
set_option maxHeartbeats 4000000 in
set_option maxRecDepth 100000 in
theorem w_X1_weighLazy_5 {p : Program} {l : Launch} {e : Env} {s : State} {m : MethodId} {args : Array Value} {below : List Frame} {meth : Method} {c : Code} {G : GG} (F : CallFix p m c cX1_weighLazy 7 s args (wsU yX1_weighLazy cX1_weighLazy 7 none) RX1) (hr : meth.sig.returnType = none) (hlk : meth.locks = false) {z : Unit × GW} : ∀ (n9 : Nat), (∀ (k1 : Nat) (x2 : Int64) (x4 : Int32) (hk1 : kd k1 = 10) (w : GW) (H : Heap) (locs : List Loc) (ls : Array Slot), St G w s H locs → lv_has ls 7 [(0, .ref (gad G 67)), (1, .ref (gad G k1)), (2, .long x2), (4, .int x4)] → f_X1_weighLazy_5 n9 k1 x2 x4 w = some z → W p l e (headSpec (wsU yX1_weighLazy cX1_weighLazy 7 none) rm_X1_weighLazy).room s m args below meth c H locs 0 0 (MQ below (QV G z) args s 0 0 (gA G)) (F0 m 5 ls [])) := by
  obtain ⟨hx, hb, hml, hown, hts⟩ := id F
  have hg : ∀ q ∈ lwg, q.before args s = true := fun q h => hts q (List.mem_cons_of_mem _ h)
  intro n9
  induction n9 with
  | zero =>
    intro k1 x2 x4 hk1 w H locs ls S hl hz
    rw [f_X1_weighLazy_5] at hz
    cases hz
  | succ n9 ih =>
    intro k1 x2 x4 hk1 w H locs ls S hl hz
    rw [f_X1_weighLazy_5] at hz
    refine lv_iload hx hb dX1_weighLazy_5 (lv_at hl 3 rfl) ?_
    refine lv_aload_n hx hb dX1_weighLazy_7 rfl (lv_at hl 0 rfl) ?_
    refine fg_X1_3 hx hb (fun q h => hg q (tl_X1 q h)) hown (hg _ t_fl_X1_9) S (by decide) dX1_weighLazy_8 ?_
    refine fg_X3_1 hx hb (fun q h => hg q (tl_X3 q h)) hown (hg _ t_fl_X1_33) S (kd_H _) dX1_weighLazy_11 ?_
    refine lv_icmp_ge (tgt := 55) hx hb dX1_weighLazy_14 (by decide) (fun c1 => ?_) (fun c1 => ?_)
    · have hz := ipt (c1) hz
      refine lv_iconst (v := 0) hx hb dX1_weighLazy_55 (by decide) ?_
      refine lv_istore (lv' := [(4, .int 0), (0, .ref (gad G 67)), (1, .ref (gad G k1)), (2, .long x2)]) hx hb dX1_weighLazy_56 hl (by decide) rfl (fun ls hl => ?_)
      exact w_X1_weighLazy_58 F hr hlk fu k1 x2 0 hk1 _ _ _ _ S (lv_sub hl [1, 2, 3, 0] rfl) hz
    · have hz := ipf (c1) hz
      refine lv_lload_n hx hb dX1_weighLazy_17 rfl (lv_at hl 2 rfl) ?_
      refine lv_aload_n hx hb dX1_weighLazy_18 rfl (lv_at hl 1 rfl) ?_
      refine lv_iload hx hb dX1_weighLazy_19 (lv_at hl 3 rfl) ?_
      obtain ⟨h9, hz⟩ := ck hz
      refine g_iald hx hb S (isA_10 hk1) h9 dX1_weighLazy_21 ?_
      refine lv_aload_n hx hb dX1_weighLazy_22 rfl (lv_at hl 0 rfl) ?_
      refine fg_X1_4 hx hb (fun q h => hg q (tl_X1 q h)) hown (hg _ t_fl_X1_18) S (by decide) dX1_weighLazy_23 ?_
      refine fg_X4_2 hx hb (fun q h => hg q (tl_X4 q h)) hown (hg _ t_fl_X1_74) S (kd_P _) dX1_weighLazy_26 ?_
      refine lv_icmp_le (tgt := 46) hx hb dX1_weighLazy_29 (by decide) (fun c10 => ?_) (fun c10 => ?_)
      · have hz := ipt (c10) hz
        refine lv_lconst (v := 0) hx hb dX1_weighLazy_46 (by decide) ?_
        exact w_X1_weighLazy_47 F hr hlk ih k1 x4 0 x2 hk1 _ _ _ _ S (lv_sub hl [0, 1, 3] rfl) hz
      · have hz := ipf (c10) hz
        refine lv_aload_n hx hb dX1_weighLazy_32 rfl (lv_at hl 0 rfl) ?_
        refine fg_X1_3 hx hb (fun q h => hg q (tl_X1 q h)) hown (hg _ t_fl_X1_9) S (by decide) dX1_weighLazy_33 ?_
        refine fg_X3_11 hx hb (fun q h => hg q (tl_X3 q h)) hown (hg _ t_fl_X1_46) S (kd_H _) dX1_weighLazy_36 ?_
        refine lv_iload hx hb dX1_weighLazy_39 (lv_at hl 3 rfl) ?_
        obtain ⟨h11, hz⟩ := ck hz
        refine g_iald hx hb S (isA_10 (kd_3_2 (kd_H _))) h11 dX1_weighLazy_41 ?_
        refine lv_i2l (v := (gI w ((fxH (gR w 4)) + 2) (ix x4)).toInt64) hx hb dX1_weighLazy_42 rfl ?_
        refine lv_goto (tgt := 47) hx hb dX1_weighLazy_43 (by decide) ?_
        exact w_X1_weighLazy_47 F hr hlk ih k1 x4 ((gI w ((fxH (gR w 4)) + 2) (ix x4)).toInt64) x2 hk1 _ _ _ _ S (lv_sub hl [0, 1, 3] rfl) hz
set_option maxHeartbeats 4000000 in
set_option maxRecDepth 100000 in
theorem c_X1_weighLazy (l : Launch) (G : GG) (k1 : Nat) (hk1 : kd k1 = 10) (w : GW) {z : Unit × GW} (hz : f_X1_weighLazy k1 w = some z) : Met l yX1_weighLazy (wsU yX1_weighLazy cX1_weighLazy 7 none) rm_X1_weighLazy (va_Pc [.ref (gad G 67), .ref (gad G k1)] (PreG G w)) (QV G z) 0 0 (gA G) := by
  refine Met.ofW (cc := cX1_weighLazy) (maxL := 7) (ret := none) (by decide) rfl ?_
  intro p e s m args below meth c s₁ B hml hv
  obtain ⟨rfl, S⟩ := hv
  have F : CallFix p m c cX1_weighLazy 7 s _ (wsU yX1_weighLazy cX1_weighLazy 7 none) RX1 := ⟨B.exec, B.bytes, hml, findClass_of_methodNamed B.named, atoms_spec B.pre⟩
  have hr := B.returns
  have hlk := B.notSynchronized
  obtain ⟨hx, hb, -, hown, hts⟩ := id F
  have hg : ∀ q ∈ lwg, q.before _ s = true := fun q h => hts q (List.mem_cons_of_mem _ h)
  refine g_entry (Nat.le_of_ble_eq_true rfl) (fun ls hl => ?_)
  have hl : lv_has ls 7 [(0, .ref (gad G 67)), (1, .ref (gad G k1))] := hl
  have S : St G w s s.heap [] := S
  generalize s.heap = H at S ⊢
  generalize ([] : List Loc) = locs at S ⊢
  rw [f_X1_weighLazy] at hz
  refine lv_lconst (v := 0) hx hb dX1_weighLazy_0 (by decide) ?_
  refine lv_lstore_n (lv' := [(2, .long 0), (0, .ref (gad G 67)), (1, .ref (gad G k1))]) hx hb dX1_weighLazy_1 rfl hl (by decide) rfl (fun ls hl => ?_)
  refine lv_iconst (v := 0) hx hb dX1_weighLazy_2 (by decide) ?_
  refine lv_istore (lv' := [(4, .int 0), (2, .long 0), (0, .ref (gad G 67)), (1, .ref (gad G k1))]) hx hb dX1_weighLazy_3 hl (by decide) rfl (fun ls hl => ?_)
  exact w_X1_weighLazy_5 F hr hlk fu k1 0 0 hk1 _ _ _ _ S (lv_sub hl [2, 3, 1, 0] rfl) hz
noncomputable def f_X1_lookedAt (x1 : Int32) (x2 : Int32) (w : GW) : Option (Int32 × GW) :=
  if (gI w (fxP (gR w 5)) 1) = 3 then
    some (((x1 ||| ((x1 <<< ((1 : Int32) &&& 31)) &&& (((1 : Int32) <<< ((gI w (fxH (gR w 4)) 1) &&& 31)) - 1))) ||| ((x1 <<< ((1 : Int32) &&& 31)) >>> ((gI w (fxH (gR w 4)) 1) &&& 31))), w)
  else
    if (gI w (fxP (gR w 5)) 1) = 4 then
      if x2 ≤ 0 then
        some (x1, w)
      else
        some ((x1 ||| ((1 : Int32) <<< ((x2 - 1) &&& 31))), w)
    else
      some (x1, w)
set_option maxHeartbeats 4000000 in
set_option maxRecDepth 100000 in
theorem c_X1_lookedAt (l : Launch) (G : GG) (x1 : Int32) (x2 : Int32)  (w : GW) {z : Int32 × GW} (hz : f_X1_lookedAt x1 x2 w = some z) : Met l yX1_lookedAt (wsU yX1_lookedAt cX1_lookedAt 4 (some .int)) rm_X1_lookedAt (va_Pc [.ref (gad G 67), .int x1, .int x2] (PreG G w)) (QI G z) 0 0 (gA G) := by
  refine Met.ofW (cc := cX1_lookedAt) (maxL := 4) (ret := (some .int)) (by decide) rfl ?_
  intro p e s m args below meth c s₁ B hml hv
  obtain ⟨rfl, S⟩ := hv
  have F : CallFix p m c cX1_lookedAt 4 s _ (wsU yX1_lookedAt cX1_lookedAt 4 (some .int)) RX1 := ⟨B.exec, B.bytes, hml, findClass_of_methodNamed B.named, atoms_spec B.pre⟩
  have hr := B.returns
  have hlk := B.notSynchronized
  obtain ⟨hx, hb, -, hown, hts⟩ := id F
  have hg : ∀ q ∈ lwg, q.before _ s = true := fun q h => hts q (List.mem_cons_of_mem _ h)
  refine g_entry (Nat.le_of_ble_eq_true rfl) (fun ls hl => ?_)
  have hl : lv_has ls 4 [(0, .ref (gad G 67)), (1, .int x1), (2, .int x2)] := hl
  have S : St G w s s.heap [] := S
  generalize s.heap = H at S ⊢
  generalize ([] : List Loc) = locs at S ⊢
  rw [f_X1_lookedAt] at hz
  refine lv_aload_n hx hb dX1_lookedAt_0 rfl (lv_at hl 0 rfl) ?_
  refine fg_X1_4 hx hb (fun q h => hg q (tl_X1 q h)) hown (hg _ t_fl_X1_18) S (by decide) dX1_lookedAt_1 ?_
  refine fg_X4_1 hx hb (fun q h => hg q (tl_X4 q h)) hown (hg _ t_fl_X1_56) S (kd_P _) dX1_lookedAt_4 ?_
  refine lv_iconst (v := 3) hx hb dX1_lookedAt_7 (by decide) ?_
  refine lv_icmp_ne (tgt := 41) hx hb dX1_lookedAt_8 (by decide) (fun c1 => ?_) (fun c1 => ?_)
  · have hz := ipf (c1) hz
    refine lv_aload_n hx hb dX1_lookedAt_41 rfl (lv_at hl 0 rfl) ?_
    refine fg_X1_4 hx hb (fun q h => hg q (tl_X1 q h)) hown (hg _ t_fl_X1_18) S (by decide) dX1_lookedAt_42 ?_
    refine fg_X4_1 hx hb (fun q h => hg q (tl_X4 q h)) hown (hg _ t_fl_X1_56) S (kd_P _) dX1_lookedAt_45 ?_
    refine lv_iconst (v := 4) hx hb dX1_lookedAt_48 (by decide) ?_
    refine lv_icmp_ne (tgt := 66) hx hb dX1_lookedAt_49 (by decide) (fun c2 => ?_) (fun c2 => ?_)
    · have hz := ipf (c2) hz
      refine lv_iload_n hx hb dX1_lookedAt_66 rfl (lv_at hl 1 rfl) ?_
      exact g_reti hx hb hr hlk S hz dX1_lookedAt_67
    · have hz := ipt (c2) hz
      refine lv_iload_n hx hb dX1_lookedAt_52 rfl (lv_at hl 2 rfl) ?_
      refine lv_if_le (tgt := 66) hx hb dX1_lookedAt_53 (by decide) (fun c3 => ?_) (fun c3 => ?_)
      · have hz := ipt (c3) hz
        refine lv_iload_n hx hb dX1_lookedAt_66 rfl (lv_at hl 1 rfl) ?_
        exact g_reti hx hb hr hlk S hz dX1_lookedAt_67
      · have hz := ipf (c3) hz
        refine lv_iload_n hx hb dX1_lookedAt_56 rfl (lv_at hl 1 rfl) ?_
        refine lv_iconst (v := 1) hx hb dX1_lookedAt_57 (by decide) ?_
        refine lv_iload_n hx hb dX1_lookedAt_58 rfl (lv_at hl 2 rfl) ?_
        refine lv_iconst (v := 1) hx hb dX1_lookedAt_59 (by decide) ?_
        refine lv_isub hx hb dX1_lookedAt_60 ?_
        refine lv_ishl hx hb dX1_lookedAt_61 ?_
        refine lv_ior hx hb dX1_lookedAt_62 ?_
        refine lv_goto (tgt := 67) hx hb dX1_lookedAt_63 (by decide) ?_
        exact g_reti hx hb hr hlk S hz dX1_lookedAt_67
  · have hz := ipt (c1) hz
    refine lv_iload_n hx hb dX1_lookedAt_11 rfl (lv_at hl 1 rfl) ?_
    refine lv_iconst (v := 1) hx hb dX1_lookedAt_12 (by decide) ?_
    refine lv_ishl hx hb dX1_lookedAt_13 ?_
    refine lv_istore_n (lv' := [(3, .int (x1 <<< ((1 : Int32) &&& 31))), (0, .ref (gad G 67)), (1, .int x1), (2, .int x2)]) hx hb dX1_lookedAt_14 rfl hl (by decide) rfl (fun ls hl => ?_)
    refine lv_iload_n hx hb dX1_lookedAt_15 rfl (lv_at hl 2 rfl) ?_
    refine lv_iload_n hx hb dX1_lookedAt_16 rfl (lv_at hl 0 rfl) ?_
    refine lv_iconst (v := 1) hx hb dX1_lookedAt_17 (by decide) ?_
    refine lv_aload_n hx hb dX1_lookedAt_18 rfl (lv_at hl 1 rfl) ?_
    refine fg_X1_3 hx hb (fun q h => hg q (tl_X1 q h)) hown (hg _ t_fl_X1_9) S (by decide) dX1_lookedAt_19 ?_
    refine fg_X3_1 hx hb (fun q h => hg q (tl_X3 q h)) hown (hg _ t_fl_X1_33) S (kd_H _) dX1_lookedAt_22 ?_
    refine lv_ishl hx hb dX1_lookedAt_25 ?_
    refine lv_iconst (v := 1) hx hb dX1_lookedAt_26 (by decide) ?_
    refine lv_isub hx hb dX1_lookedAt_27 ?_
    refine lv_iand hx hb dX1_lookedAt_28 ?_
    refine lv_ior hx hb dX1_lookedAt_29 ?_
    refine lv_iload_n hx hb dX1_lookedAt_30 rfl (lv_at hl 0 rfl) ?_
    refine lv_aload_n hx hb dX1_lookedAt_31 rfl (lv_at hl 1 rfl) ?_
    refine fg_X1_3 hx hb (fun q h => hg q (tl_X1 q h)) hown (hg _ t_fl_X1_9) S (by decide) dX1_lookedAt_32 ?_
    refine fg_X3_1 hx hb (fun q h => hg q (tl_X3 q h)) hown (hg _ t_fl_X1_33) S (kd_H _) dX1_lookedAt_35 ?_
    refine lv_ishr hx hb dX1_lookedAt_38 ?_
    refine lv_ior hx hb dX1_lookedAt_39 ?_
    exact g_reti hx hb hr hlk S hz dX1_lookedAt_40
noncomputable def f_X1_emptiest_71 (k_9 : Nat → Int32 → Int32 → Int32 → Int32 → Int32 → GW → Option (Int32 × GW)) (k1 : Nat) (x2 : Int32) (x3 : Int32) (x4 : Int32) (x5 : Int32) (x6 : Int32) (w : GW) : Option (Int32 × GW) :=
  k_9 k1 x2 x3 x4 x5 (x6 + 1) w
noncomputable def f_X1_emptiest_63 (k_9 : Nat → Int32 → Int32 → Int32 → Int32 → Int32 → GW → Option (Int32 × GW)) (k1 : Nat) (x2 : Int32) (x3 : Int32) (x6 : Int32) (x7 : Int32) (w : GW) : Option (Int32 × GW) :=
  f_X1_emptiest_71 k_9 k1 x2 x3 x6 x7 x6 w
noncomputable def f_X1_emptiest_49 (k_9 : Nat → Int32 → Int32 → Int32 → Int32 → Int32 → GW → Option (Int32 × GW)) (k1 : Nat) (x2 : Int32) (x3 : Int32) (x4 : Int32) (x5 : Int32) (x6 : Int32) (t0 : Int32) (w : GW) : Option (Int32 × GW) :=
  if x4 < 0 then
    f_X1_emptiest_63 k_9 k1 x2 x3 x6 t0 w
  else
    if x5 ≤ t0 then
      f_X1_emptiest_71 k_9 k1 x2 x3 x4 x5 x6 w
    else
      f_X1_emptiest_63 k_9 k1 x2 x3 x6 t0 w
noncomputable def f_X1_emptiest_9  : Nat → Nat → Int32 → Int32 → Int32 → Int32 → Int32 → GW → Option (Int32 × GW)
  | 0, _, _, _, _, _, _, _ => none
  | n9 + 1, k1, x2, x3, x4, x5, x6, w =>
    if (gI w (fxH (gR w 4)) 1) ≤ x6 then
      some (x4, w)
    else
      if ((x2 >>> (x6 &&& 31)) &&& 1) = 0 then
        f_X1_emptiest_71 (f_X1_emptiest_9 n9) k1 x2 x3 x4 x5 x6 w
      else
        if x6 = x3 then
          if inb x6 5 then
          f_X1_emptiest_49 (f_X1_emptiest_9 n9) k1 x2 x3 x4 x5 x6 ((gI w k1 (ix x6)) + 1) w
          else none
        else
          if inb x6 5 then
          f_X1_emptiest_49 (f_X1_emptiest_9 n9) k1 x2 x3 x4 x5 x6 (gI w k1 (ix x6)) w
          else none
noncomputable def f_X1_emptiest (k1 : Nat) (x2 : Int32) (x3 : Int32) (w : GW) : Option (Int32 × GW) :=
  f_X1_emptiest_9 fu k1 x2 x3 (-1) 0 0 w
set_option maxHeartbeats 4000000 in
set_option maxRecDepth 100000 in
theorem w_X1_emptiest_71 {p : Program} {l : Launch} {e : Env} {s : State} {m : MethodId} {args : Array Value} {below : List Frame} {meth : Method} {c : Code} {G : GG} (F : CallFix p m c cX1_emptiest 8 s args (wsU yX1_emptiest cX1_emptiest 8 (some .int)) RX1) (hr : meth.sig.returnType = (some .int)) (hlk : meth.locks = false) {z : Int32 × GW} {k_9 : Nat → Int32 → Int32 → Int32 → Int32 → Int32 → GW → Option (Int32 × GW)} (Hk_9 : (∀ (k1 : Nat) (x2 : Int32) (x3 : Int32) (x4 : Int32) (x5 : Int32) (x6 : Int32) (hk1 : kd k1 = 10) (w : GW) (H : Heap) (locs : List Loc) (ls : Array Slot), St G w s H locs → lv_has ls 8 [(0, .ref (gad G 67)), (1, .ref (gad G k1)), (2, .int x2), (3, .int x3), (4, .int x4), (5, .int x5), (6, .int x6)] → k_9 k1 x2 x3 x4 x5 x6 w = some z → W p l e (headSpec (wsU yX1_emptiest cX1_emptiest 8 (some .int)) rm_X1_emptiest).room s m args below meth c H locs 0 0 (MQ below (QI G z) args s 0 0 (gA G)) (F0 m 9 ls []))) : (∀ (k1 : Nat) (x2 : Int32) (x3 : Int32) (x4 : Int32) (x5 : Int32) (x6 : Int32) (hk1 : kd k1 = 10) (w : GW) (H : Heap) (locs : List Loc) (ls : Array Slot), St G w s H locs → lv_has ls 8 [(0, .ref (gad G 67)), (1, .ref (gad G k1)), (2, .int x2), (3, .int x3), (4, .int x4), (5, .int x5), (6, .int x6)] → f_X1_emptiest_71 k_9 k1 x2 x3 x4 x5 x6 w = some z → W p l e (headSpec (wsU yX1_emptiest cX1_emptiest 8 (some .int)) rm_X1_emptiest).room s m args below meth c H locs 0 0 (MQ below (QI G z) args s 0 0 (gA G)) (F0 m 71 ls [])) := by
  obtain ⟨hx, hb, hml, hown, hts⟩ := id F
  have hg : ∀ q ∈ lwg, q.before args s = true := fun q h => hts q (List.mem_cons_of_mem _ h)
  intro k1 x2 x3 x4 x5 x6 hk1 w H locs ls S hl hz
  rw [f_X1_emptiest_71] at hz
  refine lv_iinc (v := (x6 + 1)) (lv' := [(6, .int (x6 + 1)), (0, .ref (gad G 67)), (1, .ref (gad G k1)), (2, .int x2), (3, .int x3), (4, .int x4), (5, .int x5)]) hx hb dX1_emptiest_71 hl (k := 6) rfl rfl (by decide) rfl (fun ls hl => ?_)
  refine lv_goto (tgt := 9) hx hb dX1_emptiest_74 (by decide) ?_
  exact Hk_9 k1 x2 x3 x4 x5 (x6 + 1) hk1 _ _ _ _ S (lv_sub hl [1, 2, 3, 4, 5, 6, 0] rfl) hz
set_option maxHeartbeats 4000000 in
set_option maxRecDepth 100000 in
theorem w_X1_emptiest_63 {p : Program} {l : Launch} {e : Env} {s : State} {m : MethodId} {args : Array Value} {below : List Frame} {meth : Method} {c : Code} {G : GG} (F : CallFix p m c cX1_emptiest 8 s args (wsU yX1_emptiest cX1_emptiest 8 (some .int)) RX1) (hr : meth.sig.returnType = (some .int)) (hlk : meth.locks = false) {z : Int32 × GW} {k_9 : Nat → Int32 → Int32 → Int32 → Int32 → Int32 → GW → Option (Int32 × GW)} (Hk_9 : (∀ (k1 : Nat) (x2 : Int32) (x3 : Int32) (x4 : Int32) (x5 : Int32) (x6 : Int32) (hk1 : kd k1 = 10) (w : GW) (H : Heap) (locs : List Loc) (ls : Array Slot), St G w s H locs → lv_has ls 8 [(0, .ref (gad G 67)), (1, .ref (gad G k1)), (2, .int x2), (3, .int x3), (4, .int x4), (5, .int x5), (6, .int x6)] → k_9 k1 x2 x3 x4 x5 x6 w = some z → W p l e (headSpec (wsU yX1_emptiest cX1_emptiest 8 (some .int)) rm_X1_emptiest).room s m args below meth c H locs 0 0 (MQ below (QI G z) args s 0 0 (gA G)) (F0 m 9 ls []))) : (∀ (k1 : Nat) (x2 : Int32) (x3 : Int32) (x6 : Int32) (x7 : Int32) (hk1 : kd k1 = 10) (w : GW) (H : Heap) (locs : List Loc) (ls : Array Slot), St G w s H locs → lv_has ls 8 [(0, .ref (gad G 67)), (1, .ref (gad G k1)), (2, .int x2), (3, .int x3), (6, .int x6), (7, .int x7)] → f_X1_emptiest_63 k_9 k1 x2 x3 x6 x7 w = some z → W p l e (headSpec (wsU yX1_emptiest cX1_emptiest 8 (some .int)) rm_X1_emptiest).room s m args below meth c H locs 0 0 (MQ below (QI G z) args s 0 0 (gA G)) (F0 m 63 ls [])) := by
  obtain ⟨hx, hb, hml, hown, hts⟩ := id F
  have hg : ∀ q ∈ lwg, q.before args s = true := fun q h => hts q (List.mem_cons_of_mem _ h)
  intro k1 x2 x3 x6 x7 hk1 w H locs ls S hl hz
  rw [f_X1_emptiest_63] at hz
  refine lv_iload hx hb dX1_emptiest_63 (lv_at hl 4 rfl) ?_
  refine lv_istore (lv' := [(4, .int x6), (0, .ref (gad G 67)), (1, .ref (gad G k1)), (2, .int x2), (3, .int x3), (6, .int x6), (7, .int x7)]) hx hb dX1_emptiest_65 hl (by decide) rfl (fun ls hl => ?_)
  refine lv_iload hx hb dX1_emptiest_67 (lv_at hl 6 rfl) ?_
  refine lv_istore (lv' := [(5, .int x7), (4, .int x6), (0, .ref (gad G 67)), (1, .ref (gad G k1)), (2, .int x2), (3, .int x3), (6, .int x6), (7, .int x7)]) hx hb dX1_emptiest_69 hl (by decide) rfl (fun ls hl => ?_)
  exact w_X1_emptiest_71 F hr hlk Hk_9 k1 x2 x3 x6 x7 x6 hk1 _ _ _ _ S (lv_sub hl [2, 3, 4, 5, 1, 0, 6] rfl) hz
set_option maxHeartbeats 4000000 in
set_option maxRecDepth 100000 in
theorem w_X1_emptiest_49 {p : Program} {l : Launch} {e : Env} {s : State} {m : MethodId} {args : Array Value} {below : List Frame} {meth : Method} {c : Code} {G : GG} (F : CallFix p m c cX1_emptiest 8 s args (wsU yX1_emptiest cX1_emptiest 8 (some .int)) RX1) (hr : meth.sig.returnType = (some .int)) (hlk : meth.locks = false) {z : Int32 × GW} {k_9 : Nat → Int32 → Int32 → Int32 → Int32 → Int32 → GW → Option (Int32 × GW)} (Hk_9 : (∀ (k1 : Nat) (x2 : Int32) (x3 : Int32) (x4 : Int32) (x5 : Int32) (x6 : Int32) (hk1 : kd k1 = 10) (w : GW) (H : Heap) (locs : List Loc) (ls : Array Slot), St G w s H locs → lv_has ls 8 [(0, .ref (gad G 67)), (1, .ref (gad G k1)), (2, .int x2), (3, .int x3), (4, .int x4), (5, .int x5), (6, .int x6)] → k_9 k1 x2 x3 x4 x5 x6 w = some z → W p l e (headSpec (wsU yX1_emptiest cX1_emptiest 8 (some .int)) rm_X1_emptiest).room s m args below meth c H locs 0 0 (MQ below (QI G z) args s 0 0 (gA G)) (F0 m 9 ls []))) : (∀ (k1 : Nat) (x2 : Int32) (x3 : Int32) (x4 : Int32) (x5 : Int32) (x6 : Int32) (t0 : Int32) (hk1 : kd k1 = 10) (w : GW) (H : Heap) (locs : List Loc) (ls : Array Slot), St G w s H locs → lv_has ls 8 [(0, .ref (gad G 67)), (1, .ref (gad G k1)), (2, .int x2), (3, .int x3), (4, .int x4), (5, .int x5), (6, .int x6)] → f_X1_emptiest_49 k_9 k1 x2 x3 x4 x5 x6 t0 w = some z → W p l e (headSpec (wsU yX1_emptiest cX1_emptiest 8 (some .int)) rm_X1_emptiest).room s m args below meth c H locs 0 0 (MQ below (QI G z) args s 0 0 (gA G)) (F0 m 49 ls [.int t0])) := by
  obtain ⟨hx, hb, hml, hown, hts⟩ := id F
  have hg : ∀ q ∈ lwg, q.before args s = true := fun q h => hts q (List.mem_cons_of_mem _ h)
  intro k1 x2 x3 x4 x5 x6 t0 hk1 w H locs ls S hl hz
  rw [f_X1_emptiest_49] at hz
  refine lv_istore (lv' := [(7, .int t0), (0, .ref (gad G 67)), (1, .ref (gad G k1)), (2, .int x2), (3, .int x3), (4, .int x4), (5, .int x5), (6, .int x6)]) hx hb dX1_emptiest_49 hl (by decide) rfl (fun ls hl => ?_)
  refine lv_iload hx hb dX1_emptiest_51 (lv_at hl 5 rfl) ?_
  refine lv_if_lt (tgt := 63) hx hb dX1_emptiest_53 (by decide) (fun c5 => ?_) (fun c5 => ?_)
  · have hz := ipt (c5) hz
    exact w_X1_emptiest_63 F hr hlk Hk_9 k1 x2 x3 x6 t0 hk1 _ _ _ _ S (lv_sub hl [1, 2, 3, 4, 7, 0] rfl) hz
  · have hz := ipf (c5) hz
    refine lv_iload hx hb dX1_emptiest_56 (lv_at hl 0 rfl) ?_
    refine lv_iload hx hb dX1_emptiest_58 (lv_at hl 6 rfl) ?_
    refine lv_icmp_ge (tgt := 71) hx hb dX1_emptiest_60 (by decide) (fun c6 => ?_) (fun c6 => ?_)
    · have hz := ipt (c6) hz
      exact w_X1_emptiest_71 F hr hlk Hk_9 k1 x2 x3 x4 x5 x6 hk1 _ _ _ _ S (lv_sub hl [1, 2, 3, 4, 5, 6, 7] rfl) hz
    · have hz := ipf (c6) hz
      exact w_X1_emptiest_63 F hr hlk Hk_9 k1 x2 x3 x6 t0 hk1 _ _ _ _ S (lv_sub hl [1, 2, 3, 4, 7, 0] rfl) hz
set_option maxHeartbeats 4000000 in
set_option maxRecDepth 100000 in
theorem w_X1_emptiest_9 {p : Program} {l : Launch} {e : Env} {s : State} {m : MethodId} {args : Array Value} {below : List Frame} {meth : Method} {c : Code} {G : GG} (F : CallFix p m c cX1_emptiest 8 s args (wsU yX1_emptiest cX1_emptiest 8 (some .int)) RX1) (hr : meth.sig.returnType = (some .int)) (hlk : meth.locks = false) {z : Int32 × GW} : ∀ (n9 : Nat), (∀ (k1 : Nat) (x2 : Int32) (x3 : Int32) (x4 : Int32) (x5 : Int32) (x6 : Int32) (hk1 : kd k1 = 10) (w : GW) (H : Heap) (locs : List Loc) (ls : Array Slot), St G w s H locs → lv_has ls 8 [(0, .ref (gad G 67)), (1, .ref (gad G k1)), (2, .int x2), (3, .int x3), (4, .int x4), (5, .int x5), (6, .int x6)] → f_X1_emptiest_9 n9 k1 x2 x3 x4 x5 x6 w = some z → W p l e (headSpec (wsU yX1_emptiest cX1_emptiest 8 (some .int)) rm_X1_emptiest).room s m args below meth c H locs 0 0 (MQ below (QI G z) args s 0 0 (gA G)) (F0 m 9 ls [])) := by
  obtain ⟨hx, hb, hml, hown, hts⟩ := id F
  have hg : ∀ q ∈ lwg, q.before args s = true := fun q h => hts q (List.mem_cons_of_mem _ h)
  intro n9
  induction n9 with
  | zero =>
    intro k1 x2 x3 x4 x5 x6 hk1 w H locs ls S hl hz
    rw [f_X1_emptiest_9] at hz
    cases hz
  | succ n9 ih =>
    intro k1 x2 x3 x4 x5 x6 hk1 w H locs ls S hl hz
    rw [f_X1_emptiest_9] at hz
    refine lv_iload hx hb dX1_emptiest_9 (lv_at hl 6 rfl) ?_
    refine lv_aload_n hx hb dX1_emptiest_11 rfl (lv_at hl 0 rfl) ?_
    refine fg_X1_3 hx hb (fun q h => hg q (tl_X1 q h)) hown (hg _ t_fl_X1_9) S (by decide) dX1_emptiest_12 ?_
    refine fg_X3_1 hx hb (fun q h => hg q (tl_X3 q h)) hown (hg _ t_fl_X1_33) S (kd_H _) dX1_emptiest_15 ?_
    refine lv_icmp_ge (tgt := 77) hx hb dX1_emptiest_18 (by decide) (fun c1 => ?_) (fun c1 => ?_)
    · have hz := ipt (c1) hz
      refine lv_iload hx hb dX1_emptiest_77 (lv_at hl 4 rfl) ?_
      exact g_reti hx hb hr hlk S hz dX1_emptiest_79
    · have hz := ipf (c1) hz
      refine lv_iload_n hx hb dX1_emptiest_21 rfl (lv_at hl 2 rfl) ?_
      refine lv_iload hx hb dX1_emptiest_22 (lv_at hl 6 rfl) ?_
      refine lv_ishr hx hb dX1_emptiest_24 ?_
      refine lv_iconst (v := 1) hx hb dX1_emptiest_25 (by decide) ?_
      refine lv_iand hx hb dX1_emptiest_26 ?_
      refine lv_if_eq (tgt := 71) hx hb dX1_emptiest_27 (by decide) (fun c2 => ?_) (fun c2 => ?_)
      · have hz := ipt (c2) hz
        exact w_X1_emptiest_71 F hr hlk ih k1 x2 x3 x4 x5 x6 hk1 _ _ _ _ S (lv_sub hl [0, 1, 2, 3, 4, 5, 6] rfl) hz
      · have hz := ipf (c2) hz
        refine lv_iload hx hb dX1_emptiest_30 (lv_at hl 6 rfl) ?_
        refine lv_iload_n hx hb dX1_emptiest_32 rfl (lv_at hl 3 rfl) ?_
        refine lv_icmp_ne (tgt := 45) hx hb dX1_emptiest_33 (by decide) (fun c3 => ?_) (fun c3 => ?_)
        · have hz := ipf (c3) hz
          refine lv_aload_n hx hb dX1_emptiest_45 rfl (lv_at hl 1 rfl) ?_
          refine lv_iload hx hb dX1_emptiest_46 (lv_at hl 6 rfl) ?_
          obtain ⟨h4, hz⟩ := ck hz
          refine g_iald hx hb S (isA_10 hk1) h4 dX1_emptiest_48 ?_
          exact w_X1_emptiest_49 F hr hlk ih k1 x2 x3 x4 x5 x6 (gI w k1 (ix x6)) hk1 _ _ _ _ S (lv_sub hl [0, 1, 2, 3, 4, 5, 6] rfl) hz
        · have hz := ipt (c3) hz
          refine lv_aload_n hx hb dX1_emptiest_36 rfl (lv_at hl 1 rfl) ?_
          refine lv_iload hx hb dX1_emptiest_37 (lv_at hl 6 rfl) ?_
          obtain ⟨h7, hz⟩ := ck hz
          refine g_iald hx hb S (isA_10 hk1) h7 dX1_emptiest_39 ?_
          refine lv_iconst (v := 1) hx hb dX1_emptiest_40 (by decide) ?_
          refine lv_iadd hx hb dX1_emptiest_41 ?_
          refine lv_goto (tgt := 49) hx hb dX1_emptiest_42 (by decide) ?_
          exact w_X1_emptiest_49 F hr hlk ih k1 x2 x3 x4 x5 x6 ((gI w k1 (ix x6)) + 1) hk1 _ _ _ _ S (lv_sub hl [0, 1, 2, 3, 4, 5, 6] rfl) hz
set_option maxHeartbeats 4000000 in
set_option maxRecDepth 100000 in
theorem c_X1_emptiest (l : Launch) (G : GG) (k1 : Nat) (x2 : Int32) (x3 : Int32) (hk1 : kd k1 = 10) (w : GW) {z : Int32 × GW} (hz : f_X1_emptiest k1 x2 x3 w = some z) : Met l yX1_emptiest (wsU yX1_emptiest cX1_emptiest 8 (some .int)) rm_X1_emptiest (va_Pc [.ref (gad G 67), .ref (gad G k1), .int x2, .int x3] (PreG G w)) (QI G z) 0 0 (gA G) := by
  refine Met.ofW (cc := cX1_emptiest) (maxL := 8) (ret := (some .int)) (by decide) rfl ?_
  intro p e s m args below meth c s₁ B hml hv
  obtain ⟨rfl, S⟩ := hv
  have F : CallFix p m c cX1_emptiest 8 s _ (wsU yX1_emptiest cX1_emptiest 8 (some .int)) RX1 := ⟨B.exec, B.bytes, hml, findClass_of_methodNamed B.named, atoms_spec B.pre⟩
  have hr := B.returns
  have hlk := B.notSynchronized
  obtain ⟨hx, hb, -, hown, hts⟩ := id F
  have hg : ∀ q ∈ lwg, q.before _ s = true := fun q h => hts q (List.mem_cons_of_mem _ h)
  refine g_entry (Nat.le_of_ble_eq_true rfl) (fun ls hl => ?_)
  have hl : lv_has ls 8 [(0, .ref (gad G 67)), (1, .ref (gad G k1)), (2, .int x2), (3, .int x3)] := hl
  have S : St G w s s.heap [] := S
  generalize s.heap = H at S ⊢
  generalize ([] : List Loc) = locs at S ⊢
  rw [f_X1_emptiest] at hz
  refine lv_iconst (v := (-1)) hx hb dX1_emptiest_0 (by decide) ?_
  refine lv_istore (lv' := [(4, .int (-1)), (0, .ref (gad G 67)), (1, .ref (gad G k1)), (2, .int x2), (3, .int x3)]) hx hb dX1_emptiest_1 hl (by decide) rfl (fun ls hl => ?_)
  refine lv_iconst (v := 0) hx hb dX1_emptiest_3 (by decide) ?_
  refine lv_istore (lv' := [(5, .int 0), (4, .int (-1)), (0, .ref (gad G 67)), (1, .ref (gad G k1)), (2, .int x2), (3, .int x3)]) hx hb dX1_emptiest_4 hl (by decide) rfl (fun ls hl => ?_)
  refine lv_iconst (v := 0) hx hb dX1_emptiest_6 (by decide) ?_
  refine lv_istore (lv' := [(6, .int 0), (5, .int 0), (4, .int (-1)), (0, .ref (gad G 67)), (1, .ref (gad G k1)), (2, .int x2), (3, .int x3)]) hx hb dX1_emptiest_7 hl (by decide) rfl (fun ls hl => ?_)
  exact w_X1_emptiest_9 F hr hlk fu k1 x2 x3 (-1) 0 0 hk1 _ _ _ _ S (lv_sub hl [3, 4, 5, 6, 2, 1, 0] rfl) hz
noncomputable def f_X1_weighSeen_118 (k_13 : Nat → Int32 → Int32 → Int32 → GW → Option (Unit × GW)) (k1 : Nat) (x2 : Int32) (x3 : Int32) (x4 : Int32) (w : GW) : Option (Unit × GW) :=
  k_13 k1 x2 x3 (x4 + 1) w
noncomputable def f_X1_weighSeen_88 (k_13 : Nat → Int32 → Int32 → Int32 → GW → Option (Unit × GW)) (k1 : Nat) (x2 : Int32) (x3 : Int32) (x4 : Int32) (x6 : Int32) (t0 : Int32) (w : GW) : Option (Unit × GW) :=
  if x6 < 0 then
    f_X1_weighSeen_118 k_13 k1 x2 x3 x4 w
  else
    if inb ((x6 * 6) + t0) 30 then
    if inb x4 32 then
    if inb ((x6 * 6) + t0) 30 then
    f_X1_weighSeen_118 k_13 k1 x2 x3 x4 (sL w 71 (ix ((x6 * 6) + t0)) ((gL w 71 (ix ((x6 * 6) + t0))) + (gL w 69 (ix x4))))
    else none
    else none
    else none
noncomputable def f_X1_weighSeen_13  : Nat → Nat → Int32 → Int32 → Int32 → GW → Option (Unit × GW)
  | 0, _, _, _, _, _ => none
  | n9 + 1, k1, x2, x3, x4, w =>
    if x3 ≤ x4 then
      some ((), w)
    else
      if inb x4 32 then
      if (gL w 69 (ix x4)) ≤ 0 then
        f_X1_weighSeen_118 (f_X1_weighSeen_13 n9) k1 x2 x3 x4 w
      else
        (f_X1_lookedAt x4 x2 w).bind fun q4 =>
        (f_X1_emptiest k1 q4.1 (-1) q4.2).bind fun q6 =>
        (f_X3_roomFrom (fxH (gR q6.2 4)) k1 q6.1 q6.2).bind fun q8 =>
        if (gI q8.2 (fxP (gR q8.2 5)) 1) = 4 then
          (f_X1_emptiest k1 q4.1 q8.1 q8.2).bind fun q15 =>
          f_X1_weighSeen_88 (f_X1_weighSeen_13 n9) k1 x2 x3 x4 q6.1 (q15.1 + 1) q15.2
        else
          f_X1_weighSeen_88 (f_X1_weighSeen_13 n9) k1 x2 x3 x4 q6.1 0 q8.2
      else none
noncomputable def f_X1_weighSeen (k1 : Nat) (x2 : Int32) (w : GW) : Option (Unit × GW) :=
  f_X1_weighSeen_13 fu k1 x2 ((1 : Int32) <<< ((gI w (fxH (gR w 4)) 1) &&& 31)) 1 w
set_option maxHeartbeats 4000000 in
set_option maxRecDepth 100000 in
theorem w_X1_weighSeen_118 {p : Program} {l : Launch} {e : Env} {s : State} {m : MethodId} {args : Array Value} {below : List Frame} {meth : Method} {c : Code} {G : GG} (F : CallFix p m c cX1_weighSeen 9 s args (wsU yX1_weighSeen cX1_weighSeen 9 none) RX1) (hr : meth.sig.returnType = none) (hlk : meth.locks = false) {z : Unit × GW} {k_13 : Nat → Int32 → Int32 → Int32 → GW → Option (Unit × GW)} (Hk_13 : (∀ (k1 : Nat) (x2 : Int32) (x3 : Int32) (x4 : Int32) (hk1 : kd k1 = 10) (w : GW) (H : Heap) (locs : List Loc) (ls : Array Slot), St G w s H locs → lv_has ls 9 [(0, .ref (gad G 67)), (1, .ref (gad G k1)), (2, .int x2), (3, .int x3), (4, .int x4)] → k_13 k1 x2 x3 x4 w = some z → W p l e (headSpec (wsU yX1_weighSeen cX1_weighSeen 9 none) rm_X1_weighSeen).room s m args below meth c H locs 0 0 (MQ below (QV G z) args s 0 0 (gA G)) (F0 m 13 ls []))) : (∀ (k1 : Nat) (x2 : Int32) (x3 : Int32) (x4 : Int32) (hk1 : kd k1 = 10) (w : GW) (H : Heap) (locs : List Loc) (ls : Array Slot), St G w s H locs → lv_has ls 9 [(0, .ref (gad G 67)), (1, .ref (gad G k1)), (2, .int x2), (3, .int x3), (4, .int x4)] → f_X1_weighSeen_118 k_13 k1 x2 x3 x4 w = some z → W p l e (headSpec (wsU yX1_weighSeen cX1_weighSeen 9 none) rm_X1_weighSeen).room s m args below meth c H locs 0 0 (MQ below (QV G z) args s 0 0 (gA G)) (F0 m 118 ls [])) := by
  obtain ⟨hx, hb, hml, hown, hts⟩ := id F
  have hg : ∀ q ∈ lwg, q.before args s = true := fun q h => hts q (List.mem_cons_of_mem _ h)
  intro k1 x2 x3 x4 hk1 w H locs ls S hl hz
  rw [f_X1_weighSeen_118] at hz
  refine lv_iinc (v := (x4 + 1)) (lv' := [(4, .int (x4 + 1)), (0, .ref (gad G 67)), (1, .ref (gad G k1)), (2, .int x2), (3, .int x3)]) hx hb dX1_weighSeen_118 hl (k := 4) rfl rfl (by decide) rfl (fun ls hl => ?_)
  refine lv_goto (tgt := 13) hx hb dX1_weighSeen_121 (by decide) ?_
  exact Hk_13 k1 x2 x3 (x4 + 1) hk1 _ _ _ _ S (lv_sub hl [1, 2, 3, 4, 0] rfl) hz
set_option maxHeartbeats 4000000 in
set_option maxRecDepth 100000 in
theorem w_X1_weighSeen_88 {p : Program} {l : Launch} {e : Env} {s : State} {m : MethodId} {args : Array Value} {below : List Frame} {meth : Method} {c : Code} {G : GG} (F : CallFix p m c cX1_weighSeen 9 s args (wsU yX1_weighSeen cX1_weighSeen 9 none) RX1) (hr : meth.sig.returnType = none) (hlk : meth.locks = false) {z : Unit × GW} {k_13 : Nat → Int32 → Int32 → Int32 → GW → Option (Unit × GW)} (Hk_13 : (∀ (k1 : Nat) (x2 : Int32) (x3 : Int32) (x4 : Int32) (hk1 : kd k1 = 10) (w : GW) (H : Heap) (locs : List Loc) (ls : Array Slot), St G w s H locs → lv_has ls 9 [(0, .ref (gad G 67)), (1, .ref (gad G k1)), (2, .int x2), (3, .int x3), (4, .int x4)] → k_13 k1 x2 x3 x4 w = some z → W p l e (headSpec (wsU yX1_weighSeen cX1_weighSeen 9 none) rm_X1_weighSeen).room s m args below meth c H locs 0 0 (MQ below (QV G z) args s 0 0 (gA G)) (F0 m 13 ls []))) : (∀ (k1 : Nat) (x2 : Int32) (x3 : Int32) (x4 : Int32) (x6 : Int32) (t0 : Int32) (hk1 : kd k1 = 10) (w : GW) (H : Heap) (locs : List Loc) (ls : Array Slot), St G w s H locs → lv_has ls 9 [(0, .ref (gad G 67)), (1, .ref (gad G k1)), (2, .int x2), (3, .int x3), (4, .int x4), (6, .int x6)] → f_X1_weighSeen_88 k_13 k1 x2 x3 x4 x6 t0 w = some z → W p l e (headSpec (wsU yX1_weighSeen cX1_weighSeen 9 none) rm_X1_weighSeen).room s m args below meth c H locs 0 0 (MQ below (QV G z) args s 0 0 (gA G)) (F0 m 88 ls [.int t0])) := by
  obtain ⟨hx, hb, hml, hown, hts⟩ := id F
  have hg : ∀ q ∈ lwg, q.before args s = true := fun q h => hts q (List.mem_cons_of_mem _ h)
  intro k1 x2 x3 x4 x6 t0 hk1 w H locs ls S hl hz
  rw [f_X1_weighSeen_88] at hz
  refine lv_istore (lv' := [(8, .int t0), (0, .ref (gad G 67)), (1, .ref (gad G k1)), (2, .int x2), (3, .int x3), (4, .int x4), (6, .int x6)]) hx hb dX1_weighSeen_88 hl (by decide) rfl (fun ls hl => ?_)
  refine lv_iload hx hb dX1_weighSeen_90 (lv_at hl 6 rfl) ?_
  refine lv_if_lt (tgt := 118) hx hb dX1_weighSeen_92 (by decide) (fun c11 => ?_) (fun c11 => ?_)
  · have hz := ipt (c11) hz
    exact w_X1_weighSeen_118 F hr hlk Hk_13 k1 x2 x3 x4 hk1 _ _ _ _ S (lv_sub hl [1, 2, 3, 4, 5] rfl) hz
  · have hz := ipf (c11) hz
    refine lv_aload_n hx hb dX1_weighSeen_95 rfl (lv_at hl 1 rfl) ?_
    refine fg_X1_2 hx hb (fun q h => hg q (tl_X1 q h)) hown (hg _ t_fl_X1_30) S (by decide) dX1_weighSeen_96 ?_
    refine lv_iload hx hb dX1_weighSeen_99 (lv_at hl 6 rfl) ?_
    refine lv_bipush (v := 6) hx hb dX1_weighSeen_101 (by decide) ?_
    refine lv_imul hx hb dX1_weighSeen_103 ?_
    refine lv_iload hx hb dX1_weighSeen_104 (lv_at hl 0 rfl) ?_
    refine lv_iadd hx hb dX1_weighSeen_106 ?_
    refine lv_dup2_11 hx hb dX1_weighSeen_107 rfl rfl ?_
    obtain ⟨h12, hz⟩ := ck hz
    refine g_lald hx hb S (isA_23 (by decide)) h12 dX1_weighSeen_108 ?_
    refine lv_aload_n hx hb dX1_weighSeen_109 rfl (lv_at hl 1 rfl) ?_
    refine fg_X1_0 hx hb (fun q h => hg q (tl_X1 q h)) hown (hg _ t_fl_X1_22) S (by decide) dX1_weighSeen_110 ?_
    refine lv_iload hx hb dX1_weighSeen_113 (lv_at hl 5 rfl) ?_
    obtain ⟨h13, hz⟩ := ck hz
    refine g_lald hx hb S (isA_22 (by decide)) h13 dX1_weighSeen_115 ?_
    refine lv_ladd hx hb dX1_weighSeen_116 ?_
    obtain ⟨h14, hz⟩ := ck hz
    refine g_last (x := ((gL w 71 (ix ((x6 * 6) + t0))) + (gL w 69 (ix x4)))) hx hb S (isA_23 (by decide)) h14 dX1_weighSeen_117 (fun H locs S => ?_)
    exact w_X1_weighSeen_118 F hr hlk Hk_13 k1 x2 x3 x4 hk1 _ _ _ _ S (lv_sub hl [1, 2, 3, 4, 5] rfl) hz
set_option maxHeartbeats 4000000 in
set_option maxRecDepth 100000 in
theorem w_X1_weighSeen_13 {p : Program} {l : Launch} {e : Env} {s : State} {m : MethodId} {args : Array Value} {below : List Frame} {meth : Method} {c : Code} {G : GG} (F : CallFix p m c cX1_weighSeen 9 s args (wsU yX1_weighSeen cX1_weighSeen 9 none) RX1) (hr : meth.sig.returnType = none) (hlk : meth.locks = false) {z : Unit × GW} : ∀ (n9 : Nat), (∀ (k1 : Nat) (x2 : Int32) (x3 : Int32) (x4 : Int32) (hk1 : kd k1 = 10) (w : GW) (H : Heap) (locs : List Loc) (ls : Array Slot), St G w s H locs → lv_has ls 9 [(0, .ref (gad G 67)), (1, .ref (gad G k1)), (2, .int x2), (3, .int x3), (4, .int x4)] → f_X1_weighSeen_13 n9 k1 x2 x3 x4 w = some z → W p l e (headSpec (wsU yX1_weighSeen cX1_weighSeen 9 none) rm_X1_weighSeen).room s m args below meth c H locs 0 0 (MQ below (QV G z) args s 0 0 (gA G)) (F0 m 13 ls [])) := by
  obtain ⟨hx, hb, hml, hown, hts⟩ := id F
  have hg : ∀ q ∈ lwg, q.before args s = true := fun q h => hts q (List.mem_cons_of_mem _ h)
  intro n9
  induction n9 with
  | zero =>
    intro k1 x2 x3 x4 hk1 w H locs ls S hl hz
    rw [f_X1_weighSeen_13] at hz
    cases hz
  | succ n9 ih =>
    intro k1 x2 x3 x4 hk1 w H locs ls S hl hz
    rw [f_X1_weighSeen_13] at hz
    refine lv_iload hx hb dX1_weighSeen_13 (lv_at hl 4 rfl) ?_
    refine lv_iload_n hx hb dX1_weighSeen_15 rfl (lv_at hl 3 rfl) ?_
    refine lv_icmp_ge (tgt := 124) hx hb dX1_weighSeen_16 (by decide) (fun c1 => ?_) (fun c1 => ?_)
    · have hz := ipt (c1) hz
      exact g_retv hx hb hr hlk S hz dX1_weighSeen_124
    · have hz := ipf (c1) hz
      refine lv_aload_n hx hb dX1_weighSeen_19 rfl (lv_at hl 0 rfl) ?_
      refine fg_X1_0 hx hb (fun q h => hg q (tl_X1 q h)) hown (hg _ t_fl_X1_22) S (by decide) dX1_weighSeen_20 ?_
      refine lv_iload hx hb dX1_weighSeen_23 (lv_at hl 4 rfl) ?_
      obtain ⟨h2, hz⟩ := ck hz
      refine g_lald hx hb S (isA_22 (by decide)) h2 dX1_weighSeen_25 ?_
      refine lv_lconst (v := 0) hx hb dX1_weighSeen_26 (by decide) ?_
      refine W.lcmp hx hb dX1_weighSeen_27 ?_
      refine lv_if_le (tgt := 118) hx hb dX1_weighSeen_28 (by decide) (fun c3 => ?_) (fun c3 => ?_)
      · have hz := ipt ((lg_cmp_le _ _).mp c3) hz
        exact w_X1_weighSeen_118 F hr hlk ih k1 x2 x3 x4 hk1 _ _ _ _ S (lv_sub hl [0, 1, 2, 3, 4] rfl) hz
      · have hz := ipf (fun q9 => c3 ((lg_cmp_le _ _).mpr q9)) hz
        refine lv_aload_n hx hb dX1_weighSeen_31 rfl (lv_at hl 0 rfl) ?_
        refine lv_iload hx hb dX1_weighSeen_32 (lv_at hl 4 rfl) ?_
        refine lv_iload_n hx hb dX1_weighSeen_34 rfl (lv_at hl 2 rfl) ?_
        obtain ⟨q4, e5, hz⟩ := bd hz
        refine g_callVi (As := [.int x4, .int x2]) (rest := []) F S (c_X1_lookedAt l G x4 x2  _ e5) (cw_X1_weighSeen_X1_lookedAt_80 hg) (S.obj (by decide) (by decide) rfl (oc_X1 _ _ _ (by decide))) rfl hl.1 rfl (Nat.le_of_ble_eq_true rfl) ⟨Nat.zero_le _, Nat.zero_le _⟩ dX1_weighSeen_35 (fun H locs  S => ?_)
        refine lv_istore (lv' := [(5, .int q4.1), (0, .ref (gad G 67)), (1, .ref (gad G k1)), (2, .int x2), (3, .int x3), (4, .int x4)]) hx hb dX1_weighSeen_38 hl (by decide) rfl (fun ls hl => ?_)
        refine lv_aload_n hx hb dX1_weighSeen_40 rfl (lv_at hl 1 rfl) ?_
        refine lv_aload_n hx hb dX1_weighSeen_41 rfl (lv_at hl 2 rfl) ?_
        refine lv_iload hx hb dX1_weighSeen_42 (lv_at hl 0 rfl) ?_
        refine lv_iconst (v := (-1)) hx hb dX1_weighSeen_44 (by decide) ?_
        obtain ⟨q6, e7, hz⟩ := bd hz
        refine g_callVi (As := [.ref (gad G k1), .int q4.1, .int (-1)]) (rest := []) F S (c_X1_emptiest l G k1 q4.1 (-1) hk1 _ e7) (cw_X1_weighSeen_X1_emptiest_84 hg) (S.obj (by decide) (by decide) rfl (oc_X1 _ _ _ (by decide))) rfl hl.1 rfl (Nat.le_of_ble_eq_true rfl) ⟨Nat.zero_le _, Nat.zero_le _⟩ dX1_weighSeen_45 (fun H locs  S => ?_)
        refine lv_istore (lv' := [(6, .int q6.1), (5, .int q4.1), (0, .ref (gad G 67)), (1, .ref (gad G k1)), (2, .int x2), (3, .int x3), (4, .int x4)]) hx hb dX1_weighSeen_48 hl (by decide) rfl (fun ls hl => ?_)
        refine lv_aload_n hx hb dX1_weighSeen_50 rfl (lv_at hl 2 rfl) ?_
        refine fg_X1_3 hx hb (fun q h => hg q (tl_X1 q h)) hown (hg _ t_fl_X1_9) S (by decide) dX1_weighSeen_51 ?_
        refine lv_aload_n hx hb dX1_weighSeen_54 rfl (lv_at hl 3 rfl) ?_
        refine lv_iload hx hb dX1_weighSeen_55 (lv_at hl 0 rfl) ?_
        obtain ⟨q8, e9, hz⟩ := bd hz
        refine g_callVi (As := [.ref (gad G k1), .int q6.1]) (rest := []) F S (c_X3_roomFrom l G (fxH (gR q6.2 4)) k1 q6.1 (kd_H _) hk1 _ e9) (cw_X1_weighSeen_X3_roomFrom_88 hg) (S.obj (kd_H _) (by decide) rfl (oc_X3 _ _ _ (kd_H _))) rfl hl.1 rfl (Nat.le_of_ble_eq_true rfl) ⟨Nat.zero_le _, Nat.zero_le _⟩ dX1_weighSeen_57 (fun H locs  S => ?_)
        refine lv_istore (lv' := [(7, .int q8.1), (6, .int q6.1), (5, .int q4.1), (0, .ref (gad G 67)), (1, .ref (gad G k1)), (2, .int x2), (3, .int x3), (4, .int x4)]) hx hb dX1_weighSeen_60 hl (by decide) rfl (fun ls hl => ?_)
        refine lv_aload_n hx hb dX1_weighSeen_62 rfl (lv_at hl 3 rfl) ?_
        refine fg_X1_4 hx hb (fun q h => hg q (tl_X1 q h)) hown (hg _ t_fl_X1_18) S (by decide) dX1_weighSeen_63 ?_
        refine fg_X4_1 hx hb (fun q h => hg q (tl_X4 q h)) hown (hg _ t_fl_X1_56) S (kd_P _) dX1_weighSeen_66 ?_
        refine lv_iconst (v := 4) hx hb dX1_weighSeen_69 (by decide) ?_
        refine lv_icmp_ne (tgt := 87) hx hb dX1_weighSeen_70 (by decide) (fun c10 => ?_) (fun c10 => ?_)
        · have hz := ipf (c10) hz
          refine lv_iconst (v := 0) hx hb dX1_weighSeen_87 (by decide) ?_
          exact w_X1_weighSeen_88 F hr hlk ih k1 x2 x3 x4 q6.1 0 hk1 _ _ _ _ S (lv_sub hl [3, 4, 5, 6, 7, 1] rfl) hz
        · have hz := ipt (c10) hz
          refine lv_aload_n hx hb dX1_weighSeen_73 rfl (lv_at hl 3 rfl) ?_
          refine lv_aload_n hx hb dX1_weighSeen_74 rfl (lv_at hl 4 rfl) ?_
          refine lv_iload hx hb dX1_weighSeen_75 (lv_at hl 2 rfl) ?_
          refine lv_iload hx hb dX1_weighSeen_77 (lv_at hl 0 rfl) ?_
          obtain ⟨q15, e16, hz⟩ := bd hz
          refine g_callVi (As := [.ref (gad G k1), .int q4.1, .int q8.1]) (rest := []) F S (c_X1_emptiest l G k1 q4.1 q8.1 hk1 _ e16) (cw_X1_weighSeen_X1_emptiest_84 hg) (S.obj (by decide) (by decide) rfl (oc_X1 _ _ _ (by decide))) rfl hl.1 rfl (Nat.le_of_ble_eq_true rfl) ⟨Nat.zero_le _, Nat.zero_le _⟩ dX1_weighSeen_79 (fun H locs  S => ?_)
          refine lv_iconst (v := 1) hx hb dX1_weighSeen_82 (by decide) ?_
          refine lv_iadd hx hb dX1_weighSeen_83 ?_
          refine lv_goto (tgt := 88) hx hb dX1_weighSeen_84 (by decide) ?_
          exact w_X1_weighSeen_88 F hr hlk ih k1 x2 x3 x4 q6.1 (q15.1 + 1) hk1 _ _ _ _ S (lv_sub hl [3, 4, 5, 6, 7, 1] rfl) hz
set_option maxHeartbeats 4000000 in
set_option maxRecDepth 100000 in
theorem c_X1_weighSeen (l : Launch) (G : GG) (k1 : Nat) (x2 : Int32) (hk1 : kd k1 = 10) (w : GW) {z : Unit × GW} (hz : f_X1_weighSeen k1 x2 w = some z) : Met l yX1_weighSeen (wsU yX1_weighSeen cX1_weighSeen 9 none) rm_X1_weighSeen (va_Pc [.ref (gad G 67), .ref (gad G k1), .int x2] (PreG G w)) (QV G z) 0 0 (gA G) := by
  refine Met.ofW (cc := cX1_weighSeen) (maxL := 9) (ret := none) (by decide) rfl ?_
  intro p e s m args below meth c s₁ B hml hv
  obtain ⟨rfl, S⟩ := hv
  have F : CallFix p m c cX1_weighSeen 9 s _ (wsU yX1_weighSeen cX1_weighSeen 9 none) RX1 := ⟨B.exec, B.bytes, hml, findClass_of_methodNamed B.named, atoms_spec B.pre⟩
  have hr := B.returns
  have hlk := B.notSynchronized
  obtain ⟨hx, hb, -, hown, hts⟩ := id F
  have hg : ∀ q ∈ lwg, q.before _ s = true := fun q h => hts q (List.mem_cons_of_mem _ h)
  refine g_entry (Nat.le_of_ble_eq_true rfl) (fun ls hl => ?_)
  have hl : lv_has ls 9 [(0, .ref (gad G 67)), (1, .ref (gad G k1)), (2, .int x2)] := hl
  have S : St G w s s.heap [] := S
  generalize s.heap = H at S ⊢
  generalize ([] : List Loc) = locs at S ⊢
  rw [f_X1_weighSeen] at hz
  refine lv_iconst (v := 1) hx hb dX1_weighSeen_0 (by decide) ?_
  refine lv_aload_n hx hb dX1_weighSeen_1 rfl (lv_at hl 0 rfl) ?_
  refine fg_X1_3 hx hb (fun q h => hg q (tl_X1 q h)) hown (hg _ t_fl_X1_9) S (by decide) dX1_weighSeen_2 ?_
  refine fg_X3_1 hx hb (fun q h => hg q (tl_X3 q h)) hown (hg _ t_fl_X1_33) S (kd_H _) dX1_weighSeen_5 ?_
  refine lv_ishl hx hb dX1_weighSeen_8 ?_
  refine lv_istore_n (lv' := [(3, .int ((1 : Int32) <<< ((gI w (fxH (gR w 4)) 1) &&& 31))), (0, .ref (gad G 67)), (1, .ref (gad G k1)), (2, .int x2)]) hx hb dX1_weighSeen_9 rfl hl (by decide) rfl (fun ls hl => ?_)
  refine lv_iconst (v := 1) hx hb dX1_weighSeen_10 (by decide) ?_
  refine lv_istore (lv' := [(4, .int 1), (3, .int ((1 : Int32) <<< ((gI w (fxH (gR w 4)) 1) &&& 31))), (0, .ref (gad G 67)), (1, .ref (gad G k1)), (2, .int x2)]) hx hb dX1_weighSeen_11 hl (by decide) rfl (fun ls hl => ?_)
  exact w_X1_weighSeen_13 F hr hlk fu k1 x2 ((1 : Int32) <<< ((gI w (fxH (gR w 4)) 1) &&& 31)) 1 hk1 _ _ _ _ S (lv_sub hl [2, 3, 4, 1, 0] rfl) hz
noncomputable def f_X1_weigh_3  : Nat → Nat → Int32 → Int32 → Int32 → GW → Option (Unit × GW)
  | 0, _, _, _, _, _ => none
  | n9 + 1, k1, x2, x3, x4, w =>
    if 30 ≤ x4 then
      (f_X3_isDoors (fxH (gR w 4)) x3 w).bind fun q2 =>
      if q2.1 = 0 then
        if (gI q2.2 (fxP (gR q2.2 5)) 1) = 0 then
          (f_X1_weighLots k1 q2.2).bind fun q12 =>
          some ((), q12.2)
        else
          if (gI q2.2 (fxP (gR q2.2 5)) 1) = 2 then
            (f_X1_weighLazy k1 q2.2).bind fun q10 =>
            some ((), q10.2)
          else
            (f_X1_weighSeen k1 x2 q2.2).bind fun q8 =>
            some ((), q8.2)
      else
        if inb (((gI q2.2 (fxH (gR q2.2 4)) 5) * 6) + x2) 30 then
        some ((), (sL q2.2 71 (ix (((gI q2.2 (fxH (gR q2.2 4)) 5) * 6) + x2)) 1))
        else none
    else
      if inb x4 30 then
      f_X1_weigh_3 n9 k1 x2 x3 (x4 + 1) (sL w 71 (ix x4) 0)
      else none
noncomputable def f_X1_weigh (k1 : Nat) (x2 : Int32) (x3 : Int32) (w : GW) : Option (Unit × GW) :=
  f_X1_weigh_3 fu k1 x2 x3 0 w
set_option maxHeartbeats 4000000 in
set_option maxRecDepth 100000 in
theorem w_X1_weigh_3 {p : Program} {l : Launch} {e : Env} {s : State} {m : MethodId} {args : Array Value} {below : List Frame} {meth : Method} {c : Code} {G : GG} (F : CallFix p m c cX1_weigh 5 s args (wsU yX1_weigh cX1_weigh 5 none) RX1) (hr : meth.sig.returnType = none) (hlk : meth.locks = false) {z : Unit × GW} : ∀ (n9 : Nat), (∀ (k1 : Nat) (x2 : Int32) (x3 : Int32) (x4 : Int32) (hk1 : kd k1 = 10) (w : GW) (H : Heap) (locs : List Loc) (ls : Array Slot), St G w s H locs → lv_has ls 5 [(0, .ref (gad G 67)), (1, .ref (gad G k1)), (2, .int x2), (3, .int x3), (4, .int x4)] → f_X1_weigh_3 n9 k1 x2 x3 x4 w = some z → W p l e (headSpec (wsU yX1_weigh cX1_weigh 5 none) rm_X1_weigh).room s m args below meth c H locs 0 0 (MQ below (QV G z) args s 0 0 (gA G)) (F0 m 3 ls [])) := by
  obtain ⟨hx, hb, hml, hown, hts⟩ := id F
  have hg : ∀ q ∈ lwg, q.before args s = true := fun q h => hts q (List.mem_cons_of_mem _ h)
  intro n9
  induction n9 with
  | zero =>
    intro k1 x2 x3 x4 hk1 w H locs ls S hl hz
    rw [f_X1_weigh_3] at hz
    cases hz
  | succ n9 ih =>
    intro k1 x2 x3 x4 hk1 w H locs ls S hl hz
    rw [f_X1_weigh_3] at hz
    refine lv_iload hx hb dX1_weigh_3 (lv_at hl 4 rfl) ?_
    refine lv_bipush (v := 30) hx hb dX1_weigh_5 (by decide) ?_
    refine lv_icmp_ge (tgt := 24) hx hb dX1_weigh_7 (by decide) (fun c1 => ?_) (fun c1 => ?_)
    · have hz := ipt (c1) hz
      refine lv_aload_n hx hb dX1_weigh_24 rfl (lv_at hl 0 rfl) ?_
      refine fg_X1_3 hx hb (fun q h => hg q (tl_X1 q h)) hown (hg _ t_fl_X1_9) S (by decide) dX1_weigh_25 ?_
      refine lv_iload_n hx hb dX1_weigh_28 rfl (lv_at hl 3 rfl) ?_
      obtain ⟨q2, e3, hz⟩ := bd hz
      refine g_callVb (As := [.int x3]) (rest := []) F S (c_X3_isDoors l G (fxH (gR w 4)) x3 (kd_H _) _ e3) (cw_X1_weigh_X3_isDoors_49 hg) (S.obj (kd_H _) (by decide) rfl (oc_X3 _ _ _ (kd_H _))) rfl hl.1 rfl (Nat.le_of_ble_eq_true rfl) ⟨Nat.zero_le _, Nat.zero_le _⟩ dX1_weigh_29 (fun H locs hB4 S => ?_)
      refine lv_if_eq (tgt := 56) hx hb dX1_weigh_32 (by decide) (fun c5 => ?_) (fun c5 => ?_)
      · have hz := ipt (c5) hz
        refine lv_aload_n hx hb dX1_weigh_56 rfl (lv_at hl 0 rfl) ?_
        refine fg_X1_4 hx hb (fun q h => hg q (tl_X1 q h)) hown (hg _ t_fl_X1_18) S (by decide) dX1_weigh_57 ?_
        refine fg_X4_1 hx hb (fun q h => hg q (tl_X4 q h)) hown (hg _ t_fl_X1_56) S (kd_P _) dX1_weigh_60 ?_
        refine lv_if_ne (tgt := 74) hx hb dX1_weigh_63 (by decide) (fun c6 => ?_) (fun c6 => ?_)
        · have hz := ipf (c6) hz
          refine lv_aload_n hx hb dX1_weigh_74 rfl (lv_at hl 0 rfl) ?_
          refine fg_X1_4 hx hb (fun q h => hg q (tl_X1 q h)) hown (hg _ t_fl_X1_18) S (by decide) dX1_weigh_75 ?_
          refine fg_X4_1 hx hb (fun q h => hg q (tl_X4 q h)) hown (hg _ t_fl_X1_56) S (kd_P _) dX1_weigh_78 ?_
          refine lv_iconst (v := 2) hx hb dX1_weigh_81 (by decide) ?_
          refine lv_icmp_ne (tgt := 93) hx hb dX1_weigh_82 (by decide) (fun c7 => ?_) (fun c7 => ?_)
          · have hz := ipf (c7) hz
            refine lv_aload_n hx hb dX1_weigh_93 rfl (lv_at hl 0 rfl) ?_
            refine lv_aload_n hx hb dX1_weigh_94 rfl (lv_at hl 1 rfl) ?_
            refine lv_iload_n hx hb dX1_weigh_95 rfl (lv_at hl 2 rfl) ?_
            obtain ⟨q8, e9, hz⟩ := bd hz
            refine g_callVv (As := [.ref (gad G k1), .int x2]) (rest := []) F S (c_X1_weighSeen l G k1 x2 hk1 _ e9) (cw_X1_weigh_X1_weighSeen_66 hg) (S.obj (by decide) (by decide) rfl (oc_X1 _ _ _ (by decide))) rfl hl.1 rfl (Nat.le_of_ble_eq_true rfl) ⟨Nat.zero_le _, Nat.zero_le _⟩ dX1_weigh_96 (fun H locs  S => ?_)
            exact g_retv hx hb hr hlk S hz dX1_weigh_99
          · have hz := ipt (c7) hz
            refine lv_aload_n hx hb dX1_weigh_85 rfl (lv_at hl 0 rfl) ?_
            refine lv_aload_n hx hb dX1_weigh_86 rfl (lv_at hl 1 rfl) ?_
            obtain ⟨q10, e11, hz⟩ := bd hz
            refine g_callVv (As := [.ref (gad G k1)]) (rest := []) F S (c_X1_weighLazy l G k1 hk1 _ e11) (cw_X1_weigh_X1_weighLazy_63 hg) (S.obj (by decide) (by decide) rfl (oc_X1 _ _ _ (by decide))) rfl hl.1 rfl (Nat.le_of_ble_eq_true rfl) ⟨Nat.zero_le _, Nat.zero_le _⟩ dX1_weigh_87 (fun H locs  S => ?_)
            refine lv_goto (tgt := 99) hx hb dX1_weigh_90 (by decide) ?_
            exact g_retv hx hb hr hlk S hz dX1_weigh_99
        · have hz := ipt (c6) hz
          refine lv_aload_n hx hb dX1_weigh_66 rfl (lv_at hl 0 rfl) ?_
          refine lv_aload_n hx hb dX1_weigh_67 rfl (lv_at hl 1 rfl) ?_
          obtain ⟨q12, e13, hz⟩ := bd hz
          refine g_callVv (As := [.ref (gad G k1)]) (rest := []) F S (c_X1_weighLots l G k1 hk1 _ e13) (cw_X1_weigh_X1_weighLots_59 hg) (S.obj (by decide) (by decide) rfl (oc_X1 _ _ _ (by decide))) rfl hl.1 rfl (Nat.le_of_ble_eq_true rfl) ⟨Nat.zero_le _, Nat.zero_le _⟩ dX1_weigh_68 (fun H locs  S => ?_)
          refine lv_goto (tgt := 99) hx hb dX1_weigh_71 (by decide) ?_
          exact g_retv hx hb hr hlk S hz dX1_weigh_99
      · have hz := ipf (c5) hz
        refine lv_aload_n hx hb dX1_weigh_35 rfl (lv_at hl 0 rfl) ?_
        refine fg_X1_2 hx hb (fun q h => hg q (tl_X1 q h)) hown (hg _ t_fl_X1_30) S (by decide) dX1_weigh_36 ?_
        refine lv_aload_n hx hb dX1_weigh_39 rfl (lv_at hl 0 rfl) ?_
        refine fg_X1_3 hx hb (fun q h => hg q (tl_X1 q h)) hown (hg _ t_fl_X1_9) S (by decide) dX1_weigh_40 ?_
        refine fg_X3_5 hx hb (fun q h => hg q (tl_X3 q h)) hown (hg _ t_fl_X1_53) S (kd_H _) dX1_weigh_43 ?_
        refine lv_bipush (v := 6) hx hb dX1_weigh_46 (by decide) ?_
        refine lv_imul hx hb dX1_weigh_48 ?_
        refine lv_iload_n hx hb dX1_weigh_49 rfl (lv_at hl 2 rfl) ?_
        refine lv_iadd hx hb dX1_weigh_50 ?_
        refine lv_lconst (v := 1) hx hb dX1_weigh_51 (by decide) ?_
        obtain ⟨h14, hz⟩ := ck hz
        refine g_last (x := 1) hx hb S (isA_23 (by decide)) h14 dX1_weigh_52 (fun H locs S => ?_)
        refine lv_goto (tgt := 99) hx hb dX1_weigh_53 (by decide) ?_
        exact g_retv hx hb hr hlk S hz dX1_weigh_99
    · have hz := ipf (c1) hz
      refine lv_aload_n hx hb dX1_weigh_10 rfl (lv_at hl 0 rfl) ?_
      refine fg_X1_2 hx hb (fun q h => hg q (tl_X1 q h)) hown (hg _ t_fl_X1_30) S (by decide) dX1_weigh_11 ?_
      refine lv_iload hx hb dX1_weigh_14 (lv_at hl 4 rfl) ?_
      refine lv_lconst (v := 0) hx hb dX1_weigh_16 (by decide) ?_
      obtain ⟨h15, hz⟩ := ck hz
      refine g_last (x := 0) hx hb S (isA_23 (by decide)) h15 dX1_weigh_17 (fun H locs S => ?_)
      refine lv_iinc (v := (x4 + 1)) (lv' := [(4, .int (x4 + 1)), (0, .ref (gad G 67)), (1, .ref (gad G k1)), (2, .int x2), (3, .int x3)]) hx hb dX1_weigh_18 hl (k := 4) rfl rfl (by decide) rfl (fun ls hl => ?_)
      refine lv_goto (tgt := 3) hx hb dX1_weigh_21 (by decide) ?_
      exact ih k1 x2 x3 (x4 + 1) hk1 _ _ _ _ S (lv_sub hl [1, 2, 3, 4, 0] rfl) hz
set_option maxHeartbeats 4000000 in
set_option maxRecDepth 100000 in
theorem c_X1_weigh (l : Launch) (G : GG) (k1 : Nat) (x2 : Int32) (x3 : Int32) (hk1 : kd k1 = 10) (w : GW) {z : Unit × GW} (hz : f_X1_weigh k1 x2 x3 w = some z) : Met l yX1_weigh (wsU yX1_weigh cX1_weigh 5 none) rm_X1_weigh (va_Pc [.ref (gad G 67), .ref (gad G k1), .int x2, .int x3] (PreG G w)) (QV G z) 0 0 (gA G) := by
  refine Met.ofW (cc := cX1_weigh) (maxL := 5) (ret := none) (by decide) rfl ?_
  intro p e s m args below meth c s₁ B hml hv
  obtain ⟨rfl, S⟩ := hv
  have F : CallFix p m c cX1_weigh 5 s _ (wsU yX1_weigh cX1_weigh 5 none) RX1 := ⟨B.exec, B.bytes, hml, findClass_of_methodNamed B.named, atoms_spec B.pre⟩
  have hr := B.returns
  have hlk := B.notSynchronized
  obtain ⟨hx, hb, -, hown, hts⟩ := id F
  have hg : ∀ q ∈ lwg, q.before _ s = true := fun q h => hts q (List.mem_cons_of_mem _ h)
  refine g_entry (Nat.le_of_ble_eq_true rfl) (fun ls hl => ?_)
  have hl : lv_has ls 5 [(0, .ref (gad G 67)), (1, .ref (gad G k1)), (2, .int x2), (3, .int x3)] := hl
  have S : St G w s s.heap [] := S
  generalize s.heap = H at S ⊢
  generalize ([] : List Loc) = locs at S ⊢
  rw [f_X1_weigh] at hz
  refine lv_iconst (v := 0) hx hb dX1_weigh_0 (by decide) ?_
  refine lv_istore (lv' := [(4, .int 0), (0, .ref (gad G 67)), (1, .ref (gad G k1)), (2, .int x2), (3, .int x3)]) hx hb dX1_weigh_1 hl (by decide) rfl (fun ls hl => ?_)
  exact w_X1_weigh_3 F hr hlk fu k1 x2 x3 0 hk1 _ _ _ _ S (lv_sub hl [1, 2, 3, 4, 0] rfl) hz
noncomputable def f_X0_passOn_86 (k_13 : Int32 → Int64 → Int32 → Int32 → GW → Option (Unit × GW)) (x1 : Int32) (x2 : Int64) (x4 : Int32) (x5 : Int32) (w : GW) : Option (Unit × GW) :=
  k_13 x1 x2 x4 (x5 + 1) w
noncomputable def f_X0_passOn_85 (k_13 : Int32 → Int64 → Int32 → Int32 → GW → Option (Unit × GW)) (x1 : Int32) (x2 : Int64) (x4 : Int32) (x5 : Int32) (t0 : Int64) (t1 : Int32) (w : GW) : Option (Unit × GW) :=
  if inb t1 7722 then
  f_X0_passOn_86 k_13 x1 x2 x4 x5 (sL w 111 (ix t1) t0)
  else none
noncomputable def f_X0_passOn_13  : Nat → Int32 → Int64 → Int32 → Int32 → GW → Option (Unit × GW)
  | 0, _, _, _, _, _ => none
  | n9 + 1, x1, x2, x4, x5, w =>
    if 6 ≤ x5 then
      some ((), w)
    else
      if inb ((x1 * 6) + x5) 30 then
      if (gL w 71 (ix ((x1 * 6) + x5))) ≤ 0 then
        f_X0_passOn_86 (f_X0_passOn_13 n9) x1 x2 x4 x5 w
      else
        if inb x1 5 then
        if x4 = 0 then
          if inb (((gI w 115 (ix x1)) * 6) + x5) 7722 then
          f_X0_passOn_85 (f_X0_passOn_13 n9) x1 x2 x4 x5 ((gL w 111 (ix (((gI w 115 (ix x1)) * 6) + x5))) + (x2 * (gL w 71 (ix ((x1 * 6) + x5))))) (((gI w 115 (ix x1)) * 6) + x5) w
          else none
        else
          f_X0_passOn_85 (f_X0_passOn_13 n9) x1 x2 x4 x5 1 (((gI w 115 (ix x1)) * 6) + x5) w
        else none
      else none
noncomputable def f_X0_passOn (x1 : Int32) (x2 : Int64) (x4 : Int32) (w : GW) : Option (Unit × GW) :=
  if inb x1 5 then
  if 0 ≤ (gI w 115 (ix x1)) then
    f_X0_passOn_13 fu x1 x2 x4 0 w
  else
    some ((), w)
  else none
set_option maxHeartbeats 4000000 in
set_option maxRecDepth 100000 in
theorem w_X0_passOn_86 {p : Program} {l : Launch} {e : Env} {s : State} {m : MethodId} {args : Array Value} {below : List Frame} {meth : Method} {c : Code} {G : GG} (F : CallFix p m c cX0_passOn 9 s args (wsU yX0_passOn cX0_passOn 9 none) RX0) (hr : meth.sig.returnType = none) (hlk : meth.locks = false) {z : Unit × GW} {k_13 : Int32 → Int64 → Int32 → Int32 → GW → Option (Unit × GW)} (Hk_13 : (∀ (x1 : Int32) (x2 : Int64) (x4 : Int32) (x5 : Int32) (w : GW) (H : Heap) (locs : List Loc) (ls : Array Slot), St G w s H locs → lv_has ls 9 [(0, .ref (gad G 72)), (1, .int x1), (2, .long x2), (4, .int x4), (5, .int x5)] → k_13 x1 x2 x4 x5 w = some z → W p l e (headSpec (wsU yX0_passOn cX0_passOn 9 none) rm_X0_passOn).room s m args below meth c H locs 0 0 (MQ below (QV G z) args s 0 0 (gA G)) (F0 m 13 ls []))) : (∀ (x1 : Int32) (x2 : Int64) (x4 : Int32) (x5 : Int32) (w : GW) (H : Heap) (locs : List Loc) (ls : Array Slot), St G w s H locs → lv_has ls 9 [(0, .ref (gad G 72)), (1, .int x1), (2, .long x2), (4, .int x4), (5, .int x5)] → f_X0_passOn_86 k_13 x1 x2 x4 x5 w = some z → W p l e (headSpec (wsU yX0_passOn cX0_passOn 9 none) rm_X0_passOn).room s m args below meth c H locs 0 0 (MQ below (QV G z) args s 0 0 (gA G)) (F0 m 86 ls [])) := by
  obtain ⟨hx, hb, hml, hown, hts⟩ := id F
  have hg : ∀ q ∈ lwg, q.before args s = true := fun q h => hts q (List.mem_cons_of_mem _ h)
  intro x1 x2 x4 x5 w H locs ls S hl hz
  rw [f_X0_passOn_86] at hz
  refine lv_iinc (v := (x5 + 1)) (lv' := [(5, .int (x5 + 1)), (0, .ref (gad G 72)), (1, .int x1), (2, .long x2), (4, .int x4)]) hx hb dX0_passOn_86 hl (k := 4) rfl rfl (by decide) rfl (fun ls hl => ?_)
  refine lv_goto (tgt := 13) hx hb dX0_passOn_89 (by decide) ?_
  exact Hk_13 x1 x2 x4 (x5 + 1)  _ _ _ _ S (lv_sub hl [1, 2, 3, 4, 0] rfl) hz
set_option maxHeartbeats 4000000 in
set_option maxRecDepth 100000 in
theorem w_X0_passOn_85 {p : Program} {l : Launch} {e : Env} {s : State} {m : MethodId} {args : Array Value} {below : List Frame} {meth : Method} {c : Code} {G : GG} (F : CallFix p m c cX0_passOn 9 s args (wsU yX0_passOn cX0_passOn 9 none) RX0) (hr : meth.sig.returnType = none) (hlk : meth.locks = false) {z : Unit × GW} {k_13 : Int32 → Int64 → Int32 → Int32 → GW → Option (Unit × GW)} (Hk_13 : (∀ (x1 : Int32) (x2 : Int64) (x4 : Int32) (x5 : Int32) (w : GW) (H : Heap) (locs : List Loc) (ls : Array Slot), St G w s H locs → lv_has ls 9 [(0, .ref (gad G 72)), (1, .int x1), (2, .long x2), (4, .int x4), (5, .int x5)] → k_13 x1 x2 x4 x5 w = some z → W p l e (headSpec (wsU yX0_passOn cX0_passOn 9 none) rm_X0_passOn).room s m args below meth c H locs 0 0 (MQ below (QV G z) args s 0 0 (gA G)) (F0 m 13 ls []))) : (∀ (x1 : Int32) (x2 : Int64) (x4 : Int32) (x5 : Int32) (t0 : Int64) (t1 : Int32) (w : GW) (H : Heap) (locs : List Loc) (ls : Array Slot), St G w s H locs → lv_has ls 9 [(0, .ref (gad G 72)), (1, .int x1), (2, .long x2), (4, .int x4), (5, .int x5)] → f_X0_passOn_85 k_13 x1 x2 x4 x5 t0 t1 w = some z → W p l e (headSpec (wsU yX0_passOn cX0_passOn 9 none) rm_X0_passOn).room s m args below meth c H locs 0 0 (MQ below (QV G z) args s 0 0 (gA G)) (F0 m 85 ls [.long t0, .int t1, .ref (gad G 111)])) := by
  obtain ⟨hx, hb, hml, hown, hts⟩ := id F
  have hg : ∀ q ∈ lwg, q.before args s = true := fun q h => hts q (List.mem_cons_of_mem _ h)
  intro x1 x2 x4 x5 t0 t1 w H locs ls S hl hz
  rw [f_X0_passOn_85] at hz
  obtain ⟨h9, hz⟩ := ck hz
  refine g_last (x := t0) hx hb S (isA_24 (by decide)) h9 dX0_passOn_85 (fun H locs S => ?_)
  exact w_X0_passOn_86 F hr hlk Hk_13 x1 x2 x4 x5 _ _ _ _ S (lv_sub hl [0, 1, 2, 3, 4] rfl) hz
set_option maxHeartbeats 4000000 in
set_option maxRecDepth 100000 in
theorem w_X0_passOn_13 {p : Program} {l : Launch} {e : Env} {s : State} {m : MethodId} {args : Array Value} {below : List Frame} {meth : Method} {c : Code} {G : GG} (F : CallFix p m c cX0_passOn 9 s args (wsU yX0_passOn cX0_passOn 9 none) RX0) (hr : meth.sig.returnType = none) (hlk : meth.locks = false) {z : Unit × GW} : ∀ (n9 : Nat), (∀ (x1 : Int32) (x2 : Int64) (x4 : Int32) (x5 : Int32) (w : GW) (H : Heap) (locs : List Loc) (ls : Array Slot), St G w s H locs → lv_has ls 9 [(0, .ref (gad G 72)), (1, .int x1), (2, .long x2), (4, .int x4), (5, .int x5)] → f_X0_passOn_13 n9 x1 x2 x4 x5 w = some z → W p l e (headSpec (wsU yX0_passOn cX0_passOn 9 none) rm_X0_passOn).room s m args below meth c H locs 0 0 (MQ below (QV G z) args s 0 0 (gA G)) (F0 m 13 ls [])) := by
  obtain ⟨hx, hb, hml, hown, hts⟩ := id F
  have hg : ∀ q ∈ lwg, q.before args s = true := fun q h => hts q (List.mem_cons_of_mem _ h)
  intro n9
  induction n9 with
  | zero =>
    intro x1 x2 x4 x5 w H locs ls S hl hz
    rw [f_X0_passOn_13] at hz
    cases hz
  | succ n9 ih =>
    intro x1 x2 x4 x5 w H locs ls S hl hz
    rw [f_X0_passOn_13] at hz
    refine lv_iload hx hb dX0_passOn_13 (lv_at hl 4 rfl) ?_
    refine lv_bipush (v := 6) hx hb dX0_passOn_15 (by decide) ?_
    refine lv_icmp_ge (tgt := 92) hx hb dX0_passOn_17 (by decide) (fun c3 => ?_) (fun c3 => ?_)
    · have hz := ipt (c3) hz
      exact g_retv hx hb hr hlk S hz dX0_passOn_92
    · have hz := ipf (c3) hz
      refine lv_aload_n hx hb dX0_passOn_20 rfl (lv_at hl 0 rfl) ?_
      refine fg_X0_7 hx hb (fun q h => hg q (tl_X0 q h)) hown (hg _ t_fl_X0_15) S (by decide) dX0_passOn_21 ?_
      refine fg_X1_2 hx hb (fun q h => hg q (tl_X1 q h)) hown (hg _ t_fl_X0_115) S (by decide) dX0_passOn_24 ?_
      refine lv_iload_n hx hb dX0_passOn_27 rfl (lv_at hl 1 rfl) ?_
      refine lv_bipush (v := 6) hx hb dX0_passOn_28 (by decide) ?_
      refine lv_imul hx hb dX0_passOn_30 ?_
      refine lv_iload hx hb dX0_passOn_31 (lv_at hl 4 rfl) ?_
      refine lv_iadd hx hb dX0_passOn_33 ?_
      obtain ⟨h4, hz⟩ := ck hz
      refine g_lald hx hb S (isA_23 (by decide)) h4 dX0_passOn_34 ?_
      refine lv_lstore (lv' := [(6, .long (gL w 71 (ix ((x1 * 6) + x5)))), (0, .ref (gad G 72)), (1, .int x1), (2, .long x2), (4, .int x4), (5, .int x5)]) hx hb dX0_passOn_35 hl (by decide) rfl (fun ls hl => ?_)
      refine lv_lload hx hb dX0_passOn_37 (lv_at hl 0 rfl) ?_
      refine lv_lconst (v := 0) hx hb dX0_passOn_39 (by decide) ?_
      refine W.lcmp hx hb dX0_passOn_40 ?_
      refine lv_if_le (tgt := 86) hx hb dX0_passOn_41 (by decide) (fun c5 => ?_) (fun c5 => ?_)
      · have hz := ipt ((lg_cmp_le _ _).mp c5) hz
        exact w_X0_passOn_86 F hr hlk ih x1 x2 x4 x5 _ _ _ _ S (lv_sub hl [1, 2, 3, 4, 5] rfl) hz
      · have hz := ipf (fun q9 => c5 ((lg_cmp_le _ _).mpr q9)) hz
        refine lv_aload_n hx hb dX0_passOn_44 rfl (lv_at hl 1 rfl) ?_
        refine fg_X0_6 hx hb (fun q h => hg q (tl_X0 q h)) hown (hg _ t_fl_X0_42) S (by decide) dX0_passOn_45 ?_
        refine lv_iload_n hx hb dX0_passOn_48 rfl (lv_at hl 2 rfl) ?_
        obtain ⟨h6, hz⟩ := ck hz
        refine g_iald hx hb S (isA_10 (by decide)) h6 dX0_passOn_49 ?_
        refine lv_bipush (v := 6) hx hb dX0_passOn_50 (by decide) ?_
        refine lv_imul hx hb dX0_passOn_52 ?_
        refine lv_iload hx hb dX0_passOn_53 (lv_at hl 5 rfl) ?_
        refine lv_iadd hx hb dX0_passOn_55 ?_
        refine lv_istore (lv' := [(8, .int (((gI w 115 (ix x1)) * 6) + x5)), (6, .long (gL w 71 (ix ((x1 * 6) + x5)))), (0, .ref (gad G 72)), (1, .int x1), (2, .long x2), (4, .int x4), (5, .int x5)]) hx hb dX0_passOn_56 hl (by decide) rfl (fun ls hl => ?_)
        refine lv_aload_n hx hb dX0_passOn_58 rfl (lv_at hl 2 rfl) ?_
        refine fg_X0_2 hx hb (fun q h => hg q (tl_X0 q h)) hown (hg _ t_fl_X0_28) S (by decide) dX0_passOn_59 ?_
        refine lv_iload hx hb dX0_passOn_62 (lv_at hl 0 rfl) ?_
        refine lv_iload hx hb dX0_passOn_64 (lv_at hl 5 rfl) ?_
        refine lv_if_eq (tgt := 73) hx hb dX0_passOn_66 (by decide) (fun c7 => ?_) (fun c7 => ?_)
        · have hz := ipt (c7) hz
          refine lv_aload_n hx hb dX0_passOn_73 rfl (lv_at hl 2 rfl) ?_
          refine fg_X0_2 hx hb (fun q h => hg q (tl_X0 q h)) hown (hg _ t_fl_X0_28) S (by decide) dX0_passOn_74 ?_
          refine lv_iload hx hb dX0_passOn_77 (lv_at hl 0 rfl) ?_
          obtain ⟨h8, hz⟩ := ck hz
          refine g_lald hx hb S (isA_24 (by decide)) h8 dX0_passOn_79 ?_
          refine lv_lload_n hx hb dX0_passOn_80 rfl (lv_at hl 4 rfl) ?_
          refine lv_lload hx hb dX0_passOn_81 (lv_at hl 1 rfl) ?_
          refine lv_lmul hx hb dX0_passOn_83 ?_
          refine lv_ladd hx hb dX0_passOn_84 ?_
          exact w_X0_passOn_85 F hr hlk ih x1 x2 x4 x5 ((gL w 111 (ix (((gI w 115 (ix x1)) * 6) + x5))) + (x2 * (gL w 71 (ix ((x1 * 6) + x5))))) (((gI w 115 (ix x1)) * 6) + x5) _ _ _ _ S (lv_sub hl [2, 3, 4, 5, 6] rfl) hz
        · have hz := ipf (c7) hz
          refine lv_lconst (v := 1) hx hb dX0_passOn_69 (by decide) ?_
          refine lv_goto (tgt := 85) hx hb dX0_passOn_70 (by decide) ?_
          exact w_X0_passOn_85 F hr hlk ih x1 x2 x4 x5 1 (((gI w 115 (ix x1)) * 6) + x5) _ _ _ _ S (lv_sub hl [2, 3, 4, 5, 6] rfl) hz
set_option maxHeartbeats 4000000 in
set_option maxRecDepth 100000 in
theorem c_X0_passOn (l : Launch) (G : GG) (x1 : Int32) (x2 : Int64) (x4 : Int32)  (w : GW) {z : Unit × GW} (hz : f_X0_passOn x1 x2 x4 w = some z) : Met l yX0_passOn (wsU yX0_passOn cX0_passOn 9 none) rm_X0_passOn (va_Pc [.ref (gad G 72), .int x1, .long x2, .int x4] (PreG G w)) (QV G z) 0 0 (gA G) := by
  refine Met.ofW (cc := cX0_passOn) (maxL := 9) (ret := none) (by decide) rfl ?_
  intro p e s m args below meth c s₁ B hml hv
  obtain ⟨rfl, S⟩ := hv
  have F : CallFix p m c cX0_passOn 9 s _ (wsU yX0_passOn cX0_passOn 9 none) RX0 := ⟨B.exec, B.bytes, hml, findClass_of_methodNamed B.named, atoms_spec B.pre⟩
  have hr := B.returns
  have hlk := B.notSynchronized
  obtain ⟨hx, hb, -, hown, hts⟩ := id F
  have hg : ∀ q ∈ lwg, q.before _ s = true := fun q h => hts q (List.mem_cons_of_mem _ h)
  refine g_entry (Nat.le_of_ble_eq_true rfl) (fun ls hl => ?_)
  have hl : lv_has ls 9 [(0, .ref (gad G 72)), (1, .int x1), (2, .long x2), (4, .int x4)] := hl
  have S : St G w s s.heap [] := S
  generalize s.heap = H at S ⊢
  generalize ([] : List Loc) = locs at S ⊢
  rw [f_X0_passOn] at hz
  refine lv_aload_n hx hb dX0_passOn_0 rfl (lv_at hl 0 rfl) ?_
  refine fg_X0_6 hx hb (fun q h => hg q (tl_X0 q h)) hown (hg _ t_fl_X0_42) S (by decide) dX0_passOn_1 ?_
  refine lv_iload_n hx hb dX0_passOn_4 rfl (lv_at hl 1 rfl) ?_
  obtain ⟨h1, hz⟩ := ck hz
  refine g_iald hx hb S (isA_10 (by decide)) h1 dX0_passOn_5 ?_
  refine lv_if_ge (tgt := 10) hx hb dX0_passOn_6 (by decide) (fun c2 => ?_) (fun c2 => ?_)
  · have hz := ipt (c2) hz
    refine lv_iconst (v := 0) hx hb dX0_passOn_10 (by decide) ?_
    refine lv_istore (lv' := [(5, .int 0), (0, .ref (gad G 72)), (1, .int x1), (2, .long x2), (4, .int x4)]) hx hb dX0_passOn_11 hl (by decide) rfl (fun ls hl => ?_)
    exact w_X0_passOn_13 F hr hlk fu x1 x2 x4 0 _ _ _ _ S (lv_sub hl [1, 2, 3, 4, 0] rfl) hz
  · have hz := ipf (c2) hz
    exact g_retv hx hb hr hlk S hz dX0_passOn_9
noncomputable def f_X0_goOn_163 (k_91 : Int32 → Int32 → Int32 → Int32 → GW → Option (Unit × GW)) (x1 : Int32) (x2 : Int32) (x3 : Int32) (x4 : Int32) (w : GW) : Option (Unit × GW) :=
  k_91 x1 x2 x3 (x4 + 1) w
noncomputable def f_X0_goOn_136 (k_91 : Int32 → Int32 → Int32 → Int32 → GW → Option (Unit × GW)) : Nat → Int32 → Int32 → Int32 → Int32 → Int64 → Int32 → GW → Option (Unit × GW)
  | 0, _, _, _, _, _, _, _ => none
  | n9 + 1, x1, x2, x3, x4, x5, x7, w =>
    if (gI w (fxH (gR w 3)) 1) ≤ x7 then
      f_X0_goOn_163 k_91 x1 x2 x3 x4 w
    else
      (f_X0_passOn x7 x5 x3 w).bind fun q12 =>
      f_X0_goOn_136 k_91 n9 x1 x2 x3 x4 x5 (x7 + 1) q12.2
noncomputable def f_X0_goOn_91  : Nat → Int32 → Int32 → Int32 → Int32 → GW → Option (Unit × GW)
  | 0, _, _, _, _, _ => none
  | n9 + 1, x1, x2, x3, x4, w =>
    if 6 ≤ x4 then
      some ((), w)
    else
      if inb ((x1 * 6) + x4) 7722 then
      if (gL w 111 (ix ((x1 * 6) + x4))) ≤ 0 then
        f_X0_goOn_163 (f_X0_goOn_91 n9) x1 x2 x3 x4 w
      else
        (f_X1_weigh 113 x4 x2 w).bind fun q9 =>
        f_X0_goOn_136 (f_X0_goOn_91 n9) fu x1 x2 x3 x4 (gL w 111 (ix ((x1 * 6) + x4))) 0 q9.2
      else none
noncomputable def f_X0_goOn_56  : Nat → Int32 → Int32 → Int32 → Int32 → GW → Option (Unit × GW)
  | 0, _, _, _, _, _ => none
  | n9 + 1, x1, x2, x3, x4, w =>
    if (gI w (fxH (gR w 3)) 1) ≤ x4 then
      f_X0_goOn_91 fu x1 x2 x3 0 w
    else
      (f_X0_lieBehind x4 x2 w).bind fun q14 =>
      if inb x4 5 then
      f_X0_goOn_56 n9 x1 x2 x3 (x4 + 1) (sI q14.2 115 (ix x4) q14.1)
      else none
noncomputable def f_X0_goOn_14  : Nat → Int32 → Int32 → Int32 → Int32 → GW → Option (Unit × GW)
  | 0, _, _, _, _, _ => none
  | n9 + 1, x1, x2, x3, x4, w =>
    if (gI w (fxH (gR w 3)) 1) ≤ x4 then
      f_X0_goOn_56 fu x1 x2 x3 0 w
    else
      if inb x1 1287 then
      if inb x4 5 then
      f_X0_goOn_14 n9 x1 x2 x3 (x4 + 1) (sI w 113 (ix x4) (((gI w 112 (ix x1)) >>> ((4 * x4) &&& 31)) &&& 15))
      else none
      else none
noncomputable def f_X0_goOn (x1 : Int32) (x2 : Int32) (x3 : Int32) (w : GW) : Option (Unit × GW) :=
  (f_X0_sumOfSlots x1 w).bind fun q1 =>
  if q1.1 = 0 then
    some ((), q1.2)
  else
    f_X0_goOn_14 fu x1 x2 x3 0 q1.2
set_option maxHeartbeats 4000000 in
set_option maxRecDepth 100000 in
theorem w_X0_goOn_163 {p : Program} {l : Launch} {e : Env} {s : State} {m : MethodId} {args : Array Value} {below : List Frame} {meth : Method} {c : Code} {G : GG} (F : CallFix p m c cX0_goOn 8 s args (wsU yX0_goOn cX0_goOn 8 none) RX0) (hr : meth.sig.returnType = none) (hlk : meth.locks = false) {z : Unit × GW} {k_91 : Int32 → Int32 → Int32 → Int32 → GW → Option (Unit × GW)} (Hk_91 : (∀ (x1 : Int32) (x2 : Int32) (x3 : Int32) (x4 : Int32) (w : GW) (H : Heap) (locs : List Loc) (ls : Array Slot), St G w s H locs → lv_has ls 8 [(0, .ref (gad G 72)), (1, .int x1), (2, .int x2), (3, .int x3), (4, .int x4)] → k_91 x1 x2 x3 x4 w = some z → W p l e (headSpec (wsU yX0_goOn cX0_goOn 8 none) rm_X0_goOn).room s m args below meth c H locs 0 0 (MQ below (QV G z) args s 0 0 (gA G)) (F0 m 91 ls []))) : (∀ (x1 : Int32) (x2 : Int32) (x3 : Int32) (x4 : Int32) (w : GW) (H : Heap) (locs : List Loc) (ls : Array Slot), St G w s H locs → lv_has ls 8 [(0, .ref (gad G 72)), (1, .int x1), (2, .int x2), (3, .int x3), (4, .int x4)] → f_X0_goOn_163 k_91 x1 x2 x3 x4 w = some z → W p l e (headSpec (wsU yX0_goOn cX0_goOn 8 none) rm_X0_goOn).room s m args below meth c H locs 0 0 (MQ below (QV G z) args s 0 0 (gA G)) (F0 m 163 ls [])) := by
  obtain ⟨hx, hb, hml, hown, hts⟩ := id F
  have hg : ∀ q ∈ lwg, q.before args s = true := fun q h => hts q (List.mem_cons_of_mem _ h)
  intro x1 x2 x3 x4 w H locs ls S hl hz
  rw [f_X0_goOn_163] at hz
  refine lv_iinc (v := (x4 + 1)) (lv' := [(4, .int (x4 + 1)), (0, .ref (gad G 72)), (1, .int x1), (2, .int x2), (3, .int x3)]) hx hb dX0_goOn_163 hl (k := 4) rfl rfl (by decide) rfl (fun ls hl => ?_)
  refine lv_goto (tgt := 91) hx hb dX0_goOn_166 (by decide) ?_
  exact Hk_91 x1 x2 x3 (x4 + 1)  _ _ _ _ S (lv_sub hl [1, 2, 3, 4, 0] rfl) hz
set_option maxHeartbeats 4000000 in
set_option maxRecDepth 100000 in
theorem w_X0_goOn_136 {p : Program} {l : Launch} {e : Env} {s : State} {m : MethodId} {args : Array Value} {below : List Frame} {meth : Method} {c : Code} {G : GG} (F : CallFix p m c cX0_goOn 8 s args (wsU yX0_goOn cX0_goOn 8 none) RX0) (hr : meth.sig.returnType = none) (hlk : meth.locks = false) {z : Unit × GW} {k_91 : Int32 → Int32 → Int32 → Int32 → GW → Option (Unit × GW)} (Hk_91 : (∀ (x1 : Int32) (x2 : Int32) (x3 : Int32) (x4 : Int32) (w : GW) (H : Heap) (locs : List Loc) (ls : Array Slot), St G w s H locs → lv_has ls 8 [(0, .ref (gad G 72)), (1, .int x1), (2, .int x2), (3, .int x3), (4, .int x4)] → k_91 x1 x2 x3 x4 w = some z → W p l e (headSpec (wsU yX0_goOn cX0_goOn 8 none) rm_X0_goOn).room s m args below meth c H locs 0 0 (MQ below (QV G z) args s 0 0 (gA G)) (F0 m 91 ls []))) : ∀ (n9 : Nat), (∀ (x1 : Int32) (x2 : Int32) (x3 : Int32) (x4 : Int32) (x5 : Int64) (x7 : Int32) (w : GW) (H : Heap) (locs : List Loc) (ls : Array Slot), St G w s H locs → lv_has ls 8 [(0, .ref (gad G 72)), (1, .int x1), (2, .int x2), (3, .int x3), (4, .int x4), (5, .long x5), (7, .int x7)] → f_X0_goOn_136 k_91 n9 x1 x2 x3 x4 x5 x7 w = some z → W p l e (headSpec (wsU yX0_goOn cX0_goOn 8 none) rm_X0_goOn).room s m args below meth c H locs 0 0 (MQ below (QV G z) args s 0 0 (gA G)) (F0 m 136 ls [])) := by
  obtain ⟨hx, hb, hml, hown, hts⟩ := id F
  have hg : ∀ q ∈ lwg, q.before args s = true := fun q h => hts q (List.mem_cons_of_mem _ h)
  intro n9
  induction n9 with
  | zero =>
    intro x1 x2 x3 x4 x5 x7 w H locs ls S hl hz
    rw [f_X0_goOn_136] at hz
    cases hz
  | succ n9 ih =>
    intro x1 x2 x3 x4 x5 x7 w H locs ls S hl hz
    rw [f_X0_goOn_136] at hz
    refine lv_iload hx hb dX0_goOn_136 (lv_at hl 6 rfl) ?_
    refine lv_aload_n hx hb dX0_goOn_138 rfl (lv_at hl 0 rfl) ?_
    refine fg_X0_8 hx hb (fun q h => hg q (tl_X0 q h)) hown (hg _ t_fl_X0_9) S (by decide) dX0_goOn_139 ?_
    refine fg_X3_1 hx hb (fun q h => hg q (tl_X3 q h)) hown (hg _ t_fl_X0_65) S (kd_H _) dX0_goOn_142 ?_
    refine lv_icmp_ge (tgt := 163) hx hb dX0_goOn_145 (by decide) (fun c11 => ?_) (fun c11 => ?_)
    · have hz := ipt (c11) hz
      exact w_X0_goOn_163 F hr hlk Hk_91 x1 x2 x3 x4 _ _ _ _ S (lv_sub hl [0, 1, 2, 3, 4] rfl) hz
    · have hz := ipf (c11) hz
      refine lv_aload_n hx hb dX0_goOn_148 rfl (lv_at hl 0 rfl) ?_
      refine lv_iload hx hb dX0_goOn_149 (lv_at hl 6 rfl) ?_
      refine lv_lload hx hb dX0_goOn_151 (lv_at hl 5 rfl) ?_
      refine lv_iload_n hx hb dX0_goOn_153 rfl (lv_at hl 3 rfl) ?_
      obtain ⟨q12, e13, hz⟩ := bd hz
      refine g_callVv (As := [.int x7, .long x5, .int x3]) (rest := []) F S (c_X0_passOn l G x7 x5 x3  _ e13) (cw_X0_goOn_X0_passOn_111 hg) (S.obj (by decide) (by decide) rfl (oc_X0 _ _ _ (by decide))) rfl hl.1 rfl (Nat.le_of_ble_eq_true rfl) ⟨Nat.zero_le _, Nat.zero_le _⟩ dX0_goOn_154 (fun H locs  S => ?_)
      refine lv_iinc (v := (x7 + 1)) (lv' := [(7, .int (x7 + 1)), (0, .ref (gad G 72)), (1, .int x1), (2, .int x2), (3, .int x3), (4, .int x4), (5, .long x5)]) hx hb dX0_goOn_157 hl (k := 6) rfl rfl (by decide) rfl (fun ls hl => ?_)
      refine lv_goto (tgt := 136) hx hb dX0_goOn_160 (by decide) ?_
      exact ih x1 x2 x3 x4 x5 (x7 + 1)  _ _ _ _ S (lv_sub hl [1, 2, 3, 4, 5, 6, 0] rfl) hz
set_option maxHeartbeats 4000000 in
set_option maxRecDepth 100000 in
theorem w_X0_goOn_91 {p : Program} {l : Launch} {e : Env} {s : State} {m : MethodId} {args : Array Value} {below : List Frame} {meth : Method} {c : Code} {G : GG} (F : CallFix p m c cX0_goOn 8 s args (wsU yX0_goOn cX0_goOn 8 none) RX0) (hr : meth.sig.returnType = none) (hlk : meth.locks = false) {z : Unit × GW} : ∀ (n9 : Nat), (∀ (x1 : Int32) (x2 : Int32) (x3 : Int32) (x4 : Int32) (w : GW) (H : Heap) (locs : List Loc) (ls : Array Slot), St G w s H locs → lv_has ls 8 [(0, .ref (gad G 72)), (1, .int x1), (2, .int x2), (3, .int x3), (4, .int x4)] → f_X0_goOn_91 n9 x1 x2 x3 x4 w = some z → W p l e (headSpec (wsU yX0_goOn cX0_goOn 8 none) rm_X0_goOn).room s m args below meth c H locs 0 0 (MQ below (QV G z) args s 0 0 (gA G)) (F0 m 91 ls [])) := by
  obtain ⟨hx, hb, hml, hown, hts⟩ := id F
  have hg : ∀ q ∈ lwg, q.before args s = true := fun q h => hts q (List.mem_cons_of_mem _ h)
  intro n9
  induction n9 with
  | zero =>
    intro x1 x2 x3 x4 w H locs ls S hl hz
    rw [f_X0_goOn_91] at hz
    cases hz
  | succ n9 ih =>
    intro x1 x2 x3 x4 w H locs ls S hl hz
    rw [f_X0_goOn_91] at hz
    refine lv_iload hx hb dX0_goOn_91 (lv_at hl 4 rfl) ?_
    refine lv_bipush (v := 6) hx hb dX0_goOn_93 (by decide) ?_
    refine lv_icmp_ge (tgt := 169) hx hb dX0_goOn_95 (by decide) (fun c6 => ?_) (fun c6 => ?_)
    · have hz := ipt (c6) hz
      exact g_retv hx hb hr hlk S hz dX0_goOn_169
    · have hz := ipf (c6) hz
      refine lv_aload_n hx hb dX0_goOn_98 rfl (lv_at hl 0 rfl) ?_
      refine fg_X0_2 hx hb (fun q h => hg q (tl_X0 q h)) hown (hg _ t_fl_X0_28) S (by decide) dX0_goOn_99 ?_
      refine lv_iload_n hx hb dX0_goOn_102 rfl (lv_at hl 1 rfl) ?_
      refine lv_bipush (v := 6) hx hb dX0_goOn_103 (by decide) ?_
      refine lv_imul hx hb dX0_goOn_105 ?_
      refine lv_iload hx hb dX0_goOn_106 (lv_at hl 4 rfl) ?_
      refine lv_iadd hx hb dX0_goOn_108 ?_
      obtain ⟨h7, hz⟩ := ck hz
      refine g_lald hx hb S (isA_24 (by decide)) h7 dX0_goOn_109 ?_
      refine lv_lstore (lv' := [(5, .long (gL w 111 (ix ((x1 * 6) + x4)))), (0, .ref (gad G 72)), (1, .int x1), (2, .int x2), (3, .int x3), (4, .int x4)]) hx hb dX0_goOn_110 hl (by decide) rfl (fun ls hl => ?_)
      refine lv_lload hx hb dX0_goOn_112 (lv_at hl 0 rfl) ?_
      refine lv_lconst (v := 0) hx hb dX0_goOn_114 (by decide) ?_
      refine W.lcmp hx hb dX0_goOn_115 ?_
      refine lv_if_le (tgt := 163) hx hb dX0_goOn_116 (by decide) (fun c8 => ?_) (fun c8 => ?_)
      · have hz := ipt ((lg_cmp_le _ _).mp c8) hz
        exact w_X0_goOn_163 F hr hlk ih x1 x2 x3 x4 _ _ _ _ S (lv_sub hl [1, 2, 3, 4, 5] rfl) hz
      · have hz := ipf (fun q9 => c8 ((lg_cmp_le _ _).mpr q9)) hz
        refine lv_aload_n hx hb dX0_goOn_119 rfl (lv_at hl 1 rfl) ?_
        refine fg_X0_7 hx hb (fun q h => hg q (tl_X0 q h)) hown (hg _ t_fl_X0_15) S (by decide) dX0_goOn_120 ?_
        refine lv_aload_n hx hb dX0_goOn_123 rfl (lv_at hl 1 rfl) ?_
        refine fg_X0_4 hx hb (fun q h => hg q (tl_X0 q h)) hown (hg _ t_fl_X0_36) S (by decide) dX0_goOn_124 ?_
        refine lv_iload hx hb dX0_goOn_127 (lv_at hl 5 rfl) ?_
        refine lv_iload_n hx hb dX0_goOn_129 rfl (lv_at hl 3 rfl) ?_
        obtain ⟨q9, e10, hz⟩ := bd hz
        refine g_callVv (As := [.ref (gad G 113), .int x4, .int x2]) (rest := []) F S (c_X1_weigh l G 113 x4 x2 (by decide) _ e10) (cw_X0_goOn_X1_weigh_107 hg) (S.obj (by decide) (by decide) rfl (oc_X1 _ _ _ (by decide))) rfl hl.1 rfl (Nat.le_of_ble_eq_true rfl) ⟨Nat.zero_le _, Nat.zero_le _⟩ dX0_goOn_130 (fun H locs  S => ?_)
        refine lv_iconst (v := 0) hx hb dX0_goOn_133 (by decide) ?_
        refine lv_istore (lv' := [(7, .int 0), (5, .long (gL w 111 (ix ((x1 * 6) + x4)))), (0, .ref (gad G 72)), (1, .int x1), (2, .int x2), (3, .int x3), (4, .int x4)]) hx hb dX0_goOn_134 hl (by decide) rfl (fun ls hl => ?_)
        exact w_X0_goOn_136 F hr hlk ih fu x1 x2 x3 x4 (gL w 111 (ix ((x1 * 6) + x4))) 0 _ _ _ _ S (lv_sub hl [2, 3, 4, 5, 6, 1, 0] rfl) hz
set_option maxHeartbeats 4000000 in
set_option maxRecDepth 100000 in
theorem w_X0_goOn_56 {p : Program} {l : Launch} {e : Env} {s : State} {m : MethodId} {args : Array Value} {below : List Frame} {meth : Method} {c : Code} {G : GG} (F : CallFix p m c cX0_goOn 8 s args (wsU yX0_goOn cX0_goOn 8 none) RX0) (hr : meth.sig.returnType = none) (hlk : meth.locks = false) {z : Unit × GW} : ∀ (n9 : Nat), (∀ (x1 : Int32) (x2 : Int32) (x3 : Int32) (x4 : Int32) (w : GW) (H : Heap) (locs : List Loc) (ls : Array Slot), St G w s H locs → lv_has ls 8 [(0, .ref (gad G 72)), (1, .int x1), (2, .int x2), (3, .int x3), (4, .int x4)] → f_X0_goOn_56 n9 x1 x2 x3 x4 w = some z → W p l e (headSpec (wsU yX0_goOn cX0_goOn 8 none) rm_X0_goOn).room s m args below meth c H locs 0 0 (MQ below (QV G z) args s 0 0 (gA G)) (F0 m 56 ls [])) := by
  obtain ⟨hx, hb, hml, hown, hts⟩ := id F
  have hg : ∀ q ∈ lwg, q.before args s = true := fun q h => hts q (List.mem_cons_of_mem _ h)
  intro n9
  induction n9 with
  | zero =>
    intro x1 x2 x3 x4 w H locs ls S hl hz
    rw [f_X0_goOn_56] at hz
    cases hz
  | succ n9 ih =>
    intro x1 x2 x3 x4 w H locs ls S hl hz
    rw [f_X0_goOn_56] at hz
    refine lv_iload hx hb dX0_goOn_56 (lv_at hl 4 rfl) ?_
    refine lv_aload_n hx hb dX0_goOn_58 rfl (lv_at hl 0 rfl) ?_
    refine fg_X0_8 hx hb (fun q h => hg q (tl_X0 q h)) hown (hg _ t_fl_X0_9) S (by decide) dX0_goOn_59 ?_
    refine fg_X3_1 hx hb (fun q h => hg q (tl_X3 q h)) hown (hg _ t_fl_X0_65) S (kd_H _) dX0_goOn_62 ?_
    refine lv_icmp_ge (tgt := 88) hx hb dX0_goOn_65 (by decide) (fun c5 => ?_) (fun c5 => ?_)
    · have hz := ipt (c5) hz
      refine lv_iconst (v := 0) hx hb dX0_goOn_88 (by decide) ?_
      refine lv_istore (lv' := [(4, .int 0), (0, .ref (gad G 72)), (1, .int x1), (2, .int x2), (3, .int x3)]) hx hb dX0_goOn_89 hl (by decide) rfl (fun ls hl => ?_)
      exact w_X0_goOn_91 F hr hlk fu x1 x2 x3 0 _ _ _ _ S (lv_sub hl [1, 2, 3, 4, 0] rfl) hz
    · have hz := ipf (c5) hz
      refine lv_aload_n hx hb dX0_goOn_68 rfl (lv_at hl 0 rfl) ?_
      refine fg_X0_6 hx hb (fun q h => hg q (tl_X0 q h)) hown (hg _ t_fl_X0_42) S (by decide) dX0_goOn_69 ?_
      refine lv_iload hx hb dX0_goOn_72 (lv_at hl 4 rfl) ?_
      refine lv_aload_n hx hb dX0_goOn_74 rfl (lv_at hl 0 rfl) ?_
      refine lv_iload hx hb dX0_goOn_75 (lv_at hl 4 rfl) ?_
      refine lv_iload_n hx hb dX0_goOn_77 rfl (lv_at hl 2 rfl) ?_
      obtain ⟨q14, e15, hz⟩ := bd hz
      refine g_callVi (As := [.int x4, .int x2]) (rest := [.int x4, .ref (gad G 115)]) F S (c_X0_lieBehind l G x4 x2  _ e15) (cw_X0_goOn_X0_lieBehind_104 hg) (S.obj (by decide) (by decide) rfl (oc_X0 _ _ _ (by decide))) rfl hl.1 rfl (Nat.le_of_ble_eq_true rfl) ⟨Nat.zero_le _, Nat.zero_le _⟩ dX0_goOn_78 (fun H locs  S => ?_)
      obtain ⟨h16, hz⟩ := ck hz
      refine g_iast (x := q14.1) hx hb S (isA_10 (by decide)) h16 dX0_goOn_81 (fun H locs S => ?_)
      refine lv_iinc (v := (x4 + 1)) (lv' := [(4, .int (x4 + 1)), (0, .ref (gad G 72)), (1, .int x1), (2, .int x2), (3, .int x3)]) hx hb dX0_goOn_82 hl (k := 4) rfl rfl (by decide) rfl (fun ls hl => ?_)
      refine lv_goto (tgt := 56) hx hb dX0_goOn_85 (by decide) ?_
      exact ih x1 x2 x3 (x4 + 1)  _ _ _ _ S (lv_sub hl [1, 2, 3, 4, 0] rfl) hz
set_option maxHeartbeats 4000000 in
set_option maxRecDepth 100000 in
theorem w_X0_goOn_14 {p : Program} {l : Launch} {e : Env} {s : State} {m : MethodId} {args : Array Value} {below : List Frame} {meth : Method} {c : Code} {G : GG} (F : CallFix p m c cX0_goOn 8 s args (wsU yX0_goOn cX0_goOn 8 none) RX0) (hr : meth.sig.returnType = none) (hlk : meth.locks = false) {z : Unit × GW} : ∀ (n9 : Nat), (∀ (x1 : Int32) (x2 : Int32) (x3 : Int32) (x4 : Int32) (w : GW) (H : Heap) (locs : List Loc) (ls : Array Slot), St G w s H locs → lv_has ls 8 [(0, .ref (gad G 72)), (1, .int x1), (2, .int x2), (3, .int x3), (4, .int x4)] → f_X0_goOn_14 n9 x1 x2 x3 x4 w = some z → W p l e (headSpec (wsU yX0_goOn cX0_goOn 8 none) rm_X0_goOn).room s m args below meth c H locs 0 0 (MQ below (QV G z) args s 0 0 (gA G)) (F0 m 14 ls [])) := by
  obtain ⟨hx, hb, hml, hown, hts⟩ := id F
  have hg : ∀ q ∈ lwg, q.before args s = true := fun q h => hts q (List.mem_cons_of_mem _ h)
  intro n9
  induction n9 with
  | zero =>
    intro x1 x2 x3 x4 w H locs ls S hl hz
    rw [f_X0_goOn_14] at hz
    cases hz
  | succ n9 ih =>
    intro x1 x2 x3 x4 w H locs ls S hl hz
    rw [f_X0_goOn_14] at hz
    refine lv_iload hx hb dX0_goOn_14 (lv_at hl 4 rfl) ?_
    refine lv_aload_n hx hb dX0_goOn_16 rfl (lv_at hl 0 rfl) ?_
    refine fg_X0_8 hx hb (fun q h => hg q (tl_X0 q h)) hown (hg _ t_fl_X0_9) S (by decide) dX0_goOn_17 ?_
    refine fg_X3_1 hx hb (fun q h => hg q (tl_X3 q h)) hown (hg _ t_fl_X0_65) S (kd_H _) dX0_goOn_20 ?_
    refine lv_icmp_ge (tgt := 53) hx hb dX0_goOn_23 (by decide) (fun c4 => ?_) (fun c4 => ?_)
    · have hz := ipt (c4) hz
      refine lv_iconst (v := 0) hx hb dX0_goOn_53 (by decide) ?_
      refine lv_istore (lv' := [(4, .int 0), (0, .ref (gad G 72)), (1, .int x1), (2, .int x2), (3, .int x3)]) hx hb dX0_goOn_54 hl (by decide) rfl (fun ls hl => ?_)
      exact w_X0_goOn_56 F hr hlk fu x1 x2 x3 0 _ _ _ _ S (lv_sub hl [1, 2, 3, 4, 0] rfl) hz
    · have hz := ipf (c4) hz
      refine lv_aload_n hx hb dX0_goOn_26 rfl (lv_at hl 0 rfl) ?_
      refine fg_X0_4 hx hb (fun q h => hg q (tl_X0 q h)) hown (hg _ t_fl_X0_36) S (by decide) dX0_goOn_27 ?_
      refine lv_iload hx hb dX0_goOn_30 (lv_at hl 4 rfl) ?_
      refine lv_aload_n hx hb dX0_goOn_32 rfl (lv_at hl 0 rfl) ?_
      refine fg_X0_3 hx hb (fun q h => hg q (tl_X0 q h)) hown (hg _ t_fl_X0_32) S (by decide) dX0_goOn_33 ?_
      refine lv_iload_n hx hb dX0_goOn_36 rfl (lv_at hl 1 rfl) ?_
      obtain ⟨h17, hz⟩ := ck hz
      refine g_iald hx hb S (isA_13 (by decide)) h17 dX0_goOn_37 ?_
      refine lv_iconst (v := 4) hx hb dX0_goOn_38 (by decide) ?_
      refine lv_iload hx hb dX0_goOn_39 (lv_at hl 4 rfl) ?_
      refine lv_imul hx hb dX0_goOn_41 ?_
      refine lv_ishr hx hb dX0_goOn_42 ?_
      refine lv_bipush (v := 15) hx hb dX0_goOn_43 (by decide) ?_
      refine lv_iand hx hb dX0_goOn_45 ?_
      obtain ⟨h18, hz⟩ := ck hz
      refine g_iast (x := (((gI w 112 (ix x1)) >>> ((4 * x4) &&& 31)) &&& 15)) hx hb S (isA_10 (by decide)) h18 dX0_goOn_46 (fun H locs S => ?_)
      refine lv_iinc (v := (x4 + 1)) (lv' := [(4, .int (x4 + 1)), (0, .ref (gad G 72)), (1, .int x1), (2, .int x2), (3, .int x3)]) hx hb dX0_goOn_47 hl (k := 4) rfl rfl (by decide) rfl (fun ls hl => ?_)
      refine lv_goto (tgt := 14) hx hb dX0_goOn_50 (by decide) ?_
      exact ih x1 x2 x3 (x4 + 1)  _ _ _ _ S (lv_sub hl [1, 2, 3, 4, 0] rfl) hz
set_option maxHeartbeats 4000000 in
set_option maxRecDepth 100000 in
theorem c_X0_goOn (l : Launch) (G : GG) (x1 : Int32) (x2 : Int32) (x3 : Int32)  (w : GW) {z : Unit × GW} (hz : f_X0_goOn x1 x2 x3 w = some z) : Met l yX0_goOn (wsU yX0_goOn cX0_goOn 8 none) rm_X0_goOn (va_Pc [.ref (gad G 72), .int x1, .int x2, .int x3] (PreG G w)) (QV G z) 0 0 (gA G) := by
  refine Met.ofW (cc := cX0_goOn) (maxL := 8) (ret := none) (by decide) rfl ?_
  intro p e s m args below meth c s₁ B hml hv
  obtain ⟨rfl, S⟩ := hv
  have F : CallFix p m c cX0_goOn 8 s _ (wsU yX0_goOn cX0_goOn 8 none) RX0 := ⟨B.exec, B.bytes, hml, findClass_of_methodNamed B.named, atoms_spec B.pre⟩
  have hr := B.returns
  have hlk := B.notSynchronized
  obtain ⟨hx, hb, -, hown, hts⟩ := id F
  have hg : ∀ q ∈ lwg, q.before _ s = true := fun q h => hts q (List.mem_cons_of_mem _ h)
  refine g_entry (Nat.le_of_ble_eq_true rfl) (fun ls hl => ?_)
  have hl : lv_has ls 8 [(0, .ref (gad G 72)), (1, .int x1), (2, .int x2), (3, .int x3)] := hl
  have S : St G w s s.heap [] := S
  generalize s.heap = H at S ⊢
  generalize ([] : List Loc) = locs at S ⊢
  rw [f_X0_goOn] at hz
  refine lv_aload_n hx hb dX0_goOn_0 rfl (lv_at hl 0 rfl) ?_
  refine lv_iload_n hx hb dX0_goOn_1 rfl (lv_at hl 1 rfl) ?_
  obtain ⟨q1, e2, hz⟩ := bd hz
  refine g_callVl (As := [.int x1]) (rest := []) F S (c_X0_sumOfSlots l G x1  _ e2) (cw_X0_goOn_X0_sumOfSlots_100 hg) (S.obj (by decide) (by decide) rfl (oc_X0 _ _ _ (by decide))) rfl hl.1 rfl (Nat.le_of_ble_eq_true rfl) ⟨Nat.zero_le _, Nat.zero_le _⟩ dX0_goOn_2 (fun H locs  S => ?_)
  refine lv_lconst (v := 0) hx hb dX0_goOn_5 (by decide) ?_
  refine W.lcmp hx hb dX0_goOn_6 ?_
  refine lv_if_ne (tgt := 11) hx hb dX0_goOn_7 (by decide) (fun c3 => ?_) (fun c3 => ?_)
  · have hz := ipf (fun q9 => c3 ((lg_cmp_eq _ _).mpr q9)) hz
    refine lv_iconst (v := 0) hx hb dX0_goOn_11 (by decide) ?_
    refine lv_istore (lv' := [(4, .int 0), (0, .ref (gad G 72)), (1, .int x1), (2, .int x2), (3, .int x3)]) hx hb dX0_goOn_12 hl (by decide) rfl (fun ls hl => ?_)
    exact w_X0_goOn_14 F hr hlk fu x1 x2 x3 0 _ _ _ _ S (lv_sub hl [1, 2, 3, 4, 0] rfl) hz
  · have hz := ipt ((lg_cmp_eq _ _).mp c3) hz
    exact g_retv hx hb hr hlk S hz dX0_goOn_10
noncomputable def f_X0_rowOf_208 (k_179 : Nat → Int32 → Int32 → GW → Option (Nat × GW)) (k4 : Nat) (x6 : Int32) (x7 : Int32) (t0 : Int64) (t1 : Int32) (t2 : Nat) (w : GW) : Option (Nat × GW) :=
  if inb t1 1287 then
  k_179 k4 x6 (x7 + 1) (sL w t2 (ix t1) t0)
  else none
noncomputable def f_X0_rowOf_179  : Nat → Nat → Int32 → Int32 → GW → Option (Nat × GW)
  | 0, _, _, _, _ => none
  | n9 + 1, k4, x6, x7, w =>
    if 1287 ≤ x7 then
      some (k4, w)
    else
      if x6 ≤ x7 then
        f_X0_rowOf_208 (f_X0_rowOf_179 n9) k4 x6 x7 0 x7 k4 w
      else
        (f_X0_sumOfSlots x7 w).bind fun q18 =>
        f_X0_rowOf_208 (f_X0_rowOf_179 n9) k4 x6 x7 q18.1 x7 k4 q18.2
noncomputable def f_X0_rowOf_144 (k_127 : Int32 → Nat → Int32 → Int32 → Int32 → GW → Option (Nat × GW)) : Nat → Int32 → Nat → Int32 → Int32 → Int32 → Int32 → GW → Option (Nat × GW)
  | 0, _, _, _, _, _, _, _ => none
  | n9 + 1, x3, k4, x5, x6, x7, x8, w =>
    (f_X0_first x7 w).bind fun q22 =>
    if q22.1 ≤ x8 then
      k_127 x3 k4 x5 x6 (x7 + 1) q22.2
    else
      (f_X0_goOn x8 x7 x3 q22.2).bind fun q25 =>
      f_X0_rowOf_144 k_127 n9 x3 k4 x5 x6 x7 (x8 + 1) q25.2
noncomputable def f_X0_rowOf_127  : Nat → Int32 → Nat → Int32 → Int32 → Int32 → GW → Option (Nat × GW)
  | 0, _, _, _, _, _, _ => none
  | n9 + 1, x3, k4, x5, x6, x7, w =>
    if x5 < x7 then
      f_X0_rowOf_179 fu k4 x6 0 w
    else
      (f_X0_first (x7 - 1) w).bind fun q20 =>
      f_X0_rowOf_144 (f_X0_rowOf_127 n9) fu x3 k4 x5 x6 x7 q20.1 q20.2
noncomputable def f_X0_rowOf_93  : Nat → Int32 → Nat → Int32 → Int32 → Int32 → GW → Option (Nat × GW)
  | 0, _, _, _, _, _, _ => none
  | n9 + 1, x3, k4, x5, x6, x7, w =>
    if (x6 * 6) ≤ x7 then
      if inb 0 7722 then
      f_X0_rowOf_127 fu x3 k4 x5 x6 1 (sL w 111 (ix 0) 1)
      else none
    else
      if inb x7 7722 then
      f_X0_rowOf_93 n9 x3 k4 x5 x6 (x7 + 1) (sL w 111 (ix x7) 0)
      else none
noncomputable def f_X0_rowOf_68  (k2 : Nat) (x3 : Int32) (k4 : Nat) (x5 : Int32) (w : GW) : Option (Nat × GW) :=
  (f_X1_ready (fxH (gR w 3)) k2 w).bind fun q8 =>
  (f_X0_first (x5 + 1) q8.2).bind fun q10 =>
  f_X0_rowOf_93 fu x3 k4 x5 q10.1 0 q10.2
noncomputable def f_X0_rowOf_40  : Nat → Nat → Int32 → Nat → Int32 → GW → Option (Nat × GW)
  | 0, _, _, _, _, _ => none
  | n9 + 1, k2, x3, k4, x5, w =>
    if x5 ≤ 0 then
      f_X0_rowOf_68 k2 x3 k4 x5 w
    else
      if x3 = 0 then
        (f_X3_tooMany (fxH (gR w 3)) k2 x5 w).bind fun q29 =>
        if q29.1 = 0 then
          f_X0_rowOf_68 k2 x3 k4 x5 q29.2
        else
          f_X0_rowOf_40 n9 k2 x3 k4 (x5 + (-1)) q29.2
      else
        f_X0_rowOf_68 k2 x3 k4 x5 w
noncomputable def f_X0_rowOf (x1 : Int32) (k2 : Nat) (x3 : Int32) (w : GW) : Option (Nat × GW) :=
  if inb x1 36 then
  if inb x1 36 then
  if (gI w 110 (ix x1)) = 0 then
    if inb x1 36 then
    (f_X0_letters (gI (sI w 110 (ix x1) 1) (fxH (gR (sI w 110 (ix x1) 1) 3)) 2) (sI w 110 (ix x1) 1)).bind fun q5 =>
    f_X0_rowOf_40 fu k2 x3 (73 + 1 + ix x1) q5.1 q5.2
    else none
  else
    some ((73 + 1 + ix x1), w)
  else none
  else none
set_option maxHeartbeats 4000000 in
set_option maxRecDepth 100000 in
theorem w_X0_rowOf_208 {p : Program} {l : Launch} {e : Env} {s : State} {m : MethodId} {args : Array Value} {below : List Frame} {meth : Method} {c : Code} {G : GG} (F : CallFix p m c cX0_rowOf 9 s args (wsU yX0_rowOf cX0_rowOf 9 (some (.array .long))) RX0) (hr : meth.sig.returnType = (some (.array .long))) (hlk : meth.locks = false) {z : Nat × GW} {k_179 : Nat → Int32 → Int32 → GW → Option (Nat × GW)} (Hk_179 : (∀ (k4 : Nat) (x6 : Int32) (x7 : Int32) (hk4 : kd k4 = 25) (w : GW) (H : Heap) (locs : List Loc) (ls : Array Slot), St G w s H locs → lv_has ls 9 [(0, .ref (gad G 72)), (4, .ref (gad G k4)), (6, .int x6), (7, .int x7)] → k_179 k4 x6 x7 w = some z → W p l e (headSpec (wsU yX0_rowOf cX0_rowOf 9 (some (.array .long))) rm_X0_rowOf).room s m args below meth c H locs 0 0 (MQ below (QR G z) args s 0 0 (gA G)) (F0 m 179 ls []))) : (∀ (k4 : Nat) (x6 : Int32) (x7 : Int32) (t0 : Int64) (t1 : Int32) (t2 : Nat) (hk4 : kd k4 = 25) (ht2 : kd t2 = 25) (w : GW) (H : Heap) (locs : List Loc) (ls : Array Slot), St G w s H locs → lv_has ls 9 [(0, .ref (gad G 72)), (4, .ref (gad G k4)), (6, .int x6), (7, .int x7)] → f_X0_rowOf_208 k_179 k4 x6 x7 t0 t1 t2 w = some z → W p l e (headSpec (wsU yX0_rowOf cX0_rowOf 9 (some (.array .long))) rm_X0_rowOf).room s m args below meth c H locs 0 0 (MQ below (QR G z) args s 0 0 (gA G)) (F0 m 208 ls [.long t0, .int t1, .ref (gad G t2)])) := by
  obtain ⟨hx, hb, hml, hown, hts⟩ := id F
  have hg : ∀ q ∈ lwg, q.before args s = true := fun q h => hts q (List.mem_cons_of_mem _ h)
  intro k4 x6 x7 t0 t1 t2 hk4 ht2 w H locs ls S hl hz
  rw [f_X0_rowOf_208] at hz
  obtain ⟨h17, hz⟩ := ck hz
  refine g_last (x := t0) hx hb S (isA_25 ht2) h17 dX0_rowOf_208 (fun H locs S => ?_)
  refine lv_iinc (v := (x7 + 1)) (lv' := [(7, .int (x7 + 1)), (0, .ref (gad G 72)), (4, .ref (gad G k4)), (6, .int x6)]) hx hb dX0_rowOf_209 hl (k := 3) rfl rfl (by decide) rfl (fun ls hl => ?_)
  refine lv_goto (tgt := 179) hx hb dX0_rowOf_212 (by decide) ?_
  exact Hk_179 k4 x6 (x7 + 1) hk4 _ _ _ _ S (lv_sub hl [1, 2, 3, 0] rfl) hz
set_option maxHeartbeats 4000000 in
set_option maxRecDepth 100000 in
theorem w_X0_rowOf_179 {p : Program} {l : Launch} {e : Env} {s : State} {m : MethodId} {args : Array Value} {below : List Frame} {meth : Method} {c : Code} {G : GG} (F : CallFix p m c cX0_rowOf 9 s args (wsU yX0_rowOf cX0_rowOf 9 (some (.array .long))) RX0) (hr : meth.sig.returnType = (some (.array .long))) (hlk : meth.locks = false) {z : Nat × GW} : ∀ (n9 : Nat), (∀ (k4 : Nat) (x6 : Int32) (x7 : Int32) (hk4 : kd k4 = 25) (w : GW) (H : Heap) (locs : List Loc) (ls : Array Slot), St G w s H locs → lv_has ls 9 [(0, .ref (gad G 72)), (4, .ref (gad G k4)), (6, .int x6), (7, .int x7)] → f_X0_rowOf_179 n9 k4 x6 x7 w = some z → W p l e (headSpec (wsU yX0_rowOf cX0_rowOf 9 (some (.array .long))) rm_X0_rowOf).room s m args below meth c H locs 0 0 (MQ below (QR G z) args s 0 0 (gA G)) (F0 m 179 ls [])) := by
  obtain ⟨hx, hb, hml, hown, hts⟩ := id F
  have hg : ∀ q ∈ lwg, q.before args s = true := fun q h => hts q (List.mem_cons_of_mem _ h)
  intro n9
  induction n9 with
  | zero =>
    intro k4 x6 x7 hk4 w H locs ls S hl hz
    rw [f_X0_rowOf_179] at hz
    cases hz
  | succ n9 ih =>
    intro k4 x6 x7 hk4 w H locs ls S hl hz
    rw [f_X0_rowOf_179] at hz
    refine lv_iload hx hb dX0_rowOf_179 (lv_at hl 3 rfl) ?_
    refine lv_sipush (v := 1287) hx hb dX0_rowOf_181 (by decide) ?_
    refine lv_icmp_ge (tgt := 215) hx hb dX0_rowOf_184 (by decide) (fun c15 => ?_) (fun c15 => ?_)
    · have hz := ipt (c15) hz
      refine lv_aload hx hb dX0_rowOf_215 (lv_at hl 1 rfl) ?_
      exact g_retr hx hb hr hlk S hk4 hz dX0_rowOf_217
    · have hz := ipf (c15) hz
      refine lv_aload hx hb dX0_rowOf_187 (lv_at hl 1 rfl) ?_
      refine lv_iload hx hb dX0_rowOf_189 (lv_at hl 3 rfl) ?_
      refine lv_iload hx hb dX0_rowOf_191 (lv_at hl 3 rfl) ?_
      refine lv_iload hx hb dX0_rowOf_193 (lv_at hl 2 rfl) ?_
      refine lv_icmp_ge (tgt := 207) hx hb dX0_rowOf_195 (by decide) (fun c16 => ?_) (fun c16 => ?_)
      · have hz := ipt (c16) hz
        refine lv_lconst (v := 0) hx hb dX0_rowOf_207 (by decide) ?_
        exact w_X0_rowOf_208 F hr hlk ih k4 x6 x7 0 x7 k4 hk4 hk4 _ _ _ _ S (lv_sub hl [0, 1, 2, 3] rfl) hz
      · have hz := ipf (c16) hz
        refine lv_aload_n hx hb dX0_rowOf_198 rfl (lv_at hl 0 rfl) ?_
        refine lv_iload hx hb dX0_rowOf_199 (lv_at hl 3 rfl) ?_
        obtain ⟨q18, e19, hz⟩ := bd hz
        refine g_callVl (As := [.int x7]) (rest := [.int x7, .ref (gad G k4)]) F S (c_X0_sumOfSlots l G x7  _ e19) (cw_X0_rowOf_X0_sumOfSlots_100 hg) (S.obj (by decide) (by decide) rfl (oc_X0 _ _ _ (by decide))) rfl hl.1 rfl (Nat.le_of_ble_eq_true rfl) ⟨Nat.zero_le _, Nat.zero_le _⟩ dX0_rowOf_201 (fun H locs  S => ?_)
        refine lv_goto (tgt := 208) hx hb dX0_rowOf_204 (by decide) ?_
        exact w_X0_rowOf_208 F hr hlk ih k4 x6 x7 q18.1 x7 k4 hk4 hk4 _ _ _ _ S (lv_sub hl [0, 1, 2, 3] rfl) hz
set_option maxHeartbeats 4000000 in
set_option maxRecDepth 100000 in
theorem w_X0_rowOf_144 {p : Program} {l : Launch} {e : Env} {s : State} {m : MethodId} {args : Array Value} {below : List Frame} {meth : Method} {c : Code} {G : GG} (F : CallFix p m c cX0_rowOf 9 s args (wsU yX0_rowOf cX0_rowOf 9 (some (.array .long))) RX0) (hr : meth.sig.returnType = (some (.array .long))) (hlk : meth.locks = false) {z : Nat × GW} {k_127 : Int32 → Nat → Int32 → Int32 → Int32 → GW → Option (Nat × GW)} (Hk_127 : (∀ (x3 : Int32) (k4 : Nat) (x5 : Int32) (x6 : Int32) (x7 : Int32) (hk4 : kd k4 = 25) (w : GW) (H : Heap) (locs : List Loc) (ls : Array Slot), St G w s H locs → lv_has ls 9 [(0, .ref (gad G 72)), (3, .int x3), (4, .ref (gad G k4)), (5, .int x5), (6, .int x6), (7, .int x7)] → k_127 x3 k4 x5 x6 x7 w = some z → W p l e (headSpec (wsU yX0_rowOf cX0_rowOf 9 (some (.array .long))) rm_X0_rowOf).room s m args below meth c H locs 0 0 (MQ below (QR G z) args s 0 0 (gA G)) (F0 m 127 ls []))) : ∀ (n9 : Nat), (∀ (x3 : Int32) (k4 : Nat) (x5 : Int32) (x6 : Int32) (x7 : Int32) (x8 : Int32) (hk4 : kd k4 = 25) (w : GW) (H : Heap) (locs : List Loc) (ls : Array Slot), St G w s H locs → lv_has ls 9 [(0, .ref (gad G 72)), (3, .int x3), (4, .ref (gad G k4)), (5, .int x5), (6, .int x6), (7, .int x7), (8, .int x8)] → f_X0_rowOf_144 k_127 n9 x3 k4 x5 x6 x7 x8 w = some z → W p l e (headSpec (wsU yX0_rowOf cX0_rowOf 9 (some (.array .long))) rm_X0_rowOf).room s m args below meth c H locs 0 0 (MQ below (QR G z) args s 0 0 (gA G)) (F0 m 144 ls [])) := by
  obtain ⟨hx, hb, hml, hown, hts⟩ := id F
  have hg : ∀ q ∈ lwg, q.before args s = true := fun q h => hts q (List.mem_cons_of_mem _ h)
  intro n9
  induction n9 with
  | zero =>
    intro x3 k4 x5 x6 x7 x8 hk4 w H locs ls S hl hz
    rw [f_X0_rowOf_144] at hz
    cases hz
  | succ n9 ih =>
    intro x3 k4 x5 x6 x7 x8 hk4 w H locs ls S hl hz
    rw [f_X0_rowOf_144] at hz
    refine lv_iload hx hb dX0_rowOf_144 (lv_at hl 6 rfl) ?_
    refine lv_aload_n hx hb dX0_rowOf_146 rfl (lv_at hl 0 rfl) ?_
    refine lv_iload hx hb dX0_rowOf_147 (lv_at hl 5 rfl) ?_
    obtain ⟨q22, e23, hz⟩ := bd hz
    refine g_callVi (As := [.int x7]) (rest := [.int x8]) F S (c_X0_first l G x7  _ e23) (cw_X0_rowOf_X0_first_93 hg) (S.obj (by decide) (by decide) rfl (oc_X0 _ _ _ (by decide))) rfl hl.1 rfl (Nat.le_of_ble_eq_true rfl) ⟨Nat.zero_le _, Nat.zero_le _⟩ dX0_rowOf_149 (fun H locs  S => ?_)
    refine lv_icmp_ge (tgt := 170) hx hb dX0_rowOf_152 (by decide) (fun c24 => ?_) (fun c24 => ?_)
    · have hz := ipt (c24) hz
      refine lv_iinc (v := (x7 + 1)) (lv' := [(7, .int (x7 + 1)), (0, .ref (gad G 72)), (3, .int x3), (4, .ref (gad G k4)), (5, .int x5), (6, .int x6), (8, .int x8)]) hx hb dX0_rowOf_170 hl (k := 5) rfl rfl (by decide) rfl (fun ls hl => ?_)
      refine lv_goto (tgt := 127) hx hb dX0_rowOf_173 (by decide) ?_
      exact Hk_127 x3 k4 x5 x6 (x7 + 1) hk4 _ _ _ _ S (lv_sub hl [1, 2, 3, 4, 5, 0] rfl) hz
    · have hz := ipf (c24) hz
      refine lv_aload_n hx hb dX0_rowOf_155 rfl (lv_at hl 0 rfl) ?_
      refine lv_iload hx hb dX0_rowOf_156 (lv_at hl 6 rfl) ?_
      refine lv_iload hx hb dX0_rowOf_158 (lv_at hl 5 rfl) ?_
      refine lv_iload_n hx hb dX0_rowOf_160 rfl (lv_at hl 1 rfl) ?_
      obtain ⟨q25, e26, hz⟩ := bd hz
      refine g_callVv (As := [.int x8, .int x7, .int x3]) (rest := []) F S (c_X0_goOn l G x8 x7 x3  _ e26) (cw_X0_rowOf_X0_goOn_96 hg) (S.obj (by decide) (by decide) rfl (oc_X0 _ _ _ (by decide))) rfl hl.1 rfl (Nat.le_of_ble_eq_true rfl) ⟨Nat.zero_le _, Nat.zero_le _⟩ dX0_rowOf_161 (fun H locs  S => ?_)
      refine lv_iinc (v := (x8 + 1)) (lv' := [(8, .int (x8 + 1)), (0, .ref (gad G 72)), (3, .int x3), (4, .ref (gad G k4)), (5, .int x5), (6, .int x6), (7, .int x7)]) hx hb dX0_rowOf_164 hl (k := 6) rfl rfl (by decide) rfl (fun ls hl => ?_)
      refine lv_goto (tgt := 144) hx hb dX0_rowOf_167 (by decide) ?_
      exact ih x3 k4 x5 x6 x7 (x8 + 1) hk4 _ _ _ _ S (lv_sub hl [1, 2, 3, 4, 5, 6, 0] rfl) hz
set_option maxHeartbeats 4000000 in
set_option maxRecDepth 100000 in
theorem w_X0_rowOf_127 {p : Program} {l : Launch} {e : Env} {s : State} {m : MethodId} {args : Array Value} {below : List Frame} {meth : Method} {c : Code} {G : GG} (F : CallFix p m c cX0_rowOf 9 s args (wsU yX0_rowOf cX0_rowOf 9 (some (.array .long))) RX0) (hr : meth.sig.returnType = (some (.array .long))) (hlk : meth.locks = false) {z : Nat × GW} : ∀ (n9 : Nat), (∀ (x3 : Int32) (k4 : Nat) (x5 : Int32) (x6 : Int32) (x7 : Int32) (hk4 : kd k4 = 25) (w : GW) (H : Heap) (locs : List Loc) (ls : Array Slot), St G w s H locs → lv_has ls 9 [(0, .ref (gad G 72)), (3, .int x3), (4, .ref (gad G k4)), (5, .int x5), (6, .int x6), (7, .int x7)] → f_X0_rowOf_127 n9 x3 k4 x5 x6 x7 w = some z → W p l e (headSpec (wsU yX0_rowOf cX0_rowOf 9 (some (.array .long))) rm_X0_rowOf).room s m args below meth c H locs 0 0 (MQ below (QR G z) args s 0 0 (gA G)) (F0 m 127 ls [])) := by
  obtain ⟨hx, hb, hml, hown, hts⟩ := id F
  have hg : ∀ q ∈ lwg, q.before args s = true := fun q h => hts q (List.mem_cons_of_mem _ h)
  intro n9
  induction n9 with
  | zero =>
    intro x3 k4 x5 x6 x7 hk4 w H locs ls S hl hz
    rw [f_X0_rowOf_127] at hz
    cases hz
  | succ n9 ih =>
    intro x3 k4 x5 x6 x7 hk4 w H locs ls S hl hz
    rw [f_X0_rowOf_127] at hz
    refine lv_iload hx hb dX0_rowOf_127 (lv_at hl 5 rfl) ?_
    refine lv_iload hx hb dX0_rowOf_129 (lv_at hl 3 rfl) ?_
    refine lv_icmp_gt (tgt := 176) hx hb dX0_rowOf_131 (by decide) (fun c14 => ?_) (fun c14 => ?_)
    · have hz := ipt (c14) hz
      refine lv_iconst (v := 0) hx hb dX0_rowOf_176 (by decide) ?_
      refine lv_istore (lv' := [(7, .int 0), (0, .ref (gad G 72)), (3, .int x3), (4, .ref (gad G k4)), (5, .int x5), (6, .int x6)]) hx hb dX0_rowOf_177 hl (by decide) rfl (fun ls hl => ?_)
      exact w_X0_rowOf_179 F hr hlk fu k4 x6 0 hk4 _ _ _ _ S (lv_sub hl [1, 3, 5, 0] rfl) hz
    · have hz := ipf (c14) hz
      refine lv_aload_n hx hb dX0_rowOf_134 rfl (lv_at hl 0 rfl) ?_
      refine lv_iload hx hb dX0_rowOf_135 (lv_at hl 5 rfl) ?_
      refine lv_iconst (v := 1) hx hb dX0_rowOf_137 (by decide) ?_
      refine lv_isub hx hb dX0_rowOf_138 ?_
      obtain ⟨q20, e21, hz⟩ := bd hz
      refine g_callVi (As := [.int (x7 - 1)]) (rest := []) F S (c_X0_first l G (x7 - 1)  _ e21) (cw_X0_rowOf_X0_first_93 hg) (S.obj (by decide) (by decide) rfl (oc_X0 _ _ _ (by decide))) rfl hl.1 rfl (Nat.le_of_ble_eq_true rfl) ⟨Nat.zero_le _, Nat.zero_le _⟩ dX0_rowOf_139 (fun H locs  S => ?_)
      refine lv_istore (lv' := [(8, .int q20.1), (0, .ref (gad G 72)), (3, .int x3), (4, .ref (gad G k4)), (5, .int x5), (6, .int x6), (7, .int x7)]) hx hb dX0_rowOf_142 hl (by decide) rfl (fun ls hl => ?_)
      exact w_X0_rowOf_144 F hr hlk ih fu x3 k4 x5 x6 x7 q20.1 hk4 _ _ _ _ S (lv_sub hl [1, 2, 3, 4, 5, 6, 0] rfl) hz
set_option maxHeartbeats 4000000 in
set_option maxRecDepth 100000 in
theorem w_X0_rowOf_93 {p : Program} {l : Launch} {e : Env} {s : State} {m : MethodId} {args : Array Value} {below : List Frame} {meth : Method} {c : Code} {G : GG} (F : CallFix p m c cX0_rowOf 9 s args (wsU yX0_rowOf cX0_rowOf 9 (some (.array .long))) RX0) (hr : meth.sig.returnType = (some (.array .long))) (hlk : meth.locks = false) {z : Nat × GW} : ∀ (n9 : Nat), (∀ (x3 : Int32) (k4 : Nat) (x5 : Int32) (x6 : Int32) (x7 : Int32) (hk4 : kd k4 = 25) (w : GW) (H : Heap) (locs : List Loc) (ls : Array Slot), St G w s H locs → lv_has ls 9 [(0, .ref (gad G 72)), (3, .int x3), (4, .ref (gad G k4)), (5, .int x5), (6, .int x6), (7, .int x7)] → f_X0_rowOf_93 n9 x3 k4 x5 x6 x7 w = some z → W p l e (headSpec (wsU yX0_rowOf cX0_rowOf 9 (some (.array .long))) rm_X0_rowOf).room s m args below meth c H locs 0 0 (MQ below (QR G z) args s 0 0 (gA G)) (F0 m 93 ls [])) := by
  obtain ⟨hx, hb, hml, hown, hts⟩ := id F
  have hg : ∀ q ∈ lwg, q.before args s = true := fun q h => hts q (List.mem_cons_of_mem _ h)
  intro n9
  induction n9 with
  | zero =>
    intro x3 k4 x5 x6 x7 hk4 w H locs ls S hl hz
    rw [f_X0_rowOf_93] at hz
    cases hz
  | succ n9 ih =>
    intro x3 k4 x5 x6 x7 hk4 w H locs ls S hl hz
    rw [f_X0_rowOf_93] at hz
    refine lv_iload hx hb dX0_rowOf_93 (lv_at hl 5 rfl) ?_
    refine lv_iload hx hb dX0_rowOf_95 (lv_at hl 4 rfl) ?_
    refine lv_bipush (v := 6) hx hb dX0_rowOf_97 (by decide) ?_
    refine lv_imul hx hb dX0_rowOf_99 ?_
    refine lv_icmp_ge (tgt := 117) hx hb dX0_rowOf_100 (by decide) (fun c12 => ?_) (fun c12 => ?_)
    · have hz := ipt (c12) hz
      refine lv_aload_n hx hb dX0_rowOf_117 rfl (lv_at hl 0 rfl) ?_
      refine fg_X0_2 hx hb (fun q h => hg q (tl_X0 q h)) hown (hg _ t_fl_X0_28) S (by decide) dX0_rowOf_118 ?_
      refine lv_iconst (v := 0) hx hb dX0_rowOf_121 (by decide) ?_
      refine lv_lconst (v := 1) hx hb dX0_rowOf_122 (by decide) ?_
      obtain ⟨h13, hz⟩ := ck hz
      refine g_last (x := 1) hx hb S (isA_24 (by decide)) h13 dX0_rowOf_123 (fun H locs S => ?_)
      refine lv_iconst (v := 1) hx hb dX0_rowOf_124 (by decide) ?_
      refine lv_istore (lv' := [(7, .int 1), (0, .ref (gad G 72)), (3, .int x3), (4, .ref (gad G k4)), (5, .int x5), (6, .int x6)]) hx hb dX0_rowOf_125 hl (by decide) rfl (fun ls hl => ?_)
      exact w_X0_rowOf_127 F hr hlk fu x3 k4 x5 x6 1 hk4 _ _ _ _ S (lv_sub hl [1, 2, 3, 4, 5, 0] rfl) hz
    · have hz := ipf (c12) hz
      refine lv_aload_n hx hb dX0_rowOf_103 rfl (lv_at hl 0 rfl) ?_
      refine fg_X0_2 hx hb (fun q h => hg q (tl_X0 q h)) hown (hg _ t_fl_X0_28) S (by decide) dX0_rowOf_104 ?_
      refine lv_iload hx hb dX0_rowOf_107 (lv_at hl 5 rfl) ?_
      refine lv_lconst (v := 0) hx hb dX0_rowOf_109 (by decide) ?_
      obtain ⟨h27, hz⟩ := ck hz
      refine g_last (x := 0) hx hb S (isA_24 (by decide)) h27 dX0_rowOf_110 (fun H locs S => ?_)
      refine lv_iinc (v := (x7 + 1)) (lv' := [(7, .int (x7 + 1)), (0, .ref (gad G 72)), (3, .int x3), (4, .ref (gad G k4)), (5, .int x5), (6, .int x6)]) hx hb dX0_rowOf_111 hl (k := 5) rfl rfl (by decide) rfl (fun ls hl => ?_)
      refine lv_goto (tgt := 93) hx hb dX0_rowOf_114 (by decide) ?_
      exact ih x3 k4 x5 x6 (x7 + 1) hk4 _ _ _ _ S (lv_sub hl [1, 2, 3, 4, 5, 0] rfl) hz
set_option maxHeartbeats 4000000 in
set_option maxRecDepth 100000 in
theorem w_X0_rowOf_68 {p : Program} {l : Launch} {e : Env} {s : State} {m : MethodId} {args : Array Value} {below : List Frame} {meth : Method} {c : Code} {G : GG} (F : CallFix p m c cX0_rowOf 9 s args (wsU yX0_rowOf cX0_rowOf 9 (some (.array .long))) RX0) (hr : meth.sig.returnType = (some (.array .long))) (hlk : meth.locks = false) {z : Nat × GW} : (∀ (k2 : Nat) (x3 : Int32) (k4 : Nat) (x5 : Int32) (hk2 : kd k2 = 4) (hk4 : kd k4 = 25) (w : GW) (H : Heap) (locs : List Loc) (ls : Array Slot), St G w s H locs → lv_has ls 9 [(0, .ref (gad G 72)), (2, .ref (gad G k2)), (3, .int x3), (4, .ref (gad G k4)), (5, .int x5)] → f_X0_rowOf_68 k2 x3 k4 x5 w = some z → W p l e (headSpec (wsU yX0_rowOf cX0_rowOf 9 (some (.array .long))) rm_X0_rowOf).room s m args below meth c H locs 0 0 (MQ below (QR G z) args s 0 0 (gA G)) (F0 m 68 ls [])) := by
  obtain ⟨hx, hb, hml, hown, hts⟩ := id F
  have hg : ∀ q ∈ lwg, q.before args s = true := fun q h => hts q (List.mem_cons_of_mem _ h)
  intro k2 x3 k4 x5 hk2 hk4 w H locs ls S hl hz
  rw [f_X0_rowOf_68] at hz
  refine lv_aload_n hx hb dX0_rowOf_68 rfl (lv_at hl 0 rfl) ?_
  refine fg_X0_7 hx hb (fun q h => hg q (tl_X0 q h)) hown (hg _ t_fl_X0_15) S (by decide) dX0_rowOf_69 ?_
  refine lv_aload_n hx hb dX0_rowOf_72 rfl (lv_at hl 0 rfl) ?_
  refine fg_X0_8 hx hb (fun q h => hg q (tl_X0 q h)) hown (hg _ t_fl_X0_9) S (by decide) dX0_rowOf_73 ?_
  refine lv_aload_n hx hb dX0_rowOf_76 rfl (lv_at hl 1 rfl) ?_
  obtain ⟨q8, e9, hz⟩ := bd hz
  refine g_callVv (As := [.ref (gad G (fxH (gR w 3))), .ref (gad G k2)]) (rest := []) F S (c_X1_ready l G (fxH (gR w 3)) k2 (kd_H _) hk2 _ e9) (cw_X0_rowOf_X1_ready_87 hg) (S.obj (by decide) (by decide) rfl (oc_X1 _ _ _ (by decide))) rfl hl.1 rfl (Nat.le_of_ble_eq_true rfl) ⟨Nat.zero_le _, Nat.zero_le _⟩ dX0_rowOf_77 (fun H locs  S => ?_)
  refine lv_aload_n hx hb dX0_rowOf_80 rfl (lv_at hl 0 rfl) ?_
  refine lv_iload hx hb dX0_rowOf_81 (lv_at hl 4 rfl) ?_
  refine lv_iconst (v := 1) hx hb dX0_rowOf_83 (by decide) ?_
  refine lv_iadd hx hb dX0_rowOf_84 ?_
  obtain ⟨q10, e11, hz⟩ := bd hz
  refine g_callVi (As := [.int (x5 + 1)]) (rest := []) F S (c_X0_first l G (x5 + 1)  _ e11) (cw_X0_rowOf_X0_first_93 hg) (S.obj (by decide) (by decide) rfl (oc_X0 _ _ _ (by decide))) rfl hl.1 rfl (Nat.le_of_ble_eq_true rfl) ⟨Nat.zero_le _, Nat.zero_le _⟩ dX0_rowOf_85 (fun H locs  S => ?_)
  refine lv_istore (lv' := [(6, .int q10.1), (0, .ref (gad G 72)), (2, .ref (gad G k2)), (3, .int x3), (4, .ref (gad G k4)), (5, .int x5)]) hx hb dX0_rowOf_88 hl (by decide) rfl (fun ls hl => ?_)
  refine lv_iconst (v := 0) hx hb dX0_rowOf_90 (by decide) ?_
  refine lv_istore (lv' := [(7, .int 0), (6, .int q10.1), (0, .ref (gad G 72)), (2, .ref (gad G k2)), (3, .int x3), (4, .ref (gad G k4)), (5, .int x5)]) hx hb dX0_rowOf_91 hl (by decide) rfl (fun ls hl => ?_)
  exact w_X0_rowOf_93 F hr hlk fu x3 k4 x5 q10.1 0 hk4 _ _ _ _ S (lv_sub hl [2, 4, 5, 6, 1, 0] rfl) hz
set_option maxHeartbeats 4000000 in
set_option maxRecDepth 100000 in
theorem w_X0_rowOf_40 {p : Program} {l : Launch} {e : Env} {s : State} {m : MethodId} {args : Array Value} {below : List Frame} {meth : Method} {c : Code} {G : GG} (F : CallFix p m c cX0_rowOf 9 s args (wsU yX0_rowOf cX0_rowOf 9 (some (.array .long))) RX0) (hr : meth.sig.returnType = (some (.array .long))) (hlk : meth.locks = false) {z : Nat × GW} : ∀ (n9 : Nat), (∀ (k2 : Nat) (x3 : Int32) (k4 : Nat) (x5 : Int32) (hk2 : kd k2 = 4) (hk4 : kd k4 = 25) (w : GW) (H : Heap) (locs : List Loc) (ls : Array Slot), St G w s H locs → lv_has ls 9 [(0, .ref (gad G 72)), (2, .ref (gad G k2)), (3, .int x3), (4, .ref (gad G k4)), (5, .int x5)] → f_X0_rowOf_40 n9 k2 x3 k4 x5 w = some z → W p l e (headSpec (wsU yX0_rowOf cX0_rowOf 9 (some (.array .long))) rm_X0_rowOf).room s m args below meth c H locs 0 0 (MQ below (QR G z) args s 0 0 (gA G)) (F0 m 40 ls [])) := by
  obtain ⟨hx, hb, hml, hown, hts⟩ := id F
  have hg : ∀ q ∈ lwg, q.before args s = true := fun q h => hts q (List.mem_cons_of_mem _ h)
  intro n9
  induction n9 with
  | zero =>
    intro k2 x3 k4 x5 hk2 hk4 w H locs ls S hl hz
    rw [f_X0_rowOf_40] at hz
    cases hz
  | succ n9 ih =>
    intro k2 x3 k4 x5 hk2 hk4 w H locs ls S hl hz
    rw [f_X0_rowOf_40] at hz
    refine lv_iload hx hb dX0_rowOf_40 (lv_at hl 4 rfl) ?_
    refine lv_if_le (tgt := 68) hx hb dX0_rowOf_42 (by decide) (fun c7 => ?_) (fun c7 => ?_)
    · have hz := ipt (c7) hz
      exact w_X0_rowOf_68 F hr hlk k2 x3 k4 x5 hk2 hk4 _ _ _ _ S (lv_sub hl [0, 1, 2, 3, 4] rfl) hz
    · have hz := ipf (c7) hz
      refine lv_iload_n hx hb dX0_rowOf_45 rfl (lv_at hl 2 rfl) ?_
      refine lv_if_ne (tgt := 68) hx hb dX0_rowOf_46 (by decide) (fun c28 => ?_) (fun c28 => ?_)
      · have hz := ipf (c28) hz
        exact w_X0_rowOf_68 F hr hlk k2 x3 k4 x5 hk2 hk4 _ _ _ _ S (lv_sub hl [0, 1, 2, 3, 4] rfl) hz
      · have hz := ipt (c28) hz
        refine lv_aload_n hx hb dX0_rowOf_49 rfl (lv_at hl 0 rfl) ?_
        refine fg_X0_8 hx hb (fun q h => hg q (tl_X0 q h)) hown (hg _ t_fl_X0_9) S (by decide) dX0_rowOf_50 ?_
        refine lv_aload_n hx hb dX0_rowOf_53 rfl (lv_at hl 1 rfl) ?_
        refine lv_iload hx hb dX0_rowOf_54 (lv_at hl 4 rfl) ?_
        obtain ⟨q29, e30, hz⟩ := bd hz
        refine g_callVb (As := [.ref (gad G k2), .int x5]) (rest := []) F S (c_X3_tooMany l G (fxH (gR w 3)) k2 x5 (kd_H _) hk2 _ e30) (cw_X0_rowOf_X3_tooMany_83 hg) (S.obj (kd_H _) (by decide) rfl (oc_X3 _ _ _ (kd_H _))) rfl hl.1 rfl (Nat.le_of_ble_eq_true rfl) ⟨Nat.zero_le _, Nat.zero_le _⟩ dX0_rowOf_56 (fun H locs hB31 S => ?_)
        refine lv_if_eq (tgt := 68) hx hb dX0_rowOf_59 (by decide) (fun c32 => ?_) (fun c32 => ?_)
        · have hz := ipt (c32) hz
          exact w_X0_rowOf_68 F hr hlk k2 x3 k4 x5 hk2 hk4 _ _ _ _ S (lv_sub hl [0, 1, 2, 3, 4] rfl) hz
        · have hz := ipf (c32) hz
          refine lv_iinc (v := (x5 + (-1))) (lv' := [(5, .int (x5 + (-1))), (0, .ref (gad G 72)), (2, .ref (gad G k2)), (3, .int x3), (4, .ref (gad G k4))]) hx hb dX0_rowOf_62 hl (k := 4) rfl (by rw [show Int32.ofInt (-1) = (-1) from by decide]) (by decide) rfl (fun ls hl => ?_)
          refine lv_goto (tgt := 40) hx hb dX0_rowOf_65 (by decide) ?_
          exact ih k2 x3 k4 (x5 + (-1)) hk2 hk4 _ _ _ _ S (lv_sub hl [1, 2, 3, 4, 0] rfl) hz
set_option maxHeartbeats 4000000 in
set_option maxRecDepth 100000 in
theorem c_X0_rowOf (l : Launch) (G : GG) (x1 : Int32) (k2 : Nat) (x3 : Int32) (hk2 : kd k2 = 4) (w : GW) {z : Nat × GW} (hz : f_X0_rowOf x1 k2 x3 w = some z) : Met l yX0_rowOf (wsU yX0_rowOf cX0_rowOf 9 (some (.array .long))) rm_X0_rowOf (va_Pc [.ref (gad G 72), .int x1, .ref (gad G k2), .int x3] (PreG G w)) (QR G z) 0 0 (gA G) := by
  refine Met.ofW (cc := cX0_rowOf) (maxL := 9) (ret := (some (.array .long))) (by decide) rfl ?_
  intro p e s m args below meth c s₁ B hml hv
  obtain ⟨rfl, S⟩ := hv
  have F : CallFix p m c cX0_rowOf 9 s _ (wsU yX0_rowOf cX0_rowOf 9 (some (.array .long))) RX0 := ⟨B.exec, B.bytes, hml, findClass_of_methodNamed B.named, atoms_spec B.pre⟩
  have hr := B.returns
  have hlk := B.notSynchronized
  obtain ⟨hx, hb, -, hown, hts⟩ := id F
  have hg : ∀ q ∈ lwg, q.before _ s = true := fun q h => hts q (List.mem_cons_of_mem _ h)
  refine g_entry (Nat.le_of_ble_eq_true rfl) (fun ls hl => ?_)
  have hl : lv_has ls 9 [(0, .ref (gad G 72)), (1, .int x1), (2, .ref (gad G k2)), (3, .int x3)] := hl
  have S : St G w s s.heap [] := S
  generalize s.heap = H at S ⊢
  generalize ([] : List Loc) = locs at S ⊢
  rw [f_X0_rowOf] at hz
  refine lv_aload_n hx hb dX0_rowOf_0 rfl (lv_at hl 0 rfl) ?_
  refine fg_X0_0 hx hb (fun q h => hg q (tl_X0 q h)) hown (hg _ t_fl_X0_21) S (by decide) dX0_rowOf_1 ?_
  refine lv_iload_n hx hb dX0_rowOf_4 rfl (lv_at hl 1 rfl) ?_
  obtain ⟨h1, hz⟩ := ck hz
  refine g_aald34 hx hb S (by decide) h1 dX0_rowOf_5 ?_
  refine lv_astore (lv' := [(4, .ref (gad G (73 + 1 + ix x1))), (0, .ref (gad G 72)), (1, .int x1), (2, .ref (gad G k2)), (3, .int x3)]) hx hb dX0_rowOf_6 hl (by decide) rfl (fun ls hl => ?_)
  refine lv_aload_n hx hb dX0_rowOf_8 rfl (lv_at hl 1 rfl) ?_
  refine fg_X0_1 hx hb (fun q h => hg q (tl_X0 q h)) hown (hg _ t_fl_X0_24) S (by decide) dX0_rowOf_9 ?_
  refine lv_iload_n hx hb dX0_rowOf_12 rfl (lv_at hl 2 rfl) ?_
  obtain ⟨h2, hz⟩ := ck hz
  refine g_zald hx hb S (isA_30 (by decide)) h2 dX0_rowOf_13 ?_
  refine lv_if_eq (tgt := 20) hx hb dX0_rowOf_14 (by decide) (fun c3 => ?_) (fun c3 => ?_)
  · have hz := ipt (c3) hz
    refine lv_aload_n hx hb dX0_rowOf_20 rfl (lv_at hl 1 rfl) ?_
    refine fg_X0_1 hx hb (fun q h => hg q (tl_X0 q h)) hown (hg _ t_fl_X0_24) S (by decide) dX0_rowOf_21 ?_
    refine lv_iload_n hx hb dX0_rowOf_24 rfl (lv_at hl 2 rfl) ?_
    refine lv_iconst (v := 1) hx hb dX0_rowOf_25 (by decide) ?_
    obtain ⟨h4, hz⟩ := ck hz
    refine g_zast (x := 1) hx hb S (isA_30 (by decide)) h4 isB_1 dX0_rowOf_26 (fun H locs S => ?_)
    refine lv_aload_n hx hb dX0_rowOf_27 rfl (lv_at hl 1 rfl) ?_
    refine lv_aload_n hx hb dX0_rowOf_28 rfl (lv_at hl 1 rfl) ?_
    refine fg_X0_8 hx hb (fun q h => hg q (tl_X0 q h)) hown (hg _ t_fl_X0_9) S (by decide) dX0_rowOf_29 ?_
    refine fg_X3_2 hx hb (fun q h => hg q (tl_X3 q h)) hown (hg _ t_fl_X0_45) S (kd_H _) dX0_rowOf_32 ?_
    obtain ⟨q5, e6, hz⟩ := bd hz
    refine g_callVi (As := [.int (gI (sI w 110 (ix x1) 1) (fxH (gR (sI w 110 (ix x1) 1) 3)) 2)]) (rest := []) F S (c_X0_letters l G (gI (sI w 110 (ix x1) 1) (fxH (gR (sI w 110 (ix x1) 1) 3)) 2)  _ e6) (cw_X0_rowOf_X0_letters_51 hg) (S.obj (by decide) (by decide) rfl (oc_X0 _ _ _ (by decide))) rfl hl.1 rfl (Nat.le_of_ble_eq_true rfl) ⟨Nat.zero_le _, Nat.zero_le _⟩ dX0_rowOf_35 (fun H locs  S => ?_)
    refine lv_istore (lv' := [(5, .int q5.1), (4, .ref (gad G (73 + 1 + ix x1))), (0, .ref (gad G 72)), (1, .int x1), (2, .ref (gad G k2)), (3, .int x3)]) hx hb dX0_rowOf_38 hl (by decide) rfl (fun ls hl => ?_)
    exact w_X0_rowOf_40 F hr hlk fu k2 x3 (73 + 1 + ix x1) q5.1 hk2 (kd_el34 (by decide) (h1).2) _ _ _ _ S (lv_sub hl [2, 4, 5, 1, 0] rfl) hz
  · have hz := ipf (c3) hz
    refine lv_aload hx hb dX0_rowOf_17 (lv_at hl 0 rfl) ?_
    exact g_retr hx hb hr hlk S (kd_el34 (by decide) (h1).2) hz dX0_rowOf_19
noncomputable def f_X0_fullestOf_4  : Nat → Int32 → Int32 → Int32 → GW → Option (Int32 × GW)
  | 0, _, _, _, _ => none
  | n9 + 1, x1, x2, x3, w =>
    if (gI w (fxH (gR w 3)) 1) ≤ x3 then
      some (x2, w)
    else
      f_X0_fullestOf_4 n9 x1 (jmax x2 ((x1 >>> ((4 * x3) &&& 31)) &&& 15)) (x3 + 1) w
noncomputable def f_X0_fullestOf (x1 : Int32) (w : GW) : Option (Int32 × GW) :=
  f_X0_fullestOf_4 fu x1 0 0 w
set_option maxHeartbeats 4000000 in
set_option maxRecDepth 100000 in
theorem w_X0_fullestOf_4 {p : Program} {l : Launch} {e : Env} {s : State} {m : MethodId} {args : Array Value} {below : List Frame} {meth : Method} {c : Code} {G : GG} (F : CallFix p m c cX0_fullestOf 4 s args (wsU yX0_fullestOf cX0_fullestOf 4 (some .int)) RX0) (hr : meth.sig.returnType = (some .int)) (hlk : meth.locks = false) {z : Int32 × GW} : ∀ (n9 : Nat), (∀ (x1 : Int32) (x2 : Int32) (x3 : Int32) (w : GW) (H : Heap) (locs : List Loc) (ls : Array Slot), St G w s H locs → lv_has ls 4 [(0, .ref (gad G 72)), (1, .int x1), (2, .int x2), (3, .int x3)] → f_X0_fullestOf_4 n9 x1 x2 x3 w = some z → W p l e (headSpec (wsU yX0_fullestOf cX0_fullestOf 4 (some .int)) rm_X0_fullestOf).room s m args below meth c H locs 0 0 (MQ below (QI G z) args s 0 0 (gA G)) (F0 m 4 ls [])) := by
  obtain ⟨hx, hb, hml, hown, hts⟩ := id F
  have hg : ∀ q ∈ lwg, q.before args s = true := fun q h => hts q (List.mem_cons_of_mem _ h)
  intro n9
  induction n9 with
  | zero =>
    intro x1 x2 x3 w H locs ls S hl hz
    rw [f_X0_fullestOf_4] at hz
    cases hz
  | succ n9 ih =>
    intro x1 x2 x3 w H locs ls S hl hz
    rw [f_X0_fullestOf_4] at hz
    refine lv_iload_n hx hb dX0_fullestOf_4 rfl (lv_at hl 3 rfl) ?_
    refine lv_aload_n hx hb dX0_fullestOf_5 rfl (lv_at hl 0 rfl) ?_
    refine fg_X0_8 hx hb (fun q h => hg q (tl_X0 q h)) hown (hg _ t_fl_X0_9) S (by decide) dX0_fullestOf_6 ?_
    refine fg_X3_1 hx hb (fun q h => hg q (tl_X3 q h)) hown (hg _ t_fl_X0_65) S (kd_H _) dX0_fullestOf_9 ?_
    refine lv_icmp_ge (tgt := 34) hx hb dX0_fullestOf_12 (by decide) (fun c1 => ?_) (fun c1 => ?_)
    · have hz := ipt (c1) hz
      refine lv_iload_n hx hb dX0_fullestOf_34 rfl (lv_at hl 2 rfl) ?_
      exact g_reti hx hb hr hlk S hz dX0_fullestOf_35
    · have hz := ipf (c1) hz
      refine lv_iload_n hx hb dX0_fullestOf_15 rfl (lv_at hl 2 rfl) ?_
      refine lv_iload_n hx hb dX0_fullestOf_16 rfl (lv_at hl 1 rfl) ?_
      refine lv_iconst (v := 4) hx hb dX0_fullestOf_17 (by decide) ?_
      refine lv_iload_n hx hb dX0_fullestOf_18 rfl (lv_at hl 3 rfl) ?_
      refine lv_imul hx hb dX0_fullestOf_19 ?_
      refine lv_ishr hx hb dX0_fullestOf_20 ?_
      refine lv_bipush (v := 15) hx hb dX0_fullestOf_21 (by decide) ?_
      refine lv_iand hx hb dX0_fullestOf_23 ?_
      refine va_mmax hx hb (hml.trans hl.1.symm) hown (hg _ t_ml_X0_77) (hg _ t_st_J9_max_7cf53) (hg _ t_in_J9) (hg _ t_co_J9_max_7cf53) (Nat.le_of_ble_eq_true rfl) (Nat.le_of_ble_eq_true rfl) (Nat.zero_le _) (Nat.zero_le _) dX0_fullestOf_24 ?_
      refine g_toi (v := (jmax x2 ((x1 >>> ((4 * x3) &&& 31)) &&& 15))) rfl ?_
      refine lv_istore_n (lv' := [(2, .int (jmax x2 ((x1 >>> ((4 * x3) &&& 31)) &&& 15))), (0, .ref (gad G 72)), (1, .int x1), (3, .int x3)]) hx hb dX0_fullestOf_27 rfl hl (by decide) rfl (fun ls hl => ?_)
      refine lv_iinc (v := (x3 + 1)) (lv' := [(3, .int (x3 + 1)), (2, .int (jmax x2 ((x1 >>> ((4 * x3) &&& 31)) &&& 15))), (0, .ref (gad G 72)), (1, .int x1)]) hx hb dX0_fullestOf_28 hl (k := 3) rfl rfl (by decide) rfl (fun ls hl => ?_)
      refine lv_goto (tgt := 4) hx hb dX0_fullestOf_31 (by decide) ?_
      exact ih x1 (jmax x2 ((x1 >>> ((4 * x3) &&& 31)) &&& 15)) (x3 + 1)  _ _ _ _ S (lv_sub hl [2, 3, 1, 0] rfl) hz
set_option maxHeartbeats 4000000 in
set_option maxRecDepth 100000 in
theorem c_X0_fullestOf (l : Launch) (G : GG) (x1 : Int32)  (w : GW) {z : Int32 × GW} (hz : f_X0_fullestOf x1 w = some z) : Met l yX0_fullestOf (wsU yX0_fullestOf cX0_fullestOf 4 (some .int)) rm_X0_fullestOf (va_Pc [.ref (gad G 72), .int x1] (PreG G w)) (QI G z) 0 0 (gA G) := by
  refine Met.ofW (cc := cX0_fullestOf) (maxL := 4) (ret := (some .int)) (by decide) rfl ?_
  intro p e s m args below meth c s₁ B hml hv
  obtain ⟨rfl, S⟩ := hv
  have F : CallFix p m c cX0_fullestOf 4 s _ (wsU yX0_fullestOf cX0_fullestOf 4 (some .int)) RX0 := ⟨B.exec, B.bytes, hml, findClass_of_methodNamed B.named, atoms_spec B.pre⟩
  have hr := B.returns
  have hlk := B.notSynchronized
  obtain ⟨hx, hb, -, hown, hts⟩ := id F
  have hg : ∀ q ∈ lwg, q.before _ s = true := fun q h => hts q (List.mem_cons_of_mem _ h)
  refine g_entry (Nat.le_of_ble_eq_true rfl) (fun ls hl => ?_)
  have hl : lv_has ls 4 [(0, .ref (gad G 72)), (1, .int x1)] := hl
  have S : St G w s s.heap [] := S
  generalize s.heap = H at S ⊢
  generalize ([] : List Loc) = locs at S ⊢
  rw [f_X0_fullestOf] at hz
  refine lv_iconst (v := 0) hx hb dX0_fullestOf_0 (by decide) ?_
  refine lv_istore_n (lv' := [(2, .int 0), (0, .ref (gad G 72)), (1, .int x1)]) hx hb dX0_fullestOf_1 rfl hl (by decide) rfl (fun ls hl => ?_)
  refine lv_iconst (v := 0) hx hb dX0_fullestOf_2 (by decide) ?_
  refine lv_istore_n (lv' := [(3, .int 0), (2, .int 0), (0, .ref (gad G 72)), (1, .int x1)]) hx hb dX0_fullestOf_3 rfl hl (by decide) rfl (fun ls hl => ?_)
  exact w_X0_fullestOf_4 F hr hlk fu x1 0 0 _ _ _ _ S (lv_sub hl [2, 3, 1, 0] rfl) hz
noncomputable def f_X0_emptyOf_32 (k_4 : Int32 → Int32 → Int32 → GW → Option (Int32 × GW)) (x1 : Int32) (x3 : Int32) (t0 : Int32) (t1 : Int32) (w : GW) : Option (Int32 × GW) :=
  k_4 x1 (t1 + t0) (x3 + 1) w
noncomputable def f_X0_emptyOf_4  : Nat → Int32 → Int32 → Int32 → GW → Option (Int32 × GW)
  | 0, _, _, _, _ => none
  | n9 + 1, x1, x2, x3, w =>
    if (gI w (fxH (gR w 3)) 1) ≤ x3 then
      some (x2, w)
    else
      if ((x1 >>> ((4 * x3) &&& 31)) &&& 15) = 0 then
        f_X0_emptyOf_32 (f_X0_emptyOf_4 n9) x1 x3 1 x2 w
      else
        f_X0_emptyOf_32 (f_X0_emptyOf_4 n9) x1 x3 0 x2 w
noncomputable def f_X0_emptyOf (x1 : Int32) (w : GW) : Option (Int32 × GW) :=
  f_X0_emptyOf_4 fu x1 0 0 w
set_option maxHeartbeats 4000000 in
set_option maxRecDepth 100000 in
theorem w_X0_emptyOf_32 {p : Program} {l : Launch} {e : Env} {s : State} {m : MethodId} {args : Array Value} {below : List Frame} {meth : Method} {c : Code} {G : GG} (F : CallFix p m c cX0_emptyOf 4 s args (wsU yX0_emptyOf cX0_emptyOf 4 (some .int)) RX0) (hr : meth.sig.returnType = (some .int)) (hlk : meth.locks = false) {z : Int32 × GW} {k_4 : Int32 → Int32 → Int32 → GW → Option (Int32 × GW)} (Hk_4 : (∀ (x1 : Int32) (x2 : Int32) (x3 : Int32) (w : GW) (H : Heap) (locs : List Loc) (ls : Array Slot), St G w s H locs → lv_has ls 4 [(0, .ref (gad G 72)), (1, .int x1), (2, .int x2), (3, .int x3)] → k_4 x1 x2 x3 w = some z → W p l e (headSpec (wsU yX0_emptyOf cX0_emptyOf 4 (some .int)) rm_X0_emptyOf).room s m args below meth c H locs 0 0 (MQ below (QI G z) args s 0 0 (gA G)) (F0 m 4 ls []))) : (∀ (x1 : Int32) (x3 : Int32) (t0 : Int32) (t1 : Int32) (w : GW) (H : Heap) (locs : List Loc) (ls : Array Slot), St G w s H locs → lv_has ls 4 [(0, .ref (gad G 72)), (1, .int x1), (3, .int x3)] → f_X0_emptyOf_32 k_4 x1 x3 t0 t1 w = some z → W p l e (headSpec (wsU yX0_emptyOf cX0_emptyOf 4 (some .int)) rm_X0_emptyOf).room s m args below meth c H locs 0 0 (MQ below (QI G z) args s 0 0 (gA G)) (F0 m 32 ls [.int t0, .int t1])) := by
  obtain ⟨hx, hb, hml, hown, hts⟩ := id F
  have hg : ∀ q ∈ lwg, q.before args s = true := fun q h => hts q (List.mem_cons_of_mem _ h)
  intro x1 x3 t0 t1 w H locs ls S hl hz
  rw [f_X0_emptyOf_32] at hz
  refine lv_iadd hx hb dX0_emptyOf_32 ?_
  refine lv_istore_n (lv' := [(2, .int (t1 + t0)), (0, .ref (gad G 72)), (1, .int x1), (3, .int x3)]) hx hb dX0_emptyOf_33 rfl hl (by decide) rfl (fun ls hl => ?_)
  refine lv_iinc (v := (x3 + 1)) (lv' := [(3, .int (x3 + 1)), (2, .int (t1 + t0)), (0, .ref (gad G 72)), (1, .int x1)]) hx hb dX0_emptyOf_34 hl (k := 3) rfl rfl (by decide) rfl (fun ls hl => ?_)
  refine lv_goto (tgt := 4) hx hb dX0_emptyOf_37 (by decide) ?_
  exact Hk_4 x1 (t1 + t0) (x3 + 1)  _ _ _ _ S (lv_sub hl [2, 3, 1, 0] rfl) hz
set_option maxHeartbeats 4000000 in
set_option maxRecDepth 100000 in
theorem w_X0_emptyOf_4 {p : Program} {l : Launch} {e : Env} {s : State} {m : MethodId} {args : Array Value} {below : List Frame} {meth : Method} {c : Code} {G : GG} (F : CallFix p m c cX0_emptyOf 4 s args (wsU yX0_emptyOf cX0_emptyOf 4 (some .int)) RX0) (hr : meth.sig.returnType = (some .int)) (hlk : meth.locks = false) {z : Int32 × GW} : ∀ (n9 : Nat), (∀ (x1 : Int32) (x2 : Int32) (x3 : Int32) (w : GW) (H : Heap) (locs : List Loc) (ls : Array Slot), St G w s H locs → lv_has ls 4 [(0, .ref (gad G 72)), (1, .int x1), (2, .int x2), (3, .int x3)] → f_X0_emptyOf_4 n9 x1 x2 x3 w = some z → W p l e (headSpec (wsU yX0_emptyOf cX0_emptyOf 4 (some .int)) rm_X0_emptyOf).room s m args below meth c H locs 0 0 (MQ below (QI G z) args s 0 0 (gA G)) (F0 m 4 ls [])) := by
  obtain ⟨hx, hb, hml, hown, hts⟩ := id F
  have hg : ∀ q ∈ lwg, q.before args s = true := fun q h => hts q (List.mem_cons_of_mem _ h)
  intro n9
  induction n9 with
  | zero =>
    intro x1 x2 x3 w H locs ls S hl hz
    rw [f_X0_emptyOf_4] at hz
    cases hz
  | succ n9 ih =>
    intro x1 x2 x3 w H locs ls S hl hz
    rw [f_X0_emptyOf_4] at hz
    refine lv_iload_n hx hb dX0_emptyOf_4 rfl (lv_at hl 3 rfl) ?_
    refine lv_aload_n hx hb dX0_emptyOf_5 rfl (lv_at hl 0 rfl) ?_
    refine fg_X0_8 hx hb (fun q h => hg q (tl_X0 q h)) hown (hg _ t_fl_X0_9) S (by decide) dX0_emptyOf_6 ?_
    refine fg_X3_1 hx hb (fun q h => hg q (tl_X3 q h)) hown (hg _ t_fl_X0_65) S (kd_H _) dX0_emptyOf_9 ?_
    refine lv_icmp_ge (tgt := 40) hx hb dX0_emptyOf_12 (by decide) (fun c1 => ?_) (fun c1 => ?_)
    · have hz := ipt (c1) hz
      refine lv_iload_n hx hb dX0_emptyOf_40 rfl (lv_at hl 2 rfl) ?_
      exact g_reti hx hb hr hlk S hz dX0_emptyOf_41
    · have hz := ipf (c1) hz
      refine lv_iload_n hx hb dX0_emptyOf_15 rfl (lv_at hl 2 rfl) ?_
      refine lv_iload_n hx hb dX0_emptyOf_16 rfl (lv_at hl 1 rfl) ?_
      refine lv_iconst (v := 4) hx hb dX0_emptyOf_17 (by decide) ?_
      refine lv_iload_n hx hb dX0_emptyOf_18 rfl (lv_at hl 3 rfl) ?_
      refine lv_imul hx hb dX0_emptyOf_19 ?_
      refine lv_ishr hx hb dX0_emptyOf_20 ?_
      refine lv_bipush (v := 15) hx hb dX0_emptyOf_21 (by decide) ?_
      refine lv_iand hx hb dX0_emptyOf_23 ?_
      refine lv_if_ne (tgt := 31) hx hb dX0_emptyOf_24 (by decide) (fun c2 => ?_) (fun c2 => ?_)
      · have hz := ipf (c2) hz
        refine lv_iconst (v := 0) hx hb dX0_emptyOf_31 (by decide) ?_
        exact w_X0_emptyOf_32 F hr hlk ih x1 x3 0 x2 _ _ _ _ S (lv_sub hl [0, 1, 3] rfl) hz
      · have hz := ipt (c2) hz
        refine lv_iconst (v := 1) hx hb dX0_emptyOf_27 (by decide) ?_
        refine lv_goto (tgt := 32) hx hb dX0_emptyOf_28 (by decide) ?_
        exact w_X0_emptyOf_32 F hr hlk ih x1 x3 1 x2 _ _ _ _ S (lv_sub hl [0, 1, 3] rfl) hz
set_option maxHeartbeats 4000000 in
set_option maxRecDepth 100000 in
theorem c_X0_emptyOf (l : Launch) (G : GG) (x1 : Int32)  (w : GW) {z : Int32 × GW} (hz : f_X0_emptyOf x1 w = some z) : Met l yX0_emptyOf (wsU yX0_emptyOf cX0_emptyOf 4 (some .int)) rm_X0_emptyOf (va_Pc [.ref (gad G 72), .int x1] (PreG G w)) (QI G z) 0 0 (gA G) := by
  refine Met.ofW (cc := cX0_emptyOf) (maxL := 4) (ret := (some .int)) (by decide) rfl ?_
  intro p e s m args below meth c s₁ B hml hv
  obtain ⟨rfl, S⟩ := hv
  have F : CallFix p m c cX0_emptyOf 4 s _ (wsU yX0_emptyOf cX0_emptyOf 4 (some .int)) RX0 := ⟨B.exec, B.bytes, hml, findClass_of_methodNamed B.named, atoms_spec B.pre⟩
  have hr := B.returns
  have hlk := B.notSynchronized
  obtain ⟨hx, hb, -, hown, hts⟩ := id F
  have hg : ∀ q ∈ lwg, q.before _ s = true := fun q h => hts q (List.mem_cons_of_mem _ h)
  refine g_entry (Nat.le_of_ble_eq_true rfl) (fun ls hl => ?_)
  have hl : lv_has ls 4 [(0, .ref (gad G 72)), (1, .int x1)] := hl
  have S : St G w s s.heap [] := S
  generalize s.heap = H at S ⊢
  generalize ([] : List Loc) = locs at S ⊢
  rw [f_X0_emptyOf] at hz
  refine lv_iconst (v := 0) hx hb dX0_emptyOf_0 (by decide) ?_
  refine lv_istore_n (lv' := [(2, .int 0), (0, .ref (gad G 72)), (1, .int x1)]) hx hb dX0_emptyOf_1 rfl hl (by decide) rfl (fun ls hl => ?_)
  refine lv_iconst (v := 0) hx hb dX0_emptyOf_2 (by decide) ?_
  refine lv_istore_n (lv' := [(3, .int 0), (2, .int 0), (0, .ref (gad G 72)), (1, .int x1)]) hx hb dX0_emptyOf_3 rfl hl (by decide) rfl (fun ls hl => ?_)
  exact w_X0_emptyOf_4 F hr hlk fu x1 0 0 _ _ _ _ S (lv_sub hl [2, 3, 1, 0] rfl) hz
noncomputable def f_X0_squaresOf_4  : Nat → Int32 → Int32 → Int32 → GW → Option (Int32 × GW)
  | 0, _, _, _, _ => none
  | n9 + 1, x1, x2, x3, w =>
    if (gI w (fxH (gR w 3)) 1) ≤ x3 then
      some (x2, w)
    else
      f_X0_squaresOf_4 n9 x1 (x2 + (((x1 >>> ((4 * x3) &&& 31)) &&& 15) * ((x1 >>> ((4 * x3) &&& 31)) &&& 15))) (x3 + 1) w
noncomputable def f_X0_squaresOf (x1 : Int32) (w : GW) : Option (Int32 × GW) :=
  f_X0_squaresOf_4 fu x1 0 0 w
set_option maxHeartbeats 4000000 in
set_option maxRecDepth 100000 in
theorem w_X0_squaresOf_4 {p : Program} {l : Launch} {e : Env} {s : State} {m : MethodId} {args : Array Value} {below : List Frame} {meth : Method} {c : Code} {G : GG} (F : CallFix p m c cX0_squaresOf 5 s args (wsU yX0_squaresOf cX0_squaresOf 5 (some .int)) RX0) (hr : meth.sig.returnType = (some .int)) (hlk : meth.locks = false) {z : Int32 × GW} : ∀ (n9 : Nat), (∀ (x1 : Int32) (x2 : Int32) (x3 : Int32) (w : GW) (H : Heap) (locs : List Loc) (ls : Array Slot), St G w s H locs → lv_has ls 5 [(0, .ref (gad G 72)), (1, .int x1), (2, .int x2), (3, .int x3)] → f_X0_squaresOf_4 n9 x1 x2 x3 w = some z → W p l e (headSpec (wsU yX0_squaresOf cX0_squaresOf 5 (some .int)) rm_X0_squaresOf).room s m args below meth c H locs 0 0 (MQ below (QI G z) args s 0 0 (gA G)) (F0 m 4 ls [])) := by
  obtain ⟨hx, hb, hml, hown, hts⟩ := id F
  have hg : ∀ q ∈ lwg, q.before args s = true := fun q h => hts q (List.mem_cons_of_mem _ h)
  intro n9
  induction n9 with
  | zero =>
    intro x1 x2 x3 w H locs ls S hl hz
    rw [f_X0_squaresOf_4] at hz
    cases hz
  | succ n9 ih =>
    intro x1 x2 x3 w H locs ls S hl hz
    rw [f_X0_squaresOf_4] at hz
    refine lv_iload_n hx hb dX0_squaresOf_4 rfl (lv_at hl 3 rfl) ?_
    refine lv_aload_n hx hb dX0_squaresOf_5 rfl (lv_at hl 0 rfl) ?_
    refine fg_X0_8 hx hb (fun q h => hg q (tl_X0 q h)) hown (hg _ t_fl_X0_9) S (by decide) dX0_squaresOf_6 ?_
    refine fg_X3_1 hx hb (fun q h => hg q (tl_X3 q h)) hown (hg _ t_fl_X0_65) S (kd_H _) dX0_squaresOf_9 ?_
    refine lv_icmp_ge (tgt := 39) hx hb dX0_squaresOf_12 (by decide) (fun c1 => ?_) (fun c1 => ?_)
    · have hz := ipt (c1) hz
      refine lv_iload_n hx hb dX0_squaresOf_39 rfl (lv_at hl 2 rfl) ?_
      exact g_reti hx hb hr hlk S hz dX0_squaresOf_40
    · have hz := ipf (c1) hz
      refine lv_iload_n hx hb dX0_squaresOf_15 rfl (lv_at hl 1 rfl) ?_
      refine lv_iconst (v := 4) hx hb dX0_squaresOf_16 (by decide) ?_
      refine lv_iload_n hx hb dX0_squaresOf_17 rfl (lv_at hl 3 rfl) ?_
      refine lv_imul hx hb dX0_squaresOf_18 ?_
      refine lv_ishr hx hb dX0_squaresOf_19 ?_
      refine lv_bipush (v := 15) hx hb dX0_squaresOf_20 (by decide) ?_
      refine lv_iand hx hb dX0_squaresOf_22 ?_
      refine lv_istore (lv' := [(4, .int ((x1 >>> ((4 * x3) &&& 31)) &&& 15)), (0, .ref (gad G 72)), (1, .int x1), (2, .int x2), (3, .int x3)]) hx hb dX0_squaresOf_23 hl (by decide) rfl (fun ls hl => ?_)
      refine lv_iload_n hx hb dX0_squaresOf_25 rfl (lv_at hl 3 rfl) ?_
      refine lv_iload hx hb dX0_squaresOf_26 (lv_at hl 0 rfl) ?_
      refine lv_iload hx hb dX0_squaresOf_28 (lv_at hl 0 rfl) ?_
      refine lv_imul hx hb dX0_squaresOf_30 ?_
      refine lv_iadd hx hb dX0_squaresOf_31 ?_
      refine lv_istore_n (lv' := [(2, .int (x2 + (((x1 >>> ((4 * x3) &&& 31)) &&& 15) * ((x1 >>> ((4 * x3) &&& 31)) &&& 15)))), (4, .int ((x1 >>> ((4 * x3) &&& 31)) &&& 15)), (0, .ref (gad G 72)), (1, .int x1), (3, .int x3)]) hx hb dX0_squaresOf_32 rfl hl (by decide) rfl (fun ls hl => ?_)
      refine lv_iinc (v := (x3 + 1)) (lv' := [(3, .int (x3 + 1)), (2, .int (x2 + (((x1 >>> ((4 * x3) &&& 31)) &&& 15) * ((x1 >>> ((4 * x3) &&& 31)) &&& 15)))), (4, .int ((x1 >>> ((4 * x3) &&& 31)) &&& 15)), (0, .ref (gad G 72)), (1, .int x1)]) hx hb dX0_squaresOf_33 hl (k := 4) rfl rfl (by decide) rfl (fun ls hl => ?_)
      refine lv_goto (tgt := 4) hx hb dX0_squaresOf_36 (by decide) ?_
      exact ih x1 (x2 + (((x1 >>> ((4 * x3) &&& 31)) &&& 15) * ((x1 >>> ((4 * x3) &&& 31)) &&& 15))) (x3 + 1)  _ _ _ _ S (lv_sub hl [3, 4, 1, 0] rfl) hz
set_option maxHeartbeats 4000000 in
set_option maxRecDepth 100000 in
theorem c_X0_squaresOf (l : Launch) (G : GG) (x1 : Int32)  (w : GW) {z : Int32 × GW} (hz : f_X0_squaresOf x1 w = some z) : Met l yX0_squaresOf (wsU yX0_squaresOf cX0_squaresOf 5 (some .int)) rm_X0_squaresOf (va_Pc [.ref (gad G 72), .int x1] (PreG G w)) (QI G z) 0 0 (gA G) := by
  refine Met.ofW (cc := cX0_squaresOf) (maxL := 5) (ret := (some .int)) (by decide) rfl ?_
  intro p e s m args below meth c s₁ B hml hv
  obtain ⟨rfl, S⟩ := hv
  have F : CallFix p m c cX0_squaresOf 5 s _ (wsU yX0_squaresOf cX0_squaresOf 5 (some .int)) RX0 := ⟨B.exec, B.bytes, hml, findClass_of_methodNamed B.named, atoms_spec B.pre⟩
  have hr := B.returns
  have hlk := B.notSynchronized
  obtain ⟨hx, hb, -, hown, hts⟩ := id F
  have hg : ∀ q ∈ lwg, q.before _ s = true := fun q h => hts q (List.mem_cons_of_mem _ h)
  refine g_entry (Nat.le_of_ble_eq_true rfl) (fun ls hl => ?_)
  have hl : lv_has ls 5 [(0, .ref (gad G 72)), (1, .int x1)] := hl
  have S : St G w s s.heap [] := S
  generalize s.heap = H at S ⊢
  generalize ([] : List Loc) = locs at S ⊢
  rw [f_X0_squaresOf] at hz
  refine lv_iconst (v := 0) hx hb dX0_squaresOf_0 (by decide) ?_
  refine lv_istore_n (lv' := [(2, .int 0), (0, .ref (gad G 72)), (1, .int x1)]) hx hb dX0_squaresOf_1 rfl hl (by decide) rfl (fun ls hl => ?_)
  refine lv_iconst (v := 0) hx hb dX0_squaresOf_2 (by decide) ?_
  refine lv_istore_n (lv' := [(3, .int 0), (2, .int 0), (0, .ref (gad G 72)), (1, .int x1)]) hx hb dX0_squaresOf_3 rfl hl (by decide) rfl (fun ls hl => ?_)
  exact w_X0_squaresOf_4 F hr hlk fu x1 0 0 _ _ _ _ S (lv_sub hl [2, 3, 1, 0] rfl) hz
