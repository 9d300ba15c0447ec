noncomputable def f_X8_likeliest_205 (k_70 : Int64 → Int32 → Int32 → GW → Option (Int32 × GW)) (x1 : Int64) (x3 : Int32) (x4 : Int32) (w : GW) : Option (Int32 × GW) :=
  k_70 x1 x3 (x4 + 1) w
noncomputable def f_X8_likeliest_101 (k_70 : Int64 → Int32 → Int32 → GW → Option (Int32 × GW)) : Nat → Int64 → Int32 → Int32 → Nat → Int32 → GW → Option (Int32 × GW)
  | 0, _, _, _, _, _, _ => none
  | n9 + 1, x1, x3, x4, k5, x6, w =>
    if (gI w (fxH (gR w 0)) 9) ≤ x6 then
      (f_X5_isAbove 117 119 w).bind fun q11 =>
      if q11.1 = 0 then
        f_X8_likeliest_205 k_70 x1 x3 x4 q11.2
      else
        (f_X5_copy 119 117 q11.2).bind fun q15 =>
        f_X8_likeliest_205 k_70 x1 x4 x4 q15.2
    else
      if inb x6 8 then
      (f_X8_pack (((fxH (gR w 0)) + 12) + 1 + ix x6) w).bind fun q18 =>
      (f_X0_count k5 (gI w (fxH (gR w 0)) 2) 7 q18.1 0 q18.2).bind fun q20 =>
      (f_X8_times (gL q20.2 72 10) x1 q20.2).bind fun q22 =>
      (f_X5_multiply 117 ((gL q20.2 72 9) * q22.1) q22.2).bind fun q24 =>
      f_X8_likeliest_101 k_70 n9 x1 x3 x4 k5 (x6 + 1) q24.2
      else none
noncomputable def f_X8_likeliest_70  : Nat → Int64 → Int32 → Int32 → GW → Option (Int32 × GW)
  | 0, _, _, _, _ => none
  | n9 + 1, x1, x3, x4, w =>
    if (gI w (fxH (gR w 0)) 8) ≤ x4 then
      some (x3, w)
    else
      (f_X5_become 117 1 w).bind fun q5 =>
      (f_X8_ofPorter x4 q5.2).bind fun q7 =>
      f_X8_likeliest_101 (f_X8_likeliest_70 n9) fu x1 x3 x4 q7.1 0 q7.2
noncomputable def f_X8_likeliest_4  : Nat → Int64 → Int32 → GW → Option (Int32 × GW)
  | 0, _, _, _ => none
  | n9 + 1, x1, x3, w =>
    if (gI w (fxH (gR w 0)) 8) ≤ x3 then
      (f_X5_become 119 0 w).bind fun q2 =>
      f_X8_likeliest_70 fu x1 (-2) 0 q2.2
    else
      (f_X8_ofPorter x3 w).bind fun q26 =>
      (f_X0_count q26.1 (gI q26.2 (fxH (gR q26.2 0)) 2) 7 0 0 q26.2).bind fun q29 =>
      f_X8_likeliest_4 n9 (jmaxl x1 (gL q29.2 72 10)) (x3 + 1) q29.2
noncomputable def f_X8_likeliest  (w : GW) : Option (Int32 × GW) :=
  f_X8_likeliest_4 fu 0 0 w
set_option maxHeartbeats 4000000 in
set_option maxRecDepth 100000 in
theorem w_X8_likeliest_205 {p : Program} {l : Launch} {e : Env} {s : State} {m : MethodId} {args : Array Value} {below : List Frame} {meth : Method} {c : Code} {G : GG} (F : CallFix p m c cX8_likeliest 7 s args (wsU yX8_likeliest cX8_likeliest 7 (some .int)) RX8) (hr : meth.sig.returnType = (some .int)) (hlk : meth.locks = false) {z : Int32 × GW} {k_70 : Int64 → Int32 → Int32 → GW → Option (Int32 × GW)} (Hk_70 : (∀ (x1 : Int64) (x3 : Int32) (x4 : Int32) (w : GW) (H : Heap) (locs : List Loc) (ls : Array Slot), St G w s H locs → lv_has ls 7 [(0, .ref (gad G 0)), (1, .long x1), (3, .int x3), (4, .int x4)] → k_70 x1 x3 x4 w = some z → W p l e (headSpec (wsU yX8_likeliest cX8_likeliest 7 (some .int)) rm_X8_likeliest).room s m args below meth c H locs 0 0 (MQ below (QI G z) args s 0 0 (gA G)) (F0 m 70 ls []))) : (∀ (x1 : Int64) (x3 : Int32) (x4 : Int32) (w : GW) (H : Heap) (locs : List Loc) (ls : Array Slot), St G w s H locs → lv_has ls 7 [(0, .ref (gad G 0)), (1, .long x1), (3, .int x3), (4, .int x4)] → f_X8_likeliest_205 k_70 x1 x3 x4 w = some z → W p l e (headSpec (wsU yX8_likeliest cX8_likeliest 7 (some .int)) rm_X8_likeliest).room s m args below meth c H locs 0 0 (MQ below (QI G z) args s 0 0 (gA G)) (F0 m 205 ls [])) := by
  obtain ⟨hx, hb, hml, hown, hts⟩ := id F
  have hg : ∀ q ∈ lwg, q.before args s = true := fun q h => hts q (List.mem_cons_of_mem _ h)
  intro x1 x3 x4 w H locs ls S hl hz
  rw [f_X8_likeliest_205] at hz
  refine lv_iinc (v := (x4 + 1)) (lv' := [(4, .int (x4 + 1)), (0, .ref (gad G 0)), (1, .long x1), (3, .int x3)]) hx hb dX8_likeliest_205 hl (k := 3) rfl rfl (by decide) rfl (fun ls hl => ?_)
  refine lv_goto (tgt := 70) hx hb dX8_likeliest_208 (by decide) ?_
  exact Hk_70 x1 x3 (x4 + 1)  _ _ _ _ S (lv_sub hl [1, 2, 3, 0] rfl) hz
set_option maxHeartbeats 4000000 in
set_option maxRecDepth 100000 in
theorem w_X8_likeliest_101 {p : Program} {l : Launch} {e : Env} {s : State} {m : MethodId} {args : Array Value} {below : List Frame} {meth : Method} {c : Code} {G : GG} (F : CallFix p m c cX8_likeliest 7 s args (wsU yX8_likeliest cX8_likeliest 7 (some .int)) RX8) (hr : meth.sig.returnType = (some .int)) (hlk : meth.locks = false) {z : Int32 × GW} {k_70 : Int64 → Int32 → Int32 → GW → Option (Int32 × GW)} (Hk_70 : (∀ (x1 : Int64) (x3 : Int32) (x4 : Int32) (w : GW) (H : Heap) (locs : List Loc) (ls : Array Slot), St G w s H locs → lv_has ls 7 [(0, .ref (gad G 0)), (1, .long x1), (3, .int x3), (4, .int x4)] → k_70 x1 x3 x4 w = some z → W p l e (headSpec (wsU yX8_likeliest cX8_likeliest 7 (some .int)) rm_X8_likeliest).room s m args below meth c H locs 0 0 (MQ below (QI G z) args s 0 0 (gA G)) (F0 m 70 ls []))) : ∀ (n9 : Nat), (∀ (x1 : Int64) (x3 : Int32) (x4 : Int32) (k5 : Nat) (x6 : Int32) (hk5 : kd k5 = 25) (w : GW) (H : Heap) (locs : List Loc) (ls : Array Slot), St G w s H locs → lv_has ls 7 [(0, .ref (gad G 0)), (1, .long x1), (3, .int x3), (4, .int x4), (5, .ref (gad G k5)), (6, .int x6)] → f_X8_likeliest_101 k_70 n9 x1 x3 x4 k5 x6 w = some z → W p l e (headSpec (wsU yX8_likeliest cX8_likeliest 7 (some .int)) rm_X8_likeliest).room s m args below meth c H locs 0 0 (MQ below (QI G z) args s 0 0 (gA G)) (F0 m 101 ls [])) := by
  obtain ⟨hx, hb, hml, hown, hts⟩ := id F
  have hg : ∀ q ∈ lwg, q.before args s = true := fun q h => hts q (List.mem_cons_of_mem _ h)
  intro n9
  induction n9 with
  | zero =>
    intro x1 x3 x4 k5 x6 hk5 w H locs ls S hl hz
    rw [f_X8_likeliest_101] at hz
    cases hz
  | succ n9 ih =>
    intro x1 x3 x4 k5 x6 hk5 w H locs ls S hl hz
    rw [f_X8_likeliest_101] at hz
    refine lv_iload hx hb dX8_likeliest_101 (lv_at hl 5 rfl) ?_
    refine lv_aload_n hx hb dX8_likeliest_103 rfl (lv_at hl 0 rfl) ?_
    refine fg_X8_9 hx hb (fun q h => hg q (tl_X8 q h)) hown (hg _ t_fl_X8_28) S (by decide) dX8_likeliest_104 ?_
    refine fg_X3_9 hx hb (fun q h => hg q (tl_X3 q h)) hown (hg _ t_fl_X8_154) S (kd_H _) dX8_likeliest_107 ?_
    refine lv_icmp_ge (tgt := 177) hx hb dX8_likeliest_110 (by decide) (fun c10 => ?_) (fun c10 => ?_)
    · have hz := ipt (c10) hz
      refine lv_aload_n hx hb dX8_likeliest_177 rfl (lv_at hl 0 rfl) ?_
      refine fg_X8_5 hx hb (fun q h => hg q (tl_X8 q h)) hown (hg _ t_fl_X8_63) S (by decide) dX8_likeliest_178 ?_
      refine lv_aload_n hx hb dX8_likeliest_181 rfl (lv_at hl 0 rfl) ?_
      refine fg_X8_6 hx hb (fun q h => hg q (tl_X8 q h)) hown (hg _ t_fl_X8_67) S (by decide) dX8_likeliest_182 ?_
      obtain ⟨q11, e12, hz⟩ := bd hz
      refine g_callVb (As := [.ref (gad G 119)]) (rest := []) F S (c_X5_isAbove l G 117 119 (by decide) (by decide) _ e12) (cw_X8_likeliest_X5_isAbove_316 hg) (S.obj (by decide) (by decide) rfl (oc_X5 _ _ _ (by decide))) rfl hl.1 rfl (Nat.le_of_ble_eq_true rfl) ⟨Nat.zero_le _, Nat.zero_le _⟩ dX8_likeliest_185 (fun H locs hB13 S => ?_)
      refine lv_if_eq (tgt := 205) hx hb dX8_likeliest_188 (by decide) (fun c14 => ?_) (fun c14 => ?_)
      · have hz := ipt (c14) hz
        exact w_X8_likeliest_205 F hr hlk Hk_70 x1 x3 x4 _ _ _ _ S (lv_sub hl [0, 1, 2, 3] rfl) hz
      · have hz := ipf (c14) hz
        refine lv_aload_n hx hb dX8_likeliest_191 rfl (lv_at hl 0 rfl) ?_
        refine fg_X8_6 hx hb (fun q h => hg q (tl_X8 q h)) hown (hg _ t_fl_X8_67) S (by decide) dX8_likeliest_192 ?_
        refine lv_aload_n hx hb dX8_likeliest_195 rfl (lv_at hl 0 rfl) ?_
        refine fg_X8_5 hx hb (fun q h => hg q (tl_X8 q h)) hown (hg _ t_fl_X8_63) S (by decide) dX8_likeliest_196 ?_
        obtain ⟨q15, e16, hz⟩ := bd hz
        refine g_callVv (As := [.ref (gad G 117)]) (rest := []) F S (c_X5_copy l G 119 117 (by decide) (by decide) _ e16) (cw_X8_likeliest_X5_copy_320 hg) (S.obj (by decide) (by decide) rfl (oc_X5 _ _ _ (by decide))) rfl hl.1 rfl (Nat.le_of_ble_eq_true rfl) ⟨Nat.zero_le _, Nat.zero_le _⟩ dX8_likeliest_199 (fun H locs  S => ?_)
        refine lv_iload hx hb dX8_likeliest_202 (lv_at hl 3 rfl) ?_
        refine lv_istore_n (lv' := [(3, .int x4), (0, .ref (gad G 0)), (1, .long x1), (4, .int x4), (5, .ref (gad G k5)), (6, .int x6)]) hx hb dX8_likeliest_204 rfl hl (by decide) rfl (fun ls hl => ?_)
        exact w_X8_likeliest_205 F hr hlk Hk_70 x1 x4 x4 _ _ _ _ S (lv_sub hl [1, 2, 0, 3] rfl) hz
    · have hz := ipf (c10) hz
      refine lv_aload_n hx hb dX8_likeliest_113 rfl (lv_at hl 0 rfl) ?_
      refine fg_X8_2 hx hb (fun q h => hg q (tl_X8 q h)) hown (hg _ t_fl_X8_49) S (by decide) dX8_likeliest_114 ?_
      refine lv_aload hx hb dX8_likeliest_117 (lv_at hl 4 rfl) ?_
      refine lv_aload_n hx hb dX8_likeliest_119 rfl (lv_at hl 0 rfl) ?_
      refine fg_X8_9 hx hb (fun q h => hg q (tl_X8 q h)) hown (hg _ t_fl_X8_28) S (by decide) dX8_likeliest_120 ?_
      refine fg_X3_2 hx hb (fun q h => hg q (tl_X3 q h)) hown (hg _ t_fl_X8_157) S (kd_H _) dX8_likeliest_123 ?_
      refine lv_bipush (v := 7) hx hb dX8_likeliest_126 (by decide) ?_
      refine lv_aload_n hx hb dX8_likeliest_128 rfl (lv_at hl 0 rfl) ?_
      refine fg_X8_9 hx hb (fun q h => hg q (tl_X8 q h)) hown (hg _ t_fl_X8_28) S (by decide) dX8_likeliest_129 ?_
      refine fg_X3_15 hx hb (fun q h => hg q (tl_X3 q h)) hown (hg _ t_fl_X8_160) S (kd_H _) dX8_likeliest_132 ?_
      refine lv_iload hx hb dX8_likeliest_135 (lv_at hl 5 rfl) ?_
      obtain ⟨h17, hz⟩ := ck hz
      refine g_aald35 hx hb S (kd_3_12 (kd_H _)) h17 dX8_likeliest_137 ?_
      obtain ⟨q18, e19, hz⟩ := bd hz
      refine g_callSi (As := [.ref (gad G (((fxH (gR w 0)) + 12) + 1 + ix x6))]) (rest := [.int 7, .int (gI w (fxH (gR w 0)) 2), .ref (gad G k5), .ref (gad G 72)]) F S (c_X8_pack l G (((fxH (gR w 0)) + 12) + 1 + ix x6) (kd_el35 (kd_3_12 (kd_H _)) (h17).2) _ e19) (cw_X8_likeliest_X8_pack_164 hg) rfl hl.1 rfl (Nat.le_of_ble_eq_true rfl) ⟨Nat.zero_le _, Nat.zero_le _⟩ dX8_likeliest_138 (fun H locs  S => ?_)
      refine lv_iconst (v := 0) hx hb dX8_likeliest_141 (by decide) ?_
      obtain ⟨q20, e21, hz⟩ := bd hz
      refine g_callVv (As := [.ref (gad G k5), .int (gI w (fxH (gR w 0)) 2), .int 7, .int q18.1, .int 0]) (rest := []) F S (c_X0_count l G k5 (gI w (fxH (gR w 0)) 2) 7 q18.1 0 hk5 _ e21) (cw_X8_likeliest_X0_count_171 hg) (S.obj (by decide) (by decide) rfl (oc_X0 _ _ _ (by decide))) rfl hl.1 rfl (Nat.le_of_ble_eq_true rfl) ⟨Nat.zero_le _, Nat.zero_le _⟩ dX8_likeliest_142 (fun H locs  S => ?_)
      refine lv_aload_n hx hb dX8_likeliest_145 rfl (lv_at hl 0 rfl) ?_
      refine fg_X8_5 hx hb (fun q h => hg q (tl_X8 q h)) hown (hg _ t_fl_X8_63) S (by decide) dX8_likeliest_146 ?_
      refine lv_aload_n hx hb dX8_likeliest_149 rfl (lv_at hl 0 rfl) ?_
      refine fg_X8_2 hx hb (fun q h => hg q (tl_X8 q h)) hown (hg _ t_fl_X8_49) S (by decide) dX8_likeliest_150 ?_
      refine fg_X0_9 hx hb (fun q h => hg q (tl_X0 q h)) hown (hg _ t_fl_X8_175) S (by decide) dX8_likeliest_153 ?_
      refine lv_aload_n hx hb dX8_likeliest_156 rfl (lv_at hl 0 rfl) ?_
      refine fg_X8_2 hx hb (fun q h => hg q (tl_X8 q h)) hown (hg _ t_fl_X8_49) S (by decide) dX8_likeliest_157 ?_
      refine fg_X0_10 hx hb (fun q h => hg q (tl_X0 q h)) hown (hg _ t_fl_X8_179) S (by decide) dX8_likeliest_160 ?_
      refine lv_lload_n hx hb dX8_likeliest_163 rfl (lv_at hl 1 rfl) ?_
      obtain ⟨q22, e23, hz⟩ := bd hz
      refine g_callSl (As := [.long (gL q20.2 72 10), .long x1]) (rest := [.long (gL q20.2 72 9), .ref (gad G 117)]) F S (c_X8_times l G (gL q20.2 72 10) x1  _ e23) (cw_X8_likeliest_X8_times_182 hg) rfl hl.1 rfl (Nat.le_of_ble_eq_true rfl) ⟨Nat.zero_le _, Nat.zero_le _⟩ dX8_likeliest_164 (fun H locs  S => ?_)
      refine lv_lmul hx hb dX8_likeliest_167 ?_
      obtain ⟨q24, e25, hz⟩ := bd hz
      refine g_callVv (As := [.long ((gL q20.2 72 9) * q22.1)]) (rest := []) F S (c_X5_multiply l G 117 ((gL q20.2 72 9) * q22.1) (by decide) _ e25) (cw_X8_likeliest_X5_multiply_313 hg) (S.obj (by decide) (by decide) rfl (oc_X5 _ _ _ (by decide))) rfl hl.1 rfl (Nat.le_of_ble_eq_true rfl) ⟨Nat.zero_le _, Nat.zero_le _⟩ dX8_likeliest_168 (fun H locs  S => ?_)
      refine lv_iinc (v := (x6 + 1)) (lv' := [(6, .int (x6 + 1)), (0, .ref (gad G 0)), (1, .long x1), (3, .int x3), (4, .int x4), (5, .ref (gad G k5))]) hx hb dX8_likeliest_171 hl (k := 5) rfl rfl (by decide) rfl (fun ls hl => ?_)
      refine lv_goto (tgt := 101) hx hb dX8_likeliest_174 (by decide) ?_
      exact ih x1 x3 x4 k5 (x6 + 1) hk5 _ _ _ _ S (lv_sub hl [1, 2, 3, 4, 5, 0] rfl) hz
set_option maxHeartbeats 4000000 in
set_option maxRecDepth 100000 in
theorem w_X8_likeliest_70 {p : Program} {l : Launch} {e : Env} {s : State} {m : MethodId} {args : Array Value} {below : List Frame} {meth : Method} {c : Code} {G : GG} (F : CallFix p m c cX8_likeliest 7 s args (wsU yX8_likeliest cX8_likeliest 7 (some .int)) RX8) (hr : meth.sig.returnType = (some .int)) (hlk : meth.locks = false) {z : Int32 × GW} : ∀ (n9 : Nat), (∀ (x1 : Int64) (x3 : Int32) (x4 : Int32) (w : GW) (H : Heap) (locs : List Loc) (ls : Array Slot), St G w s H locs → lv_has ls 7 [(0, .ref (gad G 0)), (1, .long x1), (3, .int x3), (4, .int x4)] → f_X8_likeliest_70 n9 x1 x3 x4 w = some z → W p l e (headSpec (wsU yX8_likeliest cX8_likeliest 7 (some .int)) rm_X8_likeliest).room s m args below meth c H locs 0 0 (MQ below (QI G z) args s 0 0 (gA G)) (F0 m 70 ls [])) := by
  obtain ⟨hx, hb, hml, hown, hts⟩ := id F
  have hg : ∀ q ∈ lwg, q.before args s = true := fun q h => hts q (List.mem_cons_of_mem _ h)
  intro n9
  induction n9 with
  | zero =>
    intro x1 x3 x4 w H locs ls S hl hz
    rw [f_X8_likeliest_70] at hz
    cases hz
  | succ n9 ih =>
    intro x1 x3 x4 w H locs ls S hl hz
    rw [f_X8_likeliest_70] at hz
    refine lv_iload hx hb dX8_likeliest_70 (lv_at hl 3 rfl) ?_
    refine lv_aload_n hx hb dX8_likeliest_72 rfl (lv_at hl 0 rfl) ?_
    refine fg_X8_9 hx hb (fun q h => hg q (tl_X8 q h)) hown (hg _ t_fl_X8_28) S (by decide) dX8_likeliest_73 ?_
    refine fg_X3_8 hx hb (fun q h => hg q (tl_X3 q h)) hown (hg _ t_fl_X8_109) S (kd_H _) dX8_likeliest_76 ?_
    refine lv_icmp_ge (tgt := 211) hx hb dX8_likeliest_79 (by decide) (fun c4 => ?_) (fun c4 => ?_)
    · have hz := ipt (c4) hz
      refine lv_iload_n hx hb dX8_likeliest_211 rfl (lv_at hl 2 rfl) ?_
      exact g_reti hx hb hr hlk S hz dX8_likeliest_212
    · have hz := ipf (c4) hz
      refine lv_aload_n hx hb dX8_likeliest_82 rfl (lv_at hl 0 rfl) ?_
      refine fg_X8_5 hx hb (fun q h => hg q (tl_X8 q h)) hown (hg _ t_fl_X8_63) S (by decide) dX8_likeliest_83 ?_
      refine lv_lconst (v := 1) hx hb dX8_likeliest_86 (by decide) ?_
      obtain ⟨q5, e6, hz⟩ := bd hz
      refine g_callVv (As := [.long 1]) (rest := []) F S (c_X5_become l G 117 1 (by decide) _ e6) (cw_X8_likeliest_X5_become_310 hg) (S.obj (by decide) (by decide) rfl (oc_X5 _ _ _ (by decide))) rfl hl.1 rfl (Nat.le_of_ble_eq_true rfl) ⟨Nat.zero_le _, Nat.zero_le _⟩ dX8_likeliest_87 (fun H locs  S => ?_)
      refine lv_aload_n hx hb dX8_likeliest_90 rfl (lv_at hl 0 rfl) ?_
      refine lv_iload hx hb dX8_likeliest_91 (lv_at hl 3 rfl) ?_
      obtain ⟨q7, e8, hz⟩ := bd hz
      refine g_callVr (As := [.int x4]) (rest := []) F S (c_X8_ofPorter l G x4  _ e8) (cw_X8_likeliest_X8_ofPorter_142 hg) (S.obj (by decide) (by decide) rfl (oc_X8 _ _ _ (by decide))) rfl hl.1 rfl (Nat.le_of_ble_eq_true rfl) ⟨Nat.zero_le _, Nat.zero_le _⟩ dX8_likeliest_93 (fun H locs hk9 S => ?_)
      refine lv_astore (lv' := [(5, .ref (gad G q7.1)), (0, .ref (gad G 0)), (1, .long x1), (3, .int x3), (4, .int x4)]) hx hb dX8_likeliest_96 hl (by decide) rfl (fun ls hl => ?_)
      refine lv_iconst (v := 0) hx hb dX8_likeliest_98 (by decide) ?_
      refine lv_istore (lv' := [(6, .int 0), (5, .ref (gad G q7.1)), (0, .ref (gad G 0)), (1, .long x1), (3, .int x3), (4, .int x4)]) hx hb dX8_likeliest_99 hl (by decide) rfl (fun ls hl => ?_)
      exact w_X8_likeliest_101 F hr hlk ih fu x1 x3 x4 q7.1 0 hk9 _ _ _ _ S (lv_sub hl [2, 3, 4, 5, 1, 0] rfl) hz
set_option maxHeartbeats 4000000 in
set_option maxRecDepth 100000 in
theorem w_X8_likeliest_4 {p : Program} {l : Launch} {e : Env} {s : State} {m : MethodId} {args : Array Value} {below : List Frame} {meth : Method} {c : Code} {G : GG} (F : CallFix p m c cX8_likeliest 7 s args (wsU yX8_likeliest cX8_likeliest 7 (some .int)) RX8) (hr : meth.sig.returnType = (some .int)) (hlk : meth.locks = false) {z : Int32 × GW} : ∀ (n9 : Nat), (∀ (x1 : Int64) (x3 : Int32) (w : GW) (H : Heap) (locs : List Loc) (ls : Array Slot), St G w s H locs → lv_has ls 7 [(0, .ref (gad G 0)), (1, .long x1), (3, .int x3)] → f_X8_likeliest_4 n9 x1 x3 w = some z → W p l e (headSpec (wsU yX8_likeliest cX8_likeliest 7 (some .int)) rm_X8_likeliest).room s m args below meth c H locs 0 0 (MQ below (QI G z) args s 0 0 (gA G)) (F0 m 4 ls [])) := by
  obtain ⟨hx, hb, hml, hown, hts⟩ := id F
  have hg : ∀ q ∈ lwg, q.before args s = true := fun q h => hts q (List.mem_cons_of_mem _ h)
  intro n9
  induction n9 with
  | zero =>
    intro x1 x3 w H locs ls S hl hz
    rw [f_X8_likeliest_4] at hz
    cases hz
  | succ n9 ih =>
    intro x1 x3 w H locs ls S hl hz
    rw [f_X8_likeliest_4] at hz
    refine lv_iload_n hx hb dX8_likeliest_4 rfl (lv_at hl 2 rfl) ?_
    refine lv_aload_n hx hb dX8_likeliest_5 rfl (lv_at hl 0 rfl) ?_
    refine fg_X8_9 hx hb (fun q h => hg q (tl_X8 q h)) hown (hg _ t_fl_X8_28) S (by decide) dX8_likeliest_6 ?_
    refine fg_X3_8 hx hb (fun q h => hg q (tl_X3 q h)) hown (hg _ t_fl_X8_109) S (kd_H _) dX8_likeliest_9 ?_
    refine lv_icmp_ge (tgt := 56) hx hb dX8_likeliest_12 (by decide) (fun c1 => ?_) (fun c1 => ?_)
    · have hz := ipt (c1) hz
      refine lv_bipush (v := (-2)) hx hb dX8_likeliest_56 (by decide) ?_
      refine lv_istore_n (lv' := [(3, .int (-2)), (0, .ref (gad G 0)), (1, .long x1)]) hx hb dX8_likeliest_58 rfl hl (by decide) rfl (fun ls hl => ?_)
      refine lv_aload_n hx hb dX8_likeliest_59 rfl (lv_at hl 1 rfl) ?_
      refine fg_X8_6 hx hb (fun q h => hg q (tl_X8 q h)) hown (hg _ t_fl_X8_67) S (by decide) dX8_likeliest_60 ?_
      refine lv_lconst (v := 0) hx hb dX8_likeliest_63 (by decide) ?_
      obtain ⟨q2, e3, hz⟩ := bd hz
      refine g_callVv (As := [.long 0]) (rest := []) F S (c_X5_become l G 119 0 (by decide) _ e3) (cw_X8_likeliest_X5_become_310 hg) (S.obj (by decide) (by decide) rfl (oc_X5 _ _ _ (by decide))) rfl hl.1 rfl (Nat.le_of_ble_eq_true rfl) ⟨Nat.zero_le _, Nat.zero_le _⟩ dX8_likeliest_64 (fun H locs  S => ?_)
      refine lv_iconst (v := 0) hx hb dX8_likeliest_67 (by decide) ?_
      refine lv_istore (lv' := [(4, .int 0), (3, .int (-2)), (0, .ref (gad G 0)), (1, .long x1)]) hx hb dX8_likeliest_68 hl (by decide) rfl (fun ls hl => ?_)
      exact w_X8_likeliest_70 F hr hlk fu x1 (-2) 0 _ _ _ _ S (lv_sub hl [2, 3, 1, 0] rfl) hz
    · have hz := ipf (c1) hz
      refine lv_aload_n hx hb dX8_likeliest_15 rfl (lv_at hl 0 rfl) ?_
      refine fg_X8_2 hx hb (fun q h => hg q (tl_X8 q h)) hown (hg _ t_fl_X8_49) S (by decide) dX8_likeliest_16 ?_
      refine lv_aload_n hx hb dX8_likeliest_19 rfl (lv_at hl 0 rfl) ?_
      refine lv_iload_n hx hb dX8_likeliest_20 rfl (lv_at hl 2 rfl) ?_
      obtain ⟨q26, e27, hz⟩ := bd hz
      refine g_callVr (As := [.int x3]) (rest := [.ref (gad G 72)]) F S (c_X8_ofPorter l G x3  _ e27) (cw_X8_likeliest_X8_ofPorter_142 hg) (S.obj (by decide) (by decide) rfl (oc_X8 _ _ _ (by decide))) rfl hl.1 rfl (Nat.le_of_ble_eq_true rfl) ⟨Nat.zero_le _, Nat.zero_le _⟩ dX8_likeliest_21 (fun H locs hk28 S => ?_)
      refine lv_aload_n hx hb dX8_likeliest_24 rfl (lv_at hl 0 rfl) ?_
      refine fg_X8_9 hx hb (fun q h => hg q (tl_X8 q h)) hown (hg _ t_fl_X8_28) S (by decide) dX8_likeliest_25 ?_
      refine fg_X3_2 hx hb (fun q h => hg q (tl_X3 q h)) hown (hg _ t_fl_X8_157) S (kd_H _) dX8_likeliest_28 ?_
      refine lv_bipush (v := 7) hx hb dX8_likeliest_31 (by decide) ?_
      refine lv_iconst (v := 0) hx hb dX8_likeliest_33 (by decide) ?_
      refine lv_iconst (v := 0) hx hb dX8_likeliest_34 (by decide) ?_
      obtain ⟨q29, e30, hz⟩ := bd hz
      refine g_callVv (As := [.ref (gad G q26.1), .int (gI q26.2 (fxH (gR q26.2 0)) 2), .int 7, .int 0, .int 0]) (rest := []) F S (c_X0_count l G q26.1 (gI q26.2 (fxH (gR q26.2 0)) 2) 7 0 0 hk28 _ e30) (cw_X8_likeliest_X0_count_171 hg) (S.obj (by decide) (by decide) rfl (oc_X0 _ _ _ (by decide))) rfl hl.1 rfl (Nat.le_of_ble_eq_true rfl) ⟨Nat.zero_le _, Nat.zero_le _⟩ dX8_likeliest_35 (fun H locs  S => ?_)
      refine lv_lload_n hx hb dX8_likeliest_38 rfl (lv_at hl 1 rfl) ?_
      refine lv_aload_n hx hb dX8_likeliest_39 rfl (lv_at hl 0 rfl) ?_
      refine fg_X8_2 hx hb (fun q h => hg q (tl_X8 q h)) hown (hg _ t_fl_X8_49) S (by decide) dX8_likeliest_40 ?_
      refine fg_X0_10 hx hb (fun q h => hg q (tl_X0 q h)) hown (hg _ t_fl_X8_179) S (by decide) dX8_likeliest_43 ?_
      refine va_mmax_long hx hb (hml.trans hl.1.symm) hown (hg _ t_ml_X8_307) (hg _ t_st_J9_max_f86c9) (hg _ t_in_J9) (hg _ t_co_J9_max_f86c9) (Nat.le_of_ble_eq_true rfl) (Nat.le_of_ble_eq_true rfl) (Nat.zero_le _) (Nat.zero_le _) dX8_likeliest_46 ?_
      refine g_tol (v := (jmaxl x1 (gL q29.2 72 10))) rfl ?_
      refine lv_lstore_n (lv' := [(1, .long (jmaxl x1 (gL q29.2 72 10))), (0, .ref (gad G 0)), (3, .int x3)]) hx hb dX8_likeliest_49 rfl hl (by decide) rfl (fun ls hl => ?_)
      refine lv_iinc (v := (x3 + 1)) (lv' := [(3, .int (x3 + 1)), (1, .long (jmaxl x1 (gL q29.2 72 10))), (0, .ref (gad G 0))]) hx hb dX8_likeliest_50 hl (k := 2) rfl rfl (by decide) rfl (fun ls hl => ?_)
      refine lv_goto (tgt := 4) hx hb dX8_likeliest_53 (by decide) ?_
      exact ih (jmaxl x1 (gL q29.2 72 10)) (x3 + 1)  _ _ _ _ S (lv_sub hl [2, 1, 0] rfl) hz
set_option maxHeartbeats 4000000 in
set_option maxRecDepth 100000 in
theorem c_X8_likeliest (l : Launch) (G : GG)   (w : GW) {z : Int32 × GW} (hz : f_X8_likeliest  w = some z) : Met l yX8_likeliest (wsU yX8_likeliest cX8_likeliest 7 (some .int)) rm_X8_likeliest (va_Pc [.ref (gad G 0)] (PreG G w)) (QI G z) 0 0 (gA G) := by
  refine Met.ofW (cc := cX8_likeliest) (maxL := 7) (ret := (some .int)) (by decide) rfl ?_
  intro p e s m args below meth c s₁ B hml hv
  obtain ⟨rfl, S⟩ := hv
  have F : CallFix p m c cX8_likeliest 7 s _ (wsU yX8_likeliest cX8_likeliest 7 (some .int)) RX8 := ⟨B.exec, B.bytes, hml, findClass_of_methodNamed B.named, atoms_spec B.pre⟩
  have hr := B.returns
  have hlk := B.notSynchronized
  obtain ⟨hx, hb, -, hown, hts⟩ := id F
  have hg : ∀ q ∈ lwg, q.before _ s = true := fun q h => hts q (List.mem_cons_of_mem _ h)
  refine g_entry (Nat.le_of_ble_eq_true rfl) (fun ls hl => ?_)
  have hl : lv_has ls 7 [(0, .ref (gad G 0))] := hl
  have S : St G w s s.heap [] := S
  generalize s.heap = H at S ⊢
  generalize ([] : List Loc) = locs at S ⊢
  rw [f_X8_likeliest] at hz
  refine lv_lconst (v := 0) hx hb dX8_likeliest_0 (by decide) ?_
  refine lv_lstore_n (lv' := [(1, .long 0), (0, .ref (gad G 0))]) hx hb dX8_likeliest_1 rfl hl (by decide) rfl (fun ls hl => ?_)
  refine lv_iconst (v := 0) hx hb dX8_likeliest_2 (by decide) ?_
  refine lv_istore_n (lv' := [(3, .int 0), (1, .long 0), (0, .ref (gad G 0))]) hx hb dX8_likeliest_3 rfl hl (by decide) rfl (fun ls hl => ?_)
  exact w_X8_likeliest_4 F hr hlk fu 0 0 _ _ _ _ S (lv_sub hl [2, 1, 0] rfl) hz
noncomputable def f_X8_likely_35  : Nat → Int32 → GW → Option (Int32 × GW)
  | 0, _, _ => none
  | n9 + 1, x1, w =>
    if (gI w (fxH (gR w 0)) 8) ≤ x1 then
      (f_X8_likeliest w).bind fun q4 =>
      (f_X8_fine q4.1 q4.2).bind fun q6 =>
      some (q6.1, q6.2)
    else
      (f_X8_isTooMany x1 (gI w (fxH (gR w 0)) 2) w).bind fun q8 =>
      if q8.1 = 0 then
        f_X8_likely_35 n9 (x1 + 1) q8.2
      else
        (f_X8_refuse 3 q8.2).bind fun q12 =>
        some (q12.1, q12.2)
noncomputable def f_X8_likely  (w : GW) : Option (Int32 × GW) :=
  if (gI w (fxH (gR w 0)) 0) = 0 then
    (f_X8_refuse 1 w).bind fun q16 =>
    some (q16.1, q16.2)
  else
    if (gI w (fxH (gR w 0)) 9) = 0 then
      (f_X8_refuse 6 w).bind fun q14 =>
      some (q14.1, q14.2)
    else
      f_X8_likely_35 fu 0 w
set_option maxHeartbeats 4000000 in
set_option maxRecDepth 100000 in
theorem w_X8_likely_35 {p : Program} {l : Launch} {e : Env} {s : State} {m : MethodId} {args : Array Value} {below : List Frame} {meth : Method} {c : Code} {G : GG} (F : CallFix p m c cX8_likely 2 s args (wsU yX8_likely cX8_likely 2 (some .int)) RX8) (hr : meth.sig.returnType = (some .int)) (hlk : meth.locks = false) {z : Int32 × GW} : ∀ (n9 : Nat), (∀ (x1 : Int32) (w : GW) (H : Heap) (locs : List Loc) (ls : Array Slot), St G w s H locs → lv_has ls 2 [(0, .ref (gad G 0)), (1, .int x1)] → f_X8_likely_35 n9 x1 w = some z → W p l e (headSpec (wsU yX8_likely cX8_likely 2 (some .int)) rm_X8_likely).room s m args below meth c H locs 0 0 (MQ below (QI G z) args s 0 0 (gA G)) (F0 m 35 ls [])) := by
  obtain ⟨hx, hb, hml, hown, hts⟩ := id F
  have hg : ∀ q ∈ lwg, q.before args s = true := fun q h => hts q (List.mem_cons_of_mem _ h)
  intro n9
  induction n9 with
  | zero =>
    intro x1 w H locs ls S hl hz
    rw [f_X8_likely_35] at hz
    cases hz
  | succ n9 ih =>
    intro x1 w H locs ls S hl hz
    rw [f_X8_likely_35] at hz
    refine lv_iload_n hx hb dX8_likely_35 rfl (lv_at hl 1 rfl) ?_
    refine lv_aload_n hx hb dX8_likely_36 rfl (lv_at hl 0 rfl) ?_
    refine fg_X8_9 hx hb (fun q h => hg q (tl_X8 q h)) hown (hg _ t_fl_X8_28) S (by decide) dX8_likely_37 ?_
    refine fg_X3_8 hx hb (fun q h => hg q (tl_X3 q h)) hown (hg _ t_fl_X8_109) S (kd_H _) dX8_likely_40 ?_
    refine lv_icmp_ge (tgt := 73) hx hb dX8_likely_43 (by decide) (fun c3 => ?_) (fun c3 => ?_)
    · have hz := ipt (c3) hz
      refine lv_aload_n hx hb dX8_likely_73 rfl (lv_at hl 0 rfl) ?_
      refine lv_aload_n hx hb dX8_likely_74 rfl (lv_at hl 0 rfl) ?_
      obtain ⟨q4, e5, hz⟩ := bd hz
      refine g_callVi (As := []) (rest := [.ref (gad G 0)]) F S (c_X8_likeliest l G   _ e5) (cw_X8_likely_X8_likeliest_215 hg) (S.obj (by decide) (by decide) rfl (oc_X8 _ _ _ (by decide))) rfl hl.1 rfl (Nat.le_of_ble_eq_true rfl) ⟨Nat.zero_le _, Nat.zero_le _⟩ dX8_likely_75 (fun H locs  S => ?_)
      obtain ⟨q6, e7, hz⟩ := bd hz
      refine g_callVi (As := [.int q4.1]) (rest := []) F S (c_X8_fine l G q4.1  _ e7) (cw_X8_likely_X8_fine_112 hg) (S.obj (by decide) (by decide) rfl (oc_X8 _ _ _ (by decide))) rfl hl.1 rfl (Nat.le_of_ble_eq_true rfl) ⟨Nat.zero_le _, Nat.zero_le _⟩ dX8_likely_78 (fun H locs  S => ?_)
      exact g_reti hx hb hr hlk S hz dX8_likely_81
    · have hz := ipf (c3) hz
      refine lv_aload_n hx hb dX8_likely_46 rfl (lv_at hl 0 rfl) ?_
      refine lv_iload_n hx hb dX8_likely_47 rfl (lv_at hl 1 rfl) ?_
      refine lv_aload_n hx hb dX8_likely_48 rfl (lv_at hl 0 rfl) ?_
      refine fg_X8_9 hx hb (fun q h => hg q (tl_X8 q h)) hown (hg _ t_fl_X8_28) S (by decide) dX8_likely_49 ?_
      refine fg_X3_2 hx hb (fun q h => hg q (tl_X3 q h)) hown (hg _ t_fl_X8_157) S (kd_H _) dX8_likely_52 ?_
      obtain ⟨q8, e9, hz⟩ := bd hz
      refine g_callVb (As := [.int x1, .int (gI w (fxH (gR w 0)) 2)]) (rest := []) F S (c_X8_isTooMany l G x1 (gI w (fxH (gR w 0)) 2)  _ e9) (cw_X8_likely_X8_isTooMany_168 hg) (S.obj (by decide) (by decide) rfl (oc_X8 _ _ _ (by decide))) rfl hl.1 rfl (Nat.le_of_ble_eq_true rfl) ⟨Nat.zero_le _, Nat.zero_le _⟩ dX8_likely_55 (fun H locs hB10 S => ?_)
      refine lv_if_eq (tgt := 67) hx hb dX8_likely_58 (by decide) (fun c11 => ?_) (fun c11 => ?_)
      · have hz := ipt (c11) hz
        refine lv_iinc (v := (x1 + 1)) (lv' := [(1, .int (x1 + 1)), (0, .ref (gad G 0))]) hx hb dX8_likely_67 hl (k := 1) rfl rfl (by decide) rfl (fun ls hl => ?_)
        refine lv_goto (tgt := 35) hx hb dX8_likely_70 (by decide) ?_
        exact ih (x1 + 1)  _ _ _ _ S (lv_sub hl [1, 0] rfl) hz
      · have hz := ipf (c11) hz
        refine lv_aload_n hx hb dX8_likely_61 rfl (lv_at hl 0 rfl) ?_
        refine lv_iconst (v := 3) hx hb dX8_likely_62 (by decide) ?_
        obtain ⟨q12, e13, hz⟩ := bd hz
        refine g_callVi (As := [.int 3]) (rest := []) F S (c_X8_refuse l G 3  _ e13) (cw_X8_likely_X8_refuse_95 hg) (S.obj (by decide) (by decide) rfl (oc_X8 _ _ _ (by decide))) rfl hl.1 rfl (Nat.le_of_ble_eq_true rfl) ⟨Nat.zero_le _, Nat.zero_le _⟩ dX8_likely_63 (fun H locs  S => ?_)
        exact g_reti hx hb hr hlk S hz dX8_likely_66
set_option maxHeartbeats 4000000 in
set_option maxRecDepth 100000 in
theorem c_X8_likely (l : Launch) (G : GG)   (w : GW) {z : Int32 × GW} (hz : f_X8_likely  w = some z) : Met l yX8_likely (wsU yX8_likely cX8_likely 2 (some .int)) rm_X8_likely (va_Pc [.ref (gad G 0)] (PreG G w)) (QI G z) 0 0 (gA G) := by
  refine Met.ofW (cc := cX8_likely) (maxL := 2) (ret := (some .int)) (by decide) rfl ?_
  intro p e s m args below meth c s₁ B hml hv
  obtain ⟨rfl, S⟩ := hv
  have F : CallFix p m c cX8_likely 2 s _ (wsU yX8_likely cX8_likely 2 (some .int)) RX8 := ⟨B.exec, B.bytes, hml, findClass_of_methodNamed B.named, atoms_spec B.pre⟩
  have hr := B.returns
  have hlk := B.notSynchronized
  obtain ⟨hx, hb, -, hown, hts⟩ := id F
  have hg : ∀ q ∈ lwg, q.before _ s = true := fun q h => hts q (List.mem_cons_of_mem _ h)
  refine g_entry (Nat.le_of_ble_eq_true rfl) (fun ls hl => ?_)
  have hl : lv_has ls 2 [(0, .ref (gad G 0))] := hl
  have S : St G w s s.heap [] := S
  generalize s.heap = H at S ⊢
  generalize ([] : List Loc) = locs at S ⊢
  rw [f_X8_likely] at hz
  refine lv_aload_n hx hb dX8_likely_0 rfl (lv_at hl 0 rfl) ?_
  refine fg_X8_9 hx hb (fun q h => hg q (tl_X8 q h)) hown (hg _ t_fl_X8_28) S (by decide) dX8_likely_1 ?_
  refine fg_X3_0 hx hb (fun q h => hg q (tl_X3 q h)) hown (hg _ t_fl_X8_186) S (kd_H _) dX8_likely_4 ?_
  refine lv_if_ne (tgt := 16) hx hb dX8_likely_7 (by decide) (fun c1 => ?_) (fun c1 => ?_)
  · have hz := ipf (c1) hz
    refine lv_aload_n hx hb dX8_likely_16 rfl (lv_at hl 0 rfl) ?_
    refine fg_X8_9 hx hb (fun q h => hg q (tl_X8 q h)) hown (hg _ t_fl_X8_28) S (by decide) dX8_likely_17 ?_
    refine fg_X3_9 hx hb (fun q h => hg q (tl_X3 q h)) hown (hg _ t_fl_X8_154) S (kd_H _) dX8_likely_20 ?_
    refine lv_if_ne (tgt := 33) hx hb dX8_likely_23 (by decide) (fun c2 => ?_) (fun c2 => ?_)
    · have hz := ipf (c2) hz
      refine lv_iconst (v := 0) hx hb dX8_likely_33 (by decide) ?_
      refine lv_istore_n (lv' := [(1, .int 0), (0, .ref (gad G 0))]) hx hb dX8_likely_34 rfl hl (by decide) rfl (fun ls hl => ?_)
      exact w_X8_likely_35 F hr hlk fu 0 _ _ _ _ S (lv_sub hl [1, 0] rfl) hz
    · have hz := ipt (c2) hz
      refine lv_aload_n hx hb dX8_likely_26 rfl (lv_at hl 0 rfl) ?_
      refine lv_bipush (v := 6) hx hb dX8_likely_27 (by decide) ?_
      obtain ⟨q14, e15, hz⟩ := bd hz
      refine g_callVi (As := [.int 6]) (rest := []) F S (c_X8_refuse l G 6  _ e15) (cw_X8_likely_X8_refuse_95 hg) (S.obj (by decide) (by decide) rfl (oc_X8 _ _ _ (by decide))) rfl hl.1 rfl (Nat.le_of_ble_eq_true rfl) ⟨Nat.zero_le _, Nat.zero_le _⟩ dX8_likely_29 (fun H locs  S => ?_)
      exact g_reti hx hb hr hlk S hz dX8_likely_32
  · have hz := ipt (c1) hz
    refine lv_aload_n hx hb dX8_likely_10 rfl (lv_at hl 0 rfl) ?_
    refine lv_iconst (v := 1) hx hb dX8_likely_11 (by decide) ?_
    obtain ⟨q16, e17, hz⟩ := bd hz
    refine g_callVi (As := [.int 1]) (rest := []) F S (c_X8_refuse l G 1  _ e17) (cw_X8_likely_X8_refuse_95 hg) (S.obj (by decide) (by decide) rfl (oc_X8 _ _ _ (by decide))) rfl hl.1 rfl (Nat.le_of_ble_eq_true rfl) ⟨Nat.zero_le _, Nat.zero_le _⟩ dX8_likely_12 (fun H locs  S => ?_)
    exact g_reti hx hb hr hlk S hz dX8_likely_15
noncomputable def f_X8_cannot_108 (k_46 : Nat → Int32 → Int32 → GW → Option (Int32 × GW)) (k2 : Nat) (x3 : Int32) (x4 : Int32) (w : GW) : Option (Int32 × GW) :=
  k_46 k2 x3 (x4 + 1) w
noncomputable def f_X8_cannot_46  : Nat → Nat → Int32 → Int32 → GW → Option (Int32 × GW)
  | 0, _, _, _, _ => none
  | n9 + 1, k2, x3, x4, w =>
    if (gI w (fxH (gR w 0)) 9) ≤ x4 then
      (f_X8_fine x3 w).bind fun q13 =>
      some (q13.1, q13.2)
    else
      if inb x4 8 then
      (f_X8_pack (((fxH (gR w 0)) + 12) + 1 + ix x4) w).bind fun q16 =>
      (f_X0_count k2 (gI w (fxH (gR w 0)) 2) 7 q16.1 0 q16.2).bind fun q18 =>
      if (gL q18.2 72 9) = 0 then
        f_X8_cannot_108 (f_X8_cannot_46 n9) k2 (x3 ||| ((1 : Int32) <<< (x4 &&& 31))) x4 q18.2
      else
        f_X8_cannot_108 (f_X8_cannot_46 n9) k2 x3 x4 q18.2
      else none
noncomputable def f_X8_cannot (x1 : Int32) (w : GW) : Option (Int32 × GW) :=
  (f_X8_isPorter x1 w).bind fun q1 =>
  if q1.1 = 0 then
    (f_X8_refuse 1 q1.2).bind fun q23 =>
    some (q23.1, q23.2)
  else
    (f_X8_isTooMany x1 (gI q1.2 (fxH (gR q1.2 0)) 2) q1.2).bind fun q5 =>
    if q5.1 = 0 then
      (f_X8_ofPorter x1 q5.2).bind fun q9 =>
      f_X8_cannot_46 fu q9.1 0 0 q9.2
    else
      (f_X8_refuse 3 q5.2).bind fun q21 =>
      some (q21.1, q21.2)
set_option maxHeartbeats 4000000 in
set_option maxRecDepth 100000 in
theorem w_X8_cannot_108 {p : Program} {l : Launch} {e : Env} {s : State} {m : MethodId} {args : Array Value} {below : List Frame} {meth : Method} {c : Code} {G : GG} (F : CallFix p m c cX8_cannot 5 s args (wsU yX8_cannot cX8_cannot 5 (some .int)) RX8) (hr : meth.sig.returnType = (some .int)) (hlk : meth.locks = false) {z : Int32 × GW} {k_46 : Nat → Int32 → Int32 → GW → Option (Int32 × GW)} (Hk_46 : (∀ (k2 : Nat) (x3 : Int32) (x4 : Int32) (hk2 : kd k2 = 25) (w : GW) (H : Heap) (locs : List Loc) (ls : Array Slot), St G w s H locs → lv_has ls 5 [(0, .ref (gad G 0)), (2, .ref (gad G k2)), (3, .int x3), (4, .int x4)] → k_46 k2 x3 x4 w = some z → W p l e (headSpec (wsU yX8_cannot cX8_cannot 5 (some .int)) rm_X8_cannot).room s m args below meth c H locs 0 0 (MQ below (QI G z) args s 0 0 (gA G)) (F0 m 46 ls []))) : (∀ (k2 : Nat) (x3 : Int32) (x4 : Int32) (hk2 : kd k2 = 25) (w : GW) (H : Heap) (locs : List Loc) (ls : Array Slot), St G w s H locs → lv_has ls 5 [(0, .ref (gad G 0)), (2, .ref (gad G k2)), (3, .int x3), (4, .int x4)] → f_X8_cannot_108 k_46 k2 x3 x4 w = some z → W p l e (headSpec (wsU yX8_cannot cX8_cannot 5 (some .int)) rm_X8_cannot).room s m args below meth c H locs 0 0 (MQ below (QI G z) args s 0 0 (gA G)) (F0 m 108 ls [])) := by
  obtain ⟨hx, hb, hml, hown, hts⟩ := id F
  have hg : ∀ q ∈ lwg, q.before args s = true := fun q h => hts q (List.mem_cons_of_mem _ h)
  intro k2 x3 x4 hk2 w H locs ls S hl hz
  rw [f_X8_cannot_108] at hz
  refine lv_iinc (v := (x4 + 1)) (lv' := [(4, .int (x4 + 1)), (0, .ref (gad G 0)), (2, .ref (gad G k2)), (3, .int x3)]) hx hb dX8_cannot_108 hl (k := 3) rfl rfl (by decide) rfl (fun ls hl => ?_)
  refine lv_goto (tgt := 46) hx hb dX8_cannot_111 (by decide) ?_
  exact Hk_46 k2 x3 (x4 + 1) hk2 _ _ _ _ S (lv_sub hl [1, 2, 3, 0] rfl) hz
set_option maxHeartbeats 4000000 in
set_option maxRecDepth 100000 in
theorem w_X8_cannot_46 {p : Program} {l : Launch} {e : Env} {s : State} {m : MethodId} {args : Array Value} {below : List Frame} {meth : Method} {c : Code} {G : GG} (F : CallFix p m c cX8_cannot 5 s args (wsU yX8_cannot cX8_cannot 5 (some .int)) RX8) (hr : meth.sig.returnType = (some .int)) (hlk : meth.locks = false) {z : Int32 × GW} : ∀ (n9 : Nat), (∀ (k2 : Nat) (x3 : Int32) (x4 : Int32) (hk2 : kd k2 = 25) (w : GW) (H : Heap) (locs : List Loc) (ls : Array Slot), St G w s H locs → lv_has ls 5 [(0, .ref (gad G 0)), (2, .ref (gad G k2)), (3, .int x3), (4, .int x4)] → f_X8_cannot_46 n9 k2 x3 x4 w = some z → W p l e (headSpec (wsU yX8_cannot cX8_cannot 5 (some .int)) rm_X8_cannot).room s m args below meth c H locs 0 0 (MQ below (QI G z) args s 0 0 (gA G)) (F0 m 46 ls [])) := by
  obtain ⟨hx, hb, hml, hown, hts⟩ := id F
  have hg : ∀ q ∈ lwg, q.before args s = true := fun q h => hts q (List.mem_cons_of_mem _ h)
  intro n9
  induction n9 with
  | zero =>
    intro k2 x3 x4 hk2 w H locs ls S hl hz
    rw [f_X8_cannot_46] at hz
    cases hz
  | succ n9 ih =>
    intro k2 x3 x4 hk2 w H locs ls S hl hz
    rw [f_X8_cannot_46] at hz
    refine lv_iload hx hb dX8_cannot_46 (lv_at hl 3 rfl) ?_
    refine lv_aload_n hx hb dX8_cannot_48 rfl (lv_at hl 0 rfl) ?_
    refine fg_X8_9 hx hb (fun q h => hg q (tl_X8 q h)) hown (hg _ t_fl_X8_28) S (by decide) dX8_cannot_49 ?_
    refine fg_X3_9 hx hb (fun q h => hg q (tl_X3 q h)) hown (hg _ t_fl_X8_154) S (kd_H _) dX8_cannot_52 ?_
    refine lv_icmp_ge (tgt := 114) hx hb dX8_cannot_55 (by decide) (fun c12 => ?_) (fun c12 => ?_)
    · have hz := ipt (c12) hz
      refine lv_aload_n hx hb dX8_cannot_114 rfl (lv_at hl 0 rfl) ?_
      refine lv_iload_n hx hb dX8_cannot_115 rfl (lv_at hl 2 rfl) ?_
      obtain ⟨q13, e14, hz⟩ := bd hz
      refine g_callVi (As := [.int x3]) (rest := []) F S (c_X8_fine l G x3  _ e14) (cw_X8_cannot_X8_fine_112 hg) (S.obj (by decide) (by decide) rfl (oc_X8 _ _ _ (by decide))) rfl hl.1 rfl (Nat.le_of_ble_eq_true rfl) ⟨Nat.zero_le _, Nat.zero_le _⟩ dX8_cannot_116 (fun H locs  S => ?_)
      exact g_reti hx hb hr hlk S hz dX8_cannot_119
    · have hz := ipf (c12) hz
      refine lv_aload_n hx hb dX8_cannot_58 rfl (lv_at hl 0 rfl) ?_
      refine fg_X8_2 hx hb (fun q h => hg q (tl_X8 q h)) hown (hg _ t_fl_X8_49) S (by decide) dX8_cannot_59 ?_
      refine lv_aload_n hx hb dX8_cannot_62 rfl (lv_at hl 1 rfl) ?_
      refine lv_aload_n hx hb dX8_cannot_63 rfl (lv_at hl 0 rfl) ?_
      refine fg_X8_9 hx hb (fun q h => hg q (tl_X8 q h)) hown (hg _ t_fl_X8_28) S (by decide) dX8_cannot_64 ?_
      refine fg_X3_2 hx hb (fun q h => hg q (tl_X3 q h)) hown (hg _ t_fl_X8_157) S (kd_H _) dX8_cannot_67 ?_
      refine lv_bipush (v := 7) hx hb dX8_cannot_70 (by decide) ?_
      refine lv_aload_n hx hb dX8_cannot_72 rfl (lv_at hl 0 rfl) ?_
      refine fg_X8_9 hx hb (fun q h => hg q (tl_X8 q h)) hown (hg _ t_fl_X8_28) S (by decide) dX8_cannot_73 ?_
      refine fg_X3_15 hx hb (fun q h => hg q (tl_X3 q h)) hown (hg _ t_fl_X8_160) S (kd_H _) dX8_cannot_76 ?_
      refine lv_iload hx hb dX8_cannot_79 (lv_at hl 3 rfl) ?_
      obtain ⟨h15, hz⟩ := ck hz
      refine g_aald35 hx hb S (kd_3_12 (kd_H _)) h15 dX8_cannot_81 ?_
      obtain ⟨q16, e17, hz⟩ := bd hz
      refine g_callSi (As := [.ref (gad G (((fxH (gR w 0)) + 12) + 1 + ix x4))]) (rest := [.int 7, .int (gI w (fxH (gR w 0)) 2), .ref (gad G k2), .ref (gad G 72)]) F S (c_X8_pack l G (((fxH (gR w 0)) + 12) + 1 + ix x4) (kd_el35 (kd_3_12 (kd_H _)) (h15).2) _ e17) (cw_X8_cannot_X8_pack_164 hg) rfl hl.1 rfl (Nat.le_of_ble_eq_true rfl) ⟨Nat.zero_le _, Nat.zero_le _⟩ dX8_cannot_82 (fun H locs  S => ?_)
      refine lv_iconst (v := 0) hx hb dX8_cannot_85 (by decide) ?_
      obtain ⟨q18, e19, hz⟩ := bd hz
      refine g_callVv (As := [.ref (gad G k2), .int (gI w (fxH (gR w 0)) 2), .int 7, .int q16.1, .int 0]) (rest := []) F S (c_X0_count l G k2 (gI w (fxH (gR w 0)) 2) 7 q16.1 0 hk2 _ e19) (cw_X8_cannot_X0_count_171 hg) (S.obj (by decide) (by decide) rfl (oc_X0 _ _ _ (by decide))) rfl hl.1 rfl (Nat.le_of_ble_eq_true rfl) ⟨Nat.zero_le _, Nat.zero_le _⟩ dX8_cannot_86 (fun H locs  S => ?_)
      refine lv_aload_n hx hb dX8_cannot_89 rfl (lv_at hl 0 rfl) ?_
      refine fg_X8_2 hx hb (fun q h => hg q (tl_X8 q h)) hown (hg _ t_fl_X8_49) S (by decide) dX8_cannot_90 ?_
      refine fg_X0_9 hx hb (fun q h => hg q (tl_X0 q h)) hown (hg _ t_fl_X8_175) S (by decide) dX8_cannot_93 ?_
      refine lv_lconst (v := 0) hx hb dX8_cannot_96 (by decide) ?_
      refine W.lcmp hx hb dX8_cannot_97 ?_
      refine lv_if_ne (tgt := 108) hx hb dX8_cannot_98 (by decide) (fun c20 => ?_) (fun c20 => ?_)
      · have hz := ipf (fun q9 => c20 ((lg_cmp_eq _ _).mpr q9)) hz
        exact w_X8_cannot_108 F hr hlk ih k2 x3 x4 hk2 _ _ _ _ S (lv_sub hl [0, 1, 2, 3] rfl) hz
      · have hz := ipt ((lg_cmp_eq _ _).mp c20) hz
        refine lv_iload_n hx hb dX8_cannot_101 rfl (lv_at hl 2 rfl) ?_
        refine lv_iconst (v := 1) hx hb dX8_cannot_102 (by decide) ?_
        refine lv_iload hx hb dX8_cannot_103 (lv_at hl 3 rfl) ?_
        refine lv_ishl hx hb dX8_cannot_105 ?_
        refine lv_ior hx hb dX8_cannot_106 ?_
        refine lv_istore_n (lv' := [(3, .int (x3 ||| ((1 : Int32) <<< (x4 &&& 31)))), (0, .ref (gad G 0)), (2, .ref (gad G k2)), (4, .int x4)]) hx hb dX8_cannot_107 rfl hl (by decide) rfl (fun ls hl => ?_)
        exact w_X8_cannot_108 F hr hlk ih k2 (x3 ||| ((1 : Int32) <<< (x4 &&& 31))) x4 hk2 _ _ _ _ S (lv_sub hl [1, 2, 0, 3] rfl) hz
set_option maxHeartbeats 4000000 in
set_option maxRecDepth 100000 in
theorem c_X8_cannot (l : Launch) (G : GG) (x1 : Int32)  (w : GW) {z : Int32 × GW} (hz : f_X8_cannot x1 w = some z) : Met l yX8_cannot (wsU yX8_cannot cX8_cannot 5 (some .int)) rm_X8_cannot (va_Pc [.ref (gad G 0), .int x1] (PreG G w)) (QI G z) 0 0 (gA G) := by
  refine Met.ofW (cc := cX8_cannot) (maxL := 5) (ret := (some .int)) (by decide) rfl ?_
  intro p e s m args below meth c s₁ B hml hv
  obtain ⟨rfl, S⟩ := hv
  have F : CallFix p m c cX8_cannot 5 s _ (wsU yX8_cannot cX8_cannot 5 (some .int)) RX8 := ⟨B.exec, B.bytes, hml, findClass_of_methodNamed B.named, atoms_spec B.pre⟩
  have hr := B.returns
  have hlk := B.notSynchronized
  obtain ⟨hx, hb, -, hown, hts⟩ := id F
  have hg : ∀ q ∈ lwg, q.before _ s = true := fun q h => hts q (List.mem_cons_of_mem _ h)
  refine g_entry (Nat.le_of_ble_eq_true rfl) (fun ls hl => ?_)
  have hl : lv_has ls 5 [(0, .ref (gad G 0)), (1, .int x1)] := hl
  have S : St G w s s.heap [] := S
  generalize s.heap = H at S ⊢
  generalize ([] : List Loc) = locs at S ⊢
  rw [f_X8_cannot] at hz
  refine lv_aload_n hx hb dX8_cannot_0 rfl (lv_at hl 0 rfl) ?_
  refine lv_iload_n hx hb dX8_cannot_1 rfl (lv_at hl 1 rfl) ?_
  obtain ⟨q1, e2, hz⟩ := bd hz
  refine g_callVb (As := [.int x1]) (rest := []) F S (c_X8_isPorter l G x1  _ e2) (cw_X8_cannot_X8_isPorter_121 hg) (S.obj (by decide) (by decide) rfl (oc_X8 _ _ _ (by decide))) rfl hl.1 rfl (Nat.le_of_ble_eq_true rfl) ⟨Nat.zero_le _, Nat.zero_le _⟩ dX8_cannot_2 (fun H locs hB3 S => ?_)
  refine lv_if_ne (tgt := 14) hx hb dX8_cannot_5 (by decide) (fun c4 => ?_) (fun c4 => ?_)
  · have hz := ipf (c4) hz
    refine lv_aload_n hx hb dX8_cannot_14 rfl (lv_at hl 0 rfl) ?_
    refine lv_iload_n hx hb dX8_cannot_15 rfl (lv_at hl 1 rfl) ?_
    refine lv_aload_n hx hb dX8_cannot_16 rfl (lv_at hl 0 rfl) ?_
    refine fg_X8_9 hx hb (fun q h => hg q (tl_X8 q h)) hown (hg _ t_fl_X8_28) S (by decide) dX8_cannot_17 ?_
    refine fg_X3_2 hx hb (fun q h => hg q (tl_X3 q h)) hown (hg _ t_fl_X8_157) S (kd_H _) dX8_cannot_20 ?_
    obtain ⟨q5, e6, hz⟩ := bd hz
    refine g_callVb (As := [.int x1, .int (gI q1.2 (fxH (gR q1.2 0)) 2)]) (rest := []) F S (c_X8_isTooMany l G x1 (gI q1.2 (fxH (gR q1.2 0)) 2)  _ e6) (cw_X8_cannot_X8_isTooMany_168 hg) (S.obj (by decide) (by decide) rfl (oc_X8 _ _ _ (by decide))) rfl hl.1 rfl (Nat.le_of_ble_eq_true rfl) ⟨Nat.zero_le _, Nat.zero_le _⟩ dX8_cannot_23 (fun H locs hB7 S => ?_)
    refine lv_if_eq (tgt := 35) hx hb dX8_cannot_26 (by decide) (fun c8 => ?_) (fun c8 => ?_)
    · have hz := ipt (c8) hz
      refine lv_aload_n hx hb dX8_cannot_35 rfl (lv_at hl 0 rfl) ?_
      refine lv_iload_n hx hb dX8_cannot_36 rfl (lv_at hl 1 rfl) ?_
      obtain ⟨q9, e10, hz⟩ := bd hz
      refine g_callVr (As := [.int x1]) (rest := []) F S (c_X8_ofPorter l G x1  _ e10) (cw_X8_cannot_X8_ofPorter_142 hg) (S.obj (by decide) (by decide) rfl (oc_X8 _ _ _ (by decide))) rfl hl.1 rfl (Nat.le_of_ble_eq_true rfl) ⟨Nat.zero_le _, Nat.zero_le _⟩ dX8_cannot_37 (fun H locs hk11 S => ?_)
      refine lv_astore_n (lv' := [(2, .ref (gad G q9.1)), (0, .ref (gad G 0)), (1, .int x1)]) hx hb dX8_cannot_40 rfl hl (by decide) rfl (fun ls hl => ?_)
      refine lv_iconst (v := 0) hx hb dX8_cannot_41 (by decide) ?_
      refine lv_istore_n (lv' := [(3, .int 0), (2, .ref (gad G q9.1)), (0, .ref (gad G 0)), (1, .int x1)]) hx hb dX8_cannot_42 rfl hl (by decide) rfl (fun ls hl => ?_)
      refine lv_iconst (v := 0) hx hb dX8_cannot_43 (by decide) ?_
      refine lv_istore (lv' := [(4, .int 0), (3, .int 0), (2, .ref (gad G q9.1)), (0, .ref (gad G 0)), (1, .int x1)]) hx hb dX8_cannot_44 hl (by decide) rfl (fun ls hl => ?_)
      exact w_X8_cannot_46 F hr hlk fu q9.1 0 0 hk11 _ _ _ _ S (lv_sub hl [3, 2, 1, 0] rfl) hz
    · have hz := ipf (c8) hz
      refine lv_aload_n hx hb dX8_cannot_29 rfl (lv_at hl 0 rfl) ?_
      refine lv_iconst (v := 3) hx hb dX8_cannot_30 (by decide) ?_
      obtain ⟨q21, e22, hz⟩ := bd hz
      refine g_callVi (As := [.int 3]) (rest := []) F S (c_X8_refuse l G 3  _ e22) (cw_X8_cannot_X8_refuse_95 hg) (S.obj (by decide) (by decide) rfl (oc_X8 _ _ _ (by decide))) rfl hl.1 rfl (Nat.le_of_ble_eq_true rfl) ⟨Nat.zero_le _, Nat.zero_le _⟩ dX8_cannot_31 (fun H locs  S => ?_)
      exact g_reti hx hb hr hlk S hz dX8_cannot_34
  · have hz := ipt (c4) hz
    refine lv_aload_n hx hb dX8_cannot_8 rfl (lv_at hl 0 rfl) ?_
    refine lv_iconst (v := 1) hx hb dX8_cannot_9 (by decide) ?_
    obtain ⟨q23, e24, hz⟩ := bd hz
    refine g_callVi (As := [.int 1]) (rest := []) F S (c_X8_refuse l G 1  _ e24) (cw_X8_cannot_X8_refuse_95 hg) (S.obj (by decide) (by decide) rfl (oc_X8 _ _ _ (by decide))) rfl hl.1 rfl (Nat.le_of_ble_eq_true rfl) ⟨Nat.zero_le _, Nat.zero_le _⟩ dX8_cannot_10 (fun H locs  S => ?_)
    exact g_reti hx hb hr hlk S hz dX8_cannot_13
noncomputable def f_X8_day_28  (x1 : Int32) (x2 : Int32) (t0 : Int32) (w : GW) : Option (Int32 × GW) :=
  if (gI (sI w 0 12 t0) 0 12) = 0 then
    (f_X2_begin 121 x1 x2 (sI w 0 12 t0)).bind fun q7 =>
    some (1, q7.2)
  else
    some (0, (sI w 0 12 t0))
noncomputable def f_X8_day_23  (x1 : Int32) (x2 : Int32) (w : GW) : Option (Int32 × GW) :=
  f_X8_day_28 x1 x2 2 w
noncomputable def f_X8_day (x1 : Int32) (x2 : Int32) (w : GW) : Option (Int32 × GW) :=
  (f_X8_isPorter x1 w).bind fun q1 =>
  if q1.1 = 0 then
    f_X8_day_28 x1 x2 1 q1.2
  else
    if x2 < 0 then
      f_X8_day_23 x1 x2 q1.2
    else
      if x2 < 65537 then
        f_X8_day_28 x1 x2 0 q1.2
      else
        f_X8_day_23 x1 x2 q1.2
set_option maxHeartbeats 4000000 in
set_option maxRecDepth 100000 in
theorem w_X8_day_28 {p : Program} {l : Launch} {e : Env} {s : State} {m : MethodId} {args : Array Value} {below : List Frame} {meth : Method} {c : Code} {G : GG} (F : CallFix p m c cX8_day 3 s args (wsU yX8_day cX8_day 3 (some .boolean)) RX8) (hr : meth.sig.returnType = (some .boolean)) (hlk : meth.locks = false) {z : Int32 × GW} : (∀ (x1 : Int32) (x2 : Int32) (t0 : Int32) (w : GW) (H : Heap) (locs : List Loc) (ls : Array Slot), St G w s H locs → lv_has ls 3 [(0, .ref (gad G 0)), (1, .int x1), (2, .int x2)] → f_X8_day_28 x1 x2 t0 w = some z → W p l e (headSpec (wsU yX8_day cX8_day 3 (some .boolean)) rm_X8_day).room s m args below meth c H locs 0 0 (MQ below (QB G z) args s 0 0 (gA G)) (F0 m 28 ls [.int t0, .ref (gad G 0)])) := by
  obtain ⟨hx, hb, hml, hown, hts⟩ := id F
  have hg : ∀ q ∈ lwg, q.before args s = true := fun q h => hts q (List.mem_cons_of_mem _ h)
  intro x1 x2 t0 w H locs ls S hl hz
  rw [f_X8_day_28] at hz
  refine fp_X8_12 (v := t0) hx hb (fun q h => hg q (tl_X8 q h)) hown (hg _ t_fl_X8_85) S (by decide) dX8_day_28 (fun H locs S => ?_)
  refine lv_aload_n hx hb dX8_day_31 rfl (lv_at hl 0 rfl) ?_
  refine fg_X8_12 hx hb (fun q h => hg q (tl_X8 q h)) hown (hg _ t_fl_X8_85) S (by decide) dX8_day_32 ?_
  refine lv_if_eq (tgt := 40) hx hb dX8_day_35 (by decide) (fun c6 => ?_) (fun c6 => ?_)
  · have hz := ipt (c6) hz
    refine lv_aload_n hx hb dX8_day_40 rfl (lv_at hl 0 rfl) ?_
    refine fg_X8_7 hx hb (fun q h => hg q (tl_X8 q h)) hown (hg _ t_fl_X8_73) S (by decide) dX8_day_41 ?_
    refine lv_iload_n hx hb dX8_day_44 rfl (lv_at hl 1 rfl) ?_
    refine lv_iload_n hx hb dX8_day_45 rfl (lv_at hl 2 rfl) ?_
    obtain ⟨q7, e8, hz⟩ := bd hz
    refine g_callVv (As := [.int x1, .int x2]) (rest := []) F S (c_X2_begin l G 121 x1 x2 (by decide) _ e8) (cw_X8_day_X2_begin_106 hg) (S.obj (by decide) (by decide) rfl (oc_X2 _ _ _ (by decide))) rfl hl.1 rfl (Nat.le_of_ble_eq_true rfl) ⟨Nat.zero_le _, Nat.zero_le _⟩ dX8_day_46 (fun H locs  S => ?_)
    refine lv_iconst (v := 1) hx hb dX8_day_49 (by decide) ?_
    exact g_retb hx hb hr hlk S isB_1 hz dX8_day_50
  · have hz := ipf (c6) hz
    refine lv_iconst (v := 0) hx hb dX8_day_38 (by decide) ?_
    exact g_retb hx hb hr hlk S isB_0 hz dX8_day_39
set_option maxHeartbeats 4000000 in
set_option maxRecDepth 100000 in
theorem w_X8_day_23 {p : Program} {l : Launch} {e : Env} {s : State} {m : MethodId} {args : Array Value} {below : List Frame} {meth : Method} {c : Code} {G : GG} (F : CallFix p m c cX8_day 3 s args (wsU yX8_day cX8_day 3 (some .boolean)) RX8) (hr : meth.sig.returnType = (some .boolean)) (hlk : meth.locks = false) {z : Int32 × GW} : (∀ (x1 : Int32) (x2 : Int32) (w : GW) (H : Heap) (locs : List Loc) (ls : Array Slot), St G w s H locs → lv_has ls 3 [(0, .ref (gad G 0)), (1, .int x1), (2, .int x2)] → f_X8_day_23 x1 x2 w = some z → W p l e (headSpec (wsU yX8_day cX8_day 3 (some .boolean)) rm_X8_day).room s m args below meth c H locs 0 0 (MQ below (QB G z) args s 0 0 (gA G)) (F0 m 23 ls [.ref (gad G 0)])) := by
  obtain ⟨hx, hb, hml, hown, hts⟩ := id F
  have hg : ∀ q ∈ lwg, q.before args s = true := fun q h => hts q (List.mem_cons_of_mem _ h)
  intro x1 x2 w H locs ls S hl hz
  rw [f_X8_day_23] at hz
  refine lv_iconst (v := 2) hx hb dX8_day_23 (by decide) ?_
  refine lv_goto (tgt := 28) hx hb dX8_day_24 (by decide) ?_
  exact w_X8_day_28 F hr hlk x1 x2 2 _ _ _ _ S (lv_sub hl [0, 1, 2] rfl) hz
set_option maxHeartbeats 4000000 in
set_option maxRecDepth 100000 in
theorem c_X8_day (l : Launch) (G : GG) (x1 : Int32) (x2 : Int32)  (w : GW) {z : Int32 × GW} (hz : f_X8_day x1 x2 w = some z) : Met l yX8_day (wsU yX8_day cX8_day 3 (some .boolean)) rm_X8_day (va_Pc [.ref (gad G 0), .int x1, .int x2] (PreG G w)) (QB G z) 0 0 (gA G) := by
  refine Met.ofW (cc := cX8_day) (maxL := 3) (ret := (some .boolean)) (by decide) rfl ?_
  intro p e s m args below meth c s₁ B hml hv
  obtain ⟨rfl, S⟩ := hv
  have F : CallFix p m c cX8_day 3 s _ (wsU yX8_day cX8_day 3 (some .boolean)) RX8 := ⟨B.exec, B.bytes, hml, findClass_of_methodNamed B.named, atoms_spec B.pre⟩
  have hr := B.returns
  have hlk := B.notSynchronized
  obtain ⟨hx, hb, -, hown, hts⟩ := id F
  have hg : ∀ q ∈ lwg, q.before _ s = true := fun q h => hts q (List.mem_cons_of_mem _ h)
  refine g_entry (Nat.le_of_ble_eq_true rfl) (fun ls hl => ?_)
  have hl : lv_has ls 3 [(0, .ref (gad G 0)), (1, .int x1), (2, .int x2)] := hl
  have S : St G w s s.heap [] := S
  generalize s.heap = H at S ⊢
  generalize ([] : List Loc) = locs at S ⊢
  rw [f_X8_day] at hz
  refine lv_aload_n hx hb dX8_day_0 rfl (lv_at hl 0 rfl) ?_
  refine lv_aload_n hx hb dX8_day_1 rfl (lv_at hl 0 rfl) ?_
  refine lv_iload_n hx hb dX8_day_2 rfl (lv_at hl 1 rfl) ?_
  obtain ⟨q1, e2, hz⟩ := bd hz
  refine g_callVb (As := [.int x1]) (rest := [.ref (gad G 0)]) F S (c_X8_isPorter l G x1  _ e2) (cw_X8_day_X8_isPorter_121 hg) (S.obj (by decide) (by decide) rfl (oc_X8 _ _ _ (by decide))) rfl hl.1 rfl (Nat.le_of_ble_eq_true rfl) ⟨Nat.zero_le _, Nat.zero_le _⟩ dX8_day_3 (fun H locs hB3 S => ?_)
  refine lv_if_ne (tgt := 13) hx hb dX8_day_6 (by decide) (fun c4 => ?_) (fun c4 => ?_)
  · have hz := ipf (c4) hz
    refine lv_iload_n hx hb dX8_day_13 rfl (lv_at hl 2 rfl) ?_
    refine lv_if_lt (tgt := 23) hx hb dX8_day_14 (by decide) (fun c5 => ?_) (fun c5 => ?_)
    · have hz := ipt (c5) hz
      exact w_X8_day_23 F hr hlk x1 x2 _ _ _ _ S (lv_sub hl [0, 1, 2] rfl) hz
    · have hz := ipf (c5) hz
      refine lv_iload_n hx hb dX8_day_17 rfl (lv_at hl 2 rfl) ?_
      refine lv_ldc (v := 65537) hx hb hown (hg _ t_ci_X8_219) dX8_day_18 ?_
      refine lv_icmp_lt (tgt := 27) hx hb dX8_day_20 (by decide) (fun c9 => ?_) (fun c9 => ?_)
      · have hz := ipt (c9) hz
        refine lv_iconst (v := 0) hx hb dX8_day_27 (by decide) ?_
        exact w_X8_day_28 F hr hlk x1 x2 0 _ _ _ _ S (lv_sub hl [0, 1, 2] rfl) hz
      · have hz := ipf (c9) hz
        exact w_X8_day_23 F hr hlk x1 x2 _ _ _ _ S (lv_sub hl [0, 1, 2] rfl) hz
  · have hz := ipt (c4) hz
    refine lv_iconst (v := 1) hx hb dX8_day_9 (by decide) ?_
    refine lv_goto (tgt := 28) hx hb dX8_day_10 (by decide) ?_
    exact w_X8_day_28 F hr hlk x1 x2 1 _ _ _ _ S (lv_sub hl [0, 1, 2] rfl) hz
noncomputable def f_X8_put_27   (w : GW) : Option (Int32 × GW) :=
  (f_X8_refuse 2 w).bind fun q3 =>
  some (q3.1, q3.2)
noncomputable def f_X8_put_105  : Nat → Int32 → Int32 → GW → Option (Int32 × GW)
  | 0, _, _, _ => none
  | n9 + 1, x2, x3, w =>
    if x2 ≤ x3 then
      (f_X8_fine x2 w).bind fun q11 =>
      some (q11.1, q11.2)
    else
      (f_X1_putByDraws 121 w).bind fun q13 =>
      f_X8_put_105 n9 x2 (x3 + 1) q13.2
noncomputable def f_X8_put (x1 : Int32) (w : GW) : Option (Int32 × GW) :=
  if (gI w (fxH (gR w 0)) 0) = 0 then
    (f_X8_refuse 1 w).bind fun q17 =>
    some (q17.1, q17.2)
  else
    if x1 < 1 then
      f_X8_put_27 w
    else
      if x1 ≤ 8 then
        if (gI w 121 2) < (gI w (fxH (gR w 0)) 2) then
          if inb (gI w 121 0) 6 then
          (f_X1_ready (fxH (gR w 0)) (((fxH (gR w 0)) + 4) + 1 + ix (gI w 121 0)) w).bind fun q8 =>
          f_X8_put_105 fu (jmin x1 ((gI q8.2 (fxH (gR q8.2 0)) 2) - (gI q8.2 121 2))) 0 q8.2
          else none
        else
          (f_X8_refuse 6 w).bind fun q15 =>
          some (q15.1, q15.2)
      else
        f_X8_put_27 w
set_option maxHeartbeats 4000000 in
set_option maxRecDepth 100000 in
theorem w_X8_put_27 {p : Program} {l : Launch} {e : Env} {s : State} {m : MethodId} {args : Array Value} {below : List Frame} {meth : Method} {c : Code} {G : GG} (F : CallFix p m c cX8_put 4 s args (wsU yX8_put cX8_put 4 (some .int)) RX8) (hr : meth.sig.returnType = (some .int)) (hlk : meth.locks = false) {z : Int32 × GW} : (∀ (w : GW) (H : Heap) (locs : List Loc) (ls : Array Slot), St G w s H locs → lv_has ls 4 [(0, .ref (gad G 0))] → f_X8_put_27  w = some z → W p l e (headSpec (wsU yX8_put cX8_put 4 (some .int)) rm_X8_put).room s m args below meth c H locs 0 0 (MQ below (QI G z) args s 0 0 (gA G)) (F0 m 27 ls [])) := by
  obtain ⟨hx, hb, hml, hown, hts⟩ := id F
  have hg : ∀ q ∈ lwg, q.before args s = true := fun q h => hts q (List.mem_cons_of_mem _ h)
  intro w H locs ls S hl hz
  rw [f_X8_put_27] at hz
  refine lv_aload_n hx hb dX8_put_27 rfl (lv_at hl 0 rfl) ?_
  refine lv_iconst (v := 2) hx hb dX8_put_28 (by decide) ?_
  obtain ⟨q3, e4, hz⟩ := bd hz
  refine g_callVi (As := [.int 2]) (rest := []) F S (c_X8_refuse l G 2  _ e4) (cw_X8_put_X8_refuse_95 hg) (S.obj (by decide) (by decide) rfl (oc_X8 _ _ _ (by decide))) rfl hl.1 rfl (Nat.le_of_ble_eq_true rfl) ⟨Nat.zero_le _, Nat.zero_le _⟩ dX8_put_29 (fun H locs  S => ?_)
  exact g_reti hx hb hr hlk S hz dX8_put_32
set_option maxHeartbeats 4000000 in
set_option maxRecDepth 100000 in
theorem w_X8_put_105 {p : Program} {l : Launch} {e : Env} {s : State} {m : MethodId} {args : Array Value} {below : List Frame} {meth : Method} {c : Code} {G : GG} (F : CallFix p m c cX8_put 4 s args (wsU yX8_put cX8_put 4 (some .int)) RX8) (hr : meth.sig.returnType = (some .int)) (hlk : meth.locks = false) {z : Int32 × GW} : ∀ (n9 : Nat), (∀ (x2 : Int32) (x3 : Int32) (w : GW) (H : Heap) (locs : List Loc) (ls : Array Slot), St G w s H locs → lv_has ls 4 [(0, .ref (gad G 0)), (2, .int x2), (3, .int x3)] → f_X8_put_105 n9 x2 x3 w = some z → W p l e (headSpec (wsU yX8_put cX8_put 4 (some .int)) rm_X8_put).room s m args below meth c H locs 0 0 (MQ below (QI G z) args s 0 0 (gA G)) (F0 m 105 ls [])) := by
  obtain ⟨hx, hb, hml, hown, hts⟩ := id F
  have hg : ∀ q ∈ lwg, q.before args s = true := fun q h => hts q (List.mem_cons_of_mem _ h)
  intro n9
  induction n9 with
  | zero =>
    intro x2 x3 w H locs ls S hl hz
    rw [f_X8_put_105] at hz
    cases hz
  | succ n9 ih =>
    intro x2 x3 w H locs ls S hl hz
    rw [f_X8_put_105] at hz
    refine lv_iload_n hx hb dX8_put_105 rfl (lv_at hl 2 rfl) ?_
    refine lv_iload_n hx hb dX8_put_106 rfl (lv_at hl 1 rfl) ?_
    refine lv_icmp_ge (tgt := 127) hx hb dX8_put_107 (by decide) (fun c10 => ?_) (fun c10 => ?_)
    · have hz := ipt (c10) hz
      refine lv_aload_n hx hb dX8_put_127 rfl (lv_at hl 0 rfl) ?_
      refine lv_iload_n hx hb dX8_put_128 rfl (lv_at hl 1 rfl) ?_
      obtain ⟨q11, e12, hz⟩ := bd hz
      refine g_callVi (As := [.int x2]) (rest := []) F S (c_X8_fine l G x2  _ e12) (cw_X8_put_X8_fine_112 hg) (S.obj (by decide) (by decide) rfl (oc_X8 _ _ _ (by decide))) rfl hl.1 rfl (Nat.le_of_ble_eq_true rfl) ⟨Nat.zero_le _, Nat.zero_le _⟩ dX8_put_129 (fun H locs  S => ?_)
      exact g_reti hx hb hr hlk S hz dX8_put_132
    · have hz := ipf (c10) hz
      refine lv_aload_n hx hb dX8_put_110 rfl (lv_at hl 0 rfl) ?_
      refine fg_X8_3 hx hb (fun q h => hg q (tl_X8 q h)) hown (hg _ t_fl_X8_40) S (by decide) dX8_put_111 ?_
      refine lv_aload_n hx hb dX8_put_114 rfl (lv_at hl 0 rfl) ?_
      refine fg_X8_7 hx hb (fun q h => hg q (tl_X8 q h)) hown (hg _ t_fl_X8_73) S (by decide) dX8_put_115 ?_
      obtain ⟨q13, e14, hz⟩ := bd hz
      refine g_callVv (As := [.ref (gad G 121)]) (rest := []) F S (c_X1_putByDraws l G 121 (by decide) _ e14) (cw_X8_put_X1_putByDraws_237 hg) (S.obj (by decide) (by decide) rfl (oc_X1 _ _ _ (by decide))) rfl hl.1 rfl (Nat.le_of_ble_eq_true rfl) ⟨Nat.zero_le _, Nat.zero_le _⟩ dX8_put_118 (fun H locs  S => ?_)
      refine lv_iinc (v := (x3 + 1)) (lv' := [(3, .int (x3 + 1)), (0, .ref (gad G 0)), (2, .int x2)]) hx hb dX8_put_121 hl (k := 2) rfl rfl (by decide) rfl (fun ls hl => ?_)
      refine lv_goto (tgt := 105) hx hb dX8_put_124 (by decide) ?_
      exact ih x2 (x3 + 1)  _ _ _ _ S (lv_sub hl [1, 2, 0] rfl) hz
set_option maxHeartbeats 4000000 in
set_option maxRecDepth 100000 in
theorem c_X8_put (l : Launch) (G : GG) (x1 : Int32)  (w : GW) {z : Int32 × GW} (hz : f_X8_put x1 w = some z) : Met l yX8_put (wsU yX8_put cX8_put 4 (some .int)) rm_X8_put (va_Pc [.ref (gad G 0), .int x1] (PreG G w)) (QI G z) 0 0 (gA G) := by
  refine Met.ofW (cc := cX8_put) (maxL := 4) (ret := (some .int)) (by decide) rfl ?_
  intro p e s m args below meth c s₁ B hml hv
  obtain ⟨rfl, S⟩ := hv
  have F : CallFix p m c cX8_put 4 s _ (wsU yX8_put cX8_put 4 (some .int)) RX8 := ⟨B.exec, B.bytes, hml, findClass_of_methodNamed B.named, atoms_spec B.pre⟩
  have hr := B.returns
  have hlk := B.notSynchronized
  obtain ⟨hx, hb, -, hown, hts⟩ := id F
  have hg : ∀ q ∈ lwg, q.before _ s = true := fun q h => hts q (List.mem_cons_of_mem _ h)
  refine g_entry (Nat.le_of_ble_eq_true rfl) (fun ls hl => ?_)
  have hl : lv_has ls 4 [(0, .ref (gad G 0)), (1, .int x1)] := hl
  have S : St G w s s.heap [] := S
  generalize s.heap = H at S ⊢
  generalize ([] : List Loc) = locs at S ⊢
  rw [f_X8_put] at hz
  refine lv_aload_n hx hb dX8_put_0 rfl (lv_at hl 0 rfl) ?_
  refine fg_X8_9 hx hb (fun q h => hg q (tl_X8 q h)) hown (hg _ t_fl_X8_28) S (by decide) dX8_put_1 ?_
  refine fg_X3_0 hx hb (fun q h => hg q (tl_X3 q h)) hown (hg _ t_fl_X8_186) S (kd_H _) dX8_put_4 ?_
  refine lv_if_ne (tgt := 16) hx hb dX8_put_7 (by decide) (fun c1 => ?_) (fun c1 => ?_)
  · have hz := ipf (c1) hz
    refine lv_iload_n hx hb dX8_put_16 rfl (lv_at hl 1 rfl) ?_
    refine lv_iconst (v := 1) hx hb dX8_put_17 (by decide) ?_
    refine lv_icmp_lt (tgt := 27) hx hb dX8_put_18 (by decide) (fun c2 => ?_) (fun c2 => ?_)
    · have hz := ipt (c2) hz
      exact w_X8_put_27 F hr hlk _ _ _ _ S (lv_sub hl [0] rfl) hz
    · have hz := ipf (c2) hz
      refine lv_iload_n hx hb dX8_put_21 rfl (lv_at hl 1 rfl) ?_
      refine lv_bipush (v := 8) hx hb dX8_put_22 (by decide) ?_
      refine lv_icmp_le (tgt := 33) hx hb dX8_put_24 (by decide) (fun c5 => ?_) (fun c5 => ?_)
      · have hz := ipt (c5) hz
        refine lv_aload_n hx hb dX8_put_33 rfl (lv_at hl 0 rfl) ?_
        refine fg_X8_7 hx hb (fun q h => hg q (tl_X8 q h)) hown (hg _ t_fl_X8_73) S (by decide) dX8_put_34 ?_
        refine fg_X2_2 hx hb (fun q h => hg q (tl_X2 q h)) hown (hg _ t_fl_X8_220) S (by decide) dX8_put_37 ?_
        refine lv_aload_n hx hb dX8_put_40 rfl (lv_at hl 0 rfl) ?_
        refine fg_X8_9 hx hb (fun q h => hg q (tl_X8 q h)) hown (hg _ t_fl_X8_28) S (by decide) dX8_put_41 ?_
        refine fg_X3_2 hx hb (fun q h => hg q (tl_X3 q h)) hown (hg _ t_fl_X8_157) S (kd_H _) dX8_put_44 ?_
        refine lv_icmp_lt (tgt := 57) hx hb dX8_put_47 (by decide) (fun c6 => ?_) (fun c6 => ?_)
        · have hz := ipt (c6) hz
          refine lv_aload_n hx hb dX8_put_57 rfl (lv_at hl 0 rfl) ?_
          refine fg_X8_3 hx hb (fun q h => hg q (tl_X8 q h)) hown (hg _ t_fl_X8_40) S (by decide) dX8_put_58 ?_
          refine lv_aload_n hx hb dX8_put_61 rfl (lv_at hl 0 rfl) ?_
          refine fg_X8_9 hx hb (fun q h => hg q (tl_X8 q h)) hown (hg _ t_fl_X8_28) S (by decide) dX8_put_62 ?_
          refine lv_aload_n hx hb dX8_put_65 rfl (lv_at hl 0 rfl) ?_
          refine fg_X8_9 hx hb (fun q h => hg q (tl_X8 q h)) hown (hg _ t_fl_X8_28) S (by decide) dX8_put_66 ?_
          refine fg_X3_13 hx hb (fun q h => hg q (tl_X3 q h)) hown (hg _ t_fl_X8_221) S (kd_H _) dX8_put_69 ?_
          refine lv_aload_n hx hb dX8_put_72 rfl (lv_at hl 0 rfl) ?_
          refine fg_X8_7 hx hb (fun q h => hg q (tl_X8 q h)) hown (hg _ t_fl_X8_73) S (by decide) dX8_put_73 ?_
          refine fg_X2_0 hx hb (fun q h => hg q (tl_X2 q h)) hown (hg _ t_fl_X8_225) S (by decide) dX8_put_76 ?_
          obtain ⟨h7, hz⟩ := ck hz
          refine g_aald33 hx hb S (kd_3_4 (kd_H _)) h7 dX8_put_79 ?_
          obtain ⟨q8, e9, hz⟩ := bd hz
          refine g_callVv (As := [.ref (gad G (fxH (gR w 0))), .ref (gad G (((fxH (gR w 0)) + 4) + 1 + ix (gI w 121 0)))]) (rest := []) F S (c_X1_ready l G (fxH (gR w 0)) (((fxH (gR w 0)) + 4) + 1 + ix (gI w 121 0)) (kd_H _) (kd_el33 (kd_3_4 (kd_H _)) (h7).2) _ e9) (cw_X8_put_X1_ready_227 hg) (S.obj (by decide) (by decide) rfl (oc_X1 _ _ _ (by decide))) rfl hl.1 rfl (Nat.le_of_ble_eq_true rfl) ⟨Nat.zero_le _, Nat.zero_le _⟩ dX8_put_80 (fun H locs  S => ?_)
          refine lv_iload_n hx hb dX8_put_83 rfl (lv_at hl 1 rfl) ?_
          refine lv_aload_n hx hb dX8_put_84 rfl (lv_at hl 0 rfl) ?_
          refine fg_X8_9 hx hb (fun q h => hg q (tl_X8 q h)) hown (hg _ t_fl_X8_28) S (by decide) dX8_put_85 ?_
          refine fg_X3_2 hx hb (fun q h => hg q (tl_X3 q h)) hown (hg _ t_fl_X8_157) S (kd_H _) dX8_put_88 ?_
          refine lv_aload_n hx hb dX8_put_91 rfl (lv_at hl 0 rfl) ?_
          refine fg_X8_7 hx hb (fun q h => hg q (tl_X8 q h)) hown (hg _ t_fl_X8_73) S (by decide) dX8_put_92 ?_
          refine fg_X2_2 hx hb (fun q h => hg q (tl_X2 q h)) hown (hg _ t_fl_X8_220) S (by decide) dX8_put_95 ?_
          refine lv_isub hx hb dX8_put_98 ?_
          refine va_mmin hx hb (hml.trans hl.1.symm) hown (hg _ t_ml_X8_231) (hg _ t_st_J9_min_7cf53) (hg _ t_in_J9) (hg _ t_co_J9_min_7cf53) (Nat.le_of_ble_eq_true rfl) (Nat.le_of_ble_eq_true rfl) (Nat.zero_le _) (Nat.zero_le _) dX8_put_99 ?_
          refine g_toi (v := (jmin x1 ((gI q8.2 (fxH (gR q8.2 0)) 2) - (gI q8.2 121 2)))) rfl ?_
          refine lv_istore_n (lv' := [(2, .int (jmin x1 ((gI q8.2 (fxH (gR q8.2 0)) 2) - (gI q8.2 121 2)))), (0, .ref (gad G 0)), (1, .int x1)]) hx hb dX8_put_102 rfl hl (by decide) rfl (fun ls hl => ?_)
          refine lv_iconst (v := 0) hx hb dX8_put_103 (by decide) ?_
          refine lv_istore_n (lv' := [(3, .int 0), (2, .int (jmin x1 ((gI q8.2 (fxH (gR q8.2 0)) 2) - (gI q8.2 121 2)))), (0, .ref (gad G 0)), (1, .int x1)]) hx hb dX8_put_104 rfl hl (by decide) rfl (fun ls hl => ?_)
          exact w_X8_put_105 F hr hlk fu (jmin x1 ((gI q8.2 (fxH (gR q8.2 0)) 2) - (gI q8.2 121 2))) 0 _ _ _ _ S (lv_sub hl [2, 1, 0] rfl) hz
        · have hz := ipf (c6) hz
          refine lv_aload_n hx hb dX8_put_50 rfl (lv_at hl 0 rfl) ?_
          refine lv_bipush (v := 6) hx hb dX8_put_51 (by decide) ?_
          obtain ⟨q15, e16, hz⟩ := bd hz
          refine g_callVi (As := [.int 6]) (rest := []) F S (c_X8_refuse l G 6  _ e16) (cw_X8_put_X8_refuse_95 hg) (S.obj (by decide) (by decide) rfl (oc_X8 _ _ _ (by decide))) rfl hl.1 rfl (Nat.le_of_ble_eq_true rfl) ⟨Nat.zero_le _, Nat.zero_le _⟩ dX8_put_53 (fun H locs  S => ?_)
          exact g_reti hx hb hr hlk S hz dX8_put_56
      · have hz := ipf (c5) hz
        exact w_X8_put_27 F hr hlk _ _ _ _ S (lv_sub hl [0] rfl) hz
  · have hz := ipt (c1) hz
    refine lv_aload_n hx hb dX8_put_10 rfl (lv_at hl 0 rfl) ?_
    refine lv_iconst (v := 1) hx hb dX8_put_11 (by decide) ?_
    obtain ⟨q17, e18, hz⟩ := bd hz
    refine g_callVi (As := [.int 1]) (rest := []) F S (c_X8_refuse l G 1  _ e18) (cw_X8_put_X8_refuse_95 hg) (S.obj (by decide) (by decide) rfl (oc_X8 _ _ _ (by decide))) rfl hl.1 rfl (Nat.le_of_ble_eq_true rfl) ⟨Nat.zero_le _, Nat.zero_le _⟩ dX8_put_12 (fun H locs  S => ?_)
    exact g_reti hx hb hr hlk S hz dX8_put_15
noncomputable def f_X8_isNextRefused_36  (t0 : Int32) (w : GW) : Option (Int32 × GW) :=
  if (gI (sI w 0 12 t0) 0 12) = 0 then
    some (0, (sI w 0 12 t0))
  else
    some (1, (sI w 0 12 t0))
noncomputable def f_X8_isNextRefused (x1 : Int32) (w : GW) : Option (Int32 × GW) :=
  (f_X8_isBox x1 w).bind fun q1 =>
  if q1.1 = 0 then
    f_X8_isNextRefused_36 1 q1.2
  else
    if (gI q1.2 121 2) < (gI q1.2 (fxH (gR q1.2 0)) 2) then
      f_X8_isNextRefused_36 0 q1.2
    else
      f_X8_isNextRefused_36 6 q1.2
set_option maxHeartbeats 4000000 in
set_option maxRecDepth 100000 in
theorem w_X8_isNextRefused_36 {p : Program} {l : Launch} {e : Env} {s : State} {m : MethodId} {args : Array Value} {below : List Frame} {meth : Method} {c : Code} {G : GG} (F : CallFix p m c cX8_isNextRefused 2 s args (wsU yX8_isNextRefused cX8_isNextRefused 2 (some .boolean)) RX8) (hr : meth.sig.returnType = (some .boolean)) (hlk : meth.locks = false) {z : Int32 × GW} : (∀ (t0 : Int32) (w : GW) (H : Heap) (locs : List Loc) (ls : Array Slot), St G w s H locs → lv_has ls 2 [(0, .ref (gad G 0))] → f_X8_isNextRefused_36 t0 w = some z → W p l e (headSpec (wsU yX8_isNextRefused cX8_isNextRefused 2 (some .boolean)) rm_X8_isNextRefused).room s m args below meth c H locs 0 0 (MQ below (QB G z) args s 0 0 (gA G)) (F0 m 36 ls [.int t0, .ref (gad G 0)])) := by
  obtain ⟨hx, hb, hml, hown, hts⟩ := id F
  have hg : ∀ q ∈ lwg, q.before args s = true := fun q h => hts q (List.mem_cons_of_mem _ h)
  intro t0 w H locs ls S hl hz
  rw [f_X8_isNextRefused_36] at hz
  refine fp_X8_12 (v := t0) hx hb (fun q h => hg q (tl_X8 q h)) hown (hg _ t_fl_X8_85) S (by decide) dX8_isNextRefused_36 (fun H locs S => ?_)
  refine lv_aload_n hx hb dX8_isNextRefused_39 rfl (lv_at hl 0 rfl) ?_
  refine fg_X8_12 hx hb (fun q h => hg q (tl_X8 q h)) hown (hg _ t_fl_X8_85) S (by decide) dX8_isNextRefused_40 ?_
  refine lv_if_eq (tgt := 50) hx hb dX8_isNextRefused_43 (by decide) (fun c6 => ?_) (fun c6 => ?_)
  · have hz := ipt (c6) hz
    refine lv_iconst (v := 0) hx hb dX8_isNextRefused_50 (by decide) ?_
    exact g_retb hx hb hr hlk S isB_0 hz dX8_isNextRefused_51
  · have hz := ipf (c6) hz
    refine lv_iconst (v := 1) hx hb dX8_isNextRefused_46 (by decide) ?_
    refine lv_goto (tgt := 51) hx hb dX8_isNextRefused_47 (by decide) ?_
    exact g_retb hx hb hr hlk S isB_1 hz dX8_isNextRefused_51
set_option maxHeartbeats 4000000 in
set_option maxRecDepth 100000 in
theorem c_X8_isNextRefused (l : Launch) (G : GG) (x1 : Int32)  (w : GW) {z : Int32 × GW} (hz : f_X8_isNextRefused x1 w = some z) : Met l yX8_isNextRefused (wsU yX8_isNextRefused cX8_isNextRefused 2 (some .boolean)) rm_X8_isNextRefused (va_Pc [.ref (gad G 0), .int x1] (PreG G w)) (QB G z) 0 0 (gA G) := by
  refine Met.ofW (cc := cX8_isNextRefused) (maxL := 2) (ret := (some .boolean)) (by decide) rfl ?_
  intro p e s m args below meth c s₁ B hml hv
  obtain ⟨rfl, S⟩ := hv
  have F : CallFix p m c cX8_isNextRefused 2 s _ (wsU yX8_isNextRefused cX8_isNextRefused 2 (some .boolean)) RX8 := ⟨B.exec, B.bytes, hml, findClass_of_methodNamed B.named, atoms_spec B.pre⟩
  have hr := B.returns
  have hlk := B.notSynchronized
  obtain ⟨hx, hb, -, hown, hts⟩ := id F
  have hg : ∀ q ∈ lwg, q.before _ s = true := fun q h => hts q (List.mem_cons_of_mem _ h)
  refine g_entry (Nat.le_of_ble_eq_true rfl) (fun ls hl => ?_)
  have hl : lv_has ls 2 [(0, .ref (gad G 0)), (1, .int x1)] := hl
  have S : St G w s s.heap [] := S
  generalize s.heap = H at S ⊢
  generalize ([] : List Loc) = locs at S ⊢
  rw [f_X8_isNextRefused] at hz
  refine lv_aload_n hx hb dX8_isNextRefused_0 rfl (lv_at hl 0 rfl) ?_
  refine lv_aload_n hx hb dX8_isNextRefused_1 rfl (lv_at hl 0 rfl) ?_
  refine lv_iload_n hx hb dX8_isNextRefused_2 rfl (lv_at hl 1 rfl) ?_
  obtain ⟨q1, e2, hz⟩ := bd hz
  refine g_callVb (As := [.int x1]) (rest := [.ref (gad G 0)]) F S (c_X8_isBox l G x1  _ e2) (cw_X8_isNextRefused_X8_isBox_135 hg) (S.obj (by decide) (by decide) rfl (oc_X8 _ _ _ (by decide))) rfl hl.1 rfl (Nat.le_of_ble_eq_true rfl) ⟨Nat.zero_le _, Nat.zero_le _⟩ dX8_isNextRefused_3 (fun H locs hB3 S => ?_)
  refine lv_if_ne (tgt := 13) hx hb dX8_isNextRefused_6 (by decide) (fun c4 => ?_) (fun c4 => ?_)
  · have hz := ipf (c4) hz
    refine lv_aload_n hx hb dX8_isNextRefused_13 rfl (lv_at hl 0 rfl) ?_
    refine fg_X8_7 hx hb (fun q h => hg q (tl_X8 q h)) hown (hg _ t_fl_X8_73) S (by decide) dX8_isNextRefused_14 ?_
    refine fg_X2_2 hx hb (fun q h => hg q (tl_X2 q h)) hown (hg _ t_fl_X8_220) S (by decide) dX8_isNextRefused_17 ?_
    refine lv_aload_n hx hb dX8_isNextRefused_20 rfl (lv_at hl 0 rfl) ?_
    refine fg_X8_9 hx hb (fun q h => hg q (tl_X8 q h)) hown (hg _ t_fl_X8_28) S (by decide) dX8_isNextRefused_21 ?_
    refine fg_X3_2 hx hb (fun q h => hg q (tl_X3 q h)) hown (hg _ t_fl_X8_157) S (kd_H _) dX8_isNextRefused_24 ?_
    refine lv_icmp_lt (tgt := 35) hx hb dX8_isNextRefused_27 (by decide) (fun c5 => ?_) (fun c5 => ?_)
    · have hz := ipt (c5) hz
      refine lv_iconst (v := 0) hx hb dX8_isNextRefused_35 (by decide) ?_
      exact w_X8_isNextRefused_36 F hr hlk 0 _ _ _ _ S (lv_sub hl [0] rfl) hz
    · have hz := ipf (c5) hz
      refine lv_bipush (v := 6) hx hb dX8_isNextRefused_30 (by decide) ?_
      refine lv_goto (tgt := 36) hx hb dX8_isNextRefused_32 (by decide) ?_
      exact w_X8_isNextRefused_36 F hr hlk 6 _ _ _ _ S (lv_sub hl [0] rfl) hz
  · have hz := ipt (c4) hz
    refine lv_iconst (v := 1) hx hb dX8_isNextRefused_9 (by decide) ?_
    refine lv_goto (tgt := 36) hx hb dX8_isNextRefused_10 (by decide) ?_
    exact w_X8_isNextRefused_36 F hr hlk 1 _ _ _ _ S (lv_sub hl [0] rfl) hz
noncomputable def f_X8_goes (x1 : Int32) (x2 : Int32) (w : GW) : Option (Int64 × GW) :=
  (f_X8_isNextRefused x1 w).bind fun q1 =>
  if q1.1 = 0 then
    if inb (gI q1.2 121 0) 6 then
    (f_X1_ready (fxH (gR q1.2 0)) (((fxH (gR q1.2 0)) + 4) + 1 + ix (gI q1.2 121 0)) q1.2).bind fun q6 =>
    (f_X1_weigh (121 + 1) (gI q6.2 121 4) ((gI q6.2 121 2) + 1) q6.2).bind fun q8 =>
    (f_X1_waysTo (121 + 1) x1 q8.2).bind fun q10 =>
    (f_X1_allWays q10.2).bind fun q12 =>
    (f_X8_told q10.1 q12.1 x2 q12.2).bind fun q14 =>
    some (q14.1, q14.2)
    else none
  else
    some ((-1), q1.2)
set_option maxHeartbeats 4000000 in
set_option maxRecDepth 100000 in
theorem c_X8_goes (l : Launch) (G : GG) (x1 : Int32) (x2 : Int32)  (w : GW) {z : Int64 × GW} (hz : f_X8_goes x1 x2 w = some z) : Met l yX8_goes (wsU yX8_goes cX8_goes 3 (some .long)) rm_X8_goes (va_Pc [.ref (gad G 0), .int x1, .int x2] (PreG G w)) (QL G z) 0 0 (gA G) := by
  refine Met.ofW (cc := cX8_goes) (maxL := 3) (ret := (some .long)) (by decide) rfl ?_
  intro p e s m args below meth c s₁ B hml hv
  obtain ⟨rfl, S⟩ := hv
  have F : CallFix p m c cX8_goes 3 s _ (wsU yX8_goes cX8_goes 3 (some .long)) RX8 := ⟨B.exec, B.bytes, hml, findClass_of_methodNamed B.named, atoms_spec B.pre⟩
  have hr := B.returns
  have hlk := B.notSynchronized
  obtain ⟨hx, hb, -, hown, hts⟩ := id F
  have hg : ∀ q ∈ lwg, q.before _ s = true := fun q h => hts q (List.mem_cons_of_mem _ h)
  refine g_entry (Nat.le_of_ble_eq_true rfl) (fun ls hl => ?_)
  have hl : lv_has ls 3 [(0, .ref (gad G 0)), (1, .int x1), (2, .int x2)] := hl
  have S : St G w s s.heap [] := S
  generalize s.heap = H at S ⊢
  generalize ([] : List Loc) = locs at S ⊢
  rw [f_X8_goes] at hz
  refine lv_aload_n hx hb dX8_goes_0 rfl (lv_at hl 0 rfl) ?_
  refine lv_iload_n hx hb dX8_goes_1 rfl (lv_at hl 1 rfl) ?_
  obtain ⟨q1, e2, hz⟩ := bd hz
  refine g_callVb (As := [.int x1]) (rest := []) F S (c_X8_isNextRefused l G x1  _ e2) (cw_X8_goes_X8_isNextRefused_241 hg) (S.obj (by decide) (by decide) rfl (oc_X8 _ _ _ (by decide))) rfl hl.1 rfl (Nat.le_of_ble_eq_true rfl) ⟨Nat.zero_le _, Nat.zero_le _⟩ dX8_goes_2 (fun H locs hB3 S => ?_)
  refine lv_if_eq (tgt := 12) hx hb dX8_goes_5 (by decide) (fun c4 => ?_) (fun c4 => ?_)
  · have hz := ipt (c4) hz
    refine lv_aload_n hx hb dX8_goes_12 rfl (lv_at hl 0 rfl) ?_
    refine fg_X8_3 hx hb (fun q h => hg q (tl_X8 q h)) hown (hg _ t_fl_X8_40) S (by decide) dX8_goes_13 ?_
    refine lv_aload_n hx hb dX8_goes_16 rfl (lv_at hl 0 rfl) ?_
    refine fg_X8_9 hx hb (fun q h => hg q (tl_X8 q h)) hown (hg _ t_fl_X8_28) S (by decide) dX8_goes_17 ?_
    refine lv_aload_n hx hb dX8_goes_20 rfl (lv_at hl 0 rfl) ?_
    refine fg_X8_9 hx hb (fun q h => hg q (tl_X8 q h)) hown (hg _ t_fl_X8_28) S (by decide) dX8_goes_21 ?_
    refine fg_X3_13 hx hb (fun q h => hg q (tl_X3 q h)) hown (hg _ t_fl_X8_221) S (kd_H _) dX8_goes_24 ?_
    refine lv_aload_n hx hb dX8_goes_27 rfl (lv_at hl 0 rfl) ?_
    refine fg_X8_7 hx hb (fun q h => hg q (tl_X8 q h)) hown (hg _ t_fl_X8_73) S (by decide) dX8_goes_28 ?_
    refine fg_X2_0 hx hb (fun q h => hg q (tl_X2 q h)) hown (hg _ t_fl_X8_225) S (by decide) dX8_goes_31 ?_
    obtain ⟨h5, hz⟩ := ck hz
    refine g_aald33 hx hb S (kd_3_4 (kd_H _)) h5 dX8_goes_34 ?_
    obtain ⟨q6, e7, hz⟩ := bd hz
    refine g_callVv (As := [.ref (gad G (fxH (gR q1.2 0))), .ref (gad G (((fxH (gR q1.2 0)) + 4) + 1 + ix (gI q1.2 121 0)))]) (rest := []) F S (c_X1_ready l G (fxH (gR q1.2 0)) (((fxH (gR q1.2 0)) + 4) + 1 + ix (gI q1.2 121 0)) (kd_H _) (kd_el33 (kd_3_4 (kd_H _)) (h5).2) _ e7) (cw_X8_goes_X1_ready_227 hg) (S.obj (by decide) (by decide) rfl (oc_X1 _ _ _ (by decide))) rfl hl.1 rfl (Nat.le_of_ble_eq_true rfl) ⟨Nat.zero_le _, Nat.zero_le _⟩ dX8_goes_35 (fun H locs  S => ?_)
    refine lv_aload_n hx hb dX8_goes_38 rfl (lv_at hl 0 rfl) ?_
    refine fg_X8_3 hx hb (fun q h => hg q (tl_X8 q h)) hown (hg _ t_fl_X8_40) S (by decide) dX8_goes_39 ?_
    refine lv_aload_n hx hb dX8_goes_42 rfl (lv_at hl 0 rfl) ?_
    refine fg_X8_7 hx hb (fun q h => hg q (tl_X8 q h)) hown (hg _ t_fl_X8_73) S (by decide) dX8_goes_43 ?_
    refine fg_X2_5 hx hb (fun q h => hg q (tl_X2 q h)) hown (hg _ t_fl_X8_244) S (by decide) dX8_goes_46 ?_
    refine lv_aload_n hx hb dX8_goes_49 rfl (lv_at hl 0 rfl) ?_
    refine fg_X8_7 hx hb (fun q h => hg q (tl_X8 q h)) hown (hg _ t_fl_X8_73) S (by decide) dX8_goes_50 ?_
    refine fg_X2_4 hx hb (fun q h => hg q (tl_X2 q h)) hown (hg _ t_fl_X8_248) S (by decide) dX8_goes_53 ?_
    refine lv_aload_n hx hb dX8_goes_56 rfl (lv_at hl 0 rfl) ?_
    refine fg_X8_7 hx hb (fun q h => hg q (tl_X8 q h)) hown (hg _ t_fl_X8_73) S (by decide) dX8_goes_57 ?_
    refine fg_X2_2 hx hb (fun q h => hg q (tl_X2 q h)) hown (hg _ t_fl_X8_220) S (by decide) dX8_goes_60 ?_
    refine lv_iconst (v := 1) hx hb dX8_goes_63 (by decide) ?_
    refine lv_iadd hx hb dX8_goes_64 ?_
    obtain ⟨q8, e9, hz⟩ := bd hz
    refine g_callVv (As := [.ref (gad G (121 + 1)), .int (gI q6.2 121 4), .int ((gI q6.2 121 2) + 1)]) (rest := []) F S (c_X1_weigh l G (121 + 1) (gI q6.2 121 4) ((gI q6.2 121 2) + 1) (by decide) _ e9) (cw_X8_goes_X1_weigh_251 hg) (S.obj (by decide) (by decide) rfl (oc_X1 _ _ _ (by decide))) rfl hl.1 rfl (Nat.le_of_ble_eq_true rfl) ⟨Nat.zero_le _, Nat.zero_le _⟩ dX8_goes_65 (fun H locs  S => ?_)
    refine lv_aload_n hx hb dX8_goes_68 rfl (lv_at hl 0 rfl) ?_
    refine lv_aload_n hx hb dX8_goes_69 rfl (lv_at hl 0 rfl) ?_
    refine fg_X8_3 hx hb (fun q h => hg q (tl_X8 q h)) hown (hg _ t_fl_X8_40) S (by decide) dX8_goes_70 ?_
    refine lv_aload_n hx hb dX8_goes_73 rfl (lv_at hl 0 rfl) ?_
    refine fg_X8_7 hx hb (fun q h => hg q (tl_X8 q h)) hown (hg _ t_fl_X8_73) S (by decide) dX8_goes_74 ?_
    refine fg_X2_5 hx hb (fun q h => hg q (tl_X2 q h)) hown (hg _ t_fl_X8_244) S (by decide) dX8_goes_77 ?_
    refine lv_iload_n hx hb dX8_goes_80 rfl (lv_at hl 1 rfl) ?_
    obtain ⟨q10, e11, hz⟩ := bd hz
    refine g_callVl (As := [.ref (gad G (121 + 1)), .int x1]) (rest := [.ref (gad G 0)]) F S (c_X1_waysTo l G (121 + 1) x1 (by decide) _ e11) (cw_X8_goes_X1_waysTo_255 hg) (S.obj (by decide) (by decide) rfl (oc_X1 _ _ _ (by decide))) rfl hl.1 rfl (Nat.le_of_ble_eq_true rfl) ⟨Nat.zero_le _, Nat.zero_le _⟩ dX8_goes_81 (fun H locs  S => ?_)
    refine lv_aload_n hx hb dX8_goes_84 rfl (lv_at hl 0 rfl) ?_
    refine fg_X8_3 hx hb (fun q h => hg q (tl_X8 q h)) hown (hg _ t_fl_X8_40) S (by decide) dX8_goes_85 ?_
    obtain ⟨q12, e13, hz⟩ := bd hz
    refine g_callVl (As := []) (rest := [.long q10.1, .ref (gad G 0)]) F S (c_X1_allWays l G   _ e13) (cw_X8_goes_X1_allWays_259 hg) (S.obj (by decide) (by decide) rfl (oc_X1 _ _ _ (by decide))) rfl hl.1 rfl (Nat.le_of_ble_eq_true rfl) ⟨Nat.zero_le _, Nat.zero_le _⟩ dX8_goes_88 (fun H locs  S => ?_)
    refine lv_iload_n hx hb dX8_goes_91 rfl (lv_at hl 2 rfl) ?_
    obtain ⟨q14, e15, hz⟩ := bd hz
    refine g_callVl (As := [.long q10.1, .long q12.1, .int x2]) (rest := []) F S (c_X8_told l G q10.1 q12.1 x2  _ e15) (cw_X8_goes_X8_told_212 hg) (S.obj (by decide) (by decide) rfl (oc_X8 _ _ _ (by decide))) rfl hl.1 rfl (Nat.le_of_ble_eq_true rfl) ⟨Nat.zero_le _, Nat.zero_le _⟩ dX8_goes_92 (fun H locs  S => ?_)
    exact g_retl hx hb hr hlk S hz dX8_goes_95
  · have hz := ipf (c4) hz
    refine lv_ldc2 (v := (-1)) hx hb hown (hg _ t_cl_X8_206) dX8_goes_8 ?_
    exact g_retl hx hb hr hlk S hz dX8_goes_11
noncomputable def f_X8_place (x1 : Int32) (w : GW) : Option (Int32 × GW) :=
  (f_X8_isNextRefused x1 w).bind fun q1 =>
  if q1.1 = 0 then
    if inb (gI q1.2 121 0) 6 then
    (f_X1_ready (fxH (gR q1.2 0)) (((fxH (gR q1.2 0)) + 4) + 1 + ix (gI q1.2 121 0)) q1.2).bind fun q6 =>
    (f_X1_weigh (121 + 1) (gI q6.2 121 4) ((gI q6.2 121 2) + 1) q6.2).bind fun q8 =>
    (f_X1_slotBehind (121 + 1) x1 q8.2).bind fun q10 =>
    if 0 ≤ q10.1 then
      (f_X2_land 121 (fxH (gR q10.2 0)) x1 q10.1 q10.2).bind fun q13 =>
      if inb x1 5 then
      (f_X8_fine (gI q13.2 (121 + 1) (ix x1)) q13.2).bind fun q16 =>
      some (q16.1, q16.2)
      else none
    else
      (f_X8_refuse 5 q10.2).bind fun q18 =>
      some (q18.1, q18.2)
    else none
  else
    some ((-1), q1.2)
set_option maxHeartbeats 4000000 in
set_option maxRecDepth 100000 in
theorem c_X8_place (l : Launch) (G : GG) (x1 : Int32)  (w : GW) {z : Int32 × GW} (hz : f_X8_place x1 w = some z) : Met l yX8_place (wsU yX8_place cX8_place 3 (some .int)) rm_X8_place (va_Pc [.ref (gad G 0), .int x1] (PreG G w)) (QI G z) 0 0 (gA G) := by
  refine Met.ofW (cc := cX8_place) (maxL := 3) (ret := (some .int)) (by decide) rfl ?_
  intro p e s m args below meth c s₁ B hml hv
  obtain ⟨rfl, S⟩ := hv
  have F : CallFix p m c cX8_place 3 s _ (wsU yX8_place cX8_place 3 (some .int)) RX8 := ⟨B.exec, B.bytes, hml, findClass_of_methodNamed B.named, atoms_spec B.pre⟩
  have hr := B.returns
  have hlk := B.notSynchronized
  obtain ⟨hx, hb, -, hown, hts⟩ := id F
  have hg : ∀ q ∈ lwg, q.before _ s = true := fun q h => hts q (List.mem_cons_of_mem _ h)
  refine g_entry (Nat.le_of_ble_eq_true rfl) (fun ls hl => ?_)
  have hl : lv_has ls 3 [(0, .ref (gad G 0)), (1, .int x1)] := hl
  have S : St G w s s.heap [] := S
  generalize s.heap = H at S ⊢
  generalize ([] : List Loc) = locs at S ⊢
  rw [f_X8_place] at hz
  refine lv_aload_n hx hb dX8_place_0 rfl (lv_at hl 0 rfl) ?_
  refine lv_iload_n hx hb dX8_place_1 rfl (lv_at hl 1 rfl) ?_
  obtain ⟨q1, e2, hz⟩ := bd hz
  refine g_callVb (As := [.int x1]) (rest := []) F S (c_X8_isNextRefused l G x1  _ e2) (cw_X8_place_X8_isNextRefused_241 hg) (S.obj (by decide) (by decide) rfl (oc_X8 _ _ _ (by decide))) rfl hl.1 rfl (Nat.le_of_ble_eq_true rfl) ⟨Nat.zero_le _, Nat.zero_le _⟩ dX8_place_2 (fun H locs hB3 S => ?_)
  refine lv_if_eq (tgt := 10) hx hb dX8_place_5 (by decide) (fun c4 => ?_) (fun c4 => ?_)
  · have hz := ipt (c4) hz
    refine lv_aload_n hx hb dX8_place_10 rfl (lv_at hl 0 rfl) ?_
    refine fg_X8_3 hx hb (fun q h => hg q (tl_X8 q h)) hown (hg _ t_fl_X8_40) S (by decide) dX8_place_11 ?_
    refine lv_aload_n hx hb dX8_place_14 rfl (lv_at hl 0 rfl) ?_
    refine fg_X8_9 hx hb (fun q h => hg q (tl_X8 q h)) hown (hg _ t_fl_X8_28) S (by decide) dX8_place_15 ?_
    refine lv_aload_n hx hb dX8_place_18 rfl (lv_at hl 0 rfl) ?_
    refine fg_X8_9 hx hb (fun q h => hg q (tl_X8 q h)) hown (hg _ t_fl_X8_28) S (by decide) dX8_place_19 ?_
    refine fg_X3_13 hx hb (fun q h => hg q (tl_X3 q h)) hown (hg _ t_fl_X8_221) S (kd_H _) dX8_place_22 ?_
    refine lv_aload_n hx hb dX8_place_25 rfl (lv_at hl 0 rfl) ?_
    refine fg_X8_7 hx hb (fun q h => hg q (tl_X8 q h)) hown (hg _ t_fl_X8_73) S (by decide) dX8_place_26 ?_
    refine fg_X2_0 hx hb (fun q h => hg q (tl_X2 q h)) hown (hg _ t_fl_X8_225) S (by decide) dX8_place_29 ?_
    obtain ⟨h5, hz⟩ := ck hz
    refine g_aald33 hx hb S (kd_3_4 (kd_H _)) h5 dX8_place_32 ?_
    obtain ⟨q6, e7, hz⟩ := bd hz
    refine g_callVv (As := [.ref (gad G (fxH (gR q1.2 0))), .ref (gad G (((fxH (gR q1.2 0)) + 4) + 1 + ix (gI q1.2 121 0)))]) (rest := []) F S (c_X1_ready l G (fxH (gR q1.2 0)) (((fxH (gR q1.2 0)) + 4) + 1 + ix (gI q1.2 121 0)) (kd_H _) (kd_el33 (kd_3_4 (kd_H _)) (h5).2) _ e7) (cw_X8_place_X1_ready_227 hg) (S.obj (by decide) (by decide) rfl (oc_X1 _ _ _ (by decide))) rfl hl.1 rfl (Nat.le_of_ble_eq_true rfl) ⟨Nat.zero_le _, Nat.zero_le _⟩ dX8_place_33 (fun H locs  S => ?_)
    refine lv_aload_n hx hb dX8_place_36 rfl (lv_at hl 0 rfl) ?_
    refine fg_X8_3 hx hb (fun q h => hg q (tl_X8 q h)) hown (hg _ t_fl_X8_40) S (by decide) dX8_place_37 ?_
    refine lv_aload_n hx hb dX8_place_40 rfl (lv_at hl 0 rfl) ?_
    refine fg_X8_7 hx hb (fun q h => hg q (tl_X8 q h)) hown (hg _ t_fl_X8_73) S (by decide) dX8_place_41 ?_
    refine fg_X2_5 hx hb (fun q h => hg q (tl_X2 q h)) hown (hg _ t_fl_X8_244) S (by decide) dX8_place_44 ?_
    refine lv_aload_n hx hb dX8_place_47 rfl (lv_at hl 0 rfl) ?_
    refine fg_X8_7 hx hb (fun q h => hg q (tl_X8 q h)) hown (hg _ t_fl_X8_73) S (by decide) dX8_place_48 ?_
    refine fg_X2_4 hx hb (fun q h => hg q (tl_X2 q h)) hown (hg _ t_fl_X8_248) S (by decide) dX8_place_51 ?_
    refine lv_aload_n hx hb dX8_place_54 rfl (lv_at hl 0 rfl) ?_
    refine fg_X8_7 hx hb (fun q h => hg q (tl_X8 q h)) hown (hg _ t_fl_X8_73) S (by decide) dX8_place_55 ?_
    refine fg_X2_2 hx hb (fun q h => hg q (tl_X2 q h)) hown (hg _ t_fl_X8_220) S (by decide) dX8_place_58 ?_
    refine lv_iconst (v := 1) hx hb dX8_place_61 (by decide) ?_
    refine lv_iadd hx hb dX8_place_62 ?_
    obtain ⟨q8, e9, hz⟩ := bd hz
    refine g_callVv (As := [.ref (gad G (121 + 1)), .int (gI q6.2 121 4), .int ((gI q6.2 121 2) + 1)]) (rest := []) F S (c_X1_weigh l G (121 + 1) (gI q6.2 121 4) ((gI q6.2 121 2) + 1) (by decide) _ e9) (cw_X8_place_X1_weigh_251 hg) (S.obj (by decide) (by decide) rfl (oc_X1 _ _ _ (by decide))) rfl hl.1 rfl (Nat.le_of_ble_eq_true rfl) ⟨Nat.zero_le _, Nat.zero_le _⟩ dX8_place_63 (fun H locs  S => ?_)
    refine lv_aload_n hx hb dX8_place_66 rfl (lv_at hl 0 rfl) ?_
    refine fg_X8_3 hx hb (fun q h => hg q (tl_X8 q h)) hown (hg _ t_fl_X8_40) S (by decide) dX8_place_67 ?_
    refine lv_aload_n hx hb dX8_place_70 rfl (lv_at hl 0 rfl) ?_
    refine fg_X8_7 hx hb (fun q h => hg q (tl_X8 q h)) hown (hg _ t_fl_X8_73) S (by decide) dX8_place_71 ?_
    refine fg_X2_5 hx hb (fun q h => hg q (tl_X2 q h)) hown (hg _ t_fl_X8_244) S (by decide) dX8_place_74 ?_
    refine lv_iload_n hx hb dX8_place_77 rfl (lv_at hl 1 rfl) ?_
    obtain ⟨q10, e11, hz⟩ := bd hz
    refine g_callVi (As := [.ref (gad G (121 + 1)), .int x1]) (rest := []) F S (c_X1_slotBehind l G (121 + 1) x1 (by decide) _ e11) (cw_X8_place_X1_slotBehind_263 hg) (S.obj (by decide) (by decide) rfl (oc_X1 _ _ _ (by decide))) rfl hl.1 rfl (Nat.le_of_ble_eq_true rfl) ⟨Nat.zero_le _, Nat.zero_le _⟩ dX8_place_78 (fun H locs  S => ?_)
    refine lv_istore_n (lv' := [(2, .int q10.1), (0, .ref (gad G 0)), (1, .int x1)]) hx hb dX8_place_81 rfl hl (by decide) rfl (fun ls hl => ?_)
    refine lv_iload_n hx hb dX8_place_82 rfl (lv_at hl 0 rfl) ?_
    refine lv_if_ge (tgt := 92) hx hb dX8_place_83 (by decide) (fun c12 => ?_) (fun c12 => ?_)
    · have hz := ipt (c12) hz
      refine lv_aload_n hx hb dX8_place_92 rfl (lv_at hl 1 rfl) ?_
      refine fg_X8_7 hx hb (fun q h => hg q (tl_X8 q h)) hown (hg _ t_fl_X8_73) S (by decide) dX8_place_93 ?_
      refine lv_aload_n hx hb dX8_place_96 rfl (lv_at hl 1 rfl) ?_
      refine fg_X8_9 hx hb (fun q h => hg q (tl_X8 q h)) hown (hg _ t_fl_X8_28) S (by decide) dX8_place_97 ?_
      refine lv_iload_n hx hb dX8_place_100 rfl (lv_at hl 2 rfl) ?_
      refine lv_iload_n hx hb dX8_place_101 rfl (lv_at hl 0 rfl) ?_
      obtain ⟨q13, e14, hz⟩ := bd hz
      refine g_callVv (As := [.ref (gad G (fxH (gR q10.2 0))), .int x1, .int q10.1]) (rest := []) F S (c_X2_land l G 121 (fxH (gR q10.2 0)) x1 q10.1 (by decide) (kd_H _) _ e14) (cw_X8_place_X2_land_267 hg) (S.obj (by decide) (by decide) rfl (oc_X2 _ _ _ (by decide))) rfl hl.1 rfl (Nat.le_of_ble_eq_true rfl) ⟨Nat.zero_le _, Nat.zero_le _⟩ dX8_place_102 (fun H locs  S => ?_)
      refine lv_aload_n hx hb dX8_place_105 rfl (lv_at hl 1 rfl) ?_
      refine lv_aload_n hx hb dX8_place_106 rfl (lv_at hl 1 rfl) ?_
      refine fg_X8_7 hx hb (fun q h => hg q (tl_X8 q h)) hown (hg _ t_fl_X8_73) S (by decide) dX8_place_107 ?_
      refine fg_X2_5 hx hb (fun q h => hg q (tl_X2 q h)) hown (hg _ t_fl_X8_244) S (by decide) dX8_place_110 ?_
      refine lv_iload_n hx hb dX8_place_113 rfl (lv_at hl 2 rfl) ?_
      obtain ⟨h15, hz⟩ := ck hz
      refine g_iald hx hb S (isA_10 (by decide)) h15 dX8_place_114 ?_
      obtain ⟨q16, e17, hz⟩ := bd hz
      refine g_callVi (As := [.int (gI q13.2 (121 + 1) (ix x1))]) (rest := []) F S (c_X8_fine l G (gI q13.2 (121 + 1) (ix x1))  _ e17) (cw_X8_place_X8_fine_112 hg) (S.obj (by decide) (by decide) rfl (oc_X8 _ _ _ (by decide))) rfl hl.1 rfl (Nat.le_of_ble_eq_true rfl) ⟨Nat.zero_le _, Nat.zero_le _⟩ dX8_place_115 (fun H locs  S => ?_)
      exact g_reti hx hb hr hlk S hz dX8_place_118
    · have hz := ipf (c12) hz
      refine lv_aload_n hx hb dX8_place_86 rfl (lv_at hl 1 rfl) ?_
      refine lv_iconst (v := 5) hx hb dX8_place_87 (by decide) ?_
      obtain ⟨q18, e19, hz⟩ := bd hz
      refine g_callVi (As := [.int 5]) (rest := []) F S (c_X8_refuse l G 5  _ e19) (cw_X8_place_X8_refuse_95 hg) (S.obj (by decide) (by decide) rfl (oc_X8 _ _ _ (by decide))) rfl hl.1 rfl (Nat.le_of_ble_eq_true rfl) ⟨Nat.zero_le _, Nat.zero_le _⟩ dX8_place_88 (fun H locs  S => ?_)
      exact g_reti hx hb hr hlk S hz dX8_place_91
  · have hz := ipf (c4) hz
    refine lv_iconst (v := (-1)) hx hb dX8_place_8 (by decide) ?_
    exact g_reti hx hb hr hlk S hz dX8_place_9
noncomputable def f_X8_box (x1 : Int32) (w : GW) : Option (Int32 × GW) :=
  (f_X8_isBox x1 w).bind fun q1 =>
  if q1.1 = 0 then
    (f_X8_refuse 1 q1.2).bind fun q5 =>
    some (q5.1, q5.2)
  else
    if inb x1 5 then
    (f_X8_fine (gI q1.2 (121 + 1) (ix x1)) q1.2).bind fun q8 =>
    some (q8.1, q8.2)
    else none
set_option maxHeartbeats 4000000 in
set_option maxRecDepth 100000 in
theorem c_X8_box (l : Launch) (G : GG) (x1 : Int32)  (w : GW) {z : Int32 × GW} (hz : f_X8_box x1 w = some z) : Met l yX8_box (wsU yX8_box cX8_box 2 (some .int)) rm_X8_box (va_Pc [.ref (gad G 0), .int x1] (PreG G w)) (QI G z) 0 0 (gA G) := by
  refine Met.ofW (cc := cX8_box) (maxL := 2) (ret := (some .int)) (by decide) rfl ?_
  intro p e s m args below meth c s₁ B hml hv
  obtain ⟨rfl, S⟩ := hv
  have F : CallFix p m c cX8_box 2 s _ (wsU yX8_box cX8_box 2 (some .int)) RX8 := ⟨B.exec, B.bytes, hml, findClass_of_methodNamed B.named, atoms_spec B.pre⟩
  have hr := B.returns
  have hlk := B.notSynchronized
  obtain ⟨hx, hb, -, hown, hts⟩ := id F
  have hg : ∀ q ∈ lwg, q.before _ s = true := fun q h => hts q (List.mem_cons_of_mem _ h)
  refine g_entry (Nat.le_of_ble_eq_true rfl) (fun ls hl => ?_)
  have hl : lv_has ls 2 [(0, .ref (gad G 0)), (1, .int x1)] := hl
  have S : St G w s s.heap [] := S
  generalize s.heap = H at S ⊢
  generalize ([] : List Loc) = locs at S ⊢
  rw [f_X8_box] at hz
  refine lv_aload_n hx hb dX8_box_0 rfl (lv_at hl 0 rfl) ?_
  refine lv_iload_n hx hb dX8_box_1 rfl (lv_at hl 1 rfl) ?_
  obtain ⟨q1, e2, hz⟩ := bd hz
  refine g_callVb (As := [.int x1]) (rest := []) F S (c_X8_isBox l G x1  _ e2) (cw_X8_box_X8_isBox_135 hg) (S.obj (by decide) (by decide) rfl (oc_X8 _ _ _ (by decide))) rfl hl.1 rfl (Nat.le_of_ble_eq_true rfl) ⟨Nat.zero_le _, Nat.zero_le _⟩ dX8_box_2 (fun H locs hB3 S => ?_)
  refine lv_if_eq (tgt := 24) hx hb dX8_box_5 (by decide) (fun c4 => ?_) (fun c4 => ?_)
  · have hz := ipt (c4) hz
    refine lv_aload_n hx hb dX8_box_24 rfl (lv_at hl 0 rfl) ?_
    refine lv_iconst (v := 1) hx hb dX8_box_25 (by decide) ?_
    obtain ⟨q5, e6, hz⟩ := bd hz
    refine g_callVi (As := [.int 1]) (rest := []) F S (c_X8_refuse l G 1  _ e6) (cw_X8_box_X8_refuse_95 hg) (S.obj (by decide) (by decide) rfl (oc_X8 _ _ _ (by decide))) rfl hl.1 rfl (Nat.le_of_ble_eq_true rfl) ⟨Nat.zero_le _, Nat.zero_le _⟩ dX8_box_26 (fun H locs  S => ?_)
    exact g_reti hx hb hr hlk S hz dX8_box_29
  · have hz := ipf (c4) hz
    refine lv_aload_n hx hb dX8_box_8 rfl (lv_at hl 0 rfl) ?_
    refine lv_aload_n hx hb dX8_box_9 rfl (lv_at hl 0 rfl) ?_
    refine fg_X8_7 hx hb (fun q h => hg q (tl_X8 q h)) hown (hg _ t_fl_X8_73) S (by decide) dX8_box_10 ?_
    refine fg_X2_5 hx hb (fun q h => hg q (tl_X2 q h)) hown (hg _ t_fl_X8_244) S (by decide) dX8_box_13 ?_
    refine lv_iload_n hx hb dX8_box_16 rfl (lv_at hl 1 rfl) ?_
    obtain ⟨h7, hz⟩ := ck hz
    refine g_iald hx hb S (isA_10 (by decide)) h7 dX8_box_17 ?_
    obtain ⟨q8, e9, hz⟩ := bd hz
    refine g_callVi (As := [.int (gI q1.2 (121 + 1) (ix x1))]) (rest := []) F S (c_X8_fine l G (gI q1.2 (121 + 1) (ix x1))  _ e9) (cw_X8_box_X8_fine_112 hg) (S.obj (by decide) (by decide) rfl (oc_X8 _ _ _ (by decide))) rfl hl.1 rfl (Nat.le_of_ble_eq_true rfl) ⟨Nat.zero_le _, Nat.zero_le _⟩ dX8_box_18 (fun H locs  S => ?_)
    refine lv_goto (tgt := 29) hx hb dX8_box_21 (by decide) ?_
    exact g_reti hx hb hr hlk S hz dX8_box_29
noncomputable def f_X8_recall_41  (t0 : Int32) (w : GW) : Option (Int32 × GW) :=
  (f_X8_fine t0 w).bind fun q3 =>
  some (q3.1, q3.2)
noncomputable def f_X8_recall  (w : GW) : Option (Int32 × GW) :=
  if (gI w (fxH (gR w 0)) 0) = 0 then
    (f_X8_refuse 1 w).bind fun q5 =>
    some (q5.1, q5.2)
  else
    if (gI w 121 4) = 0 then
      f_X8_recall_41 (-2) w
    else
      f_X8_recall_41 ((gI w 121 4) - 1) w
set_option maxHeartbeats 4000000 in
set_option maxRecDepth 100000 in
theorem w_X8_recall_41 {p : Program} {l : Launch} {e : Env} {s : State} {m : MethodId} {args : Array Value} {below : List Frame} {meth : Method} {c : Code} {G : GG} (F : CallFix p m c cX8_recall 1 s args (wsU yX8_recall cX8_recall 1 (some .int)) RX8) (hr : meth.sig.returnType = (some .int)) (hlk : meth.locks = false) {z : Int32 × GW} : (∀ (t0 : Int32) (w : GW) (H : Heap) (locs : List Loc) (ls : Array Slot), St G w s H locs → lv_has ls 1 [] → f_X8_recall_41 t0 w = some z → W p l e (headSpec (wsU yX8_recall cX8_recall 1 (some .int)) rm_X8_recall).room s m args below meth c H locs 0 0 (MQ below (QI G z) args s 0 0 (gA G)) (F0 m 41 ls [.int t0, .ref (gad G 0)])) := by
  obtain ⟨hx, hb, hml, hown, hts⟩ := id F
  have hg : ∀ q ∈ lwg, q.before args s = true := fun q h => hts q (List.mem_cons_of_mem _ h)
  intro t0 w H locs ls S hl hz
  rw [f_X8_recall_41] at hz
  obtain ⟨q3, e4, hz⟩ := bd hz
  refine g_callVi (As := [.int t0]) (rest := []) F S (c_X8_fine l G t0  _ e4) (cw_X8_recall_X8_fine_112 hg) (S.obj (by decide) (by decide) rfl (oc_X8 _ _ _ (by decide))) rfl hl.1 rfl (Nat.le_of_ble_eq_true rfl) ⟨Nat.zero_le _, Nat.zero_le _⟩ dX8_recall_41 (fun H locs  S => ?_)
  exact g_reti hx hb hr hlk S hz dX8_recall_44
set_option maxHeartbeats 4000000 in
set_option maxRecDepth 100000 in
theorem c_X8_recall (l : Launch) (G : GG)   (w : GW) {z : Int32 × GW} (hz : f_X8_recall  w = some z) : Met l yX8_recall (wsU yX8_recall cX8_recall 1 (some .int)) rm_X8_recall (va_Pc [.ref (gad G 0)] (PreG G w)) (QI G z) 0 0 (gA G) := by
  refine Met.ofW (cc := cX8_recall) (maxL := 1) (ret := (some .int)) (by decide) rfl ?_
  intro p e s m args below meth c s₁ B hml hv
  obtain ⟨rfl, S⟩ := hv
  have F : CallFix p m c cX8_recall 1 s _ (wsU yX8_recall cX8_recall 1 (some .int)) RX8 := ⟨B.exec, B.bytes, hml, findClass_of_methodNamed B.named, atoms_spec B.pre⟩
  have hr := B.returns
  have hlk := B.notSynchronized
  obtain ⟨hx, hb, -, hown, hts⟩ := id F
  have hg : ∀ q ∈ lwg, q.before _ s = true := fun q h => hts q (List.mem_cons_of_mem _ h)
  refine g_entry (Nat.le_of_ble_eq_true rfl) (fun ls hl => ?_)
  have hl : lv_has ls 1 [(0, .ref (gad G 0))] := hl
  have S : St G w s s.heap [] := S
  generalize s.heap = H at S ⊢
  generalize ([] : List Loc) = locs at S ⊢
  rw [f_X8_recall] at hz
  refine lv_aload_n hx hb dX8_recall_0 rfl (lv_at hl 0 rfl) ?_
  refine fg_X8_9 hx hb (fun q h => hg q (tl_X8 q h)) hown (hg _ t_fl_X8_28) S (by decide) dX8_recall_1 ?_
  refine fg_X3_0 hx hb (fun q h => hg q (tl_X3 q h)) hown (hg _ t_fl_X8_186) S (kd_H _) dX8_recall_4 ?_
  refine lv_if_ne (tgt := 16) hx hb dX8_recall_7 (by decide) (fun c1 => ?_) (fun c1 => ?_)
  · have hz := ipf (c1) hz
    refine lv_aload_n hx hb dX8_recall_16 rfl (lv_at hl 0 rfl) ?_
    refine lv_aload_n hx hb dX8_recall_17 rfl (lv_at hl 0 rfl) ?_
    refine fg_X8_7 hx hb (fun q h => hg q (tl_X8 q h)) hown (hg _ t_fl_X8_73) S (by decide) dX8_recall_18 ?_
    refine fg_X2_4 hx hb (fun q h => hg q (tl_X2 q h)) hown (hg _ t_fl_X8_248) S (by decide) dX8_recall_21 ?_
    refine lv_if_ne (tgt := 32) hx hb dX8_recall_24 (by decide) (fun c2 => ?_) (fun c2 => ?_)
    · have hz := ipf (c2) hz
      refine lv_aload_n hx hb dX8_recall_32 rfl (lv_at hl 0 rfl) ?_
      refine fg_X8_7 hx hb (fun q h => hg q (tl_X8 q h)) hown (hg _ t_fl_X8_73) S (by decide) dX8_recall_33 ?_
      refine fg_X2_4 hx hb (fun q h => hg q (tl_X2 q h)) hown (hg _ t_fl_X8_248) S (by decide) dX8_recall_36 ?_
      refine lv_iconst (v := 1) hx hb dX8_recall_39 (by decide) ?_
      refine lv_isub hx hb dX8_recall_40 ?_
      exact w_X8_recall_41 F hr hlk ((gI w 121 4) - 1) _ _ _ _ S (lv_sub hl [] rfl) hz
    · have hz := ipt (c2) hz
      refine lv_bipush (v := (-2)) hx hb dX8_recall_27 (by decide) ?_
      refine lv_goto (tgt := 41) hx hb dX8_recall_29 (by decide) ?_
      exact w_X8_recall_41 F hr hlk (-2) _ _ _ _ S (lv_sub hl [] rfl) hz
  · have hz := ipt (c1) hz
    refine lv_aload_n hx hb dX8_recall_10 rfl (lv_at hl 0 rfl) ?_
    refine lv_iconst (v := 1) hx hb dX8_recall_11 (by decide) ?_
    obtain ⟨q5, e6, hz⟩ := bd hz
    refine g_callVi (As := [.int 1]) (rest := []) F S (c_X8_refuse l G 1  _ e6) (cw_X8_recall_X8_refuse_95 hg) (S.obj (by decide) (by decide) rfl (oc_X8 _ _ _ (by decide))) rfl hl.1 rfl (Nat.le_of_ble_eq_true rfl) ⟨Nat.zero_le _, Nat.zero_le _⟩ dX8_recall_12 (fun H locs  S => ?_)
    exact g_reti hx hb hr hlk S hz dX8_recall_15
noncomputable def f_X8_mark  (w : GW) : Option (Int32 × GW) :=
  if (gI w (fxH (gR w 0)) 0) = 0 then
    (f_X8_refuse 1 w).bind fun q10 =>
    some (q10.1, q10.2)
  else
    if (gI w 0 11) < 3 then
      if inb (gI w 0 11) 3 then
      (f_X2_become (123 + 1 + 2 * ix (gI w 0 11)) 121 w).bind fun q4 =>
      (f_X8_fine ((gI (sI q4.2 0 11 ((gI q4.2 0 11) + 1)) 0 11) - 1) (sI q4.2 0 11 ((gI q4.2 0 11) + 1))).bind fun q6 =>
      some (q6.1, q6.2)
      else none
    else
      (f_X8_refuse 3 w).bind fun q8 =>
      some (q8.1, q8.2)
set_option maxHeartbeats 4000000 in
set_option maxRecDepth 100000 in
theorem c_X8_mark (l : Launch) (G : GG)   (w : GW) {z : Int32 × GW} (hz : f_X8_mark  w = some z) : Met l yX8_mark (wsU yX8_mark cX8_mark 1 (some .int)) rm_X8_mark (va_Pc [.ref (gad G 0)] (PreG G w)) (QI G z) 0 0 (gA G) := by
  refine Met.ofW (cc := cX8_mark) (maxL := 1) (ret := (some .int)) (by decide) rfl ?_
  intro p e s m args below meth c s₁ B hml hv
  obtain ⟨rfl, S⟩ := hv
  have F : CallFix p m c cX8_mark 1 s _ (wsU yX8_mark cX8_mark 1 (some .int)) RX8 := ⟨B.exec, B.bytes, hml, findClass_of_methodNamed B.named, atoms_spec B.pre⟩
  have hr := B.returns
  have hlk := B.notSynchronized
  obtain ⟨hx, hb, -, hown, hts⟩ := id F
  have hg : ∀ q ∈ lwg, q.before _ s = true := fun q h => hts q (List.mem_cons_of_mem _ h)
  refine g_entry (Nat.le_of_ble_eq_true rfl) (fun ls hl => ?_)
  have hl : lv_has ls 1 [(0, .ref (gad G 0))] := hl
  have S : St G w s s.heap [] := S
  generalize s.heap = H at S ⊢
  generalize ([] : List Loc) = locs at S ⊢
  rw [f_X8_mark] at hz
  refine lv_aload_n hx hb dX8_mark_0 rfl (lv_at hl 0 rfl) ?_
  refine fg_X8_9 hx hb (fun q h => hg q (tl_X8 q h)) hown (hg _ t_fl_X8_28) S (by decide) dX8_mark_1 ?_
  refine fg_X3_0 hx hb (fun q h => hg q (tl_X3 q h)) hown (hg _ t_fl_X8_186) S (kd_H _) dX8_mark_4 ?_
  refine lv_if_ne (tgt := 16) hx hb dX8_mark_7 (by decide) (fun c1 => ?_) (fun c1 => ?_)
  · have hz := ipf (c1) hz
    refine lv_aload_n hx hb dX8_mark_16 rfl (lv_at hl 0 rfl) ?_
    refine fg_X8_11 hx hb (fun q h => hg q (tl_X8 q h)) hown (hg _ t_fl_X8_81) S (by decide) dX8_mark_17 ?_
    refine lv_iconst (v := 3) hx hb dX8_mark_20 (by decide) ?_
    refine lv_icmp_lt (tgt := 30) hx hb dX8_mark_21 (by decide) (fun c2 => ?_) (fun c2 => ?_)
    · have hz := ipt (c2) hz
      refine lv_aload_n hx hb dX8_mark_30 rfl (lv_at hl 0 rfl) ?_
      refine fg_X8_8 hx hb (fun q h => hg q (tl_X8 q h)) hown (hg _ t_fl_X8_77) S (by decide) dX8_mark_31 ?_
      refine lv_aload_n hx hb dX8_mark_34 rfl (lv_at hl 0 rfl) ?_
      refine fg_X8_11 hx hb (fun q h => hg q (tl_X8 q h)) hown (hg _ t_fl_X8_81) S (by decide) dX8_mark_35 ?_
      obtain ⟨h3, hz⟩ := ck hz
      refine g_aald32 hx hb S (by decide) h3 dX8_mark_38 ?_
      refine lv_aload_n hx hb dX8_mark_39 rfl (lv_at hl 0 rfl) ?_
      refine fg_X8_7 hx hb (fun q h => hg q (tl_X8 q h)) hown (hg _ t_fl_X8_73) S (by decide) dX8_mark_40 ?_
      obtain ⟨q4, e5, hz⟩ := bd hz
      refine g_callVv (As := [.ref (gad G 121)]) (rest := []) F S (c_X2_become l G (123 + 1 + 2 * ix (gI w 0 11)) 121 (kd_el32 (by decide) (h3).2) (by decide) _ e5) (cw_X8_mark_X2_become_271 hg) (S.obj (kd_el32 (by decide) (h3).2) (by decide) rfl (oc_X2 _ _ _ (kd_el32 (by decide) (h3).2))) rfl hl.1 rfl (Nat.le_of_ble_eq_true rfl) ⟨Nat.zero_le _, Nat.zero_le _⟩ dX8_mark_43 (fun H locs  S => ?_)
      refine lv_aload_n hx hb dX8_mark_46 rfl (lv_at hl 0 rfl) ?_
      refine lv_dup hx hb dX8_mark_47 rfl ?_
      refine fg_X8_11 hx hb (fun q h => hg q (tl_X8 q h)) hown (hg _ t_fl_X8_81) S (by decide) dX8_mark_48 ?_
      refine lv_iconst (v := 1) hx hb dX8_mark_51 (by decide) ?_
      refine lv_iadd hx hb dX8_mark_52 ?_
      refine fp_X8_11 (v := ((gI q4.2 0 11) + 1)) hx hb (fun q h => hg q (tl_X8 q h)) hown (hg _ t_fl_X8_81) S (by decide) dX8_mark_53 (fun H locs S => ?_)
      refine lv_aload_n hx hb dX8_mark_56 rfl (lv_at hl 0 rfl) ?_
      refine lv_aload_n hx hb dX8_mark_57 rfl (lv_at hl 0 rfl) ?_
      refine fg_X8_11 hx hb (fun q h => hg q (tl_X8 q h)) hown (hg _ t_fl_X8_81) S (by decide) dX8_mark_58 ?_
      refine lv_iconst (v := 1) hx hb dX8_mark_61 (by decide) ?_
      refine lv_isub hx hb dX8_mark_62 ?_
      obtain ⟨q6, e7, hz⟩ := bd hz
      refine g_callVi (As := [.int ((gI (sI q4.2 0 11 ((gI q4.2 0 11) + 1)) 0 11) - 1)]) (rest := []) F S (c_X8_fine l G ((gI (sI q4.2 0 11 ((gI q4.2 0 11) + 1)) 0 11) - 1)  _ e7) (cw_X8_mark_X8_fine_112 hg) (S.obj (by decide) (by decide) rfl (oc_X8 _ _ _ (by decide))) rfl hl.1 rfl (Nat.le_of_ble_eq_true rfl) ⟨Nat.zero_le _, Nat.zero_le _⟩ dX8_mark_63 (fun H locs  S => ?_)
      exact g_reti hx hb hr hlk S hz dX8_mark_66
    · have hz := ipf (c2) hz
      refine lv_aload_n hx hb dX8_mark_24 rfl (lv_at hl 0 rfl) ?_
      refine lv_iconst (v := 3) hx hb dX8_mark_25 (by decide) ?_
      obtain ⟨q8, e9, hz⟩ := bd hz
      refine g_callVi (As := [.int 3]) (rest := []) F S (c_X8_refuse l G 3  _ e9) (cw_X8_mark_X8_refuse_95 hg) (S.obj (by decide) (by decide) rfl (oc_X8 _ _ _ (by decide))) rfl hl.1 rfl (Nat.le_of_ble_eq_true rfl) ⟨Nat.zero_le _, Nat.zero_le _⟩ dX8_mark_26 (fun H locs  S => ?_)
      exact g_reti hx hb hr hlk S hz dX8_mark_29
  · have hz := ipt (c1) hz
    refine lv_aload_n hx hb dX8_mark_10 rfl (lv_at hl 0 rfl) ?_
    refine lv_iconst (v := 1) hx hb dX8_mark_11 (by decide) ?_
    obtain ⟨q10, e11, hz⟩ := bd hz
    refine g_callVi (As := [.int 1]) (rest := []) F S (c_X8_refuse l G 1  _ e11) (cw_X8_mark_X8_refuse_95 hg) (S.obj (by decide) (by decide) rfl (oc_X8 _ _ _ (by decide))) rfl hl.1 rfl (Nat.le_of_ble_eq_true rfl) ⟨Nat.zero_le _, Nat.zero_le _⟩ dX8_mark_12 (fun H locs  S => ?_)
    exact g_reti hx hb hr hlk S hz dX8_mark_15
noncomputable def f_X8_back_18  (x1 : Int32) (t0 : Int32) (w : GW) : Option (Int32 × GW) :=
  if (gI (sI w 0 12 t0) 0 12) = 0 then
    if inb x1 3 then
    (f_X2_become 121 (123 + 1 + 2 * ix x1) (sI w 0 12 t0)).bind fun q4 =>
    some (1, q4.2)
    else none
  else
    some (0, (sI w 0 12 t0))
noncomputable def f_X8_back_13  (x1 : Int32) (w : GW) : Option (Int32 × GW) :=
  f_X8_back_18 x1 1 w
noncomputable def f_X8_back (x1 : Int32) (w : GW) : Option (Int32 × GW) :=
  if x1 < 0 then
    f_X8_back_13 x1 w
  else
    if x1 < (gI w 0 11) then
      f_X8_back_18 x1 0 w
    else
      f_X8_back_13 x1 w
set_option maxHeartbeats 4000000 in
set_option maxRecDepth 100000 in
theorem w_X8_back_18 {p : Program} {l : Launch} {e : Env} {s : State} {m : MethodId} {args : Array Value} {below : List Frame} {meth : Method} {c : Code} {G : GG} (F : CallFix p m c cX8_back 2 s args (wsU yX8_back cX8_back 2 (some .boolean)) RX8) (hr : meth.sig.returnType = (some .boolean)) (hlk : meth.locks = false) {z : Int32 × GW} : (∀ (x1 : Int32) (t0 : Int32) (hBt0 : isB t0) (w : GW) (H : Heap) (locs : List Loc) (ls : Array Slot), St G w s H locs → lv_has ls 2 [(0, .ref (gad G 0)), (1, .int x1)] → f_X8_back_18 x1 t0 w = some z → W p l e (headSpec (wsU yX8_back cX8_back 2 (some .boolean)) rm_X8_back).room s m args below meth c H locs 0 0 (MQ below (QB G z) args s 0 0 (gA G)) (F0 m 18 ls [.int t0, .ref (gad G 0)])) := by
  obtain ⟨hx, hb, hml, hown, hts⟩ := id F
  have hg : ∀ q ∈ lwg, q.before args s = true := fun q h => hts q (List.mem_cons_of_mem _ h)
  intro x1 t0 hBt0 w H locs ls S hl hz
  rw [f_X8_back_18] at hz
  refine fp_X8_12 (v := t0) hx hb (fun q h => hg q (tl_X8 q h)) hown (hg _ t_fl_X8_85) S (by decide) dX8_back_18 (fun H locs S => ?_)
  refine lv_aload_n hx hb dX8_back_21 rfl (lv_at hl 0 rfl) ?_
  refine fg_X8_12 hx hb (fun q h => hg q (tl_X8 q h)) hown (hg _ t_fl_X8_85) S (by decide) dX8_back_22 ?_
  refine lv_if_eq (tgt := 30) hx hb dX8_back_25 (by decide) (fun c2 => ?_) (fun c2 => ?_)
  · have hz := ipt (c2) hz
    refine lv_aload_n hx hb dX8_back_30 rfl (lv_at hl 0 rfl) ?_
    refine fg_X8_7 hx hb (fun q h => hg q (tl_X8 q h)) hown (hg _ t_fl_X8_73) S (by decide) dX8_back_31 ?_
    refine lv_aload_n hx hb dX8_back_34 rfl (lv_at hl 0 rfl) ?_
    refine fg_X8_8 hx hb (fun q h => hg q (tl_X8 q h)) hown (hg _ t_fl_X8_77) S (by decide) dX8_back_35 ?_
    refine lv_iload_n hx hb dX8_back_38 rfl (lv_at hl 1 rfl) ?_
    obtain ⟨h3, hz⟩ := ck hz
    refine g_aald32 hx hb S (by decide) h3 dX8_back_39 ?_
    obtain ⟨q4, e5, hz⟩ := bd hz
    refine g_callVv (As := [.ref (gad G (123 + 1 + 2 * ix x1))]) (rest := []) F S (c_X2_become l G 121 (123 + 1 + 2 * ix x1) (by decide) (kd_el32 (by decide) (h3).2) _ e5) (cw_X8_back_X2_become_271 hg) (S.obj (by decide) (by decide) rfl (oc_X2 _ _ _ (by decide))) rfl hl.1 rfl (Nat.le_of_ble_eq_true rfl) ⟨Nat.zero_le _, Nat.zero_le _⟩ dX8_back_40 (fun H locs  S => ?_)
    refine lv_iconst (v := 1) hx hb dX8_back_43 (by decide) ?_
    exact g_retb hx hb hr hlk S isB_1 hz dX8_back_44
  · have hz := ipf (c2) hz
    refine lv_iconst (v := 0) hx hb dX8_back_28 (by decide) ?_
    exact g_retb hx hb hr hlk S isB_0 hz dX8_back_29
set_option maxHeartbeats 4000000 in
set_option maxRecDepth 100000 in
theorem w_X8_back_13 {p : Program} {l : Launch} {e : Env} {s : State} {m : MethodId} {args : Array Value} {below : List Frame} {meth : Method} {c : Code} {G : GG} (F : CallFix p m c cX8_back 2 s args (wsU yX8_back cX8_back 2 (some .boolean)) RX8) (hr : meth.sig.returnType = (some .boolean)) (hlk : meth.locks = false) {z : Int32 × GW} : (∀ (x1 : Int32) (w : GW) (H : Heap) (locs : List Loc) (ls : Array Slot), St G w s H locs → lv_has ls 2 [(0, .ref (gad G 0)), (1, .int x1)] → f_X8_back_13 x1 w = some z → W p l e (headSpec (wsU yX8_back cX8_back 2 (some .boolean)) rm_X8_back).room s m args below meth c H locs 0 0 (MQ below (QB G z) args s 0 0 (gA G)) (F0 m 13 ls [.ref (gad G 0)])) := by
  obtain ⟨hx, hb, hml, hown, hts⟩ := id F
  have hg : ∀ q ∈ lwg, q.before args s = true := fun q h => hts q (List.mem_cons_of_mem _ h)
  intro x1 w H locs ls S hl hz
  rw [f_X8_back_13] at hz
  refine lv_iconst (v := 1) hx hb dX8_back_13 (by decide) ?_
  refine lv_goto (tgt := 18) hx hb dX8_back_14 (by decide) ?_
  exact w_X8_back_18 F hr hlk x1 1 isB_1 _ _ _ _ S (lv_sub hl [0, 1] rfl) hz
set_option maxHeartbeats 4000000 in
set_option maxRecDepth 100000 in
theorem c_X8_back (l : Launch) (G : GG) (x1 : Int32)  (w : GW) {z : Int32 × GW} (hz : f_X8_back x1 w = some z) : Met l yX8_back (wsU yX8_back cX8_back 2 (some .boolean)) rm_X8_back (va_Pc [.ref (gad G 0), .int x1] (PreG G w)) (QB G z) 0 0 (gA G) := by
  refine Met.ofW (cc := cX8_back) (maxL := 2) (ret := (some .boolean)) (by decide) rfl ?_
  intro p e s m args below meth c s₁ B hml hv
  obtain ⟨rfl, S⟩ := hv
  have F : CallFix p m c cX8_back 2 s _ (wsU yX8_back cX8_back 2 (some .boolean)) RX8 := ⟨B.exec, B.bytes, hml, findClass_of_methodNamed B.named, atoms_spec B.pre⟩
  have hr := B.returns
  have hlk := B.notSynchronized
  obtain ⟨hx, hb, -, hown, hts⟩ := id F
  have hg : ∀ q ∈ lwg, q.before _ s = true := fun q h => hts q (List.mem_cons_of_mem _ h)
  refine g_entry (Nat.le_of_ble_eq_true rfl) (fun ls hl => ?_)
  have hl : lv_has ls 2 [(0, .ref (gad G 0)), (1, .int x1)] := hl
  have S : St G w s s.heap [] := S
  generalize s.heap = H at S ⊢
  generalize ([] : List Loc) = locs at S ⊢
  rw [f_X8_back] at hz
  refine lv_aload_n hx hb dX8_back_0 rfl (lv_at hl 0 rfl) ?_
  refine lv_iload_n hx hb dX8_back_1 rfl (lv_at hl 1 rfl) ?_
  refine lv_if_lt (tgt := 13) hx hb dX8_back_2 (by decide) (fun c1 => ?_) (fun c1 => ?_)
  · have hz := ipt (c1) hz
    exact w_X8_back_13 F hr hlk x1 _ _ _ _ S (lv_sub hl [0, 1] rfl) hz
  · have hz := ipf (c1) hz
    refine lv_iload_n hx hb dX8_back_5 rfl (lv_at hl 1 rfl) ?_
    refine lv_aload_n hx hb dX8_back_6 rfl (lv_at hl 0 rfl) ?_
    refine fg_X8_11 hx hb (fun q h => hg q (tl_X8 q h)) hown (hg _ t_fl_X8_81) S (by decide) dX8_back_7 ?_
    refine lv_icmp_lt (tgt := 17) hx hb dX8_back_10 (by decide) (fun c6 => ?_) (fun c6 => ?_)
    · have hz := ipt (c6) hz
      refine lv_iconst (v := 0) hx hb dX8_back_17 (by decide) ?_
      exact w_X8_back_18 F hr hlk x1 0 isB_0 _ _ _ _ S (lv_sub hl [0, 1] rfl) hz
    · have hz := ipf (c6) hz
      exact w_X8_back_13 F hr hlk x1 _ _ _ _ S (lv_sub hl [0, 1] rfl) hz
noncomputable def f_X8_porter_17   (w : GW) : Option (Int32 × GW) :=
  (f_X8_refuse 1 w).bind fun q5 =>
  some (q5.1, q5.2)
noncomputable def f_X8_porter_61  (t0 : Int32) (w : GW) : Option (Int32 × GW) :=
  (f_X8_fine t0 w).bind fun q12 =>
  some (q12.1, q12.2)
noncomputable def f_X8_porter (x1 : Int32) (x2 : Int32) (w : GW) : Option (Int32 × GW) :=
  (f_X8_isPorter x1 w).bind fun q1 =>
  if q1.1 = 0 then
    f_X8_porter_17 q1.2
  else
    if x2 < 0 then
      f_X8_porter_17 q1.2
    else
      if x2 ≤ 2 then
        if inb x1 6 then
        if x2 = 0 then
          f_X8_porter_61 (gI q1.2 (((fxH (gR q1.2 0)) + 4) + 1 + ix x1) 0) q1.2
        else
          if x2 = 1 then
            f_X8_porter_61 (gI q1.2 (((fxH (gR q1.2 0)) + 4) + 1 + ix x1) 1) q1.2
          else
            f_X8_porter_61 (gI q1.2 (((fxH (gR q1.2 0)) + 4) + 1 + ix x1) 2) q1.2
        else none
      else
        f_X8_porter_17 q1.2
set_option maxHeartbeats 4000000 in
set_option maxRecDepth 100000 in
theorem w_X8_porter_17 {p : Program} {l : Launch} {e : Env} {s : State} {m : MethodId} {args : Array Value} {below : List Frame} {meth : Method} {c : Code} {G : GG} (F : CallFix p m c cX8_porter 4 s args (wsU yX8_porter cX8_porter 4 (some .int)) RX8) (hr : meth.sig.returnType = (some .int)) (hlk : meth.locks = false) {z : Int32 × GW} : (∀ (w : GW) (H : Heap) (locs : List Loc) (ls : Array Slot), St G w s H locs → lv_has ls 4 [(0, .ref (gad G 0))] → f_X8_porter_17  w = some z → W p l e (headSpec (wsU yX8_porter cX8_porter 4 (some .int)) rm_X8_porter).room s m args below meth c H locs 0 0 (MQ below (QI G z) args s 0 0 (gA G)) (F0 m 17 ls [])) := by
  obtain ⟨hx, hb, hml, hown, hts⟩ := id F
  have hg : ∀ q ∈ lwg, q.before args s = true := fun q h => hts q (List.mem_cons_of_mem _ h)
  intro w H locs ls S hl hz
  rw [f_X8_porter_17] at hz
  refine lv_aload_n hx hb dX8_porter_17 rfl (lv_at hl 0 rfl) ?_
  refine lv_iconst (v := 1) hx hb dX8_porter_18 (by decide) ?_
  obtain ⟨q5, e6, hz⟩ := bd hz
  refine g_callVi (As := [.int 1]) (rest := []) F S (c_X8_refuse l G 1  _ e6) (cw_X8_porter_X8_refuse_95 hg) (S.obj (by decide) (by decide) rfl (oc_X8 _ _ _ (by decide))) rfl hl.1 rfl (Nat.le_of_ble_eq_true rfl) ⟨Nat.zero_le _, Nat.zero_le _⟩ dX8_porter_19 (fun H locs  S => ?_)
  exact g_reti hx hb hr hlk S hz dX8_porter_22
set_option maxHeartbeats 4000000 in
set_option maxRecDepth 100000 in
theorem w_X8_porter_61 {p : Program} {l : Launch} {e : Env} {s : State} {m : MethodId} {args : Array Value} {below : List Frame} {meth : Method} {c : Code} {G : GG} (F : CallFix p m c cX8_porter 4 s args (wsU yX8_porter cX8_porter 4 (some .int)) RX8) (hr : meth.sig.returnType = (some .int)) (hlk : meth.locks = false) {z : Int32 × GW} : (∀ (t0 : Int32) (w : GW) (H : Heap) (locs : List Loc) (ls : Array Slot), St G w s H locs → lv_has ls 4 [] → f_X8_porter_61 t0 w = some z → W p l e (headSpec (wsU yX8_porter cX8_porter 4 (some .int)) rm_X8_porter).room s m args below meth c H locs 0 0 (MQ below (QI G z) args s 0 0 (gA G)) (F0 m 61 ls [.int t0, .ref (gad G 0)])) := by
  obtain ⟨hx, hb, hml, hown, hts⟩ := id F
  have hg : ∀ q ∈ lwg, q.before args s = true := fun q h => hts q (List.mem_cons_of_mem _ h)
  intro t0 w H locs ls S hl hz
  rw [f_X8_porter_61] at hz
  obtain ⟨q12, e13, hz⟩ := bd hz
  refine g_callVi (As := [.int t0]) (rest := []) F S (c_X8_fine l G t0  _ e13) (cw_X8_porter_X8_fine_112 hg) (S.obj (by decide) (by decide) rfl (oc_X8 _ _ _ (by decide))) rfl hl.1 rfl (Nat.le_of_ble_eq_true rfl) ⟨Nat.zero_le _, Nat.zero_le _⟩ dX8_porter_61 (fun H locs  S => ?_)
  exact g_reti hx hb hr hlk S hz dX8_porter_64
set_option maxHeartbeats 4000000 in
set_option maxRecDepth 100000 in
theorem c_X8_porter (l : Launch) (G : GG) (x1 : Int32) (x2 : Int32)  (w : GW) {z : Int32 × GW} (hz : f_X8_porter x1 x2 w = some z) : Met l yX8_porter (wsU yX8_porter cX8_porter 4 (some .int)) rm_X8_porter (va_Pc [.ref (gad G 0), .int x1, .int x2] (PreG G w)) (QI G z) 0 0 (gA G) := by
  refine Met.ofW (cc := cX8_porter) (maxL := 4) (ret := (some .int)) (by decide) rfl ?_
  intro p e s m args below meth c s₁ B hml hv
  obtain ⟨rfl, S⟩ := hv
  have F : CallFix p m c cX8_porter 4 s _ (wsU yX8_porter cX8_porter 4 (some .int)) RX8 := ⟨B.exec, B.bytes, hml, findClass_of_methodNamed B.named, atoms_spec B.pre⟩
  have hr := B.returns
  have hlk := B.notSynchronized
  obtain ⟨hx, hb, -, hown, hts⟩ := id F
  have hg : ∀ q ∈ lwg, q.before _ s = true := fun q h => hts q (List.mem_cons_of_mem _ h)
  refine g_entry (Nat.le_of_ble_eq_true rfl) (fun ls hl => ?_)
  have hl : lv_has ls 4 [(0, .ref (gad G 0)), (1, .int x1), (2, .int x2)] := hl
  have S : St G w s s.heap [] := S
  generalize s.heap = H at S ⊢
  generalize ([] : List Loc) = locs at S ⊢
  rw [f_X8_porter] at hz
  refine lv_aload_n hx hb dX8_porter_0 rfl (lv_at hl 0 rfl) ?_
  refine lv_iload_n hx hb dX8_porter_1 rfl (lv_at hl 1 rfl) ?_
  obtain ⟨q1, e2, hz⟩ := bd hz
  refine g_callVb (As := [.int x1]) (rest := []) F S (c_X8_isPorter l G x1  _ e2) (cw_X8_porter_X8_isPorter_121 hg) (S.obj (by decide) (by decide) rfl (oc_X8 _ _ _ (by decide))) rfl hl.1 rfl (Nat.le_of_ble_eq_true rfl) ⟨Nat.zero_le _, Nat.zero_le _⟩ dX8_porter_2 (fun H locs hB3 S => ?_)
  refine lv_if_eq (tgt := 17) hx hb dX8_porter_5 (by decide) (fun c4 => ?_) (fun c4 => ?_)
  · have hz := ipt (c4) hz
    exact w_X8_porter_17 F hr hlk _ _ _ _ S (lv_sub hl [0] rfl) hz
  · have hz := ipf (c4) hz
    refine lv_iload_n hx hb dX8_porter_8 rfl (lv_at hl 2 rfl) ?_
    refine lv_if_lt (tgt := 17) hx hb dX8_porter_9 (by decide) (fun c7 => ?_) (fun c7 => ?_)
    · have hz := ipt (c7) hz
      exact w_X8_porter_17 F hr hlk _ _ _ _ S (lv_sub hl [0] rfl) hz
    · have hz := ipf (c7) hz
      refine lv_iload_n hx hb dX8_porter_12 rfl (lv_at hl 2 rfl) ?_
      refine lv_iconst (v := 2) hx hb dX8_porter_13 (by decide) ?_
      refine lv_icmp_le (tgt := 23) hx hb dX8_porter_14 (by decide) (fun c8 => ?_) (fun c8 => ?_)
      · have hz := ipt (c8) hz
        refine lv_aload_n hx hb dX8_porter_23 rfl (lv_at hl 0 rfl) ?_
        refine fg_X8_9 hx hb (fun q h => hg q (tl_X8 q h)) hown (hg _ t_fl_X8_28) S (by decide) dX8_porter_24 ?_
        refine fg_X3_13 hx hb (fun q h => hg q (tl_X3 q h)) hown (hg _ t_fl_X8_221) S (kd_H _) dX8_porter_27 ?_
        refine lv_iload_n hx hb dX8_porter_30 rfl (lv_at hl 1 rfl) ?_
        obtain ⟨h9, hz⟩ := ck hz
        refine g_aald33 hx hb S (kd_3_4 (kd_H _)) h9 dX8_porter_31 ?_
        refine lv_astore_n (lv' := [(3, .ref (gad G (((fxH (gR q1.2 0)) + 4) + 1 + ix x1))), (0, .ref (gad G 0)), (1, .int x1), (2, .int x2)]) hx hb dX8_porter_32 rfl hl (by decide) rfl (fun ls hl => ?_)
        refine lv_aload_n hx hb dX8_porter_33 rfl (lv_at hl 1 rfl) ?_
        refine lv_iload_n hx hb dX8_porter_34 rfl (lv_at hl 3 rfl) ?_
        refine lv_if_ne (tgt := 45) hx hb dX8_porter_35 (by decide) (fun c10 => ?_) (fun c10 => ?_)
        · have hz := ipf (c10) hz
          refine lv_iload_n hx hb dX8_porter_45 rfl (lv_at hl 3 rfl) ?_
          refine lv_iconst (v := 1) hx hb dX8_porter_46 (by decide) ?_
          refine lv_icmp_ne (tgt := 57) hx hb dX8_porter_47 (by decide) (fun c11 => ?_) (fun c11 => ?_)
          · have hz := ipf (c11) hz
            refine lv_aload_n hx hb dX8_porter_57 rfl (lv_at hl 0 rfl) ?_
            refine fg_X4_2 hx hb (fun q h => hg q (tl_X4 q h)) hown (hg _ t_fl_X8_279) S (kd_el33 (kd_3_4 (kd_H _)) (h9).2) dX8_porter_58 ?_
            exact w_X8_porter_61 F hr hlk (gI q1.2 (((fxH (gR q1.2 0)) + 4) + 1 + ix x1) 2) _ _ _ _ S (lv_sub hl [] rfl) hz
          · have hz := ipt (c11) hz
            refine lv_aload_n hx hb dX8_porter_50 rfl (lv_at hl 0 rfl) ?_
            refine fg_X4_1 hx hb (fun q h => hg q (tl_X4 q h)) hown (hg _ t_fl_X8_276) S (kd_el33 (kd_3_4 (kd_H _)) (h9).2) dX8_porter_51 ?_
            refine lv_goto (tgt := 61) hx hb dX8_porter_54 (by decide) ?_
            exact w_X8_porter_61 F hr hlk (gI q1.2 (((fxH (gR q1.2 0)) + 4) + 1 + ix x1) 1) _ _ _ _ S (lv_sub hl [] rfl) hz
        · have hz := ipt (c10) hz
          refine lv_aload_n hx hb dX8_porter_38 rfl (lv_at hl 0 rfl) ?_
          refine fg_X4_0 hx hb (fun q h => hg q (tl_X4 q h)) hown (hg _ t_fl_X8_273) S (kd_el33 (kd_3_4 (kd_H _)) (h9).2) dX8_porter_39 ?_
          refine lv_goto (tgt := 61) hx hb dX8_porter_42 (by decide) ?_
          exact w_X8_porter_61 F hr hlk (gI q1.2 (((fxH (gR q1.2 0)) + 4) + 1 + ix x1) 0) _ _ _ _ S (lv_sub hl [] rfl) hz
      · have hz := ipf (c8) hz
        exact w_X8_porter_17 F hr hlk _ _ _ _ S (lv_sub hl [0] rfl) hz
noncomputable def f_X8_boxOf_40  (t0 : Int32) (w : GW) : Option (Int32 × GW) :=
  (f_X8_fine t0 w).bind fun q7 =>
  some (q7.1, q7.2)
noncomputable def f_X8_boxOf (x1 : Int32) (x2 : Int32) (w : GW) : Option (Int32 × GW) :=
  (f_X8_isBox x1 w).bind fun q1 =>
  if q1.1 = 0 then
    (f_X8_refuse 1 q1.2).bind fun q10 =>
    some (q10.1, q10.2)
  else
    if x2 = 0 then
      if inb x1 5 then
      f_X8_boxOf_40 (gI q1.2 ((fxH (gR q1.2 0)) + 1) (ix x1)) q1.2
      else none
    else
      if inb x1 5 then
      f_X8_boxOf_40 (gI q1.2 ((fxH (gR q1.2 0)) + 2) (ix x1)) q1.2
      else none
set_option maxHeartbeats 4000000 in
set_option maxRecDepth 100000 in
theorem w_X8_boxOf_40 {p : Program} {l : Launch} {e : Env} {s : State} {m : MethodId} {args : Array Value} {below : List Frame} {meth : Method} {c : Code} {G : GG} (F : CallFix p m c cX8_boxOf 3 s args (wsU yX8_boxOf cX8_boxOf 3 (some .int)) RX8) (hr : meth.sig.returnType = (some .int)) (hlk : meth.locks = false) {z : Int32 × GW} : (∀ (t0 : Int32) (w : GW) (H : Heap) (locs : List Loc) (ls : Array Slot), St G w s H locs → lv_has ls 3 [] → f_X8_boxOf_40 t0 w = some z → W p l e (headSpec (wsU yX8_boxOf cX8_boxOf 3 (some .int)) rm_X8_boxOf).room s m args below meth c H locs 0 0 (MQ below (QI G z) args s 0 0 (gA G)) (F0 m 40 ls [.int t0, .ref (gad G 0)])) := by
  obtain ⟨hx, hb, hml, hown, hts⟩ := id F
  have hg : ∀ q ∈ lwg, q.before args s = true := fun q h => hts q (List.mem_cons_of_mem _ h)
  intro t0 w H locs ls S hl hz
  rw [f_X8_boxOf_40] at hz
  obtain ⟨q7, e8, hz⟩ := bd hz
  refine g_callVi (As := [.int t0]) (rest := []) F S (c_X8_fine l G t0  _ e8) (cw_X8_boxOf_X8_fine_112 hg) (S.obj (by decide) (by decide) rfl (oc_X8 _ _ _ (by decide))) rfl hl.1 rfl (Nat.le_of_ble_eq_true rfl) ⟨Nat.zero_le _, Nat.zero_le _⟩ dX8_boxOf_40 (fun H locs  S => ?_)
  exact g_reti hx hb hr hlk S hz dX8_boxOf_43
set_option maxHeartbeats 4000000 in
set_option maxRecDepth 100000 in
theorem c_X8_boxOf (l : Launch) (G : GG) (x1 : Int32) (x2 : Int32)  (w : GW) {z : Int32 × GW} (hz : f_X8_boxOf x1 x2 w = some z) : Met l yX8_boxOf (wsU yX8_boxOf cX8_boxOf 3 (some .int)) rm_X8_boxOf (va_Pc [.ref (gad G 0), .int x1, .int x2] (PreG G w)) (QI G z) 0 0 (gA G) := by
  refine Met.ofW (cc := cX8_boxOf) (maxL := 3) (ret := (some .int)) (by decide) rfl ?_
  intro p e s m args below meth c s₁ B hml hv
  obtain ⟨rfl, S⟩ := hv
  have F : CallFix p m c cX8_boxOf 3 s _ (wsU yX8_boxOf cX8_boxOf 3 (some .int)) RX8 := ⟨B.exec, B.bytes, hml, findClass_of_methodNamed B.named, atoms_spec B.pre⟩
  have hr := B.returns
  have hlk := B.notSynchronized
  obtain ⟨hx, hb, -, hown, hts⟩ := id F
  have hg : ∀ q ∈ lwg, q.before _ s = true := fun q h => hts q (List.mem_cons_of_mem _ h)
  refine g_entry (Nat.le_of_ble_eq_true rfl) (fun ls hl => ?_)
  have hl : lv_has ls 3 [(0, .ref (gad G 0)), (1, .int x1), (2, .int x2)] := hl
  have S : St G w s s.heap [] := S
  generalize s.heap = H at S ⊢
  generalize ([] : List Loc) = locs at S ⊢
  rw [f_X8_boxOf] at hz
  refine lv_aload_n hx hb dX8_boxOf_0 rfl (lv_at hl 0 rfl) ?_
  refine lv_iload_n hx hb dX8_boxOf_1 rfl (lv_at hl 1 rfl) ?_
  obtain ⟨q1, e2, hz⟩ := bd hz
  refine g_callVb (As := [.int x1]) (rest := []) F S (c_X8_isBox l G x1  _ e2) (cw_X8_boxOf_X8_isBox_135 hg) (S.obj (by decide) (by decide) rfl (oc_X8 _ _ _ (by decide))) rfl hl.1 rfl (Nat.le_of_ble_eq_true rfl) ⟨Nat.zero_le _, Nat.zero_le _⟩ dX8_boxOf_2 (fun H locs hB3 S => ?_)
  refine lv_if_ne (tgt := 14) hx hb dX8_boxOf_5 (by decide) (fun c4 => ?_) (fun c4 => ?_)
  · have hz := ipf (c4) hz
    refine lv_aload_n hx hb dX8_boxOf_14 rfl (lv_at hl 0 rfl) ?_
    refine lv_iload_n hx hb dX8_boxOf_15 rfl (lv_at hl 2 rfl) ?_
    refine lv_if_eq (tgt := 31) hx hb dX8_boxOf_16 (by decide) (fun c5 => ?_) (fun c5 => ?_)
    · have hz := ipt (c5) hz
      refine lv_aload_n hx hb dX8_boxOf_31 rfl (lv_at hl 0 rfl) ?_
      refine fg_X8_9 hx hb (fun q h => hg q (tl_X8 q h)) hown (hg _ t_fl_X8_28) S (by decide) dX8_boxOf_32 ?_
      refine fg_X3_10 hx hb (fun q h => hg q (tl_X3 q h)) hown (hg _ t_fl_X8_285) S (kd_H _) dX8_boxOf_35 ?_
      refine lv_iload_n hx hb dX8_boxOf_38 rfl (lv_at hl 1 rfl) ?_
      obtain ⟨h6, hz⟩ := ck hz
      refine g_iald hx hb S (isA_10 (kd_3_1 (kd_H _))) h6 dX8_boxOf_39 ?_
      exact w_X8_boxOf_40 F hr hlk (gI q1.2 ((fxH (gR q1.2 0)) + 1) (ix x1)) _ _ _ _ S (lv_sub hl [] rfl) hz
    · have hz := ipf (c5) hz
      refine lv_aload_n hx hb dX8_boxOf_19 rfl (lv_at hl 0 rfl) ?_
      refine fg_X8_9 hx hb (fun q h => hg q (tl_X8 q h)) hown (hg _ t_fl_X8_28) S (by decide) dX8_boxOf_20 ?_
      refine fg_X3_11 hx hb (fun q h => hg q (tl_X3 q h)) hown (hg _ t_fl_X8_282) S (kd_H _) dX8_boxOf_23 ?_
      refine lv_iload_n hx hb dX8_boxOf_26 rfl (lv_at hl 1 rfl) ?_
      obtain ⟨h9, hz⟩ := ck hz
      refine g_iald hx hb S (isA_10 (kd_3_2 (kd_H _))) h9 dX8_boxOf_27 ?_
      refine lv_goto (tgt := 40) hx hb dX8_boxOf_28 (by decide) ?_
      exact w_X8_boxOf_40 F hr hlk (gI q1.2 ((fxH (gR q1.2 0)) + 2) (ix x1)) _ _ _ _ S (lv_sub hl [] rfl) hz
  · have hz := ipt (c4) hz
    refine lv_aload_n hx hb dX8_boxOf_8 rfl (lv_at hl 0 rfl) ?_
    refine lv_iconst (v := 1) hx hb dX8_boxOf_9 (by decide) ?_
    obtain ⟨q10, e11, hz⟩ := bd hz
    refine g_callVi (As := [.int 1]) (rest := []) F S (c_X8_refuse l G 1  _ e11) (cw_X8_boxOf_X8_refuse_95 hg) (S.obj (by decide) (by decide) rfl (oc_X8 _ _ _ (by decide))) rfl hl.1 rfl (Nat.le_of_ble_eq_true rfl) ⟨Nat.zero_le _, Nat.zero_le _⟩ dX8_boxOf_10 (fun H locs  S => ?_)
    exact g_reti hx hb hr hlk S hz dX8_boxOf_13
noncomputable def f_X8_size (x1 : Int32) (w : GW) : Option (Int32 × GW) :=
  if x1 = 0 then
    some ((gI w (fxH (gR w 0)) 1), w)
  else
  if x1 = 1 then
    some ((gI w (fxH (gR w 0)) 2), w)
  else
  if x1 = 2 then
    some ((gI w (fxH (gR w 0)) 8), w)
  else
  if x1 = 3 then
    some ((gI w (fxH (gR w 0)) 9), w)
  else
  if x1 = 4 then
    some ((gI w 121 0), w)
  else
  if x1 = 5 then
    some ((gI w 121 2), w)
  else
  if x1 = 6 then
    some ((gI w 121 3), w)
  else
  if x1 = 7 then
    some ((gI w 121 1), w)
  else
  if x1 = 8 then
    some ((gI w 0 11), w)
  else
  if x1 = 9 then
    some ((gI w 1 3), w)
  else
  some ((-1), w)
set_option maxHeartbeats 4000000 in
set_option maxRecDepth 100000 in
theorem c_X8_size (l : Launch) (G : GG) (x1 : Int32)  (w : GW) {z : Int32 × GW} (hz : f_X8_size x1 w = some z) : Met l yX8_size (wsU yX8_size cX8_size 2 (some .int)) rm_X8_size (va_Pc [.ref (gad G 0), .int x1] (PreG G w)) (QI G z) 0 0 (gA G) := by
  refine Met.ofW (cc := cX8_size) (maxL := 2) (ret := (some .int)) (by decide) rfl ?_
  intro p e s m args below meth c s₁ B hml hv
  obtain ⟨rfl, S⟩ := hv
  have F : CallFix p m c cX8_size 2 s _ (wsU yX8_size cX8_size 2 (some .int)) RX8 := ⟨B.exec, B.bytes, hml, findClass_of_methodNamed B.named, atoms_spec B.pre⟩
  have hr := B.returns
  have hlk := B.notSynchronized
  obtain ⟨hx, hb, -, hown, hts⟩ := id F
  have hg : ∀ q ∈ lwg, q.before _ s = true := fun q h => hts q (List.mem_cons_of_mem _ h)
  refine g_entry (Nat.le_of_ble_eq_true rfl) (fun ls hl => ?_)
  have hl : lv_has ls 2 [(0, .ref (gad G 0)), (1, .int x1)] := hl
  have S : St G w s s.heap [] := S
  generalize s.heap = H at S ⊢
  generalize ([] : List Loc) = locs at S ⊢
  rw [f_X8_size] at hz
  refine lv_iload_n hx hb dX8_size_0 rfl (lv_at hl 1 rfl) ?_
  by_cases c1 : x1 = 0
  · have hz := ipt c1 hz
    refine lv_tableIn (off := 55) (tgt := 56) hx hb dX8_size_1 (by rw [c1]; decide) (by rw [c1]; decide) (by rw [c1]; rfl) (by decide) ?_
    refine lv_aload_n hx hb dX8_size_56 rfl (lv_at hl 0 rfl) ?_
    refine fg_X8_9 hx hb (fun q h => hg q (tl_X8 q h)) hown (hg _ t_fl_X8_28) S (by decide) dX8_size_57 ?_
    refine fg_X3_1 hx hb (fun q h => hg q (tl_X3 q h)) hown (hg _ t_fl_X8_288) S (kd_H _) dX8_size_60 ?_
    exact g_reti hx hb hr hlk S hz dX8_size_63
  have hz := ipf c1 hz
  by_cases c2 : x1 = 1
  · have hz := ipt c2 hz
    refine lv_tableIn (off := 63) (tgt := 64) hx hb dX8_size_1 (by rw [c2]; decide) (by rw [c2]; decide) (by rw [c2]; rfl) (by decide) ?_
    refine lv_aload_n hx hb dX8_size_64 rfl (lv_at hl 0 rfl) ?_
    refine fg_X8_9 hx hb (fun q h => hg q (tl_X8 q h)) hown (hg _ t_fl_X8_28) S (by decide) dX8_size_65 ?_
    refine fg_X3_2 hx hb (fun q h => hg q (tl_X3 q h)) hown (hg _ t_fl_X8_157) S (kd_H _) dX8_size_68 ?_
    exact g_reti hx hb hr hlk S hz dX8_size_71
  have hz := ipf c2 hz
  by_cases c3 : x1 = 2
  · have hz := ipt c3 hz
    refine lv_tableIn (off := 71) (tgt := 72) hx hb dX8_size_1 (by rw [c3]; decide) (by rw [c3]; decide) (by rw [c3]; rfl) (by decide) ?_
    refine lv_aload_n hx hb dX8_size_72 rfl (lv_at hl 0 rfl) ?_
    refine fg_X8_9 hx hb (fun q h => hg q (tl_X8 q h)) hown (hg _ t_fl_X8_28) S (by decide) dX8_size_73 ?_
    refine fg_X3_8 hx hb (fun q h => hg q (tl_X3 q h)) hown (hg _ t_fl_X8_109) S (kd_H _) dX8_size_76 ?_
    exact g_reti hx hb hr hlk S hz dX8_size_79
  have hz := ipf c3 hz
  by_cases c4 : x1 = 3
  · have hz := ipt c4 hz
    refine lv_tableIn (off := 79) (tgt := 80) hx hb dX8_size_1 (by rw [c4]; decide) (by rw [c4]; decide) (by rw [c4]; rfl) (by decide) ?_
    refine lv_aload_n hx hb dX8_size_80 rfl (lv_at hl 0 rfl) ?_
    refine fg_X8_9 hx hb (fun q h => hg q (tl_X8 q h)) hown (hg _ t_fl_X8_28) S (by decide) dX8_size_81 ?_
    refine fg_X3_9 hx hb (fun q h => hg q (tl_X3 q h)) hown (hg _ t_fl_X8_154) S (kd_H _) dX8_size_84 ?_
    exact g_reti hx hb hr hlk S hz dX8_size_87
  have hz := ipf c4 hz
  by_cases c5 : x1 = 4
  · have hz := ipt c5 hz
    refine lv_tableIn (off := 87) (tgt := 88) hx hb dX8_size_1 (by rw [c5]; decide) (by rw [c5]; decide) (by rw [c5]; rfl) (by decide) ?_
    refine lv_aload_n hx hb dX8_size_88 rfl (lv_at hl 0 rfl) ?_
    refine fg_X8_7 hx hb (fun q h => hg q (tl_X8 q h)) hown (hg _ t_fl_X8_73) S (by decide) dX8_size_89 ?_
    refine fg_X2_0 hx hb (fun q h => hg q (tl_X2 q h)) hown (hg _ t_fl_X8_225) S (by decide) dX8_size_92 ?_
    exact g_reti hx hb hr hlk S hz dX8_size_95
  have hz := ipf c5 hz
  by_cases c6 : x1 = 5
  · have hz := ipt c6 hz
    refine lv_tableIn (off := 95) (tgt := 96) hx hb dX8_size_1 (by rw [c6]; decide) (by rw [c6]; decide) (by rw [c6]; rfl) (by decide) ?_
    refine lv_aload_n hx hb dX8_size_96 rfl (lv_at hl 0 rfl) ?_
    refine fg_X8_7 hx hb (fun q h => hg q (tl_X8 q h)) hown (hg _ t_fl_X8_73) S (by decide) dX8_size_97 ?_
    refine fg_X2_2 hx hb (fun q h => hg q (tl_X2 q h)) hown (hg _ t_fl_X8_220) S (by decide) dX8_size_100 ?_
    exact g_reti hx hb hr hlk S hz dX8_size_103
  have hz := ipf c6 hz
  by_cases c7 : x1 = 6
  · have hz := ipt c7 hz
    refine lv_tableIn (off := 103) (tgt := 104) hx hb dX8_size_1 (by rw [c7]; decide) (by rw [c7]; decide) (by rw [c7]; rfl) (by decide) ?_
    refine lv_aload_n hx hb dX8_size_104 rfl (lv_at hl 0 rfl) ?_
    refine fg_X8_7 hx hb (fun q h => hg q (tl_X8 q h)) hown (hg _ t_fl_X8_73) S (by decide) dX8_size_105 ?_
    refine fg_X2_3 hx hb (fun q h => hg q (tl_X2 q h)) hown (hg _ t_fl_X8_294) S (by decide) dX8_size_108 ?_
    exact g_reti hx hb hr hlk S hz dX8_size_111
  have hz := ipf c7 hz
  by_cases c8 : x1 = 7
  · have hz := ipt c8 hz
    refine lv_tableIn (off := 111) (tgt := 112) hx hb dX8_size_1 (by rw [c8]; decide) (by rw [c8]; decide) (by rw [c8]; rfl) (by decide) ?_
    refine lv_aload_n hx hb dX8_size_112 rfl (lv_at hl 0 rfl) ?_
    refine fg_X8_7 hx hb (fun q h => hg q (tl_X8 q h)) hown (hg _ t_fl_X8_73) S (by decide) dX8_size_113 ?_
    refine fg_X2_1 hx hb (fun q h => hg q (tl_X2 q h)) hown (hg _ t_fl_X8_297) S (by decide) dX8_size_116 ?_
    exact g_reti hx hb hr hlk S hz dX8_size_119
  have hz := ipf c8 hz
  by_cases c9 : x1 = 8
  · have hz := ipt c9 hz
    refine lv_tableIn (off := 119) (tgt := 120) hx hb dX8_size_1 (by rw [c9]; decide) (by rw [c9]; decide) (by rw [c9]; rfl) (by decide) ?_
    refine lv_aload_n hx hb dX8_size_120 rfl (lv_at hl 0 rfl) ?_
    refine fg_X8_11 hx hb (fun q h => hg q (tl_X8 q h)) hown (hg _ t_fl_X8_81) S (by decide) dX8_size_121 ?_
    exact g_reti hx hb hr hlk S hz dX8_size_124
  have hz := ipf c9 hz
  by_cases c10 : x1 = 9
  · have hz := ipt c10 hz
    refine lv_tableIn (off := 124) (tgt := 125) hx hb dX8_size_1 (by rw [c10]; decide) (by rw [c10]; decide) (by rw [c10]; rfl) (by decide) ?_
    refine lv_aload_n hx hb dX8_size_125 rfl (lv_at hl 0 rfl) ?_
    refine fg_X8_0 hx hb (fun q h => hg q (tl_X8 q h)) hown (hg _ t_fl_X8_12) S (by decide) dX8_size_126 ?_
    refine fg_X7_3 hx hb (fun q h => hg q (tl_X7 q h)) hown (hg _ t_fl_X8_88) S (by decide) dX8_size_129 ?_
    exact g_reti hx hb hr hlk S hz dX8_size_132
  have hz := ipf c10 hz
  have hsw := tsw_out 10 (by decide) (show ∀ j : Nat, j < 10 → ¬ x1 = Int32.ofNat j from (lt_s (lt_s (lt_s (lt_s (lt_s (lt_s (lt_s (lt_s (lt_s (lt_s lt_0 c1) c2) c3) c4) c5) c6) c7) c8) c9) c10))
  refine lv_tableOut (tgt := 133) hx hb dX8_size_1 hsw (by decide) ?_
  refine lv_iconst (v := (-1)) hx hb dX8_size_133 (by decide) ?_
  exact g_reti hx hb hr hlk S hz dX8_size_134
noncomputable def f_X8_trouble  (w : GW) : Option (Int32 × GW) :=
  some ((gI w 0 12), w)
set_option maxHeartbeats 4000000 in
set_option maxRecDepth 100000 in
theorem c_X8_trouble (l : Launch) (G : GG)   (w : GW) {z : Int32 × GW} (hz : f_X8_trouble  w = some z) : Met l yX8_trouble (wsU yX8_trouble cX8_trouble 1 (some .int)) rm_X8_trouble (va_Pc [.ref (gad G 0)] (PreG G w)) (QI G z) 0 0 (gA G) := by
  refine Met.ofW (cc := cX8_trouble) (maxL := 1) (ret := (some .int)) (by decide) rfl ?_
  intro p e s m args below meth c s₁ B hml hv
  obtain ⟨rfl, S⟩ := hv
  have F : CallFix p m c cX8_trouble 1 s _ (wsU yX8_trouble cX8_trouble 1 (some .int)) RX8 := ⟨B.exec, B.bytes, hml, findClass_of_methodNamed B.named, atoms_spec B.pre⟩
  have hr := B.returns
  have hlk := B.notSynchronized
  obtain ⟨hx, hb, -, hown, hts⟩ := id F
  have hg : ∀ q ∈ lwg, q.before _ s = true := fun q h => hts q (List.mem_cons_of_mem _ h)
  refine g_entry (Nat.le_of_ble_eq_true rfl) (fun ls hl => ?_)
  have hl : lv_has ls 1 [(0, .ref (gad G 0))] := hl
  have S : St G w s s.heap [] := S
  generalize s.heap = H at S ⊢
  generalize ([] : List Loc) = locs at S ⊢
  rw [f_X8_trouble] at hz
  refine lv_aload_n hx hb dX8_trouble_0 rfl (lv_at hl 0 rfl) ?_
  refine fg_X8_12 hx hb (fun q h => hg q (tl_X8 q h)) hown (hg _ t_fl_X8_85) S (by decide) dX8_trouble_1 ?_
  exact g_reti hx hb hr hlk S hz dX8_trouble_4
noncomputable def f_X9_thrown  (w : GW) : Option (Int32 × GW) :=
  some ((gI w 130 0), w)
set_option maxHeartbeats 4000000 in
set_option maxRecDepth 100000 in
theorem c_X9_thrown (l : Launch) (G : GG)   (w : GW) {z : Int32 × GW} (hz : f_X9_thrown  w = some z) : Met l yX9_thrown (wsU yX9_thrown cX9_thrown 1 (some .int)) rm_X9_thrown (va_Pc [.ref (gad G 130)] (PreG G w)) (QI G z) 0 0 (gA G) := by
  refine Met.ofW (cc := cX9_thrown) (maxL := 1) (ret := (some .int)) (by decide) rfl ?_
  intro p e s m args below meth c s₁ B hml hv
  obtain ⟨rfl, S⟩ := hv
  have F : CallFix p m c cX9_thrown 1 s _ (wsU yX9_thrown cX9_thrown 1 (some .int)) RX9 := ⟨B.exec, B.bytes, hml, findClass_of_methodNamed B.named, atoms_spec B.pre⟩
  have hr := B.returns
  have hlk := B.notSynchronized
  obtain ⟨hx, hb, -, hown, hts⟩ := id F
  have hg : ∀ q ∈ lwg, q.before _ s = true := fun q h => hts q (List.mem_cons_of_mem _ h)
  refine g_entry (Nat.le_of_ble_eq_true rfl) (fun ls hl => ?_)
  have hl : lv_has ls 1 [(0, .ref (gad G 130))] := hl
  have S : St G w s s.heap [] := S
  generalize s.heap = H at S ⊢
  generalize ([] : List Loc) = locs at S ⊢
  rw [f_X9_thrown] at hz
  refine lv_aload_n hx hb dX9_thrown_0 rfl (lv_at hl 0 rfl) ?_
  refine fg_X9_0 hx hb (fun q h => hg q (tl_X9 q h)) hown (hg _ t_fl_X9_69) S (by decide) dX9_thrown_1 ?_
  exact g_reti hx hb hr hlk S hz dX9_thrown_4
noncomputable def f_X9_good  (w : GW) : Option (Unit × GW) :=
  some ((), (sI (sI w 130 0 0) 130 11 0))
set_option maxHeartbeats 4000000 in
set_option maxRecDepth 100000 in
theorem c_X9_good (l : Launch) (G : GG)   (w : GW) {z : Unit × GW} (hz : f_X9_good  w = some z) : Met l yX9_good (wsU yX9_good cX9_good 1 none) rm_X9_good (va_Pc [.ref (gad G 130)] (PreG G w)) (QV G z) 0 0 (gA G) := by
  refine Met.ofW (cc := cX9_good) (maxL := 1) (ret := none) (by decide) rfl ?_
  intro p e s m args below meth c s₁ B hml hv
  obtain ⟨rfl, S⟩ := hv
  have F : CallFix p m c cX9_good 1 s _ (wsU yX9_good cX9_good 1 none) RX9 := ⟨B.exec, B.bytes, hml, findClass_of_methodNamed B.named, atoms_spec B.pre⟩
  have hr := B.returns
  have hlk := B.notSynchronized
  obtain ⟨hx, hb, -, hown, hts⟩ := id F
  have hg : ∀ q ∈ lwg, q.before _ s = true := fun q h => hts q (List.mem_cons_of_mem _ h)
  refine g_entry (Nat.le_of_ble_eq_true rfl) (fun ls hl => ?_)
  have hl : lv_has ls 1 [(0, .ref (gad G 130))] := hl
  have S : St G w s s.heap [] := S
  generalize s.heap = H at S ⊢
  generalize ([] : List Loc) = locs at S ⊢
  rw [f_X9_good] at hz
  refine lv_aload_n hx hb dX9_good_0 rfl (lv_at hl 0 rfl) ?_
  refine lv_iconst (v := 0) hx hb dX9_good_1 (by decide) ?_
  refine fp_X9_0 (v := 0) hx hb (fun q h => hg q (tl_X9 q h)) hown (hg _ t_fl_X9_69) S (by decide) dX9_good_2 (fun H locs S => ?_)
  refine lv_aload_n hx hb dX9_good_5 rfl (lv_at hl 0 rfl) ?_
  refine lv_iconst (v := 0) hx hb dX9_good_6 (by decide) ?_
  refine fp_X9_11 (v := 0) hx hb (fun q h => hg q (tl_X9 q h)) hown (hg _ t_fl_X9_72) S (by decide) dX9_good_7 (fun H locs S => ?_)
  exact g_retv hx hb hr hlk S hz dX9_good_10
noncomputable def f_X9_no (x1 : Int32) (w : GW) : Option (Int32 × GW) :=
  some ((-1), (sI w 130 11 x1))
set_option maxHeartbeats 4000000 in
set_option maxRecDepth 100000 in
theorem c_X9_no (l : Launch) (G : GG) (x1 : Int32)  (w : GW) {z : Int32 × GW} (hz : f_X9_no x1 w = some z) : Met l yX9_no (wsU yX9_no cX9_no 2 (some .int)) rm_X9_no (va_Pc [.ref (gad G 130), .int x1] (PreG G w)) (QI G z) 0 0 (gA G) := by
  refine Met.ofW (cc := cX9_no) (maxL := 2) (ret := (some .int)) (by decide) rfl ?_
  intro p e s m args below meth c s₁ B hml hv
  obtain ⟨rfl, S⟩ := hv
  have F : CallFix p m c cX9_no 2 s _ (wsU yX9_no cX9_no 2 (some .int)) RX9 := ⟨B.exec, B.bytes, hml, findClass_of_methodNamed B.named, atoms_spec B.pre⟩
  have hr := B.returns
  have hlk := B.notSynchronized
  obtain ⟨hx, hb, -, hown, hts⟩ := id F
  have hg : ∀ q ∈ lwg, q.before _ s = true := fun q h => hts q (List.mem_cons_of_mem _ h)
  refine g_entry (Nat.le_of_ble_eq_true rfl) (fun ls hl => ?_)
  have hl : lv_has ls 2 [(0, .ref (gad G 130)), (1, .int x1)] := hl
  have S : St G w s s.heap [] := S
  generalize s.heap = H at S ⊢
  generalize ([] : List Loc) = locs at S ⊢
  rw [f_X9_no] at hz
  refine lv_aload_n hx hb dX9_no_0 rfl (lv_at hl 0 rfl) ?_
  refine lv_iload_n hx hb dX9_no_1 rfl (lv_at hl 1 rfl) ?_
  refine fp_X9_11 (v := x1) hx hb (fun q h => hg q (tl_X9 q h)) hown (hg _ t_fl_X9_72) S (by decide) dX9_no_2 (fun H locs S => ?_)
  refine lv_iconst (v := (-1)) hx hb dX9_no_5 (by decide) ?_
  exact g_reti hx hb hr hlk S hz dX9_no_6
noncomputable def f_X9_isNot (x1 : Int32) (w : GW) : Option (Int32 × GW) :=
  some (0, (sI w 130 11 x1))
set_option maxHeartbeats 4000000 in
set_option maxRecDepth 100000 in
theorem c_X9_isNot (l : Launch) (G : GG) (x1 : Int32)  (w : GW) {z : Int32 × GW} (hz : f_X9_isNot x1 w = some z) : Met l yX9_isNot (wsU yX9_isNot cX9_isNot 2 (some .boolean)) rm_X9_isNot (va_Pc [.ref (gad G 130), .int x1] (PreG G w)) (QB G z) 0 0 (gA G) := by
  refine Met.ofW (cc := cX9_isNot) (maxL := 2) (ret := (some .boolean)) (by decide) rfl ?_
  intro p e s m args below meth c s₁ B hml hv
  obtain ⟨rfl, S⟩ := hv
  have F : CallFix p m c cX9_isNot 2 s _ (wsU yX9_isNot cX9_isNot 2 (some .boolean)) RX9 := ⟨B.exec, B.bytes, hml, findClass_of_methodNamed B.named, atoms_spec B.pre⟩
  have hr := B.returns
  have hlk := B.notSynchronized
  obtain ⟨hx, hb, -, hown, hts⟩ := id F
  have hg : ∀ q ∈ lwg, q.before _ s = true := fun q h => hts q (List.mem_cons_of_mem _ h)
  refine g_entry (Nat.le_of_ble_eq_true rfl) (fun ls hl => ?_)
  have hl : lv_has ls 2 [(0, .ref (gad G 130)), (1, .int x1)] := hl
  have S : St G w s s.heap [] := S
  generalize s.heap = H at S ⊢
  generalize ([] : List Loc) = locs at S ⊢
  rw [f_X9_isNot] at hz
  refine lv_aload_n hx hb dX9_isNot_0 rfl (lv_at hl 0 rfl) ?_
  refine lv_iload_n hx hb dX9_isNot_1 rfl (lv_at hl 1 rfl) ?_
  refine fp_X9_11 (v := x1) hx hb (fun q h => hg q (tl_X9 q h)) hown (hg _ t_fl_X9_72) S (by decide) dX9_isNot_2 (fun H locs S => ?_)
  refine lv_iconst (v := 0) hx hb dX9_isNot_5 (by decide) ?_
  exact g_retb hx hb hr hlk S isB_0 hz dX9_isNot_6
noncomputable def f_X9_within (x0 : Int32) (x1 : Int32) (x2 : Int32) (w : GW) : Option (Int32 × GW) :=
  if x0 < x1 then
    some (0, w)
  else
    if x2 < x0 then
      some (0, w)
    else
      some (1, w)
set_option maxHeartbeats 4000000 in
set_option maxRecDepth 100000 in
theorem c_X9_within (l : Launch) (G : GG) (x0 : Int32) (x1 : Int32) (x2 : Int32)  (w : GW) {z : Int32 × GW} (hz : f_X9_within x0 x1 x2 w = some z) : Met l yX9_within (wsU yX9_within cX9_within 3 (some .boolean)) rm_X9_within (va_Pc [.int x0, .int x1, .int x2] (PreG G w)) (QB G z) 0 0 (gA G) := by
  refine Met.ofW (cc := cX9_within) (maxL := 3) (ret := (some .boolean)) (by decide) rfl ?_
  intro p e s m args below meth c s₁ B hml hv
  obtain ⟨rfl, S⟩ := hv
  have F : CallFix p m c cX9_within 3 s _ (wsU yX9_within cX9_within 3 (some .boolean)) RX9 := ⟨B.exec, B.bytes, hml, findClass_of_methodNamed B.named, atoms_spec B.pre⟩
  have hr := B.returns
  have hlk := B.notSynchronized
  obtain ⟨hx, hb, -, hown, hts⟩ := id F
  have hg : ∀ q ∈ lwg, q.before _ s = true := fun q h => hts q (List.mem_cons_of_mem _ h)
  refine g_entry (Nat.le_of_ble_eq_true rfl) (fun ls hl => ?_)
  have hl : lv_has ls 3 [(0, .int x0), (1, .int x1), (2, .int x2)] := hl
  have S : St G w s s.heap [] := S
  generalize s.heap = H at S ⊢
  generalize ([] : List Loc) = locs at S ⊢
  rw [f_X9_within] at hz
  refine lv_iload_n hx hb dX9_within_0 rfl (lv_at hl 0 rfl) ?_
  refine lv_iload_n hx hb dX9_within_1 rfl (lv_at hl 1 rfl) ?_
  refine lv_icmp_lt (tgt := 14) hx hb dX9_within_2 (by decide) (fun c1 => ?_) (fun c1 => ?_)
  · have hz := ipt (c1) hz
    refine lv_iconst (v := 0) hx hb dX9_within_14 (by decide) ?_
    exact g_retb hx hb hr hlk S isB_0 hz dX9_within_15
  · have hz := ipf (c1) hz
    refine lv_iload_n hx hb dX9_within_5 rfl (lv_at hl 0 rfl) ?_
    refine lv_iload_n hx hb dX9_within_6 rfl (lv_at hl 2 rfl) ?_
    refine lv_icmp_gt (tgt := 14) hx hb dX9_within_7 (by decide) (fun c2 => ?_) (fun c2 => ?_)
    · have hz := ipt (c2) hz
      refine lv_iconst (v := 0) hx hb dX9_within_14 (by decide) ?_
      exact g_retb hx hb hr hlk S isB_0 hz dX9_within_15
    · have hz := ipf (c2) hz
      refine lv_iconst (v := 1) hx hb dX9_within_10 (by decide) ?_
      refine lv_goto (tgt := 15) hx hb dX9_within_11 (by decide) ?_
      exact g_retb hx hb hr hlk S isB_1 hz dX9_within_15
