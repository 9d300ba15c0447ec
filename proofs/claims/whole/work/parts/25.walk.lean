noncomputable def f_X8_told_15  (x1 : Int64) (x3 : Int64) (t0 : Int64) (w : GW) : Option (Int64 × GW) :=
  (f_X8_common x1 x3 w).bind fun q2 =>
  if q2.1 ≤ 1 then
    some (t0, q2.2)
  else
    if ¬ q2.1 = 0 then
    some ((t0 / q2.1), q2.2)
    else none
noncomputable def f_X8_told (x1 : Int64) (x3 : Int64) (x5 : Int32) (w : GW) : Option (Int64 × GW) :=
  if x5 = 0 then
    f_X8_told_15 x1 x3 x1 (sI w 0 12 0)
  else
    f_X8_told_15 x1 x3 x3 (sI w 0 12 0)
set_option maxHeartbeats 4000000 in
set_option maxRecDepth 100000 in
theorem w_X8_told_15 {p : Program} {l : Launch} {e : Env} {s : State} {m : MethodId} {args : Array Value} {below : List Frame} {meth : Method} {c : Code} {G : GG} (F : CallFix p m c cX8_told 10 s args (wsU yX8_told cX8_told 10 (some .long)) RX8) (hr : meth.sig.returnType = (some .long)) (hlk : meth.locks = false) {z : Int64 × GW} : (∀ (x1 : Int64) (x3 : Int64) (t0 : Int64) (w : GW) (H : Heap) (locs : List Loc) (ls : Array Slot), St G w s H locs → lv_has ls 10 [(1, .long x1), (3, .long x3)] → f_X8_told_15 x1 x3 t0 w = some z → W p l e (headSpec (wsU yX8_told cX8_told 10 (some .long)) rm_X8_told).room s m args below meth c H locs 0 0 (MQ below (QL G z) args s 0 0 (gA G)) (F0 m 15 ls [.long t0])) := by
  obtain ⟨hx, hb, hml, hown, hts⟩ := id F
  have hg : ∀ q ∈ lwg, q.before args s = true := fun q h => hts q (List.mem_cons_of_mem _ h)
  intro x1 x3 t0 w H locs ls S hl hz
  rw [f_X8_told_15] at hz
  refine lv_lstore (lv' := [(6, .long t0), (1, .long x1), (3, .long x3)]) hx hb dX8_told_15 hl (by decide) rfl (fun ls hl => ?_)
  refine lv_lload_n hx hb dX8_told_17 rfl (lv_at hl 1 rfl) ?_
  refine lv_lload_n hx hb dX8_told_18 rfl (lv_at hl 2 rfl) ?_
  obtain ⟨q2, e3, hz⟩ := bd hz
  refine g_callSl (As := [.long x1, .long x3]) (rest := []) F S (c_X8_common l G x1 x3  _ e3) (cw_X8_told_X8_common_304 hg) rfl hl.1 rfl (Nat.le_of_ble_eq_true rfl) ⟨Nat.zero_le _, Nat.zero_le _⟩ dX8_told_19 (fun H locs  S => ?_)
  refine lv_lstore (lv' := [(8, .long q2.1), (6, .long t0), (1, .long x1), (3, .long x3)]) hx hb dX8_told_22 hl (by decide) rfl (fun ls hl => ?_)
  refine lv_lload hx hb dX8_told_24 (lv_at hl 0 rfl) ?_
  refine lv_lconst (v := 1) hx hb dX8_told_26 (by decide) ?_
  refine W.lcmp hx hb dX8_told_27 ?_
  refine lv_if_le (tgt := 39) hx hb dX8_told_28 (by decide) (fun c4 => ?_) (fun c4 => ?_)
  · have hz := ipt ((lg_cmp_le _ _).mp c4) hz
    refine lv_lload hx hb dX8_told_39 (lv_at hl 1 rfl) ?_
    exact g_retl hx hb hr hlk S hz dX8_told_41
  · have hz := ipf (fun q9 => c4 ((lg_cmp_le _ _).mpr q9)) hz
    refine lv_lload hx hb dX8_told_31 (lv_at hl 1 rfl) ?_
    refine lv_lload hx hb dX8_told_33 (lv_at hl 0 rfl) ?_
    obtain ⟨h5, hz⟩ := ck hz
    refine g_ldiv hx hb dX8_told_35 h5 ?_
    refine lv_goto (tgt := 41) hx hb dX8_told_36 (by decide) ?_
    exact g_retl hx hb hr hlk S hz dX8_told_41
set_option maxHeartbeats 4000000 in
set_option maxRecDepth 100000 in
theorem c_X8_told (l : Launch) (G : GG) (x1 : Int64) (x3 : Int64) (x5 : Int32)  (w : GW) {z : Int64 × GW} (hz : f_X8_told x1 x3 x5 w = some z) : Met l yX8_told (wsU yX8_told cX8_told 10 (some .long)) rm_X8_told (va_Pc [.ref (gad G 0), .long x1, .long x3, .int x5] (PreG G w)) (QL G z) 0 0 (gA G) := by
  refine Met.ofW (cc := cX8_told) (maxL := 10) (ret := (some .long)) (by decide) rfl ?_
  intro p e s m args below meth c s₁ B hml hv
  obtain ⟨rfl, S⟩ := hv
  have F : CallFix p m c cX8_told 10 s _ (wsU yX8_told cX8_told 10 (some .long)) RX8 := ⟨B.exec, B.bytes, hml, findClass_of_methodNamed B.named, atoms_spec B.pre⟩
  have hr := B.returns
  have hlk := B.notSynchronized
  obtain ⟨hx, hb, -, hown, hts⟩ := id F
  have hg : ∀ q ∈ lwg, q.before _ s = true := fun q h => hts q (List.mem_cons_of_mem _ h)
  refine g_entry (Nat.le_of_ble_eq_true rfl) (fun ls hl => ?_)
  have hl : lv_has ls 10 [(0, .ref (gad G 0)), (1, .long x1), (3, .long x3), (5, .int x5)] := hl
  have S : St G w s s.heap [] := S
  generalize s.heap = H at S ⊢
  generalize ([] : List Loc) = locs at S ⊢
  rw [f_X8_told] at hz
  refine lv_aload_n hx hb dX8_told_0 rfl (lv_at hl 0 rfl) ?_
  refine lv_iconst (v := 0) hx hb dX8_told_1 (by decide) ?_
  refine fp_X8_12 (v := 0) hx hb (fun q h => hg q (tl_X8 q h)) hown (hg _ t_fl_X8_85) S (by decide) dX8_told_2 (fun H locs S => ?_)
  refine lv_iload hx hb dX8_told_5 (lv_at hl 3 rfl) ?_
  refine lv_if_eq (tgt := 14) hx hb dX8_told_7 (by decide) (fun c1 => ?_) (fun c1 => ?_)
  · have hz := ipt (c1) hz
    refine lv_lload_n hx hb dX8_told_14 rfl (lv_at hl 1 rfl) ?_
    exact w_X8_told_15 F hr hlk x1 x3 x1 _ _ _ _ S (lv_sub hl [1, 2] rfl) hz
  · have hz := ipf (c1) hz
    refine lv_lload_n hx hb dX8_told_10 rfl (lv_at hl 2 rfl) ?_
    refine lv_goto (tgt := 15) hx hb dX8_told_11 (by decide) ?_
    exact w_X8_told_15 F hr hlk x1 x3 x3 _ _ _ _ S (lv_sub hl [1, 2] rfl) hz
noncomputable def f_X8_chance (x1 : Int32) (x2 : Int32) (x3 : Int32) (x4 : Int32) (x5 : Int32) (x6 : Int32) (w : GW) : Option (Int64 × GW) :=
  (f_X8_isTooMany x1 x2 w).bind fun q1 =>
  if q1.1 = 0 then
    if inb x1 6 then
    (f_X0_rowOf x1 (((fxH (gR q1.2 0)) + 4) + 1 + ix x1) 0 q1.2).bind fun q6 =>
    (f_X0_count q6.1 x2 x3 x4 x5 q6.2).bind fun q9 =>
    (f_X8_told (gL q9.2 72 9) (gL q9.2 72 10) x6 q9.2).bind fun q11 =>
    some (q11.1, q11.2)
    else none
  else
    (f_X8_refuse 3 q1.2).bind fun q13 =>
    some ((q13.1.toInt64), q13.2)
set_option maxHeartbeats 4000000 in
set_option maxRecDepth 100000 in
theorem c_X8_chance (l : Launch) (G : GG) (x1 : Int32) (x2 : Int32) (x3 : Int32) (x4 : Int32) (x5 : Int32) (x6 : Int32)  (w : GW) {z : Int64 × GW} (hz : f_X8_chance x1 x2 x3 x4 x5 x6 w = some z) : Met l yX8_chance (wsU yX8_chance cX8_chance 7 (some .long)) rm_X8_chance (va_Pc [.ref (gad G 0), .int x1, .int x2, .int x3, .int x4, .int x5, .int x6] (PreG G w)) (QL G z) 0 0 (gA G) := by
  refine Met.ofW (cc := cX8_chance) (maxL := 7) (ret := (some .long)) (by decide) rfl ?_
  intro p e s m args below meth c s₁ B hml hv
  obtain ⟨rfl, S⟩ := hv
  have F : CallFix p m c cX8_chance 7 s _ (wsU yX8_chance cX8_chance 7 (some .long)) RX8 := ⟨B.exec, B.bytes, hml, findClass_of_methodNamed B.named, atoms_spec B.pre⟩
  have hr := B.returns
  have hlk := B.notSynchronized
  obtain ⟨hx, hb, -, hown, hts⟩ := id F
  have hg : ∀ q ∈ lwg, q.before _ s = true := fun q h => hts q (List.mem_cons_of_mem _ h)
  refine g_entry (Nat.le_of_ble_eq_true rfl) (fun ls hl => ?_)
  have hl : lv_has ls 7 [(0, .ref (gad G 0)), (1, .int x1), (2, .int x2), (3, .int x3), (4, .int x4), (5, .int x5), (6, .int x6)] := hl
  have S : St G w s s.heap [] := S
  generalize s.heap = H at S ⊢
  generalize ([] : List Loc) = locs at S ⊢
  rw [f_X8_chance] at hz
  refine lv_aload_n hx hb dX8_chance_0 rfl (lv_at hl 0 rfl) ?_
  refine lv_iload_n hx hb dX8_chance_1 rfl (lv_at hl 1 rfl) ?_
  refine lv_iload_n hx hb dX8_chance_2 rfl (lv_at hl 2 rfl) ?_
  obtain ⟨q1, e2, hz⟩ := bd hz
  refine g_callVb (As := [.int x1, .int x2]) (rest := []) F S (c_X8_isTooMany l G x1 x2  _ e2) (cw_X8_chance_X8_isTooMany_168 hg) (S.obj (by decide) (by decide) rfl (oc_X8 _ _ _ (by decide))) rfl hl.1 rfl (Nat.le_of_ble_eq_true rfl) ⟨Nat.zero_le _, Nat.zero_le _⟩ dX8_chance_3 (fun H locs hB3 S => ?_)
  refine lv_if_eq (tgt := 16) hx hb dX8_chance_6 (by decide) (fun c4 => ?_) (fun c4 => ?_)
  · have hz := ipt (c4) hz
    refine lv_aload_n hx hb dX8_chance_16 rfl (lv_at hl 0 rfl) ?_
    refine fg_X8_2 hx hb (fun q h => hg q (tl_X8 q h)) hown (hg _ t_fl_X8_49) S (by decide) dX8_chance_17 ?_
    refine lv_aload_n hx hb dX8_chance_20 rfl (lv_at hl 0 rfl) ?_
    refine fg_X8_2 hx hb (fun q h => hg q (tl_X8 q h)) hown (hg _ t_fl_X8_49) S (by decide) dX8_chance_21 ?_
    refine lv_iload_n hx hb dX8_chance_24 rfl (lv_at hl 1 rfl) ?_
    refine lv_aload_n hx hb dX8_chance_25 rfl (lv_at hl 0 rfl) ?_
    refine fg_X8_9 hx hb (fun q h => hg q (tl_X8 q h)) hown (hg _ t_fl_X8_28) S (by decide) dX8_chance_26 ?_
    refine fg_X3_13 hx hb (fun q h => hg q (tl_X3 q h)) hown (hg _ t_fl_X8_221) S (kd_H _) dX8_chance_29 ?_
    refine lv_iload_n hx hb dX8_chance_32 rfl (lv_at hl 1 rfl) ?_
    obtain ⟨h5, hz⟩ := ck hz
    refine g_aald33 hx hb S (kd_3_4 (kd_H _)) h5 dX8_chance_33 ?_
    refine lv_iconst (v := 0) hx hb dX8_chance_34 (by decide) ?_
    obtain ⟨q6, e7, hz⟩ := bd hz
    refine g_callVr (As := [.int x1, .ref (gad G (((fxH (gR q1.2 0)) + 4) + 1 + ix x1)), .int 0]) (rest := [.ref (gad G 72)]) F S (c_X0_rowOf l G x1 (((fxH (gR q1.2 0)) + 4) + 1 + ix x1) 0 (kd_el33 (kd_3_4 (kd_H _)) (h5).2) _ e7) (cw_X8_chance_X0_rowOf_194 hg) (S.obj (by decide) (by decide) rfl (oc_X0 _ _ _ (by decide))) rfl hl.1 rfl (Nat.le_of_ble_eq_true rfl) ⟨Nat.zero_le _, Nat.zero_le _⟩ dX8_chance_35 (fun H locs hk8 S => ?_)
    refine lv_iload_n hx hb dX8_chance_38 rfl (lv_at hl 2 rfl) ?_
    refine lv_iload_n hx hb dX8_chance_39 rfl (lv_at hl 3 rfl) ?_
    refine lv_iload hx hb dX8_chance_40 (lv_at hl 4 rfl) ?_
    refine lv_iload hx hb dX8_chance_42 (lv_at hl 5 rfl) ?_
    obtain ⟨q9, e10, hz⟩ := bd hz
    refine g_callVv (As := [.ref (gad G q6.1), .int x2, .int x3, .int x4, .int x5]) (rest := []) F S (c_X0_count l G q6.1 x2 x3 x4 x5 hk8 _ e10) (cw_X8_chance_X0_count_171 hg) (S.obj (by decide) (by decide) rfl (oc_X0 _ _ _ (by decide))) rfl hl.1 rfl (Nat.le_of_ble_eq_true rfl) ⟨Nat.zero_le _, Nat.zero_le _⟩ dX8_chance_44 (fun H locs  S => ?_)
    refine lv_aload_n hx hb dX8_chance_47 rfl (lv_at hl 0 rfl) ?_
    refine lv_aload_n hx hb dX8_chance_48 rfl (lv_at hl 0 rfl) ?_
    refine fg_X8_2 hx hb (fun q h => hg q (tl_X8 q h)) hown (hg _ t_fl_X8_49) S (by decide) dX8_chance_49 ?_
    refine fg_X0_9 hx hb (fun q h => hg q (tl_X0 q h)) hown (hg _ t_fl_X8_175) S (by decide) dX8_chance_52 ?_
    refine lv_aload_n hx hb dX8_chance_55 rfl (lv_at hl 0 rfl) ?_
    refine fg_X8_2 hx hb (fun q h => hg q (tl_X8 q h)) hown (hg _ t_fl_X8_49) S (by decide) dX8_chance_56 ?_
    refine fg_X0_10 hx hb (fun q h => hg q (tl_X0 q h)) hown (hg _ t_fl_X8_179) S (by decide) dX8_chance_59 ?_
    refine lv_iload hx hb dX8_chance_62 (lv_at hl 6 rfl) ?_
    obtain ⟨q11, e12, hz⟩ := bd hz
    refine g_callVl (As := [.long (gL q9.2 72 9), .long (gL q9.2 72 10), .int x6]) (rest := []) F S (c_X8_told l G (gL q9.2 72 9) (gL q9.2 72 10) x6  _ e12) (cw_X8_chance_X8_told_212 hg) (S.obj (by decide) (by decide) rfl (oc_X8 _ _ _ (by decide))) rfl hl.1 rfl (Nat.le_of_ble_eq_true rfl) ⟨Nat.zero_le _, Nat.zero_le _⟩ dX8_chance_64 (fun H locs  S => ?_)
    exact g_retl hx hb hr hlk S hz dX8_chance_67
  · have hz := ipf (c4) hz
    refine lv_aload_n hx hb dX8_chance_9 rfl (lv_at hl 0 rfl) ?_
    refine lv_iconst (v := 3) hx hb dX8_chance_10 (by decide) ?_
    obtain ⟨q13, e14, hz⟩ := bd hz
    refine g_callVi (As := [.int 3]) (rest := []) F S (c_X8_refuse l G 3  _ e14) (cw_X8_chance_X8_refuse_95 hg) (S.obj (by decide) (by decide) rfl (oc_X8 _ _ _ (by decide))) rfl hl.1 rfl (Nat.le_of_ble_eq_true rfl) ⟨Nat.zero_le _, Nat.zero_le _⟩ dX8_chance_11 (fun H locs  S => ?_)
    refine lv_i2l (v := q13.1.toInt64) hx hb dX8_chance_14 rfl ?_
    exact g_retl hx hb hr hlk S hz dX8_chance_15
noncomputable def f_X8_fullest_30   (w : GW) : Option (Int64 × GW) :=
  (f_X8_refuse 2 w).bind fun q9 =>
  some ((q9.1.toInt64), q9.2)
noncomputable def f_X8_fullest (x1 : Int32) (x2 : Int32) (x3 : Int32) (x4 : Int32) (w : GW) : Option (Int64 × GW) :=
  (f_X8_isPorter x1 w).bind fun q1 =>
  if q1.1 = 0 then
    (f_X8_refuse 1 q1.2).bind fun q17 =>
    some ((q17.1.toInt64), q17.2)
  else
    (f_X8_isCount x2 q1.2).bind fun q5 =>
    if q5.1 = 0 then
      f_X8_fullest_30 q5.2
    else
      (f_X8_isFullest x3 q5.2).bind fun q11 =>
      if q11.1 = 0 then
        f_X8_fullest_30 q11.2
      else
        (f_X8_chance x1 x2 4 x3 0 x4 q11.2).bind fun q15 =>
        some (q15.1, q15.2)
set_option maxHeartbeats 4000000 in
set_option maxRecDepth 100000 in
theorem w_X8_fullest_30 {p : Program} {l : Launch} {e : Env} {s : State} {m : MethodId} {args : Array Value} {below : List Frame} {meth : Method} {c : Code} {G : GG} (F : CallFix p m c cX8_fullest 5 s args (wsU yX8_fullest cX8_fullest 5 (some .long)) RX8) (hr : meth.sig.returnType = (some .long)) (hlk : meth.locks = false) {z : Int64 × GW} : (∀ (w : GW) (H : Heap) (locs : List Loc) (ls : Array Slot), St G w s H locs → lv_has ls 5 [(0, .ref (gad G 0))] → f_X8_fullest_30  w = some z → W p l e (headSpec (wsU yX8_fullest cX8_fullest 5 (some .long)) rm_X8_fullest).room s m args below meth c H locs 0 0 (MQ below (QL G z) args s 0 0 (gA G)) (F0 m 30 ls [])) := by
  obtain ⟨hx, hb, hml, hown, hts⟩ := id F
  have hg : ∀ q ∈ lwg, q.before args s = true := fun q h => hts q (List.mem_cons_of_mem _ h)
  intro w H locs ls S hl hz
  rw [f_X8_fullest_30] at hz
  refine lv_aload_n hx hb dX8_fullest_30 rfl (lv_at hl 0 rfl) ?_
  refine lv_iconst (v := 2) hx hb dX8_fullest_31 (by decide) ?_
  obtain ⟨q9, e10, hz⟩ := bd hz
  refine g_callVi (As := [.int 2]) (rest := []) F S (c_X8_refuse l G 2  _ e10) (cw_X8_fullest_X8_refuse_95 hg) (S.obj (by decide) (by decide) rfl (oc_X8 _ _ _ (by decide))) rfl hl.1 rfl (Nat.le_of_ble_eq_true rfl) ⟨Nat.zero_le _, Nat.zero_le _⟩ dX8_fullest_32 (fun H locs  S => ?_)
  refine lv_i2l (v := q9.1.toInt64) hx hb dX8_fullest_35 rfl ?_
  exact g_retl hx hb hr hlk S hz dX8_fullest_36
set_option maxHeartbeats 4000000 in
set_option maxRecDepth 100000 in
theorem c_X8_fullest (l : Launch) (G : GG) (x1 : Int32) (x2 : Int32) (x3 : Int32) (x4 : Int32)  (w : GW) {z : Int64 × GW} (hz : f_X8_fullest x1 x2 x3 x4 w = some z) : Met l yX8_fullest (wsU yX8_fullest cX8_fullest 5 (some .long)) rm_X8_fullest (va_Pc [.ref (gad G 0), .int x1, .int x2, .int x3, .int x4] (PreG G w)) (QL G z) 0 0 (gA G) := by
  refine Met.ofW (cc := cX8_fullest) (maxL := 5) (ret := (some .long)) (by decide) rfl ?_
  intro p e s m args below meth c s₁ B hml hv
  obtain ⟨rfl, S⟩ := hv
  have F : CallFix p m c cX8_fullest 5 s _ (wsU yX8_fullest cX8_fullest 5 (some .long)) RX8 := ⟨B.exec, B.bytes, hml, findClass_of_methodNamed B.named, atoms_spec B.pre⟩
  have hr := B.returns
  have hlk := B.notSynchronized
  obtain ⟨hx, hb, -, hown, hts⟩ := id F
  have hg : ∀ q ∈ lwg, q.before _ s = true := fun q h => hts q (List.mem_cons_of_mem _ h)
  refine g_entry (Nat.le_of_ble_eq_true rfl) (fun ls hl => ?_)
  have hl : lv_has ls 5 [(0, .ref (gad G 0)), (1, .int x1), (2, .int x2), (3, .int x3), (4, .int x4)] := hl
  have S : St G w s s.heap [] := S
  generalize s.heap = H at S ⊢
  generalize ([] : List Loc) = locs at S ⊢
  rw [f_X8_fullest] at hz
  refine lv_aload_n hx hb dX8_fullest_0 rfl (lv_at hl 0 rfl) ?_
  refine lv_iload_n hx hb dX8_fullest_1 rfl (lv_at hl 1 rfl) ?_
  obtain ⟨q1, e2, hz⟩ := bd hz
  refine g_callVb (As := [.int x1]) (rest := []) F S (c_X8_isPorter l G x1  _ e2) (cw_X8_fullest_X8_isPorter_121 hg) (S.obj (by decide) (by decide) rfl (oc_X8 _ _ _ (by decide))) rfl hl.1 rfl (Nat.le_of_ble_eq_true rfl) ⟨Nat.zero_le _, Nat.zero_le _⟩ dX8_fullest_2 (fun H locs hB3 S => ?_)
  refine lv_if_ne (tgt := 15) hx hb dX8_fullest_5 (by decide) (fun c4 => ?_) (fun c4 => ?_)
  · have hz := ipf (c4) hz
    refine lv_aload_n hx hb dX8_fullest_15 rfl (lv_at hl 0 rfl) ?_
    refine lv_iload_n hx hb dX8_fullest_16 rfl (lv_at hl 2 rfl) ?_
    obtain ⟨q5, e6, hz⟩ := bd hz
    refine g_callVb (As := [.int x2]) (rest := []) F S (c_X8_isCount l G x2  _ e6) (cw_X8_fullest_X8_isCount_125 hg) (S.obj (by decide) (by decide) rfl (oc_X8 _ _ _ (by decide))) rfl hl.1 rfl (Nat.le_of_ble_eq_true rfl) ⟨Nat.zero_le _, Nat.zero_le _⟩ dX8_fullest_17 (fun H locs hB7 S => ?_)
    refine lv_if_eq (tgt := 30) hx hb dX8_fullest_20 (by decide) (fun c8 => ?_) (fun c8 => ?_)
    · have hz := ipt (c8) hz
      exact w_X8_fullest_30 F hr hlk _ _ _ _ S (lv_sub hl [0] rfl) hz
    · have hz := ipf (c8) hz
      refine lv_iload_n hx hb dX8_fullest_23 rfl (lv_at hl 3 rfl) ?_
      obtain ⟨q11, e12, hz⟩ := bd hz
      refine g_callSb (As := [.int x3]) (rest := []) F S (c_X8_isFullest l G x3  _ e12) (cw_X8_fullest_X8_isFullest_128 hg) rfl hl.1 rfl (Nat.le_of_ble_eq_true rfl) ⟨Nat.zero_le _, Nat.zero_le _⟩ dX8_fullest_24 (fun H locs hB13 S => ?_)
      refine lv_if_ne (tgt := 37) hx hb dX8_fullest_27 (by decide) (fun c14 => ?_) (fun c14 => ?_)
      · have hz := ipf (c14) hz
        refine lv_aload_n hx hb dX8_fullest_37 rfl (lv_at hl 0 rfl) ?_
        refine lv_iload_n hx hb dX8_fullest_38 rfl (lv_at hl 1 rfl) ?_
        refine lv_iload_n hx hb dX8_fullest_39 rfl (lv_at hl 2 rfl) ?_
        refine lv_iconst (v := 4) hx hb dX8_fullest_40 (by decide) ?_
        refine lv_iload_n hx hb dX8_fullest_41 rfl (lv_at hl 3 rfl) ?_
        refine lv_iconst (v := 0) hx hb dX8_fullest_42 (by decide) ?_
        refine lv_iload hx hb dX8_fullest_43 (lv_at hl 4 rfl) ?_
        obtain ⟨q15, e16, hz⟩ := bd hz
        refine g_callVl (As := [.int x1, .int x2, .int 4, .int x3, .int 0, .int x4]) (rest := []) F S (c_X8_chance l G x1 x2 4 x3 0 x4  _ e16) (cw_X8_fullest_X8_chance_131 hg) (S.obj (by decide) (by decide) rfl (oc_X8 _ _ _ (by decide))) rfl hl.1 rfl (Nat.le_of_ble_eq_true rfl) ⟨Nat.zero_le _, Nat.zero_le _⟩ dX8_fullest_45 (fun H locs  S => ?_)
        exact g_retl hx hb hr hlk S hz dX8_fullest_48
      · have hz := ipt (c14) hz
        exact w_X8_fullest_30 F hr hlk _ _ _ _ S (lv_sub hl [0] rfl) hz
  · have hz := ipt (c4) hz
    refine lv_aload_n hx hb dX8_fullest_8 rfl (lv_at hl 0 rfl) ?_
    refine lv_iconst (v := 1) hx hb dX8_fullest_9 (by decide) ?_
    obtain ⟨q17, e18, hz⟩ := bd hz
    refine g_callVi (As := [.int 1]) (rest := []) F S (c_X8_refuse l G 1  _ e18) (cw_X8_fullest_X8_refuse_95 hg) (S.obj (by decide) (by decide) rfl (oc_X8 _ _ _ (by decide))) rfl hl.1 rfl (Nat.le_of_ble_eq_true rfl) ⟨Nat.zero_le _, Nat.zero_le _⟩ dX8_fullest_10 (fun H locs  S => ?_)
    refine lv_i2l (v := q17.1.toInt64) hx hb dX8_fullest_13 rfl ?_
    exact g_retl hx hb hr hlk S hz dX8_fullest_14
noncomputable def f_X8_empty_32   (w : GW) : Option (Int64 × GW) :=
  (f_X8_refuse 2 w).bind fun q9 =>
  some ((q9.1.toInt64), q9.2)
noncomputable def f_X8_empty (x1 : Int32) (x2 : Int32) (x3 : Int32) (x4 : Int32) (w : GW) : Option (Int64 × GW) :=
  (f_X8_isPorter x1 w).bind fun q1 =>
  if q1.1 = 0 then
    (f_X8_refuse 1 q1.2).bind fun q15 =>
    some ((q15.1.toInt64), q15.2)
  else
    (f_X8_isCount x2 q1.2).bind fun q5 =>
    if q5.1 = 0 then
      f_X8_empty_32 q5.2
    else
      if x3 < 0 then
        f_X8_empty_32 q5.2
      else
        if x3 ≤ 5 then
          (f_X8_chance x1 x2 5 x3 0 x4 q5.2).bind fun q13 =>
          some (q13.1, q13.2)
        else
          f_X8_empty_32 q5.2
set_option maxHeartbeats 4000000 in
set_option maxRecDepth 100000 in
theorem w_X8_empty_32 {p : Program} {l : Launch} {e : Env} {s : State} {m : MethodId} {args : Array Value} {below : List Frame} {meth : Method} {c : Code} {G : GG} (F : CallFix p m c cX8_empty 5 s args (wsU yX8_empty cX8_empty 5 (some .long)) RX8) (hr : meth.sig.returnType = (some .long)) (hlk : meth.locks = false) {z : Int64 × GW} : (∀ (w : GW) (H : Heap) (locs : List Loc) (ls : Array Slot), St G w s H locs → lv_has ls 5 [(0, .ref (gad G 0))] → f_X8_empty_32  w = some z → W p l e (headSpec (wsU yX8_empty cX8_empty 5 (some .long)) rm_X8_empty).room s m args below meth c H locs 0 0 (MQ below (QL G z) args s 0 0 (gA G)) (F0 m 32 ls [])) := by
  obtain ⟨hx, hb, hml, hown, hts⟩ := id F
  have hg : ∀ q ∈ lwg, q.before args s = true := fun q h => hts q (List.mem_cons_of_mem _ h)
  intro w H locs ls S hl hz
  rw [f_X8_empty_32] at hz
  refine lv_aload_n hx hb dX8_empty_32 rfl (lv_at hl 0 rfl) ?_
  refine lv_iconst (v := 2) hx hb dX8_empty_33 (by decide) ?_
  obtain ⟨q9, e10, hz⟩ := bd hz
  refine g_callVi (As := [.int 2]) (rest := []) F S (c_X8_refuse l G 2  _ e10) (cw_X8_empty_X8_refuse_95 hg) (S.obj (by decide) (by decide) rfl (oc_X8 _ _ _ (by decide))) rfl hl.1 rfl (Nat.le_of_ble_eq_true rfl) ⟨Nat.zero_le _, Nat.zero_le _⟩ dX8_empty_34 (fun H locs  S => ?_)
  refine lv_i2l (v := q9.1.toInt64) hx hb dX8_empty_37 rfl ?_
  exact g_retl hx hb hr hlk S hz dX8_empty_38
set_option maxHeartbeats 4000000 in
set_option maxRecDepth 100000 in
theorem c_X8_empty (l : Launch) (G : GG) (x1 : Int32) (x2 : Int32) (x3 : Int32) (x4 : Int32)  (w : GW) {z : Int64 × GW} (hz : f_X8_empty x1 x2 x3 x4 w = some z) : Met l yX8_empty (wsU yX8_empty cX8_empty 5 (some .long)) rm_X8_empty (va_Pc [.ref (gad G 0), .int x1, .int x2, .int x3, .int x4] (PreG G w)) (QL G z) 0 0 (gA G) := by
  refine Met.ofW (cc := cX8_empty) (maxL := 5) (ret := (some .long)) (by decide) rfl ?_
  intro p e s m args below meth c s₁ B hml hv
  obtain ⟨rfl, S⟩ := hv
  have F : CallFix p m c cX8_empty 5 s _ (wsU yX8_empty cX8_empty 5 (some .long)) RX8 := ⟨B.exec, B.bytes, hml, findClass_of_methodNamed B.named, atoms_spec B.pre⟩
  have hr := B.returns
  have hlk := B.notSynchronized
  obtain ⟨hx, hb, -, hown, hts⟩ := id F
  have hg : ∀ q ∈ lwg, q.before _ s = true := fun q h => hts q (List.mem_cons_of_mem _ h)
  refine g_entry (Nat.le_of_ble_eq_true rfl) (fun ls hl => ?_)
  have hl : lv_has ls 5 [(0, .ref (gad G 0)), (1, .int x1), (2, .int x2), (3, .int x3), (4, .int x4)] := hl
  have S : St G w s s.heap [] := S
  generalize s.heap = H at S ⊢
  generalize ([] : List Loc) = locs at S ⊢
  rw [f_X8_empty] at hz
  refine lv_aload_n hx hb dX8_empty_0 rfl (lv_at hl 0 rfl) ?_
  refine lv_iload_n hx hb dX8_empty_1 rfl (lv_at hl 1 rfl) ?_
  obtain ⟨q1, e2, hz⟩ := bd hz
  refine g_callVb (As := [.int x1]) (rest := []) F S (c_X8_isPorter l G x1  _ e2) (cw_X8_empty_X8_isPorter_121 hg) (S.obj (by decide) (by decide) rfl (oc_X8 _ _ _ (by decide))) rfl hl.1 rfl (Nat.le_of_ble_eq_true rfl) ⟨Nat.zero_le _, Nat.zero_le _⟩ dX8_empty_2 (fun H locs hB3 S => ?_)
  refine lv_if_ne (tgt := 15) hx hb dX8_empty_5 (by decide) (fun c4 => ?_) (fun c4 => ?_)
  · have hz := ipf (c4) hz
    refine lv_aload_n hx hb dX8_empty_15 rfl (lv_at hl 0 rfl) ?_
    refine lv_iload_n hx hb dX8_empty_16 rfl (lv_at hl 2 rfl) ?_
    obtain ⟨q5, e6, hz⟩ := bd hz
    refine g_callVb (As := [.int x2]) (rest := []) F S (c_X8_isCount l G x2  _ e6) (cw_X8_empty_X8_isCount_125 hg) (S.obj (by decide) (by decide) rfl (oc_X8 _ _ _ (by decide))) rfl hl.1 rfl (Nat.le_of_ble_eq_true rfl) ⟨Nat.zero_le _, Nat.zero_le _⟩ dX8_empty_17 (fun H locs hB7 S => ?_)
    refine lv_if_eq (tgt := 32) hx hb dX8_empty_20 (by decide) (fun c8 => ?_) (fun c8 => ?_)
    · have hz := ipt (c8) hz
      exact w_X8_empty_32 F hr hlk _ _ _ _ S (lv_sub hl [0] rfl) hz
    · have hz := ipf (c8) hz
      refine lv_iload_n hx hb dX8_empty_23 rfl (lv_at hl 3 rfl) ?_
      refine lv_if_lt (tgt := 32) hx hb dX8_empty_24 (by decide) (fun c11 => ?_) (fun c11 => ?_)
      · have hz := ipt (c11) hz
        exact w_X8_empty_32 F hr hlk _ _ _ _ S (lv_sub hl [0] rfl) hz
      · have hz := ipf (c11) hz
        refine lv_iload_n hx hb dX8_empty_27 rfl (lv_at hl 3 rfl) ?_
        refine lv_iconst (v := 5) hx hb dX8_empty_28 (by decide) ?_
        refine lv_icmp_le (tgt := 39) hx hb dX8_empty_29 (by decide) (fun c12 => ?_) (fun c12 => ?_)
        · have hz := ipt (c12) hz
          refine lv_aload_n hx hb dX8_empty_39 rfl (lv_at hl 0 rfl) ?_
          refine lv_iload_n hx hb dX8_empty_40 rfl (lv_at hl 1 rfl) ?_
          refine lv_iload_n hx hb dX8_empty_41 rfl (lv_at hl 2 rfl) ?_
          refine lv_iconst (v := 5) hx hb dX8_empty_42 (by decide) ?_
          refine lv_iload_n hx hb dX8_empty_43 rfl (lv_at hl 3 rfl) ?_
          refine lv_iconst (v := 0) hx hb dX8_empty_44 (by decide) ?_
          refine lv_iload hx hb dX8_empty_45 (lv_at hl 4 rfl) ?_
          obtain ⟨q13, e14, hz⟩ := bd hz
          refine g_callVl (As := [.int x1, .int x2, .int 5, .int x3, .int 0, .int x4]) (rest := []) F S (c_X8_chance l G x1 x2 5 x3 0 x4  _ e14) (cw_X8_empty_X8_chance_131 hg) (S.obj (by decide) (by decide) rfl (oc_X8 _ _ _ (by decide))) rfl hl.1 rfl (Nat.le_of_ble_eq_true rfl) ⟨Nat.zero_le _, Nat.zero_le _⟩ dX8_empty_47 (fun H locs  S => ?_)
          exact g_retl hx hb hr hlk S hz dX8_empty_50
        · have hz := ipf (c12) hz
          exact w_X8_empty_32 F hr hlk _ _ _ _ S (lv_sub hl [0] rfl) hz
  · have hz := ipt (c4) hz
    refine lv_aload_n hx hb dX8_empty_8 rfl (lv_at hl 0 rfl) ?_
    refine lv_iconst (v := 1) hx hb dX8_empty_9 (by decide) ?_
    obtain ⟨q15, e16, hz⟩ := bd hz
    refine g_callVi (As := [.int 1]) (rest := []) F S (c_X8_refuse l G 1  _ e16) (cw_X8_empty_X8_refuse_95 hg) (S.obj (by decide) (by decide) rfl (oc_X8 _ _ _ (by decide))) rfl hl.1 rfl (Nat.le_of_ble_eq_true rfl) ⟨Nat.zero_le _, Nat.zero_le _⟩ dX8_empty_10 (fun H locs  S => ?_)
    refine lv_i2l (v := q15.1.toInt64) hx hb dX8_empty_13 rfl ?_
    exact g_retl hx hb hr hlk S hz dX8_empty_14
noncomputable def f_X8_isBox (x1 : Int32) (w : GW) : Option (Int32 × GW) :=
  if x1 < 0 then
    some (0, w)
  else
    if (gI w (fxH (gR w 0)) 1) ≤ x1 then
      some (0, w)
    else
      some (1, w)
set_option maxHeartbeats 4000000 in
set_option maxRecDepth 100000 in
theorem c_X8_isBox (l : Launch) (G : GG) (x1 : Int32)  (w : GW) {z : Int32 × GW} (hz : f_X8_isBox x1 w = some z) : Met l yX8_isBox (wsU yX8_isBox cX8_isBox 2 (some .boolean)) rm_X8_isBox (va_Pc [.ref (gad G 0), .int x1] (PreG G w)) (QB G z) 0 0 (gA G) := by
  refine Met.ofW (cc := cX8_isBox) (maxL := 2) (ret := (some .boolean)) (by decide) rfl ?_
  intro p e s m args below meth c s₁ B hml hv
  obtain ⟨rfl, S⟩ := hv
  have F : CallFix p m c cX8_isBox 2 s _ (wsU yX8_isBox cX8_isBox 2 (some .boolean)) RX8 := ⟨B.exec, B.bytes, hml, findClass_of_methodNamed B.named, atoms_spec B.pre⟩
  have hr := B.returns
  have hlk := B.notSynchronized
  obtain ⟨hx, hb, -, hown, hts⟩ := id F
  have hg : ∀ q ∈ lwg, q.before _ s = true := fun q h => hts q (List.mem_cons_of_mem _ h)
  refine g_entry (Nat.le_of_ble_eq_true rfl) (fun ls hl => ?_)
  have hl : lv_has ls 2 [(0, .ref (gad G 0)), (1, .int x1)] := hl
  have S : St G w s s.heap [] := S
  generalize s.heap = H at S ⊢
  generalize ([] : List Loc) = locs at S ⊢
  rw [f_X8_isBox] at hz
  refine lv_iload_n hx hb dX8_isBox_0 rfl (lv_at hl 1 rfl) ?_
  refine lv_if_lt (tgt := 19) hx hb dX8_isBox_1 (by decide) (fun c1 => ?_) (fun c1 => ?_)
  · have hz := ipt (c1) hz
    refine lv_iconst (v := 0) hx hb dX8_isBox_19 (by decide) ?_
    exact g_retb hx hb hr hlk S isB_0 hz dX8_isBox_20
  · have hz := ipf (c1) hz
    refine lv_iload_n hx hb dX8_isBox_4 rfl (lv_at hl 1 rfl) ?_
    refine lv_aload_n hx hb dX8_isBox_5 rfl (lv_at hl 0 rfl) ?_
    refine fg_X8_9 hx hb (fun q h => hg q (tl_X8 q h)) hown (hg _ t_fl_X8_28) S (by decide) dX8_isBox_6 ?_
    refine fg_X3_1 hx hb (fun q h => hg q (tl_X3 q h)) hown (hg _ t_fl_X8_288) S (kd_H _) dX8_isBox_9 ?_
    refine lv_icmp_ge (tgt := 19) hx hb dX8_isBox_12 (by decide) (fun c2 => ?_) (fun c2 => ?_)
    · have hz := ipt (c2) hz
      refine lv_iconst (v := 0) hx hb dX8_isBox_19 (by decide) ?_
      exact g_retb hx hb hr hlk S isB_0 hz dX8_isBox_20
    · have hz := ipf (c2) hz
      refine lv_iconst (v := 1) hx hb dX8_isBox_15 (by decide) ?_
      refine lv_goto (tgt := 20) hx hb dX8_isBox_16 (by decide) ?_
      exact g_retb hx hb hr hlk S isB_1 hz dX8_isBox_20
noncomputable def f_X8_holds_16   (w : GW) : Option (Int64 × GW) :=
  (f_X8_refuse 1 w).bind fun q5 =>
  some ((q5.1.toInt64), q5.2)
noncomputable def f_X8_holds_43   (w : GW) : Option (Int64 × GW) :=
  (f_X8_refuse 2 w).bind fun q15 =>
  some ((q15.1.toInt64), q15.2)
noncomputable def f_X8_holds (x1 : Int32) (x2 : Int32) (x3 : Int32) (x4 : Int32) (x5 : Int32) (w : GW) : Option (Int64 × GW) :=
  (f_X8_isPorter x1 w).bind fun q1 =>
  if q1.1 = 0 then
    f_X8_holds_16 q1.2
  else
    (f_X8_isBox x3 q1.2).bind fun q7 =>
    if q7.1 = 0 then
      f_X8_holds_16 q7.2
    else
      (f_X8_isCount x2 q7.2).bind fun q11 =>
      if q11.1 = 0 then
        f_X8_holds_43 q11.2
      else
        if x4 < 0 then
          f_X8_holds_43 q11.2
        else
          if x4 ≤ 8 then
            (f_X8_chance x1 x2 6 x3 x4 x5 q11.2).bind fun q19 =>
            some (q19.1, q19.2)
          else
            f_X8_holds_43 q11.2
set_option maxHeartbeats 4000000 in
set_option maxRecDepth 100000 in
theorem w_X8_holds_16 {p : Program} {l : Launch} {e : Env} {s : State} {m : MethodId} {args : Array Value} {below : List Frame} {meth : Method} {c : Code} {G : GG} (F : CallFix p m c cX8_holds 6 s args (wsU yX8_holds cX8_holds 6 (some .long)) RX8) (hr : meth.sig.returnType = (some .long)) (hlk : meth.locks = false) {z : Int64 × GW} : (∀ (w : GW) (H : Heap) (locs : List Loc) (ls : Array Slot), St G w s H locs → lv_has ls 6 [(0, .ref (gad G 0))] → f_X8_holds_16  w = some z → W p l e (headSpec (wsU yX8_holds cX8_holds 6 (some .long)) rm_X8_holds).room s m args below meth c H locs 0 0 (MQ below (QL G z) args s 0 0 (gA G)) (F0 m 16 ls [])) := by
  obtain ⟨hx, hb, hml, hown, hts⟩ := id F
  have hg : ∀ q ∈ lwg, q.before args s = true := fun q h => hts q (List.mem_cons_of_mem _ h)
  intro w H locs ls S hl hz
  rw [f_X8_holds_16] at hz
  refine lv_aload_n hx hb dX8_holds_16 rfl (lv_at hl 0 rfl) ?_
  refine lv_iconst (v := 1) hx hb dX8_holds_17 (by decide) ?_
  obtain ⟨q5, e6, hz⟩ := bd hz
  refine g_callVi (As := [.int 1]) (rest := []) F S (c_X8_refuse l G 1  _ e6) (cw_X8_holds_X8_refuse_95 hg) (S.obj (by decide) (by decide) rfl (oc_X8 _ _ _ (by decide))) rfl hl.1 rfl (Nat.le_of_ble_eq_true rfl) ⟨Nat.zero_le _, Nat.zero_le _⟩ dX8_holds_18 (fun H locs  S => ?_)
  refine lv_i2l (v := q5.1.toInt64) hx hb dX8_holds_21 rfl ?_
  exact g_retl hx hb hr hlk S hz dX8_holds_22
set_option maxHeartbeats 4000000 in
set_option maxRecDepth 100000 in
theorem w_X8_holds_43 {p : Program} {l : Launch} {e : Env} {s : State} {m : MethodId} {args : Array Value} {below : List Frame} {meth : Method} {c : Code} {G : GG} (F : CallFix p m c cX8_holds 6 s args (wsU yX8_holds cX8_holds 6 (some .long)) RX8) (hr : meth.sig.returnType = (some .long)) (hlk : meth.locks = false) {z : Int64 × GW} : (∀ (w : GW) (H : Heap) (locs : List Loc) (ls : Array Slot), St G w s H locs → lv_has ls 6 [(0, .ref (gad G 0))] → f_X8_holds_43  w = some z → W p l e (headSpec (wsU yX8_holds cX8_holds 6 (some .long)) rm_X8_holds).room s m args below meth c H locs 0 0 (MQ below (QL G z) args s 0 0 (gA G)) (F0 m 43 ls [])) := by
  obtain ⟨hx, hb, hml, hown, hts⟩ := id F
  have hg : ∀ q ∈ lwg, q.before args s = true := fun q h => hts q (List.mem_cons_of_mem _ h)
  intro w H locs ls S hl hz
  rw [f_X8_holds_43] at hz
  refine lv_aload_n hx hb dX8_holds_43 rfl (lv_at hl 0 rfl) ?_
  refine lv_iconst (v := 2) hx hb dX8_holds_44 (by decide) ?_
  obtain ⟨q15, e16, hz⟩ := bd hz
  refine g_callVi (As := [.int 2]) (rest := []) F S (c_X8_refuse l G 2  _ e16) (cw_X8_holds_X8_refuse_95 hg) (S.obj (by decide) (by decide) rfl (oc_X8 _ _ _ (by decide))) rfl hl.1 rfl (Nat.le_of_ble_eq_true rfl) ⟨Nat.zero_le _, Nat.zero_le _⟩ dX8_holds_45 (fun H locs  S => ?_)
  refine lv_i2l (v := q15.1.toInt64) hx hb dX8_holds_48 rfl ?_
  exact g_retl hx hb hr hlk S hz dX8_holds_49
set_option maxHeartbeats 4000000 in
set_option maxRecDepth 100000 in
theorem c_X8_holds (l : Launch) (G : GG) (x1 : Int32) (x2 : Int32) (x3 : Int32) (x4 : Int32) (x5 : Int32)  (w : GW) {z : Int64 × GW} (hz : f_X8_holds x1 x2 x3 x4 x5 w = some z) : Met l yX8_holds (wsU yX8_holds cX8_holds 6 (some .long)) rm_X8_holds (va_Pc [.ref (gad G 0), .int x1, .int x2, .int x3, .int x4, .int x5] (PreG G w)) (QL G z) 0 0 (gA G) := by
  refine Met.ofW (cc := cX8_holds) (maxL := 6) (ret := (some .long)) (by decide) rfl ?_
  intro p e s m args below meth c s₁ B hml hv
  obtain ⟨rfl, S⟩ := hv
  have F : CallFix p m c cX8_holds 6 s _ (wsU yX8_holds cX8_holds 6 (some .long)) RX8 := ⟨B.exec, B.bytes, hml, findClass_of_methodNamed B.named, atoms_spec B.pre⟩
  have hr := B.returns
  have hlk := B.notSynchronized
  obtain ⟨hx, hb, -, hown, hts⟩ := id F
  have hg : ∀ q ∈ lwg, q.before _ s = true := fun q h => hts q (List.mem_cons_of_mem _ h)
  refine g_entry (Nat.le_of_ble_eq_true rfl) (fun ls hl => ?_)
  have hl : lv_has ls 6 [(0, .ref (gad G 0)), (1, .int x1), (2, .int x2), (3, .int x3), (4, .int x4), (5, .int x5)] := hl
  have S : St G w s s.heap [] := S
  generalize s.heap = H at S ⊢
  generalize ([] : List Loc) = locs at S ⊢
  rw [f_X8_holds] at hz
  refine lv_aload_n hx hb dX8_holds_0 rfl (lv_at hl 0 rfl) ?_
  refine lv_iload_n hx hb dX8_holds_1 rfl (lv_at hl 1 rfl) ?_
  obtain ⟨q1, e2, hz⟩ := bd hz
  refine g_callVb (As := [.int x1]) (rest := []) F S (c_X8_isPorter l G x1  _ e2) (cw_X8_holds_X8_isPorter_121 hg) (S.obj (by decide) (by decide) rfl (oc_X8 _ _ _ (by decide))) rfl hl.1 rfl (Nat.le_of_ble_eq_true rfl) ⟨Nat.zero_le _, Nat.zero_le _⟩ dX8_holds_2 (fun H locs hB3 S => ?_)
  refine lv_if_eq (tgt := 16) hx hb dX8_holds_5 (by decide) (fun c4 => ?_) (fun c4 => ?_)
  · have hz := ipt (c4) hz
    exact w_X8_holds_16 F hr hlk _ _ _ _ S (lv_sub hl [0] rfl) hz
  · have hz := ipf (c4) hz
    refine lv_aload_n hx hb dX8_holds_8 rfl (lv_at hl 0 rfl) ?_
    refine lv_iload_n hx hb dX8_holds_9 rfl (lv_at hl 3 rfl) ?_
    obtain ⟨q7, e8, hz⟩ := bd hz
    refine g_callVb (As := [.int x3]) (rest := []) F S (c_X8_isBox l G x3  _ e8) (cw_X8_holds_X8_isBox_135 hg) (S.obj (by decide) (by decide) rfl (oc_X8 _ _ _ (by decide))) rfl hl.1 rfl (Nat.le_of_ble_eq_true rfl) ⟨Nat.zero_le _, Nat.zero_le _⟩ dX8_holds_10 (fun H locs hB9 S => ?_)
    refine lv_if_ne (tgt := 23) hx hb dX8_holds_13 (by decide) (fun c10 => ?_) (fun c10 => ?_)
    · have hz := ipf (c10) hz
      refine lv_aload_n hx hb dX8_holds_23 rfl (lv_at hl 0 rfl) ?_
      refine lv_iload_n hx hb dX8_holds_24 rfl (lv_at hl 2 rfl) ?_
      obtain ⟨q11, e12, hz⟩ := bd hz
      refine g_callVb (As := [.int x2]) (rest := []) F S (c_X8_isCount l G x2  _ e12) (cw_X8_holds_X8_isCount_125 hg) (S.obj (by decide) (by decide) rfl (oc_X8 _ _ _ (by decide))) rfl hl.1 rfl (Nat.le_of_ble_eq_true rfl) ⟨Nat.zero_le _, Nat.zero_le _⟩ dX8_holds_25 (fun H locs hB13 S => ?_)
      refine lv_if_eq (tgt := 43) hx hb dX8_holds_28 (by decide) (fun c14 => ?_) (fun c14 => ?_)
      · have hz := ipt (c14) hz
        exact w_X8_holds_43 F hr hlk _ _ _ _ S (lv_sub hl [0] rfl) hz
      · have hz := ipf (c14) hz
        refine lv_iload hx hb dX8_holds_31 (lv_at hl 4 rfl) ?_
        refine lv_if_lt (tgt := 43) hx hb dX8_holds_33 (by decide) (fun c17 => ?_) (fun c17 => ?_)
        · have hz := ipt (c17) hz
          exact w_X8_holds_43 F hr hlk _ _ _ _ S (lv_sub hl [0] rfl) hz
        · have hz := ipf (c17) hz
          refine lv_iload hx hb dX8_holds_36 (lv_at hl 4 rfl) ?_
          refine lv_bipush (v := 8) hx hb dX8_holds_38 (by decide) ?_
          refine lv_icmp_le (tgt := 50) hx hb dX8_holds_40 (by decide) (fun c18 => ?_) (fun c18 => ?_)
          · have hz := ipt (c18) hz
            refine lv_aload_n hx hb dX8_holds_50 rfl (lv_at hl 0 rfl) ?_
            refine lv_iload_n hx hb dX8_holds_51 rfl (lv_at hl 1 rfl) ?_
            refine lv_iload_n hx hb dX8_holds_52 rfl (lv_at hl 2 rfl) ?_
            refine lv_bipush (v := 6) hx hb dX8_holds_53 (by decide) ?_
            refine lv_iload_n hx hb dX8_holds_55 rfl (lv_at hl 3 rfl) ?_
            refine lv_iload hx hb dX8_holds_56 (lv_at hl 4 rfl) ?_
            refine lv_iload hx hb dX8_holds_58 (lv_at hl 5 rfl) ?_
            obtain ⟨q19, e20, hz⟩ := bd hz
            refine g_callVl (As := [.int x1, .int x2, .int 6, .int x3, .int x4, .int x5]) (rest := []) F S (c_X8_chance l G x1 x2 6 x3 x4 x5  _ e20) (cw_X8_holds_X8_chance_131 hg) (S.obj (by decide) (by decide) rfl (oc_X8 _ _ _ (by decide))) rfl hl.1 rfl (Nat.le_of_ble_eq_true rfl) ⟨Nat.zero_le _, Nat.zero_le _⟩ dX8_holds_60 (fun H locs  S => ?_)
            exact g_retl hx hb hr hlk S hz dX8_holds_63
          · have hz := ipf (c18) hz
            exact w_X8_holds_43 F hr hlk _ _ _ _ S (lv_sub hl [0] rfl) hz
    · have hz := ipt (c10) hz
      exact w_X8_holds_16 F hr hlk _ _ _ _ S (lv_sub hl [0] rfl) hz
noncomputable def f_X8_mean_17   (w : GW) : Option (Int64 × GW) :=
  (f_X8_refuse 1 w).bind fun q5 =>
  some ((q5.1.toInt64), q5.2)
noncomputable def f_X8_mean (x1 : Int32) (x2 : Int32) (x3 : Int32) (x4 : Int32) (w : GW) : Option (Int64 × GW) :=
  (f_X8_isPorter x1 w).bind fun q1 =>
  if q1.1 = 0 then
    f_X8_mean_17 q1.2
  else
    if x3 < 0 then
      f_X8_mean_17 q1.2
    else
      if x3 ≤ 3 then
        (f_X8_isCount x2 q1.2).bind fun q9 =>
        if q9.1 = 0 then
          (f_X8_refuse 2 q9.2).bind fun q15 =>
          some ((q15.1.toInt64), q15.2)
        else
          (f_X8_chance x1 x2 x3 x2 0 x4 q9.2).bind fun q13 =>
          some (q13.1, q13.2)
      else
        f_X8_mean_17 q1.2
set_option maxHeartbeats 4000000 in
set_option maxRecDepth 100000 in
theorem w_X8_mean_17 {p : Program} {l : Launch} {e : Env} {s : State} {m : MethodId} {args : Array Value} {below : List Frame} {meth : Method} {c : Code} {G : GG} (F : CallFix p m c cX8_mean 5 s args (wsU yX8_mean cX8_mean 5 (some .long)) RX8) (hr : meth.sig.returnType = (some .long)) (hlk : meth.locks = false) {z : Int64 × GW} : (∀ (w : GW) (H : Heap) (locs : List Loc) (ls : Array Slot), St G w s H locs → lv_has ls 5 [(0, .ref (gad G 0))] → f_X8_mean_17  w = some z → W p l e (headSpec (wsU yX8_mean cX8_mean 5 (some .long)) rm_X8_mean).room s m args below meth c H locs 0 0 (MQ below (QL G z) args s 0 0 (gA G)) (F0 m 17 ls [])) := by
  obtain ⟨hx, hb, hml, hown, hts⟩ := id F
  have hg : ∀ q ∈ lwg, q.before args s = true := fun q h => hts q (List.mem_cons_of_mem _ h)
  intro w H locs ls S hl hz
  rw [f_X8_mean_17] at hz
  refine lv_aload_n hx hb dX8_mean_17 rfl (lv_at hl 0 rfl) ?_
  refine lv_iconst (v := 1) hx hb dX8_mean_18 (by decide) ?_
  obtain ⟨q5, e6, hz⟩ := bd hz
  refine g_callVi (As := [.int 1]) (rest := []) F S (c_X8_refuse l G 1  _ e6) (cw_X8_mean_X8_refuse_95 hg) (S.obj (by decide) (by decide) rfl (oc_X8 _ _ _ (by decide))) rfl hl.1 rfl (Nat.le_of_ble_eq_true rfl) ⟨Nat.zero_le _, Nat.zero_le _⟩ dX8_mean_19 (fun H locs  S => ?_)
  refine lv_i2l (v := q5.1.toInt64) hx hb dX8_mean_22 rfl ?_
  exact g_retl hx hb hr hlk S hz dX8_mean_23
set_option maxHeartbeats 4000000 in
set_option maxRecDepth 100000 in
theorem c_X8_mean (l : Launch) (G : GG) (x1 : Int32) (x2 : Int32) (x3 : Int32) (x4 : Int32)  (w : GW) {z : Int64 × GW} (hz : f_X8_mean x1 x2 x3 x4 w = some z) : Met l yX8_mean (wsU yX8_mean cX8_mean 5 (some .long)) rm_X8_mean (va_Pc [.ref (gad G 0), .int x1, .int x2, .int x3, .int x4] (PreG G w)) (QL G z) 0 0 (gA G) := by
  refine Met.ofW (cc := cX8_mean) (maxL := 5) (ret := (some .long)) (by decide) rfl ?_
  intro p e s m args below meth c s₁ B hml hv
  obtain ⟨rfl, S⟩ := hv
  have F : CallFix p m c cX8_mean 5 s _ (wsU yX8_mean cX8_mean 5 (some .long)) RX8 := ⟨B.exec, B.bytes, hml, findClass_of_methodNamed B.named, atoms_spec B.pre⟩
  have hr := B.returns
  have hlk := B.notSynchronized
  obtain ⟨hx, hb, -, hown, hts⟩ := id F
  have hg : ∀ q ∈ lwg, q.before _ s = true := fun q h => hts q (List.mem_cons_of_mem _ h)
  refine g_entry (Nat.le_of_ble_eq_true rfl) (fun ls hl => ?_)
  have hl : lv_has ls 5 [(0, .ref (gad G 0)), (1, .int x1), (2, .int x2), (3, .int x3), (4, .int x4)] := hl
  have S : St G w s s.heap [] := S
  generalize s.heap = H at S ⊢
  generalize ([] : List Loc) = locs at S ⊢
  rw [f_X8_mean] at hz
  refine lv_aload_n hx hb dX8_mean_0 rfl (lv_at hl 0 rfl) ?_
  refine lv_iload_n hx hb dX8_mean_1 rfl (lv_at hl 1 rfl) ?_
  obtain ⟨q1, e2, hz⟩ := bd hz
  refine g_callVb (As := [.int x1]) (rest := []) F S (c_X8_isPorter l G x1  _ e2) (cw_X8_mean_X8_isPorter_121 hg) (S.obj (by decide) (by decide) rfl (oc_X8 _ _ _ (by decide))) rfl hl.1 rfl (Nat.le_of_ble_eq_true rfl) ⟨Nat.zero_le _, Nat.zero_le _⟩ dX8_mean_2 (fun H locs hB3 S => ?_)
  refine lv_if_eq (tgt := 17) hx hb dX8_mean_5 (by decide) (fun c4 => ?_) (fun c4 => ?_)
  · have hz := ipt (c4) hz
    exact w_X8_mean_17 F hr hlk _ _ _ _ S (lv_sub hl [0] rfl) hz
  · have hz := ipf (c4) hz
    refine lv_iload_n hx hb dX8_mean_8 rfl (lv_at hl 3 rfl) ?_
    refine lv_if_lt (tgt := 17) hx hb dX8_mean_9 (by decide) (fun c7 => ?_) (fun c7 => ?_)
    · have hz := ipt (c7) hz
      exact w_X8_mean_17 F hr hlk _ _ _ _ S (lv_sub hl [0] rfl) hz
    · have hz := ipf (c7) hz
      refine lv_iload_n hx hb dX8_mean_12 rfl (lv_at hl 3 rfl) ?_
      refine lv_iconst (v := 3) hx hb dX8_mean_13 (by decide) ?_
      refine lv_icmp_le (tgt := 24) hx hb dX8_mean_14 (by decide) (fun c8 => ?_) (fun c8 => ?_)
      · have hz := ipt (c8) hz
        refine lv_aload_n hx hb dX8_mean_24 rfl (lv_at hl 0 rfl) ?_
        refine lv_iload_n hx hb dX8_mean_25 rfl (lv_at hl 2 rfl) ?_
        obtain ⟨q9, e10, hz⟩ := bd hz
        refine g_callVb (As := [.int x2]) (rest := []) F S (c_X8_isCount l G x2  _ e10) (cw_X8_mean_X8_isCount_125 hg) (S.obj (by decide) (by decide) rfl (oc_X8 _ _ _ (by decide))) rfl hl.1 rfl (Nat.le_of_ble_eq_true rfl) ⟨Nat.zero_le _, Nat.zero_le _⟩ dX8_mean_26 (fun H locs hB11 S => ?_)
        refine lv_if_ne (tgt := 39) hx hb dX8_mean_29 (by decide) (fun c12 => ?_) (fun c12 => ?_)
        · have hz := ipf (c12) hz
          refine lv_aload_n hx hb dX8_mean_39 rfl (lv_at hl 0 rfl) ?_
          refine lv_iload_n hx hb dX8_mean_40 rfl (lv_at hl 1 rfl) ?_
          refine lv_iload_n hx hb dX8_mean_41 rfl (lv_at hl 2 rfl) ?_
          refine lv_iload_n hx hb dX8_mean_42 rfl (lv_at hl 3 rfl) ?_
          refine lv_iload_n hx hb dX8_mean_43 rfl (lv_at hl 2 rfl) ?_
          refine lv_iconst (v := 0) hx hb dX8_mean_44 (by decide) ?_
          refine lv_iload hx hb dX8_mean_45 (lv_at hl 4 rfl) ?_
          obtain ⟨q13, e14, hz⟩ := bd hz
          refine g_callVl (As := [.int x1, .int x2, .int x3, .int x2, .int 0, .int x4]) (rest := []) F S (c_X8_chance l G x1 x2 x3 x2 0 x4  _ e14) (cw_X8_mean_X8_chance_131 hg) (S.obj (by decide) (by decide) rfl (oc_X8 _ _ _ (by decide))) rfl hl.1 rfl (Nat.le_of_ble_eq_true rfl) ⟨Nat.zero_le _, Nat.zero_le _⟩ dX8_mean_47 (fun H locs  S => ?_)
          exact g_retl hx hb hr hlk S hz dX8_mean_50
        · have hz := ipt (c12) hz
          refine lv_aload_n hx hb dX8_mean_32 rfl (lv_at hl 0 rfl) ?_
          refine lv_iconst (v := 2) hx hb dX8_mean_33 (by decide) ?_
          obtain ⟨q15, e16, hz⟩ := bd hz
          refine g_callVi (As := [.int 2]) (rest := []) F S (c_X8_refuse l G 2  _ e16) (cw_X8_mean_X8_refuse_95 hg) (S.obj (by decide) (by decide) rfl (oc_X8 _ _ _ (by decide))) rfl hl.1 rfl (Nat.le_of_ble_eq_true rfl) ⟨Nat.zero_le _, Nat.zero_le _⟩ dX8_mean_34 (fun H locs  S => ?_)
          refine lv_i2l (v := q15.1.toInt64) hx hb dX8_mean_37 rfl ?_
          exact g_retl hx hb hr hlk S hz dX8_mean_38
      · have hz := ipf (c8) hz
        exact w_X8_mean_17 F hr hlk _ _ _ _ S (lv_sub hl [0] rfl) hz
noncomputable def f_X8_isRefused_39  (t0 : Int32) (w : GW) : Option (Int32 × GW) :=
  if (gI (sI w 0 12 t0) 0 12) = 0 then
    some (0, (sI w 0 12 t0))
  else
    some (1, (sI w 0 12 t0))
noncomputable def f_X8_isRefused (x1 : Int32) (x2 : Int32) (w : GW) : Option (Int32 × GW) :=
  (f_X8_isPorter x1 w).bind fun q1 =>
  if q1.1 = 0 then
    f_X8_isRefused_39 1 q1.2
  else
    (f_X8_isCount x2 q1.2).bind fun q5 =>
    if q5.1 = 0 then
      f_X8_isRefused_39 2 q5.2
    else
      (f_X8_isTooMany x1 x2 q5.2).bind fun q9 =>
      if q9.1 = 0 then
        f_X8_isRefused_39 0 q9.2
      else
        f_X8_isRefused_39 3 q9.2
set_option maxHeartbeats 4000000 in
set_option maxRecDepth 100000 in
theorem w_X8_isRefused_39 {p : Program} {l : Launch} {e : Env} {s : State} {m : MethodId} {args : Array Value} {below : List Frame} {meth : Method} {c : Code} {G : GG} (F : CallFix p m c cX8_isRefused 3 s args (wsU yX8_isRefused cX8_isRefused 3 (some .boolean)) RX8) (hr : meth.sig.returnType = (some .boolean)) (hlk : meth.locks = false) {z : Int32 × GW} : (∀ (t0 : Int32) (w : GW) (H : Heap) (locs : List Loc) (ls : Array Slot), St G w s H locs → lv_has ls 3 [(0, .ref (gad G 0))] → f_X8_isRefused_39 t0 w = some z → W p l e (headSpec (wsU yX8_isRefused cX8_isRefused 3 (some .boolean)) rm_X8_isRefused).room s m args below meth c H locs 0 0 (MQ below (QB G z) args s 0 0 (gA G)) (F0 m 39 ls [.int t0, .ref (gad G 0)])) := by
  obtain ⟨hx, hb, hml, hown, hts⟩ := id F
  have hg : ∀ q ∈ lwg, q.before args s = true := fun q h => hts q (List.mem_cons_of_mem _ h)
  intro t0 w H locs ls S hl hz
  rw [f_X8_isRefused_39] at hz
  refine fp_X8_12 (v := t0) hx hb (fun q h => hg q (tl_X8 q h)) hown (hg _ t_fl_X8_85) S (by decide) dX8_isRefused_39 (fun H locs S => ?_)
  refine lv_aload_n hx hb dX8_isRefused_42 rfl (lv_at hl 0 rfl) ?_
  refine fg_X8_12 hx hb (fun q h => hg q (tl_X8 q h)) hown (hg _ t_fl_X8_85) S (by decide) dX8_isRefused_43 ?_
  refine lv_if_eq (tgt := 53) hx hb dX8_isRefused_46 (by decide) (fun c13 => ?_) (fun c13 => ?_)
  · have hz := ipt (c13) hz
    refine lv_iconst (v := 0) hx hb dX8_isRefused_53 (by decide) ?_
    exact g_retb hx hb hr hlk S isB_0 hz dX8_isRefused_54
  · have hz := ipf (c13) hz
    refine lv_iconst (v := 1) hx hb dX8_isRefused_49 (by decide) ?_
    refine lv_goto (tgt := 54) hx hb dX8_isRefused_50 (by decide) ?_
    exact g_retb hx hb hr hlk S isB_1 hz dX8_isRefused_54
set_option maxHeartbeats 4000000 in
set_option maxRecDepth 100000 in
theorem c_X8_isRefused (l : Launch) (G : GG) (x1 : Int32) (x2 : Int32)  (w : GW) {z : Int32 × GW} (hz : f_X8_isRefused x1 x2 w = some z) : Met l yX8_isRefused (wsU yX8_isRefused cX8_isRefused 3 (some .boolean)) rm_X8_isRefused (va_Pc [.ref (gad G 0), .int x1, .int x2] (PreG G w)) (QB G z) 0 0 (gA G) := by
  refine Met.ofW (cc := cX8_isRefused) (maxL := 3) (ret := (some .boolean)) (by decide) rfl ?_
  intro p e s m args below meth c s₁ B hml hv
  obtain ⟨rfl, S⟩ := hv
  have F : CallFix p m c cX8_isRefused 3 s _ (wsU yX8_isRefused cX8_isRefused 3 (some .boolean)) RX8 := ⟨B.exec, B.bytes, hml, findClass_of_methodNamed B.named, atoms_spec B.pre⟩
  have hr := B.returns
  have hlk := B.notSynchronized
  obtain ⟨hx, hb, -, hown, hts⟩ := id F
  have hg : ∀ q ∈ lwg, q.before _ s = true := fun q h => hts q (List.mem_cons_of_mem _ h)
  refine g_entry (Nat.le_of_ble_eq_true rfl) (fun ls hl => ?_)
  have hl : lv_has ls 3 [(0, .ref (gad G 0)), (1, .int x1), (2, .int x2)] := hl
  have S : St G w s s.heap [] := S
  generalize s.heap = H at S ⊢
  generalize ([] : List Loc) = locs at S ⊢
  rw [f_X8_isRefused] at hz
  refine lv_aload_n hx hb dX8_isRefused_0 rfl (lv_at hl 0 rfl) ?_
  refine lv_aload_n hx hb dX8_isRefused_1 rfl (lv_at hl 0 rfl) ?_
  refine lv_iload_n hx hb dX8_isRefused_2 rfl (lv_at hl 1 rfl) ?_
  obtain ⟨q1, e2, hz⟩ := bd hz
  refine g_callVb (As := [.int x1]) (rest := [.ref (gad G 0)]) F S (c_X8_isPorter l G x1  _ e2) (cw_X8_isRefused_X8_isPorter_121 hg) (S.obj (by decide) (by decide) rfl (oc_X8 _ _ _ (by decide))) rfl hl.1 rfl (Nat.le_of_ble_eq_true rfl) ⟨Nat.zero_le _, Nat.zero_le _⟩ dX8_isRefused_3 (fun H locs hB3 S => ?_)
  refine lv_if_ne (tgt := 13) hx hb dX8_isRefused_6 (by decide) (fun c4 => ?_) (fun c4 => ?_)
  · have hz := ipf (c4) hz
    refine lv_aload_n hx hb dX8_isRefused_13 rfl (lv_at hl 0 rfl) ?_
    refine lv_iload_n hx hb dX8_isRefused_14 rfl (lv_at hl 2 rfl) ?_
    obtain ⟨q5, e6, hz⟩ := bd hz
    refine g_callVb (As := [.int x2]) (rest := [.ref (gad G 0)]) F S (c_X8_isCount l G x2  _ e6) (cw_X8_isRefused_X8_isCount_125 hg) (S.obj (by decide) (by decide) rfl (oc_X8 _ _ _ (by decide))) rfl hl.1 rfl (Nat.le_of_ble_eq_true rfl) ⟨Nat.zero_le _, Nat.zero_le _⟩ dX8_isRefused_15 (fun H locs hB7 S => ?_)
    refine lv_if_ne (tgt := 25) hx hb dX8_isRefused_18 (by decide) (fun c8 => ?_) (fun c8 => ?_)
    · have hz := ipf (c8) hz
      refine lv_aload_n hx hb dX8_isRefused_25 rfl (lv_at hl 0 rfl) ?_
      refine lv_iload_n hx hb dX8_isRefused_26 rfl (lv_at hl 1 rfl) ?_
      refine lv_iload_n hx hb dX8_isRefused_27 rfl (lv_at hl 2 rfl) ?_
      obtain ⟨q9, e10, hz⟩ := bd hz
      refine g_callVb (As := [.int x1, .int x2]) (rest := [.ref (gad G 0)]) F S (c_X8_isTooMany l G x1 x2  _ e10) (cw_X8_isRefused_X8_isTooMany_168 hg) (S.obj (by decide) (by decide) rfl (oc_X8 _ _ _ (by decide))) rfl hl.1 rfl (Nat.le_of_ble_eq_true rfl) ⟨Nat.zero_le _, Nat.zero_le _⟩ dX8_isRefused_28 (fun H locs hB11 S => ?_)
      refine lv_if_eq (tgt := 38) hx hb dX8_isRefused_31 (by decide) (fun c12 => ?_) (fun c12 => ?_)
      · have hz := ipt (c12) hz
        refine lv_iconst (v := 0) hx hb dX8_isRefused_38 (by decide) ?_
        exact w_X8_isRefused_39 F hr hlk 0 _ _ _ _ S (lv_sub hl [0] rfl) hz
      · have hz := ipf (c12) hz
        refine lv_iconst (v := 3) hx hb dX8_isRefused_34 (by decide) ?_
        refine lv_goto (tgt := 39) hx hb dX8_isRefused_35 (by decide) ?_
        exact w_X8_isRefused_39 F hr hlk 3 _ _ _ _ S (lv_sub hl [0] rfl) hz
    · have hz := ipt (c8) hz
      refine lv_iconst (v := 2) hx hb dX8_isRefused_21 (by decide) ?_
      refine lv_goto (tgt := 39) hx hb dX8_isRefused_22 (by decide) ?_
      exact w_X8_isRefused_39 F hr hlk 2 _ _ _ _ S (lv_sub hl [0] rfl) hz
  · have hz := ipt (c4) hz
    refine lv_iconst (v := 1) hx hb dX8_isRefused_9 (by decide) ?_
    refine lv_goto (tgt := 39) hx hb dX8_isRefused_10 (by decide) ?_
    exact w_X8_isRefused_39 F hr hlk 1 _ _ _ _ S (lv_sub hl [0] rfl) hz
noncomputable def f_X8_ofPorter (x1 : Int32) (w : GW) : Option (Nat × GW) :=
  if inb x1 6 then
  (f_X0_rowOf x1 (((fxH (gR w 0)) + 4) + 1 + ix x1) 0 w).bind fun q2 =>
  some (q2.1, q2.2)
  else none
set_option maxHeartbeats 4000000 in
set_option maxRecDepth 100000 in
theorem c_X8_ofPorter (l : Launch) (G : GG) (x1 : Int32)  (w : GW) {z : Nat × GW} (hz : f_X8_ofPorter x1 w = some z) : Met l yX8_ofPorter (wsU yX8_ofPorter cX8_ofPorter 2 (some (.array .long))) rm_X8_ofPorter (va_Pc [.ref (gad G 0), .int x1] (PreG G w)) (QR G z) 0 0 (gA G) := by
  refine Met.ofW (cc := cX8_ofPorter) (maxL := 2) (ret := (some (.array .long))) (by decide) rfl ?_
  intro p e s m args below meth c s₁ B hml hv
  obtain ⟨rfl, S⟩ := hv
  have F : CallFix p m c cX8_ofPorter 2 s _ (wsU yX8_ofPorter cX8_ofPorter 2 (some (.array .long))) RX8 := ⟨B.exec, B.bytes, hml, findClass_of_methodNamed B.named, atoms_spec B.pre⟩
  have hr := B.returns
  have hlk := B.notSynchronized
  obtain ⟨hx, hb, -, hown, hts⟩ := id F
  have hg : ∀ q ∈ lwg, q.before _ s = true := fun q h => hts q (List.mem_cons_of_mem _ h)
  refine g_entry (Nat.le_of_ble_eq_true rfl) (fun ls hl => ?_)
  have hl : lv_has ls 2 [(0, .ref (gad G 0)), (1, .int x1)] := hl
  have S : St G w s s.heap [] := S
  generalize s.heap = H at S ⊢
  generalize ([] : List Loc) = locs at S ⊢
  rw [f_X8_ofPorter] at hz
  refine lv_aload_n hx hb dX8_ofPorter_0 rfl (lv_at hl 0 rfl) ?_
  refine fg_X8_2 hx hb (fun q h => hg q (tl_X8 q h)) hown (hg _ t_fl_X8_49) S (by decide) dX8_ofPorter_1 ?_
  refine lv_iload_n hx hb dX8_ofPorter_4 rfl (lv_at hl 1 rfl) ?_
  refine lv_aload_n hx hb dX8_ofPorter_5 rfl (lv_at hl 0 rfl) ?_
  refine fg_X8_9 hx hb (fun q h => hg q (tl_X8 q h)) hown (hg _ t_fl_X8_28) S (by decide) dX8_ofPorter_6 ?_
  refine fg_X3_13 hx hb (fun q h => hg q (tl_X3 q h)) hown (hg _ t_fl_X8_221) S (kd_H _) dX8_ofPorter_9 ?_
  refine lv_iload_n hx hb dX8_ofPorter_12 rfl (lv_at hl 1 rfl) ?_
  obtain ⟨h1, hz⟩ := ck hz
  refine g_aald33 hx hb S (kd_3_4 (kd_H _)) h1 dX8_ofPorter_13 ?_
  refine lv_iconst (v := 0) hx hb dX8_ofPorter_14 (by decide) ?_
  obtain ⟨q2, e3, hz⟩ := bd hz
  refine g_callVr (As := [.int x1, .ref (gad G (((fxH (gR w 0)) + 4) + 1 + ix x1)), .int 0]) (rest := []) F S (c_X0_rowOf l G x1 (((fxH (gR w 0)) + 4) + 1 + ix x1) 0 (kd_el33 (kd_3_4 (kd_H _)) (h1).2) _ e3) (cw_X8_ofPorter_X0_rowOf_194 hg) (S.obj (by decide) (by decide) rfl (oc_X0 _ _ _ (by decide))) rfl hl.1 rfl (Nat.le_of_ble_eq_true rfl) ⟨Nat.zero_le _, Nat.zero_le _⟩ dX8_ofPorter_15 (fun H locs hk4 S => ?_)
  exact g_retr hx hb hr hlk S hk4 hz dX8_ofPorter_18
noncomputable def f_X8_states (x1 : Int32) (x2 : Int32) (w : GW) : Option (Int32 × GW) :=
  (f_X8_isRefused x1 x2 w).bind fun q1 =>
  if q1.1 = 0 then
    (f_X8_ofPorter x1 q1.2).bind fun q5 =>
    (f_X0_waysToLie q5.1 x2 q5.2).bind fun q8 =>
    (f_X8_fine q8.1 q8.2).bind fun q10 =>
    some (q10.1, q10.2)
  else
    some ((-1), q1.2)
set_option maxHeartbeats 4000000 in
set_option maxRecDepth 100000 in
theorem c_X8_states (l : Launch) (G : GG) (x1 : Int32) (x2 : Int32)  (w : GW) {z : Int32 × GW} (hz : f_X8_states x1 x2 w = some z) : Met l yX8_states (wsU yX8_states cX8_states 3 (some .int)) rm_X8_states (va_Pc [.ref (gad G 0), .int x1, .int x2] (PreG G w)) (QI G z) 0 0 (gA G) := by
  refine Met.ofW (cc := cX8_states) (maxL := 3) (ret := (some .int)) (by decide) rfl ?_
  intro p e s m args below meth c s₁ B hml hv
  obtain ⟨rfl, S⟩ := hv
  have F : CallFix p m c cX8_states 3 s _ (wsU yX8_states cX8_states 3 (some .int)) RX8 := ⟨B.exec, B.bytes, hml, findClass_of_methodNamed B.named, atoms_spec B.pre⟩
  have hr := B.returns
  have hlk := B.notSynchronized
  obtain ⟨hx, hb, -, hown, hts⟩ := id F
  have hg : ∀ q ∈ lwg, q.before _ s = true := fun q h => hts q (List.mem_cons_of_mem _ h)
  refine g_entry (Nat.le_of_ble_eq_true rfl) (fun ls hl => ?_)
  have hl : lv_has ls 3 [(0, .ref (gad G 0)), (1, .int x1), (2, .int x2)] := hl
  have S : St G w s s.heap [] := S
  generalize s.heap = H at S ⊢
  generalize ([] : List Loc) = locs at S ⊢
  rw [f_X8_states] at hz
  refine lv_aload_n hx hb dX8_states_0 rfl (lv_at hl 0 rfl) ?_
  refine lv_iload_n hx hb dX8_states_1 rfl (lv_at hl 1 rfl) ?_
  refine lv_iload_n hx hb dX8_states_2 rfl (lv_at hl 2 rfl) ?_
  obtain ⟨q1, e2, hz⟩ := bd hz
  refine g_callVb (As := [.int x1, .int x2]) (rest := []) F S (c_X8_isRefused l G x1 x2  _ e2) (cw_X8_states_X8_isRefused_138 hg) (S.obj (by decide) (by decide) rfl (oc_X8 _ _ _ (by decide))) rfl hl.1 rfl (Nat.le_of_ble_eq_true rfl) ⟨Nat.zero_le _, Nat.zero_le _⟩ dX8_states_3 (fun H locs hB3 S => ?_)
  refine lv_if_eq (tgt := 11) hx hb dX8_states_6 (by decide) (fun c4 => ?_) (fun c4 => ?_)
  · have hz := ipt (c4) hz
    refine lv_aload_n hx hb dX8_states_11 rfl (lv_at hl 0 rfl) ?_
    refine lv_aload_n hx hb dX8_states_12 rfl (lv_at hl 0 rfl) ?_
    refine fg_X8_2 hx hb (fun q h => hg q (tl_X8 q h)) hown (hg _ t_fl_X8_49) S (by decide) dX8_states_13 ?_
    refine lv_aload_n hx hb dX8_states_16 rfl (lv_at hl 0 rfl) ?_
    refine lv_iload_n hx hb dX8_states_17 rfl (lv_at hl 1 rfl) ?_
    obtain ⟨q5, e6, hz⟩ := bd hz
    refine g_callVr (As := [.int x1]) (rest := [.ref (gad G 72), .ref (gad G 0)]) F S (c_X8_ofPorter l G x1  _ e6) (cw_X8_states_X8_ofPorter_142 hg) (S.obj (by decide) (by decide) rfl (oc_X8 _ _ _ (by decide))) rfl hl.1 rfl (Nat.le_of_ble_eq_true rfl) ⟨Nat.zero_le _, Nat.zero_le _⟩ dX8_states_18 (fun H locs hk7 S => ?_)
    refine lv_iload_n hx hb dX8_states_21 rfl (lv_at hl 2 rfl) ?_
    obtain ⟨q8, e9, hz⟩ := bd hz
    refine g_callVi (As := [.ref (gad G q5.1), .int x2]) (rest := [.ref (gad G 0)]) F S (c_X0_waysToLie l G q5.1 x2 hk7 _ e9) (cw_X8_states_X0_waysToLie_146 hg) (S.obj (by decide) (by decide) rfl (oc_X0 _ _ _ (by decide))) rfl hl.1 rfl (Nat.le_of_ble_eq_true rfl) ⟨Nat.zero_le _, Nat.zero_le _⟩ dX8_states_22 (fun H locs  S => ?_)
    obtain ⟨q10, e11, hz⟩ := bd hz
    refine g_callVi (As := [.int q8.1]) (rest := []) F S (c_X8_fine l G q8.1  _ e11) (cw_X8_states_X8_fine_112 hg) (S.obj (by decide) (by decide) rfl (oc_X8 _ _ _ (by decide))) rfl hl.1 rfl (Nat.le_of_ble_eq_true rfl) ⟨Nat.zero_le _, Nat.zero_le _⟩ dX8_states_25 (fun H locs  S => ?_)
    exact g_reti hx hb hr hlk S hz dX8_states_28
  · have hz := ipf (c4) hz
    refine lv_iconst (v := (-1)) hx hb dX8_states_9 (by decide) ?_
    exact g_reti hx hb hr hlk S hz dX8_states_10
noncomputable def f_X8_worst (x1 : Int32) (x2 : Int32) (x3 : Int32) (w : GW) : Option (Int32 × GW) :=
  (f_X8_isRefused x1 x2 w).bind fun q1 =>
  if q1.1 = 0 then
    (f_X8_ofPorter x1 q1.2).bind fun q5 =>
    (f_X0_furthest q5.1 x2 x3 q5.2).bind fun q8 =>
    (f_X8_fine q8.1 q8.2).bind fun q10 =>
    some (q10.1, q10.2)
  else
    some ((-1), q1.2)
set_option maxHeartbeats 4000000 in
set_option maxRecDepth 100000 in
theorem c_X8_worst (l : Launch) (G : GG) (x1 : Int32) (x2 : Int32) (x3 : Int32)  (w : GW) {z : Int32 × GW} (hz : f_X8_worst x1 x2 x3 w = some z) : Met l yX8_worst (wsU yX8_worst cX8_worst 4 (some .int)) rm_X8_worst (va_Pc [.ref (gad G 0), .int x1, .int x2, .int x3] (PreG G w)) (QI G z) 0 0 (gA G) := by
  refine Met.ofW (cc := cX8_worst) (maxL := 4) (ret := (some .int)) (by decide) rfl ?_
  intro p e s m args below meth c s₁ B hml hv
  obtain ⟨rfl, S⟩ := hv
  have F : CallFix p m c cX8_worst 4 s _ (wsU yX8_worst cX8_worst 4 (some .int)) RX8 := ⟨B.exec, B.bytes, hml, findClass_of_methodNamed B.named, atoms_spec B.pre⟩
  have hr := B.returns
  have hlk := B.notSynchronized
  obtain ⟨hx, hb, -, hown, hts⟩ := id F
  have hg : ∀ q ∈ lwg, q.before _ s = true := fun q h => hts q (List.mem_cons_of_mem _ h)
  refine g_entry (Nat.le_of_ble_eq_true rfl) (fun ls hl => ?_)
  have hl : lv_has ls 4 [(0, .ref (gad G 0)), (1, .int x1), (2, .int x2), (3, .int x3)] := hl
  have S : St G w s s.heap [] := S
  generalize s.heap = H at S ⊢
  generalize ([] : List Loc) = locs at S ⊢
  rw [f_X8_worst] at hz
  refine lv_aload_n hx hb dX8_worst_0 rfl (lv_at hl 0 rfl) ?_
  refine lv_iload_n hx hb dX8_worst_1 rfl (lv_at hl 1 rfl) ?_
  refine lv_iload_n hx hb dX8_worst_2 rfl (lv_at hl 2 rfl) ?_
  obtain ⟨q1, e2, hz⟩ := bd hz
  refine g_callVb (As := [.int x1, .int x2]) (rest := []) F S (c_X8_isRefused l G x1 x2  _ e2) (cw_X8_worst_X8_isRefused_138 hg) (S.obj (by decide) (by decide) rfl (oc_X8 _ _ _ (by decide))) rfl hl.1 rfl (Nat.le_of_ble_eq_true rfl) ⟨Nat.zero_le _, Nat.zero_le _⟩ dX8_worst_3 (fun H locs hB3 S => ?_)
  refine lv_if_eq (tgt := 11) hx hb dX8_worst_6 (by decide) (fun c4 => ?_) (fun c4 => ?_)
  · have hz := ipt (c4) hz
    refine lv_aload_n hx hb dX8_worst_11 rfl (lv_at hl 0 rfl) ?_
    refine lv_aload_n hx hb dX8_worst_12 rfl (lv_at hl 0 rfl) ?_
    refine fg_X8_2 hx hb (fun q h => hg q (tl_X8 q h)) hown (hg _ t_fl_X8_49) S (by decide) dX8_worst_13 ?_
    refine lv_aload_n hx hb dX8_worst_16 rfl (lv_at hl 0 rfl) ?_
    refine lv_iload_n hx hb dX8_worst_17 rfl (lv_at hl 1 rfl) ?_
    obtain ⟨q5, e6, hz⟩ := bd hz
    refine g_callVr (As := [.int x1]) (rest := [.ref (gad G 72), .ref (gad G 0)]) F S (c_X8_ofPorter l G x1  _ e6) (cw_X8_worst_X8_ofPorter_142 hg) (S.obj (by decide) (by decide) rfl (oc_X8 _ _ _ (by decide))) rfl hl.1 rfl (Nat.le_of_ble_eq_true rfl) ⟨Nat.zero_le _, Nat.zero_le _⟩ dX8_worst_18 (fun H locs hk7 S => ?_)
    refine lv_iload_n hx hb dX8_worst_21 rfl (lv_at hl 2 rfl) ?_
    refine lv_iload_n hx hb dX8_worst_22 rfl (lv_at hl 3 rfl) ?_
    obtain ⟨q8, e9, hz⟩ := bd hz
    refine g_callVi (As := [.ref (gad G q5.1), .int x2, .int x3]) (rest := [.ref (gad G 0)]) F S (c_X0_furthest l G q5.1 x2 x3 hk7 _ e9) (cw_X8_worst_X0_furthest_150 hg) (S.obj (by decide) (by decide) rfl (oc_X0 _ _ _ (by decide))) rfl hl.1 rfl (Nat.le_of_ble_eq_true rfl) ⟨Nat.zero_le _, Nat.zero_le _⟩ dX8_worst_23 (fun H locs  S => ?_)
    obtain ⟨q10, e11, hz⟩ := bd hz
    refine g_callVi (As := [.int q8.1]) (rest := []) F S (c_X8_fine l G q8.1  _ e11) (cw_X8_worst_X8_fine_112 hg) (S.obj (by decide) (by decide) rfl (oc_X8 _ _ _ (by decide))) rfl hl.1 rfl (Nat.le_of_ble_eq_true rfl) ⟨Nat.zero_le _, Nat.zero_le _⟩ dX8_worst_26 (fun H locs  S => ?_)
    exact g_reti hx hb hr hlk S hz dX8_worst_29
  · have hz := ipf (c4) hz
    refine lv_iconst (v := (-1)) hx hb dX8_worst_9 (by decide) ?_
    exact g_reti hx hb hr hlk S hz dX8_worst_10
noncomputable def f_X8_lies_23   (w : GW) : Option (Int64 × GW) :=
  (f_X8_refuse 1 w).bind fun q5 =>
  some ((q5.1.toInt64), q5.2)
noncomputable def f_X8_lies (x1 : Int32) (x2 : Int32) (x3 : Int32) (w : GW) : Option (Int64 × GW) :=
  (f_X8_isPorter x1 w).bind fun q1 =>
  if q1.1 = 0 then
    f_X8_lies_23 q1.2
  else
    if x2 < 0 then
      f_X8_lies_23 q1.2
    else
      if x2 < (gI q1.2 (fxH (gR q1.2 0)) 9) then
        if inb x2 8 then
        (f_X8_pack (((fxH (gR q1.2 0)) + 12) + 1 + ix x2) q1.2).bind fun q10 =>
        (f_X8_chance x1 (gI q1.2 (fxH (gR q1.2 0)) 2) 7 q10.1 0 x3 q10.2).bind fun q12 =>
        some (q12.1, q12.2)
        else none
      else
        f_X8_lies_23 q1.2
set_option maxHeartbeats 4000000 in
set_option maxRecDepth 100000 in
theorem w_X8_lies_23 {p : Program} {l : Launch} {e : Env} {s : State} {m : MethodId} {args : Array Value} {below : List Frame} {meth : Method} {c : Code} {G : GG} (F : CallFix p m c cX8_lies 4 s args (wsU yX8_lies cX8_lies 4 (some .long)) RX8) (hr : meth.sig.returnType = (some .long)) (hlk : meth.locks = false) {z : Int64 × GW} : (∀ (w : GW) (H : Heap) (locs : List Loc) (ls : Array Slot), St G w s H locs → lv_has ls 4 [(0, .ref (gad G 0))] → f_X8_lies_23  w = some z → W p l e (headSpec (wsU yX8_lies cX8_lies 4 (some .long)) rm_X8_lies).room s m args below meth c H locs 0 0 (MQ below (QL G z) args s 0 0 (gA G)) (F0 m 23 ls [])) := by
  obtain ⟨hx, hb, hml, hown, hts⟩ := id F
  have hg : ∀ q ∈ lwg, q.before args s = true := fun q h => hts q (List.mem_cons_of_mem _ h)
  intro w H locs ls S hl hz
  rw [f_X8_lies_23] at hz
  refine lv_aload_n hx hb dX8_lies_23 rfl (lv_at hl 0 rfl) ?_
  refine lv_iconst (v := 1) hx hb dX8_lies_24 (by decide) ?_
  obtain ⟨q5, e6, hz⟩ := bd hz
  refine g_callVi (As := [.int 1]) (rest := []) F S (c_X8_refuse l G 1  _ e6) (cw_X8_lies_X8_refuse_95 hg) (S.obj (by decide) (by decide) rfl (oc_X8 _ _ _ (by decide))) rfl hl.1 rfl (Nat.le_of_ble_eq_true rfl) ⟨Nat.zero_le _, Nat.zero_le _⟩ dX8_lies_25 (fun H locs  S => ?_)
  refine lv_i2l (v := q5.1.toInt64) hx hb dX8_lies_28 rfl ?_
  exact g_retl hx hb hr hlk S hz dX8_lies_29
set_option maxHeartbeats 4000000 in
set_option maxRecDepth 100000 in
theorem c_X8_lies (l : Launch) (G : GG) (x1 : Int32) (x2 : Int32) (x3 : Int32)  (w : GW) {z : Int64 × GW} (hz : f_X8_lies x1 x2 x3 w = some z) : Met l yX8_lies (wsU yX8_lies cX8_lies 4 (some .long)) rm_X8_lies (va_Pc [.ref (gad G 0), .int x1, .int x2, .int x3] (PreG G w)) (QL G z) 0 0 (gA G) := by
  refine Met.ofW (cc := cX8_lies) (maxL := 4) (ret := (some .long)) (by decide) rfl ?_
  intro p e s m args below meth c s₁ B hml hv
  obtain ⟨rfl, S⟩ := hv
  have F : CallFix p m c cX8_lies 4 s _ (wsU yX8_lies cX8_lies 4 (some .long)) RX8 := ⟨B.exec, B.bytes, hml, findClass_of_methodNamed B.named, atoms_spec B.pre⟩
  have hr := B.returns
  have hlk := B.notSynchronized
  obtain ⟨hx, hb, -, hown, hts⟩ := id F
  have hg : ∀ q ∈ lwg, q.before _ s = true := fun q h => hts q (List.mem_cons_of_mem _ h)
  refine g_entry (Nat.le_of_ble_eq_true rfl) (fun ls hl => ?_)
  have hl : lv_has ls 4 [(0, .ref (gad G 0)), (1, .int x1), (2, .int x2), (3, .int x3)] := hl
  have S : St G w s s.heap [] := S
  generalize s.heap = H at S ⊢
  generalize ([] : List Loc) = locs at S ⊢
  rw [f_X8_lies] at hz
  refine lv_aload_n hx hb dX8_lies_0 rfl (lv_at hl 0 rfl) ?_
  refine lv_iload_n hx hb dX8_lies_1 rfl (lv_at hl 1 rfl) ?_
  obtain ⟨q1, e2, hz⟩ := bd hz
  refine g_callVb (As := [.int x1]) (rest := []) F S (c_X8_isPorter l G x1  _ e2) (cw_X8_lies_X8_isPorter_121 hg) (S.obj (by decide) (by decide) rfl (oc_X8 _ _ _ (by decide))) rfl hl.1 rfl (Nat.le_of_ble_eq_true rfl) ⟨Nat.zero_le _, Nat.zero_le _⟩ dX8_lies_2 (fun H locs hB3 S => ?_)
  refine lv_if_eq (tgt := 23) hx hb dX8_lies_5 (by decide) (fun c4 => ?_) (fun c4 => ?_)
  · have hz := ipt (c4) hz
    exact w_X8_lies_23 F hr hlk _ _ _ _ S (lv_sub hl [0] rfl) hz
  · have hz := ipf (c4) hz
    refine lv_iload_n hx hb dX8_lies_8 rfl (lv_at hl 2 rfl) ?_
    refine lv_if_lt (tgt := 23) hx hb dX8_lies_9 (by decide) (fun c7 => ?_) (fun c7 => ?_)
    · have hz := ipt (c7) hz
      exact w_X8_lies_23 F hr hlk _ _ _ _ S (lv_sub hl [0] rfl) hz
    · have hz := ipf (c7) hz
      refine lv_iload_n hx hb dX8_lies_12 rfl (lv_at hl 2 rfl) ?_
      refine lv_aload_n hx hb dX8_lies_13 rfl (lv_at hl 0 rfl) ?_
      refine fg_X8_9 hx hb (fun q h => hg q (tl_X8 q h)) hown (hg _ t_fl_X8_28) S (by decide) dX8_lies_14 ?_
      refine fg_X3_9 hx hb (fun q h => hg q (tl_X3 q h)) hown (hg _ t_fl_X8_154) S (kd_H _) dX8_lies_17 ?_
      refine lv_icmp_lt (tgt := 30) hx hb dX8_lies_20 (by decide) (fun c8 => ?_) (fun c8 => ?_)
      · have hz := ipt (c8) hz
        refine lv_aload_n hx hb dX8_lies_30 rfl (lv_at hl 0 rfl) ?_
        refine lv_iload_n hx hb dX8_lies_31 rfl (lv_at hl 1 rfl) ?_
        refine lv_aload_n hx hb dX8_lies_32 rfl (lv_at hl 0 rfl) ?_
        refine fg_X8_9 hx hb (fun q h => hg q (tl_X8 q h)) hown (hg _ t_fl_X8_28) S (by decide) dX8_lies_33 ?_
        refine fg_X3_2 hx hb (fun q h => hg q (tl_X3 q h)) hown (hg _ t_fl_X8_157) S (kd_H _) dX8_lies_36 ?_
        refine lv_bipush (v := 7) hx hb dX8_lies_39 (by decide) ?_
        refine lv_aload_n hx hb dX8_lies_41 rfl (lv_at hl 0 rfl) ?_
        refine fg_X8_9 hx hb (fun q h => hg q (tl_X8 q h)) hown (hg _ t_fl_X8_28) S (by decide) dX8_lies_42 ?_
        refine fg_X3_15 hx hb (fun q h => hg q (tl_X3 q h)) hown (hg _ t_fl_X8_160) S (kd_H _) dX8_lies_45 ?_
        refine lv_iload_n hx hb dX8_lies_48 rfl (lv_at hl 2 rfl) ?_
        obtain ⟨h9, hz⟩ := ck hz
        refine g_aald35 hx hb S (kd_3_12 (kd_H _)) h9 dX8_lies_49 ?_
        obtain ⟨q10, e11, hz⟩ := bd hz
        refine g_callSi (As := [.ref (gad G (((fxH (gR q1.2 0)) + 12) + 1 + ix x2))]) (rest := [.int 7, .int (gI q1.2 (fxH (gR q1.2 0)) 2), .int x1, .ref (gad G 0)]) F S (c_X8_pack l G (((fxH (gR q1.2 0)) + 12) + 1 + ix x2) (kd_el35 (kd_3_12 (kd_H _)) (h9).2) _ e11) (cw_X8_lies_X8_pack_164 hg) rfl hl.1 rfl (Nat.le_of_ble_eq_true rfl) ⟨Nat.zero_le _, Nat.zero_le _⟩ dX8_lies_50 (fun H locs  S => ?_)
        refine lv_iconst (v := 0) hx hb dX8_lies_53 (by decide) ?_
        refine lv_iload_n hx hb dX8_lies_54 rfl (lv_at hl 3 rfl) ?_
        obtain ⟨q12, e13, hz⟩ := bd hz
        refine g_callVl (As := [.int x1, .int (gI q1.2 (fxH (gR q1.2 0)) 2), .int 7, .int q10.1, .int 0, .int x3]) (rest := []) F S (c_X8_chance l G x1 (gI q1.2 (fxH (gR q1.2 0)) 2) 7 q10.1 0 x3  _ e13) (cw_X8_lies_X8_chance_131 hg) (S.obj (by decide) (by decide) rfl (oc_X8 _ _ _ (by decide))) rfl hl.1 rfl (Nat.le_of_ble_eq_true rfl) ⟨Nat.zero_le _, Nat.zero_le _⟩ dX8_lies_55 (fun H locs  S => ?_)
        exact g_retl hx hb hr hlk S hz dX8_lies_58
      · have hz := ipf (c8) hz
        exact w_X8_lies_23 F hr hlk _ _ _ _ S (lv_sub hl [0] rfl) hz
noncomputable def f_X8_times (x0 : Int64) (x2 : Int64) (w : GW) : Option (Int64 × GW) :=
  if x0 ≤ 0 then
    some (1, w)
  else
    if x2 ≤ x0 then
      some (1, w)
    else
      if ¬ x0 = 0 then
      some ((x2 / x0), w)
      else none
set_option maxHeartbeats 4000000 in
set_option maxRecDepth 100000 in
theorem c_X8_times (l : Launch) (G : GG) (x0 : Int64) (x2 : Int64)  (w : GW) {z : Int64 × GW} (hz : f_X8_times x0 x2 w = some z) : Met l yX8_times (wsU yX8_times cX8_times 4 (some .long)) rm_X8_times (va_Pc [.long x0, .long x2] (PreG G w)) (QL G z) 0 0 (gA G) := by
  refine Met.ofW (cc := cX8_times) (maxL := 4) (ret := (some .long)) (by decide) rfl ?_
  intro p e s m args below meth c s₁ B hml hv
  obtain ⟨rfl, S⟩ := hv
  have F : CallFix p m c cX8_times 4 s _ (wsU yX8_times cX8_times 4 (some .long)) RX8 := ⟨B.exec, B.bytes, hml, findClass_of_methodNamed B.named, atoms_spec B.pre⟩
  have hr := B.returns
  have hlk := B.notSynchronized
  obtain ⟨hx, hb, -, hown, hts⟩ := id F
  have hg : ∀ q ∈ lwg, q.before _ s = true := fun q h => hts q (List.mem_cons_of_mem _ h)
  refine g_entry (Nat.le_of_ble_eq_true rfl) (fun ls hl => ?_)
  have hl : lv_has ls 4 [(0, .long x0), (2, .long x2)] := hl
  have S : St G w s s.heap [] := S
  generalize s.heap = H at S ⊢
  generalize ([] : List Loc) = locs at S ⊢
  rw [f_X8_times] at hz
  refine lv_lload_n hx hb dX8_times_0 rfl (lv_at hl 0 rfl) ?_
  refine lv_lconst (v := 0) hx hb dX8_times_1 (by decide) ?_
  refine W.lcmp hx hb dX8_times_2 ?_
  refine lv_if_le (tgt := 18) hx hb dX8_times_3 (by decide) (fun c1 => ?_) (fun c1 => ?_)
  · have hz := ipt ((lg_cmp_le _ _).mp c1) hz
    refine lv_lconst (v := 1) hx hb dX8_times_18 (by decide) ?_
    exact g_retl hx hb hr hlk S hz dX8_times_19
  · have hz := ipf (fun q9 => c1 ((lg_cmp_le _ _).mpr q9)) hz
    refine lv_lload_n hx hb dX8_times_6 rfl (lv_at hl 1 rfl) ?_
    refine lv_lload_n hx hb dX8_times_7 rfl (lv_at hl 0 rfl) ?_
    refine W.lcmp hx hb dX8_times_8 ?_
    refine lv_if_le (tgt := 18) hx hb dX8_times_9 (by decide) (fun c2 => ?_) (fun c2 => ?_)
    · have hz := ipt ((lg_cmp_le _ _).mp c2) hz
      refine lv_lconst (v := 1) hx hb dX8_times_18 (by decide) ?_
      exact g_retl hx hb hr hlk S hz dX8_times_19
    · have hz := ipf (fun q9 => c2 ((lg_cmp_le _ _).mpr q9)) hz
      refine lv_lload_n hx hb dX8_times_12 rfl (lv_at hl 1 rfl) ?_
      refine lv_lload_n hx hb dX8_times_13 rfl (lv_at hl 0 rfl) ?_
      obtain ⟨h3, hz⟩ := ck hz
      refine g_ldiv hx hb dX8_times_14 h3 ?_
      refine lv_goto (tgt := 19) hx hb dX8_times_15 (by decide) ?_
      exact g_retl hx hb hr hlk S hz dX8_times_19
noncomputable def f_X8_compare_16   (w : GW) : Option (Int32 × GW) :=
  (f_X8_refuse 1 w).bind fun q5 =>
  some (q5.1, q5.2)
noncomputable def f_X8_compare_38   (w : GW) : Option (Int32 × GW) :=
  (f_X8_refuse 2 w).bind fun q15 =>
  some (q15.1, q15.2)
noncomputable def f_X8_compare_62   (w : GW) : Option (Int32 × GW) :=
  (f_X8_refuse 3 w).bind fun q25 =>
  some (q25.1, q25.2)
noncomputable def f_X8_compare_186  (t0 : Int32) (w : GW) : Option (Int32 × GW) :=
  (f_X8_fine t0 w).bind fun q47 =>
  some (q47.1, q47.2)
noncomputable def f_X8_compare (x1 : Int32) (x2 : Int32) (x3 : Int32) (x4 : Int32) (w : GW) : Option (Int32 × GW) :=
  (f_X8_isPorter x1 w).bind fun q1 =>
  if q1.1 = 0 then
    f_X8_compare_16 q1.2
  else
    (f_X8_isPorter x2 q1.2).bind fun q7 =>
    if q7.1 = 0 then
      f_X8_compare_16 q7.2
    else
      (f_X8_isCount x3 q7.2).bind fun q11 =>
      if q11.1 = 0 then
        f_X8_compare_38 q11.2
      else
        (f_X8_isFullest x4 q11.2).bind fun q17 =>
        if q17.1 = 0 then
          f_X8_compare_38 q17.2
        else
          (f_X8_isTooMany x1 x3 q17.2).bind fun q21 =>
          if q21.1 = 0 then
            (f_X8_isTooMany x2 x3 q21.2).bind fun q27 =>
            if q27.1 = 0 then
              (f_X8_ofPorter x1 q27.2).bind fun q31 =>
              (f_X0_count q31.1 x3 4 x4 0 q31.2).bind fun q34 =>
              (f_X8_ofPorter x2 q34.2).bind fun q36 =>
              (f_X0_count q36.1 x3 4 x4 0 q36.2).bind fun q39 =>
              (f_X8_times (gL q34.2 72 10) (gL q39.2 72 10) q39.2).bind fun q41 =>
              (f_X8_times (gL q41.2 72 10) (gL q34.2 72 10) q41.2).bind fun q43 =>
              if ((gL q41.2 72 9) * q43.1) ≤ ((gL q34.2 72 9) * q41.1) then
                if ((gL q34.2 72 9) * q41.1) ≤ ((gL q41.2 72 9) * q43.1) then
                  f_X8_compare_186 0 q43.2
                else
                  f_X8_compare_186 2 q43.2
              else
                f_X8_compare_186 (-2) q43.2
            else
              f_X8_compare_62 q27.2
          else
            f_X8_compare_62 q21.2
set_option maxHeartbeats 4000000 in
set_option maxRecDepth 100000 in
theorem w_X8_compare_16 {p : Program} {l : Launch} {e : Env} {s : State} {m : MethodId} {args : Array Value} {below : List Frame} {meth : Method} {c : Code} {G : GG} (F : CallFix p m c cX8_compare 11 s args (wsU yX8_compare cX8_compare 11 (some .int)) RX8) (hr : meth.sig.returnType = (some .int)) (hlk : meth.locks = false) {z : Int32 × GW} : (∀ (w : GW) (H : Heap) (locs : List Loc) (ls : Array Slot), St G w s H locs → lv_has ls 11 [(0, .ref (gad G 0))] → f_X8_compare_16  w = some z → W p l e (headSpec (wsU yX8_compare cX8_compare 11 (some .int)) rm_X8_compare).room s m args below meth c H locs 0 0 (MQ below (QI G z) args s 0 0 (gA G)) (F0 m 16 ls [])) := by
  obtain ⟨hx, hb, hml, hown, hts⟩ := id F
  have hg : ∀ q ∈ lwg, q.before args s = true := fun q h => hts q (List.mem_cons_of_mem _ h)
  intro w H locs ls S hl hz
  rw [f_X8_compare_16] at hz
  refine lv_aload_n hx hb dX8_compare_16 rfl (lv_at hl 0 rfl) ?_
  refine lv_iconst (v := 1) hx hb dX8_compare_17 (by decide) ?_
  obtain ⟨q5, e6, hz⟩ := bd hz
  refine g_callVi (As := [.int 1]) (rest := []) F S (c_X8_refuse l G 1  _ e6) (cw_X8_compare_X8_refuse_95 hg) (S.obj (by decide) (by decide) rfl (oc_X8 _ _ _ (by decide))) rfl hl.1 rfl (Nat.le_of_ble_eq_true rfl) ⟨Nat.zero_le _, Nat.zero_le _⟩ dX8_compare_18 (fun H locs  S => ?_)
  exact g_reti hx hb hr hlk S hz dX8_compare_21
set_option maxHeartbeats 4000000 in
set_option maxRecDepth 100000 in
theorem w_X8_compare_38 {p : Program} {l : Launch} {e : Env} {s : State} {m : MethodId} {args : Array Value} {below : List Frame} {meth : Method} {c : Code} {G : GG} (F : CallFix p m c cX8_compare 11 s args (wsU yX8_compare cX8_compare 11 (some .int)) RX8) (hr : meth.sig.returnType = (some .int)) (hlk : meth.locks = false) {z : Int32 × GW} : (∀ (w : GW) (H : Heap) (locs : List Loc) (ls : Array Slot), St G w s H locs → lv_has ls 11 [(0, .ref (gad G 0))] → f_X8_compare_38  w = some z → W p l e (headSpec (wsU yX8_compare cX8_compare 11 (some .int)) rm_X8_compare).room s m args below meth c H locs 0 0 (MQ below (QI G z) args s 0 0 (gA G)) (F0 m 38 ls [])) := by
  obtain ⟨hx, hb, hml, hown, hts⟩ := id F
  have hg : ∀ q ∈ lwg, q.before args s = true := fun q h => hts q (List.mem_cons_of_mem _ h)
  intro w H locs ls S hl hz
  rw [f_X8_compare_38] at hz
  refine lv_aload_n hx hb dX8_compare_38 rfl (lv_at hl 0 rfl) ?_
  refine lv_iconst (v := 2) hx hb dX8_compare_39 (by decide) ?_
  obtain ⟨q15, e16, hz⟩ := bd hz
  refine g_callVi (As := [.int 2]) (rest := []) F S (c_X8_refuse l G 2  _ e16) (cw_X8_compare_X8_refuse_95 hg) (S.obj (by decide) (by decide) rfl (oc_X8 _ _ _ (by decide))) rfl hl.1 rfl (Nat.le_of_ble_eq_true rfl) ⟨Nat.zero_le _, Nat.zero_le _⟩ dX8_compare_40 (fun H locs  S => ?_)
  exact g_reti hx hb hr hlk S hz dX8_compare_43
set_option maxHeartbeats 4000000 in
set_option maxRecDepth 100000 in
theorem w_X8_compare_62 {p : Program} {l : Launch} {e : Env} {s : State} {m : MethodId} {args : Array Value} {below : List Frame} {meth : Method} {c : Code} {G : GG} (F : CallFix p m c cX8_compare 11 s args (wsU yX8_compare cX8_compare 11 (some .int)) RX8) (hr : meth.sig.returnType = (some .int)) (hlk : meth.locks = false) {z : Int32 × GW} : (∀ (w : GW) (H : Heap) (locs : List Loc) (ls : Array Slot), St G w s H locs → lv_has ls 11 [(0, .ref (gad G 0))] → f_X8_compare_62  w = some z → W p l e (headSpec (wsU yX8_compare cX8_compare 11 (some .int)) rm_X8_compare).room s m args below meth c H locs 0 0 (MQ below (QI G z) args s 0 0 (gA G)) (F0 m 62 ls [])) := by
  obtain ⟨hx, hb, hml, hown, hts⟩ := id F
  have hg : ∀ q ∈ lwg, q.before args s = true := fun q h => hts q (List.mem_cons_of_mem _ h)
  intro w H locs ls S hl hz
  rw [f_X8_compare_62] at hz
  refine lv_aload_n hx hb dX8_compare_62 rfl (lv_at hl 0 rfl) ?_
  refine lv_iconst (v := 3) hx hb dX8_compare_63 (by decide) ?_
  obtain ⟨q25, e26, hz⟩ := bd hz
  refine g_callVi (As := [.int 3]) (rest := []) F S (c_X8_refuse l G 3  _ e26) (cw_X8_compare_X8_refuse_95 hg) (S.obj (by decide) (by decide) rfl (oc_X8 _ _ _ (by decide))) rfl hl.1 rfl (Nat.le_of_ble_eq_true rfl) ⟨Nat.zero_le _, Nat.zero_le _⟩ dX8_compare_64 (fun H locs  S => ?_)
  exact g_reti hx hb hr hlk S hz dX8_compare_67
set_option maxHeartbeats 4000000 in
set_option maxRecDepth 100000 in
theorem w_X8_compare_186 {p : Program} {l : Launch} {e : Env} {s : State} {m : MethodId} {args : Array Value} {below : List Frame} {meth : Method} {c : Code} {G : GG} (F : CallFix p m c cX8_compare 11 s args (wsU yX8_compare cX8_compare 11 (some .int)) RX8) (hr : meth.sig.returnType = (some .int)) (hlk : meth.locks = false) {z : Int32 × GW} : (∀ (t0 : Int32) (w : GW) (H : Heap) (locs : List Loc) (ls : Array Slot), St G w s H locs → lv_has ls 11 [] → f_X8_compare_186 t0 w = some z → W p l e (headSpec (wsU yX8_compare cX8_compare 11 (some .int)) rm_X8_compare).room s m args below meth c H locs 0 0 (MQ below (QI G z) args s 0 0 (gA G)) (F0 m 186 ls [.int t0, .ref (gad G 0)])) := by
  obtain ⟨hx, hb, hml, hown, hts⟩ := id F
  have hg : ∀ q ∈ lwg, q.before args s = true := fun q h => hts q (List.mem_cons_of_mem _ h)
  intro t0 w H locs ls S hl hz
  rw [f_X8_compare_186] at hz
  obtain ⟨q47, e48, hz⟩ := bd hz
  refine g_callVi (As := [.int t0]) (rest := []) F S (c_X8_fine l G t0  _ e48) (cw_X8_compare_X8_fine_112 hg) (S.obj (by decide) (by decide) rfl (oc_X8 _ _ _ (by decide))) rfl hl.1 rfl (Nat.le_of_ble_eq_true rfl) ⟨Nat.zero_le _, Nat.zero_le _⟩ dX8_compare_186 (fun H locs  S => ?_)
  exact g_reti hx hb hr hlk S hz dX8_compare_189
set_option maxHeartbeats 4000000 in
set_option maxRecDepth 100000 in
theorem c_X8_compare (l : Launch) (G : GG) (x1 : Int32) (x2 : Int32) (x3 : Int32) (x4 : Int32)  (w : GW) {z : Int32 × GW} (hz : f_X8_compare x1 x2 x3 x4 w = some z) : Met l yX8_compare (wsU yX8_compare cX8_compare 11 (some .int)) rm_X8_compare (va_Pc [.ref (gad G 0), .int x1, .int x2, .int x3, .int x4] (PreG G w)) (QI G z) 0 0 (gA G) := by
  refine Met.ofW (cc := cX8_compare) (maxL := 11) (ret := (some .int)) (by decide) rfl ?_
  intro p e s m args below meth c s₁ B hml hv
  obtain ⟨rfl, S⟩ := hv
  have F : CallFix p m c cX8_compare 11 s _ (wsU yX8_compare cX8_compare 11 (some .int)) RX8 := ⟨B.exec, B.bytes, hml, findClass_of_methodNamed B.named, atoms_spec B.pre⟩
  have hr := B.returns
  have hlk := B.notSynchronized
  obtain ⟨hx, hb, -, hown, hts⟩ := id F
  have hg : ∀ q ∈ lwg, q.before _ s = true := fun q h => hts q (List.mem_cons_of_mem _ h)
  refine g_entry (Nat.le_of_ble_eq_true rfl) (fun ls hl => ?_)
  have hl : lv_has ls 11 [(0, .ref (gad G 0)), (1, .int x1), (2, .int x2), (3, .int x3), (4, .int x4)] := hl
  have S : St G w s s.heap [] := S
  generalize s.heap = H at S ⊢
  generalize ([] : List Loc) = locs at S ⊢
  rw [f_X8_compare] at hz
  refine lv_aload_n hx hb dX8_compare_0 rfl (lv_at hl 0 rfl) ?_
  refine lv_iload_n hx hb dX8_compare_1 rfl (lv_at hl 1 rfl) ?_
  obtain ⟨q1, e2, hz⟩ := bd hz
  refine g_callVb (As := [.int x1]) (rest := []) F S (c_X8_isPorter l G x1  _ e2) (cw_X8_compare_X8_isPorter_121 hg) (S.obj (by decide) (by decide) rfl (oc_X8 _ _ _ (by decide))) rfl hl.1 rfl (Nat.le_of_ble_eq_true rfl) ⟨Nat.zero_le _, Nat.zero_le _⟩ dX8_compare_2 (fun H locs hB3 S => ?_)
  refine lv_if_eq (tgt := 16) hx hb dX8_compare_5 (by decide) (fun c4 => ?_) (fun c4 => ?_)
  · have hz := ipt (c4) hz
    exact w_X8_compare_16 F hr hlk _ _ _ _ S (lv_sub hl [0] rfl) hz
  · have hz := ipf (c4) hz
    refine lv_aload_n hx hb dX8_compare_8 rfl (lv_at hl 0 rfl) ?_
    refine lv_iload_n hx hb dX8_compare_9 rfl (lv_at hl 2 rfl) ?_
    obtain ⟨q7, e8, hz⟩ := bd hz
    refine g_callVb (As := [.int x2]) (rest := []) F S (c_X8_isPorter l G x2  _ e8) (cw_X8_compare_X8_isPorter_121 hg) (S.obj (by decide) (by decide) rfl (oc_X8 _ _ _ (by decide))) rfl hl.1 rfl (Nat.le_of_ble_eq_true rfl) ⟨Nat.zero_le _, Nat.zero_le _⟩ dX8_compare_10 (fun H locs hB9 S => ?_)
    refine lv_if_ne (tgt := 22) hx hb dX8_compare_13 (by decide) (fun c10 => ?_) (fun c10 => ?_)
    · have hz := ipf (c10) hz
      refine lv_aload_n hx hb dX8_compare_22 rfl (lv_at hl 0 rfl) ?_
      refine lv_iload_n hx hb dX8_compare_23 rfl (lv_at hl 3 rfl) ?_
      obtain ⟨q11, e12, hz⟩ := bd hz
      refine g_callVb (As := [.int x3]) (rest := []) F S (c_X8_isCount l G x3  _ e12) (cw_X8_compare_X8_isCount_125 hg) (S.obj (by decide) (by decide) rfl (oc_X8 _ _ _ (by decide))) rfl hl.1 rfl (Nat.le_of_ble_eq_true rfl) ⟨Nat.zero_le _, Nat.zero_le _⟩ dX8_compare_24 (fun H locs hB13 S => ?_)
      refine lv_if_eq (tgt := 38) hx hb dX8_compare_27 (by decide) (fun c14 => ?_) (fun c14 => ?_)
      · have hz := ipt (c14) hz
        exact w_X8_compare_38 F hr hlk _ _ _ _ S (lv_sub hl [0] rfl) hz
      · have hz := ipf (c14) hz
        refine lv_iload hx hb dX8_compare_30 (lv_at hl 4 rfl) ?_
        obtain ⟨q17, e18, hz⟩ := bd hz
        refine g_callSb (As := [.int x4]) (rest := []) F S (c_X8_isFullest l G x4  _ e18) (cw_X8_compare_X8_isFullest_128 hg) rfl hl.1 rfl (Nat.le_of_ble_eq_true rfl) ⟨Nat.zero_le _, Nat.zero_le _⟩ dX8_compare_32 (fun H locs hB19 S => ?_)
        refine lv_if_ne (tgt := 44) hx hb dX8_compare_35 (by decide) (fun c20 => ?_) (fun c20 => ?_)
        · have hz := ipf (c20) hz
          refine lv_aload_n hx hb dX8_compare_44 rfl (lv_at hl 0 rfl) ?_
          refine lv_iload_n hx hb dX8_compare_45 rfl (lv_at hl 1 rfl) ?_
          refine lv_iload_n hx hb dX8_compare_46 rfl (lv_at hl 3 rfl) ?_
          obtain ⟨q21, e22, hz⟩ := bd hz
          refine g_callVb (As := [.int x1, .int x3]) (rest := []) F S (c_X8_isTooMany l G x1 x3  _ e22) (cw_X8_compare_X8_isTooMany_168 hg) (S.obj (by decide) (by decide) rfl (oc_X8 _ _ _ (by decide))) rfl hl.1 rfl (Nat.le_of_ble_eq_true rfl) ⟨Nat.zero_le _, Nat.zero_le _⟩ dX8_compare_47 (fun H locs hB23 S => ?_)
          refine lv_if_ne (tgt := 62) hx hb dX8_compare_50 (by decide) (fun c24 => ?_) (fun c24 => ?_)
          · have hz := ipf (c24) hz
            exact w_X8_compare_62 F hr hlk _ _ _ _ S (lv_sub hl [0] rfl) hz
          · have hz := ipt (c24) hz
            refine lv_aload_n hx hb dX8_compare_53 rfl (lv_at hl 0 rfl) ?_
            refine lv_iload_n hx hb dX8_compare_54 rfl (lv_at hl 2 rfl) ?_
            refine lv_iload_n hx hb dX8_compare_55 rfl (lv_at hl 3 rfl) ?_
            obtain ⟨q27, e28, hz⟩ := bd hz
            refine g_callVb (As := [.int x2, .int x3]) (rest := []) F S (c_X8_isTooMany l G x2 x3  _ e28) (cw_X8_compare_X8_isTooMany_168 hg) (S.obj (by decide) (by decide) rfl (oc_X8 _ _ _ (by decide))) rfl hl.1 rfl (Nat.le_of_ble_eq_true rfl) ⟨Nat.zero_le _, Nat.zero_le _⟩ dX8_compare_56 (fun H locs hB29 S => ?_)
            refine lv_if_eq (tgt := 68) hx hb dX8_compare_59 (by decide) (fun c30 => ?_) (fun c30 => ?_)
            · have hz := ipt (c30) hz
              refine lv_aload_n hx hb dX8_compare_68 rfl (lv_at hl 0 rfl) ?_
              refine fg_X8_2 hx hb (fun q h => hg q (tl_X8 q h)) hown (hg _ t_fl_X8_49) S (by decide) dX8_compare_69 ?_
              refine lv_aload_n hx hb dX8_compare_72 rfl (lv_at hl 0 rfl) ?_
              refine lv_iload_n hx hb dX8_compare_73 rfl (lv_at hl 1 rfl) ?_
              obtain ⟨q31, e32, hz⟩ := bd hz
              refine g_callVr (As := [.int x1]) (rest := [.ref (gad G 72)]) F S (c_X8_ofPorter l G x1  _ e32) (cw_X8_compare_X8_ofPorter_142 hg) (S.obj (by decide) (by decide) rfl (oc_X8 _ _ _ (by decide))) rfl hl.1 rfl (Nat.le_of_ble_eq_true rfl) ⟨Nat.zero_le _, Nat.zero_le _⟩ dX8_compare_74 (fun H locs hk33 S => ?_)
              refine lv_iload_n hx hb dX8_compare_77 rfl (lv_at hl 3 rfl) ?_
              refine lv_iconst (v := 4) hx hb dX8_compare_78 (by decide) ?_
              refine lv_iload hx hb dX8_compare_79 (lv_at hl 4 rfl) ?_
              refine lv_iconst (v := 0) hx hb dX8_compare_81 (by decide) ?_
              obtain ⟨q34, e35, hz⟩ := bd hz
              refine g_callVv (As := [.ref (gad G q31.1), .int x3, .int 4, .int x4, .int 0]) (rest := []) F S (c_X0_count l G q31.1 x3 4 x4 0 hk33 _ e35) (cw_X8_compare_X0_count_171 hg) (S.obj (by decide) (by decide) rfl (oc_X0 _ _ _ (by decide))) rfl hl.1 rfl (Nat.le_of_ble_eq_true rfl) ⟨Nat.zero_le _, Nat.zero_le _⟩ dX8_compare_82 (fun H locs  S => ?_)
              refine lv_aload_n hx hb dX8_compare_85 rfl (lv_at hl 0 rfl) ?_
              refine fg_X8_2 hx hb (fun q h => hg q (tl_X8 q h)) hown (hg _ t_fl_X8_49) S (by decide) dX8_compare_86 ?_
              refine fg_X0_9 hx hb (fun q h => hg q (tl_X0 q h)) hown (hg _ t_fl_X8_175) S (by decide) dX8_compare_89 ?_
              refine lv_lstore (lv' := [(5, .long (gL q34.2 72 9)), (0, .ref (gad G 0)), (1, .int x1), (2, .int x2), (3, .int x3), (4, .int x4)]) hx hb dX8_compare_92 hl (by decide) rfl (fun ls hl => ?_)
              refine lv_aload_n hx hb dX8_compare_94 rfl (lv_at hl 1 rfl) ?_
              refine fg_X8_2 hx hb (fun q h => hg q (tl_X8 q h)) hown (hg _ t_fl_X8_49) S (by decide) dX8_compare_95 ?_
              refine fg_X0_10 hx hb (fun q h => hg q (tl_X0 q h)) hown (hg _ t_fl_X8_179) S (by decide) dX8_compare_98 ?_
              refine lv_lstore (lv' := [(7, .long (gL q34.2 72 10)), (5, .long (gL q34.2 72 9)), (0, .ref (gad G 0)), (1, .int x1), (2, .int x2), (3, .int x3), (4, .int x4)]) hx hb dX8_compare_101 hl (by decide) rfl (fun ls hl => ?_)
              refine lv_aload_n hx hb dX8_compare_103 rfl (lv_at hl 2 rfl) ?_
              refine fg_X8_2 hx hb (fun q h => hg q (tl_X8 q h)) hown (hg _ t_fl_X8_49) S (by decide) dX8_compare_104 ?_
              refine lv_aload_n hx hb dX8_compare_107 rfl (lv_at hl 2 rfl) ?_
              refine lv_iload_n hx hb dX8_compare_108 rfl (lv_at hl 4 rfl) ?_
              obtain ⟨q36, e37, hz⟩ := bd hz
              refine g_callVr (As := [.int x2]) (rest := [.ref (gad G 72)]) F S (c_X8_ofPorter l G x2  _ e37) (cw_X8_compare_X8_ofPorter_142 hg) (S.obj (by decide) (by decide) rfl (oc_X8 _ _ _ (by decide))) rfl hl.1 rfl (Nat.le_of_ble_eq_true rfl) ⟨Nat.zero_le _, Nat.zero_le _⟩ dX8_compare_109 (fun H locs hk38 S => ?_)
              refine lv_iload_n hx hb dX8_compare_112 rfl (lv_at hl 5 rfl) ?_
              refine lv_iconst (v := 4) hx hb dX8_compare_113 (by decide) ?_
              refine lv_iload hx hb dX8_compare_114 (lv_at hl 6 rfl) ?_
              refine lv_iconst (v := 0) hx hb dX8_compare_116 (by decide) ?_
              obtain ⟨q39, e40, hz⟩ := bd hz
              refine g_callVv (As := [.ref (gad G q36.1), .int x3, .int 4, .int x4, .int 0]) (rest := []) F S (c_X0_count l G q36.1 x3 4 x4 0 hk38 _ e40) (cw_X8_compare_X0_count_171 hg) (S.obj (by decide) (by decide) rfl (oc_X0 _ _ _ (by decide))) rfl hl.1 rfl (Nat.le_of_ble_eq_true rfl) ⟨Nat.zero_le _, Nat.zero_le _⟩ dX8_compare_117 (fun H locs  S => ?_)
              refine lv_lload hx hb dX8_compare_120 (lv_at hl 1 rfl) ?_
              refine lv_lload hx hb dX8_compare_122 (lv_at hl 0 rfl) ?_
              refine lv_aload_n hx hb dX8_compare_124 rfl (lv_at hl 2 rfl) ?_
              refine fg_X8_2 hx hb (fun q h => hg q (tl_X8 q h)) hown (hg _ t_fl_X8_49) S (by decide) dX8_compare_125 ?_
              refine fg_X0_10 hx hb (fun q h => hg q (tl_X0 q h)) hown (hg _ t_fl_X8_179) S (by decide) dX8_compare_128 ?_
              obtain ⟨q41, e42, hz⟩ := bd hz
              refine g_callSl (As := [.long (gL q34.2 72 10), .long (gL q39.2 72 10)]) (rest := [.long (gL q34.2 72 9)]) F S (c_X8_times l G (gL q34.2 72 10) (gL q39.2 72 10)  _ e42) (cw_X8_compare_X8_times_182 hg) rfl hl.1 rfl (Nat.le_of_ble_eq_true rfl) ⟨Nat.zero_le _, Nat.zero_le _⟩ dX8_compare_131 (fun H locs  S => ?_)
              refine lv_lmul hx hb dX8_compare_134 ?_
              refine lv_lstore (lv' := [(5, .long ((gL q34.2 72 9) * q41.1)), (7, .long (gL q34.2 72 10)), (0, .ref (gad G 0)), (1, .int x1), (2, .int x2), (3, .int x3), (4, .int x4)]) hx hb dX8_compare_135 hl (by decide) rfl (fun ls hl => ?_)
              refine lv_aload_n hx hb dX8_compare_137 rfl (lv_at hl 2 rfl) ?_
              refine fg_X8_2 hx hb (fun q h => hg q (tl_X8 q h)) hown (hg _ t_fl_X8_49) S (by decide) dX8_compare_138 ?_
              refine fg_X0_9 hx hb (fun q h => hg q (tl_X0 q h)) hown (hg _ t_fl_X8_175) S (by decide) dX8_compare_141 ?_
              refine lv_aload_n hx hb dX8_compare_144 rfl (lv_at hl 2 rfl) ?_
              refine fg_X8_2 hx hb (fun q h => hg q (tl_X8 q h)) hown (hg _ t_fl_X8_49) S (by decide) dX8_compare_145 ?_
              refine fg_X0_10 hx hb (fun q h => hg q (tl_X0 q h)) hown (hg _ t_fl_X8_179) S (by decide) dX8_compare_148 ?_
              refine lv_lload hx hb dX8_compare_151 (lv_at hl 1 rfl) ?_
              obtain ⟨q43, e44, hz⟩ := bd hz
              refine g_callSl (As := [.long (gL q41.2 72 10), .long (gL q34.2 72 10)]) (rest := [.long (gL q41.2 72 9)]) F S (c_X8_times l G (gL q41.2 72 10) (gL q34.2 72 10)  _ e44) (cw_X8_compare_X8_times_182 hg) rfl hl.1 rfl (Nat.le_of_ble_eq_true rfl) ⟨Nat.zero_le _, Nat.zero_le _⟩ dX8_compare_153 (fun H locs  S => ?_)
              refine lv_lmul hx hb dX8_compare_156 ?_
              refine lv_lstore (lv' := [(9, .long ((gL q41.2 72 9) * q43.1)), (5, .long ((gL q34.2 72 9) * q41.1)), (7, .long (gL q34.2 72 10)), (0, .ref (gad G 0)), (1, .int x1), (2, .int x2), (3, .int x3), (4, .int x4)]) hx hb dX8_compare_157 hl (by decide) rfl (fun ls hl => ?_)
              refine lv_aload_n hx hb dX8_compare_159 rfl (lv_at hl 3 rfl) ?_
              refine lv_lload hx hb dX8_compare_160 (lv_at hl 1 rfl) ?_
              refine lv_lload hx hb dX8_compare_162 (lv_at hl 0 rfl) ?_
              refine W.lcmp hx hb dX8_compare_164 ?_
              refine lv_if_ge (tgt := 173) hx hb dX8_compare_165 (by decide) (fun c45 => ?_) (fun c45 => ?_)
              · have hz := ipt ((lg_cmp_ge _ _).mp c45) hz
                refine lv_lload hx hb dX8_compare_173 (lv_at hl 1 rfl) ?_
                refine lv_lload hx hb dX8_compare_175 (lv_at hl 0 rfl) ?_
                refine W.lcmp hx hb dX8_compare_177 ?_
                refine lv_if_le (tgt := 185) hx hb dX8_compare_178 (by decide) (fun c46 => ?_) (fun c46 => ?_)
                · have hz := ipt ((lg_cmp_le _ _).mp c46) hz
                  refine lv_iconst (v := 0) hx hb dX8_compare_185 (by decide) ?_
                  exact w_X8_compare_186 F hr hlk 0 _ _ _ _ S (lv_sub hl [] rfl) hz
                · have hz := ipf (fun q9 => c46 ((lg_cmp_le _ _).mpr q9)) hz
                  refine lv_iconst (v := 2) hx hb dX8_compare_181 (by decide) ?_
                  refine lv_goto (tgt := 186) hx hb dX8_compare_182 (by decide) ?_
                  exact w_X8_compare_186 F hr hlk 2 _ _ _ _ S (lv_sub hl [] rfl) hz
              · have hz := ipf (fun q9 => c45 ((lg_cmp_ge _ _).mpr q9)) hz
                refine lv_bipush (v := (-2)) hx hb dX8_compare_168 (by decide) ?_
                refine lv_goto (tgt := 186) hx hb dX8_compare_170 (by decide) ?_
                exact w_X8_compare_186 F hr hlk (-2) _ _ _ _ S (lv_sub hl [] rfl) hz
            · have hz := ipf (c30) hz
              exact w_X8_compare_62 F hr hlk _ _ _ _ S (lv_sub hl [0] rfl) hz
        · have hz := ipt (c20) hz
          exact w_X8_compare_38 F hr hlk _ _ _ _ S (lv_sub hl [0] rfl) hz
    · have hz := ipt (c10) hz
      exact w_X8_compare_16 F hr hlk _ _ _ _ S (lv_sub hl [0] rfl) hz
noncomputable def f_X8_never_35   (w : GW) : Option (Int32 × GW) :=
  (f_X8_refuse 2 w).bind fun q6 =>
  some (q6.1, q6.2)
noncomputable def f_X8_never_43  : Nat → Int32 → Int32 → Int32 → GW → Option (Int32 × GW)
  | 0, _, _, _, _ => none
  | n9 + 1, x1, x2, x3, w =>
    if 3 < x3 then
      (f_X8_fine (-2) w).bind fun q11 =>
      some (q11.1, q11.2)
    else
      (f_X4_become 116 x3 1 (-2) w).bind fun q13 =>
      (f_X0_rowOf ((33 + x3) - 1) 116 1 q13.2).bind fun q15 =>
      (f_X0_furthest q15.1 x1 0 q15.2).bind fun q18 =>
      if x2 ≤ q18.1 then
        f_X8_never_43 n9 x1 x2 (x3 + 1) q18.2
      else
        (f_X8_fine x3 q18.2).bind fun q21 =>
        some (q21.1, q21.2)
noncomputable def f_X8_never (x1 : Int32) (x2 : Int32) (w : GW) : Option (Int32 × GW) :=
  if (gI w (fxH (gR w 0)) 0) = 0 then
    (f_X8_refuse 1 w).bind fun q23 =>
    some (q23.1, q23.2)
  else
    (f_X8_isCount x1 w).bind fun q2 =>
    if q2.1 = 0 then
      f_X8_never_35 q2.2
    else
      if x2 < 1 then
        f_X8_never_35 q2.2
      else
        if x2 ≤ 9 then
          f_X8_never_43 fu x1 x2 1 q2.2
        else
          f_X8_never_35 q2.2
set_option maxHeartbeats 4000000 in
set_option maxRecDepth 100000 in
theorem w_X8_never_35 {p : Program} {l : Launch} {e : Env} {s : State} {m : MethodId} {args : Array Value} {below : List Frame} {meth : Method} {c : Code} {G : GG} (F : CallFix p m c cX8_never 5 s args (wsU yX8_never cX8_never 5 (some .int)) RX8) (hr : meth.sig.returnType = (some .int)) (hlk : meth.locks = false) {z : Int32 × GW} : (∀ (w : GW) (H : Heap) (locs : List Loc) (ls : Array Slot), St G w s H locs → lv_has ls 5 [(0, .ref (gad G 0))] → f_X8_never_35  w = some z → W p l e (headSpec (wsU yX8_never cX8_never 5 (some .int)) rm_X8_never).room s m args below meth c H locs 0 0 (MQ below (QI G z) args s 0 0 (gA G)) (F0 m 35 ls [])) := by
  obtain ⟨hx, hb, hml, hown, hts⟩ := id F
  have hg : ∀ q ∈ lwg, q.before args s = true := fun q h => hts q (List.mem_cons_of_mem _ h)
  intro w H locs ls S hl hz
  rw [f_X8_never_35] at hz
  refine lv_aload_n hx hb dX8_never_35 rfl (lv_at hl 0 rfl) ?_
  refine lv_iconst (v := 2) hx hb dX8_never_36 (by decide) ?_
  obtain ⟨q6, e7, hz⟩ := bd hz
  refine g_callVi (As := [.int 2]) (rest := []) F S (c_X8_refuse l G 2  _ e7) (cw_X8_never_X8_refuse_95 hg) (S.obj (by decide) (by decide) rfl (oc_X8 _ _ _ (by decide))) rfl hl.1 rfl (Nat.le_of_ble_eq_true rfl) ⟨Nat.zero_le _, Nat.zero_le _⟩ dX8_never_37 (fun H locs  S => ?_)
  exact g_reti hx hb hr hlk S hz dX8_never_40
set_option maxHeartbeats 4000000 in
set_option maxRecDepth 100000 in
theorem w_X8_never_43 {p : Program} {l : Launch} {e : Env} {s : State} {m : MethodId} {args : Array Value} {below : List Frame} {meth : Method} {c : Code} {G : GG} (F : CallFix p m c cX8_never 5 s args (wsU yX8_never cX8_never 5 (some .int)) RX8) (hr : meth.sig.returnType = (some .int)) (hlk : meth.locks = false) {z : Int32 × GW} : ∀ (n9 : Nat), (∀ (x1 : Int32) (x2 : Int32) (x3 : Int32) (w : GW) (H : Heap) (locs : List Loc) (ls : Array Slot), St G w s H locs → lv_has ls 5 [(0, .ref (gad G 0)), (1, .int x1), (2, .int x2), (3, .int x3)] → f_X8_never_43 n9 x1 x2 x3 w = some z → W p l e (headSpec (wsU yX8_never cX8_never 5 (some .int)) rm_X8_never).room s m args below meth c H locs 0 0 (MQ below (QI G z) args s 0 0 (gA G)) (F0 m 43 ls [])) := by
  obtain ⟨hx, hb, hml, hown, hts⟩ := id F
  have hg : ∀ q ∈ lwg, q.before args s = true := fun q h => hts q (List.mem_cons_of_mem _ h)
  intro n9
  induction n9 with
  | zero =>
    intro x1 x2 x3 w H locs ls S hl hz
    rw [f_X8_never_43] at hz
    cases hz
  | succ n9 ih =>
    intro x1 x2 x3 w H locs ls S hl hz
    rw [f_X8_never_43] at hz
    refine lv_iload_n hx hb dX8_never_43 rfl (lv_at hl 3 rfl) ?_
    refine lv_iconst (v := 3) hx hb dX8_never_44 (by decide) ?_
    refine lv_icmp_gt (tgt := 106) hx hb dX8_never_45 (by decide) (fun c10 => ?_) (fun c10 => ?_)
    · have hz := ipt (c10) hz
      refine lv_aload_n hx hb dX8_never_106 rfl (lv_at hl 0 rfl) ?_
      refine lv_bipush (v := (-2)) hx hb dX8_never_107 (by decide) ?_
      obtain ⟨q11, e12, hz⟩ := bd hz
      refine g_callVi (As := [.int (-2)]) (rest := []) F S (c_X8_fine l G (-2)  _ e12) (cw_X8_never_X8_fine_112 hg) (S.obj (by decide) (by decide) rfl (oc_X8 _ _ _ (by decide))) rfl hl.1 rfl (Nat.le_of_ble_eq_true rfl) ⟨Nat.zero_le _, Nat.zero_le _⟩ dX8_never_109 (fun H locs  S => ?_)
      exact g_reti hx hb hr hlk S hz dX8_never_112
    · have hz := ipf (c10) hz
      refine lv_aload_n hx hb dX8_never_48 rfl (lv_at hl 0 rfl) ?_
      refine fg_X8_4 hx hb (fun q h => hg q (tl_X8 q h)) hown (hg _ t_fl_X8_56) S (by decide) dX8_never_49 ?_
      refine lv_iload_n hx hb dX8_never_52 rfl (lv_at hl 3 rfl) ?_
      refine lv_iconst (v := 1) hx hb dX8_never_53 (by decide) ?_
      refine lv_bipush (v := (-2)) hx hb dX8_never_54 (by decide) ?_
      obtain ⟨q13, e14, hz⟩ := bd hz
      refine g_callVv (As := [.int x3, .int 1, .int (-2)]) (rest := []) F S (c_X4_become l G 116 x3 1 (-2) (by decide) _ e14) (cw_X8_never_X4_become_190 hg) (S.obj (by decide) (by decide) rfl (oc_X4 _ _ _ (by decide))) rfl hl.1 rfl (Nat.le_of_ble_eq_true rfl) ⟨Nat.zero_le _, Nat.zero_le _⟩ dX8_never_56 (fun H locs  S => ?_)
      refine lv_aload_n hx hb dX8_never_59 rfl (lv_at hl 0 rfl) ?_
      refine fg_X8_2 hx hb (fun q h => hg q (tl_X8 q h)) hown (hg _ t_fl_X8_49) S (by decide) dX8_never_60 ?_
      refine lv_bipush (v := 33) hx hb dX8_never_63 (by decide) ?_
      refine lv_iload_n hx hb dX8_never_65 rfl (lv_at hl 3 rfl) ?_
      refine lv_iadd hx hb dX8_never_66 ?_
      refine lv_iconst (v := 1) hx hb dX8_never_67 (by decide) ?_
      refine lv_isub hx hb dX8_never_68 ?_
      refine lv_aload_n hx hb dX8_never_69 rfl (lv_at hl 0 rfl) ?_
      refine fg_X8_4 hx hb (fun q h => hg q (tl_X8 q h)) hown (hg _ t_fl_X8_56) S (by decide) dX8_never_70 ?_
      refine lv_iconst (v := 1) hx hb dX8_never_73 (by decide) ?_
      obtain ⟨q15, e16, hz⟩ := bd hz
      refine g_callVr (As := [.int ((33 + x3) - 1), .ref (gad G 116), .int 1]) (rest := []) F S (c_X0_rowOf l G ((33 + x3) - 1) 116 1 (by decide) _ e16) (cw_X8_never_X0_rowOf_194 hg) (S.obj (by decide) (by decide) rfl (oc_X0 _ _ _ (by decide))) rfl hl.1 rfl (Nat.le_of_ble_eq_true rfl) ⟨Nat.zero_le _, Nat.zero_le _⟩ dX8_never_74 (fun H locs hk17 S => ?_)
      refine lv_astore (lv' := [(4, .ref (gad G q15.1)), (0, .ref (gad G 0)), (1, .int x1), (2, .int x2), (3, .int x3)]) hx hb dX8_never_77 hl (by decide) rfl (fun ls hl => ?_)
      refine lv_aload_n hx hb dX8_never_79 rfl (lv_at hl 1 rfl) ?_
      refine fg_X8_2 hx hb (fun q h => hg q (tl_X8 q h)) hown (hg _ t_fl_X8_49) S (by decide) dX8_never_80 ?_
      refine lv_aload hx hb dX8_never_83 (lv_at hl 0 rfl) ?_
      refine lv_iload_n hx hb dX8_never_85 rfl (lv_at hl 2 rfl) ?_
      refine lv_iconst (v := 0) hx hb dX8_never_86 (by decide) ?_
      obtain ⟨q18, e19, hz⟩ := bd hz
      refine g_callVi (As := [.ref (gad G q15.1), .int x1, .int 0]) (rest := []) F S (c_X0_furthest l G q15.1 x1 0 hk17 _ e19) (cw_X8_never_X0_furthest_150 hg) (S.obj (by decide) (by decide) rfl (oc_X0 _ _ _ (by decide))) rfl hl.1 rfl (Nat.le_of_ble_eq_true rfl) ⟨Nat.zero_le _, Nat.zero_le _⟩ dX8_never_87 (fun H locs  S => ?_)
      refine lv_iload_n hx hb dX8_never_90 rfl (lv_at hl 3 rfl) ?_
      refine lv_icmp_ge (tgt := 100) hx hb dX8_never_91 (by decide) (fun c20 => ?_) (fun c20 => ?_)
      · have hz := ipt (c20) hz
        refine lv_iinc (v := (x3 + 1)) (lv' := [(3, .int (x3 + 1)), (4, .ref (gad G q15.1)), (0, .ref (gad G 0)), (1, .int x1), (2, .int x2)]) hx hb dX8_never_100 hl (k := 4) rfl rfl (by decide) rfl (fun ls hl => ?_)
        refine lv_goto (tgt := 43) hx hb dX8_never_103 (by decide) ?_
        exact ih x1 x2 (x3 + 1)  _ _ _ _ S (lv_sub hl [2, 3, 4, 0] rfl) hz
      · have hz := ipf (c20) hz
        refine lv_aload_n hx hb dX8_never_94 rfl (lv_at hl 1 rfl) ?_
        refine lv_iload_n hx hb dX8_never_95 rfl (lv_at hl 4 rfl) ?_
        obtain ⟨q21, e22, hz⟩ := bd hz
        refine g_callVi (As := [.int x3]) (rest := []) F S (c_X8_fine l G x3  _ e22) (cw_X8_never_X8_fine_112 hg) (S.obj (by decide) (by decide) rfl (oc_X8 _ _ _ (by decide))) rfl hl.1 rfl (Nat.le_of_ble_eq_true rfl) ⟨Nat.zero_le _, Nat.zero_le _⟩ dX8_never_96 (fun H locs  S => ?_)
        exact g_reti hx hb hr hlk S hz dX8_never_99
set_option maxHeartbeats 4000000 in
set_option maxRecDepth 100000 in
theorem c_X8_never (l : Launch) (G : GG) (x1 : Int32) (x2 : Int32)  (w : GW) {z : Int32 × GW} (hz : f_X8_never x1 x2 w = some z) : Met l yX8_never (wsU yX8_never cX8_never 5 (some .int)) rm_X8_never (va_Pc [.ref (gad G 0), .int x1, .int x2] (PreG G w)) (QI G z) 0 0 (gA G) := by
  refine Met.ofW (cc := cX8_never) (maxL := 5) (ret := (some .int)) (by decide) rfl ?_
  intro p e s m args below meth c s₁ B hml hv
  obtain ⟨rfl, S⟩ := hv
  have F : CallFix p m c cX8_never 5 s _ (wsU yX8_never cX8_never 5 (some .int)) RX8 := ⟨B.exec, B.bytes, hml, findClass_of_methodNamed B.named, atoms_spec B.pre⟩
  have hr := B.returns
  have hlk := B.notSynchronized
  obtain ⟨hx, hb, -, hown, hts⟩ := id F
  have hg : ∀ q ∈ lwg, q.before _ s = true := fun q h => hts q (List.mem_cons_of_mem _ h)
  refine g_entry (Nat.le_of_ble_eq_true rfl) (fun ls hl => ?_)
  have hl : lv_has ls 5 [(0, .ref (gad G 0)), (1, .int x1), (2, .int x2)] := hl
  have S : St G w s s.heap [] := S
  generalize s.heap = H at S ⊢
  generalize ([] : List Loc) = locs at S ⊢
  rw [f_X8_never] at hz
  refine lv_aload_n hx hb dX8_never_0 rfl (lv_at hl 0 rfl) ?_
  refine fg_X8_9 hx hb (fun q h => hg q (tl_X8 q h)) hown (hg _ t_fl_X8_28) S (by decide) dX8_never_1 ?_
  refine fg_X3_0 hx hb (fun q h => hg q (tl_X3 q h)) hown (hg _ t_fl_X8_186) S (kd_H _) dX8_never_4 ?_
  refine lv_if_ne (tgt := 16) hx hb dX8_never_7 (by decide) (fun c1 => ?_) (fun c1 => ?_)
  · have hz := ipf (c1) hz
    refine lv_aload_n hx hb dX8_never_16 rfl (lv_at hl 0 rfl) ?_
    refine lv_iload_n hx hb dX8_never_17 rfl (lv_at hl 1 rfl) ?_
    obtain ⟨q2, e3, hz⟩ := bd hz
    refine g_callVb (As := [.int x1]) (rest := []) F S (c_X8_isCount l G x1  _ e3) (cw_X8_never_X8_isCount_125 hg) (S.obj (by decide) (by decide) rfl (oc_X8 _ _ _ (by decide))) rfl hl.1 rfl (Nat.le_of_ble_eq_true rfl) ⟨Nat.zero_le _, Nat.zero_le _⟩ dX8_never_18 (fun H locs hB4 S => ?_)
    refine lv_if_eq (tgt := 35) hx hb dX8_never_21 (by decide) (fun c5 => ?_) (fun c5 => ?_)
    · have hz := ipt (c5) hz
      exact w_X8_never_35 F hr hlk _ _ _ _ S (lv_sub hl [0] rfl) hz
    · have hz := ipf (c5) hz
      refine lv_iload_n hx hb dX8_never_24 rfl (lv_at hl 2 rfl) ?_
      refine lv_iconst (v := 1) hx hb dX8_never_25 (by decide) ?_
      refine lv_icmp_lt (tgt := 35) hx hb dX8_never_26 (by decide) (fun c8 => ?_) (fun c8 => ?_)
      · have hz := ipt (c8) hz
        exact w_X8_never_35 F hr hlk _ _ _ _ S (lv_sub hl [0] rfl) hz
      · have hz := ipf (c8) hz
        refine lv_iload_n hx hb dX8_never_29 rfl (lv_at hl 2 rfl) ?_
        refine lv_bipush (v := 9) hx hb dX8_never_30 (by decide) ?_
        refine lv_icmp_le (tgt := 41) hx hb dX8_never_32 (by decide) (fun c9 => ?_) (fun c9 => ?_)
        · have hz := ipt (c9) hz
          refine lv_iconst (v := 1) hx hb dX8_never_41 (by decide) ?_
          refine lv_istore_n (lv' := [(3, .int 1), (0, .ref (gad G 0)), (1, .int x1), (2, .int x2)]) hx hb dX8_never_42 rfl hl (by decide) rfl (fun ls hl => ?_)
          exact w_X8_never_43 F hr hlk fu x1 x2 1 _ _ _ _ S (lv_sub hl [1, 2, 3, 0] rfl) hz
        · have hz := ipf (c9) hz
          exact w_X8_never_35 F hr hlk _ _ _ _ S (lv_sub hl [0] rfl) hz
  · have hz := ipt (c1) hz
    refine lv_aload_n hx hb dX8_never_10 rfl (lv_at hl 0 rfl) ?_
    refine lv_iconst (v := 1) hx hb dX8_never_11 (by decide) ?_
    obtain ⟨q23, e24, hz⟩ := bd hz
    refine g_callVi (As := [.int 1]) (rest := []) F S (c_X8_refuse l G 1  _ e24) (cw_X8_never_X8_refuse_95 hg) (S.obj (by decide) (by decide) rfl (oc_X8 _ _ _ (by decide))) rfl hl.1 rfl (Nat.le_of_ble_eq_true rfl) ⟨Nat.zero_le _, Nat.zero_le _⟩ dX8_never_12 (fun H locs  S => ?_)
    exact g_reti hx hb hr hlk S hz dX8_never_15
noncomputable def f_X8_isBestRefused_86  (t0 : Int32) (w : GW) : Option (Int32 × GW) :=
  if (gI (sI w 0 12 t0) 0 12) = 0 then
    some (0, (sI w 0 12 t0))
  else
    some (1, (sI w 0 12 t0))
noncomputable def f_X8_isBestRefused_30  (x1 : Int32) (x2 : Int32) (t0 : Int32) (w : GW) : Option (Int32 × GW) :=
  (f_X4_become 116 x1 2 0 w).bind fun q2 =>
  if (gI q2.2 (fxH (gR q2.2 0)) 0) = 0 then
    f_X8_isBestRefused_86 1 q2.2
  else
    if t0 = 0 then
      f_X8_isBestRefused_86 2 q2.2
    else
      (f_X3_tooMany (fxH (gR q2.2 0)) 116 x2 q2.2).bind fun q6 =>
      if q6.1 = 0 then
        f_X8_isBestRefused_86 0 q6.2
      else
        f_X8_isBestRefused_86 3 q6.2
noncomputable def f_X8_isBestRefused_29  (x1 : Int32) (x2 : Int32) (w : GW) : Option (Int32 × GW) :=
  f_X8_isBestRefused_30 x1 x2 0 w
noncomputable def f_X8_isBestRefused (x1 : Int32) (x2 : Int32) (x3 : Int32) (w : GW) : Option (Int32 × GW) :=
  if x1 < 1 then
    f_X8_isBestRefused_29 x1 x2 w
  else
    if 3 < x1 then
      f_X8_isBestRefused_29 x1 x2 w
    else
      (f_X8_isCount x2 w).bind fun q12 =>
      if q12.1 = 0 then
        f_X8_isBestRefused_29 x1 x2 q12.2
      else
        (f_X8_isFullest x3 q12.2).bind fun q16 =>
        if q16.1 = 0 then
          f_X8_isBestRefused_29 x1 x2 q16.2
        else
          f_X8_isBestRefused_30 x1 x2 1 q16.2
set_option maxHeartbeats 4000000 in
set_option maxRecDepth 100000 in
theorem w_X8_isBestRefused_86 {p : Program} {l : Launch} {e : Env} {s : State} {m : MethodId} {args : Array Value} {below : List Frame} {meth : Method} {c : Code} {G : GG} (F : CallFix p m c cX8_isBestRefused 5 s args (wsU yX8_isBestRefused cX8_isBestRefused 5 (some .boolean)) RX8) (hr : meth.sig.returnType = (some .boolean)) (hlk : meth.locks = false) {z : Int32 × GW} : (∀ (t0 : Int32) (w : GW) (H : Heap) (locs : List Loc) (ls : Array Slot), St G w s H locs → lv_has ls 5 [(0, .ref (gad G 0))] → f_X8_isBestRefused_86 t0 w = some z → W p l e (headSpec (wsU yX8_isBestRefused cX8_isBestRefused 5 (some .boolean)) rm_X8_isBestRefused).room s m args below meth c H locs 0 0 (MQ below (QB G z) args s 0 0 (gA G)) (F0 m 86 ls [.int t0, .ref (gad G 0)])) := by
  obtain ⟨hx, hb, hml, hown, hts⟩ := id F
  have hg : ∀ q ∈ lwg, q.before args s = true := fun q h => hts q (List.mem_cons_of_mem _ h)
  intro t0 w H locs ls S hl hz
  rw [f_X8_isBestRefused_86] at hz
  refine fp_X8_12 (v := t0) hx hb (fun q h => hg q (tl_X8 q h)) hown (hg _ t_fl_X8_85) S (by decide) dX8_isBestRefused_86 (fun H locs S => ?_)
  refine lv_aload_n hx hb dX8_isBestRefused_89 rfl (lv_at hl 0 rfl) ?_
  refine fg_X8_12 hx hb (fun q h => hg q (tl_X8 q h)) hown (hg _ t_fl_X8_85) S (by decide) dX8_isBestRefused_90 ?_
  refine lv_if_eq (tgt := 100) hx hb dX8_isBestRefused_93 (by decide) (fun c10 => ?_) (fun c10 => ?_)
  · have hz := ipt (c10) hz
    refine lv_iconst (v := 0) hx hb dX8_isBestRefused_100 (by decide) ?_
    exact g_retb hx hb hr hlk S isB_0 hz dX8_isBestRefused_101
  · have hz := ipf (c10) hz
    refine lv_iconst (v := 1) hx hb dX8_isBestRefused_96 (by decide) ?_
    refine lv_goto (tgt := 101) hx hb dX8_isBestRefused_97 (by decide) ?_
    exact g_retb hx hb hr hlk S isB_1 hz dX8_isBestRefused_101
set_option maxHeartbeats 4000000 in
set_option maxRecDepth 100000 in
theorem w_X8_isBestRefused_30 {p : Program} {l : Launch} {e : Env} {s : State} {m : MethodId} {args : Array Value} {below : List Frame} {meth : Method} {c : Code} {G : GG} (F : CallFix p m c cX8_isBestRefused 5 s args (wsU yX8_isBestRefused cX8_isBestRefused 5 (some .boolean)) RX8) (hr : meth.sig.returnType = (some .boolean)) (hlk : meth.locks = false) {z : Int32 × GW} : (∀ (x1 : Int32) (x2 : Int32) (t0 : Int32) (hBt0 : isB t0) (w : GW) (H : Heap) (locs : List Loc) (ls : Array Slot), St G w s H locs → lv_has ls 5 [(0, .ref (gad G 0)), (1, .int x1), (2, .int x2)] → f_X8_isBestRefused_30 x1 x2 t0 w = some z → W p l e (headSpec (wsU yX8_isBestRefused cX8_isBestRefused 5 (some .boolean)) rm_X8_isBestRefused).room s m args below meth c H locs 0 0 (MQ below (QB G z) args s 0 0 (gA G)) (F0 m 30 ls [.int t0])) := by
  obtain ⟨hx, hb, hml, hown, hts⟩ := id F
  have hg : ∀ q ∈ lwg, q.before args s = true := fun q h => hts q (List.mem_cons_of_mem _ h)
  intro x1 x2 t0 hBt0 w H locs ls S hl hz
  rw [f_X8_isBestRefused_30] at hz
  refine lv_istore (lv' := [(4, .int t0), (0, .ref (gad G 0)), (1, .int x1), (2, .int x2)]) hx hb dX8_isBestRefused_30 hl (by decide) rfl (fun ls hl => ?_)
  refine lv_aload_n hx hb dX8_isBestRefused_32 rfl (lv_at hl 1 rfl) ?_
  refine fg_X8_4 hx hb (fun q h => hg q (tl_X8 q h)) hown (hg _ t_fl_X8_56) S (by decide) dX8_isBestRefused_33 ?_
  refine lv_iload_n hx hb dX8_isBestRefused_36 rfl (lv_at hl 2 rfl) ?_
  refine lv_iconst (v := 2) hx hb dX8_isBestRefused_37 (by decide) ?_
  refine lv_iconst (v := 0) hx hb dX8_isBestRefused_38 (by decide) ?_
  obtain ⟨q2, e3, hz⟩ := bd hz
  refine g_callVv (As := [.int x1, .int 2, .int 0]) (rest := []) F S (c_X4_become l G 116 x1 2 0 (by decide) _ e3) (cw_X8_isBestRefused_X4_become_190 hg) (S.obj (by decide) (by decide) rfl (oc_X4 _ _ _ (by decide))) rfl hl.1 rfl (Nat.le_of_ble_eq_true rfl) ⟨Nat.zero_le _, Nat.zero_le _⟩ dX8_isBestRefused_39 (fun H locs  S => ?_)
  refine lv_aload_n hx hb dX8_isBestRefused_42 rfl (lv_at hl 1 rfl) ?_
  refine lv_aload_n hx hb dX8_isBestRefused_43 rfl (lv_at hl 1 rfl) ?_
  refine fg_X8_9 hx hb (fun q h => hg q (tl_X8 q h)) hown (hg _ t_fl_X8_28) S (by decide) dX8_isBestRefused_44 ?_
  refine fg_X3_0 hx hb (fun q h => hg q (tl_X3 q h)) hown (hg _ t_fl_X8_186) S (kd_H _) dX8_isBestRefused_47 ?_
  refine lv_if_ne (tgt := 57) hx hb dX8_isBestRefused_50 (by decide) (fun c4 => ?_) (fun c4 => ?_)
  · have hz := ipf (c4) hz
    refine lv_iload hx hb dX8_isBestRefused_57 (lv_at hl 0 rfl) ?_
    refine lv_if_ne (tgt := 66) hx hb dX8_isBestRefused_59 (by decide) (fun c5 => ?_) (fun c5 => ?_)
    · have hz := ipf (c5) hz
      refine lv_aload_n hx hb dX8_isBestRefused_66 rfl (lv_at hl 1 rfl) ?_
      refine fg_X8_9 hx hb (fun q h => hg q (tl_X8 q h)) hown (hg _ t_fl_X8_28) S (by decide) dX8_isBestRefused_67 ?_
      refine lv_aload_n hx hb dX8_isBestRefused_70 rfl (lv_at hl 1 rfl) ?_
      refine fg_X8_4 hx hb (fun q h => hg q (tl_X8 q h)) hown (hg _ t_fl_X8_56) S (by decide) dX8_isBestRefused_71 ?_
      refine lv_iload_n hx hb dX8_isBestRefused_74 rfl (lv_at hl 3 rfl) ?_
      obtain ⟨q6, e7, hz⟩ := bd hz
      refine g_callVb (As := [.ref (gad G 116), .int x2]) (rest := [.ref (gad G 0)]) F S (c_X3_tooMany l G (fxH (gR q2.2 0)) 116 x2 (kd_H _) (by decide) _ e7) (cw_X8_isBestRefused_X3_tooMany_300 hg) (S.obj (kd_H _) (by decide) rfl (oc_X3 _ _ _ (kd_H _))) rfl hl.1 rfl (Nat.le_of_ble_eq_true rfl) ⟨Nat.zero_le _, Nat.zero_le _⟩ dX8_isBestRefused_75 (fun H locs hB8 S => ?_)
      refine lv_if_eq (tgt := 85) hx hb dX8_isBestRefused_78 (by decide) (fun c9 => ?_) (fun c9 => ?_)
      · have hz := ipt (c9) hz
        refine lv_iconst (v := 0) hx hb dX8_isBestRefused_85 (by decide) ?_
        exact w_X8_isBestRefused_86 F hr hlk 0 _ _ _ _ S (lv_sub hl [1] rfl) hz
      · have hz := ipf (c9) hz
        refine lv_iconst (v := 3) hx hb dX8_isBestRefused_81 (by decide) ?_
        refine lv_goto (tgt := 86) hx hb dX8_isBestRefused_82 (by decide) ?_
        exact w_X8_isBestRefused_86 F hr hlk 3 _ _ _ _ S (lv_sub hl [1] rfl) hz
    · have hz := ipt (c5) hz
      refine lv_iconst (v := 2) hx hb dX8_isBestRefused_62 (by decide) ?_
      refine lv_goto (tgt := 86) hx hb dX8_isBestRefused_63 (by decide) ?_
      exact w_X8_isBestRefused_86 F hr hlk 2 _ _ _ _ S (lv_sub hl [1] rfl) hz
  · have hz := ipt (c4) hz
    refine lv_iconst (v := 1) hx hb dX8_isBestRefused_53 (by decide) ?_
    refine lv_goto (tgt := 86) hx hb dX8_isBestRefused_54 (by decide) ?_
    exact w_X8_isBestRefused_86 F hr hlk 1 _ _ _ _ S (lv_sub hl [1] rfl) hz
set_option maxHeartbeats 4000000 in
set_option maxRecDepth 100000 in
theorem w_X8_isBestRefused_29 {p : Program} {l : Launch} {e : Env} {s : State} {m : MethodId} {args : Array Value} {below : List Frame} {meth : Method} {c : Code} {G : GG} (F : CallFix p m c cX8_isBestRefused 5 s args (wsU yX8_isBestRefused cX8_isBestRefused 5 (some .boolean)) RX8) (hr : meth.sig.returnType = (some .boolean)) (hlk : meth.locks = false) {z : Int32 × GW} : (∀ (x1 : Int32) (x2 : Int32) (w : GW) (H : Heap) (locs : List Loc) (ls : Array Slot), St G w s H locs → lv_has ls 5 [(0, .ref (gad G 0)), (1, .int x1), (2, .int x2)] → f_X8_isBestRefused_29 x1 x2 w = some z → W p l e (headSpec (wsU yX8_isBestRefused cX8_isBestRefused 5 (some .boolean)) rm_X8_isBestRefused).room s m args below meth c H locs 0 0 (MQ below (QB G z) args s 0 0 (gA G)) (F0 m 29 ls [])) := by
  obtain ⟨hx, hb, hml, hown, hts⟩ := id F
  have hg : ∀ q ∈ lwg, q.before args s = true := fun q h => hts q (List.mem_cons_of_mem _ h)
  intro x1 x2 w H locs ls S hl hz
  rw [f_X8_isBestRefused_29] at hz
  refine lv_iconst (v := 0) hx hb dX8_isBestRefused_29 (by decide) ?_
  exact w_X8_isBestRefused_30 F hr hlk x1 x2 0 isB_0 _ _ _ _ S (lv_sub hl [0, 1, 2] rfl) hz
set_option maxHeartbeats 4000000 in
set_option maxRecDepth 100000 in
theorem c_X8_isBestRefused (l : Launch) (G : GG) (x1 : Int32) (x2 : Int32) (x3 : Int32)  (w : GW) {z : Int32 × GW} (hz : f_X8_isBestRefused x1 x2 x3 w = some z) : Met l yX8_isBestRefused (wsU yX8_isBestRefused cX8_isBestRefused 5 (some .boolean)) rm_X8_isBestRefused (va_Pc [.ref (gad G 0), .int x1, .int x2, .int x3] (PreG G w)) (QB G z) 0 0 (gA G) := by
  refine Met.ofW (cc := cX8_isBestRefused) (maxL := 5) (ret := (some .boolean)) (by decide) rfl ?_
  intro p e s m args below meth c s₁ B hml hv
  obtain ⟨rfl, S⟩ := hv
  have F : CallFix p m c cX8_isBestRefused 5 s _ (wsU yX8_isBestRefused cX8_isBestRefused 5 (some .boolean)) RX8 := ⟨B.exec, B.bytes, hml, findClass_of_methodNamed B.named, atoms_spec B.pre⟩
  have hr := B.returns
  have hlk := B.notSynchronized
  obtain ⟨hx, hb, -, hown, hts⟩ := id F
  have hg : ∀ q ∈ lwg, q.before _ s = true := fun q h => hts q (List.mem_cons_of_mem _ h)
  refine g_entry (Nat.le_of_ble_eq_true rfl) (fun ls hl => ?_)
  have hl : lv_has ls 5 [(0, .ref (gad G 0)), (1, .int x1), (2, .int x2), (3, .int x3)] := hl
  have S : St G w s s.heap [] := S
  generalize s.heap = H at S ⊢
  generalize ([] : List Loc) = locs at S ⊢
  rw [f_X8_isBestRefused] at hz
  refine lv_iload_n hx hb dX8_isBestRefused_0 rfl (lv_at hl 1 rfl) ?_
  refine lv_iconst (v := 1) hx hb dX8_isBestRefused_1 (by decide) ?_
  refine lv_icmp_lt (tgt := 29) hx hb dX8_isBestRefused_2 (by decide) (fun c1 => ?_) (fun c1 => ?_)
  · have hz := ipt (c1) hz
    exact w_X8_isBestRefused_29 F hr hlk x1 x2 _ _ _ _ S (lv_sub hl [0, 1, 2] rfl) hz
  · have hz := ipf (c1) hz
    refine lv_iload_n hx hb dX8_isBestRefused_5 rfl (lv_at hl 1 rfl) ?_
    refine lv_iconst (v := 3) hx hb dX8_isBestRefused_6 (by decide) ?_
    refine lv_icmp_gt (tgt := 29) hx hb dX8_isBestRefused_7 (by decide) (fun c11 => ?_) (fun c11 => ?_)
    · have hz := ipt (c11) hz
      exact w_X8_isBestRefused_29 F hr hlk x1 x2 _ _ _ _ S (lv_sub hl [0, 1, 2] rfl) hz
    · have hz := ipf (c11) hz
      refine lv_aload_n hx hb dX8_isBestRefused_10 rfl (lv_at hl 0 rfl) ?_
      refine lv_iload_n hx hb dX8_isBestRefused_11 rfl (lv_at hl 2 rfl) ?_
      obtain ⟨q12, e13, hz⟩ := bd hz
      refine g_callVb (As := [.int x2]) (rest := []) F S (c_X8_isCount l G x2  _ e13) (cw_X8_isBestRefused_X8_isCount_125 hg) (S.obj (by decide) (by decide) rfl (oc_X8 _ _ _ (by decide))) rfl hl.1 rfl (Nat.le_of_ble_eq_true rfl) ⟨Nat.zero_le _, Nat.zero_le _⟩ dX8_isBestRefused_12 (fun H locs hB14 S => ?_)
      refine lv_if_eq (tgt := 29) hx hb dX8_isBestRefused_15 (by decide) (fun c15 => ?_) (fun c15 => ?_)
      · have hz := ipt (c15) hz
        exact w_X8_isBestRefused_29 F hr hlk x1 x2 _ _ _ _ S (lv_sub hl [0, 1, 2] rfl) hz
      · have hz := ipf (c15) hz
        refine lv_iload_n hx hb dX8_isBestRefused_18 rfl (lv_at hl 3 rfl) ?_
        obtain ⟨q16, e17, hz⟩ := bd hz
        refine g_callSb (As := [.int x3]) (rest := []) F S (c_X8_isFullest l G x3  _ e17) (cw_X8_isBestRefused_X8_isFullest_128 hg) rfl hl.1 rfl (Nat.le_of_ble_eq_true rfl) ⟨Nat.zero_le _, Nat.zero_le _⟩ dX8_isBestRefused_19 (fun H locs hB18 S => ?_)
        refine lv_if_eq (tgt := 29) hx hb dX8_isBestRefused_22 (by decide) (fun c19 => ?_) (fun c19 => ?_)
        · have hz := ipt (c19) hz
          exact w_X8_isBestRefused_29 F hr hlk x1 x2 _ _ _ _ S (lv_sub hl [0, 1, 2] rfl) hz
        · have hz := ipf (c19) hz
          refine lv_iconst (v := 1) hx hb dX8_isBestRefused_25 (by decide) ?_
          refine lv_goto (tgt := 30) hx hb dX8_isBestRefused_26 (by decide) ?_
          exact w_X8_isBestRefused_30 F hr hlk x1 x2 1 isB_1 _ _ _ _ S (lv_sub hl [0, 1, 2] rfl) hz
noncomputable def f_X8_ofLazy (x1 : Int32) (x2 : Int32) (w : GW) : Option (Nat × GW) :=
  (f_X4_become 116 x1 2 x2 w).bind fun q1 =>
  (f_X0_rowOf ((6 + ((x1 - 1) * 9)) + x2) 116 0 q1.2).bind fun q3 =>
  some (q3.1, q3.2)
set_option maxHeartbeats 4000000 in
set_option maxRecDepth 100000 in
theorem c_X8_ofLazy (l : Launch) (G : GG) (x1 : Int32) (x2 : Int32)  (w : GW) {z : Nat × GW} (hz : f_X8_ofLazy x1 x2 w = some z) : Met l yX8_ofLazy (wsU yX8_ofLazy cX8_ofLazy 3 (some (.array .long))) rm_X8_ofLazy (va_Pc [.ref (gad G 0), .int x1, .int x2] (PreG G w)) (QR G z) 0 0 (gA G) := by
  refine Met.ofW (cc := cX8_ofLazy) (maxL := 3) (ret := (some (.array .long))) (by decide) rfl ?_
  intro p e s m args below meth c s₁ B hml hv
  obtain ⟨rfl, S⟩ := hv
  have F : CallFix p m c cX8_ofLazy 3 s _ (wsU yX8_ofLazy cX8_ofLazy 3 (some (.array .long))) RX8 := ⟨B.exec, B.bytes, hml, findClass_of_methodNamed B.named, atoms_spec B.pre⟩
  have hr := B.returns
  have hlk := B.notSynchronized
  obtain ⟨hx, hb, -, hown, hts⟩ := id F
  have hg : ∀ q ∈ lwg, q.before _ s = true := fun q h => hts q (List.mem_cons_of_mem _ h)
  refine g_entry (Nat.le_of_ble_eq_true rfl) (fun ls hl => ?_)
  have hl : lv_has ls 3 [(0, .ref (gad G 0)), (1, .int x1), (2, .int x2)] := hl
  have S : St G w s s.heap [] := S
  generalize s.heap = H at S ⊢
  generalize ([] : List Loc) = locs at S ⊢
  rw [f_X8_ofLazy] at hz
  refine lv_aload_n hx hb dX8_ofLazy_0 rfl (lv_at hl 0 rfl) ?_
  refine fg_X8_4 hx hb (fun q h => hg q (tl_X8 q h)) hown (hg _ t_fl_X8_56) S (by decide) dX8_ofLazy_1 ?_
  refine lv_iload_n hx hb dX8_ofLazy_4 rfl (lv_at hl 1 rfl) ?_
  refine lv_iconst (v := 2) hx hb dX8_ofLazy_5 (by decide) ?_
  refine lv_iload_n hx hb dX8_ofLazy_6 rfl (lv_at hl 2 rfl) ?_
  obtain ⟨q1, e2, hz⟩ := bd hz
  refine g_callVv (As := [.int x1, .int 2, .int x2]) (rest := []) F S (c_X4_become l G 116 x1 2 x2 (by decide) _ e2) (cw_X8_ofLazy_X4_become_190 hg) (S.obj (by decide) (by decide) rfl (oc_X4 _ _ _ (by decide))) rfl hl.1 rfl (Nat.le_of_ble_eq_true rfl) ⟨Nat.zero_le _, Nat.zero_le _⟩ dX8_ofLazy_7 (fun H locs  S => ?_)
  refine lv_aload_n hx hb dX8_ofLazy_10 rfl (lv_at hl 0 rfl) ?_
  refine fg_X8_2 hx hb (fun q h => hg q (tl_X8 q h)) hown (hg _ t_fl_X8_49) S (by decide) dX8_ofLazy_11 ?_
  refine lv_bipush (v := 6) hx hb dX8_ofLazy_14 (by decide) ?_
  refine lv_iload_n hx hb dX8_ofLazy_16 rfl (lv_at hl 1 rfl) ?_
  refine lv_iconst (v := 1) hx hb dX8_ofLazy_17 (by decide) ?_
  refine lv_isub hx hb dX8_ofLazy_18 ?_
  refine lv_bipush (v := 9) hx hb dX8_ofLazy_19 (by decide) ?_
  refine lv_imul hx hb dX8_ofLazy_21 ?_
  refine lv_iadd hx hb dX8_ofLazy_22 ?_
  refine lv_iload_n hx hb dX8_ofLazy_23 rfl (lv_at hl 2 rfl) ?_
  refine lv_iadd hx hb dX8_ofLazy_24 ?_
  refine lv_aload_n hx hb dX8_ofLazy_25 rfl (lv_at hl 0 rfl) ?_
  refine fg_X8_4 hx hb (fun q h => hg q (tl_X8 q h)) hown (hg _ t_fl_X8_56) S (by decide) dX8_ofLazy_26 ?_
  refine lv_iconst (v := 0) hx hb dX8_ofLazy_29 (by decide) ?_
  obtain ⟨q3, e4, hz⟩ := bd hz
  refine g_callVr (As := [.int ((6 + ((x1 - 1) * 9)) + x2), .ref (gad G 116), .int 0]) (rest := []) F S (c_X0_rowOf l G ((6 + ((x1 - 1) * 9)) + x2) 116 0 (by decide) _ e4) (cw_X8_ofLazy_X0_rowOf_194 hg) (S.obj (by decide) (by decide) rfl (oc_X0 _ _ _ (by decide))) rfl hl.1 rfl (Nat.le_of_ble_eq_true rfl) ⟨Nat.zero_le _, Nat.zero_le _⟩ dX8_ofLazy_30 (fun H locs hk5 S => ?_)
  exact g_retr hx hb hr hlk S hk5 hz dX8_ofLazy_33
noncomputable def f_X8_laziest_65 (k_9 : Int32 → Int32 → Int32 → Int32 → Int64 → Int32 → GW → Option (Int32 × GW)) (x1 : Int32) (x2 : Int32) (x3 : Int32) (x4 : Int32) (x5 : Int64) (x7 : Int32) (w : GW) : Option (Int32 × GW) :=
  k_9 x1 x2 x3 x4 x5 (x7 + 1) w
noncomputable def f_X8_laziest_52 (k_9 : Int32 → Int32 → Int32 → Int32 → Int64 → Int32 → GW → Option (Int32 × GW)) (x1 : Int32) (x2 : Int32) (x3 : Int32) (x7 : Int32) (w : GW) : Option (Int32 × GW) :=
  f_X8_laziest_65 k_9 x1 x2 x3 x7 (gL w 72 9) x7 w
noncomputable def f_X8_laziest_9  : Nat → Int32 → Int32 → Int32 → Int32 → Int64 → Int32 → GW → Option (Int32 × GW)
  | 0, _, _, _, _, _, _, _ => none
  | n9 + 1, x1, x2, x3, x4, x5, x7, w =>
    if 8 < x7 then
      some (x4, w)
    else
      (f_X8_ofLazy x1 x7 w).bind fun q2 =>
      (f_X0_count q2.1 x2 4 x3 0 q2.2).bind fun q5 =>
      if x7 = 0 then
        f_X8_laziest_52 (f_X8_laziest_9 n9) x1 x2 x3 x7 q5.2
      else
        if x5 ≤ (gL q5.2 72 9) then
          f_X8_laziest_65 (f_X8_laziest_9 n9) x1 x2 x3 x4 x5 x7 q5.2
        else
          f_X8_laziest_52 (f_X8_laziest_9 n9) x1 x2 x3 x7 q5.2
noncomputable def f_X8_laziest (x1 : Int32) (x2 : Int32) (x3 : Int32) (w : GW) : Option (Int32 × GW) :=
  f_X8_laziest_9 fu x1 x2 x3 0 0 0 w
set_option maxHeartbeats 4000000 in
set_option maxRecDepth 100000 in
theorem w_X8_laziest_65 {p : Program} {l : Launch} {e : Env} {s : State} {m : MethodId} {args : Array Value} {below : List Frame} {meth : Method} {c : Code} {G : GG} (F : CallFix p m c cX8_laziest 8 s args (wsU yX8_laziest cX8_laziest 8 (some .int)) RX8) (hr : meth.sig.returnType = (some .int)) (hlk : meth.locks = false) {z : Int32 × GW} {k_9 : Int32 → Int32 → Int32 → Int32 → Int64 → Int32 → GW → Option (Int32 × GW)} (Hk_9 : (∀ (x1 : Int32) (x2 : Int32) (x3 : Int32) (x4 : Int32) (x5 : Int64) (x7 : Int32) (w : GW) (H : Heap) (locs : List Loc) (ls : Array Slot), St G w s H locs → lv_has ls 8 [(0, .ref (gad G 0)), (1, .int x1), (2, .int x2), (3, .int x3), (4, .int x4), (5, .long x5), (7, .int x7)] → k_9 x1 x2 x3 x4 x5 x7 w = some z → W p l e (headSpec (wsU yX8_laziest cX8_laziest 8 (some .int)) rm_X8_laziest).room s m args below meth c H locs 0 0 (MQ below (QI G z) args s 0 0 (gA G)) (F0 m 9 ls []))) : (∀ (x1 : Int32) (x2 : Int32) (x3 : Int32) (x4 : Int32) (x5 : Int64) (x7 : Int32) (w : GW) (H : Heap) (locs : List Loc) (ls : Array Slot), St G w s H locs → lv_has ls 8 [(0, .ref (gad G 0)), (1, .int x1), (2, .int x2), (3, .int x3), (4, .int x4), (5, .long x5), (7, .int x7)] → f_X8_laziest_65 k_9 x1 x2 x3 x4 x5 x7 w = some z → W p l e (headSpec (wsU yX8_laziest cX8_laziest 8 (some .int)) rm_X8_laziest).room s m args below meth c H locs 0 0 (MQ below (QI G z) args s 0 0 (gA G)) (F0 m 65 ls [])) := by
  obtain ⟨hx, hb, hml, hown, hts⟩ := id F
  have hg : ∀ q ∈ lwg, q.before args s = true := fun q h => hts q (List.mem_cons_of_mem _ h)
  intro x1 x2 x3 x4 x5 x7 w H locs ls S hl hz
  rw [f_X8_laziest_65] at hz
  refine lv_iinc (v := (x7 + 1)) (lv' := [(7, .int (x7 + 1)), (0, .ref (gad G 0)), (1, .int x1), (2, .int x2), (3, .int x3), (4, .int x4), (5, .long x5)]) hx hb dX8_laziest_65 hl (k := 6) rfl rfl (by decide) rfl (fun ls hl => ?_)
  refine lv_goto (tgt := 9) hx hb dX8_laziest_68 (by decide) ?_
  exact Hk_9 x1 x2 x3 x4 x5 (x7 + 1)  _ _ _ _ S (lv_sub hl [1, 2, 3, 4, 5, 6, 0] rfl) hz
set_option maxHeartbeats 4000000 in
set_option maxRecDepth 100000 in
theorem w_X8_laziest_52 {p : Program} {l : Launch} {e : Env} {s : State} {m : MethodId} {args : Array Value} {below : List Frame} {meth : Method} {c : Code} {G : GG} (F : CallFix p m c cX8_laziest 8 s args (wsU yX8_laziest cX8_laziest 8 (some .int)) RX8) (hr : meth.sig.returnType = (some .int)) (hlk : meth.locks = false) {z : Int32 × GW} {k_9 : Int32 → Int32 → Int32 → Int32 → Int64 → Int32 → GW → Option (Int32 × GW)} (Hk_9 : (∀ (x1 : Int32) (x2 : Int32) (x3 : Int32) (x4 : Int32) (x5 : Int64) (x7 : Int32) (w : GW) (H : Heap) (locs : List Loc) (ls : Array Slot), St G w s H locs → lv_has ls 8 [(0, .ref (gad G 0)), (1, .int x1), (2, .int x2), (3, .int x3), (4, .int x4), (5, .long x5), (7, .int x7)] → k_9 x1 x2 x3 x4 x5 x7 w = some z → W p l e (headSpec (wsU yX8_laziest cX8_laziest 8 (some .int)) rm_X8_laziest).room s m args below meth c H locs 0 0 (MQ below (QI G z) args s 0 0 (gA G)) (F0 m 9 ls []))) : (∀ (x1 : Int32) (x2 : Int32) (x3 : Int32) (x7 : Int32) (w : GW) (H : Heap) (locs : List Loc) (ls : Array Slot), St G w s H locs → lv_has ls 8 [(0, .ref (gad G 0)), (1, .int x1), (2, .int x2), (3, .int x3), (7, .int x7)] → f_X8_laziest_52 k_9 x1 x2 x3 x7 w = some z → W p l e (headSpec (wsU yX8_laziest cX8_laziest 8 (some .int)) rm_X8_laziest).room s m args below meth c H locs 0 0 (MQ below (QI G z) args s 0 0 (gA G)) (F0 m 52 ls [])) := by
  obtain ⟨hx, hb, hml, hown, hts⟩ := id F
  have hg : ∀ q ∈ lwg, q.before args s = true := fun q h => hts q (List.mem_cons_of_mem _ h)
  intro x1 x2 x3 x7 w H locs ls S hl hz
  rw [f_X8_laziest_52] at hz
  refine lv_aload_n hx hb dX8_laziest_52 rfl (lv_at hl 0 rfl) ?_
  refine fg_X8_2 hx hb (fun q h => hg q (tl_X8 q h)) hown (hg _ t_fl_X8_49) S (by decide) dX8_laziest_53 ?_
  refine fg_X0_9 hx hb (fun q h => hg q (tl_X0 q h)) hown (hg _ t_fl_X8_175) S (by decide) dX8_laziest_56 ?_
  refine lv_lstore (lv' := [(5, .long (gL w 72 9)), (0, .ref (gad G 0)), (1, .int x1), (2, .int x2), (3, .int x3), (7, .int x7)]) hx hb dX8_laziest_59 hl (by decide) rfl (fun ls hl => ?_)
  refine lv_iload hx hb dX8_laziest_61 (lv_at hl 5 rfl) ?_
  refine lv_istore (lv' := [(4, .int x7), (5, .long (gL w 72 9)), (0, .ref (gad G 0)), (1, .int x1), (2, .int x2), (3, .int x3), (7, .int x7)]) hx hb dX8_laziest_63 hl (by decide) rfl (fun ls hl => ?_)
  exact w_X8_laziest_65 F hr hlk Hk_9 x1 x2 x3 x7 (gL w 72 9) x7 _ _ _ _ S (lv_sub hl [2, 3, 4, 5, 0, 1, 6] rfl) hz
set_option maxHeartbeats 4000000 in
set_option maxRecDepth 100000 in
theorem w_X8_laziest_9 {p : Program} {l : Launch} {e : Env} {s : State} {m : MethodId} {args : Array Value} {below : List Frame} {meth : Method} {c : Code} {G : GG} (F : CallFix p m c cX8_laziest 8 s args (wsU yX8_laziest cX8_laziest 8 (some .int)) RX8) (hr : meth.sig.returnType = (some .int)) (hlk : meth.locks = false) {z : Int32 × GW} : ∀ (n9 : Nat), (∀ (x1 : Int32) (x2 : Int32) (x3 : Int32) (x4 : Int32) (x5 : Int64) (x7 : Int32) (w : GW) (H : Heap) (locs : List Loc) (ls : Array Slot), St G w s H locs → lv_has ls 8 [(0, .ref (gad G 0)), (1, .int x1), (2, .int x2), (3, .int x3), (4, .int x4), (5, .long x5), (7, .int x7)] → f_X8_laziest_9 n9 x1 x2 x3 x4 x5 x7 w = some z → W p l e (headSpec (wsU yX8_laziest cX8_laziest 8 (some .int)) rm_X8_laziest).room s m args below meth c H locs 0 0 (MQ below (QI G z) args s 0 0 (gA G)) (F0 m 9 ls [])) := by
  obtain ⟨hx, hb, hml, hown, hts⟩ := id F
  have hg : ∀ q ∈ lwg, q.before args s = true := fun q h => hts q (List.mem_cons_of_mem _ h)
  intro n9
  induction n9 with
  | zero =>
    intro x1 x2 x3 x4 x5 x7 w H locs ls S hl hz
    rw [f_X8_laziest_9] at hz
    cases hz
  | succ n9 ih =>
    intro x1 x2 x3 x4 x5 x7 w H locs ls S hl hz
    rw [f_X8_laziest_9] at hz
    refine lv_iload hx hb dX8_laziest_9 (lv_at hl 6 rfl) ?_
    refine lv_bipush (v := 8) hx hb dX8_laziest_11 (by decide) ?_
    refine lv_icmp_gt (tgt := 71) hx hb dX8_laziest_13 (by decide) (fun c1 => ?_) (fun c1 => ?_)
    · have hz := ipt (c1) hz
      refine lv_iload hx hb dX8_laziest_71 (lv_at hl 4 rfl) ?_
      exact g_reti hx hb hr hlk S hz dX8_laziest_73
    · have hz := ipf (c1) hz
      refine lv_aload_n hx hb dX8_laziest_16 rfl (lv_at hl 0 rfl) ?_
      refine fg_X8_2 hx hb (fun q h => hg q (tl_X8 q h)) hown (hg _ t_fl_X8_49) S (by decide) dX8_laziest_17 ?_
      refine lv_aload_n hx hb dX8_laziest_20 rfl (lv_at hl 0 rfl) ?_
      refine lv_iload_n hx hb dX8_laziest_21 rfl (lv_at hl 1 rfl) ?_
      refine lv_iload hx hb dX8_laziest_22 (lv_at hl 6 rfl) ?_
      obtain ⟨q2, e3, hz⟩ := bd hz
      refine g_callVr (As := [.int x1, .int x7]) (rest := [.ref (gad G 72)]) F S (c_X8_ofLazy l G x1 x7  _ e3) (cw_X8_laziest_X8_ofLazy_208 hg) (S.obj (by decide) (by decide) rfl (oc_X8 _ _ _ (by decide))) rfl hl.1 rfl (Nat.le_of_ble_eq_true rfl) ⟨Nat.zero_le _, Nat.zero_le _⟩ dX8_laziest_24 (fun H locs hk4 S => ?_)
      refine lv_iload_n hx hb dX8_laziest_27 rfl (lv_at hl 2 rfl) ?_
      refine lv_iconst (v := 4) hx hb dX8_laziest_28 (by decide) ?_
      refine lv_iload_n hx hb dX8_laziest_29 rfl (lv_at hl 3 rfl) ?_
      refine lv_iconst (v := 0) hx hb dX8_laziest_30 (by decide) ?_
      obtain ⟨q5, e6, hz⟩ := bd hz
      refine g_callVv (As := [.ref (gad G q2.1), .int x2, .int 4, .int x3, .int 0]) (rest := []) F S (c_X0_count l G q2.1 x2 4 x3 0 hk4 _ e6) (cw_X8_laziest_X0_count_171 hg) (S.obj (by decide) (by decide) rfl (oc_X0 _ _ _ (by decide))) rfl hl.1 rfl (Nat.le_of_ble_eq_true rfl) ⟨Nat.zero_le _, Nat.zero_le _⟩ dX8_laziest_31 (fun H locs  S => ?_)
      refine lv_iload hx hb dX8_laziest_34 (lv_at hl 6 rfl) ?_
      refine lv_if_eq (tgt := 52) hx hb dX8_laziest_36 (by decide) (fun c7 => ?_) (fun c7 => ?_)
      · have hz := ipt (c7) hz
        exact w_X8_laziest_52 F hr hlk ih x1 x2 x3 x7 _ _ _ _ S (lv_sub hl [0, 1, 2, 3, 6] rfl) hz
      · have hz := ipf (c7) hz
        refine lv_aload_n hx hb dX8_laziest_39 rfl (lv_at hl 0 rfl) ?_
        refine fg_X8_2 hx hb (fun q h => hg q (tl_X8 q h)) hown (hg _ t_fl_X8_49) S (by decide) dX8_laziest_40 ?_
        refine fg_X0_9 hx hb (fun q h => hg q (tl_X0 q h)) hown (hg _ t_fl_X8_175) S (by decide) dX8_laziest_43 ?_
        refine lv_lload hx hb dX8_laziest_46 (lv_at hl 5 rfl) ?_
        refine W.lcmp hx hb dX8_laziest_48 ?_
        refine lv_if_ge (tgt := 65) hx hb dX8_laziest_49 (by decide) (fun c8 => ?_) (fun c8 => ?_)
        · have hz := ipt ((lg_cmp_ge _ _).mp c8) hz
          exact w_X8_laziest_65 F hr hlk ih x1 x2 x3 x4 x5 x7 _ _ _ _ S (lv_sub hl [0, 1, 2, 3, 4, 5, 6] rfl) hz
        · have hz := ipf (fun q9 => c8 ((lg_cmp_ge _ _).mpr q9)) hz
          exact w_X8_laziest_52 F hr hlk ih x1 x2 x3 x7 _ _ _ _ S (lv_sub hl [0, 1, 2, 3, 6] rfl) hz
set_option maxHeartbeats 4000000 in
set_option maxRecDepth 100000 in
theorem c_X8_laziest (l : Launch) (G : GG) (x1 : Int32) (x2 : Int32) (x3 : Int32)  (w : GW) {z : Int32 × GW} (hz : f_X8_laziest x1 x2 x3 w = some z) : Met l yX8_laziest (wsU yX8_laziest cX8_laziest 8 (some .int)) rm_X8_laziest (va_Pc [.ref (gad G 0), .int x1, .int x2, .int x3] (PreG G w)) (QI G z) 0 0 (gA G) := by
  refine Met.ofW (cc := cX8_laziest) (maxL := 8) (ret := (some .int)) (by decide) rfl ?_
  intro p e s m args below meth c s₁ B hml hv
  obtain ⟨rfl, S⟩ := hv
  have F : CallFix p m c cX8_laziest 8 s _ (wsU yX8_laziest cX8_laziest 8 (some .int)) RX8 := ⟨B.exec, B.bytes, hml, findClass_of_methodNamed B.named, atoms_spec B.pre⟩
  have hr := B.returns
  have hlk := B.notSynchronized
  obtain ⟨hx, hb, -, hown, hts⟩ := id F
  have hg : ∀ q ∈ lwg, q.before _ s = true := fun q h => hts q (List.mem_cons_of_mem _ h)
  refine g_entry (Nat.le_of_ble_eq_true rfl) (fun ls hl => ?_)
  have hl : lv_has ls 8 [(0, .ref (gad G 0)), (1, .int x1), (2, .int x2), (3, .int x3)] := hl
  have S : St G w s s.heap [] := S
  generalize s.heap = H at S ⊢
  generalize ([] : List Loc) = locs at S ⊢
  rw [f_X8_laziest] at hz
  refine lv_iconst (v := 0) hx hb dX8_laziest_0 (by decide) ?_
  refine lv_istore (lv' := [(4, .int 0), (0, .ref (gad G 0)), (1, .int x1), (2, .int x2), (3, .int x3)]) hx hb dX8_laziest_1 hl (by decide) rfl (fun ls hl => ?_)
  refine lv_lconst (v := 0) hx hb dX8_laziest_3 (by decide) ?_
  refine lv_lstore (lv' := [(5, .long 0), (4, .int 0), (0, .ref (gad G 0)), (1, .int x1), (2, .int x2), (3, .int x3)]) hx hb dX8_laziest_4 hl (by decide) rfl (fun ls hl => ?_)
  refine lv_iconst (v := 0) hx hb dX8_laziest_6 (by decide) ?_
  refine lv_istore (lv' := [(7, .int 0), (5, .long 0), (4, .int 0), (0, .ref (gad G 0)), (1, .int x1), (2, .int x2), (3, .int x3)]) hx hb dX8_laziest_7 hl (by decide) rfl (fun ls hl => ?_)
  exact w_X8_laziest_9 F hr hlk fu x1 x2 x3 0 0 0 _ _ _ _ S (lv_sub hl [3, 4, 5, 6, 2, 1, 0] rfl) hz
noncomputable def f_X8_best (x1 : Int32) (x2 : Int32) (x3 : Int32) (w : GW) : Option (Int32 × GW) :=
  (f_X8_isBestRefused x1 x2 x3 w).bind fun q1 =>
  if q1.1 = 0 then
    (f_X8_laziest x1 x2 x3 q1.2).bind fun q5 =>
    (f_X8_fine q5.1 q5.2).bind fun q7 =>
    some (q7.1, q7.2)
  else
    some ((-1), q1.2)
set_option maxHeartbeats 4000000 in
set_option maxRecDepth 100000 in
theorem c_X8_best (l : Launch) (G : GG) (x1 : Int32) (x2 : Int32) (x3 : Int32)  (w : GW) {z : Int32 × GW} (hz : f_X8_best x1 x2 x3 w = some z) : Met l yX8_best (wsU yX8_best cX8_best 4 (some .int)) rm_X8_best (va_Pc [.ref (gad G 0), .int x1, .int x2, .int x3] (PreG G w)) (QI G z) 0 0 (gA G) := by
  refine Met.ofW (cc := cX8_best) (maxL := 4) (ret := (some .int)) (by decide) rfl ?_
  intro p e s m args below meth c s₁ B hml hv
  obtain ⟨rfl, S⟩ := hv
  have F : CallFix p m c cX8_best 4 s _ (wsU yX8_best cX8_best 4 (some .int)) RX8 := ⟨B.exec, B.bytes, hml, findClass_of_methodNamed B.named, atoms_spec B.pre⟩
  have hr := B.returns
  have hlk := B.notSynchronized
  obtain ⟨hx, hb, -, hown, hts⟩ := id F
  have hg : ∀ q ∈ lwg, q.before _ s = true := fun q h => hts q (List.mem_cons_of_mem _ h)
  refine g_entry (Nat.le_of_ble_eq_true rfl) (fun ls hl => ?_)
  have hl : lv_has ls 4 [(0, .ref (gad G 0)), (1, .int x1), (2, .int x2), (3, .int x3)] := hl
  have S : St G w s s.heap [] := S
  generalize s.heap = H at S ⊢
  generalize ([] : List Loc) = locs at S ⊢
  rw [f_X8_best] at hz
  refine lv_aload_n hx hb dX8_best_0 rfl (lv_at hl 0 rfl) ?_
  refine lv_iload_n hx hb dX8_best_1 rfl (lv_at hl 1 rfl) ?_
  refine lv_iload_n hx hb dX8_best_2 rfl (lv_at hl 2 rfl) ?_
  refine lv_iload_n hx hb dX8_best_3 rfl (lv_at hl 3 rfl) ?_
  obtain ⟨q1, e2, hz⟩ := bd hz
  refine g_callVb (As := [.int x1, .int x2, .int x3]) (rest := []) F S (c_X8_isBestRefused l G x1 x2 x3  _ e2) (cw_X8_best_X8_isBestRefused_198 hg) (S.obj (by decide) (by decide) rfl (oc_X8 _ _ _ (by decide))) rfl hl.1 rfl (Nat.le_of_ble_eq_true rfl) ⟨Nat.zero_le _, Nat.zero_le _⟩ dX8_best_4 (fun H locs hB3 S => ?_)
  refine lv_if_eq (tgt := 12) hx hb dX8_best_7 (by decide) (fun c4 => ?_) (fun c4 => ?_)
  · have hz := ipt (c4) hz
    refine lv_aload_n hx hb dX8_best_12 rfl (lv_at hl 0 rfl) ?_
    refine lv_aload_n hx hb dX8_best_13 rfl (lv_at hl 0 rfl) ?_
    refine lv_iload_n hx hb dX8_best_14 rfl (lv_at hl 1 rfl) ?_
    refine lv_iload_n hx hb dX8_best_15 rfl (lv_at hl 2 rfl) ?_
    refine lv_iload_n hx hb dX8_best_16 rfl (lv_at hl 3 rfl) ?_
    obtain ⟨q5, e6, hz⟩ := bd hz
    refine g_callVi (As := [.int x1, .int x2, .int x3]) (rest := [.ref (gad G 0)]) F S (c_X8_laziest l G x1 x2 x3  _ e6) (cw_X8_best_X8_laziest_202 hg) (S.obj (by decide) (by decide) rfl (oc_X8 _ _ _ (by decide))) rfl hl.1 rfl (Nat.le_of_ble_eq_true rfl) ⟨Nat.zero_le _, Nat.zero_le _⟩ dX8_best_17 (fun H locs  S => ?_)
    obtain ⟨q7, e8, hz⟩ := bd hz
    refine g_callVi (As := [.int q5.1]) (rest := []) F S (c_X8_fine l G q5.1  _ e8) (cw_X8_best_X8_fine_112 hg) (S.obj (by decide) (by decide) rfl (oc_X8 _ _ _ (by decide))) rfl hl.1 rfl (Nat.le_of_ble_eq_true rfl) ⟨Nat.zero_le _, Nat.zero_le _⟩ dX8_best_20 (fun H locs  S => ?_)
    exact g_reti hx hb hr hlk S hz dX8_best_23
  · have hz := ipf (c4) hz
    refine lv_iconst (v := (-1)) hx hb dX8_best_10 (by decide) ?_
    exact g_reti hx hb hr hlk S hz dX8_best_11
noncomputable def f_X8_bestChance (x1 : Int32) (x2 : Int32) (x3 : Int32) (x4 : Int32) (w : GW) : Option (Int64 × GW) :=
  (f_X8_isBestRefused x1 x2 x3 w).bind fun q1 =>
  if q1.1 = 0 then
    (f_X8_laziest x1 x2 x3 q1.2).bind fun q5 =>
    (f_X8_ofLazy x1 q5.1 q5.2).bind fun q7 =>
    (f_X0_count q7.1 x2 4 x3 0 q7.2).bind fun q10 =>
    (f_X8_told (gL q10.2 72 9) (gL q10.2 72 10) x4 q10.2).bind fun q12 =>
    some (q12.1, q12.2)
  else
    some ((-1), q1.2)
set_option maxHeartbeats 4000000 in
set_option maxRecDepth 100000 in
theorem c_X8_bestChance (l : Launch) (G : GG) (x1 : Int32) (x2 : Int32) (x3 : Int32) (x4 : Int32)  (w : GW) {z : Int64 × GW} (hz : f_X8_bestChance x1 x2 x3 x4 w = some z) : Met l yX8_bestChance (wsU yX8_bestChance cX8_bestChance 6 (some .long)) rm_X8_bestChance (va_Pc [.ref (gad G 0), .int x1, .int x2, .int x3, .int x4] (PreG G w)) (QL G z) 0 0 (gA G) := by
  refine Met.ofW (cc := cX8_bestChance) (maxL := 6) (ret := (some .long)) (by decide) rfl ?_
  intro p e s m args below meth c s₁ B hml hv
  obtain ⟨rfl, S⟩ := hv
  have F : CallFix p m c cX8_bestChance 6 s _ (wsU yX8_bestChance cX8_bestChance 6 (some .long)) RX8 := ⟨B.exec, B.bytes, hml, findClass_of_methodNamed B.named, atoms_spec B.pre⟩
  have hr := B.returns
  have hlk := B.notSynchronized
  obtain ⟨hx, hb, -, hown, hts⟩ := id F
  have hg : ∀ q ∈ lwg, q.before _ s = true := fun q h => hts q (List.mem_cons_of_mem _ h)
  refine g_entry (Nat.le_of_ble_eq_true rfl) (fun ls hl => ?_)
  have hl : lv_has ls 6 [(0, .ref (gad G 0)), (1, .int x1), (2, .int x2), (3, .int x3), (4, .int x4)] := hl
  have S : St G w s s.heap [] := S
  generalize s.heap = H at S ⊢
  generalize ([] : List Loc) = locs at S ⊢
  rw [f_X8_bestChance] at hz
  refine lv_aload_n hx hb dX8_bestChance_0 rfl (lv_at hl 0 rfl) ?_
  refine lv_iload_n hx hb dX8_bestChance_1 rfl (lv_at hl 1 rfl) ?_
  refine lv_iload_n hx hb dX8_bestChance_2 rfl (lv_at hl 2 rfl) ?_
  refine lv_iload_n hx hb dX8_bestChance_3 rfl (lv_at hl 3 rfl) ?_
  obtain ⟨q1, e2, hz⟩ := bd hz
  refine g_callVb (As := [.int x1, .int x2, .int x3]) (rest := []) F S (c_X8_isBestRefused l G x1 x2 x3  _ e2) (cw_X8_bestChance_X8_isBestRefused_198 hg) (S.obj (by decide) (by decide) rfl (oc_X8 _ _ _ (by decide))) rfl hl.1 rfl (Nat.le_of_ble_eq_true rfl) ⟨Nat.zero_le _, Nat.zero_le _⟩ dX8_bestChance_4 (fun H locs hB3 S => ?_)
  refine lv_if_eq (tgt := 14) hx hb dX8_bestChance_7 (by decide) (fun c4 => ?_) (fun c4 => ?_)
  · have hz := ipt (c4) hz
    refine lv_aload_n hx hb dX8_bestChance_14 rfl (lv_at hl 0 rfl) ?_
    refine lv_iload_n hx hb dX8_bestChance_15 rfl (lv_at hl 1 rfl) ?_
    refine lv_iload_n hx hb dX8_bestChance_16 rfl (lv_at hl 2 rfl) ?_
    refine lv_iload_n hx hb dX8_bestChance_17 rfl (lv_at hl 3 rfl) ?_
    obtain ⟨q5, e6, hz⟩ := bd hz
    refine g_callVi (As := [.int x1, .int x2, .int x3]) (rest := []) F S (c_X8_laziest l G x1 x2 x3  _ e6) (cw_X8_bestChance_X8_laziest_202 hg) (S.obj (by decide) (by decide) rfl (oc_X8 _ _ _ (by decide))) rfl hl.1 rfl (Nat.le_of_ble_eq_true rfl) ⟨Nat.zero_le _, Nat.zero_le _⟩ dX8_bestChance_18 (fun H locs  S => ?_)
    refine lv_istore (lv' := [(5, .int q5.1), (0, .ref (gad G 0)), (1, .int x1), (2, .int x2), (3, .int x3), (4, .int x4)]) hx hb dX8_bestChance_21 hl (by decide) rfl (fun ls hl => ?_)
    refine lv_aload_n hx hb dX8_bestChance_23 rfl (lv_at hl 1 rfl) ?_
    refine fg_X8_2 hx hb (fun q h => hg q (tl_X8 q h)) hown (hg _ t_fl_X8_49) S (by decide) dX8_bestChance_24 ?_
    refine lv_aload_n hx hb dX8_bestChance_27 rfl (lv_at hl 1 rfl) ?_
    refine lv_iload_n hx hb dX8_bestChance_28 rfl (lv_at hl 2 rfl) ?_
    refine lv_iload hx hb dX8_bestChance_29 (lv_at hl 0 rfl) ?_
    obtain ⟨q7, e8, hz⟩ := bd hz
    refine g_callVr (As := [.int x1, .int q5.1]) (rest := [.ref (gad G 72)]) F S (c_X8_ofLazy l G x1 q5.1  _ e8) (cw_X8_bestChance_X8_ofLazy_208 hg) (S.obj (by decide) (by decide) rfl (oc_X8 _ _ _ (by decide))) rfl hl.1 rfl (Nat.le_of_ble_eq_true rfl) ⟨Nat.zero_le _, Nat.zero_le _⟩ dX8_bestChance_31 (fun H locs hk9 S => ?_)
    refine lv_iload_n hx hb dX8_bestChance_34 rfl (lv_at hl 3 rfl) ?_
    refine lv_iconst (v := 4) hx hb dX8_bestChance_35 (by decide) ?_
    refine lv_iload_n hx hb dX8_bestChance_36 rfl (lv_at hl 4 rfl) ?_
    refine lv_iconst (v := 0) hx hb dX8_bestChance_37 (by decide) ?_
    obtain ⟨q10, e11, hz⟩ := bd hz
    refine g_callVv (As := [.ref (gad G q7.1), .int x2, .int 4, .int x3, .int 0]) (rest := []) F S (c_X0_count l G q7.1 x2 4 x3 0 hk9 _ e11) (cw_X8_bestChance_X0_count_171 hg) (S.obj (by decide) (by decide) rfl (oc_X0 _ _ _ (by decide))) rfl hl.1 rfl (Nat.le_of_ble_eq_true rfl) ⟨Nat.zero_le _, Nat.zero_le _⟩ dX8_bestChance_38 (fun H locs  S => ?_)
    refine lv_aload_n hx hb dX8_bestChance_41 rfl (lv_at hl 1 rfl) ?_
    refine lv_aload_n hx hb dX8_bestChance_42 rfl (lv_at hl 1 rfl) ?_
    refine fg_X8_2 hx hb (fun q h => hg q (tl_X8 q h)) hown (hg _ t_fl_X8_49) S (by decide) dX8_bestChance_43 ?_
    refine fg_X0_9 hx hb (fun q h => hg q (tl_X0 q h)) hown (hg _ t_fl_X8_175) S (by decide) dX8_bestChance_46 ?_
    refine lv_aload_n hx hb dX8_bestChance_49 rfl (lv_at hl 1 rfl) ?_
    refine fg_X8_2 hx hb (fun q h => hg q (tl_X8 q h)) hown (hg _ t_fl_X8_49) S (by decide) dX8_bestChance_50 ?_
    refine fg_X0_10 hx hb (fun q h => hg q (tl_X0 q h)) hown (hg _ t_fl_X8_179) S (by decide) dX8_bestChance_53 ?_
    refine lv_iload hx hb dX8_bestChance_56 (lv_at hl 5 rfl) ?_
    obtain ⟨q12, e13, hz⟩ := bd hz
    refine g_callVl (As := [.long (gL q10.2 72 9), .long (gL q10.2 72 10), .int x4]) (rest := []) F S (c_X8_told l G (gL q10.2 72 9) (gL q10.2 72 10) x4  _ e13) (cw_X8_bestChance_X8_told_212 hg) (S.obj (by decide) (by decide) rfl (oc_X8 _ _ _ (by decide))) rfl hl.1 rfl (Nat.le_of_ble_eq_true rfl) ⟨Nat.zero_le _, Nat.zero_le _⟩ dX8_bestChance_58 (fun H locs  S => ?_)
    exact g_retl hx hb hr hlk S hz dX8_bestChance_61
  · have hz := ipf (c4) hz
    refine lv_ldc2 (v := (-1)) hx hb hown (hg _ t_cl_X8_206) dX8_bestChance_10 ?_
    exact g_retl hx hb hr hlk S hz dX8_bestChance_13
