noncomputable def f_X9_layApart_7  : Nat → Int32 → Int32 → Int32 → GW → Option (Unit × GW)
  | 0, _, _, _, _ => none
  | n9 + 1, x1, x2, x3, w =>
    if 5 ≤ x3 then
      some ((), (sI w 130 22 ((x1 / 59049) - 1)))
    else
      if inb x3 5 then
      f_X9_layApart_7 n9 x1 (x2 / 9) (x3 + 1) (sI w 137 (ix x3) (irm x2 9))
      else none
noncomputable def f_X9_layApart (x1 : Int32) (w : GW) : Option (Unit × GW) :=
  f_X9_layApart_7 fu x1 (irm x1 59049) 0 w
set_option maxHeartbeats 4000000 in
set_option maxRecDepth 100000 in
theorem w_X9_layApart_7 {p : Program} {l : Launch} {e : Env} {s : State} {m : MethodId} {args : Array Value} {below : List Frame} {meth : Method} {c : Code} {G : GG} (F : CallFix p m c cX9_layApart 4 s args (wsU yX9_layApart cX9_layApart 4 none) RX9) (hr : meth.sig.returnType = none) (hlk : meth.locks = false) {z : Unit × GW} : ∀ (n9 : Nat), (∀ (x1 : Int32) (x2 : Int32) (x3 : Int32) (w : GW) (H : Heap) (locs : List Loc) (ls : Array Slot), St G w s H locs → lv_has ls 4 [(0, .ref (gad G 130)), (1, .int x1), (2, .int x2), (3, .int x3)] → f_X9_layApart_7 n9 x1 x2 x3 w = some z → W p l e (headSpec (wsU yX9_layApart cX9_layApart 4 none) rm_X9_layApart).room s m args below meth c H locs 0 0 (MQ below (QV G z) args s 0 0 (gA G)) (F0 m 7 ls [])) := by
  obtain ⟨hx, hb, hml, hown, hts⟩ := id F
  have hg : ∀ q ∈ lwg, q.before args s = true := fun q h => hts q (List.mem_cons_of_mem _ h)
  intro n9
  induction n9 with
  | zero =>
    intro x1 x2 x3 w H locs ls S hl hz
    rw [f_X9_layApart_7] at hz
    cases hz
  | succ n9 ih =>
    intro x1 x2 x3 w H locs ls S hl hz
    rw [f_X9_layApart_7] at hz
    refine lv_iload_n hx hb dX9_layApart_7 rfl (lv_at hl 3 rfl) ?_
    refine lv_iconst (v := 5) hx hb dX9_layApart_8 (by decide) ?_
    refine lv_icmp_ge (tgt := 33) hx hb dX9_layApart_9 (by decide) (fun c1 => ?_) (fun c1 => ?_)
    · have hz := ipt (c1) hz
      refine lv_aload_n hx hb dX9_layApart_33 rfl (lv_at hl 0 rfl) ?_
      refine lv_iload_n hx hb dX9_layApart_34 rfl (lv_at hl 1 rfl) ?_
      refine lv_ldc (v := 59049) hx hb hown (hg _ t_ci_X9_227) dX9_layApart_35 ?_
      refine g_idiv hx hb dX9_layApart_37 (by decide) ?_
      refine lv_iconst (v := 1) hx hb dX9_layApart_38 (by decide) ?_
      refine lv_isub hx hb dX9_layApart_39 ?_
      refine fp_X9_22 (v := ((x1 / 59049) - 1)) hx hb (fun q h => hg q (tl_X9 q h)) hown (hg _ t_fl_X9_228) S (by decide) dX9_layApart_40 (fun H locs S => ?_)
      exact g_retv hx hb hr hlk S hz dX9_layApart_43
    · have hz := ipf (c1) hz
      refine lv_aload_n hx hb dX9_layApart_12 rfl (lv_at hl 0 rfl) ?_
      refine fg_X9_20 hx hb (fun q h => hg q (tl_X9 q h)) hown (hg _ t_fl_X9_32) S (by decide) dX9_layApart_13 ?_
      refine lv_iload_n hx hb dX9_layApart_16 rfl (lv_at hl 3 rfl) ?_
      refine lv_iload_n hx hb dX9_layApart_17 rfl (lv_at hl 2 rfl) ?_
      refine lv_bipush (v := 9) hx hb dX9_layApart_18 (by decide) ?_
      refine g_irem hx hb dX9_layApart_20 (by decide) ?_
      obtain ⟨h2, hz⟩ := ck hz
      refine g_iast (x := (irm x2 9)) hx hb S (isA_10 (by decide)) h2 dX9_layApart_21 (fun H locs S => ?_)
      refine lv_iload_n hx hb dX9_layApart_22 rfl (lv_at hl 2 rfl) ?_
      refine lv_bipush (v := 9) hx hb dX9_layApart_23 (by decide) ?_
      refine g_idiv hx hb dX9_layApart_25 (by decide) ?_
      refine lv_istore_n (lv' := [(2, .int (x2 / 9)), (0, .ref (gad G 130)), (1, .int x1), (3, .int x3)]) hx hb dX9_layApart_26 rfl hl (by decide) rfl (fun ls hl => ?_)
      refine lv_iinc (v := (x3 + 1)) (lv' := [(3, .int (x3 + 1)), (2, .int (x2 / 9)), (0, .ref (gad G 130)), (1, .int x1)]) hx hb dX9_layApart_27 hl (k := 3) rfl rfl (by decide) rfl (fun ls hl => ?_)
      refine lv_goto (tgt := 7) hx hb dX9_layApart_30 (by decide) ?_
      exact ih x1 (x2 / 9) (x3 + 1)  _ _ _ _ S (lv_sub hl [2, 3, 1, 0] rfl) hz
set_option maxHeartbeats 4000000 in
set_option maxRecDepth 100000 in
theorem c_X9_layApart (l : Launch) (G : GG) (x1 : Int32)  (w : GW) {z : Unit × GW} (hz : f_X9_layApart x1 w = some z) : Met l yX9_layApart (wsU yX9_layApart cX9_layApart 4 none) rm_X9_layApart (va_Pc [.ref (gad G 130), .int x1] (PreG G w)) (QV G z) 0 0 (gA G) := by
  refine Met.ofW (cc := cX9_layApart) (maxL := 4) (ret := none) (by decide) rfl ?_
  intro p e s m args below meth c s₁ B hml hv
  obtain ⟨rfl, S⟩ := hv
  have F : CallFix p m c cX9_layApart 4 s _ (wsU yX9_layApart cX9_layApart 4 none) RX9 := ⟨B.exec, B.bytes, hml, findClass_of_methodNamed B.named, atoms_spec B.pre⟩
  have hr := B.returns
  have hlk := B.notSynchronized
  obtain ⟨hx, hb, -, hown, hts⟩ := id F
  have hg : ∀ q ∈ lwg, q.before _ s = true := fun q h => hts q (List.mem_cons_of_mem _ h)
  refine g_entry (Nat.le_of_ble_eq_true rfl) (fun ls hl => ?_)
  have hl : lv_has ls 4 [(0, .ref (gad G 130)), (1, .int x1)] := hl
  have S : St G w s s.heap [] := S
  generalize s.heap = H at S ⊢
  generalize ([] : List Loc) = locs at S ⊢
  rw [f_X9_layApart] at hz
  refine lv_iload_n hx hb dX9_layApart_0 rfl (lv_at hl 1 rfl) ?_
  refine lv_ldc (v := 59049) hx hb hown (hg _ t_ci_X9_227) dX9_layApart_1 ?_
  refine g_irem hx hb dX9_layApart_3 (by decide) ?_
  refine lv_istore_n (lv' := [(2, .int (irm x1 59049)), (0, .ref (gad G 130)), (1, .int x1)]) hx hb dX9_layApart_4 rfl hl (by decide) rfl (fun ls hl => ?_)
  refine lv_iconst (v := 0) hx hb dX9_layApart_5 (by decide) ?_
  refine lv_istore_n (lv' := [(3, .int 0), (2, .int (irm x1 59049)), (0, .ref (gad G 130)), (1, .int x1)]) hx hb dX9_layApart_6 rfl hl (by decide) rfl (fun ls hl => ?_)
  exact w_X9_layApart_7 F hr hlk fu x1 (irm x1 59049) 0 _ _ _ _ S (lv_sub hl [2, 3, 1, 0] rfl) hz
noncomputable def f_X9_together_4  : Nat → Int32 → Int32 → GW → Option (Int32 × GW)
  | 0, _, _, _ => none
  | n9 + 1, x1, x2, w =>
    if x2 < 0 then
      some ((x1 + (59049 * ((gI w 130 22) + 1))), w)
    else
      if inb x2 5 then
      f_X9_together_4 n9 ((9 * x1) + (gI w 137 (ix x2))) (x2 + (-1)) w
      else none
noncomputable def f_X9_together  (w : GW) : Option (Int32 × GW) :=
  f_X9_together_4 fu 0 4 w
set_option maxHeartbeats 4000000 in
set_option maxRecDepth 100000 in
theorem w_X9_together_4 {p : Program} {l : Launch} {e : Env} {s : State} {m : MethodId} {args : Array Value} {below : List Frame} {meth : Method} {c : Code} {G : GG} (F : CallFix p m c cX9_together 3 s args (wsU yX9_together cX9_together 3 (some .int)) RX9) (hr : meth.sig.returnType = (some .int)) (hlk : meth.locks = false) {z : Int32 × GW} : ∀ (n9 : Nat), (∀ (x1 : Int32) (x2 : Int32) (w : GW) (H : Heap) (locs : List Loc) (ls : Array Slot), St G w s H locs → lv_has ls 3 [(0, .ref (gad G 130)), (1, .int x1), (2, .int x2)] → f_X9_together_4 n9 x1 x2 w = some z → W p l e (headSpec (wsU yX9_together cX9_together 3 (some .int)) rm_X9_together).room s m args below meth c H locs 0 0 (MQ below (QI G z) args s 0 0 (gA G)) (F0 m 4 ls [])) := by
  obtain ⟨hx, hb, hml, hown, hts⟩ := id F
  have hg : ∀ q ∈ lwg, q.before args s = true := fun q h => hts q (List.mem_cons_of_mem _ h)
  intro n9
  induction n9 with
  | zero =>
    intro x1 x2 w H locs ls S hl hz
    rw [f_X9_together_4] at hz
    cases hz
  | succ n9 ih =>
    intro x1 x2 w H locs ls S hl hz
    rw [f_X9_together_4] at hz
    refine lv_iload_n hx hb dX9_together_4 rfl (lv_at hl 2 rfl) ?_
    refine lv_if_lt (tgt := 26) hx hb dX9_together_5 (by decide) (fun c1 => ?_) (fun c1 => ?_)
    · have hz := ipt (c1) hz
      refine lv_iload_n hx hb dX9_together_26 rfl (lv_at hl 1 rfl) ?_
      refine lv_ldc (v := 59049) hx hb hown (hg _ t_ci_X9_227) dX9_together_27 ?_
      refine lv_aload_n hx hb dX9_together_29 rfl (lv_at hl 0 rfl) ?_
      refine fg_X9_22 hx hb (fun q h => hg q (tl_X9 q h)) hown (hg _ t_fl_X9_228) S (by decide) dX9_together_30 ?_
      refine lv_iconst (v := 1) hx hb dX9_together_33 (by decide) ?_
      refine lv_iadd hx hb dX9_together_34 ?_
      refine lv_imul hx hb dX9_together_35 ?_
      refine lv_iadd hx hb dX9_together_36 ?_
      exact g_reti hx hb hr hlk S hz dX9_together_37
    · have hz := ipf (c1) hz
      refine lv_bipush (v := 9) hx hb dX9_together_8 (by decide) ?_
      refine lv_iload_n hx hb dX9_together_10 rfl (lv_at hl 1 rfl) ?_
      refine lv_imul hx hb dX9_together_11 ?_
      refine lv_aload_n hx hb dX9_together_12 rfl (lv_at hl 0 rfl) ?_
      refine fg_X9_20 hx hb (fun q h => hg q (tl_X9 q h)) hown (hg _ t_fl_X9_32) S (by decide) dX9_together_13 ?_
      refine lv_iload_n hx hb dX9_together_16 rfl (lv_at hl 2 rfl) ?_
      obtain ⟨h2, hz⟩ := ck hz
      refine g_iald hx hb S (isA_10 (by decide)) h2 dX9_together_17 ?_
      refine lv_iadd hx hb dX9_together_18 ?_
      refine lv_istore_n (lv' := [(1, .int ((9 * x1) + (gI w 137 (ix x2)))), (0, .ref (gad G 130)), (2, .int x2)]) hx hb dX9_together_19 rfl hl (by decide) rfl (fun ls hl => ?_)
      refine lv_iinc (v := (x2 + (-1))) (lv' := [(2, .int (x2 + (-1))), (1, .int ((9 * x1) + (gI w 137 (ix x2)))), (0, .ref (gad G 130))]) hx hb dX9_together_20 hl (k := 2) rfl (by rw [show Int32.ofInt (-1) = (-1) from by decide]) (by decide) rfl (fun ls hl => ?_)
      refine lv_goto (tgt := 4) hx hb dX9_together_23 (by decide) ?_
      exact ih ((9 * x1) + (gI w 137 (ix x2))) (x2 + (-1))  _ _ _ _ S (lv_sub hl [2, 1, 0] rfl) hz
set_option maxHeartbeats 4000000 in
set_option maxRecDepth 100000 in
theorem c_X9_together (l : Launch) (G : GG)   (w : GW) {z : Int32 × GW} (hz : f_X9_together  w = some z) : Met l yX9_together (wsU yX9_together cX9_together 3 (some .int)) rm_X9_together (va_Pc [.ref (gad G 130)] (PreG G w)) (QI G z) 0 0 (gA G) := by
  refine Met.ofW (cc := cX9_together) (maxL := 3) (ret := (some .int)) (by decide) rfl ?_
  intro p e s m args below meth c s₁ B hml hv
  obtain ⟨rfl, S⟩ := hv
  have F : CallFix p m c cX9_together 3 s _ (wsU yX9_together cX9_together 3 (some .int)) RX9 := ⟨B.exec, B.bytes, hml, findClass_of_methodNamed B.named, atoms_spec B.pre⟩
  have hr := B.returns
  have hlk := B.notSynchronized
  obtain ⟨hx, hb, -, hown, hts⟩ := id F
  have hg : ∀ q ∈ lwg, q.before _ s = true := fun q h => hts q (List.mem_cons_of_mem _ h)
  refine g_entry (Nat.le_of_ble_eq_true rfl) (fun ls hl => ?_)
  have hl : lv_has ls 3 [(0, .ref (gad G 130))] := hl
  have S : St G w s s.heap [] := S
  generalize s.heap = H at S ⊢
  generalize ([] : List Loc) = locs at S ⊢
  rw [f_X9_together] at hz
  refine lv_iconst (v := 0) hx hb dX9_together_0 (by decide) ?_
  refine lv_istore_n (lv' := [(1, .int 0), (0, .ref (gad G 130))]) hx hb dX9_together_1 rfl hl (by decide) rfl (fun ls hl => ?_)
  refine lv_iconst (v := 4) hx hb dX9_together_2 (by decide) ?_
  refine lv_istore_n (lv' := [(2, .int 4), (1, .int 0), (0, .ref (gad G 130))]) hx hb dX9_together_3 rfl hl (by decide) rfl (fun ls hl => ?_)
  exact w_X9_together_4 F hr hlk fu 0 4 _ _ _ _ S (lv_sub hl [2, 1, 0] rfl) hz
noncomputable def f_X9_goesTo_4  : Nat → Int32 → Int32 → GW → Option (Int32 × GW)
  | 0, _, _, _ => none
  | n9 + 1, x2, x3, w =>
    if inb 0 135 then
    if (gI w 133 (ix 0)) ≤ x3 then
      some ((-1), w)
    else
      if inb x2 5 then
      if inb (2 + x2) 135 then
      if (gI w 133 (ix (2 + x2))) ≤ (gI w 137 (ix x2)) then
        if inb 0 135 then
        if ¬ (gI w 133 (ix 0)) = 0 then
        f_X9_goesTo_4 n9 (irm (x2 + 1) (gI w 133 (ix 0))) (x3 + 1) w
        else none
        else none
      else
        if inb x2 5 then
        if inb x2 5 then
        some (x2, (sI w 137 (ix x2) ((gI w 137 (ix x2)) + 1)))
        else none
        else none
      else none
      else none
    else none
noncomputable def f_X9_goesTo (x1 : Int32) (w : GW) : Option (Int32 × GW) :=
  f_X9_goesTo_4 fu x1 0 w
set_option maxHeartbeats 4000000 in
set_option maxRecDepth 100000 in
theorem w_X9_goesTo_4 {p : Program} {l : Launch} {e : Env} {s : State} {m : MethodId} {args : Array Value} {below : List Frame} {meth : Method} {c : Code} {G : GG} (F : CallFix p m c cX9_goesTo 4 s args (wsU yX9_goesTo cX9_goesTo 4 (some .int)) RX9) (hr : meth.sig.returnType = (some .int)) (hlk : meth.locks = false) {z : Int32 × GW} : ∀ (n9 : Nat), (∀ (x2 : Int32) (x3 : Int32) (w : GW) (H : Heap) (locs : List Loc) (ls : Array Slot), St G w s H locs → lv_has ls 4 [(0, .ref (gad G 130)), (2, .int x2), (3, .int x3)] → f_X9_goesTo_4 n9 x2 x3 w = some z → W p l e (headSpec (wsU yX9_goesTo cX9_goesTo 4 (some .int)) rm_X9_goesTo).room s m args below meth c H locs 0 0 (MQ below (QI G z) args s 0 0 (gA G)) (F0 m 4 ls [])) := by
  obtain ⟨hx, hb, hml, hown, hts⟩ := id F
  have hg : ∀ q ∈ lwg, q.before args s = true := fun q h => hts q (List.mem_cons_of_mem _ h)
  intro n9
  induction n9 with
  | zero =>
    intro x2 x3 w H locs ls S hl hz
    rw [f_X9_goesTo_4] at hz
    cases hz
  | succ n9 ih =>
    intro x2 x3 w H locs ls S hl hz
    rw [f_X9_goesTo_4] at hz
    refine lv_iload_n hx hb dX9_goesTo_4 rfl (lv_at hl 2 rfl) ?_
    refine lv_aload_n hx hb dX9_goesTo_5 rfl (lv_at hl 0 rfl) ?_
    refine fg_X9_15 hx hb (fun q h => hg q (tl_X9 q h)) hown (hg _ t_fl_X9_20) S (by decide) dX9_goesTo_6 ?_
    refine lv_iconst (v := 0) hx hb dX9_goesTo_9 (by decide) ?_
    obtain ⟨h1, hz⟩ := ck hz
    refine g_iald hx hb S (isA_15 (by decide)) h1 dX9_goesTo_10 ?_
    refine lv_icmp_ge (tgt := 60) hx hb dX9_goesTo_11 (by decide) (fun c2 => ?_) (fun c2 => ?_)
    · have hz := ipt (c2) hz
      refine lv_iconst (v := (-1)) hx hb dX9_goesTo_60 (by decide) ?_
      exact g_reti hx hb hr hlk S hz dX9_goesTo_61
    · have hz := ipf (c2) hz
      refine lv_aload_n hx hb dX9_goesTo_14 rfl (lv_at hl 0 rfl) ?_
      refine fg_X9_20 hx hb (fun q h => hg q (tl_X9 q h)) hown (hg _ t_fl_X9_32) S (by decide) dX9_goesTo_15 ?_
      refine lv_iload_n hx hb dX9_goesTo_18 rfl (lv_at hl 1 rfl) ?_
      obtain ⟨h3, hz⟩ := ck hz
      refine g_iald hx hb S (isA_10 (by decide)) h3 dX9_goesTo_19 ?_
      refine lv_aload_n hx hb dX9_goesTo_20 rfl (lv_at hl 0 rfl) ?_
      refine fg_X9_15 hx hb (fun q h => hg q (tl_X9 q h)) hown (hg _ t_fl_X9_20) S (by decide) dX9_goesTo_21 ?_
      refine lv_iconst (v := 2) hx hb dX9_goesTo_24 (by decide) ?_
      refine lv_iload_n hx hb dX9_goesTo_25 rfl (lv_at hl 1 rfl) ?_
      refine lv_iadd hx hb dX9_goesTo_26 ?_
      obtain ⟨h4, hz⟩ := ck hz
      refine g_iald hx hb S (isA_15 (by decide)) h4 dX9_goesTo_27 ?_
      refine lv_icmp_ge (tgt := 43) hx hb dX9_goesTo_28 (by decide) (fun c5 => ?_) (fun c5 => ?_)
      · have hz := ipt (c5) hz
        refine lv_iload_n hx hb dX9_goesTo_43 rfl (lv_at hl 1 rfl) ?_
        refine lv_iconst (v := 1) hx hb dX9_goesTo_44 (by decide) ?_
        refine lv_iadd hx hb dX9_goesTo_45 ?_
        refine lv_aload_n hx hb dX9_goesTo_46 rfl (lv_at hl 0 rfl) ?_
        refine fg_X9_15 hx hb (fun q h => hg q (tl_X9 q h)) hown (hg _ t_fl_X9_20) S (by decide) dX9_goesTo_47 ?_
        refine lv_iconst (v := 0) hx hb dX9_goesTo_50 (by decide) ?_
        obtain ⟨h6, hz⟩ := ck hz
        refine g_iald hx hb S (isA_15 (by decide)) h6 dX9_goesTo_51 ?_
        obtain ⟨h7, hz⟩ := ck hz
        refine g_irem hx hb dX9_goesTo_52 h7 ?_
        refine lv_istore_n (lv' := [(2, .int (irm (x2 + 1) (gI w 133 (ix 0)))), (0, .ref (gad G 130)), (3, .int x3)]) hx hb dX9_goesTo_53 rfl hl (by decide) rfl (fun ls hl => ?_)
        refine lv_iinc (v := (x3 + 1)) (lv' := [(3, .int (x3 + 1)), (2, .int (irm (x2 + 1) (gI w 133 (ix 0)))), (0, .ref (gad G 130))]) hx hb dX9_goesTo_54 hl (k := 2) rfl rfl (by decide) rfl (fun ls hl => ?_)
        refine lv_goto (tgt := 4) hx hb dX9_goesTo_57 (by decide) ?_
        exact ih (irm (x2 + 1) (gI w 133 (ix 0))) (x3 + 1)  _ _ _ _ S (lv_sub hl [2, 1, 0] rfl) hz
      · have hz := ipf (c5) hz
        refine lv_aload_n hx hb dX9_goesTo_31 rfl (lv_at hl 0 rfl) ?_
        refine fg_X9_20 hx hb (fun q h => hg q (tl_X9 q h)) hown (hg _ t_fl_X9_32) S (by decide) dX9_goesTo_32 ?_
        refine lv_iload_n hx hb dX9_goesTo_35 rfl (lv_at hl 1 rfl) ?_
        refine lv_dup2_11 hx hb dX9_goesTo_36 rfl rfl ?_
        obtain ⟨h8, hz⟩ := ck hz
        refine g_iald hx hb S (isA_10 (by decide)) h8 dX9_goesTo_37 ?_
        refine lv_iconst (v := 1) hx hb dX9_goesTo_38 (by decide) ?_
        refine lv_iadd hx hb dX9_goesTo_39 ?_
        obtain ⟨h9, hz⟩ := ck hz
        refine g_iast (x := ((gI w 137 (ix x2)) + 1)) hx hb S (isA_10 (by decide)) h9 dX9_goesTo_40 (fun H locs S => ?_)
        refine lv_iload_n hx hb dX9_goesTo_41 rfl (lv_at hl 1 rfl) ?_
        exact g_reti hx hb hr hlk S hz dX9_goesTo_42
set_option maxHeartbeats 4000000 in
set_option maxRecDepth 100000 in
theorem c_X9_goesTo (l : Launch) (G : GG) (x1 : Int32)  (w : GW) {z : Int32 × GW} (hz : f_X9_goesTo x1 w = some z) : Met l yX9_goesTo (wsU yX9_goesTo cX9_goesTo 4 (some .int)) rm_X9_goesTo (va_Pc [.ref (gad G 130), .int x1] (PreG G w)) (QI G z) 0 0 (gA G) := by
  refine Met.ofW (cc := cX9_goesTo) (maxL := 4) (ret := (some .int)) (by decide) rfl ?_
  intro p e s m args below meth c s₁ B hml hv
  obtain ⟨rfl, S⟩ := hv
  have F : CallFix p m c cX9_goesTo 4 s _ (wsU yX9_goesTo cX9_goesTo 4 (some .int)) RX9 := ⟨B.exec, B.bytes, hml, findClass_of_methodNamed B.named, atoms_spec B.pre⟩
  have hr := B.returns
  have hlk := B.notSynchronized
  obtain ⟨hx, hb, -, hown, hts⟩ := id F
  have hg : ∀ q ∈ lwg, q.before _ s = true := fun q h => hts q (List.mem_cons_of_mem _ h)
  refine g_entry (Nat.le_of_ble_eq_true rfl) (fun ls hl => ?_)
  have hl : lv_has ls 4 [(0, .ref (gad G 130)), (1, .int x1)] := hl
  have S : St G w s s.heap [] := S
  generalize s.heap = H at S ⊢
  generalize ([] : List Loc) = locs at S ⊢
  rw [f_X9_goesTo] at hz
  refine lv_iload_n hx hb dX9_goesTo_0 rfl (lv_at hl 1 rfl) ?_
  refine lv_istore_n (lv' := [(2, .int x1), (0, .ref (gad G 130)), (1, .int x1)]) hx hb dX9_goesTo_1 rfl hl (by decide) rfl (fun ls hl => ?_)
  refine lv_iconst (v := 0) hx hb dX9_goesTo_2 (by decide) ?_
  refine lv_istore_n (lv' := [(3, .int 0), (2, .int x1), (0, .ref (gad G 130)), (1, .int x1)]) hx hb dX9_goesTo_3 rfl hl (by decide) rfl (fun ls hl => ?_)
  exact w_X9_goesTo_4 F hr hlk fu x1 0 _ _ _ _ S (lv_sub hl [2, 1, 0] rfl) hz
noncomputable def f_X9_moves_86 (k_30 : Int32 → Int32 → Int32 → GW → Option (Unit × GW)) (x2 : Int32) (x4 : Int32) (t0 : Int32) (w : GW) : Option (Unit × GW) :=
  k_30 x2 t0 (x4 + 1) w
noncomputable def f_X9_moves_63 (k_30 : Int32 → Int32 → Int32 → GW → Option (Unit × GW)) (x3 : Int32) (x4 : Int32) (t0 : Int32) (w : GW) : Option (Unit × GW) :=
  if inb x4 5 then
  if inb x3 5 then
  if (gI w 137 (ix x3)) ≤ (gI w 137 (ix x4)) then
    f_X9_moves_86 k_30 t0 x4 x3 w
  else
    f_X9_moves_86 k_30 t0 x4 x4 w
  else none
  else none
noncomputable def f_X9_moves_30  : Nat → Int32 → Int32 → Int32 → GW → Option (Unit × GW)
  | 0, _, _, _, _ => none
  | n9 + 1, x2, x3, x4, w =>
    if inb 0 135 then
    if (gI w 133 (ix 0)) ≤ x4 then
      if inb x2 5 then
      if inb x3 5 then
      if (gI w 137 (ix x2)) < ((gI w 137 (ix x3)) + 2) then
        some ((), w)
      else
        if inb x3 5 then
        if inb (2 + x3) 135 then
        if (gI w 137 (ix x3)) < (gI w 133 (ix (2 + x3))) then
          if inb x2 5 then
          if inb x2 5 then
          if inb x3 5 then
          if inb x3 5 then
          some ((), (sI (sI w 137 (ix x2) ((gI w 137 (ix x2)) - 1)) 137 (ix x3) ((gI (sI w 137 (ix x2) ((gI w 137 (ix x2)) - 1)) 137 (ix x3)) + 1)))
          else none
          else none
          else none
          else none
        else
          some ((), w)
        else none
        else none
      else none
      else none
    else
      if inb x4 5 then
      if inb x2 5 then
      if (gI w 137 (ix x4)) ≤ (gI w 137 (ix x2)) then
        f_X9_moves_63 (f_X9_moves_30 n9) x3 x4 x2 w
      else
        f_X9_moves_63 (f_X9_moves_30 n9) x3 x4 x4 w
      else none
      else none
    else none
noncomputable def f_X9_moves (x1 : Int32) (w : GW) : Option (Unit × GW) :=
  if inb 38 135 then
  if (gI w 133 (ix 38)) = 0 then
    some ((), w)
  else
    if inb 38 135 then
    if ¬ (gI w 133 (ix 38)) = 0 then
    if (irm x1 (gI w 133 (ix 38))) = 0 then
      f_X9_moves_30 fu 0 0 1 w
    else
      some ((), w)
    else none
    else none
  else none
set_option maxHeartbeats 4000000 in
set_option maxRecDepth 100000 in
theorem w_X9_moves_86 {p : Program} {l : Launch} {e : Env} {s : State} {m : MethodId} {args : Array Value} {below : List Frame} {meth : Method} {c : Code} {G : GG} (F : CallFix p m c cX9_moves 5 s args (wsU yX9_moves cX9_moves 5 none) RX9) (hr : meth.sig.returnType = none) (hlk : meth.locks = false) {z : Unit × GW} {k_30 : Int32 → Int32 → Int32 → GW → Option (Unit × GW)} (Hk_30 : (∀ (x2 : Int32) (x3 : Int32) (x4 : Int32) (w : GW) (H : Heap) (locs : List Loc) (ls : Array Slot), St G w s H locs → lv_has ls 5 [(0, .ref (gad G 130)), (2, .int x2), (3, .int x3), (4, .int x4)] → k_30 x2 x3 x4 w = some z → W p l e (headSpec (wsU yX9_moves cX9_moves 5 none) rm_X9_moves).room s m args below meth c H locs 0 0 (MQ below (QV G z) args s 0 0 (gA G)) (F0 m 30 ls []))) : (∀ (x2 : Int32) (x4 : Int32) (t0 : Int32) (w : GW) (H : Heap) (locs : List Loc) (ls : Array Slot), St G w s H locs → lv_has ls 5 [(0, .ref (gad G 130)), (2, .int x2), (4, .int x4)] → f_X9_moves_86 k_30 x2 x4 t0 w = some z → W p l e (headSpec (wsU yX9_moves cX9_moves 5 none) rm_X9_moves).room s m args below meth c H locs 0 0 (MQ below (QV G z) args s 0 0 (gA G)) (F0 m 86 ls [.int t0])) := by
  obtain ⟨hx, hb, hml, hown, hts⟩ := id F
  have hg : ∀ q ∈ lwg, q.before args s = true := fun q h => hts q (List.mem_cons_of_mem _ h)
  intro x2 x4 t0 w H locs ls S hl hz
  rw [f_X9_moves_86] at hz
  refine lv_istore_n (lv' := [(3, .int t0), (0, .ref (gad G 130)), (2, .int x2), (4, .int x4)]) hx hb dX9_moves_86 rfl hl (by decide) rfl (fun ls hl => ?_)
  refine lv_iinc (v := (x4 + 1)) (lv' := [(4, .int (x4 + 1)), (3, .int t0), (0, .ref (gad G 130)), (2, .int x2)]) hx hb dX9_moves_87 hl (k := 3) rfl rfl (by decide) rfl (fun ls hl => ?_)
  refine lv_goto (tgt := 30) hx hb dX9_moves_90 (by decide) ?_
  exact Hk_30 x2 t0 (x4 + 1)  _ _ _ _ S (lv_sub hl [2, 3, 1, 0] rfl) hz
set_option maxHeartbeats 4000000 in
set_option maxRecDepth 100000 in
theorem w_X9_moves_63 {p : Program} {l : Launch} {e : Env} {s : State} {m : MethodId} {args : Array Value} {below : List Frame} {meth : Method} {c : Code} {G : GG} (F : CallFix p m c cX9_moves 5 s args (wsU yX9_moves cX9_moves 5 none) RX9) (hr : meth.sig.returnType = none) (hlk : meth.locks = false) {z : Unit × GW} {k_30 : Int32 → Int32 → Int32 → GW → Option (Unit × GW)} (Hk_30 : (∀ (x2 : Int32) (x3 : Int32) (x4 : Int32) (w : GW) (H : Heap) (locs : List Loc) (ls : Array Slot), St G w s H locs → lv_has ls 5 [(0, .ref (gad G 130)), (2, .int x2), (3, .int x3), (4, .int x4)] → k_30 x2 x3 x4 w = some z → W p l e (headSpec (wsU yX9_moves cX9_moves 5 none) rm_X9_moves).room s m args below meth c H locs 0 0 (MQ below (QV G z) args s 0 0 (gA G)) (F0 m 30 ls []))) : (∀ (x3 : Int32) (x4 : Int32) (t0 : Int32) (w : GW) (H : Heap) (locs : List Loc) (ls : Array Slot), St G w s H locs → lv_has ls 5 [(0, .ref (gad G 130)), (3, .int x3), (4, .int x4)] → f_X9_moves_63 k_30 x3 x4 t0 w = some z → W p l e (headSpec (wsU yX9_moves cX9_moves 5 none) rm_X9_moves).room s m args below meth c H locs 0 0 (MQ below (QV G z) args s 0 0 (gA G)) (F0 m 63 ls [.int t0])) := by
  obtain ⟨hx, hb, hml, hown, hts⟩ := id F
  have hg : ∀ q ∈ lwg, q.before args s = true := fun q h => hts q (List.mem_cons_of_mem _ h)
  intro x3 x4 t0 w H locs ls S hl hz
  rw [f_X9_moves_63] at hz
  refine lv_istore_n (lv' := [(2, .int t0), (0, .ref (gad G 130)), (3, .int x3), (4, .int x4)]) hx hb dX9_moves_63 rfl hl (by decide) rfl (fun ls hl => ?_)
  refine lv_aload_n hx hb dX9_moves_64 rfl (lv_at hl 1 rfl) ?_
  refine fg_X9_20 hx hb (fun q h => hg q (tl_X9 q h)) hown (hg _ t_fl_X9_32) S (by decide) dX9_moves_65 ?_
  refine lv_iload hx hb dX9_moves_68 (lv_at hl 3 rfl) ?_
  obtain ⟨h21, hz⟩ := ck hz
  refine g_iald hx hb S (isA_10 (by decide)) h21 dX9_moves_70 ?_
  refine lv_aload_n hx hb dX9_moves_71 rfl (lv_at hl 1 rfl) ?_
  refine fg_X9_20 hx hb (fun q h => hg q (tl_X9 q h)) hown (hg _ t_fl_X9_32) S (by decide) dX9_moves_72 ?_
  refine lv_iload_n hx hb dX9_moves_75 rfl (lv_at hl 2 rfl) ?_
  obtain ⟨h22, hz⟩ := ck hz
  refine g_iald hx hb S (isA_10 (by decide)) h22 dX9_moves_76 ?_
  refine lv_icmp_ge (tgt := 85) hx hb dX9_moves_77 (by decide) (fun c23 => ?_) (fun c23 => ?_)
  · have hz := ipt (c23) hz
    refine lv_iload_n hx hb dX9_moves_85 rfl (lv_at hl 2 rfl) ?_
    exact w_X9_moves_86 F hr hlk Hk_30 t0 x4 x3 _ _ _ _ S (lv_sub hl [1, 0, 3] rfl) hz
  · have hz := ipf (c23) hz
    refine lv_iload hx hb dX9_moves_80 (lv_at hl 3 rfl) ?_
    refine lv_goto (tgt := 86) hx hb dX9_moves_82 (by decide) ?_
    exact w_X9_moves_86 F hr hlk Hk_30 t0 x4 x4 _ _ _ _ S (lv_sub hl [1, 0, 3] rfl) hz
set_option maxHeartbeats 4000000 in
set_option maxRecDepth 100000 in
theorem w_X9_moves_30 {p : Program} {l : Launch} {e : Env} {s : State} {m : MethodId} {args : Array Value} {below : List Frame} {meth : Method} {c : Code} {G : GG} (F : CallFix p m c cX9_moves 5 s args (wsU yX9_moves cX9_moves 5 none) RX9) (hr : meth.sig.returnType = none) (hlk : meth.locks = false) {z : Unit × GW} : ∀ (n9 : Nat), (∀ (x2 : Int32) (x3 : Int32) (x4 : Int32) (w : GW) (H : Heap) (locs : List Loc) (ls : Array Slot), St G w s H locs → lv_has ls 5 [(0, .ref (gad G 130)), (2, .int x2), (3, .int x3), (4, .int x4)] → f_X9_moves_30 n9 x2 x3 x4 w = some z → W p l e (headSpec (wsU yX9_moves cX9_moves 5 none) rm_X9_moves).room s m args below meth c H locs 0 0 (MQ below (QV G z) args s 0 0 (gA G)) (F0 m 30 ls [])) := by
  obtain ⟨hx, hb, hml, hown, hts⟩ := id F
  have hg : ∀ q ∈ lwg, q.before args s = true := fun q h => hts q (List.mem_cons_of_mem _ h)
  intro n9
  induction n9 with
  | zero =>
    intro x2 x3 x4 w H locs ls S hl hz
    rw [f_X9_moves_30] at hz
    cases hz
  | succ n9 ih =>
    intro x2 x3 x4 w H locs ls S hl hz
    rw [f_X9_moves_30] at hz
    refine lv_iload hx hb dX9_moves_30 (lv_at hl 3 rfl) ?_
    refine lv_aload_n hx hb dX9_moves_32 rfl (lv_at hl 0 rfl) ?_
    refine fg_X9_15 hx hb (fun q h => hg q (tl_X9 q h)) hown (hg _ t_fl_X9_20) S (by decide) dX9_moves_33 ?_
    refine lv_iconst (v := 0) hx hb dX9_moves_36 (by decide) ?_
    obtain ⟨h6, hz⟩ := ck hz
    refine g_iald hx hb S (isA_15 (by decide)) h6 dX9_moves_37 ?_
    refine lv_icmp_ge (tgt := 93) hx hb dX9_moves_38 (by decide) (fun c7 => ?_) (fun c7 => ?_)
    · have hz := ipt (c7) hz
      refine lv_aload_n hx hb dX9_moves_93 rfl (lv_at hl 0 rfl) ?_
      refine fg_X9_20 hx hb (fun q h => hg q (tl_X9 q h)) hown (hg _ t_fl_X9_32) S (by decide) dX9_moves_94 ?_
      refine lv_iload_n hx hb dX9_moves_97 rfl (lv_at hl 1 rfl) ?_
      obtain ⟨h8, hz⟩ := ck hz
      refine g_iald hx hb S (isA_10 (by decide)) h8 dX9_moves_98 ?_
      refine lv_aload_n hx hb dX9_moves_99 rfl (lv_at hl 0 rfl) ?_
      refine fg_X9_20 hx hb (fun q h => hg q (tl_X9 q h)) hown (hg _ t_fl_X9_32) S (by decide) dX9_moves_100 ?_
      refine lv_iload_n hx hb dX9_moves_103 rfl (lv_at hl 2 rfl) ?_
      obtain ⟨h9, hz⟩ := ck hz
      refine g_iald hx hb S (isA_10 (by decide)) h9 dX9_moves_104 ?_
      refine lv_iconst (v := 2) hx hb dX9_moves_105 (by decide) ?_
      refine lv_iadd hx hb dX9_moves_106 ?_
      refine lv_icmp_lt (tgt := 127) hx hb dX9_moves_107 (by decide) (fun c10 => ?_) (fun c10 => ?_)
      · have hz := ipt (c10) hz
        exact g_retv hx hb hr hlk S hz dX9_moves_127
      · have hz := ipf (c10) hz
        refine lv_aload_n hx hb dX9_moves_110 rfl (lv_at hl 0 rfl) ?_
        refine fg_X9_20 hx hb (fun q h => hg q (tl_X9 q h)) hown (hg _ t_fl_X9_32) S (by decide) dX9_moves_111 ?_
        refine lv_iload_n hx hb dX9_moves_114 rfl (lv_at hl 2 rfl) ?_
        obtain ⟨h11, hz⟩ := ck hz
        refine g_iald hx hb S (isA_10 (by decide)) h11 dX9_moves_115 ?_
        refine lv_aload_n hx hb dX9_moves_116 rfl (lv_at hl 0 rfl) ?_
        refine fg_X9_15 hx hb (fun q h => hg q (tl_X9 q h)) hown (hg _ t_fl_X9_20) S (by decide) dX9_moves_117 ?_
        refine lv_iconst (v := 2) hx hb dX9_moves_120 (by decide) ?_
        refine lv_iload_n hx hb dX9_moves_121 rfl (lv_at hl 2 rfl) ?_
        refine lv_iadd hx hb dX9_moves_122 ?_
        obtain ⟨h12, hz⟩ := ck hz
        refine g_iald hx hb S (isA_15 (by decide)) h12 dX9_moves_123 ?_
        refine lv_icmp_lt (tgt := 128) hx hb dX9_moves_124 (by decide) (fun c13 => ?_) (fun c13 => ?_)
        · have hz := ipt (c13) hz
          refine lv_aload_n hx hb dX9_moves_128 rfl (lv_at hl 0 rfl) ?_
          refine fg_X9_20 hx hb (fun q h => hg q (tl_X9 q h)) hown (hg _ t_fl_X9_32) S (by decide) dX9_moves_129 ?_
          refine lv_iload_n hx hb dX9_moves_132 rfl (lv_at hl 1 rfl) ?_
          refine lv_dup2_11 hx hb dX9_moves_133 rfl rfl ?_
          obtain ⟨h14, hz⟩ := ck hz
          refine g_iald hx hb S (isA_10 (by decide)) h14 dX9_moves_134 ?_
          refine lv_iconst (v := 1) hx hb dX9_moves_135 (by decide) ?_
          refine lv_isub hx hb dX9_moves_136 ?_
          obtain ⟨h15, hz⟩ := ck hz
          refine g_iast (x := ((gI w 137 (ix x2)) - 1)) hx hb S (isA_10 (by decide)) h15 dX9_moves_137 (fun H locs S => ?_)
          refine lv_aload_n hx hb dX9_moves_138 rfl (lv_at hl 0 rfl) ?_
          refine fg_X9_20 hx hb (fun q h => hg q (tl_X9 q h)) hown (hg _ t_fl_X9_32) S (by decide) dX9_moves_139 ?_
          refine lv_iload_n hx hb dX9_moves_142 rfl (lv_at hl 2 rfl) ?_
          refine lv_dup2_11 hx hb dX9_moves_143 rfl rfl ?_
          obtain ⟨h16, hz⟩ := ck hz
          refine g_iald hx hb S (isA_10 (by decide)) h16 dX9_moves_144 ?_
          refine lv_iconst (v := 1) hx hb dX9_moves_145 (by decide) ?_
          refine lv_iadd hx hb dX9_moves_146 ?_
          obtain ⟨h17, hz⟩ := ck hz
          refine g_iast (x := ((gI (sI w 137 (ix x2) ((gI w 137 (ix x2)) - 1)) 137 (ix x3)) + 1)) hx hb S (isA_10 (by decide)) h17 dX9_moves_147 (fun H locs S => ?_)
          exact g_retv hx hb hr hlk S hz dX9_moves_148
        · have hz := ipf (c13) hz
          exact g_retv hx hb hr hlk S hz dX9_moves_127
    · have hz := ipf (c7) hz
      refine lv_aload_n hx hb dX9_moves_41 rfl (lv_at hl 0 rfl) ?_
      refine fg_X9_20 hx hb (fun q h => hg q (tl_X9 q h)) hown (hg _ t_fl_X9_32) S (by decide) dX9_moves_42 ?_
      refine lv_iload hx hb dX9_moves_45 (lv_at hl 3 rfl) ?_
      obtain ⟨h18, hz⟩ := ck hz
      refine g_iald hx hb S (isA_10 (by decide)) h18 dX9_moves_47 ?_
      refine lv_aload_n hx hb dX9_moves_48 rfl (lv_at hl 0 rfl) ?_
      refine fg_X9_20 hx hb (fun q h => hg q (tl_X9 q h)) hown (hg _ t_fl_X9_32) S (by decide) dX9_moves_49 ?_
      refine lv_iload_n hx hb dX9_moves_52 rfl (lv_at hl 1 rfl) ?_
      obtain ⟨h19, hz⟩ := ck hz
      refine g_iald hx hb S (isA_10 (by decide)) h19 dX9_moves_53 ?_
      refine lv_icmp_le (tgt := 62) hx hb dX9_moves_54 (by decide) (fun c20 => ?_) (fun c20 => ?_)
      · have hz := ipt (c20) hz
        refine lv_iload_n hx hb dX9_moves_62 rfl (lv_at hl 1 rfl) ?_
        exact w_X9_moves_63 F hr hlk ih x3 x4 x2 _ _ _ _ S (lv_sub hl [0, 2, 3] rfl) hz
      · have hz := ipf (c20) hz
        refine lv_iload hx hb dX9_moves_57 (lv_at hl 3 rfl) ?_
        refine lv_goto (tgt := 63) hx hb dX9_moves_59 (by decide) ?_
        exact w_X9_moves_63 F hr hlk ih x3 x4 x4 _ _ _ _ S (lv_sub hl [0, 2, 3] rfl) hz
set_option maxHeartbeats 4000000 in
set_option maxRecDepth 100000 in
theorem c_X9_moves (l : Launch) (G : GG) (x1 : Int32)  (w : GW) {z : Unit × GW} (hz : f_X9_moves x1 w = some z) : Met l yX9_moves (wsU yX9_moves cX9_moves 5 none) rm_X9_moves (va_Pc [.ref (gad G 130), .int x1] (PreG G w)) (QV G z) 0 0 (gA G) := by
  refine Met.ofW (cc := cX9_moves) (maxL := 5) (ret := none) (by decide) rfl ?_
  intro p e s m args below meth c s₁ B hml hv
  obtain ⟨rfl, S⟩ := hv
  have F : CallFix p m c cX9_moves 5 s _ (wsU yX9_moves cX9_moves 5 none) RX9 := ⟨B.exec, B.bytes, hml, findClass_of_methodNamed B.named, atoms_spec B.pre⟩
  have hr := B.returns
  have hlk := B.notSynchronized
  obtain ⟨hx, hb, -, hown, hts⟩ := id F
  have hg : ∀ q ∈ lwg, q.before _ s = true := fun q h => hts q (List.mem_cons_of_mem _ h)
  refine g_entry (Nat.le_of_ble_eq_true rfl) (fun ls hl => ?_)
  have hl : lv_has ls 5 [(0, .ref (gad G 130)), (1, .int x1)] := hl
  have S : St G w s s.heap [] := S
  generalize s.heap = H at S ⊢
  generalize ([] : List Loc) = locs at S ⊢
  rw [f_X9_moves] at hz
  refine lv_aload_n hx hb dX9_moves_0 rfl (lv_at hl 0 rfl) ?_
  refine fg_X9_15 hx hb (fun q h => hg q (tl_X9 q h)) hown (hg _ t_fl_X9_20) S (by decide) dX9_moves_1 ?_
  refine lv_bipush (v := 38) hx hb dX9_moves_4 (by decide) ?_
  obtain ⟨h1, hz⟩ := ck hz
  refine g_iald hx hb S (isA_15 (by decide)) h1 dX9_moves_6 ?_
  refine lv_if_eq (tgt := 22) hx hb dX9_moves_7 (by decide) (fun c2 => ?_) (fun c2 => ?_)
  · have hz := ipt (c2) hz
    exact g_retv hx hb hr hlk S hz dX9_moves_22
  · have hz := ipf (c2) hz
    refine lv_iload_n hx hb dX9_moves_10 rfl (lv_at hl 1 rfl) ?_
    refine lv_aload_n hx hb dX9_moves_11 rfl (lv_at hl 0 rfl) ?_
    refine fg_X9_15 hx hb (fun q h => hg q (tl_X9 q h)) hown (hg _ t_fl_X9_20) S (by decide) dX9_moves_12 ?_
    refine lv_bipush (v := 38) hx hb dX9_moves_15 (by decide) ?_
    obtain ⟨h3, hz⟩ := ck hz
    refine g_iald hx hb S (isA_15 (by decide)) h3 dX9_moves_17 ?_
    obtain ⟨h4, hz⟩ := ck hz
    refine g_irem hx hb dX9_moves_18 h4 ?_
    refine lv_if_eq (tgt := 23) hx hb dX9_moves_19 (by decide) (fun c5 => ?_) (fun c5 => ?_)
    · have hz := ipt (c5) hz
      refine lv_iconst (v := 0) hx hb dX9_moves_23 (by decide) ?_
      refine lv_istore_n (lv' := [(2, .int 0), (0, .ref (gad G 130)), (1, .int x1)]) hx hb dX9_moves_24 rfl hl (by decide) rfl (fun ls hl => ?_)
      refine lv_iconst (v := 0) hx hb dX9_moves_25 (by decide) ?_
      refine lv_istore_n (lv' := [(3, .int 0), (2, .int 0), (0, .ref (gad G 130)), (1, .int x1)]) hx hb dX9_moves_26 rfl hl (by decide) rfl (fun ls hl => ?_)
      refine lv_iconst (v := 1) hx hb dX9_moves_27 (by decide) ?_
      refine lv_istore (lv' := [(4, .int 1), (3, .int 0), (2, .int 0), (0, .ref (gad G 130)), (1, .int x1)]) hx hb dX9_moves_28 hl (by decide) rfl (fun ls hl => ?_)
      exact w_X9_moves_30 F hr hlk fu 0 0 1 _ _ _ _ S (lv_sub hl [3, 2, 1, 0] rfl) hz
    · have hz := ipf (c5) hz
      exact g_retv hx hb hr hlk S hz dX9_moves_22
noncomputable def f_X9_isDoor (x1 : Int32) (w : GW) : Option (Int32 × GW) :=
  if inb 37 135 then
  if (gI w 133 (ix 37)) ≤ 0 then
    some (0, w)
  else
    if inb 37 135 then
    if ¬ (gI w 133 (ix 37)) = 0 then
    if (irm x1 (gI w 133 (ix 37))) = 0 then
      some (1, w)
    else
      some (0, w)
    else none
    else none
  else none
set_option maxHeartbeats 4000000 in
set_option maxRecDepth 100000 in
theorem c_X9_isDoor (l : Launch) (G : GG) (x1 : Int32)  (w : GW) {z : Int32 × GW} (hz : f_X9_isDoor x1 w = some z) : Met l yX9_isDoor (wsU yX9_isDoor cX9_isDoor 2 (some .boolean)) rm_X9_isDoor (va_Pc [.ref (gad G 130), .int x1] (PreG G w)) (QB G z) 0 0 (gA G) := by
  refine Met.ofW (cc := cX9_isDoor) (maxL := 2) (ret := (some .boolean)) (by decide) rfl ?_
  intro p e s m args below meth c s₁ B hml hv
  obtain ⟨rfl, S⟩ := hv
  have F : CallFix p m c cX9_isDoor 2 s _ (wsU yX9_isDoor cX9_isDoor 2 (some .boolean)) RX9 := ⟨B.exec, B.bytes, hml, findClass_of_methodNamed B.named, atoms_spec B.pre⟩
  have hr := B.returns
  have hlk := B.notSynchronized
  obtain ⟨hx, hb, -, hown, hts⟩ := id F
  have hg : ∀ q ∈ lwg, q.before _ s = true := fun q h => hts q (List.mem_cons_of_mem _ h)
  refine g_entry (Nat.le_of_ble_eq_true rfl) (fun ls hl => ?_)
  have hl : lv_has ls 2 [(0, .ref (gad G 130)), (1, .int x1)] := hl
  have S : St G w s s.heap [] := S
  generalize s.heap = H at S ⊢
  generalize ([] : List Loc) = locs at S ⊢
  rw [f_X9_isDoor] at hz
  refine lv_aload_n hx hb dX9_isDoor_0 rfl (lv_at hl 0 rfl) ?_
  refine fg_X9_15 hx hb (fun q h => hg q (tl_X9 q h)) hown (hg _ t_fl_X9_20) S (by decide) dX9_isDoor_1 ?_
  refine lv_bipush (v := 37) hx hb dX9_isDoor_4 (by decide) ?_
  obtain ⟨h1, hz⟩ := ck hz
  refine g_iald hx hb S (isA_15 (by decide)) h1 dX9_isDoor_6 ?_
  refine lv_if_le (tgt := 26) hx hb dX9_isDoor_7 (by decide) (fun c2 => ?_) (fun c2 => ?_)
  · have hz := ipt (c2) hz
    refine lv_iconst (v := 0) hx hb dX9_isDoor_26 (by decide) ?_
    exact g_retb hx hb hr hlk S isB_0 hz dX9_isDoor_27
  · have hz := ipf (c2) hz
    refine lv_iload_n hx hb dX9_isDoor_10 rfl (lv_at hl 1 rfl) ?_
    refine lv_aload_n hx hb dX9_isDoor_11 rfl (lv_at hl 0 rfl) ?_
    refine fg_X9_15 hx hb (fun q h => hg q (tl_X9 q h)) hown (hg _ t_fl_X9_20) S (by decide) dX9_isDoor_12 ?_
    refine lv_bipush (v := 37) hx hb dX9_isDoor_15 (by decide) ?_
    obtain ⟨h3, hz⟩ := ck hz
    refine g_iald hx hb S (isA_15 (by decide)) h3 dX9_isDoor_17 ?_
    obtain ⟨h4, hz⟩ := ck hz
    refine g_irem hx hb dX9_isDoor_18 h4 ?_
    refine lv_if_ne (tgt := 26) hx hb dX9_isDoor_19 (by decide) (fun c5 => ?_) (fun c5 => ?_)
    · have hz := ipf (c5) hz
      refine lv_iconst (v := 0) hx hb dX9_isDoor_26 (by decide) ?_
      exact g_retb hx hb hr hlk S isB_0 hz dX9_isDoor_27
    · have hz := ipt (c5) hz
      refine lv_iconst (v := 1) hx hb dX9_isDoor_22 (by decide) ?_
      refine lv_goto (tgt := 27) hx hb dX9_isDoor_23 (by decide) ?_
      exact g_retb hx hb hr hlk S isB_1 hz dX9_isDoor_27
noncomputable def f_X9_emptiest_44 (k_4 : Int32 → Int32 → Int32 → GW → Option (Int32 × GW)) (x1 : Int32) (x2 : Int32) (x3 : Int32) (w : GW) : Option (Int32 × GW) :=
  k_4 x1 x2 (x3 + 1) w
noncomputable def f_X9_emptiest_42 (k_4 : Int32 → Int32 → Int32 → GW → Option (Int32 × GW)) (x1 : Int32) (x3 : Int32) (w : GW) : Option (Int32 × GW) :=
  f_X9_emptiest_44 k_4 x1 x3 x3 w
noncomputable def f_X9_emptiest_4  : Nat → Int32 → Int32 → Int32 → GW → Option (Int32 × GW)
  | 0, _, _, _, _ => none
  | n9 + 1, x1, x2, x3, w =>
    if inb 0 135 then
    if (gI w 133 (ix 0)) ≤ x3 then
      some (x2, w)
    else
      if ((x1 >>> (x3 &&& 31)) &&& 1) = 1 then
        if x2 < 0 then
          f_X9_emptiest_42 (f_X9_emptiest_4 n9) x1 x3 w
        else
          if inb x3 5 then
          if inb x2 5 then
          if (gI w 137 (ix x2)) ≤ (gI w 137 (ix x3)) then
            f_X9_emptiest_44 (f_X9_emptiest_4 n9) x1 x2 x3 w
          else
            f_X9_emptiest_42 (f_X9_emptiest_4 n9) x1 x3 w
          else none
          else none
      else
        f_X9_emptiest_44 (f_X9_emptiest_4 n9) x1 x2 x3 w
    else none
noncomputable def f_X9_emptiest (x1 : Int32) (w : GW) : Option (Int32 × GW) :=
  f_X9_emptiest_4 fu x1 (-1) 0 w
set_option maxHeartbeats 4000000 in
set_option maxRecDepth 100000 in
theorem w_X9_emptiest_44 {p : Program} {l : Launch} {e : Env} {s : State} {m : MethodId} {args : Array Value} {below : List Frame} {meth : Method} {c : Code} {G : GG} (F : CallFix p m c cX9_emptiest 4 s args (wsU yX9_emptiest cX9_emptiest 4 (some .int)) RX9) (hr : meth.sig.returnType = (some .int)) (hlk : meth.locks = false) {z : Int32 × GW} {k_4 : Int32 → Int32 → Int32 → GW → Option (Int32 × GW)} (Hk_4 : (∀ (x1 : Int32) (x2 : Int32) (x3 : Int32) (w : GW) (H : Heap) (locs : List Loc) (ls : Array Slot), St G w s H locs → lv_has ls 4 [(0, .ref (gad G 130)), (1, .int x1), (2, .int x2), (3, .int x3)] → k_4 x1 x2 x3 w = some z → W p l e (headSpec (wsU yX9_emptiest cX9_emptiest 4 (some .int)) rm_X9_emptiest).room s m args below meth c H locs 0 0 (MQ below (QI G z) args s 0 0 (gA G)) (F0 m 4 ls []))) : (∀ (x1 : Int32) (x2 : Int32) (x3 : Int32) (w : GW) (H : Heap) (locs : List Loc) (ls : Array Slot), St G w s H locs → lv_has ls 4 [(0, .ref (gad G 130)), (1, .int x1), (2, .int x2), (3, .int x3)] → f_X9_emptiest_44 k_4 x1 x2 x3 w = some z → W p l e (headSpec (wsU yX9_emptiest cX9_emptiest 4 (some .int)) rm_X9_emptiest).room s m args below meth c H locs 0 0 (MQ below (QI G z) args s 0 0 (gA G)) (F0 m 44 ls [])) := by
  obtain ⟨hx, hb, hml, hown, hts⟩ := id F
  have hg : ∀ q ∈ lwg, q.before args s = true := fun q h => hts q (List.mem_cons_of_mem _ h)
  intro x1 x2 x3 w H locs ls S hl hz
  rw [f_X9_emptiest_44] at hz
  refine lv_iinc (v := (x3 + 1)) (lv' := [(3, .int (x3 + 1)), (0, .ref (gad G 130)), (1, .int x1), (2, .int x2)]) hx hb dX9_emptiest_44 hl (k := 3) rfl rfl (by decide) rfl (fun ls hl => ?_)
  refine lv_goto (tgt := 4) hx hb dX9_emptiest_47 (by decide) ?_
  exact Hk_4 x1 x2 (x3 + 1)  _ _ _ _ S (lv_sub hl [1, 2, 3, 0] rfl) hz
set_option maxHeartbeats 4000000 in
set_option maxRecDepth 100000 in
theorem w_X9_emptiest_42 {p : Program} {l : Launch} {e : Env} {s : State} {m : MethodId} {args : Array Value} {below : List Frame} {meth : Method} {c : Code} {G : GG} (F : CallFix p m c cX9_emptiest 4 s args (wsU yX9_emptiest cX9_emptiest 4 (some .int)) RX9) (hr : meth.sig.returnType = (some .int)) (hlk : meth.locks = false) {z : Int32 × GW} {k_4 : Int32 → Int32 → Int32 → GW → Option (Int32 × GW)} (Hk_4 : (∀ (x1 : Int32) (x2 : Int32) (x3 : Int32) (w : GW) (H : Heap) (locs : List Loc) (ls : Array Slot), St G w s H locs → lv_has ls 4 [(0, .ref (gad G 130)), (1, .int x1), (2, .int x2), (3, .int x3)] → k_4 x1 x2 x3 w = some z → W p l e (headSpec (wsU yX9_emptiest cX9_emptiest 4 (some .int)) rm_X9_emptiest).room s m args below meth c H locs 0 0 (MQ below (QI G z) args s 0 0 (gA G)) (F0 m 4 ls []))) : (∀ (x1 : Int32) (x3 : Int32) (w : GW) (H : Heap) (locs : List Loc) (ls : Array Slot), St G w s H locs → lv_has ls 4 [(0, .ref (gad G 130)), (1, .int x1), (3, .int x3)] → f_X9_emptiest_42 k_4 x1 x3 w = some z → W p l e (headSpec (wsU yX9_emptiest cX9_emptiest 4 (some .int)) rm_X9_emptiest).room s m args below meth c H locs 0 0 (MQ below (QI G z) args s 0 0 (gA G)) (F0 m 42 ls [])) := by
  obtain ⟨hx, hb, hml, hown, hts⟩ := id F
  have hg : ∀ q ∈ lwg, q.before args s = true := fun q h => hts q (List.mem_cons_of_mem _ h)
  intro x1 x3 w H locs ls S hl hz
  rw [f_X9_emptiest_42] at hz
  refine lv_iload_n hx hb dX9_emptiest_42 rfl (lv_at hl 2 rfl) ?_
  refine lv_istore_n (lv' := [(2, .int x3), (0, .ref (gad G 130)), (1, .int x1), (3, .int x3)]) hx hb dX9_emptiest_43 rfl hl (by decide) rfl (fun ls hl => ?_)
  exact w_X9_emptiest_44 F hr hlk Hk_4 x1 x3 x3 _ _ _ _ S (lv_sub hl [1, 2, 0, 3] rfl) hz
set_option maxHeartbeats 4000000 in
set_option maxRecDepth 100000 in
theorem w_X9_emptiest_4 {p : Program} {l : Launch} {e : Env} {s : State} {m : MethodId} {args : Array Value} {below : List Frame} {meth : Method} {c : Code} {G : GG} (F : CallFix p m c cX9_emptiest 4 s args (wsU yX9_emptiest cX9_emptiest 4 (some .int)) RX9) (hr : meth.sig.returnType = (some .int)) (hlk : meth.locks = false) {z : Int32 × GW} : ∀ (n9 : Nat), (∀ (x1 : Int32) (x2 : Int32) (x3 : Int32) (w : GW) (H : Heap) (locs : List Loc) (ls : Array Slot), St G w s H locs → lv_has ls 4 [(0, .ref (gad G 130)), (1, .int x1), (2, .int x2), (3, .int x3)] → f_X9_emptiest_4 n9 x1 x2 x3 w = some z → W p l e (headSpec (wsU yX9_emptiest cX9_emptiest 4 (some .int)) rm_X9_emptiest).room s m args below meth c H locs 0 0 (MQ below (QI G z) args s 0 0 (gA G)) (F0 m 4 ls [])) := by
  obtain ⟨hx, hb, hml, hown, hts⟩ := id F
  have hg : ∀ q ∈ lwg, q.before args s = true := fun q h => hts q (List.mem_cons_of_mem _ h)
  intro n9
  induction n9 with
  | zero =>
    intro x1 x2 x3 w H locs ls S hl hz
    rw [f_X9_emptiest_4] at hz
    cases hz
  | succ n9 ih =>
    intro x1 x2 x3 w H locs ls S hl hz
    rw [f_X9_emptiest_4] at hz
    refine lv_iload_n hx hb dX9_emptiest_4 rfl (lv_at hl 3 rfl) ?_
    refine lv_aload_n hx hb dX9_emptiest_5 rfl (lv_at hl 0 rfl) ?_
    refine fg_X9_15 hx hb (fun q h => hg q (tl_X9 q h)) hown (hg _ t_fl_X9_20) S (by decide) dX9_emptiest_6 ?_
    refine lv_iconst (v := 0) hx hb dX9_emptiest_9 (by decide) ?_
    obtain ⟨h1, hz⟩ := ck hz
    refine g_iald hx hb S (isA_15 (by decide)) h1 dX9_emptiest_10 ?_
    refine lv_icmp_ge (tgt := 50) hx hb dX9_emptiest_11 (by decide) (fun c2 => ?_) (fun c2 => ?_)
    · have hz := ipt (c2) hz
      refine lv_iload_n hx hb dX9_emptiest_50 rfl (lv_at hl 2 rfl) ?_
      exact g_reti hx hb hr hlk S hz dX9_emptiest_51
    · have hz := ipf (c2) hz
      refine lv_iload_n hx hb dX9_emptiest_14 rfl (lv_at hl 1 rfl) ?_
      refine lv_iload_n hx hb dX9_emptiest_15 rfl (lv_at hl 3 rfl) ?_
      refine lv_ishr hx hb dX9_emptiest_16 ?_
      refine lv_iconst (v := 1) hx hb dX9_emptiest_17 (by decide) ?_
      refine lv_iand hx hb dX9_emptiest_18 ?_
      refine lv_iconst (v := 1) hx hb dX9_emptiest_19 (by decide) ?_
      refine lv_icmp_ne (tgt := 44) hx hb dX9_emptiest_20 (by decide) (fun c3 => ?_) (fun c3 => ?_)
      · have hz := ipf (c3) hz
        exact w_X9_emptiest_44 F hr hlk ih x1 x2 x3 _ _ _ _ S (lv_sub hl [0, 1, 2, 3] rfl) hz
      · have hz := ipt (c3) hz
        refine lv_iload_n hx hb dX9_emptiest_23 rfl (lv_at hl 2 rfl) ?_
        refine lv_if_lt (tgt := 42) hx hb dX9_emptiest_24 (by decide) (fun c4 => ?_) (fun c4 => ?_)
        · have hz := ipt (c4) hz
          exact w_X9_emptiest_42 F hr hlk ih x1 x3 _ _ _ _ S (lv_sub hl [0, 1, 3] rfl) hz
        · have hz := ipf (c4) hz
          refine lv_aload_n hx hb dX9_emptiest_27 rfl (lv_at hl 0 rfl) ?_
          refine fg_X9_20 hx hb (fun q h => hg q (tl_X9 q h)) hown (hg _ t_fl_X9_32) S (by decide) dX9_emptiest_28 ?_
          refine lv_iload_n hx hb dX9_emptiest_31 rfl (lv_at hl 3 rfl) ?_
          obtain ⟨h5, hz⟩ := ck hz
          refine g_iald hx hb S (isA_10 (by decide)) h5 dX9_emptiest_32 ?_
          refine lv_aload_n hx hb dX9_emptiest_33 rfl (lv_at hl 0 rfl) ?_
          refine fg_X9_20 hx hb (fun q h => hg q (tl_X9 q h)) hown (hg _ t_fl_X9_32) S (by decide) dX9_emptiest_34 ?_
          refine lv_iload_n hx hb dX9_emptiest_37 rfl (lv_at hl 2 rfl) ?_
          obtain ⟨h6, hz⟩ := ck hz
          refine g_iald hx hb S (isA_10 (by decide)) h6 dX9_emptiest_38 ?_
          refine lv_icmp_ge (tgt := 44) hx hb dX9_emptiest_39 (by decide) (fun c7 => ?_) (fun c7 => ?_)
          · have hz := ipt (c7) hz
            exact w_X9_emptiest_44 F hr hlk ih x1 x2 x3 _ _ _ _ S (lv_sub hl [0, 1, 2, 3] rfl) hz
          · have hz := ipf (c7) hz
            exact w_X9_emptiest_42 F hr hlk ih x1 x3 _ _ _ _ S (lv_sub hl [0, 1, 3] rfl) hz
set_option maxHeartbeats 4000000 in
set_option maxRecDepth 100000 in
theorem c_X9_emptiest (l : Launch) (G : GG) (x1 : Int32)  (w : GW) {z : Int32 × GW} (hz : f_X9_emptiest x1 w = some z) : Met l yX9_emptiest (wsU yX9_emptiest cX9_emptiest 4 (some .int)) rm_X9_emptiest (va_Pc [.ref (gad G 130), .int x1] (PreG G w)) (QI G z) 0 0 (gA G) := by
  refine Met.ofW (cc := cX9_emptiest) (maxL := 4) (ret := (some .int)) (by decide) rfl ?_
  intro p e s m args below meth c s₁ B hml hv
  obtain ⟨rfl, S⟩ := hv
  have F : CallFix p m c cX9_emptiest 4 s _ (wsU yX9_emptiest cX9_emptiest 4 (some .int)) RX9 := ⟨B.exec, B.bytes, hml, findClass_of_methodNamed B.named, atoms_spec B.pre⟩
  have hr := B.returns
  have hlk := B.notSynchronized
  obtain ⟨hx, hb, -, hown, hts⟩ := id F
  have hg : ∀ q ∈ lwg, q.before _ s = true := fun q h => hts q (List.mem_cons_of_mem _ h)
  refine g_entry (Nat.le_of_ble_eq_true rfl) (fun ls hl => ?_)
  have hl : lv_has ls 4 [(0, .ref (gad G 130)), (1, .int x1)] := hl
  have S : St G w s s.heap [] := S
  generalize s.heap = H at S ⊢
  generalize ([] : List Loc) = locs at S ⊢
  rw [f_X9_emptiest] at hz
  refine lv_iconst (v := (-1)) hx hb dX9_emptiest_0 (by decide) ?_
  refine lv_istore_n (lv' := [(2, .int (-1)), (0, .ref (gad G 130)), (1, .int x1)]) hx hb dX9_emptiest_1 rfl hl (by decide) rfl (fun ls hl => ?_)
  refine lv_iconst (v := 0) hx hb dX9_emptiest_2 (by decide) ?_
  refine lv_istore_n (lv' := [(3, .int 0), (2, .int (-1)), (0, .ref (gad G 130)), (1, .int x1)]) hx hb dX9_emptiest_3 rfl hl (by decide) rfl (fun ls hl => ?_)
  exact w_X9_emptiest_4 F hr hlk fu x1 (-1) 0 _ _ _ _ S (lv_sub hl [2, 3, 1, 0] rfl) hz
noncomputable def f_X9_seenBy_4  : Nat → Int32 → Int32 → Int32 → GW → Option (Int32 × GW)
  | 0, _, _, _, _ => none
  | n9 + 1, x1, x2, x3, w =>
    if x1 ≤ x3 then
      some (x2, w)
    else
      if inb x3 3 then
      f_X9_seenBy_4 n9 x1 (x2 ||| ((1 : Int32) <<< ((gI w 138 (ix x3)) &&& 31))) (x3 + 1) w
      else none
noncomputable def f_X9_seenBy (x1 : Int32) (w : GW) : Option (Int32 × GW) :=
  f_X9_seenBy_4 fu x1 0 0 w
set_option maxHeartbeats 4000000 in
set_option maxRecDepth 100000 in
theorem w_X9_seenBy_4 {p : Program} {l : Launch} {e : Env} {s : State} {m : MethodId} {args : Array Value} {below : List Frame} {meth : Method} {c : Code} {G : GG} (F : CallFix p m c cX9_seenBy 4 s args (wsU yX9_seenBy cX9_seenBy 4 (some .int)) RX9) (hr : meth.sig.returnType = (some .int)) (hlk : meth.locks = false) {z : Int32 × GW} : ∀ (n9 : Nat), (∀ (x1 : Int32) (x2 : Int32) (x3 : Int32) (w : GW) (H : Heap) (locs : List Loc) (ls : Array Slot), St G w s H locs → lv_has ls 4 [(0, .ref (gad G 130)), (1, .int x1), (2, .int x2), (3, .int x3)] → f_X9_seenBy_4 n9 x1 x2 x3 w = some z → W p l e (headSpec (wsU yX9_seenBy cX9_seenBy 4 (some .int)) rm_X9_seenBy).room s m args below meth c H locs 0 0 (MQ below (QI G z) args s 0 0 (gA G)) (F0 m 4 ls [])) := by
  obtain ⟨hx, hb, hml, hown, hts⟩ := id F
  have hg : ∀ q ∈ lwg, q.before args s = true := fun q h => hts q (List.mem_cons_of_mem _ h)
  intro n9
  induction n9 with
  | zero =>
    intro x1 x2 x3 w H locs ls S hl hz
    rw [f_X9_seenBy_4] at hz
    cases hz
  | succ n9 ih =>
    intro x1 x2 x3 w H locs ls S hl hz
    rw [f_X9_seenBy_4] at hz
    refine lv_iload_n hx hb dX9_seenBy_4 rfl (lv_at hl 3 rfl) ?_
    refine lv_iload_n hx hb dX9_seenBy_5 rfl (lv_at hl 1 rfl) ?_
    refine lv_icmp_ge (tgt := 26) hx hb dX9_seenBy_6 (by decide) (fun c1 => ?_) (fun c1 => ?_)
    · have hz := ipt (c1) hz
      refine lv_iload_n hx hb dX9_seenBy_26 rfl (lv_at hl 2 rfl) ?_
      exact g_reti hx hb hr hlk S hz dX9_seenBy_27
    · have hz := ipf (c1) hz
      refine lv_iload_n hx hb dX9_seenBy_9 rfl (lv_at hl 2 rfl) ?_
      refine lv_iconst (v := 1) hx hb dX9_seenBy_10 (by decide) ?_
      refine lv_aload_n hx hb dX9_seenBy_11 rfl (lv_at hl 0 rfl) ?_
      refine fg_X9_21 hx hb (fun q h => hg q (tl_X9 q h)) hown (hg _ t_fl_X9_35) S (by decide) dX9_seenBy_12 ?_
      refine lv_iload_n hx hb dX9_seenBy_15 rfl (lv_at hl 3 rfl) ?_
      obtain ⟨h2, hz⟩ := ck hz
      refine g_iald hx hb S (isA_12 (by decide)) h2 dX9_seenBy_16 ?_
      refine lv_ishl hx hb dX9_seenBy_17 ?_
      refine lv_ior hx hb dX9_seenBy_18 ?_
      refine lv_istore_n (lv' := [(2, .int (x2 ||| ((1 : Int32) <<< ((gI w 138 (ix x3)) &&& 31)))), (0, .ref (gad G 130)), (1, .int x1), (3, .int x3)]) hx hb dX9_seenBy_19 rfl hl (by decide) rfl (fun ls hl => ?_)
      refine lv_iinc (v := (x3 + 1)) (lv' := [(3, .int (x3 + 1)), (2, .int (x2 ||| ((1 : Int32) <<< ((gI w 138 (ix x3)) &&& 31)))), (0, .ref (gad G 130)), (1, .int x1)]) hx hb dX9_seenBy_20 hl (k := 3) rfl rfl (by decide) rfl (fun ls hl => ?_)
      refine lv_goto (tgt := 4) hx hb dX9_seenBy_23 (by decide) ?_
      exact ih x1 (x2 ||| ((1 : Int32) <<< ((gI w 138 (ix x3)) &&& 31))) (x3 + 1)  _ _ _ _ S (lv_sub hl [2, 3, 1, 0] rfl) hz
set_option maxHeartbeats 4000000 in
set_option maxRecDepth 100000 in
theorem c_X9_seenBy (l : Launch) (G : GG) (x1 : Int32)  (w : GW) {z : Int32 × GW} (hz : f_X9_seenBy x1 w = some z) : Met l yX9_seenBy (wsU yX9_seenBy cX9_seenBy 4 (some .int)) rm_X9_seenBy (va_Pc [.ref (gad G 130), .int x1] (PreG G w)) (QI G z) 0 0 (gA G) := by
  refine Met.ofW (cc := cX9_seenBy) (maxL := 4) (ret := (some .int)) (by decide) rfl ?_
  intro p e s m args below meth c s₁ B hml hv
  obtain ⟨rfl, S⟩ := hv
  have F : CallFix p m c cX9_seenBy 4 s _ (wsU yX9_seenBy cX9_seenBy 4 (some .int)) RX9 := ⟨B.exec, B.bytes, hml, findClass_of_methodNamed B.named, atoms_spec B.pre⟩
  have hr := B.returns
  have hlk := B.notSynchronized
  obtain ⟨hx, hb, -, hown, hts⟩ := id F
  have hg : ∀ q ∈ lwg, q.before _ s = true := fun q h => hts q (List.mem_cons_of_mem _ h)
  refine g_entry (Nat.le_of_ble_eq_true rfl) (fun ls hl => ?_)
  have hl : lv_has ls 4 [(0, .ref (gad G 130)), (1, .int x1)] := hl
  have S : St G w s s.heap [] := S
  generalize s.heap = H at S ⊢
  generalize ([] : List Loc) = locs at S ⊢
  rw [f_X9_seenBy] at hz
  refine lv_iconst (v := 0) hx hb dX9_seenBy_0 (by decide) ?_
  refine lv_istore_n (lv' := [(2, .int 0), (0, .ref (gad G 130)), (1, .int x1)]) hx hb dX9_seenBy_1 rfl hl (by decide) rfl (fun ls hl => ?_)
  refine lv_iconst (v := 0) hx hb dX9_seenBy_2 (by decide) ?_
  refine lv_istore_n (lv' := [(3, .int 0), (2, .int 0), (0, .ref (gad G 130)), (1, .int x1)]) hx hb dX9_seenBy_3 rfl hl (by decide) rfl (fun ls hl => ?_)
  exact w_X9_seenBy_4 F hr hlk fu x1 0 0 _ _ _ _ S (lv_sub hl [2, 3, 1, 0] rfl) hz
noncomputable def f_X9_taken_102 (k_60 : Int32 → Int32 → Int32 → Int32 → GW → Option (Int32 × GW)) (x3 : Int32) (x6 : Int32) (x7 : Int32) (x8 : Int32) (w : GW) : Option (Int32 × GW) :=
  k_60 x3 x6 x7 (x8 + 1) w
noncomputable def f_X9_taken_60  : Nat → Int32 → Int32 → Int32 → Int32 → GW → Option (Int32 × GW)
  | 0, _, _, _, _, _ => none
  | n9 + 1, x3, x6, x7, x8, w =>
    if x3 ≤ x8 then
      some ((-1), w)
    else
      if inb x8 3 then
      if inb (gI w 138 (ix x8)) 5 then
      if (gI w 137 (ix (gI w 138 (ix x8)))) = x7 then
        if x6 = 0 then
          if inb x8 3 then
          some ((gI w 138 (ix x8)), w)
          else none
        else
          f_X9_taken_102 (f_X9_taken_60 n9) x3 (x6 + (-1)) x7 x8 w
      else
        f_X9_taken_102 (f_X9_taken_60 n9) x3 x6 x7 x8 w
      else none
      else none
noncomputable def f_X9_taken_120  : Nat → Int32 → Int32 → Int32 → GW → Option (Int32 × GW)
  | 0, _, _, _, _ => none
  | n9 + 1, x2, x3, x8, w =>
    if x3 ≤ x8 then
      if inb (x3 - 1) 3 then
      some ((gI w 138 (ix (x3 - 1))), w)
      else none
    else
      if inb x8 3 then
      if inb (gI w 138 (ix x8)) 5 then
      if x2 < (gI w 137 (ix (gI w 138 (ix x8)))) then
        f_X9_taken_120 n9 x2 x3 (x8 + 1) w
      else
        if inb x8 3 then
        some ((gI w 138 (ix x8)), w)
        else none
      else none
      else none
noncomputable def f_X9_taken_172  : Nat → Int32 → Int32 → Int32 → GW → Option (Int32 × GW)
  | 0, _, _, _, _ => none
  | n9 + 1, x3, x8, x9, w =>
    if x3 ≤ x9 then
      (f_X9_emptiest x8 w).bind fun q25 =>
      some (q25.1, q25.2)
    else
      if inb x9 3 then
      if inb 0 135 then
      if ¬ (gI w 133 (ix 0)) = 0 then
      f_X9_taken_172 n9 x3 (x8 ||| ((1 : Int32) <<< ((irm ((gI w 138 (ix x9)) + 1) (gI w 133 (ix 0))) &&& 31))) (x9 + 1) w
      else none
      else none
      else none
noncomputable def f_X9_taken_236  (t0 : Int32) (w : GW) : Option (Int32 × GW) :=
  (f_X9_emptiest t0 w).bind fun q31 =>
  some (q31.1, q31.2)
noncomputable def f_X9_taken (x1 : Int32) (x2 : Int32) (x3 : Int32) (x4 : Int32) (w : GW) : Option (Int32 × GW) :=
  (f_X9_seenBy x3 w).bind fun q1 =>
  if x1 = 0 then
    (f_X9_emptiest q1.1 q1.2).bind fun q4 =>
    if inb q4.1 5 then
    f_X9_taken_60 fu x3 x4 (gI q4.2 137 (ix q4.1)) 0 q4.2
    else none
  else
  if x1 = 1 then
    (f_X9_emptiest q1.1 q1.2).bind fun q14 =>
    some (q14.1, q14.2)
  else
  if x1 = 2 then
    f_X9_taken_120 fu x2 x3 0 q1.2
  else
  if x1 = 3 then
    f_X9_taken_172 fu x3 q1.1 0 q1.2
  else
  if 0 ≤ (gI q1.2 130 22) then
    f_X9_taken_236 (q1.1 ||| ((1 : Int32) <<< ((gI q1.2 130 22) &&& 31))) q1.2
  else
    f_X9_taken_236 q1.1 q1.2
set_option maxHeartbeats 4000000 in
set_option maxRecDepth 100000 in
theorem w_X9_taken_102 {p : Program} {l : Launch} {e : Env} {s : State} {m : MethodId} {args : Array Value} {below : List Frame} {meth : Method} {c : Code} {G : GG} (F : CallFix p m c cX9_taken 10 s args (wsU yX9_taken cX9_taken 10 (some .int)) RX9) (hr : meth.sig.returnType = (some .int)) (hlk : meth.locks = false) {z : Int32 × GW} {k_60 : Int32 → Int32 → Int32 → Int32 → GW → Option (Int32 × GW)} (Hk_60 : (∀ (x3 : Int32) (x6 : Int32) (x7 : Int32) (x8 : Int32) (w : GW) (H : Heap) (locs : List Loc) (ls : Array Slot), St G w s H locs → lv_has ls 10 [(0, .ref (gad G 130)), (3, .int x3), (6, .int x6), (7, .int x7), (8, .int x8)] → k_60 x3 x6 x7 x8 w = some z → W p l e (headSpec (wsU yX9_taken cX9_taken 10 (some .int)) rm_X9_taken).room s m args below meth c H locs 0 0 (MQ below (QI G z) args s 0 0 (gA G)) (F0 m 60 ls []))) : (∀ (x3 : Int32) (x6 : Int32) (x7 : Int32) (x8 : Int32) (w : GW) (H : Heap) (locs : List Loc) (ls : Array Slot), St G w s H locs → lv_has ls 10 [(0, .ref (gad G 130)), (3, .int x3), (6, .int x6), (7, .int x7), (8, .int x8)] → f_X9_taken_102 k_60 x3 x6 x7 x8 w = some z → W p l e (headSpec (wsU yX9_taken cX9_taken 10 (some .int)) rm_X9_taken).room s m args below meth c H locs 0 0 (MQ below (QI G z) args s 0 0 (gA G)) (F0 m 102 ls [])) := by
  obtain ⟨hx, hb, hml, hown, hts⟩ := id F
  have hg : ∀ q ∈ lwg, q.before args s = true := fun q h => hts q (List.mem_cons_of_mem _ h)
  intro x3 x6 x7 x8 w H locs ls S hl hz
  rw [f_X9_taken_102] at hz
  refine lv_iinc (v := (x8 + 1)) (lv' := [(8, .int (x8 + 1)), (0, .ref (gad G 130)), (3, .int x3), (6, .int x6), (7, .int x7)]) hx hb dX9_taken_102 hl (k := 4) rfl rfl (by decide) rfl (fun ls hl => ?_)
  refine lv_goto (tgt := 60) hx hb dX9_taken_105 (by decide) ?_
  exact Hk_60 x3 x6 x7 (x8 + 1)  _ _ _ _ S (lv_sub hl [1, 2, 3, 4, 0] rfl) hz
set_option maxHeartbeats 4000000 in
set_option maxRecDepth 100000 in
theorem w_X9_taken_60 {p : Program} {l : Launch} {e : Env} {s : State} {m : MethodId} {args : Array Value} {below : List Frame} {meth : Method} {c : Code} {G : GG} (F : CallFix p m c cX9_taken 10 s args (wsU yX9_taken cX9_taken 10 (some .int)) RX9) (hr : meth.sig.returnType = (some .int)) (hlk : meth.locks = false) {z : Int32 × GW} : ∀ (n9 : Nat), (∀ (x3 : Int32) (x6 : Int32) (x7 : Int32) (x8 : Int32) (w : GW) (H : Heap) (locs : List Loc) (ls : Array Slot), St G w s H locs → lv_has ls 10 [(0, .ref (gad G 130)), (3, .int x3), (6, .int x6), (7, .int x7), (8, .int x8)] → f_X9_taken_60 n9 x3 x6 x7 x8 w = some z → W p l e (headSpec (wsU yX9_taken cX9_taken 10 (some .int)) rm_X9_taken).room s m args below meth c H locs 0 0 (MQ below (QI G z) args s 0 0 (gA G)) (F0 m 60 ls [])) := by
  obtain ⟨hx, hb, hml, hown, hts⟩ := id F
  have hg : ∀ q ∈ lwg, q.before args s = true := fun q h => hts q (List.mem_cons_of_mem _ h)
  intro n9
  induction n9 with
  | zero =>
    intro x3 x6 x7 x8 w H locs ls S hl hz
    rw [f_X9_taken_60] at hz
    cases hz
  | succ n9 ih =>
    intro x3 x6 x7 x8 w H locs ls S hl hz
    rw [f_X9_taken_60] at hz
    refine lv_iload hx hb dX9_taken_60 (lv_at hl 4 rfl) ?_
    refine lv_iload_n hx hb dX9_taken_62 rfl (lv_at hl 1 rfl) ?_
    refine lv_icmp_ge (tgt := 108) hx hb dX9_taken_63 (by decide) (fun c7 => ?_) (fun c7 => ?_)
    · have hz := ipt (c7) hz
      refine lv_iconst (v := (-1)) hx hb dX9_taken_108 (by decide) ?_
      exact g_reti hx hb hr hlk S hz dX9_taken_109
    · have hz := ipf (c7) hz
      refine lv_aload_n hx hb dX9_taken_66 rfl (lv_at hl 0 rfl) ?_
      refine fg_X9_20 hx hb (fun q h => hg q (tl_X9 q h)) hown (hg _ t_fl_X9_32) S (by decide) dX9_taken_67 ?_
      refine lv_aload_n hx hb dX9_taken_70 rfl (lv_at hl 0 rfl) ?_
      refine fg_X9_21 hx hb (fun q h => hg q (tl_X9 q h)) hown (hg _ t_fl_X9_35) S (by decide) dX9_taken_71 ?_
      refine lv_iload hx hb dX9_taken_74 (lv_at hl 4 rfl) ?_
      obtain ⟨h8, hz⟩ := ck hz
      refine g_iald hx hb S (isA_12 (by decide)) h8 dX9_taken_76 ?_
      obtain ⟨h9, hz⟩ := ck hz
      refine g_iald hx hb S (isA_10 (by decide)) h9 dX9_taken_77 ?_
      refine lv_iload hx hb dX9_taken_78 (lv_at hl 3 rfl) ?_
      refine lv_icmp_eq (tgt := 86) hx hb dX9_taken_80 (by decide) (fun c10 => ?_) (fun c10 => ?_)
      · have hz := ipt (c10) hz
        refine lv_iload hx hb dX9_taken_86 (lv_at hl 2 rfl) ?_
        refine lv_if_ne (tgt := 99) hx hb dX9_taken_88 (by decide) (fun c11 => ?_) (fun c11 => ?_)
        · have hz := ipf (c11) hz
          refine lv_iinc (v := (x6 + (-1))) (lv' := [(6, .int (x6 + (-1))), (0, .ref (gad G 130)), (3, .int x3), (7, .int x7), (8, .int x8)]) hx hb dX9_taken_99 hl (k := 2) rfl (by rw [show Int32.ofInt (-1) = (-1) from by decide]) (by decide) rfl (fun ls hl => ?_)
          exact w_X9_taken_102 F hr hlk ih x3 (x6 + (-1)) x7 x8 _ _ _ _ S (lv_sub hl [1, 2, 0, 3, 4] rfl) hz
        · have hz := ipt (c11) hz
          refine lv_aload_n hx hb dX9_taken_91 rfl (lv_at hl 0 rfl) ?_
          refine fg_X9_21 hx hb (fun q h => hg q (tl_X9 q h)) hown (hg _ t_fl_X9_35) S (by decide) dX9_taken_92 ?_
          refine lv_iload hx hb dX9_taken_95 (lv_at hl 4 rfl) ?_
          obtain ⟨h12, hz⟩ := ck hz
          refine g_iald hx hb S (isA_12 (by decide)) h12 dX9_taken_97 ?_
          exact g_reti hx hb hr hlk S hz dX9_taken_98
      · have hz := ipf (c10) hz
        refine lv_goto (tgt := 102) hx hb dX9_taken_83 (by decide) ?_
        exact w_X9_taken_102 F hr hlk ih x3 x6 x7 x8 _ _ _ _ S (lv_sub hl [0, 1, 2, 3, 4] rfl) hz
set_option maxHeartbeats 4000000 in
set_option maxRecDepth 100000 in
theorem w_X9_taken_120 {p : Program} {l : Launch} {e : Env} {s : State} {m : MethodId} {args : Array Value} {below : List Frame} {meth : Method} {c : Code} {G : GG} (F : CallFix p m c cX9_taken 10 s args (wsU yX9_taken cX9_taken 10 (some .int)) RX9) (hr : meth.sig.returnType = (some .int)) (hlk : meth.locks = false) {z : Int32 × GW} : ∀ (n9 : Nat), (∀ (x2 : Int32) (x3 : Int32) (x8 : Int32) (w : GW) (H : Heap) (locs : List Loc) (ls : Array Slot), St G w s H locs → lv_has ls 10 [(0, .ref (gad G 130)), (2, .int x2), (3, .int x3), (8, .int x8)] → f_X9_taken_120 n9 x2 x3 x8 w = some z → W p l e (headSpec (wsU yX9_taken cX9_taken 10 (some .int)) rm_X9_taken).room s m args below meth c H locs 0 0 (MQ below (QI G z) args s 0 0 (gA G)) (F0 m 120 ls [])) := by
  obtain ⟨hx, hb, hml, hown, hts⟩ := id F
  have hg : ∀ q ∈ lwg, q.before args s = true := fun q h => hts q (List.mem_cons_of_mem _ h)
  intro n9
  induction n9 with
  | zero =>
    intro x2 x3 x8 w H locs ls S hl hz
    rw [f_X9_taken_120] at hz
    cases hz
  | succ n9 ih =>
    intro x2 x3 x8 w H locs ls S hl hz
    rw [f_X9_taken_120] at hz
    refine lv_iload hx hb dX9_taken_120 (lv_at hl 3 rfl) ?_
    refine lv_iload_n hx hb dX9_taken_122 rfl (lv_at hl 2 rfl) ?_
    refine lv_icmp_ge (tgt := 156) hx hb dX9_taken_123 (by decide) (fun c17 => ?_) (fun c17 => ?_)
    · have hz := ipt (c17) hz
      refine lv_aload_n hx hb dX9_taken_156 rfl (lv_at hl 0 rfl) ?_
      refine fg_X9_21 hx hb (fun q h => hg q (tl_X9 q h)) hown (hg _ t_fl_X9_35) S (by decide) dX9_taken_157 ?_
      refine lv_iload_n hx hb dX9_taken_160 rfl (lv_at hl 2 rfl) ?_
      refine lv_iconst (v := 1) hx hb dX9_taken_161 (by decide) ?_
      refine lv_isub hx hb dX9_taken_162 ?_
      obtain ⟨h18, hz⟩ := ck hz
      refine g_iald hx hb S (isA_12 (by decide)) h18 dX9_taken_163 ?_
      exact g_reti hx hb hr hlk S hz dX9_taken_164
    · have hz := ipf (c17) hz
      refine lv_aload_n hx hb dX9_taken_126 rfl (lv_at hl 0 rfl) ?_
      refine fg_X9_20 hx hb (fun q h => hg q (tl_X9 q h)) hown (hg _ t_fl_X9_32) S (by decide) dX9_taken_127 ?_
      refine lv_aload_n hx hb dX9_taken_130 rfl (lv_at hl 0 rfl) ?_
      refine fg_X9_21 hx hb (fun q h => hg q (tl_X9 q h)) hown (hg _ t_fl_X9_35) S (by decide) dX9_taken_131 ?_
      refine lv_iload hx hb dX9_taken_134 (lv_at hl 3 rfl) ?_
      obtain ⟨h19, hz⟩ := ck hz
      refine g_iald hx hb S (isA_12 (by decide)) h19 dX9_taken_136 ?_
      obtain ⟨h20, hz⟩ := ck hz
      refine g_iald hx hb S (isA_10 (by decide)) h20 dX9_taken_137 ?_
      refine lv_iload_n hx hb dX9_taken_138 rfl (lv_at hl 1 rfl) ?_
      refine lv_icmp_gt (tgt := 150) hx hb dX9_taken_139 (by decide) (fun c21 => ?_) (fun c21 => ?_)
      · have hz := ipt (c21) hz
        refine lv_iinc (v := (x8 + 1)) (lv' := [(8, .int (x8 + 1)), (0, .ref (gad G 130)), (2, .int x2), (3, .int x3)]) hx hb dX9_taken_150 hl (k := 3) rfl rfl (by decide) rfl (fun ls hl => ?_)
        refine lv_goto (tgt := 120) hx hb dX9_taken_153 (by decide) ?_
        exact ih x2 x3 (x8 + 1)  _ _ _ _ S (lv_sub hl [1, 2, 3, 0] rfl) hz
      · have hz := ipf (c21) hz
        refine lv_aload_n hx hb dX9_taken_142 rfl (lv_at hl 0 rfl) ?_
        refine fg_X9_21 hx hb (fun q h => hg q (tl_X9 q h)) hown (hg _ t_fl_X9_35) S (by decide) dX9_taken_143 ?_
        refine lv_iload hx hb dX9_taken_146 (lv_at hl 3 rfl) ?_
        obtain ⟨h22, hz⟩ := ck hz
        refine g_iald hx hb S (isA_12 (by decide)) h22 dX9_taken_148 ?_
        exact g_reti hx hb hr hlk S hz dX9_taken_149
set_option maxHeartbeats 4000000 in
set_option maxRecDepth 100000 in
theorem w_X9_taken_172 {p : Program} {l : Launch} {e : Env} {s : State} {m : MethodId} {args : Array Value} {below : List Frame} {meth : Method} {c : Code} {G : GG} (F : CallFix p m c cX9_taken 10 s args (wsU yX9_taken cX9_taken 10 (some .int)) RX9) (hr : meth.sig.returnType = (some .int)) (hlk : meth.locks = false) {z : Int32 × GW} : ∀ (n9 : Nat), (∀ (x3 : Int32) (x8 : Int32) (x9 : Int32) (w : GW) (H : Heap) (locs : List Loc) (ls : Array Slot), St G w s H locs → lv_has ls 10 [(0, .ref (gad G 130)), (3, .int x3), (8, .int x8), (9, .int x9)] → f_X9_taken_172 n9 x3 x8 x9 w = some z → W p l e (headSpec (wsU yX9_taken cX9_taken 10 (some .int)) rm_X9_taken).room s m args below meth c H locs 0 0 (MQ below (QI G z) args s 0 0 (gA G)) (F0 m 172 ls [])) := by
  obtain ⟨hx, hb, hml, hown, hts⟩ := id F
  have hg : ∀ q ∈ lwg, q.before args s = true := fun q h => hts q (List.mem_cons_of_mem _ h)
  intro n9
  induction n9 with
  | zero =>
    intro x3 x8 x9 w H locs ls S hl hz
    rw [f_X9_taken_172] at hz
    cases hz
  | succ n9 ih =>
    intro x3 x8 x9 w H locs ls S hl hz
    rw [f_X9_taken_172] at hz
    refine lv_iload hx hb dX9_taken_172 (lv_at hl 3 rfl) ?_
    refine lv_iload_n hx hb dX9_taken_174 rfl (lv_at hl 1 rfl) ?_
    refine lv_icmp_ge (tgt := 207) hx hb dX9_taken_175 (by decide) (fun c24 => ?_) (fun c24 => ?_)
    · have hz := ipt (c24) hz
      refine lv_aload_n hx hb dX9_taken_207 rfl (lv_at hl 0 rfl) ?_
      refine lv_iload hx hb dX9_taken_208 (lv_at hl 2 rfl) ?_
      obtain ⟨q25, e26, hz⟩ := bd hz
      refine g_callVi (As := [.int x8]) (rest := []) F S (c_X9_emptiest l G x8  _ e26) (cw_X9_taken_X9_emptiest_234 hg) (S.obj (by decide) (by decide) rfl (oc_X9 _ _ _ (by decide))) rfl hl.1 rfl (Nat.le_of_ble_eq_true rfl) ⟨Nat.zero_le _, Nat.zero_le _⟩ dX9_taken_210 (fun H locs  S => ?_)
      exact g_reti hx hb hr hlk S hz dX9_taken_213
    · have hz := ipf (c24) hz
      refine lv_iload hx hb dX9_taken_178 (lv_at hl 2 rfl) ?_
      refine lv_iconst (v := 1) hx hb dX9_taken_180 (by decide) ?_
      refine lv_aload_n hx hb dX9_taken_181 rfl (lv_at hl 0 rfl) ?_
      refine fg_X9_21 hx hb (fun q h => hg q (tl_X9 q h)) hown (hg _ t_fl_X9_35) S (by decide) dX9_taken_182 ?_
      refine lv_iload hx hb dX9_taken_185 (lv_at hl 3 rfl) ?_
      obtain ⟨h27, hz⟩ := ck hz
      refine g_iald hx hb S (isA_12 (by decide)) h27 dX9_taken_187 ?_
      refine lv_iconst (v := 1) hx hb dX9_taken_188 (by decide) ?_
      refine lv_iadd hx hb dX9_taken_189 ?_
      refine lv_aload_n hx hb dX9_taken_190 rfl (lv_at hl 0 rfl) ?_
      refine fg_X9_15 hx hb (fun q h => hg q (tl_X9 q h)) hown (hg _ t_fl_X9_20) S (by decide) dX9_taken_191 ?_
      refine lv_iconst (v := 0) hx hb dX9_taken_194 (by decide) ?_
      obtain ⟨h28, hz⟩ := ck hz
      refine g_iald hx hb S (isA_15 (by decide)) h28 dX9_taken_195 ?_
      obtain ⟨h29, hz⟩ := ck hz
      refine g_irem hx hb dX9_taken_196 h29 ?_
      refine lv_ishl hx hb dX9_taken_197 ?_
      refine lv_ior hx hb dX9_taken_198 ?_
      refine lv_istore (lv' := [(8, .int (x8 ||| ((1 : Int32) <<< ((irm ((gI w 138 (ix x9)) + 1) (gI w 133 (ix 0))) &&& 31)))), (0, .ref (gad G 130)), (3, .int x3), (9, .int x9)]) hx hb dX9_taken_199 hl (by decide) rfl (fun ls hl => ?_)
      refine lv_iinc (v := (x9 + 1)) (lv' := [(9, .int (x9 + 1)), (8, .int (x8 ||| ((1 : Int32) <<< ((irm ((gI w 138 (ix x9)) + 1) (gI w 133 (ix 0))) &&& 31)))), (0, .ref (gad G 130)), (3, .int x3)]) hx hb dX9_taken_201 hl (k := 3) rfl rfl (by decide) rfl (fun ls hl => ?_)
      refine lv_goto (tgt := 172) hx hb dX9_taken_204 (by decide) ?_
      exact ih x3 (x8 ||| ((1 : Int32) <<< ((irm ((gI w 138 (ix x9)) + 1) (gI w 133 (ix 0))) &&& 31))) (x9 + 1)  _ _ _ _ S (lv_sub hl [2, 3, 1, 0] rfl) hz
set_option maxHeartbeats 4000000 in
set_option maxRecDepth 100000 in
theorem w_X9_taken_236 {p : Program} {l : Launch} {e : Env} {s : State} {m : MethodId} {args : Array Value} {below : List Frame} {meth : Method} {c : Code} {G : GG} (F : CallFix p m c cX9_taken 10 s args (wsU yX9_taken cX9_taken 10 (some .int)) RX9) (hr : meth.sig.returnType = (some .int)) (hlk : meth.locks = false) {z : Int32 × GW} : (∀ (t0 : Int32) (w : GW) (H : Heap) (locs : List Loc) (ls : Array Slot), St G w s H locs → lv_has ls 10 [] → f_X9_taken_236 t0 w = some z → W p l e (headSpec (wsU yX9_taken cX9_taken 10 (some .int)) rm_X9_taken).room s m args below meth c H locs 0 0 (MQ below (QI G z) args s 0 0 (gA G)) (F0 m 236 ls [.int t0, .ref (gad G 130)])) := by
  obtain ⟨hx, hb, hml, hown, hts⟩ := id F
  have hg : ∀ q ∈ lwg, q.before args s = true := fun q h => hts q (List.mem_cons_of_mem _ h)
  intro t0 w H locs ls S hl hz
  rw [f_X9_taken_236] at hz
  obtain ⟨q31, e32, hz⟩ := bd hz
  refine g_callVi (As := [.int t0]) (rest := []) F S (c_X9_emptiest l G t0  _ e32) (cw_X9_taken_X9_emptiest_234 hg) (S.obj (by decide) (by decide) rfl (oc_X9 _ _ _ (by decide))) rfl hl.1 rfl (Nat.le_of_ble_eq_true rfl) ⟨Nat.zero_le _, Nat.zero_le _⟩ dX9_taken_236 (fun H locs  S => ?_)
  exact g_reti hx hb hr hlk S hz dX9_taken_239
set_option maxHeartbeats 4000000 in
set_option maxRecDepth 100000 in
theorem c_X9_taken (l : Launch) (G : GG) (x1 : Int32) (x2 : Int32) (x3 : Int32) (x4 : Int32)  (w : GW) {z : Int32 × GW} (hz : f_X9_taken x1 x2 x3 x4 w = some z) : Met l yX9_taken (wsU yX9_taken cX9_taken 10 (some .int)) rm_X9_taken (va_Pc [.ref (gad G 130), .int x1, .int x2, .int x3, .int x4] (PreG G w)) (QI G z) 0 0 (gA G) := by
  refine Met.ofW (cc := cX9_taken) (maxL := 10) (ret := (some .int)) (by decide) rfl ?_
  intro p e s m args below meth c s₁ B hml hv
  obtain ⟨rfl, S⟩ := hv
  have F : CallFix p m c cX9_taken 10 s _ (wsU yX9_taken cX9_taken 10 (some .int)) RX9 := ⟨B.exec, B.bytes, hml, findClass_of_methodNamed B.named, atoms_spec B.pre⟩
  have hr := B.returns
  have hlk := B.notSynchronized
  obtain ⟨hx, hb, -, hown, hts⟩ := id F
  have hg : ∀ q ∈ lwg, q.before _ s = true := fun q h => hts q (List.mem_cons_of_mem _ h)
  refine g_entry (Nat.le_of_ble_eq_true rfl) (fun ls hl => ?_)
  have hl : lv_has ls 10 [(0, .ref (gad G 130)), (1, .int x1), (2, .int x2), (3, .int x3), (4, .int x4)] := hl
  have S : St G w s s.heap [] := S
  generalize s.heap = H at S ⊢
  generalize ([] : List Loc) = locs at S ⊢
  rw [f_X9_taken] at hz
  refine lv_aload_n hx hb dX9_taken_0 rfl (lv_at hl 0 rfl) ?_
  refine lv_iload_n hx hb dX9_taken_1 rfl (lv_at hl 3 rfl) ?_
  obtain ⟨q1, e2, hz⟩ := bd hz
  refine g_callVi (As := [.int x3]) (rest := []) F S (c_X9_seenBy l G x3  _ e2) (cw_X9_taken_X9_seenBy_231 hg) (S.obj (by decide) (by decide) rfl (oc_X9 _ _ _ (by decide))) rfl hl.1 rfl (Nat.le_of_ble_eq_true rfl) ⟨Nat.zero_le _, Nat.zero_le _⟩ dX9_taken_2 (fun H locs  S => ?_)
  refine lv_istore (lv' := [(5, .int q1.1), (0, .ref (gad G 130)), (1, .int x1), (2, .int x2), (3, .int x3), (4, .int x4)]) hx hb dX9_taken_5 hl (by decide) rfl (fun ls hl => ?_)
  refine lv_iload_n hx hb dX9_taken_7 rfl (lv_at hl 2 rfl) ?_
  by_cases c3 : x1 = 0
  · have hz := ipt c3 hz
    refine lv_tableIn (off := 32) (tgt := 40) hx hb dX9_taken_8 (by rw [c3]; decide) (by rw [c3]; decide) (by rw [c3]; rfl) (by decide) ?_
    refine lv_iload hx hb dX9_taken_40 (lv_at hl 5 rfl) ?_
    refine lv_istore (lv' := [(6, .int x4), (5, .int q1.1), (0, .ref (gad G 130)), (1, .int x1), (2, .int x2), (3, .int x3), (4, .int x4)]) hx hb dX9_taken_42 hl (by decide) rfl (fun ls hl => ?_)
    refine lv_aload_n hx hb dX9_taken_44 rfl (lv_at hl 2 rfl) ?_
    refine fg_X9_20 hx hb (fun q h => hg q (tl_X9 q h)) hown (hg _ t_fl_X9_32) S (by decide) dX9_taken_45 ?_
    refine lv_aload_n hx hb dX9_taken_48 rfl (lv_at hl 2 rfl) ?_
    refine lv_iload hx hb dX9_taken_49 (lv_at hl 1 rfl) ?_
    obtain ⟨q4, e5, hz⟩ := bd hz
    refine g_callVi (As := [.int q1.1]) (rest := [.ref (gad G 137)]) F S (c_X9_emptiest l G q1.1  _ e5) (cw_X9_taken_X9_emptiest_234 hg) (S.obj (by decide) (by decide) rfl (oc_X9 _ _ _ (by decide))) rfl hl.1 rfl (Nat.le_of_ble_eq_true rfl) ⟨Nat.zero_le _, Nat.zero_le _⟩ dX9_taken_51 (fun H locs  S => ?_)
    obtain ⟨h6, hz⟩ := ck hz
    refine g_iald hx hb S (isA_10 (by decide)) h6 dX9_taken_54 ?_
    refine lv_istore (lv' := [(7, .int (gI q4.2 137 (ix q4.1))), (6, .int x4), (5, .int q1.1), (0, .ref (gad G 130)), (1, .int x1), (2, .int x2), (3, .int x3), (4, .int x4)]) hx hb dX9_taken_55 hl (by decide) rfl (fun ls hl => ?_)
    refine lv_iconst (v := 0) hx hb dX9_taken_57 (by decide) ?_
    refine lv_istore (lv' := [(8, .int 0), (7, .int (gI q4.2 137 (ix q4.1))), (6, .int x4), (5, .int q1.1), (0, .ref (gad G 130)), (1, .int x1), (2, .int x2), (3, .int x3), (4, .int x4)]) hx hb dX9_taken_58 hl (by decide) rfl (fun ls hl => ?_)
    exact w_X9_taken_60 F hr hlk fu x3 x4 (gI q4.2 137 (ix q4.1)) 0 _ _ _ _ S (lv_sub hl [4, 7, 2, 1, 0] rfl) hz
  have hz := ipf c3 hz
  by_cases c13 : x1 = 1
  · have hz := ipt c13 hz
    refine lv_tableIn (off := 102) (tgt := 110) hx hb dX9_taken_8 (by rw [c13]; decide) (by rw [c13]; decide) (by rw [c13]; rfl) (by decide) ?_
    refine lv_aload_n hx hb dX9_taken_110 rfl (lv_at hl 1 rfl) ?_
    refine lv_iload hx hb dX9_taken_111 (lv_at hl 0 rfl) ?_
    obtain ⟨q14, e15, hz⟩ := bd hz
    refine g_callVi (As := [.int q1.1]) (rest := []) F S (c_X9_emptiest l G q1.1  _ e15) (cw_X9_taken_X9_emptiest_234 hg) (S.obj (by decide) (by decide) rfl (oc_X9 _ _ _ (by decide))) rfl hl.1 rfl (Nat.le_of_ble_eq_true rfl) ⟨Nat.zero_le _, Nat.zero_le _⟩ dX9_taken_113 (fun H locs  S => ?_)
    exact g_reti hx hb hr hlk S hz dX9_taken_116
  have hz := ipf c13 hz
  by_cases c16 : x1 = 2
  · have hz := ipt c16 hz
    refine lv_tableIn (off := 109) (tgt := 117) hx hb dX9_taken_8 (by rw [c16]; decide) (by rw [c16]; decide) (by rw [c16]; rfl) (by decide) ?_
    refine lv_iconst (v := 0) hx hb dX9_taken_117 (by decide) ?_
    refine lv_istore (lv' := [(8, .int 0), (5, .int q1.1), (0, .ref (gad G 130)), (1, .int x1), (2, .int x2), (3, .int x3), (4, .int x4)]) hx hb dX9_taken_118 hl (by decide) rfl (fun ls hl => ?_)
    exact w_X9_taken_120 F hr hlk fu x2 x3 0 _ _ _ _ S (lv_sub hl [2, 4, 5, 0] rfl) hz
  have hz := ipf c16 hz
  by_cases c23 : x1 = 3
  · have hz := ipt c23 hz
    refine lv_tableIn (off := 157) (tgt := 165) hx hb dX9_taken_8 (by rw [c23]; decide) (by rw [c23]; decide) (by rw [c23]; rfl) (by decide) ?_
    refine lv_iload hx hb dX9_taken_165 (lv_at hl 0 rfl) ?_
    refine lv_istore (lv' := [(8, .int q1.1), (5, .int q1.1), (0, .ref (gad G 130)), (1, .int x1), (2, .int x2), (3, .int x3), (4, .int x4)]) hx hb dX9_taken_167 hl (by decide) rfl (fun ls hl => ?_)
    refine lv_iconst (v := 0) hx hb dX9_taken_169 (by decide) ?_
    refine lv_istore (lv' := [(9, .int 0), (8, .int q1.1), (5, .int q1.1), (0, .ref (gad G 130)), (1, .int x1), (2, .int x2), (3, .int x3), (4, .int x4)]) hx hb dX9_taken_170 hl (by decide) rfl (fun ls hl => ?_)
    exact w_X9_taken_172 F hr hlk fu x3 q1.1 0 _ _ _ _ S (lv_sub hl [3, 6, 1, 0] rfl) hz
  have hz := ipf c23 hz
  have hsw := tsw_out 4 (by decide) (show ∀ j : Nat, j < 4 → ¬ x1 = Int32.ofNat j from (lt_s (lt_s (lt_s (lt_s lt_0 c3) c13) c16) c23))
  refine lv_tableOut (tgt := 214) hx hb dX9_taken_8 hsw (by decide) ?_
  refine lv_aload_n hx hb dX9_taken_214 rfl (lv_at hl 1 rfl) ?_
  refine lv_aload_n hx hb dX9_taken_215 rfl (lv_at hl 1 rfl) ?_
  refine fg_X9_22 hx hb (fun q h => hg q (tl_X9 q h)) hown (hg _ t_fl_X9_228) S (by decide) dX9_taken_216 ?_
  refine lv_if_ge (tgt := 227) hx hb dX9_taken_219 (by decide) (fun c30 => ?_) (fun c30 => ?_)
  · have hz := ipt (c30) hz
    refine lv_iload hx hb dX9_taken_227 (lv_at hl 0 rfl) ?_
    refine lv_iconst (v := 1) hx hb dX9_taken_229 (by decide) ?_
    refine lv_aload_n hx hb dX9_taken_230 rfl (lv_at hl 1 rfl) ?_
    refine fg_X9_22 hx hb (fun q h => hg q (tl_X9 q h)) hown (hg _ t_fl_X9_228) S (by decide) dX9_taken_231 ?_
    refine lv_ishl hx hb dX9_taken_234 ?_
    refine lv_ior hx hb dX9_taken_235 ?_
    exact w_X9_taken_236 F hr hlk (q1.1 ||| ((1 : Int32) <<< ((gI q1.2 130 22) &&& 31))) _ _ _ _ S (lv_sub hl [] rfl) hz
  · have hz := ipf (c30) hz
    refine lv_iload hx hb dX9_taken_222 (lv_at hl 0 rfl) ?_
    refine lv_goto (tgt := 236) hx hb dX9_taken_224 (by decide) ?_
    exact w_X9_taken_236 F hr hlk q1.1 _ _ _ _ S (lv_sub hl [] rfl) hz
noncomputable def f_X9_ties_48 (k_20 : Int32 → Int32 → Int32 → Int32 → GW → Option (Int32 × GW)) (x1 : Int32) (x2 : Int32) (x4 : Int32) (t0 : Int32) (t1 : Int32) (w : GW) : Option (Int32 × GW) :=
  k_20 x1 x2 (t1 + t0) (x4 + 1) w
noncomputable def f_X9_ties_20  : Nat → Int32 → Int32 → Int32 → Int32 → GW → Option (Int32 × GW)
  | 0, _, _, _, _, _ => none
  | n9 + 1, x1, x2, x3, x4, w =>
    if x1 ≤ x4 then
      some (x3, w)
    else
      if inb x4 3 then
      if inb (gI w 138 (ix x4)) 5 then
      if (gI w 137 (ix (gI w 138 (ix x4)))) = x2 then
        f_X9_ties_48 (f_X9_ties_20 n9) x1 x2 x4 1 x3 w
      else
        f_X9_ties_48 (f_X9_ties_20 n9) x1 x2 x4 0 x3 w
      else none
      else none
noncomputable def f_X9_ties (x1 : Int32) (w : GW) : Option (Int32 × GW) :=
  (f_X9_seenBy x1 w).bind fun q1 =>
  (f_X9_emptiest q1.1 q1.2).bind fun q3 =>
  if inb q3.1 5 then
  f_X9_ties_20 fu x1 (gI q3.2 137 (ix q3.1)) 0 0 q3.2
  else none
set_option maxHeartbeats 4000000 in
set_option maxRecDepth 100000 in
theorem w_X9_ties_48 {p : Program} {l : Launch} {e : Env} {s : State} {m : MethodId} {args : Array Value} {below : List Frame} {meth : Method} {c : Code} {G : GG} (F : CallFix p m c cX9_ties 5 s args (wsU yX9_ties cX9_ties 5 (some .int)) RX9) (hr : meth.sig.returnType = (some .int)) (hlk : meth.locks = false) {z : Int32 × GW} {k_20 : Int32 → Int32 → Int32 → Int32 → GW → Option (Int32 × GW)} (Hk_20 : (∀ (x1 : Int32) (x2 : Int32) (x3 : Int32) (x4 : Int32) (w : GW) (H : Heap) (locs : List Loc) (ls : Array Slot), St G w s H locs → lv_has ls 5 [(0, .ref (gad G 130)), (1, .int x1), (2, .int x2), (3, .int x3), (4, .int x4)] → k_20 x1 x2 x3 x4 w = some z → W p l e (headSpec (wsU yX9_ties cX9_ties 5 (some .int)) rm_X9_ties).room s m args below meth c H locs 0 0 (MQ below (QI G z) args s 0 0 (gA G)) (F0 m 20 ls []))) : (∀ (x1 : Int32) (x2 : Int32) (x4 : Int32) (t0 : Int32) (t1 : Int32) (w : GW) (H : Heap) (locs : List Loc) (ls : Array Slot), St G w s H locs → lv_has ls 5 [(0, .ref (gad G 130)), (1, .int x1), (2, .int x2), (4, .int x4)] → f_X9_ties_48 k_20 x1 x2 x4 t0 t1 w = some z → W p l e (headSpec (wsU yX9_ties cX9_ties 5 (some .int)) rm_X9_ties).room s m args below meth c H locs 0 0 (MQ below (QI G z) args s 0 0 (gA G)) (F0 m 48 ls [.int t0, .int t1])) := by
  obtain ⟨hx, hb, hml, hown, hts⟩ := id F
  have hg : ∀ q ∈ lwg, q.before args s = true := fun q h => hts q (List.mem_cons_of_mem _ h)
  intro x1 x2 x4 t0 t1 w H locs ls S hl hz
  rw [f_X9_ties_48] at hz
  refine lv_iadd hx hb dX9_ties_48 ?_
  refine lv_istore_n (lv' := [(3, .int (t1 + t0)), (0, .ref (gad G 130)), (1, .int x1), (2, .int x2), (4, .int x4)]) hx hb dX9_ties_49 rfl hl (by decide) rfl (fun ls hl => ?_)
  refine lv_iinc (v := (x4 + 1)) (lv' := [(4, .int (x4 + 1)), (3, .int (t1 + t0)), (0, .ref (gad G 130)), (1, .int x1), (2, .int x2)]) hx hb dX9_ties_50 hl (k := 4) rfl rfl (by decide) rfl (fun ls hl => ?_)
  refine lv_goto (tgt := 20) hx hb dX9_ties_53 (by decide) ?_
  exact Hk_20 x1 x2 (t1 + t0) (x4 + 1)  _ _ _ _ S (lv_sub hl [2, 3, 4, 1, 0] rfl) hz
set_option maxHeartbeats 4000000 in
set_option maxRecDepth 100000 in
theorem w_X9_ties_20 {p : Program} {l : Launch} {e : Env} {s : State} {m : MethodId} {args : Array Value} {below : List Frame} {meth : Method} {c : Code} {G : GG} (F : CallFix p m c cX9_ties 5 s args (wsU yX9_ties cX9_ties 5 (some .int)) RX9) (hr : meth.sig.returnType = (some .int)) (hlk : meth.locks = false) {z : Int32 × GW} : ∀ (n9 : Nat), (∀ (x1 : Int32) (x2 : Int32) (x3 : Int32) (x4 : Int32) (w : GW) (H : Heap) (locs : List Loc) (ls : Array Slot), St G w s H locs → lv_has ls 5 [(0, .ref (gad G 130)), (1, .int x1), (2, .int x2), (3, .int x3), (4, .int x4)] → f_X9_ties_20 n9 x1 x2 x3 x4 w = some z → W p l e (headSpec (wsU yX9_ties cX9_ties 5 (some .int)) rm_X9_ties).room s m args below meth c H locs 0 0 (MQ below (QI G z) args s 0 0 (gA G)) (F0 m 20 ls [])) := by
  obtain ⟨hx, hb, hml, hown, hts⟩ := id F
  have hg : ∀ q ∈ lwg, q.before args s = true := fun q h => hts q (List.mem_cons_of_mem _ h)
  intro n9
  induction n9 with
  | zero =>
    intro x1 x2 x3 x4 w H locs ls S hl hz
    rw [f_X9_ties_20] at hz
    cases hz
  | succ n9 ih =>
    intro x1 x2 x3 x4 w H locs ls S hl hz
    rw [f_X9_ties_20] at hz
    refine lv_iload hx hb dX9_ties_20 (lv_at hl 4 rfl) ?_
    refine lv_iload_n hx hb dX9_ties_22 rfl (lv_at hl 1 rfl) ?_
    refine lv_icmp_ge (tgt := 56) hx hb dX9_ties_23 (by decide) (fun c6 => ?_) (fun c6 => ?_)
    · have hz := ipt (c6) hz
      refine lv_iload_n hx hb dX9_ties_56 rfl (lv_at hl 3 rfl) ?_
      exact g_reti hx hb hr hlk S hz dX9_ties_57
    · have hz := ipf (c6) hz
      refine lv_iload_n hx hb dX9_ties_26 rfl (lv_at hl 3 rfl) ?_
      refine lv_aload_n hx hb dX9_ties_27 rfl (lv_at hl 0 rfl) ?_
      refine fg_X9_20 hx hb (fun q h => hg q (tl_X9 q h)) hown (hg _ t_fl_X9_32) S (by decide) dX9_ties_28 ?_
      refine lv_aload_n hx hb dX9_ties_31 rfl (lv_at hl 0 rfl) ?_
      refine fg_X9_21 hx hb (fun q h => hg q (tl_X9 q h)) hown (hg _ t_fl_X9_35) S (by decide) dX9_ties_32 ?_
      refine lv_iload hx hb dX9_ties_35 (lv_at hl 4 rfl) ?_
      obtain ⟨h7, hz⟩ := ck hz
      refine g_iald hx hb S (isA_12 (by decide)) h7 dX9_ties_37 ?_
      obtain ⟨h8, hz⟩ := ck hz
      refine g_iald hx hb S (isA_10 (by decide)) h8 dX9_ties_38 ?_
      refine lv_iload_n hx hb dX9_ties_39 rfl (lv_at hl 2 rfl) ?_
      refine lv_icmp_ne (tgt := 47) hx hb dX9_ties_40 (by decide) (fun c9 => ?_) (fun c9 => ?_)
      · have hz := ipf (c9) hz
        refine lv_iconst (v := 0) hx hb dX9_ties_47 (by decide) ?_
        exact w_X9_ties_48 F hr hlk ih x1 x2 x4 0 x3 _ _ _ _ S (lv_sub hl [0, 1, 2, 4] rfl) hz
      · have hz := ipt (c9) hz
        refine lv_iconst (v := 1) hx hb dX9_ties_43 (by decide) ?_
        refine lv_goto (tgt := 48) hx hb dX9_ties_44 (by decide) ?_
        exact w_X9_ties_48 F hr hlk ih x1 x2 x4 1 x3 _ _ _ _ S (lv_sub hl [0, 1, 2, 4] rfl) hz
set_option maxHeartbeats 4000000 in
set_option maxRecDepth 100000 in
theorem c_X9_ties (l : Launch) (G : GG) (x1 : Int32)  (w : GW) {z : Int32 × GW} (hz : f_X9_ties x1 w = some z) : Met l yX9_ties (wsU yX9_ties cX9_ties 5 (some .int)) rm_X9_ties (va_Pc [.ref (gad G 130), .int x1] (PreG G w)) (QI G z) 0 0 (gA G) := by
  refine Met.ofW (cc := cX9_ties) (maxL := 5) (ret := (some .int)) (by decide) rfl ?_
  intro p e s m args below meth c s₁ B hml hv
  obtain ⟨rfl, S⟩ := hv
  have F : CallFix p m c cX9_ties 5 s _ (wsU yX9_ties cX9_ties 5 (some .int)) RX9 := ⟨B.exec, B.bytes, hml, findClass_of_methodNamed B.named, atoms_spec B.pre⟩
  have hr := B.returns
  have hlk := B.notSynchronized
  obtain ⟨hx, hb, -, hown, hts⟩ := id F
  have hg : ∀ q ∈ lwg, q.before _ s = true := fun q h => hts q (List.mem_cons_of_mem _ h)
  refine g_entry (Nat.le_of_ble_eq_true rfl) (fun ls hl => ?_)
  have hl : lv_has ls 5 [(0, .ref (gad G 130)), (1, .int x1)] := hl
  have S : St G w s s.heap [] := S
  generalize s.heap = H at S ⊢
  generalize ([] : List Loc) = locs at S ⊢
  rw [f_X9_ties] at hz
  refine lv_aload_n hx hb dX9_ties_0 rfl (lv_at hl 0 rfl) ?_
  refine fg_X9_20 hx hb (fun q h => hg q (tl_X9 q h)) hown (hg _ t_fl_X9_32) S (by decide) dX9_ties_1 ?_
  refine lv_aload_n hx hb dX9_ties_4 rfl (lv_at hl 0 rfl) ?_
  refine lv_aload_n hx hb dX9_ties_5 rfl (lv_at hl 0 rfl) ?_
  refine lv_iload_n hx hb dX9_ties_6 rfl (lv_at hl 1 rfl) ?_
  obtain ⟨q1, e2, hz⟩ := bd hz
  refine g_callVi (As := [.int x1]) (rest := [.ref (gad G 130), .ref (gad G 137)]) F S (c_X9_seenBy l G x1  _ e2) (cw_X9_ties_X9_seenBy_231 hg) (S.obj (by decide) (by decide) rfl (oc_X9 _ _ _ (by decide))) rfl hl.1 rfl (Nat.le_of_ble_eq_true rfl) ⟨Nat.zero_le _, Nat.zero_le _⟩ dX9_ties_7 (fun H locs  S => ?_)
  obtain ⟨q3, e4, hz⟩ := bd hz
  refine g_callVi (As := [.int q1.1]) (rest := [.ref (gad G 137)]) F S (c_X9_emptiest l G q1.1  _ e4) (cw_X9_ties_X9_emptiest_234 hg) (S.obj (by decide) (by decide) rfl (oc_X9 _ _ _ (by decide))) rfl hl.1 rfl (Nat.le_of_ble_eq_true rfl) ⟨Nat.zero_le _, Nat.zero_le _⟩ dX9_ties_10 (fun H locs  S => ?_)
  obtain ⟨h5, hz⟩ := ck hz
  refine g_iald hx hb S (isA_10 (by decide)) h5 dX9_ties_13 ?_
  refine lv_istore_n (lv' := [(2, .int (gI q3.2 137 (ix q3.1))), (0, .ref (gad G 130)), (1, .int x1)]) hx hb dX9_ties_14 rfl hl (by decide) rfl (fun ls hl => ?_)
  refine lv_iconst (v := 0) hx hb dX9_ties_15 (by decide) ?_
  refine lv_istore_n (lv' := [(3, .int 0), (2, .int (gI q3.2 137 (ix q3.1))), (0, .ref (gad G 130)), (1, .int x1)]) hx hb dX9_ties_16 rfl hl (by decide) rfl (fun ls hl => ?_)
  refine lv_iconst (v := 0) hx hb dX9_ties_17 (by decide) ?_
  refine lv_istore (lv' := [(4, .int 0), (3, .int 0), (2, .int (gI q3.2 137 (ix q3.1))), (0, .ref (gad G 130)), (1, .int x1)]) hx hb dX9_ties_18 hl (by decide) rfl (fun ls hl => ?_)
  exact w_X9_ties_20 F hr hlk fu x1 (gI q3.2 137 (ix q3.1)) 0 0 _ _ _ _ S (lv_sub hl [3, 4, 2, 1, 0] rfl) hz
noncomputable def f_X9_puts_22  (x1 : Int32) (x3 : Int32) (t0 : Int32) (t1 : Int32) (w : GW) : Option (Int32 × GW) :=
  (f_X9_goesTo x3 w).bind fun q4 =>
  if x1 = 4 then
    (f_X9_emptiest (t1 ||| t0) q4.2).bind fun q7 =>
    some (q4.1, (sI q7.2 130 22 q7.1))
  else
    some (q4.1, q4.2)
noncomputable def f_X9_puts (x1 : Int32) (x2 : Int32) (x3 : Int32) (w : GW) : Option (Int32 × GW) :=
  (f_X9_seenBy x2 w).bind fun q1 =>
  if 0 ≤ (gI q1.2 130 22) then
    f_X9_puts_22 x1 x3 ((1 : Int32) <<< ((gI q1.2 130 22) &&& 31)) q1.1 q1.2
  else
    f_X9_puts_22 x1 x3 0 q1.1 q1.2
set_option maxHeartbeats 4000000 in
set_option maxRecDepth 100000 in
theorem w_X9_puts_22 {p : Program} {l : Launch} {e : Env} {s : State} {m : MethodId} {args : Array Value} {below : List Frame} {meth : Method} {c : Code} {G : GG} (F : CallFix p m c cX9_puts 6 s args (wsU yX9_puts cX9_puts 6 (some .int)) RX9) (hr : meth.sig.returnType = (some .int)) (hlk : meth.locks = false) {z : Int32 × GW} : (∀ (x1 : Int32) (x3 : Int32) (t0 : Int32) (t1 : Int32) (w : GW) (H : Heap) (locs : List Loc) (ls : Array Slot), St G w s H locs → lv_has ls 6 [(0, .ref (gad G 130)), (1, .int x1), (3, .int x3)] → f_X9_puts_22 x1 x3 t0 t1 w = some z → W p l e (headSpec (wsU yX9_puts cX9_puts 6 (some .int)) rm_X9_puts).room s m args below meth c H locs 0 0 (MQ below (QI G z) args s 0 0 (gA G)) (F0 m 22 ls [.int t0, .int t1])) := by
  obtain ⟨hx, hb, hml, hown, hts⟩ := id F
  have hg : ∀ q ∈ lwg, q.before args s = true := fun q h => hts q (List.mem_cons_of_mem _ h)
  intro x1 x3 t0 t1 w H locs ls S hl hz
  rw [f_X9_puts_22] at hz
  refine lv_ior hx hb dX9_puts_22 ?_
  refine lv_istore (lv' := [(4, .int (t1 ||| t0)), (0, .ref (gad G 130)), (1, .int x1), (3, .int x3)]) hx hb dX9_puts_23 hl (by decide) rfl (fun ls hl => ?_)
  refine lv_aload_n hx hb dX9_puts_25 rfl (lv_at hl 1 rfl) ?_
  refine lv_iload_n hx hb dX9_puts_26 rfl (lv_at hl 3 rfl) ?_
  obtain ⟨q4, e5, hz⟩ := bd hz
  refine g_callVi (As := [.int x3]) (rest := []) F S (c_X9_goesTo l G x3  _ e5) (cw_X9_puts_X9_goesTo_237 hg) (S.obj (by decide) (by decide) rfl (oc_X9 _ _ _ (by decide))) rfl hl.1 rfl (Nat.le_of_ble_eq_true rfl) ⟨Nat.zero_le _, Nat.zero_le _⟩ dX9_puts_27 (fun H locs  S => ?_)
  refine lv_istore (lv' := [(5, .int q4.1), (4, .int (t1 ||| t0)), (0, .ref (gad G 130)), (1, .int x1), (3, .int x3)]) hx hb dX9_puts_30 hl (by decide) rfl (fun ls hl => ?_)
  refine lv_iload_n hx hb dX9_puts_32 rfl (lv_at hl 3 rfl) ?_
  refine lv_iconst (v := 4) hx hb dX9_puts_33 (by decide) ?_
  refine lv_icmp_ne (tgt := 47) hx hb dX9_puts_34 (by decide) (fun c6 => ?_) (fun c6 => ?_)
  · have hz := ipf (c6) hz
    refine lv_iload hx hb dX9_puts_47 (lv_at hl 0 rfl) ?_
    exact g_reti hx hb hr hlk S hz dX9_puts_49
  · have hz := ipt (c6) hz
    refine lv_aload_n hx hb dX9_puts_37 rfl (lv_at hl 2 rfl) ?_
    refine lv_aload_n hx hb dX9_puts_38 rfl (lv_at hl 2 rfl) ?_
    refine lv_iload hx hb dX9_puts_39 (lv_at hl 1 rfl) ?_
    obtain ⟨q7, e8, hz⟩ := bd hz
    refine g_callVi (As := [.int (t1 ||| t0)]) (rest := [.ref (gad G 130)]) F S (c_X9_emptiest l G (t1 ||| t0)  _ e8) (cw_X9_puts_X9_emptiest_234 hg) (S.obj (by decide) (by decide) rfl (oc_X9 _ _ _ (by decide))) rfl hl.1 rfl (Nat.le_of_ble_eq_true rfl) ⟨Nat.zero_le _, Nat.zero_le _⟩ dX9_puts_41 (fun H locs  S => ?_)
    refine fp_X9_22 (v := q7.1) hx hb (fun q h => hg q (tl_X9 q h)) hown (hg _ t_fl_X9_228) S (by decide) dX9_puts_44 (fun H locs S => ?_)
    refine lv_iload hx hb dX9_puts_47 (lv_at hl 0 rfl) ?_
    exact g_reti hx hb hr hlk S hz dX9_puts_49
set_option maxHeartbeats 4000000 in
set_option maxRecDepth 100000 in
theorem c_X9_puts (l : Launch) (G : GG) (x1 : Int32) (x2 : Int32) (x3 : Int32)  (w : GW) {z : Int32 × GW} (hz : f_X9_puts x1 x2 x3 w = some z) : Met l yX9_puts (wsU yX9_puts cX9_puts 6 (some .int)) rm_X9_puts (va_Pc [.ref (gad G 130), .int x1, .int x2, .int x3] (PreG G w)) (QI G z) 0 0 (gA G) := by
  refine Met.ofW (cc := cX9_puts) (maxL := 6) (ret := (some .int)) (by decide) rfl ?_
  intro p e s m args below meth c s₁ B hml hv
  obtain ⟨rfl, S⟩ := hv
  have F : CallFix p m c cX9_puts 6 s _ (wsU yX9_puts cX9_puts 6 (some .int)) RX9 := ⟨B.exec, B.bytes, hml, findClass_of_methodNamed B.named, atoms_spec B.pre⟩
  have hr := B.returns
  have hlk := B.notSynchronized
  obtain ⟨hx, hb, -, hown, hts⟩ := id F
  have hg : ∀ q ∈ lwg, q.before _ s = true := fun q h => hts q (List.mem_cons_of_mem _ h)
  refine g_entry (Nat.le_of_ble_eq_true rfl) (fun ls hl => ?_)
  have hl : lv_has ls 6 [(0, .ref (gad G 130)), (1, .int x1), (2, .int x2), (3, .int x3)] := hl
  have S : St G w s s.heap [] := S
  generalize s.heap = H at S ⊢
  generalize ([] : List Loc) = locs at S ⊢
  rw [f_X9_puts] at hz
  refine lv_aload_n hx hb dX9_puts_0 rfl (lv_at hl 0 rfl) ?_
  refine lv_iload_n hx hb dX9_puts_1 rfl (lv_at hl 2 rfl) ?_
  obtain ⟨q1, e2, hz⟩ := bd hz
  refine g_callVi (As := [.int x2]) (rest := []) F S (c_X9_seenBy l G x2  _ e2) (cw_X9_puts_X9_seenBy_231 hg) (S.obj (by decide) (by decide) rfl (oc_X9 _ _ _ (by decide))) rfl hl.1 rfl (Nat.le_of_ble_eq_true rfl) ⟨Nat.zero_le _, Nat.zero_le _⟩ dX9_puts_2 (fun H locs  S => ?_)
  refine lv_aload_n hx hb dX9_puts_5 rfl (lv_at hl 0 rfl) ?_
  refine fg_X9_22 hx hb (fun q h => hg q (tl_X9 q h)) hown (hg _ t_fl_X9_228) S (by decide) dX9_puts_6 ?_
  refine lv_if_ge (tgt := 16) hx hb dX9_puts_9 (by decide) (fun c3 => ?_) (fun c3 => ?_)
  · have hz := ipt (c3) hz
    refine lv_iconst (v := 1) hx hb dX9_puts_16 (by decide) ?_
    refine lv_aload_n hx hb dX9_puts_17 rfl (lv_at hl 0 rfl) ?_
    refine fg_X9_22 hx hb (fun q h => hg q (tl_X9 q h)) hown (hg _ t_fl_X9_228) S (by decide) dX9_puts_18 ?_
    refine lv_ishl hx hb dX9_puts_21 ?_
    exact w_X9_puts_22 F hr hlk x1 x3 ((1 : Int32) <<< ((gI q1.2 130 22) &&& 31)) q1.1 _ _ _ _ S (lv_sub hl [0, 1, 3] rfl) hz
  · have hz := ipf (c3) hz
    refine lv_iconst (v := 0) hx hb dX9_puts_12 (by decide) ?_
    refine lv_goto (tgt := 22) hx hb dX9_puts_13 (by decide) ?_
    exact w_X9_puts_22 F hr hlk x1 x3 0 q1.1 _ _ _ _ S (lv_sub hl [0, 1, 3] rfl) hz
noncomputable def f_X9_layGlances_10  : Nat → Int64 → Int32 → Int32 → GW → Option (Int64 × GW)
  | 0, _, _, _, _ => none
  | n9 + 1, x3, x5, x6, w =>
    if x6 < 0 then
      some (x3, w)
    else
      if inb 0 135 then
      if ¬ (gI w 133 (ix 0)) = 0 then
      if inb x6 3 then
      if inb 0 135 then
      if ¬ (gI (sI w 138 (ix x6) (irm x5 (gI w 133 (ix 0)))) 133 (ix 0)) = 0 then
      if inb x6 3 then
      if inb (7 + (gI (sI w 138 (ix x6) (irm x5 (gI w 133 (ix 0)))) 138 (ix x6))) 135 then
      f_X9_layGlances_10 n9 (x3 * ((gI (sI w 138 (ix x6) (irm x5 (gI w 133 (ix 0)))) 133 (ix (7 + (gI (sI w 138 (ix x6) (irm x5 (gI w 133 (ix 0)))) 138 (ix x6))))).toInt64)) (x5 / (gI (sI w 138 (ix x6) (irm x5 (gI w 133 (ix 0)))) 133 (ix 0))) (x6 + (-1)) (sI w 138 (ix x6) (irm x5 (gI w 133 (ix 0))))
      else none
      else none
      else none
      else none
      else none
      else none
      else none
noncomputable def f_X9_layGlances (x1 : Int32) (x2 : Int32) (w : GW) : Option (Int64 × GW) :=
  f_X9_layGlances_10 fu 1 x1 (x2 - 1) w
set_option maxHeartbeats 4000000 in
set_option maxRecDepth 100000 in
theorem w_X9_layGlances_10 {p : Program} {l : Launch} {e : Env} {s : State} {m : MethodId} {args : Array Value} {below : List Frame} {meth : Method} {c : Code} {G : GG} (F : CallFix p m c cX9_layGlances 7 s args (wsU yX9_layGlances cX9_layGlances 7 (some .long)) RX9) (hr : meth.sig.returnType = (some .long)) (hlk : meth.locks = false) {z : Int64 × GW} : ∀ (n9 : Nat), (∀ (x3 : Int64) (x5 : Int32) (x6 : Int32) (w : GW) (H : Heap) (locs : List Loc) (ls : Array Slot), St G w s H locs → lv_has ls 7 [(0, .ref (gad G 130)), (3, .long x3), (5, .int x5), (6, .int x6)] → f_X9_layGlances_10 n9 x3 x5 x6 w = some z → W p l e (headSpec (wsU yX9_layGlances cX9_layGlances 7 (some .long)) rm_X9_layGlances).room s m args below meth c H locs 0 0 (MQ below (QL G z) args s 0 0 (gA G)) (F0 m 10 ls [])) := by
  obtain ⟨hx, hb, hml, hown, hts⟩ := id F
  have hg : ∀ q ∈ lwg, q.before args s = true := fun q h => hts q (List.mem_cons_of_mem _ h)
  intro n9
  induction n9 with
  | zero =>
    intro x3 x5 x6 w H locs ls S hl hz
    rw [f_X9_layGlances_10] at hz
    cases hz
  | succ n9 ih =>
    intro x3 x5 x6 w H locs ls S hl hz
    rw [f_X9_layGlances_10] at hz
    refine lv_iload hx hb dX9_layGlances_10 (lv_at hl 3 rfl) ?_
    refine lv_if_lt (tgt := 67) hx hb dX9_layGlances_12 (by decide) (fun c1 => ?_) (fun c1 => ?_)
    · have hz := ipt (c1) hz
      refine lv_lload_n hx hb dX9_layGlances_67 rfl (lv_at hl 1 rfl) ?_
      exact g_retl hx hb hr hlk S hz dX9_layGlances_68
    · have hz := ipf (c1) hz
      refine lv_aload_n hx hb dX9_layGlances_15 rfl (lv_at hl 0 rfl) ?_
      refine fg_X9_21 hx hb (fun q h => hg q (tl_X9 q h)) hown (hg _ t_fl_X9_35) S (by decide) dX9_layGlances_16 ?_
      refine lv_iload hx hb dX9_layGlances_19 (lv_at hl 3 rfl) ?_
      refine lv_iload hx hb dX9_layGlances_21 (lv_at hl 2 rfl) ?_
      refine lv_aload_n hx hb dX9_layGlances_23 rfl (lv_at hl 0 rfl) ?_
      refine fg_X9_15 hx hb (fun q h => hg q (tl_X9 q h)) hown (hg _ t_fl_X9_20) S (by decide) dX9_layGlances_24 ?_
      refine lv_iconst (v := 0) hx hb dX9_layGlances_27 (by decide) ?_
      obtain ⟨h2, hz⟩ := ck hz
      refine g_iald hx hb S (isA_15 (by decide)) h2 dX9_layGlances_28 ?_
      obtain ⟨h3, hz⟩ := ck hz
      refine g_irem hx hb dX9_layGlances_29 h3 ?_
      obtain ⟨h4, hz⟩ := ck hz
      refine g_iast (x := (irm x5 (gI w 133 (ix 0)))) hx hb S (isA_12 (by decide)) h4 dX9_layGlances_30 (fun H locs S => ?_)
      refine lv_iload hx hb dX9_layGlances_31 (lv_at hl 2 rfl) ?_
      refine lv_aload_n hx hb dX9_layGlances_33 rfl (lv_at hl 0 rfl) ?_
      refine fg_X9_15 hx hb (fun q h => hg q (tl_X9 q h)) hown (hg _ t_fl_X9_20) S (by decide) dX9_layGlances_34 ?_
      refine lv_iconst (v := 0) hx hb dX9_layGlances_37 (by decide) ?_
      obtain ⟨h5, hz⟩ := ck hz
      refine g_iald hx hb S (isA_15 (by decide)) h5 dX9_layGlances_38 ?_
      obtain ⟨h6, hz⟩ := ck hz
      refine g_idiv hx hb dX9_layGlances_39 h6 ?_
      refine lv_istore (lv' := [(5, .int (x5 / (gI (sI w 138 (ix x6) (irm x5 (gI w 133 (ix 0)))) 133 (ix 0)))), (0, .ref (gad G 130)), (3, .long x3), (6, .int x6)]) hx hb dX9_layGlances_40 hl (by decide) rfl (fun ls hl => ?_)
      refine lv_lload_n hx hb dX9_layGlances_42 rfl (lv_at hl 2 rfl) ?_
      refine lv_aload_n hx hb dX9_layGlances_43 rfl (lv_at hl 1 rfl) ?_
      refine fg_X9_15 hx hb (fun q h => hg q (tl_X9 q h)) hown (hg _ t_fl_X9_20) S (by decide) dX9_layGlances_44 ?_
      refine lv_bipush (v := 7) hx hb dX9_layGlances_47 (by decide) ?_
      refine lv_aload_n hx hb dX9_layGlances_49 rfl (lv_at hl 1 rfl) ?_
      refine fg_X9_21 hx hb (fun q h => hg q (tl_X9 q h)) hown (hg _ t_fl_X9_35) S (by decide) dX9_layGlances_50 ?_
      refine lv_iload hx hb dX9_layGlances_53 (lv_at hl 3 rfl) ?_
      obtain ⟨h7, hz⟩ := ck hz
      refine g_iald hx hb S (isA_12 (by decide)) h7 dX9_layGlances_55 ?_
      refine lv_iadd hx hb dX9_layGlances_56 ?_
      obtain ⟨h8, hz⟩ := ck hz
      refine g_iald hx hb S (isA_15 (by decide)) h8 dX9_layGlances_57 ?_
      refine lv_i2l (v := (gI (sI w 138 (ix x6) (irm x5 (gI w 133 (ix 0)))) 133 (ix (7 + (gI (sI w 138 (ix x6) (irm x5 (gI w 133 (ix 0)))) 138 (ix x6))))).toInt64) hx hb dX9_layGlances_58 rfl ?_
      refine lv_lmul hx hb dX9_layGlances_59 ?_
      refine lv_lstore_n (lv' := [(3, .long (x3 * ((gI (sI w 138 (ix x6) (irm x5 (gI w 133 (ix 0)))) 133 (ix (7 + (gI (sI w 138 (ix x6) (irm x5 (gI w 133 (ix 0)))) 138 (ix x6))))).toInt64))), (5, .int (x5 / (gI (sI w 138 (ix x6) (irm x5 (gI w 133 (ix 0)))) 133 (ix 0)))), (0, .ref (gad G 130)), (6, .int x6)]) hx hb dX9_layGlances_60 rfl hl (by decide) rfl (fun ls hl => ?_)
      refine lv_iinc (v := (x6 + (-1))) (lv' := [(6, .int (x6 + (-1))), (3, .long (x3 * ((gI (sI w 138 (ix x6) (irm x5 (gI w 133 (ix 0)))) 133 (ix (7 + (gI (sI w 138 (ix x6) (irm x5 (gI w 133 (ix 0)))) 138 (ix x6))))).toInt64))), (5, .int (x5 / (gI (sI w 138 (ix x6) (irm x5 (gI w 133 (ix 0)))) 133 (ix 0)))), (0, .ref (gad G 130))]) hx hb dX9_layGlances_61 hl (k := 3) rfl (by rw [show Int32.ofInt (-1) = (-1) from by decide]) (by decide) rfl (fun ls hl => ?_)
      refine lv_goto (tgt := 10) hx hb dX9_layGlances_64 (by decide) ?_
      exact ih (x3 * ((gI (sI w 138 (ix x6) (irm x5 (gI w 133 (ix 0)))) 133 (ix (7 + (gI (sI w 138 (ix x6) (irm x5 (gI w 133 (ix 0)))) 138 (ix x6))))).toInt64)) (x5 / (gI (sI w 138 (ix x6) (irm x5 (gI w 133 (ix 0)))) 133 (ix 0))) (x6 + (-1))  _ _ _ _ S (lv_sub hl [3, 1, 2, 0] rfl) hz
set_option maxHeartbeats 4000000 in
set_option maxRecDepth 100000 in
theorem c_X9_layGlances (l : Launch) (G : GG) (x1 : Int32) (x2 : Int32)  (w : GW) {z : Int64 × GW} (hz : f_X9_layGlances x1 x2 w = some z) : Met l yX9_layGlances (wsU yX9_layGlances cX9_layGlances 7 (some .long)) rm_X9_layGlances (va_Pc [.ref (gad G 130), .int x1, .int x2] (PreG G w)) (QL G z) 0 0 (gA G) := by
  refine Met.ofW (cc := cX9_layGlances) (maxL := 7) (ret := (some .long)) (by decide) rfl ?_
  intro p e s m args below meth c s₁ B hml hv
  obtain ⟨rfl, S⟩ := hv
  have F : CallFix p m c cX9_layGlances 7 s _ (wsU yX9_layGlances cX9_layGlances 7 (some .long)) RX9 := ⟨B.exec, B.bytes, hml, findClass_of_methodNamed B.named, atoms_spec B.pre⟩
  have hr := B.returns
  have hlk := B.notSynchronized
  obtain ⟨hx, hb, -, hown, hts⟩ := id F
  have hg : ∀ q ∈ lwg, q.before _ s = true := fun q h => hts q (List.mem_cons_of_mem _ h)
  refine g_entry (Nat.le_of_ble_eq_true rfl) (fun ls hl => ?_)
  have hl : lv_has ls 7 [(0, .ref (gad G 130)), (1, .int x1), (2, .int x2)] := hl
  have S : St G w s s.heap [] := S
  generalize s.heap = H at S ⊢
  generalize ([] : List Loc) = locs at S ⊢
  rw [f_X9_layGlances] at hz
  refine lv_lconst (v := 1) hx hb dX9_layGlances_0 (by decide) ?_
  refine lv_lstore_n (lv' := [(3, .long 1), (0, .ref (gad G 130)), (1, .int x1), (2, .int x2)]) hx hb dX9_layGlances_1 rfl hl (by decide) rfl (fun ls hl => ?_)
  refine lv_iload_n hx hb dX9_layGlances_2 rfl (lv_at hl 2 rfl) ?_
  refine lv_istore (lv' := [(5, .int x1), (3, .long 1), (0, .ref (gad G 130)), (1, .int x1), (2, .int x2)]) hx hb dX9_layGlances_3 hl (by decide) rfl (fun ls hl => ?_)
  refine lv_iload_n hx hb dX9_layGlances_5 rfl (lv_at hl 4 rfl) ?_
  refine lv_iconst (v := 1) hx hb dX9_layGlances_6 (by decide) ?_
  refine lv_isub hx hb dX9_layGlances_7 ?_
  refine lv_istore (lv' := [(6, .int (x2 - 1)), (5, .int x1), (3, .long 1), (0, .ref (gad G 130)), (1, .int x1), (2, .int x2)]) hx hb dX9_layGlances_8 hl (by decide) rfl (fun ls hl => ?_)
  exact w_X9_layGlances_10 F hr hlk fu 1 x1 (x2 - 1) _ _ _ _ S (lv_sub hl [3, 2, 1, 0] rfl) hz
noncomputable def f_X9_glancesOf_4  : Nat → Int32 → Int32 → Int32 → GW → Option (Int32 × GW)
  | 0, _, _, _, _ => none
  | n9 + 1, x1, x2, x3, w =>
    if x1 ≤ x3 then
      some (x2, w)
    else
      if inb 0 135 then
      f_X9_glancesOf_4 n9 x1 (x2 * (gI w 133 (ix 0))) (x3 + 1) w
      else none
noncomputable def f_X9_glancesOf (x1 : Int32) (w : GW) : Option (Int32 × GW) :=
  f_X9_glancesOf_4 fu x1 1 0 w
set_option maxHeartbeats 4000000 in
set_option maxRecDepth 100000 in
theorem w_X9_glancesOf_4 {p : Program} {l : Launch} {e : Env} {s : State} {m : MethodId} {args : Array Value} {below : List Frame} {meth : Method} {c : Code} {G : GG} (F : CallFix p m c cX9_glancesOf 4 s args (wsU yX9_glancesOf cX9_glancesOf 4 (some .int)) RX9) (hr : meth.sig.returnType = (some .int)) (hlk : meth.locks = false) {z : Int32 × GW} : ∀ (n9 : Nat), (∀ (x1 : Int32) (x2 : Int32) (x3 : Int32) (w : GW) (H : Heap) (locs : List Loc) (ls : Array Slot), St G w s H locs → lv_has ls 4 [(0, .ref (gad G 130)), (1, .int x1), (2, .int x2), (3, .int x3)] → f_X9_glancesOf_4 n9 x1 x2 x3 w = some z → W p l e (headSpec (wsU yX9_glancesOf cX9_glancesOf 4 (some .int)) rm_X9_glancesOf).room s m args below meth c H locs 0 0 (MQ below (QI G z) args s 0 0 (gA G)) (F0 m 4 ls [])) := by
  obtain ⟨hx, hb, hml, hown, hts⟩ := id F
  have hg : ∀ q ∈ lwg, q.before args s = true := fun q h => hts q (List.mem_cons_of_mem _ h)
  intro n9
  induction n9 with
  | zero =>
    intro x1 x2 x3 w H locs ls S hl hz
    rw [f_X9_glancesOf_4] at hz
    cases hz
  | succ n9 ih =>
    intro x1 x2 x3 w H locs ls S hl hz
    rw [f_X9_glancesOf_4] at hz
    refine lv_iload_n hx hb dX9_glancesOf_4 rfl (lv_at hl 3 rfl) ?_
    refine lv_iload_n hx hb dX9_glancesOf_5 rfl (lv_at hl 1 rfl) ?_
    refine lv_icmp_ge (tgt := 24) hx hb dX9_glancesOf_6 (by decide) (fun c1 => ?_) (fun c1 => ?_)
    · have hz := ipt (c1) hz
      refine lv_iload_n hx hb dX9_glancesOf_24 rfl (lv_at hl 2 rfl) ?_
      exact g_reti hx hb hr hlk S hz dX9_glancesOf_25
    · have hz := ipf (c1) hz
      refine lv_iload_n hx hb dX9_glancesOf_9 rfl (lv_at hl 2 rfl) ?_
      refine lv_aload_n hx hb dX9_glancesOf_10 rfl (lv_at hl 0 rfl) ?_
      refine fg_X9_15 hx hb (fun q h => hg q (tl_X9 q h)) hown (hg _ t_fl_X9_20) S (by decide) dX9_glancesOf_11 ?_
      refine lv_iconst (v := 0) hx hb dX9_glancesOf_14 (by decide) ?_
      obtain ⟨h2, hz⟩ := ck hz
      refine g_iald hx hb S (isA_15 (by decide)) h2 dX9_glancesOf_15 ?_
      refine lv_imul hx hb dX9_glancesOf_16 ?_
      refine lv_istore_n (lv' := [(2, .int (x2 * (gI w 133 (ix 0)))), (0, .ref (gad G 130)), (1, .int x1), (3, .int x3)]) hx hb dX9_glancesOf_17 rfl hl (by decide) rfl (fun ls hl => ?_)
      refine lv_iinc (v := (x3 + 1)) (lv' := [(3, .int (x3 + 1)), (2, .int (x2 * (gI w 133 (ix 0)))), (0, .ref (gad G 130)), (1, .int x1)]) hx hb dX9_glancesOf_18 hl (k := 3) rfl rfl (by decide) rfl (fun ls hl => ?_)
      refine lv_goto (tgt := 4) hx hb dX9_glancesOf_21 (by decide) ?_
      exact ih x1 (x2 * (gI w 133 (ix 0))) (x3 + 1)  _ _ _ _ S (lv_sub hl [2, 3, 1, 0] rfl) hz
set_option maxHeartbeats 4000000 in
set_option maxRecDepth 100000 in
theorem c_X9_glancesOf (l : Launch) (G : GG) (x1 : Int32)  (w : GW) {z : Int32 × GW} (hz : f_X9_glancesOf x1 w = some z) : Met l yX9_glancesOf (wsU yX9_glancesOf cX9_glancesOf 4 (some .int)) rm_X9_glancesOf (va_Pc [.ref (gad G 130), .int x1] (PreG G w)) (QI G z) 0 0 (gA G) := by
  refine Met.ofW (cc := cX9_glancesOf) (maxL := 4) (ret := (some .int)) (by decide) rfl ?_
  intro p e s m args below meth c s₁ B hml hv
  obtain ⟨rfl, S⟩ := hv
  have F : CallFix p m c cX9_glancesOf 4 s _ (wsU yX9_glancesOf cX9_glancesOf 4 (some .int)) RX9 := ⟨B.exec, B.bytes, hml, findClass_of_methodNamed B.named, atoms_spec B.pre⟩
  have hr := B.returns
  have hlk := B.notSynchronized
  obtain ⟨hx, hb, -, hown, hts⟩ := id F
  have hg : ∀ q ∈ lwg, q.before _ s = true := fun q h => hts q (List.mem_cons_of_mem _ h)
  refine g_entry (Nat.le_of_ble_eq_true rfl) (fun ls hl => ?_)
  have hl : lv_has ls 4 [(0, .ref (gad G 130)), (1, .int x1)] := hl
  have S : St G w s s.heap [] := S
  generalize s.heap = H at S ⊢
  generalize ([] : List Loc) = locs at S ⊢
  rw [f_X9_glancesOf] at hz
  refine lv_iconst (v := 1) hx hb dX9_glancesOf_0 (by decide) ?_
  refine lv_istore_n (lv' := [(2, .int 1), (0, .ref (gad G 130)), (1, .int x1)]) hx hb dX9_glancesOf_1 rfl hl (by decide) rfl (fun ls hl => ?_)
  refine lv_iconst (v := 0) hx hb dX9_glancesOf_2 (by decide) ?_
  refine lv_istore_n (lv' := [(3, .int 0), (2, .int 1), (0, .ref (gad G 130)), (1, .int x1)]) hx hb dX9_glancesOf_3 rfl hl (by decide) rfl (fun ls hl => ?_)
  exact w_X9_glancesOf_4 F hr hlk fu x1 1 0 _ _ _ _ S (lv_sub hl [2, 3, 1, 0] rfl) hz
noncomputable def f_X9_tiesOf (x0 : Int32) (w : GW) : Option (Int64 × GW) :=
  if x0 = 3 then
    some (6, w)
  else
    some ((x0.toInt64), w)
set_option maxHeartbeats 4000000 in
set_option maxRecDepth 100000 in
theorem c_X9_tiesOf (l : Launch) (G : GG) (x0 : Int32)  (w : GW) {z : Int64 × GW} (hz : f_X9_tiesOf x0 w = some z) : Met l yX9_tiesOf (wsU yX9_tiesOf cX9_tiesOf 1 (some .long)) rm_X9_tiesOf (va_Pc [.int x0] (PreG G w)) (QL G z) 0 0 (gA G) := by
  refine Met.ofW (cc := cX9_tiesOf) (maxL := 1) (ret := (some .long)) (by decide) rfl ?_
  intro p e s m args below meth c s₁ B hml hv
  obtain ⟨rfl, S⟩ := hv
  have F : CallFix p m c cX9_tiesOf 1 s _ (wsU yX9_tiesOf cX9_tiesOf 1 (some .long)) RX9 := ⟨B.exec, B.bytes, hml, findClass_of_methodNamed B.named, atoms_spec B.pre⟩
  have hr := B.returns
  have hlk := B.notSynchronized
  obtain ⟨hx, hb, -, hown, hts⟩ := id F
  have hg : ∀ q ∈ lwg, q.before _ s = true := fun q h => hts q (List.mem_cons_of_mem _ h)
  refine g_entry (Nat.le_of_ble_eq_true rfl) (fun ls hl => ?_)
  have hl : lv_has ls 1 [(0, .int x0)] := hl
  have S : St G w s s.heap [] := S
  generalize s.heap = H at S ⊢
  generalize ([] : List Loc) = locs at S ⊢
  rw [f_X9_tiesOf] at hz
  refine lv_iload_n hx hb dX9_tiesOf_0 rfl (lv_at hl 0 rfl) ?_
  refine lv_iconst (v := 3) hx hb dX9_tiesOf_1 (by decide) ?_
  refine lv_icmp_ne (tgt := 11) hx hb dX9_tiesOf_2 (by decide) (fun c1 => ?_) (fun c1 => ?_)
  · have hz := ipf (c1) hz
    refine lv_iload_n hx hb dX9_tiesOf_11 rfl (lv_at hl 0 rfl) ?_
    refine lv_i2l (v := x0.toInt64) hx hb dX9_tiesOf_12 rfl ?_
    exact g_retl hx hb hr hlk S hz dX9_tiesOf_13
  · have hz := ipt (c1) hz
    refine lv_ldc2 (v := 6) hx hb hown (hg _ t_cl_X9_247) dX9_tiesOf_5 ?_
    refine lv_goto (tgt := 13) hx hb dX9_tiesOf_8 (by decide) ?_
    exact g_retl hx hb hr hlk S hz dX9_tiesOf_13
noncomputable def f_X9_waysOf_5  : Nat → Int32 → Int32 → Int64 → Int32 → GW → Option (Int64 × GW)
  | 0, _, _, _, _, _ => none
  | n9 + 1, x1, x2, x3, x5, w =>
    if x2 ≤ x5 then
      if x1 = 0 then
        (f_X9_tiesOf x2 w).bind fun q3 =>
        some ((x3 * q3.1), q3.2)
      else
        some (x3, w)
    else
      (f_X9_allWeights w).bind fun q5 =>
      f_X9_waysOf_5 n9 x1 x2 (x3 * (q5.1.toInt64)) (x5 + 1) q5.2
noncomputable def f_X9_waysOf (x1 : Int32) (x2 : Int32) (w : GW) : Option (Int64 × GW) :=
  f_X9_waysOf_5 fu x1 x2 1 0 w
set_option maxHeartbeats 4000000 in
set_option maxRecDepth 100000 in
theorem w_X9_waysOf_5 {p : Program} {l : Launch} {e : Env} {s : State} {m : MethodId} {args : Array Value} {below : List Frame} {meth : Method} {c : Code} {G : GG} (F : CallFix p m c cX9_waysOf 6 s args (wsU yX9_waysOf cX9_waysOf 6 (some .long)) RX9) (hr : meth.sig.returnType = (some .long)) (hlk : meth.locks = false) {z : Int64 × GW} : ∀ (n9 : Nat), (∀ (x1 : Int32) (x2 : Int32) (x3 : Int64) (x5 : Int32) (w : GW) (H : Heap) (locs : List Loc) (ls : Array Slot), St G w s H locs → lv_has ls 6 [(0, .ref (gad G 130)), (1, .int x1), (2, .int x2), (3, .long x3), (5, .int x5)] → f_X9_waysOf_5 n9 x1 x2 x3 x5 w = some z → W p l e (headSpec (wsU yX9_waysOf cX9_waysOf 6 (some .long)) rm_X9_waysOf).room s m args below meth c H locs 0 0 (MQ below (QL G z) args s 0 0 (gA G)) (F0 m 5 ls [])) := by
  obtain ⟨hx, hb, hml, hown, hts⟩ := id F
  have hg : ∀ q ∈ lwg, q.before args s = true := fun q h => hts q (List.mem_cons_of_mem _ h)
  intro n9
  induction n9 with
  | zero =>
    intro x1 x2 x3 x5 w H locs ls S hl hz
    rw [f_X9_waysOf_5] at hz
    cases hz
  | succ n9 ih =>
    intro x1 x2 x3 x5 w H locs ls S hl hz
    rw [f_X9_waysOf_5] at hz
    refine lv_iload hx hb dX9_waysOf_5 (lv_at hl 4 rfl) ?_
    refine lv_iload_n hx hb dX9_waysOf_7 rfl (lv_at hl 2 rfl) ?_
    refine lv_icmp_ge (tgt := 25) hx hb dX9_waysOf_8 (by decide) (fun c1 => ?_) (fun c1 => ?_)
    · have hz := ipt (c1) hz
      refine lv_iload_n hx hb dX9_waysOf_25 rfl (lv_at hl 1 rfl) ?_
      refine lv_if_ne (tgt := 38) hx hb dX9_waysOf_26 (by decide) (fun c2 => ?_) (fun c2 => ?_)
      · have hz := ipf (c2) hz
        refine lv_lload_n hx hb dX9_waysOf_38 rfl (lv_at hl 3 rfl) ?_
        exact g_retl hx hb hr hlk S hz dX9_waysOf_39
      · have hz := ipt (c2) hz
        refine lv_lload_n hx hb dX9_waysOf_29 rfl (lv_at hl 3 rfl) ?_
        refine lv_iload_n hx hb dX9_waysOf_30 rfl (lv_at hl 2 rfl) ?_
        obtain ⟨q3, e4, hz⟩ := bd hz
        refine g_callSl (As := [.int x2]) (rest := [.long x3]) F S (c_X9_tiesOf l G x2  _ e4) (cw_X9_waysOf_X9_tiesOf_243 hg) rfl hl.1 rfl (Nat.le_of_ble_eq_true rfl) ⟨Nat.zero_le _, Nat.zero_le _⟩ dX9_waysOf_31 (fun H locs  S => ?_)
        refine lv_lmul hx hb dX9_waysOf_34 ?_
        refine lv_goto (tgt := 39) hx hb dX9_waysOf_35 (by decide) ?_
        exact g_retl hx hb hr hlk S hz dX9_waysOf_39
    · have hz := ipf (c1) hz
      refine lv_lload_n hx hb dX9_waysOf_11 rfl (lv_at hl 3 rfl) ?_
      refine lv_aload_n hx hb dX9_waysOf_12 rfl (lv_at hl 0 rfl) ?_
      obtain ⟨q5, e6, hz⟩ := bd hz
      refine g_callVi (As := []) (rest := [.long x3]) F S (c_X9_allWeights l G   _ e6) (cw_X9_waysOf_X9_allWeights_240 hg) (S.obj (by decide) (by decide) rfl (oc_X9 _ _ _ (by decide))) rfl hl.1 rfl (Nat.le_of_ble_eq_true rfl) ⟨Nat.zero_le _, Nat.zero_le _⟩ dX9_waysOf_13 (fun H locs  S => ?_)
      refine lv_i2l (v := q5.1.toInt64) hx hb dX9_waysOf_16 rfl ?_
      refine lv_lmul hx hb dX9_waysOf_17 ?_
      refine lv_lstore_n (lv' := [(3, .long (x3 * (q5.1.toInt64))), (0, .ref (gad G 130)), (1, .int x1), (2, .int x2), (5, .int x5)]) hx hb dX9_waysOf_18 rfl hl (by decide) rfl (fun ls hl => ?_)
      refine lv_iinc (v := (x5 + 1)) (lv' := [(5, .int (x5 + 1)), (3, .long (x3 * (q5.1.toInt64))), (0, .ref (gad G 130)), (1, .int x1), (2, .int x2)]) hx hb dX9_waysOf_19 hl (k := 4) rfl rfl (by decide) rfl (fun ls hl => ?_)
      refine lv_goto (tgt := 5) hx hb dX9_waysOf_22 (by decide) ?_
      exact ih x1 x2 (x3 * (q5.1.toInt64)) (x5 + 1)  _ _ _ _ S (lv_sub hl [2, 3, 4, 1, 0] rfl) hz
set_option maxHeartbeats 4000000 in
set_option maxRecDepth 100000 in
theorem c_X9_waysOf (l : Launch) (G : GG) (x1 : Int32) (x2 : Int32)  (w : GW) {z : Int64 × GW} (hz : f_X9_waysOf x1 x2 w = some z) : Met l yX9_waysOf (wsU yX9_waysOf cX9_waysOf 6 (some .long)) rm_X9_waysOf (va_Pc [.ref (gad G 130), .int x1, .int x2] (PreG G w)) (QL G z) 0 0 (gA G) := by
  refine Met.ofW (cc := cX9_waysOf) (maxL := 6) (ret := (some .long)) (by decide) rfl ?_
  intro p e s m args below meth c s₁ B hml hv
  obtain ⟨rfl, S⟩ := hv
  have F : CallFix p m c cX9_waysOf 6 s _ (wsU yX9_waysOf cX9_waysOf 6 (some .long)) RX9 := ⟨B.exec, B.bytes, hml, findClass_of_methodNamed B.named, atoms_spec B.pre⟩
  have hr := B.returns
  have hlk := B.notSynchronized
  obtain ⟨hx, hb, -, hown, hts⟩ := id F
  have hg : ∀ q ∈ lwg, q.before _ s = true := fun q h => hts q (List.mem_cons_of_mem _ h)
  refine g_entry (Nat.le_of_ble_eq_true rfl) (fun ls hl => ?_)
  have hl : lv_has ls 6 [(0, .ref (gad G 130)), (1, .int x1), (2, .int x2)] := hl
  have S : St G w s s.heap [] := S
  generalize s.heap = H at S ⊢
  generalize ([] : List Loc) = locs at S ⊢
  rw [f_X9_waysOf] at hz
  refine lv_lconst (v := 1) hx hb dX9_waysOf_0 (by decide) ?_
  refine lv_lstore_n (lv' := [(3, .long 1), (0, .ref (gad G 130)), (1, .int x1), (2, .int x2)]) hx hb dX9_waysOf_1 rfl hl (by decide) rfl (fun ls hl => ?_)
  refine lv_iconst (v := 0) hx hb dX9_waysOf_2 (by decide) ?_
  refine lv_istore (lv' := [(5, .int 0), (3, .long 1), (0, .ref (gad G 130)), (1, .int x1), (2, .int x2)]) hx hb dX9_waysOf_3 hl (by decide) rfl (fun ls hl => ?_)
  exact w_X9_waysOf_5 F hr hlk fu x1 x2 1 0 _ _ _ _ S (lv_sub hl [2, 3, 4, 1, 0] rfl) hz
noncomputable def f_X9_clearSlots_2  : Nat → Int32 → GW → Option (Unit × GW)
  | 0, _, _ => none
  | n9 + 1, x1, w =>
    if 16384 ≤ x1 then
      some ((), (sI w 130 29 0))
    else
      if inb x1 16384 then
      f_X9_clearSlots_2 n9 (x1 + 1) (sI w 141 (ix x1) (-1))
      else none
noncomputable def f_X9_clearSlots  (w : GW) : Option (Unit × GW) :=
  f_X9_clearSlots_2 fu 0 w
set_option maxHeartbeats 4000000 in
set_option maxRecDepth 100000 in
theorem w_X9_clearSlots_2 {p : Program} {l : Launch} {e : Env} {s : State} {m : MethodId} {args : Array Value} {below : List Frame} {meth : Method} {c : Code} {G : GG} (F : CallFix p m c cX9_clearSlots 2 s args (wsU yX9_clearSlots cX9_clearSlots 2 none) RX9) (hr : meth.sig.returnType = none) (hlk : meth.locks = false) {z : Unit × GW} : ∀ (n9 : Nat), (∀ (x1 : Int32) (w : GW) (H : Heap) (locs : List Loc) (ls : Array Slot), St G w s H locs → lv_has ls 2 [(0, .ref (gad G 130)), (1, .int x1)] → f_X9_clearSlots_2 n9 x1 w = some z → W p l e (headSpec (wsU yX9_clearSlots cX9_clearSlots 2 none) rm_X9_clearSlots).room s m args below meth c H locs 0 0 (MQ below (QV G z) args s 0 0 (gA G)) (F0 m 2 ls [])) := by
  obtain ⟨hx, hb, hml, hown, hts⟩ := id F
  have hg : ∀ q ∈ lwg, q.before args s = true := fun q h => hts q (List.mem_cons_of_mem _ h)
  intro n9
  induction n9 with
  | zero =>
    intro x1 w H locs ls S hl hz
    rw [f_X9_clearSlots_2] at hz
    cases hz
  | succ n9 ih =>
    intro x1 w H locs ls S hl hz
    rw [f_X9_clearSlots_2] at hz
    refine lv_iload_n hx hb dX9_clearSlots_2 rfl (lv_at hl 1 rfl) ?_
    refine lv_sipush (v := 16384) hx hb dX9_clearSlots_3 (by decide) ?_
    refine lv_icmp_ge (tgt := 22) hx hb dX9_clearSlots_6 (by decide) (fun c1 => ?_) (fun c1 => ?_)
    · have hz := ipt (c1) hz
      refine lv_aload_n hx hb dX9_clearSlots_22 rfl (lv_at hl 0 rfl) ?_
      refine lv_iconst (v := 0) hx hb dX9_clearSlots_23 (by decide) ?_
      refine fp_X9_29 (v := 0) hx hb (fun q h => hg q (tl_X9 q h)) hown (hg _ t_fl_X9_249) S (by decide) dX9_clearSlots_24 (fun H locs S => ?_)
      exact g_retv hx hb hr hlk S hz dX9_clearSlots_27
    · have hz := ipf (c1) hz
      refine lv_aload_n hx hb dX9_clearSlots_9 rfl (lv_at hl 0 rfl) ?_
      refine fg_X9_25 hx hb (fun q h => hg q (tl_X9 q h)) hown (hg _ t_fl_X9_44) S (by decide) dX9_clearSlots_10 ?_
      refine lv_iload_n hx hb dX9_clearSlots_13 rfl (lv_at hl 1 rfl) ?_
      refine lv_iconst (v := (-1)) hx hb dX9_clearSlots_14 (by decide) ?_
      obtain ⟨h2, hz⟩ := ck hz
      refine g_iast (x := (-1)) hx hb S (isA_19 (by decide)) h2 dX9_clearSlots_15 (fun H locs S => ?_)
      refine lv_iinc (v := (x1 + 1)) (lv' := [(1, .int (x1 + 1)), (0, .ref (gad G 130))]) hx hb dX9_clearSlots_16 hl (k := 1) rfl rfl (by decide) rfl (fun ls hl => ?_)
      refine lv_goto (tgt := 2) hx hb dX9_clearSlots_19 (by decide) ?_
      exact ih (x1 + 1)  _ _ _ _ S (lv_sub hl [1, 0] rfl) hz
set_option maxHeartbeats 4000000 in
set_option maxRecDepth 100000 in
theorem c_X9_clearSlots (l : Launch) (G : GG)   (w : GW) {z : Unit × GW} (hz : f_X9_clearSlots  w = some z) : Met l yX9_clearSlots (wsU yX9_clearSlots cX9_clearSlots 2 none) rm_X9_clearSlots (va_Pc [.ref (gad G 130)] (PreG G w)) (QV G z) 0 0 (gA G) := by
  refine Met.ofW (cc := cX9_clearSlots) (maxL := 2) (ret := none) (by decide) rfl ?_
  intro p e s m args below meth c s₁ B hml hv
  obtain ⟨rfl, S⟩ := hv
  have F : CallFix p m c cX9_clearSlots 2 s _ (wsU yX9_clearSlots cX9_clearSlots 2 none) RX9 := ⟨B.exec, B.bytes, hml, findClass_of_methodNamed B.named, atoms_spec B.pre⟩
  have hr := B.returns
  have hlk := B.notSynchronized
  obtain ⟨hx, hb, -, hown, hts⟩ := id F
  have hg : ∀ q ∈ lwg, q.before _ s = true := fun q h => hts q (List.mem_cons_of_mem _ h)
  refine g_entry (Nat.le_of_ble_eq_true rfl) (fun ls hl => ?_)
  have hl : lv_has ls 2 [(0, .ref (gad G 130))] := hl
  have S : St G w s s.heap [] := S
  generalize s.heap = H at S ⊢
  generalize ([] : List Loc) = locs at S ⊢
  rw [f_X9_clearSlots] at hz
  refine lv_iconst (v := 0) hx hb dX9_clearSlots_0 (by decide) ?_
  refine lv_istore_n (lv' := [(1, .int 0), (0, .ref (gad G 130))]) hx hb dX9_clearSlots_1 rfl hl (by decide) rfl (fun ls hl => ?_)
  exact w_X9_clearSlots_2 F hr hlk fu 0 _ _ _ _ S (lv_sub hl [1, 0] rfl) hz
noncomputable def f_X9_comesTo_100  (x2 : Int64) (x4 : Int32) (w : GW) : Option (Unit × GW) :=
  if inb x4 16384 then
  if inb (gI w 141 (ix x4)) 8000 then
  if inb (gI w 141 (ix x4)) 8000 then
  some ((), (sL w 143 (ix (gI w 141 (ix x4))) ((gL w 143 (ix (gI w 141 (ix x4)))) + x2)))
  else none
  else none
  else none
noncomputable def f_X9_comesTo_49  (x1 : Int32) (x2 : Int64) (x4 : Int32) (w : GW) : Option (Unit × GW) :=
  if inb x4 16384 then
  if 0 ≤ (gI w 141 (ix x4)) then
    f_X9_comesTo_100 x2 x4 w
  else
    if inb x4 16384 then
    if inb (gI (sI w 141 (ix x4) (gI w 130 29)) 130 29) 8000 then
    if inb (gI (sI (sI w 141 (ix x4) (gI w 130 29)) 140 (ix (gI (sI w 141 (ix x4) (gI w 130 29)) 130 29)) x1) 130 29) 8000 then
    f_X9_comesTo_100 x2 x4 (sI (sL (sI (sI w 141 (ix x4) (gI w 130 29)) 140 (ix (gI (sI w 141 (ix x4) (gI w 130 29)) 130 29)) x1) 143 (ix (gI (sI (sI w 141 (ix x4) (gI w 130 29)) 140 (ix (gI (sI w 141 (ix x4) (gI w 130 29)) 130 29)) x1) 130 29)) 0) 130 29 ((gI (sL (sI (sI w 141 (ix x4) (gI w 130 29)) 140 (ix (gI (sI w 141 (ix x4) (gI w 130 29)) 130 29)) x1) 143 (ix (gI (sI (sI w 141 (ix x4) (gI w 130 29)) 140 (ix (gI (sI w 141 (ix x4) (gI w 130 29)) 130 29)) x1) 130 29)) 0) 130 29) + 1))
    else none
    else none
    else none
  else none
noncomputable def f_X9_comesTo_10  : Nat → Int32 → Int64 → Int32 → GW → Option (Unit × GW)
  | 0, _, _, _, _ => none
  | n9 + 1, x1, x2, x4, w =>
    if inb x4 16384 then
    if (gI w 141 (ix x4)) < 0 then
      f_X9_comesTo_49 x1 x2 x4 w
    else
      if inb x4 16384 then
      if inb (gI w 141 (ix x4)) 8000 then
      if (gI w 140 (ix (gI w 141 (ix x4)))) = x1 then
        f_X9_comesTo_49 x1 x2 x4 w
      else
        f_X9_comesTo_10 n9 x1 x2 (irm (x4 + 1) 16384) w
      else none
      else none
    else none
noncomputable def f_X9_comesTo (x1 : Int32) (x2 : Int64) (w : GW) : Option (Unit × GW) :=
  f_X9_comesTo_10 fu x1 x2 (irm (x1 * 31) 16384) w
set_option maxHeartbeats 4000000 in
set_option maxRecDepth 100000 in
theorem w_X9_comesTo_100 {p : Program} {l : Launch} {e : Env} {s : State} {m : MethodId} {args : Array Value} {below : List Frame} {meth : Method} {c : Code} {G : GG} (F : CallFix p m c cX9_comesTo 5 s args (wsU yX9_comesTo cX9_comesTo 5 none) RX9) (hr : meth.sig.returnType = none) (hlk : meth.locks = false) {z : Unit × GW} : (∀ (x2 : Int64) (x4 : Int32) (w : GW) (H : Heap) (locs : List Loc) (ls : Array Slot), St G w s H locs → lv_has ls 5 [(0, .ref (gad G 130)), (2, .long x2), (4, .int x4)] → f_X9_comesTo_100 x2 x4 w = some z → W p l e (headSpec (wsU yX9_comesTo cX9_comesTo 5 none) rm_X9_comesTo).room s m args below meth c H locs 0 0 (MQ below (QV G z) args s 0 0 (gA G)) (F0 m 100 ls [])) := by
  obtain ⟨hx, hb, hml, hown, hts⟩ := id F
  have hg : ∀ q ∈ lwg, q.before args s = true := fun q h => hts q (List.mem_cons_of_mem _ h)
  intro x2 x4 w H locs ls S hl hz
  rw [f_X9_comesTo_100] at hz
  refine lv_aload_n hx hb dX9_comesTo_100 rfl (lv_at hl 0 rfl) ?_
  refine fg_X9_27 hx hb (fun q h => hg q (tl_X9 q h)) hown (hg _ t_fl_X9_51) S (by decide) dX9_comesTo_101 ?_
  refine lv_aload_n hx hb dX9_comesTo_104 rfl (lv_at hl 0 rfl) ?_
  refine fg_X9_25 hx hb (fun q h => hg q (tl_X9 q h)) hown (hg _ t_fl_X9_44) S (by decide) dX9_comesTo_105 ?_
  refine lv_iload hx hb dX9_comesTo_108 (lv_at hl 2 rfl) ?_
  obtain ⟨h5, hz⟩ := ck hz
  refine g_iald hx hb S (isA_19 (by decide)) h5 dX9_comesTo_110 ?_
  refine lv_dup2_11 hx hb dX9_comesTo_111 rfl rfl ?_
  obtain ⟨h6, hz⟩ := ck hz
  refine g_lald hx hb S (isA_27 (by decide)) h6 dX9_comesTo_112 ?_
  refine lv_lload_n hx hb dX9_comesTo_113 rfl (lv_at hl 1 rfl) ?_
  refine lv_ladd hx hb dX9_comesTo_114 ?_
  obtain ⟨h7, hz⟩ := ck hz
  refine g_last (x := ((gL w 143 (ix (gI w 141 (ix x4)))) + x2)) hx hb S (isA_27 (by decide)) h7 dX9_comesTo_115 (fun H locs S => ?_)
  exact g_retv hx hb hr hlk S hz dX9_comesTo_116
set_option maxHeartbeats 4000000 in
set_option maxRecDepth 100000 in
theorem w_X9_comesTo_49 {p : Program} {l : Launch} {e : Env} {s : State} {m : MethodId} {args : Array Value} {below : List Frame} {meth : Method} {c : Code} {G : GG} (F : CallFix p m c cX9_comesTo 5 s args (wsU yX9_comesTo cX9_comesTo 5 none) RX9) (hr : meth.sig.returnType = none) (hlk : meth.locks = false) {z : Unit × GW} : (∀ (x1 : Int32) (x2 : Int64) (x4 : Int32) (w : GW) (H : Heap) (locs : List Loc) (ls : Array Slot), St G w s H locs → lv_has ls 5 [(0, .ref (gad G 130)), (1, .int x1), (2, .long x2), (4, .int x4)] → f_X9_comesTo_49 x1 x2 x4 w = some z → W p l e (headSpec (wsU yX9_comesTo cX9_comesTo 5 none) rm_X9_comesTo).room s m args below meth c H locs 0 0 (MQ below (QV G z) args s 0 0 (gA G)) (F0 m 49 ls [])) := by
  obtain ⟨hx, hb, hml, hown, hts⟩ := id F
  have hg : ∀ q ∈ lwg, q.before args s = true := fun q h => hts q (List.mem_cons_of_mem _ h)
  intro x1 x2 x4 w H locs ls S hl hz
  rw [f_X9_comesTo_49] at hz
  refine lv_aload_n hx hb dX9_comesTo_49 rfl (lv_at hl 0 rfl) ?_
  refine fg_X9_25 hx hb (fun q h => hg q (tl_X9 q h)) hown (hg _ t_fl_X9_44) S (by decide) dX9_comesTo_50 ?_
  refine lv_iload hx hb dX9_comesTo_53 (lv_at hl 3 rfl) ?_
  obtain ⟨h3, hz⟩ := ck hz
  refine g_iald hx hb S (isA_19 (by decide)) h3 dX9_comesTo_55 ?_
  refine lv_if_ge (tgt := 100) hx hb dX9_comesTo_56 (by decide) (fun c4 => ?_) (fun c4 => ?_)
  · have hz := ipt (c4) hz
    exact w_X9_comesTo_100 F hr hlk x2 x4 _ _ _ _ S (lv_sub hl [0, 2, 3] rfl) hz
  · have hz := ipf (c4) hz
    refine lv_aload_n hx hb dX9_comesTo_59 rfl (lv_at hl 0 rfl) ?_
    refine fg_X9_25 hx hb (fun q h => hg q (tl_X9 q h)) hown (hg _ t_fl_X9_44) S (by decide) dX9_comesTo_60 ?_
    refine lv_iload hx hb dX9_comesTo_63 (lv_at hl 3 rfl) ?_
    refine lv_aload_n hx hb dX9_comesTo_65 rfl (lv_at hl 0 rfl) ?_
    refine fg_X9_29 hx hb (fun q h => hg q (tl_X9 q h)) hown (hg _ t_fl_X9_249) S (by decide) dX9_comesTo_66 ?_
    obtain ⟨h8, hz⟩ := ck hz
    refine g_iast (x := (gI w 130 29)) hx hb S (isA_19 (by decide)) h8 dX9_comesTo_69 (fun H locs S => ?_)
    refine lv_aload_n hx hb dX9_comesTo_70 rfl (lv_at hl 0 rfl) ?_
    refine fg_X9_24 hx hb (fun q h => hg q (tl_X9 q h)) hown (hg _ t_fl_X9_41) S (by decide) dX9_comesTo_71 ?_
    refine lv_aload_n hx hb dX9_comesTo_74 rfl (lv_at hl 0 rfl) ?_
    refine fg_X9_29 hx hb (fun q h => hg q (tl_X9 q h)) hown (hg _ t_fl_X9_249) S (by decide) dX9_comesTo_75 ?_
    refine lv_iload_n hx hb dX9_comesTo_78 rfl (lv_at hl 1 rfl) ?_
    obtain ⟨h9, hz⟩ := ck hz
    refine g_iast (x := x1) hx hb S (isA_18 (by decide)) h9 dX9_comesTo_79 (fun H locs S => ?_)
    refine lv_aload_n hx hb dX9_comesTo_80 rfl (lv_at hl 0 rfl) ?_
    refine fg_X9_27 hx hb (fun q h => hg q (tl_X9 q h)) hown (hg _ t_fl_X9_51) S (by decide) dX9_comesTo_81 ?_
    refine lv_aload_n hx hb dX9_comesTo_84 rfl (lv_at hl 0 rfl) ?_
    refine fg_X9_29 hx hb (fun q h => hg q (tl_X9 q h)) hown (hg _ t_fl_X9_249) S (by decide) dX9_comesTo_85 ?_
    refine lv_lconst (v := 0) hx hb dX9_comesTo_88 (by decide) ?_
    obtain ⟨h10, hz⟩ := ck hz
    refine g_last (x := 0) hx hb S (isA_27 (by decide)) h10 dX9_comesTo_89 (fun H locs S => ?_)
    refine lv_aload_n hx hb dX9_comesTo_90 rfl (lv_at hl 0 rfl) ?_
    refine lv_dup hx hb dX9_comesTo_91 rfl ?_
    refine fg_X9_29 hx hb (fun q h => hg q (tl_X9 q h)) hown (hg _ t_fl_X9_249) S (by decide) dX9_comesTo_92 ?_
    refine lv_iconst (v := 1) hx hb dX9_comesTo_95 (by decide) ?_
    refine lv_iadd hx hb dX9_comesTo_96 ?_
    refine fp_X9_29 (v := ((gI (sL (sI (sI w 141 (ix x4) (gI w 130 29)) 140 (ix (gI (sI w 141 (ix x4) (gI w 130 29)) 130 29)) x1) 143 (ix (gI (sI (sI w 141 (ix x4) (gI w 130 29)) 140 (ix (gI (sI w 141 (ix x4) (gI w 130 29)) 130 29)) x1) 130 29)) 0) 130 29) + 1)) hx hb (fun q h => hg q (tl_X9 q h)) hown (hg _ t_fl_X9_249) S (by decide) dX9_comesTo_97 (fun H locs S => ?_)
    exact w_X9_comesTo_100 F hr hlk x2 x4 _ _ _ _ S (lv_sub hl [0, 2, 3] rfl) hz
set_option maxHeartbeats 4000000 in
set_option maxRecDepth 100000 in
theorem w_X9_comesTo_10 {p : Program} {l : Launch} {e : Env} {s : State} {m : MethodId} {args : Array Value} {below : List Frame} {meth : Method} {c : Code} {G : GG} (F : CallFix p m c cX9_comesTo 5 s args (wsU yX9_comesTo cX9_comesTo 5 none) RX9) (hr : meth.sig.returnType = none) (hlk : meth.locks = false) {z : Unit × GW} : ∀ (n9 : Nat), (∀ (x1 : Int32) (x2 : Int64) (x4 : Int32) (w : GW) (H : Heap) (locs : List Loc) (ls : Array Slot), St G w s H locs → lv_has ls 5 [(0, .ref (gad G 130)), (1, .int x1), (2, .long x2), (4, .int x4)] → f_X9_comesTo_10 n9 x1 x2 x4 w = some z → W p l e (headSpec (wsU yX9_comesTo cX9_comesTo 5 none) rm_X9_comesTo).room s m args below meth c H locs 0 0 (MQ below (QV G z) args s 0 0 (gA G)) (F0 m 10 ls [])) := by
  obtain ⟨hx, hb, hml, hown, hts⟩ := id F
  have hg : ∀ q ∈ lwg, q.before args s = true := fun q h => hts q (List.mem_cons_of_mem _ h)
  intro n9
  induction n9 with
  | zero =>
    intro x1 x2 x4 w H locs ls S hl hz
    rw [f_X9_comesTo_10] at hz
    cases hz
  | succ n9 ih =>
    intro x1 x2 x4 w H locs ls S hl hz
    rw [f_X9_comesTo_10] at hz
    refine lv_aload_n hx hb dX9_comesTo_10 rfl (lv_at hl 0 rfl) ?_
    refine fg_X9_25 hx hb (fun q h => hg q (tl_X9 q h)) hown (hg _ t_fl_X9_44) S (by decide) dX9_comesTo_11 ?_
    refine lv_iload hx hb dX9_comesTo_14 (lv_at hl 3 rfl) ?_
    obtain ⟨h1, hz⟩ := ck hz
    refine g_iald hx hb S (isA_19 (by decide)) h1 dX9_comesTo_16 ?_
    refine lv_if_lt (tgt := 49) hx hb dX9_comesTo_17 (by decide) (fun c2 => ?_) (fun c2 => ?_)
    · have hz := ipt (c2) hz
      exact w_X9_comesTo_49 F hr hlk x1 x2 x4 _ _ _ _ S (lv_sub hl [0, 1, 2, 3] rfl) hz
    · have hz := ipf (c2) hz
      refine lv_aload_n hx hb dX9_comesTo_20 rfl (lv_at hl 0 rfl) ?_
      refine fg_X9_24 hx hb (fun q h => hg q (tl_X9 q h)) hown (hg _ t_fl_X9_41) S (by decide) dX9_comesTo_21 ?_
      refine lv_aload_n hx hb dX9_comesTo_24 rfl (lv_at hl 0 rfl) ?_
      refine fg_X9_25 hx hb (fun q h => hg q (tl_X9 q h)) hown (hg _ t_fl_X9_44) S (by decide) dX9_comesTo_25 ?_
      refine lv_iload hx hb dX9_comesTo_28 (lv_at hl 3 rfl) ?_
      obtain ⟨h11, hz⟩ := ck hz
      refine g_iald hx hb S (isA_19 (by decide)) h11 dX9_comesTo_30 ?_
      obtain ⟨h12, hz⟩ := ck hz
      refine g_iald hx hb S (isA_18 (by decide)) h12 dX9_comesTo_31 ?_
      refine lv_iload_n hx hb dX9_comesTo_32 rfl (lv_at hl 1 rfl) ?_
      refine lv_icmp_eq (tgt := 49) hx hb dX9_comesTo_33 (by decide) (fun c13 => ?_) (fun c13 => ?_)
      · have hz := ipt (c13) hz
        exact w_X9_comesTo_49 F hr hlk x1 x2 x4 _ _ _ _ S (lv_sub hl [0, 1, 2, 3] rfl) hz
      · have hz := ipf (c13) hz
        refine lv_iload hx hb dX9_comesTo_36 (lv_at hl 3 rfl) ?_
        refine lv_iconst (v := 1) hx hb dX9_comesTo_38 (by decide) ?_
        refine lv_iadd hx hb dX9_comesTo_39 ?_
        refine lv_sipush (v := 16384) hx hb dX9_comesTo_40 (by decide) ?_
        refine g_irem hx hb dX9_comesTo_43 (by decide) ?_
        refine lv_istore (lv' := [(4, .int (irm (x4 + 1) 16384)), (0, .ref (gad G 130)), (1, .int x1), (2, .long x2)]) hx hb dX9_comesTo_44 hl (by decide) rfl (fun ls hl => ?_)
        refine lv_goto (tgt := 10) hx hb dX9_comesTo_46 (by decide) ?_
        exact ih x1 x2 (irm (x4 + 1) 16384)  _ _ _ _ S (lv_sub hl [1, 2, 3, 0] rfl) hz
set_option maxHeartbeats 4000000 in
set_option maxRecDepth 100000 in
theorem c_X9_comesTo (l : Launch) (G : GG) (x1 : Int32) (x2 : Int64)  (w : GW) {z : Unit × GW} (hz : f_X9_comesTo x1 x2 w = some z) : Met l yX9_comesTo (wsU yX9_comesTo cX9_comesTo 5 none) rm_X9_comesTo (va_Pc [.ref (gad G 130), .int x1, .long x2] (PreG G w)) (QV G z) 0 0 (gA G) := by
  refine Met.ofW (cc := cX9_comesTo) (maxL := 5) (ret := none) (by decide) rfl ?_
  intro p e s m args below meth c s₁ B hml hv
  obtain ⟨rfl, S⟩ := hv
  have F : CallFix p m c cX9_comesTo 5 s _ (wsU yX9_comesTo cX9_comesTo 5 none) RX9 := ⟨B.exec, B.bytes, hml, findClass_of_methodNamed B.named, atoms_spec B.pre⟩
  have hr := B.returns
  have hlk := B.notSynchronized
  obtain ⟨hx, hb, -, hown, hts⟩ := id F
  have hg : ∀ q ∈ lwg, q.before _ s = true := fun q h => hts q (List.mem_cons_of_mem _ h)
  refine g_entry (Nat.le_of_ble_eq_true rfl) (fun ls hl => ?_)
  have hl : lv_has ls 5 [(0, .ref (gad G 130)), (1, .int x1), (2, .long x2)] := hl
  have S : St G w s s.heap [] := S
  generalize s.heap = H at S ⊢
  generalize ([] : List Loc) = locs at S ⊢
  rw [f_X9_comesTo] at hz
  refine lv_iload_n hx hb dX9_comesTo_0 rfl (lv_at hl 1 rfl) ?_
  refine lv_bipush (v := 31) hx hb dX9_comesTo_1 (by decide) ?_
  refine lv_imul hx hb dX9_comesTo_3 ?_
  refine lv_sipush (v := 16384) hx hb dX9_comesTo_4 (by decide) ?_
  refine g_irem hx hb dX9_comesTo_7 (by decide) ?_
  refine lv_istore (lv' := [(4, .int (irm (x1 * 31) 16384)), (0, .ref (gad G 130)), (1, .int x1), (2, .long x2)]) hx hb dX9_comesTo_8 hl (by decide) rfl (fun ls hl => ?_)
  exact w_X9_comesTo_10 F hr hlk fu x1 x2 (irm (x1 * 31) 16384) _ _ _ _ S (lv_sub hl [1, 2, 3, 0] rfl) hz
noncomputable def f_X9_byDoor_30  (x2 : Int64) (w : GW) : Option (Unit × GW) :=
  (f_X9_together w).bind fun q7 =>
  (f_X9_comesTo q7.1 x2 q7.2).bind fun q9 =>
  some ((), q9.2)
noncomputable def f_X9_byDoor (x1 : Int32) (x2 : Int64) (x4 : Int32) (w : GW) : Option (Unit × GW) :=
  (f_X9_layApart x1 w).bind fun q1 =>
  if inb 36 135 then
  (f_X9_goesTo (gI q1.2 133 (ix 36)) q1.2).bind fun q4 =>
  if 5 ≤ q4.1 then
    f_X9_byDoor_30 x2 q4.2
  else
    (f_X9_moves x4 q4.2).bind fun q11 =>
    f_X9_byDoor_30 x2 q11.2
  else none
set_option maxHeartbeats 4000000 in
set_option maxRecDepth 100000 in
theorem w_X9_byDoor_30 {p : Program} {l : Launch} {e : Env} {s : State} {m : MethodId} {args : Array Value} {below : List Frame} {meth : Method} {c : Code} {G : GG} (F : CallFix p m c cX9_byDoor 6 s args (wsU yX9_byDoor cX9_byDoor 6 none) RX9) (hr : meth.sig.returnType = none) (hlk : meth.locks = false) {z : Unit × GW} : (∀ (x2 : Int64) (w : GW) (H : Heap) (locs : List Loc) (ls : Array Slot), St G w s H locs → lv_has ls 6 [(0, .ref (gad G 130)), (2, .long x2)] → f_X9_byDoor_30 x2 w = some z → W p l e (headSpec (wsU yX9_byDoor cX9_byDoor 6 none) rm_X9_byDoor).room s m args below meth c H locs 0 0 (MQ below (QV G z) args s 0 0 (gA G)) (F0 m 30 ls [])) := by
  obtain ⟨hx, hb, hml, hown, hts⟩ := id F
  have hg : ∀ q ∈ lwg, q.before args s = true := fun q h => hts q (List.mem_cons_of_mem _ h)
  intro x2 w H locs ls S hl hz
  rw [f_X9_byDoor_30] at hz
  refine lv_aload_n hx hb dX9_byDoor_30 rfl (lv_at hl 0 rfl) ?_
  refine lv_aload_n hx hb dX9_byDoor_31 rfl (lv_at hl 0 rfl) ?_
  obtain ⟨q7, e8, hz⟩ := bd hz
  refine g_callVi (As := []) (rest := [.ref (gad G 130)]) F S (c_X9_together l G   _ e8) (cw_X9_byDoor_X9_together_285 hg) (S.obj (by decide) (by decide) rfl (oc_X9 _ _ _ (by decide))) rfl hl.1 rfl (Nat.le_of_ble_eq_true rfl) ⟨Nat.zero_le _, Nat.zero_le _⟩ dX9_byDoor_32 (fun H locs  S => ?_)
  refine lv_lload_n hx hb dX9_byDoor_35 rfl (lv_at hl 1 rfl) ?_
  obtain ⟨q9, e10, hz⟩ := bd hz
  refine g_callVv (As := [.int q7.1, .long x2]) (rest := []) F S (c_X9_comesTo l G q7.1 x2  _ e10) (cw_X9_byDoor_X9_comesTo_288 hg) (S.obj (by decide) (by decide) rfl (oc_X9 _ _ _ (by decide))) rfl hl.1 rfl (Nat.le_of_ble_eq_true rfl) ⟨Nat.zero_le _, Nat.zero_le _⟩ dX9_byDoor_36 (fun H locs  S => ?_)
  exact g_retv hx hb hr hlk S hz dX9_byDoor_39
set_option maxHeartbeats 4000000 in
set_option maxRecDepth 100000 in
theorem c_X9_byDoor (l : Launch) (G : GG) (x1 : Int32) (x2 : Int64) (x4 : Int32)  (w : GW) {z : Unit × GW} (hz : f_X9_byDoor x1 x2 x4 w = some z) : Met l yX9_byDoor (wsU yX9_byDoor cX9_byDoor 6 none) rm_X9_byDoor (va_Pc [.ref (gad G 130), .int x1, .long x2, .int x4] (PreG G w)) (QV G z) 0 0 (gA G) := by
  refine Met.ofW (cc := cX9_byDoor) (maxL := 6) (ret := none) (by decide) rfl ?_
  intro p e s m args below meth c s₁ B hml hv
  obtain ⟨rfl, S⟩ := hv
  have F : CallFix p m c cX9_byDoor 6 s _ (wsU yX9_byDoor cX9_byDoor 6 none) RX9 := ⟨B.exec, B.bytes, hml, findClass_of_methodNamed B.named, atoms_spec B.pre⟩
  have hr := B.returns
  have hlk := B.notSynchronized
  obtain ⟨hx, hb, -, hown, hts⟩ := id F
  have hg : ∀ q ∈ lwg, q.before _ s = true := fun q h => hts q (List.mem_cons_of_mem _ h)
  refine g_entry (Nat.le_of_ble_eq_true rfl) (fun ls hl => ?_)
  have hl : lv_has ls 6 [(0, .ref (gad G 130)), (1, .int x1), (2, .long x2), (4, .int x4)] := hl
  have S : St G w s s.heap [] := S
  generalize s.heap = H at S ⊢
  generalize ([] : List Loc) = locs at S ⊢
  rw [f_X9_byDoor] at hz
  refine lv_aload_n hx hb dX9_byDoor_0 rfl (lv_at hl 0 rfl) ?_
  refine lv_iload_n hx hb dX9_byDoor_1 rfl (lv_at hl 1 rfl) ?_
  obtain ⟨q1, e2, hz⟩ := bd hz
  refine g_callVv (As := [.int x1]) (rest := []) F S (c_X9_layApart l G x1  _ e2) (cw_X9_byDoor_X9_layApart_279 hg) (S.obj (by decide) (by decide) rfl (oc_X9 _ _ _ (by decide))) rfl hl.1 rfl (Nat.le_of_ble_eq_true rfl) ⟨Nat.zero_le _, Nat.zero_le _⟩ dX9_byDoor_2 (fun H locs  S => ?_)
  refine lv_aload_n hx hb dX9_byDoor_5 rfl (lv_at hl 0 rfl) ?_
  refine lv_aload_n hx hb dX9_byDoor_6 rfl (lv_at hl 0 rfl) ?_
  refine fg_X9_15 hx hb (fun q h => hg q (tl_X9 q h)) hown (hg _ t_fl_X9_20) S (by decide) dX9_byDoor_7 ?_
  refine lv_bipush (v := 36) hx hb dX9_byDoor_10 (by decide) ?_
  obtain ⟨h3, hz⟩ := ck hz
  refine g_iald hx hb S (isA_15 (by decide)) h3 dX9_byDoor_12 ?_
  obtain ⟨q4, e5, hz⟩ := bd hz
  refine g_callVi (As := [.int (gI q1.2 133 (ix 36))]) (rest := []) F S (c_X9_goesTo l G (gI q1.2 133 (ix 36))  _ e5) (cw_X9_byDoor_X9_goesTo_237 hg) (S.obj (by decide) (by decide) rfl (oc_X9 _ _ _ (by decide))) rfl hl.1 rfl (Nat.le_of_ble_eq_true rfl) ⟨Nat.zero_le _, Nat.zero_le _⟩ dX9_byDoor_13 (fun H locs  S => ?_)
  refine lv_istore (lv' := [(5, .int q4.1), (0, .ref (gad G 130)), (1, .int x1), (2, .long x2), (4, .int x4)]) hx hb dX9_byDoor_16 hl (by decide) rfl (fun ls hl => ?_)
  refine lv_iload hx hb dX9_byDoor_18 (lv_at hl 0 rfl) ?_
  refine lv_iconst (v := 5) hx hb dX9_byDoor_20 (by decide) ?_
  refine lv_icmp_ge (tgt := 30) hx hb dX9_byDoor_21 (by decide) (fun c6 => ?_) (fun c6 => ?_)
  · have hz := ipt (c6) hz
    exact w_X9_byDoor_30 F hr hlk x2 _ _ _ _ S (lv_sub hl [1, 3] rfl) hz
  · have hz := ipf (c6) hz
    refine lv_aload_n hx hb dX9_byDoor_24 rfl (lv_at hl 1 rfl) ?_
    refine lv_iload hx hb dX9_byDoor_25 (lv_at hl 4 rfl) ?_
    obtain ⟨q11, e12, hz⟩ := bd hz
    refine g_callVv (As := [.int x4]) (rest := []) F S (c_X9_moves l G x4  _ e12) (cw_X9_byDoor_X9_moves_283 hg) (S.obj (by decide) (by decide) rfl (oc_X9 _ _ _ (by decide))) rfl hl.1 rfl (Nat.le_of_ble_eq_true rfl) ⟨Nat.zero_le _, Nat.zero_le _⟩ dX9_byDoor_27 (fun H locs  S => ?_)
    exact w_X9_byDoor_30 F hr hlk x2 _ _ _ _ S (lv_sub hl [1, 3] rfl) hz
