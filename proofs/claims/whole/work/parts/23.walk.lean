noncomputable def f_X2_begin_27  : Nat → Nat → Int32 → GW → Option (Unit × GW)
  | 0, _, _, _ => none
  | n9 + 1, k0, x3, w =>
    if 5 ≤ x3 then
      some ((), w)
    else
      if inb x3 5 then
      f_X2_begin_27 n9 k0 (x3 + 1) (sI w (k0 + 1) (ix x3) 0)
      else none
noncomputable def f_X2_begin (k0 : Nat) (x1 : Int32) (x2 : Int32) (w : GW) : Option (Unit × GW) :=
  f_X2_begin_27 fu k0 0 (sI (sI (sI (sI (sI w k0 0 x1) k0 1 x2) k0 2 0) k0 3 0) k0 4 0)
set_option maxHeartbeats 4000000 in
set_option maxRecDepth 100000 in
theorem w_X2_begin_27 {p : Program} {l : Launch} {e : Env} {s : State} {m : MethodId} {args : Array Value} {below : List Frame} {meth : Method} {c : Code} {G : GG} (F : CallFix p m c cX2_begin 4 s args (wsU yX2_begin cX2_begin 4 none) RX2) (hr : meth.sig.returnType = none) (hlk : meth.locks = false) {z : Unit × GW} : ∀ (n9 : Nat), (∀ (k0 : Nat) (x3 : Int32) (hk0 : kd k0 = 2) (w : GW) (H : Heap) (locs : List Loc) (ls : Array Slot), St G w s H locs → lv_has ls 4 [(0, .ref (gad G k0)), (3, .int x3)] → f_X2_begin_27 n9 k0 x3 w = some z → W p l e (headSpec (wsU yX2_begin cX2_begin 4 none) rm_X2_begin).room s m args below meth c H locs 0 0 (MQ below (QV G z) args s 0 0 (gA G)) (F0 m 27 ls [])) := by
  obtain ⟨hx, hb, hml, hown, hts⟩ := id F
  have hg : ∀ q ∈ lwg, q.before args s = true := fun q h => hts q (List.mem_cons_of_mem _ h)
  intro n9
  induction n9 with
  | zero =>
    intro k0 x3 hk0 w H locs ls S hl hz
    rw [f_X2_begin_27] at hz
    cases hz
  | succ n9 ih =>
    intro k0 x3 hk0 w H locs ls S hl hz
    rw [f_X2_begin_27] at hz
    refine lv_iload_n hx hb dX2_begin_27 rfl (lv_at hl 1 rfl) ?_
    refine lv_iconst (v := 5) hx hb dX2_begin_28 (by decide) ?_
    refine lv_icmp_ge (tgt := 45) hx hb dX2_begin_29 (by decide) (fun c1 => ?_) (fun c1 => ?_)
    · have hz := ipt (c1) hz
      exact g_retv hx hb hr hlk S hz dX2_begin_45
    · have hz := ipf (c1) hz
      refine lv_aload_n hx hb dX2_begin_32 rfl (lv_at hl 0 rfl) ?_
      refine fg_X2_5 hx hb (fun q h => hg q (tl_X2 q h)) hown (hg _ t_fl_X2_9) S hk0 dX2_begin_33 ?_
      refine lv_iload_n hx hb dX2_begin_36 rfl (lv_at hl 1 rfl) ?_
      refine lv_iconst (v := 0) hx hb dX2_begin_37 (by decide) ?_
      obtain ⟨h2, hz⟩ := ck hz
      refine g_iast (x := 0) hx hb S (isA_10 (kd_2_1 hk0)) h2 dX2_begin_38 (fun H locs S => ?_)
      refine lv_iinc (v := (x3 + 1)) (lv' := [(3, .int (x3 + 1)), (0, .ref (gad G k0))]) hx hb dX2_begin_39 hl (k := 1) rfl rfl (by decide) rfl (fun ls hl => ?_)
      refine lv_goto (tgt := 27) hx hb dX2_begin_42 (by decide) ?_
      exact ih k0 (x3 + 1) hk0 _ _ _ _ S (lv_sub hl [1, 0] rfl) hz
set_option maxHeartbeats 4000000 in
set_option maxRecDepth 100000 in
theorem c_X2_begin (l : Launch) (G : GG) (k0 : Nat) (x1 : Int32) (x2 : Int32) (hk0 : kd k0 = 2) (w : GW) {z : Unit × GW} (hz : f_X2_begin k0 x1 x2 w = some z) : Met l yX2_begin (wsU yX2_begin cX2_begin 4 none) rm_X2_begin (va_Pc [.ref (gad G k0), .int x1, .int x2] (PreG G w)) (QV G z) 0 0 (gA G) := by
  refine Met.ofW (cc := cX2_begin) (maxL := 4) (ret := none) (by decide) rfl ?_
  intro p e s m args below meth c s₁ B hml hv
  obtain ⟨rfl, S⟩ := hv
  have F : CallFix p m c cX2_begin 4 s _ (wsU yX2_begin cX2_begin 4 none) RX2 := ⟨B.exec, B.bytes, hml, findClass_of_methodNamed B.named, atoms_spec B.pre⟩
  have hr := B.returns
  have hlk := B.notSynchronized
  obtain ⟨hx, hb, -, hown, hts⟩ := id F
  have hg : ∀ q ∈ lwg, q.before _ s = true := fun q h => hts q (List.mem_cons_of_mem _ h)
  refine g_entry (Nat.le_of_ble_eq_true rfl) (fun ls hl => ?_)
  have hl : lv_has ls 4 [(0, .ref (gad G k0)), (1, .int x1), (2, .int x2)] := hl
  have S : St G w s s.heap [] := S
  generalize s.heap = H at S ⊢
  generalize ([] : List Loc) = locs at S ⊢
  rw [f_X2_begin] at hz
  refine lv_aload_n hx hb dX2_begin_0 rfl (lv_at hl 0 rfl) ?_
  refine lv_iload_n hx hb dX2_begin_1 rfl (lv_at hl 1 rfl) ?_
  refine fp_X2_0 (v := x1) hx hb (fun q h => hg q (tl_X2 q h)) hown (hg _ t_fl_X2_15) S hk0 dX2_begin_2 (fun H locs S => ?_)
  refine lv_aload_n hx hb dX2_begin_5 rfl (lv_at hl 0 rfl) ?_
  refine lv_iload_n hx hb dX2_begin_6 rfl (lv_at hl 2 rfl) ?_
  refine fp_X2_1 (v := x2) hx hb (fun q h => hg q (tl_X2 q h)) hown (hg _ t_fl_X2_19) S hk0 dX2_begin_7 (fun H locs S => ?_)
  refine lv_aload_n hx hb dX2_begin_10 rfl (lv_at hl 0 rfl) ?_
  refine lv_iconst (v := 0) hx hb dX2_begin_11 (by decide) ?_
  refine fp_X2_2 (v := 0) hx hb (fun q h => hg q (tl_X2 q h)) hown (hg _ t_fl_X2_22) S hk0 dX2_begin_12 (fun H locs S => ?_)
  refine lv_aload_n hx hb dX2_begin_15 rfl (lv_at hl 0 rfl) ?_
  refine lv_iconst (v := 0) hx hb dX2_begin_16 (by decide) ?_
  refine fp_X2_3 (v := 0) hx hb (fun q h => hg q (tl_X2 q h)) hown (hg _ t_fl_X2_25) S hk0 dX2_begin_17 (fun H locs S => ?_)
  refine lv_aload_n hx hb dX2_begin_20 rfl (lv_at hl 0 rfl) ?_
  refine lv_iconst (v := 0) hx hb dX2_begin_21 (by decide) ?_
  refine fp_X2_4 (v := 0) hx hb (fun q h => hg q (tl_X2 q h)) hown (hg _ t_fl_X2_28) S hk0 dX2_begin_22 (fun H locs S => ?_)
  refine lv_iconst (v := 0) hx hb dX2_begin_25 (by decide) ?_
  refine lv_istore_n (lv' := [(3, .int 0), (0, .ref (gad G k0)), (1, .int x1), (2, .int x2)]) hx hb dX2_begin_26 rfl hl (by decide) rfl (fun ls hl => ?_)
  exact w_X2_begin_27 F hr hlk fu k0 0 hk0 _ _ _ _ S (lv_sub hl [1, 0] rfl) hz
noncomputable def f_X2_become_42  : Nat → Nat → Nat → Int32 → GW → Option (Unit × GW)
  | 0, _, _, _, _ => none
  | n9 + 1, k0, k1, x2, w =>
    if 5 ≤ x2 then
      some ((), w)
    else
      if inb x2 5 then
      if inb x2 5 then
      f_X2_become_42 n9 k0 k1 (x2 + 1) (sI w (k0 + 1) (ix x2) (gI w (k1 + 1) (ix x2)))
      else none
      else none
noncomputable def f_X2_become (k0 : Nat) (k1 : Nat) (w : GW) : Option (Unit × GW) :=
  f_X2_become_42 fu k0 k1 0 (sI (sI (sI (sI (sI w k0 0 (gI w k1 0)) k0 1 (gI (sI w k0 0 (gI w k1 0)) k1 1)) k0 2 (gI (sI (sI w k0 0 (gI w k1 0)) k0 1 (gI (sI w k0 0 (gI w k1 0)) k1 1)) k1 2)) k0 3 (gI (sI (sI (sI w k0 0 (gI w k1 0)) k0 1 (gI (sI w k0 0 (gI w k1 0)) k1 1)) k0 2 (gI (sI (sI w k0 0 (gI w k1 0)) k0 1 (gI (sI w k0 0 (gI w k1 0)) k1 1)) k1 2)) k1 3)) k0 4 (gI (sI (sI (sI (sI w k0 0 (gI w k1 0)) k0 1 (gI (sI w k0 0 (gI w k1 0)) k1 1)) k0 2 (gI (sI (sI w k0 0 (gI w k1 0)) k0 1 (gI (sI w k0 0 (gI w k1 0)) k1 1)) k1 2)) k0 3 (gI (sI (sI (sI w k0 0 (gI w k1 0)) k0 1 (gI (sI w k0 0 (gI w k1 0)) k1 1)) k0 2 (gI (sI (sI w k0 0 (gI w k1 0)) k0 1 (gI (sI w k0 0 (gI w k1 0)) k1 1)) k1 2)) k1 3)) k1 4))
set_option maxHeartbeats 4000000 in
set_option maxRecDepth 100000 in
theorem w_X2_become_42 {p : Program} {l : Launch} {e : Env} {s : State} {m : MethodId} {args : Array Value} {below : List Frame} {meth : Method} {c : Code} {G : GG} (F : CallFix p m c cX2_become 3 s args (wsU yX2_become cX2_become 3 none) RX2) (hr : meth.sig.returnType = none) (hlk : meth.locks = false) {z : Unit × GW} : ∀ (n9 : Nat), (∀ (k0 : Nat) (k1 : Nat) (x2 : Int32) (hk0 : kd k0 = 2) (hk1 : kd k1 = 2) (w : GW) (H : Heap) (locs : List Loc) (ls : Array Slot), St G w s H locs → lv_has ls 3 [(0, .ref (gad G k0)), (1, .ref (gad G k1)), (2, .int x2)] → f_X2_become_42 n9 k0 k1 x2 w = some z → W p l e (headSpec (wsU yX2_become cX2_become 3 none) rm_X2_become).room s m args below meth c H locs 0 0 (MQ below (QV G z) args s 0 0 (gA G)) (F0 m 42 ls [])) := by
  obtain ⟨hx, hb, hml, hown, hts⟩ := id F
  have hg : ∀ q ∈ lwg, q.before args s = true := fun q h => hts q (List.mem_cons_of_mem _ h)
  intro n9
  induction n9 with
  | zero =>
    intro k0 k1 x2 hk0 hk1 w H locs ls S hl hz
    rw [f_X2_become_42] at hz
    cases hz
  | succ n9 ih =>
    intro k0 k1 x2 hk0 hk1 w H locs ls S hl hz
    rw [f_X2_become_42] at hz
    refine lv_iload_n hx hb dX2_become_42 rfl (lv_at hl 2 rfl) ?_
    refine lv_iconst (v := 5) hx hb dX2_become_43 (by decide) ?_
    refine lv_icmp_ge (tgt := 65) hx hb dX2_become_44 (by decide) (fun c1 => ?_) (fun c1 => ?_)
    · have hz := ipt (c1) hz
      exact g_retv hx hb hr hlk S hz dX2_become_65
    · have hz := ipf (c1) hz
      refine lv_aload_n hx hb dX2_become_47 rfl (lv_at hl 0 rfl) ?_
      refine fg_X2_5 hx hb (fun q h => hg q (tl_X2 q h)) hown (hg _ t_fl_X2_9) S hk0 dX2_become_48 ?_
      refine lv_iload_n hx hb dX2_become_51 rfl (lv_at hl 2 rfl) ?_
      refine lv_aload_n hx hb dX2_become_52 rfl (lv_at hl 1 rfl) ?_
      refine fg_X2_5 hx hb (fun q h => hg q (tl_X2 q h)) hown (hg _ t_fl_X2_9) S hk1 dX2_become_53 ?_
      refine lv_iload_n hx hb dX2_become_56 rfl (lv_at hl 2 rfl) ?_
      obtain ⟨h2, hz⟩ := ck hz
      refine g_iald hx hb S (isA_10 (kd_2_1 hk1)) h2 dX2_become_57 ?_
      obtain ⟨h3, hz⟩ := ck hz
      refine g_iast (x := (gI w (k1 + 1) (ix x2))) hx hb S (isA_10 (kd_2_1 hk0)) h3 dX2_become_58 (fun H locs S => ?_)
      refine lv_iinc (v := (x2 + 1)) (lv' := [(2, .int (x2 + 1)), (0, .ref (gad G k0)), (1, .ref (gad G k1))]) hx hb dX2_become_59 hl (k := 2) rfl rfl (by decide) rfl (fun ls hl => ?_)
      refine lv_goto (tgt := 42) hx hb dX2_become_62 (by decide) ?_
      exact ih k0 k1 (x2 + 1) hk0 hk1 _ _ _ _ S (lv_sub hl [1, 2, 0] rfl) hz
set_option maxHeartbeats 4000000 in
set_option maxRecDepth 100000 in
theorem c_X2_become (l : Launch) (G : GG) (k0 : Nat) (k1 : Nat) (hk0 : kd k0 = 2) (hk1 : kd k1 = 2) (w : GW) {z : Unit × GW} (hz : f_X2_become k0 k1 w = some z) : Met l yX2_become (wsU yX2_become cX2_become 3 none) rm_X2_become (va_Pc [.ref (gad G k0), .ref (gad G k1)] (PreG G w)) (QV G z) 0 0 (gA G) := by
  refine Met.ofW (cc := cX2_become) (maxL := 3) (ret := none) (by decide) rfl ?_
  intro p e s m args below meth c s₁ B hml hv
  obtain ⟨rfl, S⟩ := hv
  have F : CallFix p m c cX2_become 3 s _ (wsU yX2_become cX2_become 3 none) RX2 := ⟨B.exec, B.bytes, hml, findClass_of_methodNamed B.named, atoms_spec B.pre⟩
  have hr := B.returns
  have hlk := B.notSynchronized
  obtain ⟨hx, hb, -, hown, hts⟩ := id F
  have hg : ∀ q ∈ lwg, q.before _ s = true := fun q h => hts q (List.mem_cons_of_mem _ h)
  refine g_entry (Nat.le_of_ble_eq_true rfl) (fun ls hl => ?_)
  have hl : lv_has ls 3 [(0, .ref (gad G k0)), (1, .ref (gad G k1))] := hl
  have S : St G w s s.heap [] := S
  generalize s.heap = H at S ⊢
  generalize ([] : List Loc) = locs at S ⊢
  rw [f_X2_become] at hz
  refine lv_aload_n hx hb dX2_become_0 rfl (lv_at hl 0 rfl) ?_
  refine lv_aload_n hx hb dX2_become_1 rfl (lv_at hl 1 rfl) ?_
  refine fg_X2_0 hx hb (fun q h => hg q (tl_X2 q h)) hown (hg _ t_fl_X2_15) S hk1 dX2_become_2 ?_
  refine fp_X2_0 (v := (gI w k1 0)) hx hb (fun q h => hg q (tl_X2 q h)) hown (hg _ t_fl_X2_15) S hk0 dX2_become_5 (fun H locs S => ?_)
  refine lv_aload_n hx hb dX2_become_8 rfl (lv_at hl 0 rfl) ?_
  refine lv_aload_n hx hb dX2_become_9 rfl (lv_at hl 1 rfl) ?_
  refine fg_X2_1 hx hb (fun q h => hg q (tl_X2 q h)) hown (hg _ t_fl_X2_19) S hk1 dX2_become_10 ?_
  refine fp_X2_1 (v := (gI (sI w k0 0 (gI w k1 0)) k1 1)) hx hb (fun q h => hg q (tl_X2 q h)) hown (hg _ t_fl_X2_19) S hk0 dX2_become_13 (fun H locs S => ?_)
  refine lv_aload_n hx hb dX2_become_16 rfl (lv_at hl 0 rfl) ?_
  refine lv_aload_n hx hb dX2_become_17 rfl (lv_at hl 1 rfl) ?_
  refine fg_X2_2 hx hb (fun q h => hg q (tl_X2 q h)) hown (hg _ t_fl_X2_22) S hk1 dX2_become_18 ?_
  refine fp_X2_2 (v := (gI (sI (sI w k0 0 (gI w k1 0)) k0 1 (gI (sI w k0 0 (gI w k1 0)) k1 1)) k1 2)) hx hb (fun q h => hg q (tl_X2 q h)) hown (hg _ t_fl_X2_22) S hk0 dX2_become_21 (fun H locs S => ?_)
  refine lv_aload_n hx hb dX2_become_24 rfl (lv_at hl 0 rfl) ?_
  refine lv_aload_n hx hb dX2_become_25 rfl (lv_at hl 1 rfl) ?_
  refine fg_X2_3 hx hb (fun q h => hg q (tl_X2 q h)) hown (hg _ t_fl_X2_25) S hk1 dX2_become_26 ?_
  refine fp_X2_3 (v := (gI (sI (sI (sI w k0 0 (gI w k1 0)) k0 1 (gI (sI w k0 0 (gI w k1 0)) k1 1)) k0 2 (gI (sI (sI w k0 0 (gI w k1 0)) k0 1 (gI (sI w k0 0 (gI w k1 0)) k1 1)) k1 2)) k1 3)) hx hb (fun q h => hg q (tl_X2 q h)) hown (hg _ t_fl_X2_25) S hk0 dX2_become_29 (fun H locs S => ?_)
  refine lv_aload_n hx hb dX2_become_32 rfl (lv_at hl 0 rfl) ?_
  refine lv_aload_n hx hb dX2_become_33 rfl (lv_at hl 1 rfl) ?_
  refine fg_X2_4 hx hb (fun q h => hg q (tl_X2 q h)) hown (hg _ t_fl_X2_28) S hk1 dX2_become_34 ?_
  refine fp_X2_4 (v := (gI (sI (sI (sI (sI w k0 0 (gI w k1 0)) k0 1 (gI (sI w k0 0 (gI w k1 0)) k1 1)) k0 2 (gI (sI (sI w k0 0 (gI w k1 0)) k0 1 (gI (sI w k0 0 (gI w k1 0)) k1 1)) k1 2)) k0 3 (gI (sI (sI (sI w k0 0 (gI w k1 0)) k0 1 (gI (sI w k0 0 (gI w k1 0)) k1 1)) k0 2 (gI (sI (sI w k0 0 (gI w k1 0)) k0 1 (gI (sI w k0 0 (gI w k1 0)) k1 1)) k1 2)) k1 3)) k1 4)) hx hb (fun q h => hg q (tl_X2 q h)) hown (hg _ t_fl_X2_28) S hk0 dX2_become_37 (fun H locs S => ?_)
  refine lv_iconst (v := 0) hx hb dX2_become_40 (by decide) ?_
  refine lv_istore_n (lv' := [(2, .int 0), (0, .ref (gad G k0)), (1, .ref (gad G k1))]) hx hb dX2_become_41 rfl hl (by decide) rfl (fun ls hl => ?_)
  exact w_X2_become_42 F hr hlk fu k0 k1 0 hk0 hk1 _ _ _ _ S (lv_sub hl [1, 2, 0] rfl) hz
noncomputable def f_X3_clear_85 (k_77 : Nat → Int32 → GW → Option (Unit × GW)) : Nat → Nat → Int32 → Int32 → GW → Option (Unit × GW)
  | 0, _, _, _, _ => none
  | n9 + 1, k0, x1, x2, w =>
    if 5 ≤ x2 then
      k_77 k0 (x1 + 1) w
    else
      if inb x1 8 then
      if inb x2 5 then
      f_X3_clear_85 k_77 n9 k0 x1 (x2 + 1) (sI w ((k0 + 12) + 1 + ix x1) (ix x2) 0)
      else none
      else none
noncomputable def f_X3_clear_77  : Nat → Nat → Int32 → GW → Option (Unit × GW)
  | 0, _, _, _ => none
  | n9 + 1, k0, x1, w =>
    if 8 ≤ x1 then
      some ((), w)
    else
      f_X3_clear_85 (f_X3_clear_77 n9) fu k0 x1 0 w
noncomputable def f_X3_clear_42  : Nat → Nat → Int32 → GW → Option (Unit × GW)
  | 0, _, _, _ => none
  | n9 + 1, k0, x1, w =>
    if 5 ≤ x1 then
      f_X3_clear_77 fu k0 0 w
    else
      if inb x1 5 then
      if inb x1 5 then
      if inb x1 5 then
      f_X3_clear_42 n9 k0 (x1 + 1) (sI (sI (sI w (k0 + 1) (ix x1) 8) (k0 + 2) (ix x1) 1) (k0 + 3) (ix x1) 0)
      else none
      else none
      else none
noncomputable def f_X3_clear (k0 : Nat) (w : GW) : Option (Unit × GW) :=
  f_X3_clear_42 fu k0 0 (sI (sI (sI (sI (sI (sI (sI (sI w k0 0 0) k0 1 0) k0 2 0) k0 5 0) k0 6 0) k0 7 0) k0 8 0) k0 9 0)
set_option maxHeartbeats 4000000 in
set_option maxRecDepth 100000 in
theorem w_X3_clear_85 {p : Program} {l : Launch} {e : Env} {s : State} {m : MethodId} {args : Array Value} {below : List Frame} {meth : Method} {c : Code} {G : GG} (F : CallFix p m c cX3_clear 3 s args (wsU yX3_clear cX3_clear 3 none) RX3) (hr : meth.sig.returnType = none) (hlk : meth.locks = false) {z : Unit × GW} {k_77 : Nat → Int32 → GW → Option (Unit × GW)} (Hk_77 : (∀ (k0 : Nat) (x1 : Int32) (hk0 : kd k0 = 3) (w : GW) (H : Heap) (locs : List Loc) (ls : Array Slot), St G w s H locs → lv_has ls 3 [(0, .ref (gad G k0)), (1, .int x1)] → k_77 k0 x1 w = some z → W p l e (headSpec (wsU yX3_clear cX3_clear 3 none) rm_X3_clear).room s m args below meth c H locs 0 0 (MQ below (QV G z) args s 0 0 (gA G)) (F0 m 77 ls []))) : ∀ (n9 : Nat), (∀ (k0 : Nat) (x1 : Int32) (x2 : Int32) (hk0 : kd k0 = 3) (w : GW) (H : Heap) (locs : List Loc) (ls : Array Slot), St G w s H locs → lv_has ls 3 [(0, .ref (gad G k0)), (1, .int x1), (2, .int x2)] → f_X3_clear_85 k_77 n9 k0 x1 x2 w = some z → W p l e (headSpec (wsU yX3_clear cX3_clear 3 none) rm_X3_clear).room s m args below meth c H locs 0 0 (MQ below (QV G z) args s 0 0 (gA G)) (F0 m 85 ls [])) := by
  obtain ⟨hx, hb, hml, hown, hts⟩ := id F
  have hg : ∀ q ∈ lwg, q.before args s = true := fun q h => hts q (List.mem_cons_of_mem _ h)
  intro n9
  induction n9 with
  | zero =>
    intro k0 x1 x2 hk0 w H locs ls S hl hz
    rw [f_X3_clear_85] at hz
    cases hz
  | succ n9 ih =>
    intro k0 x1 x2 hk0 w H locs ls S hl hz
    rw [f_X3_clear_85] at hz
    refine lv_iload_n hx hb dX3_clear_85 rfl (lv_at hl 2 rfl) ?_
    refine lv_iconst (v := 5) hx hb dX3_clear_86 (by decide) ?_
    refine lv_icmp_ge (tgt := 105) hx hb dX3_clear_87 (by decide) (fun c3 => ?_) (fun c3 => ?_)
    · have hz := ipt (c3) hz
      refine lv_iinc (v := (x1 + 1)) (lv' := [(1, .int (x1 + 1)), (0, .ref (gad G k0)), (2, .int x2)]) hx hb dX3_clear_105 hl (k := 1) rfl rfl (by decide) rfl (fun ls hl => ?_)
      refine lv_goto (tgt := 77) hx hb dX3_clear_108 (by decide) ?_
      exact Hk_77 k0 (x1 + 1) hk0 _ _ _ _ S (lv_sub hl [1, 0] rfl) hz
    · have hz := ipf (c3) hz
      refine lv_aload_n hx hb dX3_clear_90 rfl (lv_at hl 0 rfl) ?_
      refine fg_X3_15 hx hb (fun q h => hg q (tl_X3 q h)) hown (hg _ t_fl_X3_35) S hk0 dX3_clear_91 ?_
      refine lv_iload_n hx hb dX3_clear_94 rfl (lv_at hl 1 rfl) ?_
      obtain ⟨h4, hz⟩ := ck hz
      refine g_aald35 hx hb S (kd_3_12 hk0) h4 dX3_clear_95 ?_
      refine lv_iload_n hx hb dX3_clear_96 rfl (lv_at hl 2 rfl) ?_
      refine lv_iconst (v := 0) hx hb dX3_clear_97 (by decide) ?_
      obtain ⟨h5, hz⟩ := ck hz
      refine g_iast (x := 0) hx hb S (isA_10 (kd_el35 (kd_3_12 hk0) (h4).2)) h5 dX3_clear_98 (fun H locs S => ?_)
      refine lv_iinc (v := (x2 + 1)) (lv' := [(2, .int (x2 + 1)), (0, .ref (gad G k0)), (1, .int x1)]) hx hb dX3_clear_99 hl (k := 2) rfl rfl (by decide) rfl (fun ls hl => ?_)
      refine lv_goto (tgt := 85) hx hb dX3_clear_102 (by decide) ?_
      exact ih k0 x1 (x2 + 1) hk0 _ _ _ _ S (lv_sub hl [1, 2, 0] rfl) hz
set_option maxHeartbeats 4000000 in
set_option maxRecDepth 100000 in
theorem w_X3_clear_77 {p : Program} {l : Launch} {e : Env} {s : State} {m : MethodId} {args : Array Value} {below : List Frame} {meth : Method} {c : Code} {G : GG} (F : CallFix p m c cX3_clear 3 s args (wsU yX3_clear cX3_clear 3 none) RX3) (hr : meth.sig.returnType = none) (hlk : meth.locks = false) {z : Unit × GW} : ∀ (n9 : Nat), (∀ (k0 : Nat) (x1 : Int32) (hk0 : kd k0 = 3) (w : GW) (H : Heap) (locs : List Loc) (ls : Array Slot), St G w s H locs → lv_has ls 3 [(0, .ref (gad G k0)), (1, .int x1)] → f_X3_clear_77 n9 k0 x1 w = some z → W p l e (headSpec (wsU yX3_clear cX3_clear 3 none) rm_X3_clear).room s m args below meth c H locs 0 0 (MQ below (QV G z) args s 0 0 (gA G)) (F0 m 77 ls [])) := by
  obtain ⟨hx, hb, hml, hown, hts⟩ := id F
  have hg : ∀ q ∈ lwg, q.before args s = true := fun q h => hts q (List.mem_cons_of_mem _ h)
  intro n9
  induction n9 with
  | zero =>
    intro k0 x1 hk0 w H locs ls S hl hz
    rw [f_X3_clear_77] at hz
    cases hz
  | succ n9 ih =>
    intro k0 x1 hk0 w H locs ls S hl hz
    rw [f_X3_clear_77] at hz
    refine lv_iload_n hx hb dX3_clear_77 rfl (lv_at hl 1 rfl) ?_
    refine lv_bipush (v := 8) hx hb dX3_clear_78 (by decide) ?_
    refine lv_icmp_ge (tgt := 111) hx hb dX3_clear_80 (by decide) (fun c2 => ?_) (fun c2 => ?_)
    · have hz := ipt (c2) hz
      exact g_retv hx hb hr hlk S hz dX3_clear_111
    · have hz := ipf (c2) hz
      refine lv_iconst (v := 0) hx hb dX3_clear_83 (by decide) ?_
      refine lv_istore_n (lv' := [(2, .int 0), (0, .ref (gad G k0)), (1, .int x1)]) hx hb dX3_clear_84 rfl hl (by decide) rfl (fun ls hl => ?_)
      exact w_X3_clear_85 F hr hlk ih fu k0 x1 0 hk0 _ _ _ _ S (lv_sub hl [1, 2, 0] rfl) hz
set_option maxHeartbeats 4000000 in
set_option maxRecDepth 100000 in
theorem w_X3_clear_42 {p : Program} {l : Launch} {e : Env} {s : State} {m : MethodId} {args : Array Value} {below : List Frame} {meth : Method} {c : Code} {G : GG} (F : CallFix p m c cX3_clear 3 s args (wsU yX3_clear cX3_clear 3 none) RX3) (hr : meth.sig.returnType = none) (hlk : meth.locks = false) {z : Unit × GW} : ∀ (n9 : Nat), (∀ (k0 : Nat) (x1 : Int32) (hk0 : kd k0 = 3) (w : GW) (H : Heap) (locs : List Loc) (ls : Array Slot), St G w s H locs → lv_has ls 3 [(0, .ref (gad G k0)), (1, .int x1)] → f_X3_clear_42 n9 k0 x1 w = some z → W p l e (headSpec (wsU yX3_clear cX3_clear 3 none) rm_X3_clear).room s m args below meth c H locs 0 0 (MQ below (QV G z) args s 0 0 (gA G)) (F0 m 42 ls [])) := by
  obtain ⟨hx, hb, hml, hown, hts⟩ := id F
  have hg : ∀ q ∈ lwg, q.before args s = true := fun q h => hts q (List.mem_cons_of_mem _ h)
  intro n9
  induction n9 with
  | zero =>
    intro k0 x1 hk0 w H locs ls S hl hz
    rw [f_X3_clear_42] at hz
    cases hz
  | succ n9 ih =>
    intro k0 x1 hk0 w H locs ls S hl hz
    rw [f_X3_clear_42] at hz
    refine lv_iload_n hx hb dX3_clear_42 rfl (lv_at hl 1 rfl) ?_
    refine lv_iconst (v := 5) hx hb dX3_clear_43 (by decide) ?_
    refine lv_icmp_ge (tgt := 75) hx hb dX3_clear_44 (by decide) (fun c1 => ?_) (fun c1 => ?_)
    · have hz := ipt (c1) hz
      refine lv_iconst (v := 0) hx hb dX3_clear_75 (by decide) ?_
      refine lv_istore_n (lv' := [(1, .int 0), (0, .ref (gad G k0))]) hx hb dX3_clear_76 rfl hl (by decide) rfl (fun ls hl => ?_)
      exact w_X3_clear_77 F hr hlk fu k0 0 hk0 _ _ _ _ S (lv_sub hl [1, 0] rfl) hz
    · have hz := ipf (c1) hz
      refine lv_aload_n hx hb dX3_clear_47 rfl (lv_at hl 0 rfl) ?_
      refine fg_X3_10 hx hb (fun q h => hg q (tl_X3 q h)) hown (hg _ t_fl_X3_9) S hk0 dX3_clear_48 ?_
      refine lv_iload_n hx hb dX3_clear_51 rfl (lv_at hl 1 rfl) ?_
      refine lv_bipush (v := 8) hx hb dX3_clear_52 (by decide) ?_
      obtain ⟨h6, hz⟩ := ck hz
      refine g_iast (x := 8) hx hb S (isA_10 (kd_3_1 hk0)) h6 dX3_clear_54 (fun H locs S => ?_)
      refine lv_aload_n hx hb dX3_clear_55 rfl (lv_at hl 0 rfl) ?_
      refine fg_X3_11 hx hb (fun q h => hg q (tl_X3 q h)) hown (hg _ t_fl_X3_15) S hk0 dX3_clear_56 ?_
      refine lv_iload_n hx hb dX3_clear_59 rfl (lv_at hl 1 rfl) ?_
      refine lv_iconst (v := 1) hx hb dX3_clear_60 (by decide) ?_
      obtain ⟨h7, hz⟩ := ck hz
      refine g_iast (x := 1) hx hb S (isA_10 (kd_3_2 hk0)) h7 dX3_clear_61 (fun H locs S => ?_)
      refine lv_aload_n hx hb dX3_clear_62 rfl (lv_at hl 0 rfl) ?_
      refine fg_X3_12 hx hb (fun q h => hg q (tl_X3 q h)) hown (hg _ t_fl_X3_18) S hk0 dX3_clear_63 ?_
      refine lv_iload_n hx hb dX3_clear_66 rfl (lv_at hl 1 rfl) ?_
      refine lv_iconst (v := 0) hx hb dX3_clear_67 (by decide) ?_
      obtain ⟨h8, hz⟩ := ck hz
      refine g_zast (x := 0) hx hb S (isA_31 (kd_3_3 hk0)) h8 isB_0 dX3_clear_68 (fun H locs S => ?_)
      refine lv_iinc (v := (x1 + 1)) (lv' := [(1, .int (x1 + 1)), (0, .ref (gad G k0))]) hx hb dX3_clear_69 hl (k := 1) rfl rfl (by decide) rfl (fun ls hl => ?_)
      refine lv_goto (tgt := 42) hx hb dX3_clear_72 (by decide) ?_
      exact ih k0 (x1 + 1) hk0 _ _ _ _ S (lv_sub hl [1, 0] rfl) hz
set_option maxHeartbeats 4000000 in
set_option maxRecDepth 100000 in
theorem c_X3_clear (l : Launch) (G : GG) (k0 : Nat) (hk0 : kd k0 = 3) (w : GW) {z : Unit × GW} (hz : f_X3_clear k0 w = some z) : Met l yX3_clear (wsU yX3_clear cX3_clear 3 none) rm_X3_clear (va_Pc [.ref (gad G k0)] (PreG G w)) (QV G z) 0 0 (gA G) := by
  refine Met.ofW (cc := cX3_clear) (maxL := 3) (ret := none) (by decide) rfl ?_
  intro p e s m args below meth c s₁ B hml hv
  obtain ⟨rfl, S⟩ := hv
  have F : CallFix p m c cX3_clear 3 s _ (wsU yX3_clear cX3_clear 3 none) RX3 := ⟨B.exec, B.bytes, hml, findClass_of_methodNamed B.named, atoms_spec B.pre⟩
  have hr := B.returns
  have hlk := B.notSynchronized
  obtain ⟨hx, hb, -, hown, hts⟩ := id F
  have hg : ∀ q ∈ lwg, q.before _ s = true := fun q h => hts q (List.mem_cons_of_mem _ h)
  refine g_entry (Nat.le_of_ble_eq_true rfl) (fun ls hl => ?_)
  have hl : lv_has ls 3 [(0, .ref (gad G k0))] := hl
  have S : St G w s s.heap [] := S
  generalize s.heap = H at S ⊢
  generalize ([] : List Loc) = locs at S ⊢
  rw [f_X3_clear] at hz
  refine lv_aload_n hx hb dX3_clear_0 rfl (lv_at hl 0 rfl) ?_
  refine lv_iconst (v := 0) hx hb dX3_clear_1 (by decide) ?_
  refine fp_X3_0 (v := 0) hx hb (fun q h => hg q (tl_X3 q h)) hown (hg _ t_fl_X3_38) S hk0 isB_0 dX3_clear_2 (fun H locs S => ?_)
  refine lv_aload_n hx hb dX3_clear_5 rfl (lv_at hl 0 rfl) ?_
  refine lv_iconst (v := 0) hx hb dX3_clear_6 (by decide) ?_
  refine fp_X3_1 (v := 0) hx hb (fun q h => hg q (tl_X3 q h)) hown (hg _ t_fl_X3_42) S hk0 dX3_clear_7 (fun H locs S => ?_)
  refine lv_aload_n hx hb dX3_clear_10 rfl (lv_at hl 0 rfl) ?_
  refine lv_iconst (v := 0) hx hb dX3_clear_11 (by decide) ?_
  refine fp_X3_2 (v := 0) hx hb (fun q h => hg q (tl_X3 q h)) hown (hg _ t_fl_X3_46) S hk0 dX3_clear_12 (fun H locs S => ?_)
  refine lv_aload_n hx hb dX3_clear_15 rfl (lv_at hl 0 rfl) ?_
  refine lv_iconst (v := 0) hx hb dX3_clear_16 (by decide) ?_
  refine fp_X3_5 (v := 0) hx hb (fun q h => hg q (tl_X3 q h)) hown (hg _ t_fl_X3_49) S hk0 dX3_clear_17 (fun H locs S => ?_)
  refine lv_aload_n hx hb dX3_clear_20 rfl (lv_at hl 0 rfl) ?_
  refine lv_iconst (v := 0) hx hb dX3_clear_21 (by decide) ?_
  refine fp_X3_6 (v := 0) hx hb (fun q h => hg q (tl_X3 q h)) hown (hg _ t_fl_X3_52) S hk0 dX3_clear_22 (fun H locs S => ?_)
  refine lv_aload_n hx hb dX3_clear_25 rfl (lv_at hl 0 rfl) ?_
  refine lv_iconst (v := 0) hx hb dX3_clear_26 (by decide) ?_
  refine fp_X3_7 (v := 0) hx hb (fun q h => hg q (tl_X3 q h)) hown (hg _ t_fl_X3_55) S hk0 dX3_clear_27 (fun H locs S => ?_)
  refine lv_aload_n hx hb dX3_clear_30 rfl (lv_at hl 0 rfl) ?_
  refine lv_iconst (v := 0) hx hb dX3_clear_31 (by decide) ?_
  refine fp_X3_8 (v := 0) hx hb (fun q h => hg q (tl_X3 q h)) hown (hg _ t_fl_X3_58) S hk0 dX3_clear_32 (fun H locs S => ?_)
  refine lv_aload_n hx hb dX3_clear_35 rfl (lv_at hl 0 rfl) ?_
  refine lv_iconst (v := 0) hx hb dX3_clear_36 (by decide) ?_
  refine fp_X3_9 (v := 0) hx hb (fun q h => hg q (tl_X3 q h)) hown (hg _ t_fl_X3_61) S hk0 dX3_clear_37 (fun H locs S => ?_)
  refine lv_iconst (v := 0) hx hb dX3_clear_40 (by decide) ?_
  refine lv_istore_n (lv' := [(1, .int 0), (0, .ref (gad G k0))]) hx hb dX3_clear_41 rfl hl (by decide) rfl (fun ls hl => ?_)
  exact w_X3_clear_42 F hr hlk fu k0 0 hk0 _ _ _ _ S (lv_sub hl [1, 0] rfl) hz
noncomputable def f_X3_sumUp_12  : Nat → Nat → Int32 → GW → Option (Unit × GW)
  | 0, _, _, _ => none
  | n9 + 1, k0, x1, w =>
    if (gI w k0 1) ≤ x1 then
      some ((), w)
    else
      if inb x1 5 then
      if inb x1 5 then
      f_X3_sumUp_12 n9 k0 (x1 + 1) (sI (sI w k0 3 ((gI w k0 3) + (gI w (k0 + 1) (ix x1)))) k0 4 ((gI (sI w k0 3 ((gI w k0 3) + (gI w (k0 + 1) (ix x1)))) k0 4) + (gI (sI w k0 3 ((gI w k0 3) + (gI w (k0 + 1) (ix x1)))) (k0 + 2) (ix x1))))
      else none
      else none
noncomputable def f_X3_sumUp (k0 : Nat) (w : GW) : Option (Unit × GW) :=
  f_X3_sumUp_12 fu k0 0 (sI (sI w k0 3 0) k0 4 0)
set_option maxHeartbeats 4000000 in
set_option maxRecDepth 100000 in
theorem w_X3_sumUp_12 {p : Program} {l : Launch} {e : Env} {s : State} {m : MethodId} {args : Array Value} {below : List Frame} {meth : Method} {c : Code} {G : GG} (F : CallFix p m c cX3_sumUp 2 s args (wsU yX3_sumUp cX3_sumUp 2 none) RX3) (hr : meth.sig.returnType = none) (hlk : meth.locks = false) {z : Unit × GW} : ∀ (n9 : Nat), (∀ (k0 : Nat) (x1 : Int32) (hk0 : kd k0 = 3) (w : GW) (H : Heap) (locs : List Loc) (ls : Array Slot), St G w s H locs → lv_has ls 2 [(0, .ref (gad G k0)), (1, .int x1)] → f_X3_sumUp_12 n9 k0 x1 w = some z → W p l e (headSpec (wsU yX3_sumUp cX3_sumUp 2 none) rm_X3_sumUp).room s m args below meth c H locs 0 0 (MQ below (QV G z) args s 0 0 (gA G)) (F0 m 12 ls [])) := by
  obtain ⟨hx, hb, hml, hown, hts⟩ := id F
  have hg : ∀ q ∈ lwg, q.before args s = true := fun q h => hts q (List.mem_cons_of_mem _ h)
  intro n9
  induction n9 with
  | zero =>
    intro k0 x1 hk0 w H locs ls S hl hz
    rw [f_X3_sumUp_12] at hz
    cases hz
  | succ n9 ih =>
    intro k0 x1 hk0 w H locs ls S hl hz
    rw [f_X3_sumUp_12] at hz
    refine lv_iload_n hx hb dX3_sumUp_12 rfl (lv_at hl 1 rfl) ?_
    refine lv_aload_n hx hb dX3_sumUp_13 rfl (lv_at hl 0 rfl) ?_
    refine fg_X3_1 hx hb (fun q h => hg q (tl_X3 q h)) hown (hg _ t_fl_X3_42) S hk0 dX3_sumUp_14 ?_
    refine lv_icmp_ge (tgt := 56) hx hb dX3_sumUp_17 (by decide) (fun c1 => ?_) (fun c1 => ?_)
    · have hz := ipt (c1) hz
      exact g_retv hx hb hr hlk S hz dX3_sumUp_56
    · have hz := ipf (c1) hz
      refine lv_aload_n hx hb dX3_sumUp_20 rfl (lv_at hl 0 rfl) ?_
      refine lv_dup hx hb dX3_sumUp_21 rfl ?_
      refine fg_X3_3 hx hb (fun q h => hg q (tl_X3 q h)) hown (hg _ t_fl_X3_64) S hk0 dX3_sumUp_22 ?_
      refine lv_aload_n hx hb dX3_sumUp_25 rfl (lv_at hl 0 rfl) ?_
      refine fg_X3_10 hx hb (fun q h => hg q (tl_X3 q h)) hown (hg _ t_fl_X3_9) S hk0 dX3_sumUp_26 ?_
      refine lv_iload_n hx hb dX3_sumUp_29 rfl (lv_at hl 1 rfl) ?_
      obtain ⟨h2, hz⟩ := ck hz
      refine g_iald hx hb S (isA_10 (kd_3_1 hk0)) h2 dX3_sumUp_30 ?_
      refine lv_iadd hx hb dX3_sumUp_31 ?_
      refine fp_X3_3 (v := ((gI w k0 3) + (gI w (k0 + 1) (ix x1)))) hx hb (fun q h => hg q (tl_X3 q h)) hown (hg _ t_fl_X3_64) S hk0 dX3_sumUp_32 (fun H locs S => ?_)
      refine lv_aload_n hx hb dX3_sumUp_35 rfl (lv_at hl 0 rfl) ?_
      refine lv_dup hx hb dX3_sumUp_36 rfl ?_
      refine fg_X3_4 hx hb (fun q h => hg q (tl_X3 q h)) hown (hg _ t_fl_X3_67) S hk0 dX3_sumUp_37 ?_
      refine lv_aload_n hx hb dX3_sumUp_40 rfl (lv_at hl 0 rfl) ?_
      refine fg_X3_11 hx hb (fun q h => hg q (tl_X3 q h)) hown (hg _ t_fl_X3_15) S hk0 dX3_sumUp_41 ?_
      refine lv_iload_n hx hb dX3_sumUp_44 rfl (lv_at hl 1 rfl) ?_
      obtain ⟨h3, hz⟩ := ck hz
      refine g_iald hx hb S (isA_10 (kd_3_2 hk0)) h3 dX3_sumUp_45 ?_
      refine lv_iadd hx hb dX3_sumUp_46 ?_
      refine fp_X3_4 (v := ((gI (sI w k0 3 ((gI w k0 3) + (gI w (k0 + 1) (ix x1)))) k0 4) + (gI (sI w k0 3 ((gI w k0 3) + (gI w (k0 + 1) (ix x1)))) (k0 + 2) (ix x1)))) hx hb (fun q h => hg q (tl_X3 q h)) hown (hg _ t_fl_X3_67) S hk0 dX3_sumUp_47 (fun H locs S => ?_)
      refine lv_iinc (v := (x1 + 1)) (lv' := [(1, .int (x1 + 1)), (0, .ref (gad G k0))]) hx hb dX3_sumUp_50 hl (k := 1) rfl rfl (by decide) rfl (fun ls hl => ?_)
      refine lv_goto (tgt := 12) hx hb dX3_sumUp_53 (by decide) ?_
      exact ih k0 (x1 + 1) hk0 _ _ _ _ S (lv_sub hl [1, 0] rfl) hz
set_option maxHeartbeats 4000000 in
set_option maxRecDepth 100000 in
theorem c_X3_sumUp (l : Launch) (G : GG) (k0 : Nat) (hk0 : kd k0 = 3) (w : GW) {z : Unit × GW} (hz : f_X3_sumUp k0 w = some z) : Met l yX3_sumUp (wsU yX3_sumUp cX3_sumUp 2 none) rm_X3_sumUp (va_Pc [.ref (gad G k0)] (PreG G w)) (QV G z) 0 0 (gA G) := by
  refine Met.ofW (cc := cX3_sumUp) (maxL := 2) (ret := none) (by decide) rfl ?_
  intro p e s m args below meth c s₁ B hml hv
  obtain ⟨rfl, S⟩ := hv
  have F : CallFix p m c cX3_sumUp 2 s _ (wsU yX3_sumUp cX3_sumUp 2 none) RX3 := ⟨B.exec, B.bytes, hml, findClass_of_methodNamed B.named, atoms_spec B.pre⟩
  have hr := B.returns
  have hlk := B.notSynchronized
  obtain ⟨hx, hb, -, hown, hts⟩ := id F
  have hg : ∀ q ∈ lwg, q.before _ s = true := fun q h => hts q (List.mem_cons_of_mem _ h)
  refine g_entry (Nat.le_of_ble_eq_true rfl) (fun ls hl => ?_)
  have hl : lv_has ls 2 [(0, .ref (gad G k0))] := hl
  have S : St G w s s.heap [] := S
  generalize s.heap = H at S ⊢
  generalize ([] : List Loc) = locs at S ⊢
  rw [f_X3_sumUp] at hz
  refine lv_aload_n hx hb dX3_sumUp_0 rfl (lv_at hl 0 rfl) ?_
  refine lv_iconst (v := 0) hx hb dX3_sumUp_1 (by decide) ?_
  refine fp_X3_3 (v := 0) hx hb (fun q h => hg q (tl_X3 q h)) hown (hg _ t_fl_X3_64) S hk0 dX3_sumUp_2 (fun H locs S => ?_)
  refine lv_aload_n hx hb dX3_sumUp_5 rfl (lv_at hl 0 rfl) ?_
  refine lv_iconst (v := 0) hx hb dX3_sumUp_6 (by decide) ?_
  refine fp_X3_4 (v := 0) hx hb (fun q h => hg q (tl_X3 q h)) hown (hg _ t_fl_X3_67) S hk0 dX3_sumUp_7 (fun H locs S => ?_)
  refine lv_iconst (v := 0) hx hb dX3_sumUp_10 (by decide) ?_
  refine lv_istore_n (lv' := [(1, .int 0), (0, .ref (gad G k0))]) hx hb dX3_sumUp_11 rfl hl (by decide) rfl (fun ls hl => ?_)
  exact w_X3_sumUp_12 F hr hlk fu k0 0 hk0 _ _ _ _ S (lv_sub hl [1, 0] rfl) hz
noncomputable def f_X3_hasName_2  : Nat → Nat → Int64 → Int32 → GW → Option (Int32 × GW)
  | 0, _, _, _, _ => none
  | n9 + 1, k0, x1, x3, w =>
    if (gI w k0 8) ≤ x3 then
      some (0, w)
    else
      if inb x3 6 then
      if (gL w (k0 + 11) (ix x3)) = x1 then
        some (1, w)
      else
        f_X3_hasName_2 n9 k0 x1 (x3 + 1) w
      else none
noncomputable def f_X3_hasName (k0 : Nat) (x1 : Int64) (w : GW) : Option (Int32 × GW) :=
  f_X3_hasName_2 fu k0 x1 0 w
set_option maxHeartbeats 4000000 in
set_option maxRecDepth 100000 in
theorem w_X3_hasName_2 {p : Program} {l : Launch} {e : Env} {s : State} {m : MethodId} {args : Array Value} {below : List Frame} {meth : Method} {c : Code} {G : GG} (F : CallFix p m c cX3_hasName 4 s args (wsU yX3_hasName cX3_hasName 4 (some .boolean)) RX3) (hr : meth.sig.returnType = (some .boolean)) (hlk : meth.locks = false) {z : Int32 × GW} : ∀ (n9 : Nat), (∀ (k0 : Nat) (x1 : Int64) (x3 : Int32) (hk0 : kd k0 = 3) (w : GW) (H : Heap) (locs : List Loc) (ls : Array Slot), St G w s H locs → lv_has ls 4 [(0, .ref (gad G k0)), (1, .long x1), (3, .int x3)] → f_X3_hasName_2 n9 k0 x1 x3 w = some z → W p l e (headSpec (wsU yX3_hasName cX3_hasName 4 (some .boolean)) rm_X3_hasName).room s m args below meth c H locs 0 0 (MQ below (QB G z) args s 0 0 (gA G)) (F0 m 2 ls [])) := by
  obtain ⟨hx, hb, hml, hown, hts⟩ := id F
  have hg : ∀ q ∈ lwg, q.before args s = true := fun q h => hts q (List.mem_cons_of_mem _ h)
  intro n9
  induction n9 with
  | zero =>
    intro k0 x1 x3 hk0 w H locs ls S hl hz
    rw [f_X3_hasName_2] at hz
    cases hz
  | succ n9 ih =>
    intro k0 x1 x3 hk0 w H locs ls S hl hz
    rw [f_X3_hasName_2] at hz
    refine lv_iload_n hx hb dX3_hasName_2 rfl (lv_at hl 2 rfl) ?_
    refine lv_aload_n hx hb dX3_hasName_3 rfl (lv_at hl 0 rfl) ?_
    refine fg_X3_8 hx hb (fun q h => hg q (tl_X3 q h)) hown (hg _ t_fl_X3_58) S hk0 dX3_hasName_4 ?_
    refine lv_icmp_ge (tgt := 29) hx hb dX3_hasName_7 (by decide) (fun c1 => ?_) (fun c1 => ?_)
    · have hz := ipt (c1) hz
      refine lv_iconst (v := 0) hx hb dX3_hasName_29 (by decide) ?_
      exact g_retb hx hb hr hlk S isB_0 hz dX3_hasName_30
    · have hz := ipf (c1) hz
      refine lv_aload_n hx hb dX3_hasName_10 rfl (lv_at hl 0 rfl) ?_
      refine fg_X3_14 hx hb (fun q h => hg q (tl_X3 q h)) hown (hg _ t_fl_X3_29) S hk0 dX3_hasName_11 ?_
      refine lv_iload_n hx hb dX3_hasName_14 rfl (lv_at hl 2 rfl) ?_
      obtain ⟨h2, hz⟩ := ck hz
      refine g_lald hx hb S (isA_26 (kd_3_11 hk0)) h2 dX3_hasName_15 ?_
      refine lv_lload_n hx hb dX3_hasName_16 rfl (lv_at hl 1 rfl) ?_
      refine W.lcmp hx hb dX3_hasName_17 ?_
      refine lv_if_ne (tgt := 23) hx hb dX3_hasName_18 (by decide) (fun c3 => ?_) (fun c3 => ?_)
      · have hz := ipf (fun q9 => c3 ((lg_cmp_eq _ _).mpr q9)) hz
        refine lv_iinc (v := (x3 + 1)) (lv' := [(3, .int (x3 + 1)), (0, .ref (gad G k0)), (1, .long x1)]) hx hb dX3_hasName_23 hl (k := 2) rfl rfl (by decide) rfl (fun ls hl => ?_)
        refine lv_goto (tgt := 2) hx hb dX3_hasName_26 (by decide) ?_
        exact ih k0 x1 (x3 + 1) hk0 _ _ _ _ S (lv_sub hl [1, 2, 0] rfl) hz
      · have hz := ipt ((lg_cmp_eq _ _).mp c3) hz
        refine lv_iconst (v := 1) hx hb dX3_hasName_21 (by decide) ?_
        exact g_retb hx hb hr hlk S isB_1 hz dX3_hasName_22
set_option maxHeartbeats 4000000 in
set_option maxRecDepth 100000 in
theorem c_X3_hasName (l : Launch) (G : GG) (k0 : Nat) (x1 : Int64) (hk0 : kd k0 = 3) (w : GW) {z : Int32 × GW} (hz : f_X3_hasName k0 x1 w = some z) : Met l yX3_hasName (wsU yX3_hasName cX3_hasName 4 (some .boolean)) rm_X3_hasName (va_Pc [.ref (gad G k0), .long x1] (PreG G w)) (QB G z) 0 0 (gA G) := by
  refine Met.ofW (cc := cX3_hasName) (maxL := 4) (ret := (some .boolean)) (by decide) rfl ?_
  intro p e s m args below meth c s₁ B hml hv
  obtain ⟨rfl, S⟩ := hv
  have F : CallFix p m c cX3_hasName 4 s _ (wsU yX3_hasName cX3_hasName 4 (some .boolean)) RX3 := ⟨B.exec, B.bytes, hml, findClass_of_methodNamed B.named, atoms_spec B.pre⟩
  have hr := B.returns
  have hlk := B.notSynchronized
  obtain ⟨hx, hb, -, hown, hts⟩ := id F
  have hg : ∀ q ∈ lwg, q.before _ s = true := fun q h => hts q (List.mem_cons_of_mem _ h)
  refine g_entry (Nat.le_of_ble_eq_true rfl) (fun ls hl => ?_)
  have hl : lv_has ls 4 [(0, .ref (gad G k0)), (1, .long x1)] := hl
  have S : St G w s s.heap [] := S
  generalize s.heap = H at S ⊢
  generalize ([] : List Loc) = locs at S ⊢
  rw [f_X3_hasName] at hz
  refine lv_iconst (v := 0) hx hb dX3_hasName_0 (by decide) ?_
  refine lv_istore_n (lv' := [(3, .int 0), (0, .ref (gad G k0)), (1, .long x1)]) hx hb dX3_hasName_1 rfl hl (by decide) rfl (fun ls hl => ?_)
  exact w_X3_hasName_2 F hr hlk fu k0 x1 0 hk0 _ _ _ _ S (lv_sub hl [1, 2, 0] rfl) hz
noncomputable def f_X4_become (k0 : Nat) (x1 : Int32) (x2 : Int32) (x3 : Int32) (w : GW) : Option (Unit × GW) :=
  some ((), (sI (sI (sI w k0 0 x1) k0 1 x2) k0 2 x3))
set_option maxHeartbeats 4000000 in
set_option maxRecDepth 100000 in
theorem c_X4_become (l : Launch) (G : GG) (k0 : Nat) (x1 : Int32) (x2 : Int32) (x3 : Int32) (hk0 : kd k0 = 4) (w : GW) {z : Unit × GW} (hz : f_X4_become k0 x1 x2 x3 w = some z) : Met l yX4_become (wsU yX4_become cX4_become 4 none) rm_X4_become (va_Pc [.ref (gad G k0), .int x1, .int x2, .int x3] (PreG G w)) (QV G z) 0 0 (gA G) := by
  refine Met.ofW (cc := cX4_become) (maxL := 4) (ret := none) (by decide) rfl ?_
  intro p e s m args below meth c s₁ B hml hv
  obtain ⟨rfl, S⟩ := hv
  have F : CallFix p m c cX4_become 4 s _ (wsU yX4_become cX4_become 4 none) RX4 := ⟨B.exec, B.bytes, hml, findClass_of_methodNamed B.named, atoms_spec B.pre⟩
  have hr := B.returns
  have hlk := B.notSynchronized
  obtain ⟨hx, hb, -, hown, hts⟩ := id F
  have hg : ∀ q ∈ lwg, q.before _ s = true := fun q h => hts q (List.mem_cons_of_mem _ h)
  refine g_entry (Nat.le_of_ble_eq_true rfl) (fun ls hl => ?_)
  have hl : lv_has ls 4 [(0, .ref (gad G k0)), (1, .int x1), (2, .int x2), (3, .int x3)] := hl
  have S : St G w s s.heap [] := S
  generalize s.heap = H at S ⊢
  generalize ([] : List Loc) = locs at S ⊢
  rw [f_X4_become] at hz
  refine lv_aload_n hx hb dX4_become_0 rfl (lv_at hl 0 rfl) ?_
  refine lv_iload_n hx hb dX4_become_1 rfl (lv_at hl 1 rfl) ?_
  refine fp_X4_0 (v := x1) hx hb (fun q h => hg q (tl_X4 q h)) hown (hg _ t_fl_X4_7) S hk0 dX4_become_2 (fun H locs S => ?_)
  refine lv_aload_n hx hb dX4_become_5 rfl (lv_at hl 0 rfl) ?_
  refine lv_iload_n hx hb dX4_become_6 rfl (lv_at hl 2 rfl) ?_
  refine fp_X4_1 (v := x2) hx hb (fun q h => hg q (tl_X4 q h)) hown (hg _ t_fl_X4_13) S hk0 dX4_become_7 (fun H locs S => ?_)
  refine lv_aload_n hx hb dX4_become_10 rfl (lv_at hl 0 rfl) ?_
  refine lv_iload_n hx hb dX4_become_11 rfl (lv_at hl 3 rfl) ?_
  refine fp_X4_2 (v := x3) hx hb (fun q h => hg q (tl_X4 q h)) hown (hg _ t_fl_X4_16) S hk0 dX4_become_12 (fun H locs S => ?_)
  exact g_retv hx hb hr hlk S hz dX4_become_15
noncomputable def f_X5_become_2  : Nat → Nat → Int64 → Int32 → GW → Option (Unit × GW)
  | 0, _, _, _, _ => none
  | n9 + 1, k0, x1, x3, w =>
    if 18 ≤ x3 then
      if inb 0 18 then
      some ((), (sL w (k0 + 1) (ix 0) x1))
      else none
    else
      if inb x3 18 then
      f_X5_become_2 n9 k0 x1 (x3 + 1) (sL w (k0 + 1) (ix x3) 0)
      else none
noncomputable def f_X5_become (k0 : Nat) (x1 : Int64) (w : GW) : Option (Unit × GW) :=
  f_X5_become_2 fu k0 x1 0 w
set_option maxHeartbeats 4000000 in
set_option maxRecDepth 100000 in
theorem w_X5_become_2 {p : Program} {l : Launch} {e : Env} {s : State} {m : MethodId} {args : Array Value} {below : List Frame} {meth : Method} {c : Code} {G : GG} (F : CallFix p m c cX5_become 4 s args (wsU yX5_become cX5_become 4 none) RX5) (hr : meth.sig.returnType = none) (hlk : meth.locks = false) {z : Unit × GW} : ∀ (n9 : Nat), (∀ (k0 : Nat) (x1 : Int64) (x3 : Int32) (hk0 : kd k0 = 5) (w : GW) (H : Heap) (locs : List Loc) (ls : Array Slot), St G w s H locs → lv_has ls 4 [(0, .ref (gad G k0)), (1, .long x1), (3, .int x3)] → f_X5_become_2 n9 k0 x1 x3 w = some z → W p l e (headSpec (wsU yX5_become cX5_become 4 none) rm_X5_become).room s m args below meth c H locs 0 0 (MQ below (QV G z) args s 0 0 (gA G)) (F0 m 2 ls [])) := by
  obtain ⟨hx, hb, hml, hown, hts⟩ := id F
  have hg : ∀ q ∈ lwg, q.before args s = true := fun q h => hts q (List.mem_cons_of_mem _ h)
  intro n9
  induction n9 with
  | zero =>
    intro k0 x1 x3 hk0 w H locs ls S hl hz
    rw [f_X5_become_2] at hz
    cases hz
  | succ n9 ih =>
    intro k0 x1 x3 hk0 w H locs ls S hl hz
    rw [f_X5_become_2] at hz
    refine lv_iload_n hx hb dX5_become_2 rfl (lv_at hl 2 rfl) ?_
    refine lv_bipush (v := 18) hx hb dX5_become_3 (by decide) ?_
    refine lv_icmp_ge (tgt := 21) hx hb dX5_become_5 (by decide) (fun c1 => ?_) (fun c1 => ?_)
    · have hz := ipt (c1) hz
      refine lv_aload_n hx hb dX5_become_21 rfl (lv_at hl 0 rfl) ?_
      refine fg_X5_0 hx hb (fun q h => hg q (tl_X5 q h)) hown (hg _ t_fl_X5_9) S hk0 dX5_become_22 ?_
      refine lv_iconst (v := 0) hx hb dX5_become_25 (by decide) ?_
      refine lv_lload_n hx hb dX5_become_26 rfl (lv_at hl 1 rfl) ?_
      obtain ⟨h2, hz⟩ := ck hz
      refine g_last (x := x1) hx hb S (isA_21 (kd_5_1 hk0)) h2 dX5_become_27 (fun H locs S => ?_)
      exact g_retv hx hb hr hlk S hz dX5_become_28
    · have hz := ipf (c1) hz
      refine lv_aload_n hx hb dX5_become_8 rfl (lv_at hl 0 rfl) ?_
      refine fg_X5_0 hx hb (fun q h => hg q (tl_X5 q h)) hown (hg _ t_fl_X5_9) S hk0 dX5_become_9 ?_
      refine lv_iload_n hx hb dX5_become_12 rfl (lv_at hl 2 rfl) ?_
      refine lv_lconst (v := 0) hx hb dX5_become_13 (by decide) ?_
      obtain ⟨h3, hz⟩ := ck hz
      refine g_last (x := 0) hx hb S (isA_21 (kd_5_1 hk0)) h3 dX5_become_14 (fun H locs S => ?_)
      refine lv_iinc (v := (x3 + 1)) (lv' := [(3, .int (x3 + 1)), (0, .ref (gad G k0)), (1, .long x1)]) hx hb dX5_become_15 hl (k := 2) rfl rfl (by decide) rfl (fun ls hl => ?_)
      refine lv_goto (tgt := 2) hx hb dX5_become_18 (by decide) ?_
      exact ih k0 x1 (x3 + 1) hk0 _ _ _ _ S (lv_sub hl [1, 2, 0] rfl) hz
set_option maxHeartbeats 4000000 in
set_option maxRecDepth 100000 in
theorem c_X5_become (l : Launch) (G : GG) (k0 : Nat) (x1 : Int64) (hk0 : kd k0 = 5) (w : GW) {z : Unit × GW} (hz : f_X5_become k0 x1 w = some z) : Met l yX5_become (wsU yX5_become cX5_become 4 none) rm_X5_become (va_Pc [.ref (gad G k0), .long x1] (PreG G w)) (QV G z) 0 0 (gA G) := by
  refine Met.ofW (cc := cX5_become) (maxL := 4) (ret := none) (by decide) rfl ?_
  intro p e s m args below meth c s₁ B hml hv
  obtain ⟨rfl, S⟩ := hv
  have F : CallFix p m c cX5_become 4 s _ (wsU yX5_become cX5_become 4 none) RX5 := ⟨B.exec, B.bytes, hml, findClass_of_methodNamed B.named, atoms_spec B.pre⟩
  have hr := B.returns
  have hlk := B.notSynchronized
  obtain ⟨hx, hb, -, hown, hts⟩ := id F
  have hg : ∀ q ∈ lwg, q.before _ s = true := fun q h => hts q (List.mem_cons_of_mem _ h)
  refine g_entry (Nat.le_of_ble_eq_true rfl) (fun ls hl => ?_)
  have hl : lv_has ls 4 [(0, .ref (gad G k0)), (1, .long x1)] := hl
  have S : St G w s s.heap [] := S
  generalize s.heap = H at S ⊢
  generalize ([] : List Loc) = locs at S ⊢
  rw [f_X5_become] at hz
  refine lv_iconst (v := 0) hx hb dX5_become_0 (by decide) ?_
  refine lv_istore_n (lv' := [(3, .int 0), (0, .ref (gad G k0)), (1, .long x1)]) hx hb dX5_become_1 rfl hl (by decide) rfl (fun ls hl => ?_)
  exact w_X5_become_2 F hr hlk fu k0 x1 0 hk0 _ _ _ _ S (lv_sub hl [1, 2, 0] rfl) hz
noncomputable def f_X5_copy_2  : Nat → Nat → Nat → Int32 → GW → Option (Unit × GW)
  | 0, _, _, _, _ => none
  | n9 + 1, k0, k1, x2, w =>
    if 18 ≤ x2 then
      some ((), w)
    else
      if inb x2 18 then
      if inb x2 18 then
      f_X5_copy_2 n9 k0 k1 (x2 + 1) (sL w (k0 + 1) (ix x2) (gL w (k1 + 1) (ix x2)))
      else none
      else none
noncomputable def f_X5_copy (k0 : Nat) (k1 : Nat) (w : GW) : Option (Unit × GW) :=
  f_X5_copy_2 fu k0 k1 0 w
set_option maxHeartbeats 4000000 in
set_option maxRecDepth 100000 in
theorem w_X5_copy_2 {p : Program} {l : Launch} {e : Env} {s : State} {m : MethodId} {args : Array Value} {below : List Frame} {meth : Method} {c : Code} {G : GG} (F : CallFix p m c cX5_copy 3 s args (wsU yX5_copy cX5_copy 3 none) RX5) (hr : meth.sig.returnType = none) (hlk : meth.locks = false) {z : Unit × GW} : ∀ (n9 : Nat), (∀ (k0 : Nat) (k1 : Nat) (x2 : Int32) (hk0 : kd k0 = 5) (hk1 : kd k1 = 5) (w : GW) (H : Heap) (locs : List Loc) (ls : Array Slot), St G w s H locs → lv_has ls 3 [(0, .ref (gad G k0)), (1, .ref (gad G k1)), (2, .int x2)] → f_X5_copy_2 n9 k0 k1 x2 w = some z → W p l e (headSpec (wsU yX5_copy cX5_copy 3 none) rm_X5_copy).room s m args below meth c H locs 0 0 (MQ below (QV G z) args s 0 0 (gA G)) (F0 m 2 ls [])) := by
  obtain ⟨hx, hb, hml, hown, hts⟩ := id F
  have hg : ∀ q ∈ lwg, q.before args s = true := fun q h => hts q (List.mem_cons_of_mem _ h)
  intro n9
  induction n9 with
  | zero =>
    intro k0 k1 x2 hk0 hk1 w H locs ls S hl hz
    rw [f_X5_copy_2] at hz
    cases hz
  | succ n9 ih =>
    intro k0 k1 x2 hk0 hk1 w H locs ls S hl hz
    rw [f_X5_copy_2] at hz
    refine lv_iload_n hx hb dX5_copy_2 rfl (lv_at hl 2 rfl) ?_
    refine lv_bipush (v := 18) hx hb dX5_copy_3 (by decide) ?_
    refine lv_icmp_ge (tgt := 26) hx hb dX5_copy_5 (by decide) (fun c1 => ?_) (fun c1 => ?_)
    · have hz := ipt (c1) hz
      exact g_retv hx hb hr hlk S hz dX5_copy_26
    · have hz := ipf (c1) hz
      refine lv_aload_n hx hb dX5_copy_8 rfl (lv_at hl 0 rfl) ?_
      refine fg_X5_0 hx hb (fun q h => hg q (tl_X5 q h)) hown (hg _ t_fl_X5_9) S hk0 dX5_copy_9 ?_
      refine lv_iload_n hx hb dX5_copy_12 rfl (lv_at hl 2 rfl) ?_
      refine lv_aload_n hx hb dX5_copy_13 rfl (lv_at hl 1 rfl) ?_
      refine fg_X5_0 hx hb (fun q h => hg q (tl_X5 q h)) hown (hg _ t_fl_X5_9) S hk1 dX5_copy_14 ?_
      refine lv_iload_n hx hb dX5_copy_17 rfl (lv_at hl 2 rfl) ?_
      obtain ⟨h2, hz⟩ := ck hz
      refine g_lald hx hb S (isA_21 (kd_5_1 hk1)) h2 dX5_copy_18 ?_
      obtain ⟨h3, hz⟩ := ck hz
      refine g_last (x := (gL w (k1 + 1) (ix x2))) hx hb S (isA_21 (kd_5_1 hk0)) h3 dX5_copy_19 (fun H locs S => ?_)
      refine lv_iinc (v := (x2 + 1)) (lv' := [(2, .int (x2 + 1)), (0, .ref (gad G k0)), (1, .ref (gad G k1))]) hx hb dX5_copy_20 hl (k := 2) rfl rfl (by decide) rfl (fun ls hl => ?_)
      refine lv_goto (tgt := 2) hx hb dX5_copy_23 (by decide) ?_
      exact ih k0 k1 (x2 + 1) hk0 hk1 _ _ _ _ S (lv_sub hl [1, 2, 0] rfl) hz
set_option maxHeartbeats 4000000 in
set_option maxRecDepth 100000 in
theorem c_X5_copy (l : Launch) (G : GG) (k0 : Nat) (k1 : Nat) (hk0 : kd k0 = 5) (hk1 : kd k1 = 5) (w : GW) {z : Unit × GW} (hz : f_X5_copy k0 k1 w = some z) : Met l yX5_copy (wsU yX5_copy cX5_copy 3 none) rm_X5_copy (va_Pc [.ref (gad G k0), .ref (gad G k1)] (PreG G w)) (QV G z) 0 0 (gA G) := by
  refine Met.ofW (cc := cX5_copy) (maxL := 3) (ret := none) (by decide) rfl ?_
  intro p e s m args below meth c s₁ B hml hv
  obtain ⟨rfl, S⟩ := hv
  have F : CallFix p m c cX5_copy 3 s _ (wsU yX5_copy cX5_copy 3 none) RX5 := ⟨B.exec, B.bytes, hml, findClass_of_methodNamed B.named, atoms_spec B.pre⟩
  have hr := B.returns
  have hlk := B.notSynchronized
  obtain ⟨hx, hb, -, hown, hts⟩ := id F
  have hg : ∀ q ∈ lwg, q.before _ s = true := fun q h => hts q (List.mem_cons_of_mem _ h)
  refine g_entry (Nat.le_of_ble_eq_true rfl) (fun ls hl => ?_)
  have hl : lv_has ls 3 [(0, .ref (gad G k0)), (1, .ref (gad G k1))] := hl
  have S : St G w s s.heap [] := S
  generalize s.heap = H at S ⊢
  generalize ([] : List Loc) = locs at S ⊢
  rw [f_X5_copy] at hz
  refine lv_iconst (v := 0) hx hb dX5_copy_0 (by decide) ?_
  refine lv_istore_n (lv' := [(2, .int 0), (0, .ref (gad G k0)), (1, .ref (gad G k1))]) hx hb dX5_copy_1 rfl hl (by decide) rfl (fun ls hl => ?_)
  exact w_X5_copy_2 F hr hlk fu k0 k1 0 hk0 hk1 _ _ _ _ S (lv_sub hl [1, 2, 0] rfl) hz
noncomputable def f_X5_multiply_117  : Nat → Nat → Int64 → Int32 → GW → Option (Unit × GW)
  | 0, _, _, _, _ => none
  | n9 + 1, k0, x9, x11, w =>
    if 18 ≤ x11 then
      some ((), w)
    else
      if inb x11 18 then
      if inb x11 18 then
      f_X5_multiply_117 n9 k0 (((gL w (k0 + 1) (ix x11)) + x9) >>> ((24 : Int32).toInt64 &&& 63)) (x11 + 1) (sL w (k0 + 1) (ix x11) (((gL w (k0 + 1) (ix x11)) + x9) &&& 16777215))
      else none
      else none
noncomputable def f_X5_multiply_93 (k_26 : Nat → Int64 → Int64 → Int64 → Int32 → GW → Option (Unit × GW)) (k0 : Nat) (x3 : Int64) (x5 : Int64) (x7 : Int64) (x9 : Int32) (t0 : Int64) (t1 : Int64) (w : GW) : Option (Unit × GW) :=
  if inb x9 18 then
  k_26 k0 x3 x5 x7 (x9 + (-1)) (sL w (k0 + 1) (ix x9) (t1 + t0))
  else none
noncomputable def f_X5_multiply_66 (k_26 : Nat → Int64 → Int64 → Int64 → Int32 → GW → Option (Unit × GW)) (k0 : Nat) (x3 : Int64) (x5 : Int64) (x7 : Int64) (x9 : Int32) (t0 : Int64) (t1 : Int64) (w : GW) : Option (Unit × GW) :=
  if x9 < 2 then
    f_X5_multiply_93 k_26 k0 x3 x5 x7 x9 0 (t1 + t0) w
  else
    if inb (x9 - 2) 18 then
    f_X5_multiply_93 k_26 k0 x3 x5 x7 x9 ((gL w (k0 + 1) (ix (x9 - 2))) * x7) (t1 + t0) w
    else none
noncomputable def f_X5_multiply_26  : Nat → Nat → Int64 → Int64 → Int64 → Int32 → GW → Option (Unit × GW)
  | 0, _, _, _, _, _, _ => none
  | n9 + 1, k0, x3, x5, x7, x9, w =>
    if x9 < 0 then
      f_X5_multiply_117 fu k0 0 0 w
    else
      if inb x9 18 then
      if x9 < 1 then
        f_X5_multiply_66 (f_X5_multiply_26 n9) k0 x3 x5 x7 x9 0 ((gL w (k0 + 1) (ix x9)) * x3) w
      else
        if inb (x9 - 1) 18 then
        f_X5_multiply_66 (f_X5_multiply_26 n9) k0 x3 x5 x7 x9 ((gL w (k0 + 1) (ix (x9 - 1))) * x5) ((gL w (k0 + 1) (ix x9)) * x3) w
        else none
      else none
noncomputable def f_X5_multiply (k0 : Nat) (x1 : Int64) (w : GW) : Option (Unit × GW) :=
  f_X5_multiply_26 fu k0 (x1 &&& 16777215) ((x1 >>> ((24 : Int32).toInt64 &&& 63)) &&& 16777215) (x1 >>> ((48 : Int32).toInt64 &&& 63)) 17 w
set_option maxHeartbeats 4000000 in
set_option maxRecDepth 100000 in
theorem w_X5_multiply_117 {p : Program} {l : Launch} {e : Env} {s : State} {m : MethodId} {args : Array Value} {below : List Frame} {meth : Method} {c : Code} {G : GG} (F : CallFix p m c cX5_multiply 14 s args (wsU yX5_multiply cX5_multiply 14 none) RX5) (hr : meth.sig.returnType = none) (hlk : meth.locks = false) {z : Unit × GW} : ∀ (n9 : Nat), (∀ (k0 : Nat) (x9 : Int64) (x11 : Int32) (hk0 : kd k0 = 5) (w : GW) (H : Heap) (locs : List Loc) (ls : Array Slot), St G w s H locs → lv_has ls 14 [(0, .ref (gad G k0)), (9, .long x9), (11, .int x11)] → f_X5_multiply_117 n9 k0 x9 x11 w = some z → W p l e (headSpec (wsU yX5_multiply cX5_multiply 14 none) rm_X5_multiply).room s m args below meth c H locs 0 0 (MQ below (QV G z) args s 0 0 (gA G)) (F0 m 117 ls [])) := by
  obtain ⟨hx, hb, hml, hown, hts⟩ := id F
  have hg : ∀ q ∈ lwg, q.before args s = true := fun q h => hts q (List.mem_cons_of_mem _ h)
  intro n9
  induction n9 with
  | zero =>
    intro k0 x9 x11 hk0 w H locs ls S hl hz
    rw [f_X5_multiply_117] at hz
    cases hz
  | succ n9 ih =>
    intro k0 x9 x11 hk0 w H locs ls S hl hz
    rw [f_X5_multiply_117] at hz
    refine lv_iload hx hb dX5_multiply_117 (lv_at hl 2 rfl) ?_
    refine lv_bipush (v := 18) hx hb dX5_multiply_119 (by decide) ?_
    refine lv_icmp_ge (tgt := 162) hx hb dX5_multiply_121 (by decide) (fun c2 => ?_) (fun c2 => ?_)
    · have hz := ipt (c2) hz
      exact g_retv hx hb hr hlk S hz dX5_multiply_162
    · have hz := ipf (c2) hz
      refine lv_aload_n hx hb dX5_multiply_124 rfl (lv_at hl 0 rfl) ?_
      refine fg_X5_0 hx hb (fun q h => hg q (tl_X5 q h)) hown (hg _ t_fl_X5_9) S hk0 dX5_multiply_125 ?_
      refine lv_iload hx hb dX5_multiply_128 (lv_at hl 2 rfl) ?_
      obtain ⟨h3, hz⟩ := ck hz
      refine g_lald hx hb S (isA_21 (kd_5_1 hk0)) h3 dX5_multiply_130 ?_
      refine lv_lload hx hb dX5_multiply_131 (lv_at hl 1 rfl) ?_
      refine lv_ladd hx hb dX5_multiply_133 ?_
      refine lv_lstore (lv' := [(12, .long ((gL w (k0 + 1) (ix x11)) + x9)), (0, .ref (gad G k0)), (9, .long x9), (11, .int x11)]) hx hb dX5_multiply_134 hl (by decide) rfl (fun ls hl => ?_)
      refine lv_aload_n hx hb dX5_multiply_136 rfl (lv_at hl 1 rfl) ?_
      refine fg_X5_0 hx hb (fun q h => hg q (tl_X5 q h)) hown (hg _ t_fl_X5_9) S hk0 dX5_multiply_137 ?_
      refine lv_iload hx hb dX5_multiply_140 (lv_at hl 3 rfl) ?_
      refine lv_lload hx hb dX5_multiply_142 (lv_at hl 0 rfl) ?_
      refine lv_ldc2 (v := 16777215) hx hb hown (hg _ t_cl_X5_13) dX5_multiply_144 ?_
      refine lv_land hx hb dX5_multiply_147 ?_
      obtain ⟨h4, hz⟩ := ck hz
      refine g_last (x := (((gL w (k0 + 1) (ix x11)) + x9) &&& 16777215)) hx hb S (isA_21 (kd_5_1 hk0)) h4 dX5_multiply_148 (fun H locs S => ?_)
      refine lv_lload hx hb dX5_multiply_149 (lv_at hl 0 rfl) ?_
      refine lv_bipush (v := 24) hx hb dX5_multiply_151 (by decide) ?_
      refine lv_lshr (v := (((gL w (k0 + 1) (ix x11)) + x9) >>> ((24 : Int32).toInt64 &&& 63))) hx hb dX5_multiply_153 rfl ?_
      refine lv_lstore (lv' := [(9, .long (((gL w (k0 + 1) (ix x11)) + x9) >>> ((24 : Int32).toInt64 &&& 63))), (12, .long ((gL w (k0 + 1) (ix x11)) + x9)), (0, .ref (gad G k0)), (11, .int x11)]) hx hb dX5_multiply_154 hl (by decide) rfl (fun ls hl => ?_)
      refine lv_iinc (v := (x11 + 1)) (lv' := [(11, .int (x11 + 1)), (9, .long (((gL w (k0 + 1) (ix x11)) + x9) >>> ((24 : Int32).toInt64 &&& 63))), (12, .long ((gL w (k0 + 1) (ix x11)) + x9)), (0, .ref (gad G k0))]) hx hb dX5_multiply_156 hl (k := 3) rfl rfl (by decide) rfl (fun ls hl => ?_)
      refine lv_goto (tgt := 117) hx hb dX5_multiply_159 (by decide) ?_
      exact ih k0 (((gL w (k0 + 1) (ix x11)) + x9) >>> ((24 : Int32).toInt64 &&& 63)) (x11 + 1) hk0 _ _ _ _ S (lv_sub hl [3, 1, 0] rfl) hz
set_option maxHeartbeats 4000000 in
set_option maxRecDepth 100000 in
theorem w_X5_multiply_93 {p : Program} {l : Launch} {e : Env} {s : State} {m : MethodId} {args : Array Value} {below : List Frame} {meth : Method} {c : Code} {G : GG} (F : CallFix p m c cX5_multiply 14 s args (wsU yX5_multiply cX5_multiply 14 none) RX5) (hr : meth.sig.returnType = none) (hlk : meth.locks = false) {z : Unit × GW} {k_26 : Nat → Int64 → Int64 → Int64 → Int32 → GW → Option (Unit × GW)} (Hk_26 : (∀ (k0 : Nat) (x3 : Int64) (x5 : Int64) (x7 : Int64) (x9 : Int32) (hk0 : kd k0 = 5) (w : GW) (H : Heap) (locs : List Loc) (ls : Array Slot), St G w s H locs → lv_has ls 14 [(0, .ref (gad G k0)), (3, .long x3), (5, .long x5), (7, .long x7), (9, .int x9)] → k_26 k0 x3 x5 x7 x9 w = some z → W p l e (headSpec (wsU yX5_multiply cX5_multiply 14 none) rm_X5_multiply).room s m args below meth c H locs 0 0 (MQ below (QV G z) args s 0 0 (gA G)) (F0 m 26 ls []))) : (∀ (k0 : Nat) (x3 : Int64) (x5 : Int64) (x7 : Int64) (x9 : Int32) (t0 : Int64) (t1 : Int64) (hk0 : kd k0 = 5) (w : GW) (H : Heap) (locs : List Loc) (ls : Array Slot), St G w s H locs → lv_has ls 14 [(0, .ref (gad G k0)), (3, .long x3), (5, .long x5), (7, .long x7), (9, .int x9)] → f_X5_multiply_93 k_26 k0 x3 x5 x7 x9 t0 t1 w = some z → W p l e (headSpec (wsU yX5_multiply cX5_multiply 14 none) rm_X5_multiply).room s m args below meth c H locs 0 0 (MQ below (QV G z) args s 0 0 (gA G)) (F0 m 93 ls [.long t0, .long t1])) := by
  obtain ⟨hx, hb, hml, hown, hts⟩ := id F
  have hg : ∀ q ∈ lwg, q.before args s = true := fun q h => hts q (List.mem_cons_of_mem _ h)
  intro k0 x3 x5 x7 x9 t0 t1 hk0 w H locs ls S hl hz
  rw [f_X5_multiply_93] at hz
  refine lv_ladd hx hb dX5_multiply_93 ?_
  refine lv_lstore (lv' := [(10, .long (t1 + t0)), (0, .ref (gad G k0)), (3, .long x3), (5, .long x5), (7, .long x7), (9, .int x9)]) hx hb dX5_multiply_94 hl (by decide) rfl (fun ls hl => ?_)
  refine lv_aload_n hx hb dX5_multiply_96 rfl (lv_at hl 1 rfl) ?_
  refine fg_X5_0 hx hb (fun q h => hg q (tl_X5 q h)) hown (hg _ t_fl_X5_9) S hk0 dX5_multiply_97 ?_
  refine lv_iload hx hb dX5_multiply_100 (lv_at hl 5 rfl) ?_
  refine lv_lload hx hb dX5_multiply_102 (lv_at hl 0 rfl) ?_
  obtain ⟨h8, hz⟩ := ck hz
  refine g_last (x := (t1 + t0)) hx hb S (isA_21 (kd_5_1 hk0)) h8 dX5_multiply_104 (fun H locs S => ?_)
  refine lv_iinc (v := (x9 + (-1))) (lv' := [(9, .int (x9 + (-1))), (10, .long (t1 + t0)), (0, .ref (gad G k0)), (3, .long x3), (5, .long x5), (7, .long x7)]) hx hb dX5_multiply_105 hl (k := 5) rfl (by rw [show Int32.ofInt (-1) = (-1) from by decide]) (by decide) rfl (fun ls hl => ?_)
  refine lv_goto (tgt := 26) hx hb dX5_multiply_108 (by decide) ?_
  exact Hk_26 k0 x3 x5 x7 (x9 + (-1)) hk0 _ _ _ _ S (lv_sub hl [2, 3, 4, 5, 0] rfl) hz
set_option maxHeartbeats 4000000 in
set_option maxRecDepth 100000 in
theorem w_X5_multiply_66 {p : Program} {l : Launch} {e : Env} {s : State} {m : MethodId} {args : Array Value} {below : List Frame} {meth : Method} {c : Code} {G : GG} (F : CallFix p m c cX5_multiply 14 s args (wsU yX5_multiply cX5_multiply 14 none) RX5) (hr : meth.sig.returnType = none) (hlk : meth.locks = false) {z : Unit × GW} {k_26 : Nat → Int64 → Int64 → Int64 → Int32 → GW → Option (Unit × GW)} (Hk_26 : (∀ (k0 : Nat) (x3 : Int64) (x5 : Int64) (x7 : Int64) (x9 : Int32) (hk0 : kd k0 = 5) (w : GW) (H : Heap) (locs : List Loc) (ls : Array Slot), St G w s H locs → lv_has ls 14 [(0, .ref (gad G k0)), (3, .long x3), (5, .long x5), (7, .long x7), (9, .int x9)] → k_26 k0 x3 x5 x7 x9 w = some z → W p l e (headSpec (wsU yX5_multiply cX5_multiply 14 none) rm_X5_multiply).room s m args below meth c H locs 0 0 (MQ below (QV G z) args s 0 0 (gA G)) (F0 m 26 ls []))) : (∀ (k0 : Nat) (x3 : Int64) (x5 : Int64) (x7 : Int64) (x9 : Int32) (t0 : Int64) (t1 : Int64) (hk0 : kd k0 = 5) (w : GW) (H : Heap) (locs : List Loc) (ls : Array Slot), St G w s H locs → lv_has ls 14 [(0, .ref (gad G k0)), (3, .long x3), (5, .long x5), (7, .long x7), (9, .int x9)] → f_X5_multiply_66 k_26 k0 x3 x5 x7 x9 t0 t1 w = some z → W p l e (headSpec (wsU yX5_multiply cX5_multiply 14 none) rm_X5_multiply).room s m args below meth c H locs 0 0 (MQ below (QV G z) args s 0 0 (gA G)) (F0 m 66 ls [.long t0, .long t1])) := by
  obtain ⟨hx, hb, hml, hown, hts⟩ := id F
  have hg : ∀ q ∈ lwg, q.before args s = true := fun q h => hts q (List.mem_cons_of_mem _ h)
  intro k0 x3 x5 x7 x9 t0 t1 hk0 w H locs ls S hl hz
  rw [f_X5_multiply_66] at hz
  refine lv_ladd hx hb dX5_multiply_66 ?_
  refine lv_lstore (lv' := [(10, .long (t1 + t0)), (0, .ref (gad G k0)), (3, .long x3), (5, .long x5), (7, .long x7), (9, .int x9)]) hx hb dX5_multiply_67 hl (by decide) rfl (fun ls hl => ?_)
  refine lv_lload hx hb dX5_multiply_69 (lv_at hl 0 rfl) ?_
  refine lv_iload hx hb dX5_multiply_71 (lv_at hl 5 rfl) ?_
  refine lv_iconst (v := 2) hx hb dX5_multiply_73 (by decide) ?_
  refine lv_icmp_lt (tgt := 92) hx hb dX5_multiply_74 (by decide) (fun c7 => ?_) (fun c7 => ?_)
  · have hz := ipt (c7) hz
    refine lv_lconst (v := 0) hx hb dX5_multiply_92 (by decide) ?_
    exact w_X5_multiply_93 F hr hlk Hk_26 k0 x3 x5 x7 x9 0 (t1 + t0) hk0 _ _ _ _ S (lv_sub hl [1, 2, 3, 4, 5] rfl) hz
  · have hz := ipf (c7) hz
    refine lv_aload_n hx hb dX5_multiply_77 rfl (lv_at hl 1 rfl) ?_
    refine fg_X5_0 hx hb (fun q h => hg q (tl_X5 q h)) hown (hg _ t_fl_X5_9) S hk0 dX5_multiply_78 ?_
    refine lv_iload hx hb dX5_multiply_81 (lv_at hl 5 rfl) ?_
    refine lv_iconst (v := 2) hx hb dX5_multiply_83 (by decide) ?_
    refine lv_isub hx hb dX5_multiply_84 ?_
    obtain ⟨h9, hz⟩ := ck hz
    refine g_lald hx hb S (isA_21 (kd_5_1 hk0)) h9 dX5_multiply_85 ?_
    refine lv_lload hx hb dX5_multiply_86 (lv_at hl 4 rfl) ?_
    refine lv_lmul hx hb dX5_multiply_88 ?_
    refine lv_goto (tgt := 93) hx hb dX5_multiply_89 (by decide) ?_
    exact w_X5_multiply_93 F hr hlk Hk_26 k0 x3 x5 x7 x9 ((gL w (k0 + 1) (ix (x9 - 2))) * x7) (t1 + t0) hk0 _ _ _ _ S (lv_sub hl [1, 2, 3, 4, 5] rfl) hz
set_option maxHeartbeats 4000000 in
set_option maxRecDepth 100000 in
theorem w_X5_multiply_26 {p : Program} {l : Launch} {e : Env} {s : State} {m : MethodId} {args : Array Value} {below : List Frame} {meth : Method} {c : Code} {G : GG} (F : CallFix p m c cX5_multiply 14 s args (wsU yX5_multiply cX5_multiply 14 none) RX5) (hr : meth.sig.returnType = none) (hlk : meth.locks = false) {z : Unit × GW} : ∀ (n9 : Nat), (∀ (k0 : Nat) (x3 : Int64) (x5 : Int64) (x7 : Int64) (x9 : Int32) (hk0 : kd k0 = 5) (w : GW) (H : Heap) (locs : List Loc) (ls : Array Slot), St G w s H locs → lv_has ls 14 [(0, .ref (gad G k0)), (3, .long x3), (5, .long x5), (7, .long x7), (9, .int x9)] → f_X5_multiply_26 n9 k0 x3 x5 x7 x9 w = some z → W p l e (headSpec (wsU yX5_multiply cX5_multiply 14 none) rm_X5_multiply).room s m args below meth c H locs 0 0 (MQ below (QV G z) args s 0 0 (gA G)) (F0 m 26 ls [])) := by
  obtain ⟨hx, hb, hml, hown, hts⟩ := id F
  have hg : ∀ q ∈ lwg, q.before args s = true := fun q h => hts q (List.mem_cons_of_mem _ h)
  intro n9
  induction n9 with
  | zero =>
    intro k0 x3 x5 x7 x9 hk0 w H locs ls S hl hz
    rw [f_X5_multiply_26] at hz
    cases hz
  | succ n9 ih =>
    intro k0 x3 x5 x7 x9 hk0 w H locs ls S hl hz
    rw [f_X5_multiply_26] at hz
    refine lv_iload hx hb dX5_multiply_26 (lv_at hl 4 rfl) ?_
    refine lv_if_lt (tgt := 111) hx hb dX5_multiply_28 (by decide) (fun c1 => ?_) (fun c1 => ?_)
    · have hz := ipt (c1) hz
      refine lv_lconst (v := 0) hx hb dX5_multiply_111 (by decide) ?_
      refine lv_lstore (lv' := [(9, .long 0), (0, .ref (gad G k0)), (3, .long x3), (5, .long x5), (7, .long x7)]) hx hb dX5_multiply_112 hl (by decide) rfl (fun ls hl => ?_)
      refine lv_iconst (v := 0) hx hb dX5_multiply_114 (by decide) ?_
      refine lv_istore (lv' := [(11, .int 0), (9, .long 0), (0, .ref (gad G k0)), (3, .long x3), (5, .long x5), (7, .long x7)]) hx hb dX5_multiply_115 hl (by decide) rfl (fun ls hl => ?_)
      exact w_X5_multiply_117 F hr hlk fu k0 0 0 hk0 _ _ _ _ S (lv_sub hl [2, 1, 0] rfl) hz
    · have hz := ipf (c1) hz
      refine lv_aload_n hx hb dX5_multiply_31 rfl (lv_at hl 0 rfl) ?_
      refine fg_X5_0 hx hb (fun q h => hg q (tl_X5 q h)) hown (hg _ t_fl_X5_9) S hk0 dX5_multiply_32 ?_
      refine lv_iload hx hb dX5_multiply_35 (lv_at hl 4 rfl) ?_
      obtain ⟨h5, hz⟩ := ck hz
      refine g_lald hx hb S (isA_21 (kd_5_1 hk0)) h5 dX5_multiply_37 ?_
      refine lv_lload_n hx hb dX5_multiply_38 rfl (lv_at hl 1 rfl) ?_
      refine lv_lmul hx hb dX5_multiply_39 ?_
      refine lv_lstore (lv' := [(10, .long ((gL w (k0 + 1) (ix x9)) * x3)), (0, .ref (gad G k0)), (3, .long x3), (5, .long x5), (7, .long x7), (9, .int x9)]) hx hb dX5_multiply_40 hl (by decide) rfl (fun ls hl => ?_)
      refine lv_lload hx hb dX5_multiply_42 (lv_at hl 0 rfl) ?_
      refine lv_iload hx hb dX5_multiply_44 (lv_at hl 5 rfl) ?_
      refine lv_iconst (v := 1) hx hb dX5_multiply_46 (by decide) ?_
      refine lv_icmp_lt (tgt := 65) hx hb dX5_multiply_47 (by decide) (fun c6 => ?_) (fun c6 => ?_)
      · have hz := ipt (c6) hz
        refine lv_lconst (v := 0) hx hb dX5_multiply_65 (by decide) ?_
        exact w_X5_multiply_66 F hr hlk ih k0 x3 x5 x7 x9 0 ((gL w (k0 + 1) (ix x9)) * x3) hk0 _ _ _ _ S (lv_sub hl [1, 2, 3, 4, 5] rfl) hz
      · have hz := ipf (c6) hz
        refine lv_aload_n hx hb dX5_multiply_50 rfl (lv_at hl 1 rfl) ?_
        refine fg_X5_0 hx hb (fun q h => hg q (tl_X5 q h)) hown (hg _ t_fl_X5_9) S hk0 dX5_multiply_51 ?_
        refine lv_iload hx hb dX5_multiply_54 (lv_at hl 5 rfl) ?_
        refine lv_iconst (v := 1) hx hb dX5_multiply_56 (by decide) ?_
        refine lv_isub hx hb dX5_multiply_57 ?_
        obtain ⟨h10, hz⟩ := ck hz
        refine g_lald hx hb S (isA_21 (kd_5_1 hk0)) h10 dX5_multiply_58 ?_
        refine lv_lload hx hb dX5_multiply_59 (lv_at hl 3 rfl) ?_
        refine lv_lmul hx hb dX5_multiply_61 ?_
        refine lv_goto (tgt := 66) hx hb dX5_multiply_62 (by decide) ?_
        exact w_X5_multiply_66 F hr hlk ih k0 x3 x5 x7 x9 ((gL w (k0 + 1) (ix (x9 - 1))) * x5) ((gL w (k0 + 1) (ix x9)) * x3) hk0 _ _ _ _ S (lv_sub hl [1, 2, 3, 4, 5] rfl) hz
set_option maxHeartbeats 4000000 in
set_option maxRecDepth 100000 in
theorem c_X5_multiply (l : Launch) (G : GG) (k0 : Nat) (x1 : Int64) (hk0 : kd k0 = 5) (w : GW) {z : Unit × GW} (hz : f_X5_multiply k0 x1 w = some z) : Met l yX5_multiply (wsU yX5_multiply cX5_multiply 14 none) rm_X5_multiply (va_Pc [.ref (gad G k0), .long x1] (PreG G w)) (QV G z) 0 0 (gA G) := by
  refine Met.ofW (cc := cX5_multiply) (maxL := 14) (ret := none) (by decide) rfl ?_
  intro p e s m args below meth c s₁ B hml hv
  obtain ⟨rfl, S⟩ := hv
  have F : CallFix p m c cX5_multiply 14 s _ (wsU yX5_multiply cX5_multiply 14 none) RX5 := ⟨B.exec, B.bytes, hml, findClass_of_methodNamed B.named, atoms_spec B.pre⟩
  have hr := B.returns
  have hlk := B.notSynchronized
  obtain ⟨hx, hb, -, hown, hts⟩ := id F
  have hg : ∀ q ∈ lwg, q.before _ s = true := fun q h => hts q (List.mem_cons_of_mem _ h)
  refine g_entry (Nat.le_of_ble_eq_true rfl) (fun ls hl => ?_)
  have hl : lv_has ls 14 [(0, .ref (gad G k0)), (1, .long x1)] := hl
  have S : St G w s s.heap [] := S
  generalize s.heap = H at S ⊢
  generalize ([] : List Loc) = locs at S ⊢
  rw [f_X5_multiply] at hz
  refine lv_lload_n hx hb dX5_multiply_0 rfl (lv_at hl 1 rfl) ?_
  refine lv_ldc2 (v := 16777215) hx hb hown (hg _ t_cl_X5_13) dX5_multiply_1 ?_
  refine lv_land hx hb dX5_multiply_4 ?_
  refine lv_lstore_n (lv' := [(3, .long (x1 &&& 16777215)), (0, .ref (gad G k0)), (1, .long x1)]) hx hb dX5_multiply_5 rfl hl (by decide) rfl (fun ls hl => ?_)
  refine lv_lload_n hx hb dX5_multiply_6 rfl (lv_at hl 2 rfl) ?_
  refine lv_bipush (v := 24) hx hb dX5_multiply_7 (by decide) ?_
  refine lv_lshr (v := (x1 >>> ((24 : Int32).toInt64 &&& 63))) hx hb dX5_multiply_9 rfl ?_
  refine lv_ldc2 (v := 16777215) hx hb hown (hg _ t_cl_X5_13) dX5_multiply_10 ?_
  refine lv_land hx hb dX5_multiply_13 ?_
  refine lv_lstore (lv' := [(5, .long ((x1 >>> ((24 : Int32).toInt64 &&& 63)) &&& 16777215)), (3, .long (x1 &&& 16777215)), (0, .ref (gad G k0)), (1, .long x1)]) hx hb dX5_multiply_14 hl (by decide) rfl (fun ls hl => ?_)
  refine lv_lload_n hx hb dX5_multiply_16 rfl (lv_at hl 3 rfl) ?_
  refine lv_bipush (v := 48) hx hb dX5_multiply_17 (by decide) ?_
  refine lv_lshr (v := (x1 >>> ((48 : Int32).toInt64 &&& 63))) hx hb dX5_multiply_19 rfl ?_
  refine lv_lstore (lv' := [(7, .long (x1 >>> ((48 : Int32).toInt64 &&& 63))), (5, .long ((x1 >>> ((24 : Int32).toInt64 &&& 63)) &&& 16777215)), (3, .long (x1 &&& 16777215)), (0, .ref (gad G k0)), (1, .long x1)]) hx hb dX5_multiply_20 hl (by decide) rfl (fun ls hl => ?_)
  refine lv_bipush (v := 17) hx hb dX5_multiply_22 (by decide) ?_
  refine lv_istore (lv' := [(9, .int 17), (7, .long (x1 >>> ((48 : Int32).toInt64 &&& 63))), (5, .long ((x1 >>> ((24 : Int32).toInt64 &&& 63)) &&& 16777215)), (3, .long (x1 &&& 16777215)), (0, .ref (gad G k0)), (1, .long x1)]) hx hb dX5_multiply_24 hl (by decide) rfl (fun ls hl => ?_)
  exact w_X5_multiply_26 F hr hlk fu k0 (x1 &&& 16777215) ((x1 >>> ((24 : Int32).toInt64 &&& 63)) &&& 16777215) (x1 >>> ((48 : Int32).toInt64 &&& 63)) 17 hk0 _ _ _ _ S (lv_sub hl [4, 3, 2, 1, 0] rfl) hz
noncomputable def f_X5_isAbove_3  : Nat → Nat → Nat → Int32 → GW → Option (Int32 × GW)
  | 0, _, _, _, _ => none
  | n9 + 1, k0, k1, x2, w =>
    if x2 < 0 then
      some (0, w)
    else
      if inb x2 18 then
      if inb x2 18 then
      if (gL w (k0 + 1) (ix x2)) = (gL w (k1 + 1) (ix x2)) then
        f_X5_isAbove_3 n9 k0 k1 (x2 + (-1)) w
      else
        if inb x2 18 then
        if inb x2 18 then
        if (gL w (k0 + 1) (ix x2)) ≤ (gL w (k1 + 1) (ix x2)) then
          some (0, w)
        else
          some (1, w)
        else none
        else none
      else none
      else none
noncomputable def f_X5_isAbove (k0 : Nat) (k1 : Nat) (w : GW) : Option (Int32 × GW) :=
  f_X5_isAbove_3 fu k0 k1 17 w
set_option maxHeartbeats 4000000 in
set_option maxRecDepth 100000 in
theorem w_X5_isAbove_3 {p : Program} {l : Launch} {e : Env} {s : State} {m : MethodId} {args : Array Value} {below : List Frame} {meth : Method} {c : Code} {G : GG} (F : CallFix p m c cX5_isAbove 3 s args (wsU yX5_isAbove cX5_isAbove 3 (some .boolean)) RX5) (hr : meth.sig.returnType = (some .boolean)) (hlk : meth.locks = false) {z : Int32 × GW} : ∀ (n9 : Nat), (∀ (k0 : Nat) (k1 : Nat) (x2 : Int32) (hk0 : kd k0 = 5) (hk1 : kd k1 = 5) (w : GW) (H : Heap) (locs : List Loc) (ls : Array Slot), St G w s H locs → lv_has ls 3 [(0, .ref (gad G k0)), (1, .ref (gad G k1)), (2, .int x2)] → f_X5_isAbove_3 n9 k0 k1 x2 w = some z → W p l e (headSpec (wsU yX5_isAbove cX5_isAbove 3 (some .boolean)) rm_X5_isAbove).room s m args below meth c H locs 0 0 (MQ below (QB G z) args s 0 0 (gA G)) (F0 m 3 ls [])) := by
  obtain ⟨hx, hb, hml, hown, hts⟩ := id F
  have hg : ∀ q ∈ lwg, q.before args s = true := fun q h => hts q (List.mem_cons_of_mem _ h)
  intro n9
  induction n9 with
  | zero =>
    intro k0 k1 x2 hk0 hk1 w H locs ls S hl hz
    rw [f_X5_isAbove_3] at hz
    cases hz
  | succ n9 ih =>
    intro k0 k1 x2 hk0 hk1 w H locs ls S hl hz
    rw [f_X5_isAbove_3] at hz
    refine lv_iload_n hx hb dX5_isAbove_3 rfl (lv_at hl 2 rfl) ?_
    refine lv_if_lt (tgt := 51) hx hb dX5_isAbove_4 (by decide) (fun c1 => ?_) (fun c1 => ?_)
    · have hz := ipt (c1) hz
      refine lv_iconst (v := 0) hx hb dX5_isAbove_51 (by decide) ?_
      exact g_retb hx hb hr hlk S isB_0 hz dX5_isAbove_52
    · have hz := ipf (c1) hz
      refine lv_aload_n hx hb dX5_isAbove_7 rfl (lv_at hl 0 rfl) ?_
      refine fg_X5_0 hx hb (fun q h => hg q (tl_X5 q h)) hown (hg _ t_fl_X5_9) S hk0 dX5_isAbove_8 ?_
      refine lv_iload_n hx hb dX5_isAbove_11 rfl (lv_at hl 2 rfl) ?_
      obtain ⟨h2, hz⟩ := ck hz
      refine g_lald hx hb S (isA_21 (kd_5_1 hk0)) h2 dX5_isAbove_12 ?_
      refine lv_aload_n hx hb dX5_isAbove_13 rfl (lv_at hl 1 rfl) ?_
      refine fg_X5_0 hx hb (fun q h => hg q (tl_X5 q h)) hown (hg _ t_fl_X5_9) S hk1 dX5_isAbove_14 ?_
      refine lv_iload_n hx hb dX5_isAbove_17 rfl (lv_at hl 2 rfl) ?_
      obtain ⟨h3, hz⟩ := ck hz
      refine g_lald hx hb S (isA_21 (kd_5_1 hk1)) h3 dX5_isAbove_18 ?_
      refine W.lcmp hx hb dX5_isAbove_19 ?_
      refine lv_if_eq (tgt := 45) hx hb dX5_isAbove_20 (by decide) (fun c4 => ?_) (fun c4 => ?_)
      · have hz := ipt ((lg_cmp_eq _ _).mp c4) hz
        refine lv_iinc (v := (x2 + (-1))) (lv' := [(2, .int (x2 + (-1))), (0, .ref (gad G k0)), (1, .ref (gad G k1))]) hx hb dX5_isAbove_45 hl (k := 2) rfl (by rw [show Int32.ofInt (-1) = (-1) from by decide]) (by decide) rfl (fun ls hl => ?_)
        refine lv_goto (tgt := 3) hx hb dX5_isAbove_48 (by decide) ?_
        exact ih k0 k1 (x2 + (-1)) hk0 hk1 _ _ _ _ S (lv_sub hl [1, 2, 0] rfl) hz
      · have hz := ipf (fun q9 => c4 ((lg_cmp_eq _ _).mpr q9)) hz
        refine lv_aload_n hx hb dX5_isAbove_23 rfl (lv_at hl 0 rfl) ?_
        refine fg_X5_0 hx hb (fun q h => hg q (tl_X5 q h)) hown (hg _ t_fl_X5_9) S hk0 dX5_isAbove_24 ?_
        refine lv_iload_n hx hb dX5_isAbove_27 rfl (lv_at hl 2 rfl) ?_
        obtain ⟨h5, hz⟩ := ck hz
        refine g_lald hx hb S (isA_21 (kd_5_1 hk0)) h5 dX5_isAbove_28 ?_
        refine lv_aload_n hx hb dX5_isAbove_29 rfl (lv_at hl 1 rfl) ?_
        refine fg_X5_0 hx hb (fun q h => hg q (tl_X5 q h)) hown (hg _ t_fl_X5_9) S hk1 dX5_isAbove_30 ?_
        refine lv_iload_n hx hb dX5_isAbove_33 rfl (lv_at hl 2 rfl) ?_
        obtain ⟨h6, hz⟩ := ck hz
        refine g_lald hx hb S (isA_21 (kd_5_1 hk1)) h6 dX5_isAbove_34 ?_
        refine W.lcmp hx hb dX5_isAbove_35 ?_
        refine lv_if_le (tgt := 43) hx hb dX5_isAbove_36 (by decide) (fun c7 => ?_) (fun c7 => ?_)
        · have hz := ipt ((lg_cmp_le _ _).mp c7) hz
          refine lv_iconst (v := 0) hx hb dX5_isAbove_43 (by decide) ?_
          exact g_retb hx hb hr hlk S isB_0 hz dX5_isAbove_44
        · have hz := ipf (fun q9 => c7 ((lg_cmp_le _ _).mpr q9)) hz
          refine lv_iconst (v := 1) hx hb dX5_isAbove_39 (by decide) ?_
          refine lv_goto (tgt := 44) hx hb dX5_isAbove_40 (by decide) ?_
          exact g_retb hx hb hr hlk S isB_1 hz dX5_isAbove_44
set_option maxHeartbeats 4000000 in
set_option maxRecDepth 100000 in
theorem c_X5_isAbove (l : Launch) (G : GG) (k0 : Nat) (k1 : Nat) (hk0 : kd k0 = 5) (hk1 : kd k1 = 5) (w : GW) {z : Int32 × GW} (hz : f_X5_isAbove k0 k1 w = some z) : Met l yX5_isAbove (wsU yX5_isAbove cX5_isAbove 3 (some .boolean)) rm_X5_isAbove (va_Pc [.ref (gad G k0), .ref (gad G k1)] (PreG G w)) (QB G z) 0 0 (gA G) := by
  refine Met.ofW (cc := cX5_isAbove) (maxL := 3) (ret := (some .boolean)) (by decide) rfl ?_
  intro p e s m args below meth c s₁ B hml hv
  obtain ⟨rfl, S⟩ := hv
  have F : CallFix p m c cX5_isAbove 3 s _ (wsU yX5_isAbove cX5_isAbove 3 (some .boolean)) RX5 := ⟨B.exec, B.bytes, hml, findClass_of_methodNamed B.named, atoms_spec B.pre⟩
  have hr := B.returns
  have hlk := B.notSynchronized
  obtain ⟨hx, hb, -, hown, hts⟩ := id F
  have hg : ∀ q ∈ lwg, q.before _ s = true := fun q h => hts q (List.mem_cons_of_mem _ h)
  refine g_entry (Nat.le_of_ble_eq_true rfl) (fun ls hl => ?_)
  have hl : lv_has ls 3 [(0, .ref (gad G k0)), (1, .ref (gad G k1))] := hl
  have S : St G w s s.heap [] := S
  generalize s.heap = H at S ⊢
  generalize ([] : List Loc) = locs at S ⊢
  rw [f_X5_isAbove] at hz
  refine lv_bipush (v := 17) hx hb dX5_isAbove_0 (by decide) ?_
  refine lv_istore_n (lv' := [(2, .int 17), (0, .ref (gad G k0)), (1, .ref (gad G k1))]) hx hb dX5_isAbove_2 rfl hl (by decide) rfl (fun ls hl => ?_)
  exact w_X5_isAbove_3 F hr hlk fu k0 k1 17 hk0 hk1 _ _ _ _ S (lv_sub hl [1, 2, 0] rfl) hz
noncomputable def f_X7_isLetter (x0 : Int32) (w : GW) : Option (Int32 × GW) :=
  if x0 < 97 then
    some (0, w)
  else
    if 122 < x0 then
      some (0, w)
    else
      some (1, w)
set_option maxHeartbeats 4000000 in
set_option maxRecDepth 100000 in
theorem c_X7_isLetter (l : Launch) (G : GG) (x0 : Int32)  (w : GW) {z : Int32 × GW} (hz : f_X7_isLetter x0 w = some z) : Met l yX7_isLetter (wsU yX7_isLetter cX7_isLetter 1 (some .boolean)) rm_X7_isLetter (va_Pc [.int x0] (PreG G w)) (QB G z) 0 0 (gA G) := by
  refine Met.ofW (cc := cX7_isLetter) (maxL := 1) (ret := (some .boolean)) (by decide) rfl ?_
  intro p e s m args below meth c s₁ B hml hv
  obtain ⟨rfl, S⟩ := hv
  have F : CallFix p m c cX7_isLetter 1 s _ (wsU yX7_isLetter cX7_isLetter 1 (some .boolean)) RX7 := ⟨B.exec, B.bytes, hml, findClass_of_methodNamed B.named, atoms_spec B.pre⟩
  have hr := B.returns
  have hlk := B.notSynchronized
  obtain ⟨hx, hb, -, hown, hts⟩ := id F
  have hg : ∀ q ∈ lwg, q.before _ s = true := fun q h => hts q (List.mem_cons_of_mem _ h)
  refine g_entry (Nat.le_of_ble_eq_true rfl) (fun ls hl => ?_)
  have hl : lv_has ls 1 [(0, .int x0)] := hl
  have S : St G w s s.heap [] := S
  generalize s.heap = H at S ⊢
  generalize ([] : List Loc) = locs at S ⊢
  rw [f_X7_isLetter] at hz
  refine lv_iload_n hx hb dX7_isLetter_0 rfl (lv_at hl 0 rfl) ?_
  refine lv_bipush (v := 97) hx hb dX7_isLetter_1 (by decide) ?_
  refine lv_icmp_lt (tgt := 16) hx hb dX7_isLetter_3 (by decide) (fun c1 => ?_) (fun c1 => ?_)
  · have hz := ipt (c1) hz
    refine lv_iconst (v := 0) hx hb dX7_isLetter_16 (by decide) ?_
    exact g_retb hx hb hr hlk S isB_0 hz dX7_isLetter_17
  · have hz := ipf (c1) hz
    refine lv_iload_n hx hb dX7_isLetter_6 rfl (lv_at hl 0 rfl) ?_
    refine lv_bipush (v := 122) hx hb dX7_isLetter_7 (by decide) ?_
    refine lv_icmp_gt (tgt := 16) hx hb dX7_isLetter_9 (by decide) (fun c2 => ?_) (fun c2 => ?_)
    · have hz := ipt (c2) hz
      refine lv_iconst (v := 0) hx hb dX7_isLetter_16 (by decide) ?_
      exact g_retb hx hb hr hlk S isB_0 hz dX7_isLetter_17
    · have hz := ipf (c2) hz
      refine lv_iconst (v := 1) hx hb dX7_isLetter_12 (by decide) ?_
      refine lv_goto (tgt := 17) hx hb dX7_isLetter_13 (by decide) ?_
      exact g_retb hx hb hr hlk S isB_1 hz dX7_isLetter_17
noncomputable def f_X7_word_79  (x1 : Int32) (t0 : Int32) (w : GW) : Option (Unit × GW) :=
  some ((), (sI (sI w 1 5 t0) 1 2 x1))
noncomputable def f_X7_word_62  (x1 : Int32) (w : GW) : Option (Unit × GW) :=
  if (x1 - (gI w 1 4)) ≤ 8 then
    f_X7_word_79 x1 1 w
  else
    f_X7_word_79 x1 5 w
noncomputable def f_X7_word_10  : Nat → Int32 → GW → Option (Unit × GW)
  | 0, _, _ => none
  | n9 + 1, x1, w =>
    if (gI w 1 1) ≤ x1 then
      f_X7_word_62 x1 w
    else
      if inb x1 900 then
      (f_X7_isLetter (gI w 2 (ix x1)) w).bind fun q4 =>
      if q4.1 = 0 then
        f_X7_word_62 x1 q4.2
      else
        if inb x1 900 then
        f_X7_word_10 n9 (x1 + 1) (sL q4.2 1 7 (((((gL q4.2 1 7) * 27) + ((gI q4.2 2 (ix x1)).toInt64)) - 97) + 1))
        else none
      else none
noncomputable def f_X7_word  (w : GW) : Option (Unit × GW) :=
  f_X7_word_10 fu (gI w 1 4) (sL w 1 7 0)
set_option maxHeartbeats 4000000 in
set_option maxRecDepth 100000 in
theorem w_X7_word_79 {p : Program} {l : Launch} {e : Env} {s : State} {m : MethodId} {args : Array Value} {below : List Frame} {meth : Method} {c : Code} {G : GG} (F : CallFix p m c cX7_word 2 s args (wsU yX7_word cX7_word 2 none) RX7) (hr : meth.sig.returnType = none) (hlk : meth.locks = false) {z : Unit × GW} : (∀ (x1 : Int32) (t0 : Int32) (w : GW) (H : Heap) (locs : List Loc) (ls : Array Slot), St G w s H locs → lv_has ls 2 [(0, .ref (gad G 1)), (1, .int x1)] → f_X7_word_79 x1 t0 w = some z → W p l e (headSpec (wsU yX7_word cX7_word 2 none) rm_X7_word).room s m args below meth c H locs 0 0 (MQ below (QV G z) args s 0 0 (gA G)) (F0 m 79 ls [.int t0, .ref (gad G 1)])) := by
  obtain ⟨hx, hb, hml, hown, hts⟩ := id F
  have hg : ∀ q ∈ lwg, q.before args s = true := fun q h => hts q (List.mem_cons_of_mem _ h)
  intro x1 t0 w H locs ls S hl hz
  rw [f_X7_word_79] at hz
  refine fp_X7_5 (v := t0) hx hb (fun q h => hg q (tl_X7 q h)) hown (hg _ t_fl_X7_37) S (by decide) dX7_word_79 (fun H locs S => ?_)
  refine lv_aload_n hx hb dX7_word_82 rfl (lv_at hl 0 rfl) ?_
  refine lv_iload_n hx hb dX7_word_83 rfl (lv_at hl 1 rfl) ?_
  refine fp_X7_2 (v := x1) hx hb (fun q h => hg q (tl_X7 q h)) hown (hg _ t_fl_X7_28) S (by decide) dX7_word_84 (fun H locs S => ?_)
  exact g_retv hx hb hr hlk S hz dX7_word_87
set_option maxHeartbeats 4000000 in
set_option maxRecDepth 100000 in
theorem w_X7_word_62 {p : Program} {l : Launch} {e : Env} {s : State} {m : MethodId} {args : Array Value} {below : List Frame} {meth : Method} {c : Code} {G : GG} (F : CallFix p m c cX7_word 2 s args (wsU yX7_word cX7_word 2 none) RX7) (hr : meth.sig.returnType = none) (hlk : meth.locks = false) {z : Unit × GW} : (∀ (x1 : Int32) (w : GW) (H : Heap) (locs : List Loc) (ls : Array Slot), St G w s H locs → lv_has ls 2 [(0, .ref (gad G 1)), (1, .int x1)] → f_X7_word_62 x1 w = some z → W p l e (headSpec (wsU yX7_word cX7_word 2 none) rm_X7_word).room s m args below meth c H locs 0 0 (MQ below (QV G z) args s 0 0 (gA G)) (F0 m 62 ls [])) := by
  obtain ⟨hx, hb, hml, hown, hts⟩ := id F
  have hg : ∀ q ∈ lwg, q.before args s = true := fun q h => hts q (List.mem_cons_of_mem _ h)
  intro x1 w H locs ls S hl hz
  rw [f_X7_word_62] at hz
  refine lv_aload_n hx hb dX7_word_62 rfl (lv_at hl 0 rfl) ?_
  refine lv_iload_n hx hb dX7_word_63 rfl (lv_at hl 1 rfl) ?_
  refine lv_aload_n hx hb dX7_word_64 rfl (lv_at hl 0 rfl) ?_
  refine fg_X7_4 hx hb (fun q h => hg q (tl_X7 q h)) hown (hg _ t_fl_X7_34) S (by decide) dX7_word_65 ?_
  refine lv_isub hx hb dX7_word_68 ?_
  refine lv_bipush (v := 8) hx hb dX7_word_69 (by decide) ?_
  refine lv_icmp_le (tgt := 78) hx hb dX7_word_71 (by decide) (fun c2 => ?_) (fun c2 => ?_)
  · have hz := ipt (c2) hz
    refine lv_iconst (v := 1) hx hb dX7_word_78 (by decide) ?_
    exact w_X7_word_79 F hr hlk x1 1 _ _ _ _ S (lv_sub hl [0, 1] rfl) hz
  · have hz := ipf (c2) hz
    refine lv_iconst (v := 5) hx hb dX7_word_74 (by decide) ?_
    refine lv_goto (tgt := 79) hx hb dX7_word_75 (by decide) ?_
    exact w_X7_word_79 F hr hlk x1 5 _ _ _ _ S (lv_sub hl [0, 1] rfl) hz
set_option maxHeartbeats 4000000 in
set_option maxRecDepth 100000 in
theorem w_X7_word_10 {p : Program} {l : Launch} {e : Env} {s : State} {m : MethodId} {args : Array Value} {below : List Frame} {meth : Method} {c : Code} {G : GG} (F : CallFix p m c cX7_word 2 s args (wsU yX7_word cX7_word 2 none) RX7) (hr : meth.sig.returnType = none) (hlk : meth.locks = false) {z : Unit × GW} : ∀ (n9 : Nat), (∀ (x1 : Int32) (w : GW) (H : Heap) (locs : List Loc) (ls : Array Slot), St G w s H locs → lv_has ls 2 [(0, .ref (gad G 1)), (1, .int x1)] → f_X7_word_10 n9 x1 w = some z → W p l e (headSpec (wsU yX7_word cX7_word 2 none) rm_X7_word).room s m args below meth c H locs 0 0 (MQ below (QV G z) args s 0 0 (gA G)) (F0 m 10 ls [])) := by
  obtain ⟨hx, hb, hml, hown, hts⟩ := id F
  have hg : ∀ q ∈ lwg, q.before args s = true := fun q h => hts q (List.mem_cons_of_mem _ h)
  intro n9
  induction n9 with
  | zero =>
    intro x1 w H locs ls S hl hz
    rw [f_X7_word_10] at hz
    cases hz
  | succ n9 ih =>
    intro x1 w H locs ls S hl hz
    rw [f_X7_word_10] at hz
    refine lv_iload_n hx hb dX7_word_10 rfl (lv_at hl 1 rfl) ?_
    refine lv_aload_n hx hb dX7_word_11 rfl (lv_at hl 0 rfl) ?_
    refine fg_X7_1 hx hb (fun q h => hg q (tl_X7 q h)) hown (hg _ t_fl_X7_25) S (by decide) dX7_word_12 ?_
    refine lv_icmp_ge (tgt := 62) hx hb dX7_word_15 (by decide) (fun c1 => ?_) (fun c1 => ?_)
    · have hz := ipt (c1) hz
      exact w_X7_word_62 F hr hlk x1 _ _ _ _ S (lv_sub hl [0, 1] rfl) hz
    · have hz := ipf (c1) hz
      refine lv_aload_n hx hb dX7_word_18 rfl (lv_at hl 0 rfl) ?_
      refine fg_X7_0 hx hb (fun q h => hg q (tl_X7 q h)) hown (hg _ t_fl_X7_9) S (by decide) dX7_word_19 ?_
      refine lv_iload_n hx hb dX7_word_22 rfl (lv_at hl 1 rfl) ?_
      obtain ⟨h3, hz⟩ := ck hz
      refine g_iald hx hb S (isA_11 (by decide)) h3 dX7_word_23 ?_
      obtain ⟨q4, e5, hz⟩ := bd hz
      refine g_callSb (As := [.int (gI w 2 (ix x1))]) (rest := []) F S (c_X7_isLetter l G (gI w 2 (ix x1))  _ e5) (cw_X7_word_X7_isLetter_40 hg) rfl hl.1 rfl (Nat.le_of_ble_eq_true rfl) ⟨Nat.zero_le _, Nat.zero_le _⟩ dX7_word_24 (fun H locs hB6 S => ?_)
      refine lv_if_eq (tgt := 62) hx hb dX7_word_27 (by decide) (fun c7 => ?_) (fun c7 => ?_)
      · have hz := ipt (c7) hz
        exact w_X7_word_62 F hr hlk x1 _ _ _ _ S (lv_sub hl [0, 1] rfl) hz
      · have hz := ipf (c7) hz
        refine lv_aload_n hx hb dX7_word_30 rfl (lv_at hl 0 rfl) ?_
        refine lv_aload_n hx hb dX7_word_31 rfl (lv_at hl 0 rfl) ?_
        refine fg_X7_7 hx hb (fun q h => hg q (tl_X7 q h)) hown (hg _ t_fl_X7_53) S (by decide) dX7_word_32 ?_
        refine lv_ldc2 (v := 27) hx hb hown (hg _ t_cl_X7_57) dX7_word_35 ?_
        refine lv_lmul hx hb dX7_word_38 ?_
        refine lv_aload_n hx hb dX7_word_39 rfl (lv_at hl 0 rfl) ?_
        refine fg_X7_0 hx hb (fun q h => hg q (tl_X7 q h)) hown (hg _ t_fl_X7_9) S (by decide) dX7_word_40 ?_
        refine lv_iload_n hx hb dX7_word_43 rfl (lv_at hl 1 rfl) ?_
        obtain ⟨h8, hz⟩ := ck hz
        refine g_iald hx hb S (isA_11 (by decide)) h8 dX7_word_44 ?_
        refine lv_i2l (v := (gI q4.2 2 (ix x1)).toInt64) hx hb dX7_word_45 rfl ?_
        refine lv_ladd hx hb dX7_word_46 ?_
        refine lv_ldc2 (v := 97) hx hb hown (hg _ t_cl_X7_59) dX7_word_47 ?_
        refine lv_lsub hx hb dX7_word_50 ?_
        refine lv_lconst (v := 1) hx hb dX7_word_51 (by decide) ?_
        refine lv_ladd hx hb dX7_word_52 ?_
        refine fp_X7_7 (v := (((((gL q4.2 1 7) * 27) + ((gI q4.2 2 (ix x1)).toInt64)) - 97) + 1)) hx hb (fun q h => hg q (tl_X7 q h)) hown (hg _ t_fl_X7_53) S (by decide) dX7_word_53 (fun H locs S => ?_)
        refine lv_iinc (v := (x1 + 1)) (lv' := [(1, .int (x1 + 1)), (0, .ref (gad G 1))]) hx hb dX7_word_56 hl (k := 1) rfl rfl (by decide) rfl (fun ls hl => ?_)
        refine lv_goto (tgt := 10) hx hb dX7_word_59 (by decide) ?_
        exact ih (x1 + 1)  _ _ _ _ S (lv_sub hl [1, 0] rfl) hz
set_option maxHeartbeats 4000000 in
set_option maxRecDepth 100000 in
theorem c_X7_word (l : Launch) (G : GG)   (w : GW) {z : Unit × GW} (hz : f_X7_word  w = some z) : Met l yX7_word (wsU yX7_word cX7_word 2 none) rm_X7_word (va_Pc [.ref (gad G 1)] (PreG G w)) (QV G z) 0 0 (gA G) := by
  refine Met.ofW (cc := cX7_word) (maxL := 2) (ret := none) (by decide) rfl ?_
  intro p e s m args below meth c s₁ B hml hv
  obtain ⟨rfl, S⟩ := hv
  have F : CallFix p m c cX7_word 2 s _ (wsU yX7_word cX7_word 2 none) RX7 := ⟨B.exec, B.bytes, hml, findClass_of_methodNamed B.named, atoms_spec B.pre⟩
  have hr := B.returns
  have hlk := B.notSynchronized
  obtain ⟨hx, hb, -, hown, hts⟩ := id F
  have hg : ∀ q ∈ lwg, q.before _ s = true := fun q h => hts q (List.mem_cons_of_mem _ h)
  refine g_entry (Nat.le_of_ble_eq_true rfl) (fun ls hl => ?_)
  have hl : lv_has ls 2 [(0, .ref (gad G 1))] := hl
  have S : St G w s s.heap [] := S
  generalize s.heap = H at S ⊢
  generalize ([] : List Loc) = locs at S ⊢
  rw [f_X7_word] at hz
  refine lv_aload_n hx hb dX7_word_0 rfl (lv_at hl 0 rfl) ?_
  refine fg_X7_4 hx hb (fun q h => hg q (tl_X7 q h)) hown (hg _ t_fl_X7_34) S (by decide) dX7_word_1 ?_
  refine lv_istore_n (lv' := [(1, .int (gI w 1 4)), (0, .ref (gad G 1))]) hx hb dX7_word_4 rfl hl (by decide) rfl (fun ls hl => ?_)
  refine lv_aload_n hx hb dX7_word_5 rfl (lv_at hl 1 rfl) ?_
  refine lv_lconst (v := 0) hx hb dX7_word_6 (by decide) ?_
  refine fp_X7_7 (v := 0) hx hb (fun q h => hg q (tl_X7 q h)) hown (hg _ t_fl_X7_53) S (by decide) dX7_word_7 (fun H locs S => ?_)
  exact w_X7_word_10 F hr hlk fu (gI w 1 4) _ _ _ _ S (lv_sub hl [1, 0] rfl) hz
noncomputable def f_X7_isDigit (x0 : Int32) (w : GW) : Option (Int32 × GW) :=
  if x0 < 48 then
    some (0, w)
  else
    if 57 < x0 then
      some (0, w)
    else
      some (1, w)
set_option maxHeartbeats 4000000 in
set_option maxRecDepth 100000 in
theorem c_X7_isDigit (l : Launch) (G : GG) (x0 : Int32)  (w : GW) {z : Int32 × GW} (hz : f_X7_isDigit x0 w = some z) : Met l yX7_isDigit (wsU yX7_isDigit cX7_isDigit 1 (some .boolean)) rm_X7_isDigit (va_Pc [.int x0] (PreG G w)) (QB G z) 0 0 (gA G) := by
  refine Met.ofW (cc := cX7_isDigit) (maxL := 1) (ret := (some .boolean)) (by decide) rfl ?_
  intro p e s m args below meth c s₁ B hml hv
  obtain ⟨rfl, S⟩ := hv
  have F : CallFix p m c cX7_isDigit 1 s _ (wsU yX7_isDigit cX7_isDigit 1 (some .boolean)) RX7 := ⟨B.exec, B.bytes, hml, findClass_of_methodNamed B.named, atoms_spec B.pre⟩
  have hr := B.returns
  have hlk := B.notSynchronized
  obtain ⟨hx, hb, -, hown, hts⟩ := id F
  have hg : ∀ q ∈ lwg, q.before _ s = true := fun q h => hts q (List.mem_cons_of_mem _ h)
  refine g_entry (Nat.le_of_ble_eq_true rfl) (fun ls hl => ?_)
  have hl : lv_has ls 1 [(0, .int x0)] := hl
  have S : St G w s s.heap [] := S
  generalize s.heap = H at S ⊢
  generalize ([] : List Loc) = locs at S ⊢
  rw [f_X7_isDigit] at hz
  refine lv_iload_n hx hb dX7_isDigit_0 rfl (lv_at hl 0 rfl) ?_
  refine lv_bipush (v := 48) hx hb dX7_isDigit_1 (by decide) ?_
  refine lv_icmp_lt (tgt := 16) hx hb dX7_isDigit_3 (by decide) (fun c1 => ?_) (fun c1 => ?_)
  · have hz := ipt (c1) hz
    refine lv_iconst (v := 0) hx hb dX7_isDigit_16 (by decide) ?_
    exact g_retb hx hb hr hlk S isB_0 hz dX7_isDigit_17
  · have hz := ipf (c1) hz
    refine lv_iload_n hx hb dX7_isDigit_6 rfl (lv_at hl 0 rfl) ?_
    refine lv_bipush (v := 57) hx hb dX7_isDigit_7 (by decide) ?_
    refine lv_icmp_gt (tgt := 16) hx hb dX7_isDigit_9 (by decide) (fun c2 => ?_) (fun c2 => ?_)
    · have hz := ipt (c2) hz
      refine lv_iconst (v := 0) hx hb dX7_isDigit_16 (by decide) ?_
      exact g_retb hx hb hr hlk S isB_0 hz dX7_isDigit_17
    · have hz := ipf (c2) hz
      refine lv_iconst (v := 1) hx hb dX7_isDigit_12 (by decide) ?_
      refine lv_goto (tgt := 17) hx hb dX7_isDigit_13 (by decide) ?_
      exact g_retb hx hb hr hlk S isB_1 hz dX7_isDigit_17
noncomputable def f_X7_whole_73  (x1 : Int32) (t0 : Int32) (w : GW) : Option (Unit × GW) :=
  some ((), (sI (sI w 1 5 t0) 1 2 x1))
noncomputable def f_X7_whole_57  (x1 : Int32) (w : GW) : Option (Unit × GW) :=
  if (x1 - (gI w 1 4)) ≤ 3 then
    f_X7_whole_73 x1 2 w
  else
    f_X7_whole_73 x1 5 w
noncomputable def f_X7_whole_10  : Nat → Int32 → GW → Option (Unit × GW)
  | 0, _, _ => none
  | n9 + 1, x1, w =>
    if (gI w 1 1) ≤ x1 then
      f_X7_whole_57 x1 w
    else
      if inb x1 900 then
      (f_X7_isDigit (gI w 2 (ix x1)) w).bind fun q4 =>
      if q4.1 = 0 then
        f_X7_whole_57 x1 q4.2
      else
        if inb x1 900 then
        f_X7_whole_10 n9 (x1 + 1) (sI q4.2 1 6 ((((gI q4.2 1 6) * 10) + (gI q4.2 2 (ix x1))) - 48))
        else none
      else none
noncomputable def f_X7_whole  (w : GW) : Option (Unit × GW) :=
  f_X7_whole_10 fu (gI w 1 4) (sI w 1 6 0)
set_option maxHeartbeats 4000000 in
set_option maxRecDepth 100000 in
theorem w_X7_whole_73 {p : Program} {l : Launch} {e : Env} {s : State} {m : MethodId} {args : Array Value} {below : List Frame} {meth : Method} {c : Code} {G : GG} (F : CallFix p m c cX7_whole 2 s args (wsU yX7_whole cX7_whole 2 none) RX7) (hr : meth.sig.returnType = none) (hlk : meth.locks = false) {z : Unit × GW} : (∀ (x1 : Int32) (t0 : Int32) (w : GW) (H : Heap) (locs : List Loc) (ls : Array Slot), St G w s H locs → lv_has ls 2 [(0, .ref (gad G 1)), (1, .int x1)] → f_X7_whole_73 x1 t0 w = some z → W p l e (headSpec (wsU yX7_whole cX7_whole 2 none) rm_X7_whole).room s m args below meth c H locs 0 0 (MQ below (QV G z) args s 0 0 (gA G)) (F0 m 73 ls [.int t0, .ref (gad G 1)])) := by
  obtain ⟨hx, hb, hml, hown, hts⟩ := id F
  have hg : ∀ q ∈ lwg, q.before args s = true := fun q h => hts q (List.mem_cons_of_mem _ h)
  intro x1 t0 w H locs ls S hl hz
  rw [f_X7_whole_73] at hz
  refine fp_X7_5 (v := t0) hx hb (fun q h => hg q (tl_X7 q h)) hown (hg _ t_fl_X7_37) S (by decide) dX7_whole_73 (fun H locs S => ?_)
  refine lv_aload_n hx hb dX7_whole_76 rfl (lv_at hl 0 rfl) ?_
  refine lv_iload_n hx hb dX7_whole_77 rfl (lv_at hl 1 rfl) ?_
  refine fp_X7_2 (v := x1) hx hb (fun q h => hg q (tl_X7 q h)) hown (hg _ t_fl_X7_28) S (by decide) dX7_whole_78 (fun H locs S => ?_)
  exact g_retv hx hb hr hlk S hz dX7_whole_81
set_option maxHeartbeats 4000000 in
set_option maxRecDepth 100000 in
theorem w_X7_whole_57 {p : Program} {l : Launch} {e : Env} {s : State} {m : MethodId} {args : Array Value} {below : List Frame} {meth : Method} {c : Code} {G : GG} (F : CallFix p m c cX7_whole 2 s args (wsU yX7_whole cX7_whole 2 none) RX7) (hr : meth.sig.returnType = none) (hlk : meth.locks = false) {z : Unit × GW} : (∀ (x1 : Int32) (w : GW) (H : Heap) (locs : List Loc) (ls : Array Slot), St G w s H locs → lv_has ls 2 [(0, .ref (gad G 1)), (1, .int x1)] → f_X7_whole_57 x1 w = some z → W p l e (headSpec (wsU yX7_whole cX7_whole 2 none) rm_X7_whole).room s m args below meth c H locs 0 0 (MQ below (QV G z) args s 0 0 (gA G)) (F0 m 57 ls [])) := by
  obtain ⟨hx, hb, hml, hown, hts⟩ := id F
  have hg : ∀ q ∈ lwg, q.before args s = true := fun q h => hts q (List.mem_cons_of_mem _ h)
  intro x1 w H locs ls S hl hz
  rw [f_X7_whole_57] at hz
  refine lv_aload_n hx hb dX7_whole_57 rfl (lv_at hl 0 rfl) ?_
  refine lv_iload_n hx hb dX7_whole_58 rfl (lv_at hl 1 rfl) ?_
  refine lv_aload_n hx hb dX7_whole_59 rfl (lv_at hl 0 rfl) ?_
  refine fg_X7_4 hx hb (fun q h => hg q (tl_X7 q h)) hown (hg _ t_fl_X7_34) S (by decide) dX7_whole_60 ?_
  refine lv_isub hx hb dX7_whole_63 ?_
  refine lv_iconst (v := 3) hx hb dX7_whole_64 (by decide) ?_
  refine lv_icmp_le (tgt := 72) hx hb dX7_whole_65 (by decide) (fun c2 => ?_) (fun c2 => ?_)
  · have hz := ipt (c2) hz
    refine lv_iconst (v := 2) hx hb dX7_whole_72 (by decide) ?_
    exact w_X7_whole_73 F hr hlk x1 2 _ _ _ _ S (lv_sub hl [0, 1] rfl) hz
  · have hz := ipf (c2) hz
    refine lv_iconst (v := 5) hx hb dX7_whole_68 (by decide) ?_
    refine lv_goto (tgt := 73) hx hb dX7_whole_69 (by decide) ?_
    exact w_X7_whole_73 F hr hlk x1 5 _ _ _ _ S (lv_sub hl [0, 1] rfl) hz
set_option maxHeartbeats 4000000 in
set_option maxRecDepth 100000 in
theorem w_X7_whole_10 {p : Program} {l : Launch} {e : Env} {s : State} {m : MethodId} {args : Array Value} {below : List Frame} {meth : Method} {c : Code} {G : GG} (F : CallFix p m c cX7_whole 2 s args (wsU yX7_whole cX7_whole 2 none) RX7) (hr : meth.sig.returnType = none) (hlk : meth.locks = false) {z : Unit × GW} : ∀ (n9 : Nat), (∀ (x1 : Int32) (w : GW) (H : Heap) (locs : List Loc) (ls : Array Slot), St G w s H locs → lv_has ls 2 [(0, .ref (gad G 1)), (1, .int x1)] → f_X7_whole_10 n9 x1 w = some z → W p l e (headSpec (wsU yX7_whole cX7_whole 2 none) rm_X7_whole).room s m args below meth c H locs 0 0 (MQ below (QV G z) args s 0 0 (gA G)) (F0 m 10 ls [])) := by
  obtain ⟨hx, hb, hml, hown, hts⟩ := id F
  have hg : ∀ q ∈ lwg, q.before args s = true := fun q h => hts q (List.mem_cons_of_mem _ h)
  intro n9
  induction n9 with
  | zero =>
    intro x1 w H locs ls S hl hz
    rw [f_X7_whole_10] at hz
    cases hz
  | succ n9 ih =>
    intro x1 w H locs ls S hl hz
    rw [f_X7_whole_10] at hz
    refine lv_iload_n hx hb dX7_whole_10 rfl (lv_at hl 1 rfl) ?_
    refine lv_aload_n hx hb dX7_whole_11 rfl (lv_at hl 0 rfl) ?_
    refine fg_X7_1 hx hb (fun q h => hg q (tl_X7 q h)) hown (hg _ t_fl_X7_25) S (by decide) dX7_whole_12 ?_
    refine lv_icmp_ge (tgt := 57) hx hb dX7_whole_15 (by decide) (fun c1 => ?_) (fun c1 => ?_)
    · have hz := ipt (c1) hz
      exact w_X7_whole_57 F hr hlk x1 _ _ _ _ S (lv_sub hl [0, 1] rfl) hz
    · have hz := ipf (c1) hz
      refine lv_aload_n hx hb dX7_whole_18 rfl (lv_at hl 0 rfl) ?_
      refine fg_X7_0 hx hb (fun q h => hg q (tl_X7 q h)) hown (hg _ t_fl_X7_9) S (by decide) dX7_whole_19 ?_
      refine lv_iload_n hx hb dX7_whole_22 rfl (lv_at hl 1 rfl) ?_
      obtain ⟨h3, hz⟩ := ck hz
      refine g_iald hx hb S (isA_11 (by decide)) h3 dX7_whole_23 ?_
      obtain ⟨q4, e5, hz⟩ := bd hz
      refine g_callSb (As := [.int (gI w 2 (ix x1))]) (rest := []) F S (c_X7_isDigit l G (gI w 2 (ix x1))  _ e5) (cw_X7_whole_X7_isDigit_47 hg) rfl hl.1 rfl (Nat.le_of_ble_eq_true rfl) ⟨Nat.zero_le _, Nat.zero_le _⟩ dX7_whole_24 (fun H locs hB6 S => ?_)
      refine lv_if_eq (tgt := 57) hx hb dX7_whole_27 (by decide) (fun c7 => ?_) (fun c7 => ?_)
      · have hz := ipt (c7) hz
        exact w_X7_whole_57 F hr hlk x1 _ _ _ _ S (lv_sub hl [0, 1] rfl) hz
      · have hz := ipf (c7) hz
        refine lv_aload_n hx hb dX7_whole_30 rfl (lv_at hl 0 rfl) ?_
        refine lv_aload_n hx hb dX7_whole_31 rfl (lv_at hl 0 rfl) ?_
        refine fg_X7_6 hx hb (fun q h => hg q (tl_X7 q h)) hown (hg _ t_fl_X7_61) S (by decide) dX7_whole_32 ?_
        refine lv_bipush (v := 10) hx hb dX7_whole_35 (by decide) ?_
        refine lv_imul hx hb dX7_whole_37 ?_
        refine lv_aload_n hx hb dX7_whole_38 rfl (lv_at hl 0 rfl) ?_
        refine fg_X7_0 hx hb (fun q h => hg q (tl_X7 q h)) hown (hg _ t_fl_X7_9) S (by decide) dX7_whole_39 ?_
        refine lv_iload_n hx hb dX7_whole_42 rfl (lv_at hl 1 rfl) ?_
        obtain ⟨h8, hz⟩ := ck hz
        refine g_iald hx hb S (isA_11 (by decide)) h8 dX7_whole_43 ?_
        refine lv_iadd hx hb dX7_whole_44 ?_
        refine lv_bipush (v := 48) hx hb dX7_whole_45 (by decide) ?_
        refine lv_isub hx hb dX7_whole_47 ?_
        refine fp_X7_6 (v := ((((gI q4.2 1 6) * 10) + (gI q4.2 2 (ix x1))) - 48)) hx hb (fun q h => hg q (tl_X7 q h)) hown (hg _ t_fl_X7_61) S (by decide) dX7_whole_48 (fun H locs S => ?_)
        refine lv_iinc (v := (x1 + 1)) (lv' := [(1, .int (x1 + 1)), (0, .ref (gad G 1))]) hx hb dX7_whole_51 hl (k := 1) rfl rfl (by decide) rfl (fun ls hl => ?_)
        refine lv_goto (tgt := 10) hx hb dX7_whole_54 (by decide) ?_
        exact ih (x1 + 1)  _ _ _ _ S (lv_sub hl [1, 0] rfl) hz
set_option maxHeartbeats 4000000 in
set_option maxRecDepth 100000 in
theorem c_X7_whole (l : Launch) (G : GG)   (w : GW) {z : Unit × GW} (hz : f_X7_whole  w = some z) : Met l yX7_whole (wsU yX7_whole cX7_whole 2 none) rm_X7_whole (va_Pc [.ref (gad G 1)] (PreG G w)) (QV G z) 0 0 (gA G) := by
  refine Met.ofW (cc := cX7_whole) (maxL := 2) (ret := none) (by decide) rfl ?_
  intro p e s m args below meth c s₁ B hml hv
  obtain ⟨rfl, S⟩ := hv
  have F : CallFix p m c cX7_whole 2 s _ (wsU yX7_whole cX7_whole 2 none) RX7 := ⟨B.exec, B.bytes, hml, findClass_of_methodNamed B.named, atoms_spec B.pre⟩
  have hr := B.returns
  have hlk := B.notSynchronized
  obtain ⟨hx, hb, -, hown, hts⟩ := id F
  have hg : ∀ q ∈ lwg, q.before _ s = true := fun q h => hts q (List.mem_cons_of_mem _ h)
  refine g_entry (Nat.le_of_ble_eq_true rfl) (fun ls hl => ?_)
  have hl : lv_has ls 2 [(0, .ref (gad G 1))] := hl
  have S : St G w s s.heap [] := S
  generalize s.heap = H at S ⊢
  generalize ([] : List Loc) = locs at S ⊢
  rw [f_X7_whole] at hz
  refine lv_aload_n hx hb dX7_whole_0 rfl (lv_at hl 0 rfl) ?_
  refine fg_X7_4 hx hb (fun q h => hg q (tl_X7 q h)) hown (hg _ t_fl_X7_34) S (by decide) dX7_whole_1 ?_
  refine lv_istore_n (lv' := [(1, .int (gI w 1 4)), (0, .ref (gad G 1))]) hx hb dX7_whole_4 rfl hl (by decide) rfl (fun ls hl => ?_)
  refine lv_aload_n hx hb dX7_whole_5 rfl (lv_at hl 1 rfl) ?_
  refine lv_iconst (v := 0) hx hb dX7_whole_6 (by decide) ?_
  refine fp_X7_6 (v := 0) hx hb (fun q h => hg q (tl_X7 q h)) hown (hg _ t_fl_X7_61) S (by decide) dX7_whole_7 (fun H locs S => ?_)
  exact w_X7_whole_10 F hr hlk fu (gI w 1 4) _ _ _ _ S (lv_sub hl [1, 0] rfl) hz
noncomputable def f_X7_advance_121  (x1 : Int32) (t0 : Int32) (w : GW) : Option (Unit × GW) :=
  some ((), (sI (sI w 1 5 t0) 1 2 (x1 + 1)))
noncomputable def f_X7_advance_30  (x1 : Int32) (w : GW) : Option (Unit × GW) :=
  if x1 < (gI (sI w 1 4 x1) 1 1) then
    if inb x1 900 then
    (f_X7_isLetter (gI (sI w 1 4 x1) 2 (ix x1)) (sI w 1 4 x1)).bind fun q4 =>
    if q4.1 = 0 then
      if inb x1 900 then
      (f_X7_isDigit (gI q4.2 2 (ix x1)) q4.2).bind fun q9 =>
      if q9.1 = 0 then
        if inb x1 900 then
        if (gI q9.2 2 (ix x1)) = 59 then
          f_X7_advance_121 x1 3 q9.2
        else
          if inb x1 900 then
          if (gI q9.2 2 (ix x1)) = 44 then
            f_X7_advance_121 x1 4 q9.2
          else
            f_X7_advance_121 x1 5 q9.2
          else none
        else none
      else
        (f_X7_whole q9.2).bind fun q17 =>
        some ((), q17.2)
      else none
    else
      (f_X7_word q4.2).bind fun q19 =>
      some ((), q19.2)
    else none
  else
    some ((), (sI (sI w 1 4 x1) 1 5 0))
noncomputable def f_X7_advance_5  : Nat → Int32 → GW → Option (Unit × GW)
  | 0, _, _ => none
  | n9 + 1, x1, w =>
    if (gI w 1 1) ≤ x1 then
      f_X7_advance_30 x1 w
    else
      if inb x1 900 then
      if (gI w 2 (ix x1)) = 32 then
        f_X7_advance_5 n9 (x1 + 1) w
      else
        f_X7_advance_30 x1 w
      else none
noncomputable def f_X7_advance  (w : GW) : Option (Unit × GW) :=
  f_X7_advance_5 fu (gI w 1 2) w
set_option maxHeartbeats 4000000 in
set_option maxRecDepth 100000 in
theorem w_X7_advance_121 {p : Program} {l : Launch} {e : Env} {s : State} {m : MethodId} {args : Array Value} {below : List Frame} {meth : Method} {c : Code} {G : GG} (F : CallFix p m c cX7_advance 2 s args (wsU yX7_advance cX7_advance 2 none) RX7) (hr : meth.sig.returnType = none) (hlk : meth.locks = false) {z : Unit × GW} : (∀ (x1 : Int32) (t0 : Int32) (w : GW) (H : Heap) (locs : List Loc) (ls : Array Slot), St G w s H locs → lv_has ls 2 [(0, .ref (gad G 1)), (1, .int x1)] → f_X7_advance_121 x1 t0 w = some z → W p l e (headSpec (wsU yX7_advance cX7_advance 2 none) rm_X7_advance).room s m args below meth c H locs 0 0 (MQ below (QV G z) args s 0 0 (gA G)) (F0 m 121 ls [.int t0, .ref (gad G 1)])) := by
  obtain ⟨hx, hb, hml, hown, hts⟩ := id F
  have hg : ∀ q ∈ lwg, q.before args s = true := fun q h => hts q (List.mem_cons_of_mem _ h)
  intro x1 t0 w H locs ls S hl hz
  rw [f_X7_advance_121] at hz
  refine fp_X7_5 (v := t0) hx hb (fun q h => hg q (tl_X7 q h)) hown (hg _ t_fl_X7_37) S (by decide) dX7_advance_121 (fun H locs S => ?_)
  refine lv_aload_n hx hb dX7_advance_124 rfl (lv_at hl 0 rfl) ?_
  refine lv_iload_n hx hb dX7_advance_125 rfl (lv_at hl 1 rfl) ?_
  refine lv_iconst (v := 1) hx hb dX7_advance_126 (by decide) ?_
  refine lv_iadd hx hb dX7_advance_127 ?_
  refine fp_X7_2 (v := (x1 + 1)) hx hb (fun q h => hg q (tl_X7 q h)) hown (hg _ t_fl_X7_28) S (by decide) dX7_advance_128 (fun H locs S => ?_)
  exact g_retv hx hb hr hlk S hz dX7_advance_131
set_option maxHeartbeats 4000000 in
set_option maxRecDepth 100000 in
theorem w_X7_advance_30 {p : Program} {l : Launch} {e : Env} {s : State} {m : MethodId} {args : Array Value} {below : List Frame} {meth : Method} {c : Code} {G : GG} (F : CallFix p m c cX7_advance 2 s args (wsU yX7_advance cX7_advance 2 none) RX7) (hr : meth.sig.returnType = none) (hlk : meth.locks = false) {z : Unit × GW} : (∀ (x1 : Int32) (w : GW) (H : Heap) (locs : List Loc) (ls : Array Slot), St G w s H locs → lv_has ls 2 [(0, .ref (gad G 1)), (1, .int x1)] → f_X7_advance_30 x1 w = some z → W p l e (headSpec (wsU yX7_advance cX7_advance 2 none) rm_X7_advance).room s m args below meth c H locs 0 0 (MQ below (QV G z) args s 0 0 (gA G)) (F0 m 30 ls [])) := by
  obtain ⟨hx, hb, hml, hown, hts⟩ := id F
  have hg : ∀ q ∈ lwg, q.before args s = true := fun q h => hts q (List.mem_cons_of_mem _ h)
  intro x1 w H locs ls S hl hz
  rw [f_X7_advance_30] at hz
  refine lv_aload_n hx hb dX7_advance_30 rfl (lv_at hl 0 rfl) ?_
  refine lv_iload_n hx hb dX7_advance_31 rfl (lv_at hl 1 rfl) ?_
  refine fp_X7_4 (v := x1) hx hb (fun q h => hg q (tl_X7 q h)) hown (hg _ t_fl_X7_34) S (by decide) dX7_advance_32 (fun H locs S => ?_)
  refine lv_iload_n hx hb dX7_advance_35 rfl (lv_at hl 1 rfl) ?_
  refine lv_aload_n hx hb dX7_advance_36 rfl (lv_at hl 0 rfl) ?_
  refine fg_X7_1 hx hb (fun q h => hg q (tl_X7 q h)) hown (hg _ t_fl_X7_25) S (by decide) dX7_advance_37 ?_
  refine lv_icmp_lt (tgt := 51) hx hb dX7_advance_40 (by decide) (fun c2 => ?_) (fun c2 => ?_)
  · have hz := ipt (c2) hz
    refine lv_aload_n hx hb dX7_advance_51 rfl (lv_at hl 0 rfl) ?_
    refine fg_X7_0 hx hb (fun q h => hg q (tl_X7 q h)) hown (hg _ t_fl_X7_9) S (by decide) dX7_advance_52 ?_
    refine lv_iload_n hx hb dX7_advance_55 rfl (lv_at hl 1 rfl) ?_
    obtain ⟨h3, hz⟩ := ck hz
    refine g_iald hx hb S (isA_11 (by decide)) h3 dX7_advance_56 ?_
    obtain ⟨q4, e5, hz⟩ := bd hz
    refine g_callSb (As := [.int (gI (sI w 1 4 x1) 2 (ix x1))]) (rest := []) F S (c_X7_isLetter l G (gI (sI w 1 4 x1) 2 (ix x1))  _ e5) (cw_X7_advance_X7_isLetter_40 hg) rfl hl.1 rfl (Nat.le_of_ble_eq_true rfl) ⟨Nat.zero_le _, Nat.zero_le _⟩ dX7_advance_57 (fun H locs hB6 S => ?_)
    refine lv_if_eq (tgt := 70) hx hb dX7_advance_60 (by decide) (fun c7 => ?_) (fun c7 => ?_)
    · have hz := ipt (c7) hz
      refine lv_aload_n hx hb dX7_advance_70 rfl (lv_at hl 0 rfl) ?_
      refine fg_X7_0 hx hb (fun q h => hg q (tl_X7 q h)) hown (hg _ t_fl_X7_9) S (by decide) dX7_advance_71 ?_
      refine lv_iload_n hx hb dX7_advance_74 rfl (lv_at hl 1 rfl) ?_
      obtain ⟨h8, hz⟩ := ck hz
      refine g_iald hx hb S (isA_11 (by decide)) h8 dX7_advance_75 ?_
      obtain ⟨q9, e10, hz⟩ := bd hz
      refine g_callSb (As := [.int (gI q4.2 2 (ix x1))]) (rest := []) F S (c_X7_isDigit l G (gI q4.2 2 (ix x1))  _ e10) (cw_X7_advance_X7_isDigit_47 hg) rfl hl.1 rfl (Nat.le_of_ble_eq_true rfl) ⟨Nat.zero_le _, Nat.zero_le _⟩ dX7_advance_76 (fun H locs hB11 S => ?_)
      refine lv_if_eq (tgt := 89) hx hb dX7_advance_79 (by decide) (fun c12 => ?_) (fun c12 => ?_)
      · have hz := ipt (c12) hz
        refine lv_aload_n hx hb dX7_advance_89 rfl (lv_at hl 0 rfl) ?_
        refine lv_aload_n hx hb dX7_advance_90 rfl (lv_at hl 0 rfl) ?_
        refine fg_X7_0 hx hb (fun q h => hg q (tl_X7 q h)) hown (hg _ t_fl_X7_9) S (by decide) dX7_advance_91 ?_
        refine lv_iload_n hx hb dX7_advance_94 rfl (lv_at hl 1 rfl) ?_
        obtain ⟨h13, hz⟩ := ck hz
        refine g_iald hx hb S (isA_11 (by decide)) h13 dX7_advance_95 ?_
        refine lv_bipush (v := 59) hx hb dX7_advance_96 (by decide) ?_
        refine lv_icmp_ne (tgt := 105) hx hb dX7_advance_98 (by decide) (fun c14 => ?_) (fun c14 => ?_)
        · have hz := ipf (c14) hz
          refine lv_aload_n hx hb dX7_advance_105 rfl (lv_at hl 0 rfl) ?_
          refine fg_X7_0 hx hb (fun q h => hg q (tl_X7 q h)) hown (hg _ t_fl_X7_9) S (by decide) dX7_advance_106 ?_
          refine lv_iload_n hx hb dX7_advance_109 rfl (lv_at hl 1 rfl) ?_
          obtain ⟨h15, hz⟩ := ck hz
          refine g_iald hx hb S (isA_11 (by decide)) h15 dX7_advance_110 ?_
          refine lv_bipush (v := 44) hx hb dX7_advance_111 (by decide) ?_
          refine lv_icmp_ne (tgt := 120) hx hb dX7_advance_113 (by decide) (fun c16 => ?_) (fun c16 => ?_)
          · have hz := ipf (c16) hz
            refine lv_iconst (v := 5) hx hb dX7_advance_120 (by decide) ?_
            exact w_X7_advance_121 F hr hlk x1 5 _ _ _ _ S (lv_sub hl [0, 1] rfl) hz
          · have hz := ipt (c16) hz
            refine lv_iconst (v := 4) hx hb dX7_advance_116 (by decide) ?_
            refine lv_goto (tgt := 121) hx hb dX7_advance_117 (by decide) ?_
            exact w_X7_advance_121 F hr hlk x1 4 _ _ _ _ S (lv_sub hl [0, 1] rfl) hz
        · have hz := ipt (c14) hz
          refine lv_iconst (v := 3) hx hb dX7_advance_101 (by decide) ?_
          refine lv_goto (tgt := 121) hx hb dX7_advance_102 (by decide) ?_
          exact w_X7_advance_121 F hr hlk x1 3 _ _ _ _ S (lv_sub hl [0, 1] rfl) hz
      · have hz := ipf (c12) hz
        refine lv_aload_n hx hb dX7_advance_82 rfl (lv_at hl 0 rfl) ?_
        obtain ⟨q17, e18, hz⟩ := bd hz
        refine g_callVv (As := []) (rest := []) F S (c_X7_whole l G   _ e18) (cw_X7_advance_X7_whole_50 hg) (S.obj (by decide) (by decide) rfl (oc_X7 _ _ _ (by decide))) rfl hl.1 rfl (Nat.le_of_ble_eq_true rfl) ⟨Nat.zero_le _, Nat.zero_le _⟩ dX7_advance_83 (fun H locs  S => ?_)
        refine lv_goto (tgt := 131) hx hb dX7_advance_86 (by decide) ?_
        exact g_retv hx hb hr hlk S hz dX7_advance_131
    · have hz := ipf (c7) hz
      refine lv_aload_n hx hb dX7_advance_63 rfl (lv_at hl 0 rfl) ?_
      obtain ⟨q19, e20, hz⟩ := bd hz
      refine g_callVv (As := []) (rest := []) F S (c_X7_word l G   _ e20) (cw_X7_advance_X7_word_44 hg) (S.obj (by decide) (by decide) rfl (oc_X7 _ _ _ (by decide))) rfl hl.1 rfl (Nat.le_of_ble_eq_true rfl) ⟨Nat.zero_le _, Nat.zero_le _⟩ dX7_advance_64 (fun H locs  S => ?_)
      refine lv_goto (tgt := 131) hx hb dX7_advance_67 (by decide) ?_
      exact g_retv hx hb hr hlk S hz dX7_advance_131
  · have hz := ipf (c2) hz
    refine lv_aload_n hx hb dX7_advance_43 rfl (lv_at hl 0 rfl) ?_
    refine lv_iconst (v := 0) hx hb dX7_advance_44 (by decide) ?_
    refine fp_X7_5 (v := 0) hx hb (fun q h => hg q (tl_X7 q h)) hown (hg _ t_fl_X7_37) S (by decide) dX7_advance_45 (fun H locs S => ?_)
    refine lv_goto (tgt := 131) hx hb dX7_advance_48 (by decide) ?_
    exact g_retv hx hb hr hlk S hz dX7_advance_131
set_option maxHeartbeats 4000000 in
set_option maxRecDepth 100000 in
theorem w_X7_advance_5 {p : Program} {l : Launch} {e : Env} {s : State} {m : MethodId} {args : Array Value} {below : List Frame} {meth : Method} {c : Code} {G : GG} (F : CallFix p m c cX7_advance 2 s args (wsU yX7_advance cX7_advance 2 none) RX7) (hr : meth.sig.returnType = none) (hlk : meth.locks = false) {z : Unit × GW} : ∀ (n9 : Nat), (∀ (x1 : Int32) (w : GW) (H : Heap) (locs : List Loc) (ls : Array Slot), St G w s H locs → lv_has ls 2 [(0, .ref (gad G 1)), (1, .int x1)] → f_X7_advance_5 n9 x1 w = some z → W p l e (headSpec (wsU yX7_advance cX7_advance 2 none) rm_X7_advance).room s m args below meth c H locs 0 0 (MQ below (QV G z) args s 0 0 (gA G)) (F0 m 5 ls [])) := by
  obtain ⟨hx, hb, hml, hown, hts⟩ := id F
  have hg : ∀ q ∈ lwg, q.before args s = true := fun q h => hts q (List.mem_cons_of_mem _ h)
  intro n9
  induction n9 with
  | zero =>
    intro x1 w H locs ls S hl hz
    rw [f_X7_advance_5] at hz
    cases hz
  | succ n9 ih =>
    intro x1 w H locs ls S hl hz
    rw [f_X7_advance_5] at hz
    refine lv_iload_n hx hb dX7_advance_5 rfl (lv_at hl 1 rfl) ?_
    refine lv_aload_n hx hb dX7_advance_6 rfl (lv_at hl 0 rfl) ?_
    refine fg_X7_1 hx hb (fun q h => hg q (tl_X7 q h)) hown (hg _ t_fl_X7_25) S (by decide) dX7_advance_7 ?_
    refine lv_icmp_ge (tgt := 30) hx hb dX7_advance_10 (by decide) (fun c1 => ?_) (fun c1 => ?_)
    · have hz := ipt (c1) hz
      exact w_X7_advance_30 F hr hlk x1 _ _ _ _ S (lv_sub hl [0, 1] rfl) hz
    · have hz := ipf (c1) hz
      refine lv_aload_n hx hb dX7_advance_13 rfl (lv_at hl 0 rfl) ?_
      refine fg_X7_0 hx hb (fun q h => hg q (tl_X7 q h)) hown (hg _ t_fl_X7_9) S (by decide) dX7_advance_14 ?_
      refine lv_iload_n hx hb dX7_advance_17 rfl (lv_at hl 1 rfl) ?_
      obtain ⟨h21, hz⟩ := ck hz
      refine g_iald hx hb S (isA_11 (by decide)) h21 dX7_advance_18 ?_
      refine lv_bipush (v := 32) hx hb dX7_advance_19 (by decide) ?_
      refine lv_icmp_ne (tgt := 30) hx hb dX7_advance_21 (by decide) (fun c22 => ?_) (fun c22 => ?_)
      · have hz := ipf (c22) hz
        exact w_X7_advance_30 F hr hlk x1 _ _ _ _ S (lv_sub hl [0, 1] rfl) hz
      · have hz := ipt (c22) hz
        refine lv_iinc (v := (x1 + 1)) (lv' := [(1, .int (x1 + 1)), (0, .ref (gad G 1))]) hx hb dX7_advance_24 hl (k := 1) rfl rfl (by decide) rfl (fun ls hl => ?_)
        refine lv_goto (tgt := 5) hx hb dX7_advance_27 (by decide) ?_
        exact ih (x1 + 1)  _ _ _ _ S (lv_sub hl [1, 0] rfl) hz
set_option maxHeartbeats 4000000 in
set_option maxRecDepth 100000 in
theorem c_X7_advance (l : Launch) (G : GG)   (w : GW) {z : Unit × GW} (hz : f_X7_advance  w = some z) : Met l yX7_advance (wsU yX7_advance cX7_advance 2 none) rm_X7_advance (va_Pc [.ref (gad G 1)] (PreG G w)) (QV G z) 0 0 (gA G) := by
  refine Met.ofW (cc := cX7_advance) (maxL := 2) (ret := none) (by decide) rfl ?_
  intro p e s m args below meth c s₁ B hml hv
  obtain ⟨rfl, S⟩ := hv
  have F : CallFix p m c cX7_advance 2 s _ (wsU yX7_advance cX7_advance 2 none) RX7 := ⟨B.exec, B.bytes, hml, findClass_of_methodNamed B.named, atoms_spec B.pre⟩
  have hr := B.returns
  have hlk := B.notSynchronized
  obtain ⟨hx, hb, -, hown, hts⟩ := id F
  have hg : ∀ q ∈ lwg, q.before _ s = true := fun q h => hts q (List.mem_cons_of_mem _ h)
  refine g_entry (Nat.le_of_ble_eq_true rfl) (fun ls hl => ?_)
  have hl : lv_has ls 2 [(0, .ref (gad G 1))] := hl
  have S : St G w s s.heap [] := S
  generalize s.heap = H at S ⊢
  generalize ([] : List Loc) = locs at S ⊢
  rw [f_X7_advance] at hz
  refine lv_aload_n hx hb dX7_advance_0 rfl (lv_at hl 0 rfl) ?_
  refine fg_X7_2 hx hb (fun q h => hg q (tl_X7 q h)) hown (hg _ t_fl_X7_28) S (by decide) dX7_advance_1 ?_
  refine lv_istore_n (lv' := [(1, .int (gI w 1 2)), (0, .ref (gad G 1))]) hx hb dX7_advance_4 rfl hl (by decide) rfl (fun ls hl => ?_)
  exact w_X7_advance_5 F hr hlk fu (gI w 1 2) _ _ _ _ S (lv_sub hl [1, 0] rfl) hz
noncomputable def f_X7_begin (x1 : Int32) (w : GW) : Option (Unit × GW) :=
  (f_X7_advance (sI (sI w 1 1 (jmin x1 900)) 1 2 0)).bind fun q1 =>
  some ((), q1.2)
set_option maxHeartbeats 4000000 in
set_option maxRecDepth 100000 in
theorem c_X7_begin (l : Launch) (G : GG) (x1 : Int32)  (w : GW) {z : Unit × GW} (hz : f_X7_begin x1 w = some z) : Met l yX7_begin (wsU yX7_begin cX7_begin 2 none) rm_X7_begin (va_Pc [.ref (gad G 1), .int x1] (PreG G w)) (QV G z) 0 0 (gA G) := by
  refine Met.ofW (cc := cX7_begin) (maxL := 2) (ret := none) (by decide) rfl ?_
  intro p e s m args below meth c s₁ B hml hv
  obtain ⟨rfl, S⟩ := hv
  have F : CallFix p m c cX7_begin 2 s _ (wsU yX7_begin cX7_begin 2 none) RX7 := ⟨B.exec, B.bytes, hml, findClass_of_methodNamed B.named, atoms_spec B.pre⟩
  have hr := B.returns
  have hlk := B.notSynchronized
  obtain ⟨hx, hb, -, hown, hts⟩ := id F
  have hg : ∀ q ∈ lwg, q.before _ s = true := fun q h => hts q (List.mem_cons_of_mem _ h)
  refine g_entry (Nat.le_of_ble_eq_true rfl) (fun ls hl => ?_)
  have hl : lv_has ls 2 [(0, .ref (gad G 1)), (1, .int x1)] := hl
  have S : St G w s s.heap [] := S
  generalize s.heap = H at S ⊢
  generalize ([] : List Loc) = locs at S ⊢
  rw [f_X7_begin] at hz
  refine lv_aload_n hx hb dX7_begin_0 rfl (lv_at hl 0 rfl) ?_
  refine lv_iload_n hx hb dX7_begin_1 rfl (lv_at hl 1 rfl) ?_
  refine lv_sipush (v := 900) hx hb dX7_begin_2 (by decide) ?_
  refine va_mmin hx hb (hml.trans hl.1.symm) hown (hg _ t_ml_X7_19) (hg _ t_st_J9_min_7cf53) (hg _ t_in_J9) (hg _ t_co_J9_min_7cf53) (Nat.le_of_ble_eq_true rfl) (Nat.le_of_ble_eq_true rfl) (Nat.zero_le _) (Nat.zero_le _) dX7_begin_5 ?_
  refine g_toi (v := (jmin x1 900)) rfl ?_
  refine fp_X7_1 (v := (jmin x1 900)) hx hb (fun q h => hg q (tl_X7 q h)) hown (hg _ t_fl_X7_25) S (by decide) dX7_begin_8 (fun H locs S => ?_)
  refine lv_aload_n hx hb dX7_begin_11 rfl (lv_at hl 0 rfl) ?_
  refine lv_iconst (v := 0) hx hb dX7_begin_12 (by decide) ?_
  refine fp_X7_2 (v := 0) hx hb (fun q h => hg q (tl_X7 q h)) hown (hg _ t_fl_X7_28) S (by decide) dX7_begin_13 (fun H locs S => ?_)
  refine lv_aload_n hx hb dX7_begin_16 rfl (lv_at hl 0 rfl) ?_
  obtain ⟨q1, e2, hz⟩ := bd hz
  refine g_callVv (As := []) (rest := []) F S (c_X7_advance l G   _ e2) (cw_X7_begin_X7_advance_31 hg) (S.obj (by decide) (by decide) rfl (oc_X7 _ _ _ (by decide))) rfl hl.1 rfl (Nat.le_of_ble_eq_true rfl) ⟨Nat.zero_le _, Nat.zero_le _⟩ dX7_begin_17 (fun H locs  S => ?_)
  exact g_retv hx hb hr hlk S hz dX7_begin_20
noncomputable def f_X7_says_28  : Nat → Nat → Int32 → GW → Option (Int32 × GW)
  | 0, _, _, _ => none
  | n9 + 1, u1, x2, w =>
    if (Int32.ofNat (sLen u1)) ≤ x2 then
      some (1, w)
    else
      if inb ((gI w 1 4) + x2) 900 then
      if inb x2 (sLen u1) then
      if (gI w 2 (ix ((gI w 1 4) + x2))) = (sCh u1 (ix x2)) then
        f_X7_says_28 n9 u1 (x2 + 1) w
      else
        some (0, w)
      else none
      else none
noncomputable def f_X7_says (u1 : Nat) (w : GW) : Option (Int32 × GW) :=
  if (gI w 1 5) = 1 then
    if ((gI w 1 2) - (gI w 1 4)) = (Int32.ofNat (sLen u1)) then
      f_X7_says_28 fu u1 0 w
    else
      some (0, w)
  else
    some (0, w)
set_option maxHeartbeats 4000000 in
set_option maxRecDepth 100000 in
theorem w_X7_says_28 {p : Program} {l : Launch} {e : Env} {s : State} {m : MethodId} {args : Array Value} {below : List Frame} {meth : Method} {c : Code} {G : GG} (F : CallFix p m c cX7_says 3 s args (wsU yX7_says cX7_says 3 (some .boolean)) RX7) (hr : meth.sig.returnType = (some .boolean)) (hlk : meth.locks = false) {z : Int32 × GW} : ∀ (n9 : Nat), (∀ (u1 : Nat) (x2 : Int32) (hu1 : u1 < 34) (w : GW) (H : Heap) (locs : List Loc) (ls : Array Slot), St G w s H locs → lv_has ls 3 [(0, .ref (gad G 1)), (1, .ref (gK G u1)), (2, .int x2)] → f_X7_says_28 n9 u1 x2 w = some z → W p l e (headSpec (wsU yX7_says cX7_says 3 (some .boolean)) rm_X7_says).room s m args below meth c H locs 0 0 (MQ below (QB G z) args s 0 0 (gA G)) (F0 m 28 ls [])) := by
  obtain ⟨hx, hb, hml, hown, hts⟩ := id F
  have hg : ∀ q ∈ lwg, q.before args s = true := fun q h => hts q (List.mem_cons_of_mem _ h)
  intro n9
  induction n9 with
  | zero =>
    intro u1 x2 hu1 w H locs ls S hl hz
    rw [f_X7_says_28] at hz
    cases hz
  | succ n9 ih =>
    intro u1 x2 hu1 w H locs ls S hl hz
    rw [f_X7_says_28] at hz
    refine lv_iload_n hx hb dX7_says_28 rfl (lv_at hl 2 rfl) ?_
    refine lv_aload_n hx hb dX7_says_29 rfl (lv_at hl 1 rfl) ?_
    refine g_callVi (As := []) (rest := [.int x2]) F S (c_slen l G u1 hu1 w) (cw_X7_says_J0_length_8abf5_64 hg) (S.str hu1) rfl hl.1 rfl (Nat.le_of_ble_eq_true rfl) ⟨Nat.zero_le _, Nat.zero_le _⟩ dX7_says_30 (fun H locs S => ?_)
    refine lv_icmp_ge (tgt := 63) hx hb dX7_says_33 (by decide) (fun c3 => ?_) (fun c3 => ?_)
    · have hz := ipt (c3) hz
      refine lv_iconst (v := 1) hx hb dX7_says_63 (by decide) ?_
      exact g_retb hx hb hr hlk S isB_1 hz dX7_says_64
    · have hz := ipf (c3) hz
      refine lv_aload_n hx hb dX7_says_36 rfl (lv_at hl 0 rfl) ?_
      refine fg_X7_0 hx hb (fun q h => hg q (tl_X7 q h)) hown (hg _ t_fl_X7_9) S (by decide) dX7_says_37 ?_
      refine lv_aload_n hx hb dX7_says_40 rfl (lv_at hl 0 rfl) ?_
      refine fg_X7_4 hx hb (fun q h => hg q (tl_X7 q h)) hown (hg _ t_fl_X7_34) S (by decide) dX7_says_41 ?_
      refine lv_iload_n hx hb dX7_says_44 rfl (lv_at hl 2 rfl) ?_
      refine lv_iadd hx hb dX7_says_45 ?_
      obtain ⟨h4, hz⟩ := ck hz
      refine g_iald hx hb S (isA_11 (by decide)) h4 dX7_says_46 ?_
      refine lv_aload_n hx hb dX7_says_47 rfl (lv_at hl 1 rfl) ?_
      refine lv_iload_n hx hb dX7_says_48 rfl (lv_at hl 2 rfl) ?_
      obtain ⟨h5, hz⟩ := ck hz
      refine g_callVi (As := [.int x2]) (rest := [.int (gI w 2 (ix ((gI w 1 4) + x2)))]) F S (c_schar l G u1 x2 hu1 h5 w) (cw_X7_says_J0_charAt_5068e_70 hg) (S.str hu1) rfl hl.1 rfl (Nat.le_of_ble_eq_true rfl) ⟨Nat.zero_le _, Nat.zero_le _⟩ dX7_says_49 (fun H locs S => ?_)
      refine lv_icmp_eq (tgt := 57) hx hb dX7_says_52 (by decide) (fun c6 => ?_) (fun c6 => ?_)
      · have hz := ipt (c6) hz
        refine lv_iinc (v := (x2 + 1)) (lv' := [(2, .int (x2 + 1)), (0, .ref (gad G 1)), (1, .ref (gK G u1))]) hx hb dX7_says_57 hl (k := 2) rfl rfl (by decide) rfl (fun ls hl => ?_)
        refine lv_goto (tgt := 28) hx hb dX7_says_60 (by decide) ?_
        exact ih u1 (x2 + 1) hu1 _ _ _ _ S (lv_sub hl [1, 2, 0] rfl) hz
      · have hz := ipf (c6) hz
        refine lv_iconst (v := 0) hx hb dX7_says_55 (by decide) ?_
        exact g_retb hx hb hr hlk S isB_0 hz dX7_says_56
set_option maxHeartbeats 4000000 in
set_option maxRecDepth 100000 in
theorem c_X7_says (l : Launch) (G : GG) (u1 : Nat) (hu1 : u1 < 34) (w : GW) {z : Int32 × GW} (hz : f_X7_says u1 w = some z) : Met l yX7_says (wsU yX7_says cX7_says 3 (some .boolean)) rm_X7_says (va_Pc [.ref (gad G 1), .ref (gK G u1)] (PreG G w)) (QB G z) 0 0 (gA G) := by
  refine Met.ofW (cc := cX7_says) (maxL := 3) (ret := (some .boolean)) (by decide) rfl ?_
  intro p e s m args below meth c s₁ B hml hv
  obtain ⟨rfl, S⟩ := hv
  have F : CallFix p m c cX7_says 3 s _ (wsU yX7_says cX7_says 3 (some .boolean)) RX7 := ⟨B.exec, B.bytes, hml, findClass_of_methodNamed B.named, atoms_spec B.pre⟩
  have hr := B.returns
  have hlk := B.notSynchronized
  obtain ⟨hx, hb, -, hown, hts⟩ := id F
  have hg : ∀ q ∈ lwg, q.before _ s = true := fun q h => hts q (List.mem_cons_of_mem _ h)
  refine g_entry (Nat.le_of_ble_eq_true rfl) (fun ls hl => ?_)
  have hl : lv_has ls 3 [(0, .ref (gad G 1)), (1, .ref (gK G u1))] := hl
  have S : St G w s s.heap [] := S
  generalize s.heap = H at S ⊢
  generalize ([] : List Loc) = locs at S ⊢
  rw [f_X7_says] at hz
  refine lv_aload_n hx hb dX7_says_0 rfl (lv_at hl 0 rfl) ?_
  refine fg_X7_5 hx hb (fun q h => hg q (tl_X7 q h)) hown (hg _ t_fl_X7_37) S (by decide) dX7_says_1 ?_
  refine lv_iconst (v := 1) hx hb dX7_says_4 (by decide) ?_
  refine lv_icmp_ne (tgt := 24) hx hb dX7_says_5 (by decide) (fun c1 => ?_) (fun c1 => ?_)
  · have hz := ipf (c1) hz
    refine lv_iconst (v := 0) hx hb dX7_says_24 (by decide) ?_
    exact g_retb hx hb hr hlk S isB_0 hz dX7_says_25
  · have hz := ipt (c1) hz
    refine lv_aload_n hx hb dX7_says_8 rfl (lv_at hl 0 rfl) ?_
    refine fg_X7_2 hx hb (fun q h => hg q (tl_X7 q h)) hown (hg _ t_fl_X7_28) S (by decide) dX7_says_9 ?_
    refine lv_aload_n hx hb dX7_says_12 rfl (lv_at hl 0 rfl) ?_
    refine fg_X7_4 hx hb (fun q h => hg q (tl_X7 q h)) hown (hg _ t_fl_X7_34) S (by decide) dX7_says_13 ?_
    refine lv_isub hx hb dX7_says_16 ?_
    refine lv_aload_n hx hb dX7_says_17 rfl (lv_at hl 1 rfl) ?_
    refine g_callVi (As := []) (rest := [.int ((gI w 1 2) - (gI w 1 4))]) F S (c_slen l G u1 hu1 w) (cw_X7_says_J0_length_8abf5_64 hg) (S.str hu1) rfl hl.1 rfl (Nat.le_of_ble_eq_true rfl) ⟨Nat.zero_le _, Nat.zero_le _⟩ dX7_says_18 (fun H locs S => ?_)
    refine lv_icmp_eq (tgt := 26) hx hb dX7_says_21 (by decide) (fun c2 => ?_) (fun c2 => ?_)
    · have hz := ipt (c2) hz
      refine lv_iconst (v := 0) hx hb dX7_says_26 (by decide) ?_
      refine lv_istore_n (lv' := [(2, .int 0), (0, .ref (gad G 1)), (1, .ref (gK G u1))]) hx hb dX7_says_27 rfl hl (by decide) rfl (fun ls hl => ?_)
      exact w_X7_says_28 F hr hlk fu u1 0 hu1 _ _ _ _ S (lv_sub hl [1, 2, 0] rfl) hz
    · have hz := ipf (c2) hz
      refine lv_iconst (v := 0) hx hb dX7_says_24 (by decide) ?_
      exact g_retb hx hb hr hlk S isB_0 hz dX7_says_25
noncomputable def f_X6_wrong (x1 : Int32) (w : GW) : Option (Int32 × GW) :=
  some (0, (sI (sI w 3 3 x1) 3 4 (gI (sI w 3 3 x1) 1 4)))
set_option maxHeartbeats 4000000 in
set_option maxRecDepth 100000 in
theorem c_X6_wrong (l : Launch) (G : GG) (x1 : Int32)  (w : GW) {z : Int32 × GW} (hz : f_X6_wrong x1 w = some z) : Met l yX6_wrong (wsU yX6_wrong cX6_wrong 2 (some .boolean)) rm_X6_wrong (va_Pc [.ref (gad G 3), .int x1] (PreG G w)) (QB G z) 0 0 (gA G) := by
  refine Met.ofW (cc := cX6_wrong) (maxL := 2) (ret := (some .boolean)) (by decide) rfl ?_
  intro p e s m args below meth c s₁ B hml hv
  obtain ⟨rfl, S⟩ := hv
  have F : CallFix p m c cX6_wrong 2 s _ (wsU yX6_wrong cX6_wrong 2 (some .boolean)) RX6 := ⟨B.exec, B.bytes, hml, findClass_of_methodNamed B.named, atoms_spec B.pre⟩
  have hr := B.returns
  have hlk := B.notSynchronized
  obtain ⟨hx, hb, -, hown, hts⟩ := id F
  have hg : ∀ q ∈ lwg, q.before _ s = true := fun q h => hts q (List.mem_cons_of_mem _ h)
  refine g_entry (Nat.le_of_ble_eq_true rfl) (fun ls hl => ?_)
  have hl : lv_has ls 2 [(0, .ref (gad G 3)), (1, .int x1)] := hl
  have S : St G w s s.heap [] := S
  generalize s.heap = H at S ⊢
  generalize ([] : List Loc) = locs at S ⊢
  rw [f_X6_wrong] at hz
  refine lv_aload_n hx hb dX6_wrong_0 rfl (lv_at hl 0 rfl) ?_
  refine lv_iload_n hx hb dX6_wrong_1 rfl (lv_at hl 1 rfl) ?_
  refine fp_X6_3 (v := x1) hx hb (fun q h => hg q (tl_X6 q h)) hown (hg _ t_fl_X6_25) S (by decide) dX6_wrong_2 (fun H locs S => ?_)
  refine lv_aload_n hx hb dX6_wrong_5 rfl (lv_at hl 0 rfl) ?_
  refine lv_aload_n hx hb dX6_wrong_6 rfl (lv_at hl 0 rfl) ?_
  refine fg_X6_0 hx hb (fun q h => hg q (tl_X6 q h)) hown (hg _ t_fl_X6_9) S (by decide) dX6_wrong_7 ?_
  refine fg_X7_4 hx hb (fun q h => hg q (tl_X7 q h)) hown (hg _ t_fl_X6_65) S (by decide) dX6_wrong_10 ?_
  refine fp_X6_4 (v := (gI (sI w 3 3 x1) 1 4)) hx hb (fun q h => hg q (tl_X6 q h)) hown (hg _ t_fl_X6_29) S (by decide) dX6_wrong_13 (fun H locs S => ?_)
  refine lv_iconst (v := 0) hx hb dX6_wrong_16 (by decide) ?_
  exact g_retb hx hb hr hlk S isB_0 hz dX6_wrong_17
noncomputable def f_X6_word (u1 : Nat) (w : GW) : Option (Int32 × GW) :=
  (f_X7_says u1 w).bind fun q1 =>
  if q1.1 = 0 then
    (f_X6_wrong 1 q1.2).bind fun q7 =>
    some (q7.1, q7.2)
  else
    (f_X7_advance q1.2).bind fun q5 =>
    some (1, q5.2)
set_option maxHeartbeats 4000000 in
set_option maxRecDepth 100000 in
theorem c_X6_word (l : Launch) (G : GG) (u1 : Nat) (hu1 : u1 < 34) (w : GW) {z : Int32 × GW} (hz : f_X6_word u1 w = some z) : Met l yX6_word (wsU yX6_word cX6_word 2 (some .boolean)) rm_X6_word (va_Pc [.ref (gad G 3), .ref (gK G u1)] (PreG G w)) (QB G z) 0 0 (gA G) := by
  refine Met.ofW (cc := cX6_word) (maxL := 2) (ret := (some .boolean)) (by decide) rfl ?_
  intro p e s m args below meth c s₁ B hml hv
  obtain ⟨rfl, S⟩ := hv
  have F : CallFix p m c cX6_word 2 s _ (wsU yX6_word cX6_word 2 (some .boolean)) RX6 := ⟨B.exec, B.bytes, hml, findClass_of_methodNamed B.named, atoms_spec B.pre⟩
  have hr := B.returns
  have hlk := B.notSynchronized
  obtain ⟨hx, hb, -, hown, hts⟩ := id F
  have hg : ∀ q ∈ lwg, q.before _ s = true := fun q h => hts q (List.mem_cons_of_mem _ h)
  refine g_entry (Nat.le_of_ble_eq_true rfl) (fun ls hl => ?_)
  have hl : lv_has ls 2 [(0, .ref (gad G 3)), (1, .ref (gK G u1))] := hl
  have S : St G w s s.heap [] := S
  generalize s.heap = H at S ⊢
  generalize ([] : List Loc) = locs at S ⊢
  rw [f_X6_word] at hz
  refine lv_aload_n hx hb dX6_word_0 rfl (lv_at hl 0 rfl) ?_
  refine fg_X6_0 hx hb (fun q h => hg q (tl_X6 q h)) hown (hg _ t_fl_X6_9) S (by decide) dX6_word_1 ?_
  refine lv_aload_n hx hb dX6_word_4 rfl (lv_at hl 1 rfl) ?_
  obtain ⟨q1, e2, hz⟩ := bd hz
  refine g_callVb (As := [.ref (gK G u1)]) (rest := []) F S (c_X7_says l G u1 hu1 _ e2) (cw_X6_word_X7_says_70 hg) (S.obj (by decide) (by decide) rfl (oc_X7 _ _ _ (by decide))) rfl hl.1 rfl (Nat.le_of_ble_eq_true rfl) ⟨Nat.zero_le _, Nat.zero_le _⟩ dX6_word_5 (fun H locs hB3 S => ?_)
  refine lv_if_ne (tgt := 17) hx hb dX6_word_8 (by decide) (fun c4 => ?_) (fun c4 => ?_)
  · have hz := ipf (c4) hz
    refine lv_aload_n hx hb dX6_word_17 rfl (lv_at hl 0 rfl) ?_
    refine fg_X6_0 hx hb (fun q h => hg q (tl_X6 q h)) hown (hg _ t_fl_X6_9) S (by decide) dX6_word_18 ?_
    obtain ⟨q5, e6, hz⟩ := bd hz
    refine g_callVv (As := []) (rest := []) F S (c_X7_advance l G   _ e6) (cw_X6_word_X7_advance_52 hg) (S.obj (by decide) (by decide) rfl (oc_X7 _ _ _ (by decide))) rfl hl.1 rfl (Nat.le_of_ble_eq_true rfl) ⟨Nat.zero_le _, Nat.zero_le _⟩ dX6_word_21 (fun H locs  S => ?_)
    refine lv_iconst (v := 1) hx hb dX6_word_24 (by decide) ?_
    exact g_retb hx hb hr hlk S isB_1 hz dX6_word_25
  · have hz := ipt (c4) hz
    refine lv_aload_n hx hb dX6_word_11 rfl (lv_at hl 0 rfl) ?_
    refine lv_iconst (v := 1) hx hb dX6_word_12 (by decide) ?_
    obtain ⟨q7, e8, hz⟩ := bd hz
    refine g_callVb (As := [.int 1]) (rest := []) F S (c_X6_wrong l G 1  _ e8) (cw_X6_word_X6_wrong_48 hg) (S.obj (by decide) (by decide) rfl (oc_X6 _ _ _ (by decide))) rfl hl.1 rfl (Nat.le_of_ble_eq_true rfl) ⟨Nat.zero_le _, Nat.zero_le _⟩ dX6_word_13 (fun H locs hB9 S => ?_)
    exact g_retb hx hb hr hlk S hB9 hz dX6_word_16
noncomputable def f_X6_isWhole_44   (w : GW) : Option (Int32 × GW) :=
  (f_X6_wrong 4 w).bind fun q3 =>
  if q3.1 = 0 then
    some (0, q3.2)
  else
    some (1, q3.2)
noncomputable def f_X6_isWhole (x1 : Int32) (x2 : Int32) (w : GW) : Option (Int32 × GW) :=
  if (gI w 1 5) = 2 then
    if (gI (sI w 3 2 (gI w 1 6)) 3 2) < x1 then
      f_X6_isWhole_44 (sI w 3 2 (gI w 1 6))
    else
      if (gI (sI w 3 2 (gI w 1 6)) 3 2) ≤ x2 then
        some (1, (sI w 3 2 (gI w 1 6)))
      else
        f_X6_isWhole_44 (sI w 3 2 (gI w 1 6))
  else
    (f_X6_wrong 1 w).bind fun q8 =>
    some (q8.1, q8.2)
set_option maxHeartbeats 4000000 in
set_option maxRecDepth 100000 in
theorem w_X6_isWhole_44 {p : Program} {l : Launch} {e : Env} {s : State} {m : MethodId} {args : Array Value} {below : List Frame} {meth : Method} {c : Code} {G : GG} (F : CallFix p m c cX6_isWhole 3 s args (wsU yX6_isWhole cX6_isWhole 3 (some .boolean)) RX6) (hr : meth.sig.returnType = (some .boolean)) (hlk : meth.locks = false) {z : Int32 × GW} : (∀ (w : GW) (H : Heap) (locs : List Loc) (ls : Array Slot), St G w s H locs → lv_has ls 3 [(0, .ref (gad G 3))] → f_X6_isWhole_44  w = some z → W p l e (headSpec (wsU yX6_isWhole cX6_isWhole 3 (some .boolean)) rm_X6_isWhole).room s m args below meth c H locs 0 0 (MQ below (QB G z) args s 0 0 (gA G)) (F0 m 44 ls [])) := by
  obtain ⟨hx, hb, hml, hown, hts⟩ := id F
  have hg : ∀ q ∈ lwg, q.before args s = true := fun q h => hts q (List.mem_cons_of_mem _ h)
  intro w H locs ls S hl hz
  rw [f_X6_isWhole_44] at hz
  refine lv_aload_n hx hb dX6_isWhole_44 rfl (lv_at hl 0 rfl) ?_
  refine lv_iconst (v := 4) hx hb dX6_isWhole_45 (by decide) ?_
  obtain ⟨q3, e4, hz⟩ := bd hz
  refine g_callVb (As := [.int 4]) (rest := []) F S (c_X6_wrong l G 4  _ e4) (cw_X6_isWhole_X6_wrong_48 hg) (S.obj (by decide) (by decide) rfl (oc_X6 _ _ _ (by decide))) rfl hl.1 rfl (Nat.le_of_ble_eq_true rfl) ⟨Nat.zero_le _, Nat.zero_le _⟩ dX6_isWhole_46 (fun H locs hB5 S => ?_)
  refine lv_if_eq (tgt := 56) hx hb dX6_isWhole_49 (by decide) (fun c6 => ?_) (fun c6 => ?_)
  · have hz := ipt (c6) hz
    refine lv_iconst (v := 0) hx hb dX6_isWhole_56 (by decide) ?_
    exact g_retb hx hb hr hlk S isB_0 hz dX6_isWhole_57
  · have hz := ipf (c6) hz
    refine lv_iconst (v := 1) hx hb dX6_isWhole_52 (by decide) ?_
    refine lv_goto (tgt := 57) hx hb dX6_isWhole_53 (by decide) ?_
    exact g_retb hx hb hr hlk S isB_1 hz dX6_isWhole_57
set_option maxHeartbeats 4000000 in
set_option maxRecDepth 100000 in
theorem c_X6_isWhole (l : Launch) (G : GG) (x1 : Int32) (x2 : Int32)  (w : GW) {z : Int32 × GW} (hz : f_X6_isWhole x1 x2 w = some z) : Met l yX6_isWhole (wsU yX6_isWhole cX6_isWhole 3 (some .boolean)) rm_X6_isWhole (va_Pc [.ref (gad G 3), .int x1, .int x2] (PreG G w)) (QB G z) 0 0 (gA G) := by
  refine Met.ofW (cc := cX6_isWhole) (maxL := 3) (ret := (some .boolean)) (by decide) rfl ?_
  intro p e s m args below meth c s₁ B hml hv
  obtain ⟨rfl, S⟩ := hv
  have F : CallFix p m c cX6_isWhole 3 s _ (wsU yX6_isWhole cX6_isWhole 3 (some .boolean)) RX6 := ⟨B.exec, B.bytes, hml, findClass_of_methodNamed B.named, atoms_spec B.pre⟩
  have hr := B.returns
  have hlk := B.notSynchronized
  obtain ⟨hx, hb, -, hown, hts⟩ := id F
  have hg : ∀ q ∈ lwg, q.before _ s = true := fun q h => hts q (List.mem_cons_of_mem _ h)
  refine g_entry (Nat.le_of_ble_eq_true rfl) (fun ls hl => ?_)
  have hl : lv_has ls 3 [(0, .ref (gad G 3)), (1, .int x1), (2, .int x2)] := hl
  have S : St G w s s.heap [] := S
  generalize s.heap = H at S ⊢
  generalize ([] : List Loc) = locs at S ⊢
  rw [f_X6_isWhole] at hz
  refine lv_aload_n hx hb dX6_isWhole_0 rfl (lv_at hl 0 rfl) ?_
  refine fg_X6_0 hx hb (fun q h => hg q (tl_X6 q h)) hown (hg _ t_fl_X6_9) S (by decide) dX6_isWhole_1 ?_
  refine fg_X7_5 hx hb (fun q h => hg q (tl_X7 q h)) hown (hg _ t_fl_X6_42) S (by decide) dX6_isWhole_4 ?_
  refine lv_iconst (v := 2) hx hb dX6_isWhole_7 (by decide) ?_
  refine lv_icmp_eq (tgt := 17) hx hb dX6_isWhole_8 (by decide) (fun c1 => ?_) (fun c1 => ?_)
  · have hz := ipt (c1) hz
    refine lv_aload_n hx hb dX6_isWhole_17 rfl (lv_at hl 0 rfl) ?_
    refine lv_aload_n hx hb dX6_isWhole_18 rfl (lv_at hl 0 rfl) ?_
    refine fg_X6_0 hx hb (fun q h => hg q (tl_X6 q h)) hown (hg _ t_fl_X6_9) S (by decide) dX6_isWhole_19 ?_
    refine fg_X7_6 hx hb (fun q h => hg q (tl_X7 q h)) hown (hg _ t_fl_X6_102) S (by decide) dX6_isWhole_22 ?_
    refine fp_X6_2 (v := (gI w 1 6)) hx hb (fun q h => hg q (tl_X6 q h)) hown (hg _ t_fl_X6_105) S (by decide) dX6_isWhole_25 (fun H locs S => ?_)
    refine lv_aload_n hx hb dX6_isWhole_28 rfl (lv_at hl 0 rfl) ?_
    refine fg_X6_2 hx hb (fun q h => hg q (tl_X6 q h)) hown (hg _ t_fl_X6_105) S (by decide) dX6_isWhole_29 ?_
    refine lv_iload_n hx hb dX6_isWhole_32 rfl (lv_at hl 1 rfl) ?_
    refine lv_icmp_lt (tgt := 44) hx hb dX6_isWhole_33 (by decide) (fun c2 => ?_) (fun c2 => ?_)
    · have hz := ipt (c2) hz
      exact w_X6_isWhole_44 F hr hlk _ _ _ _ S (lv_sub hl [0] rfl) hz
    · have hz := ipf (c2) hz
      refine lv_aload_n hx hb dX6_isWhole_36 rfl (lv_at hl 0 rfl) ?_
      refine fg_X6_2 hx hb (fun q h => hg q (tl_X6 q h)) hown (hg _ t_fl_X6_105) S (by decide) dX6_isWhole_37 ?_
      refine lv_iload_n hx hb dX6_isWhole_40 rfl (lv_at hl 2 rfl) ?_
      refine lv_icmp_le (tgt := 52) hx hb dX6_isWhole_41 (by decide) (fun c7 => ?_) (fun c7 => ?_)
      · have hz := ipt (c7) hz
        refine lv_iconst (v := 1) hx hb dX6_isWhole_52 (by decide) ?_
        refine lv_goto (tgt := 57) hx hb dX6_isWhole_53 (by decide) ?_
        exact g_retb hx hb hr hlk S isB_1 hz dX6_isWhole_57
      · have hz := ipf (c7) hz
        exact w_X6_isWhole_44 F hr hlk _ _ _ _ S (lv_sub hl [0] rfl) hz
  · have hz := ipf (c1) hz
    refine lv_aload_n hx hb dX6_isWhole_11 rfl (lv_at hl 0 rfl) ?_
    refine lv_iconst (v := 1) hx hb dX6_isWhole_12 (by decide) ?_
    obtain ⟨q8, e9, hz⟩ := bd hz
    refine g_callVb (As := [.int 1]) (rest := []) F S (c_X6_wrong l G 1  _ e9) (cw_X6_isWhole_X6_wrong_48 hg) (S.obj (by decide) (by decide) rfl (oc_X6 _ _ _ (by decide))) rfl hl.1 rfl (Nat.le_of_ble_eq_true rfl) ⟨Nat.zero_le _, Nat.zero_le _⟩ dX6_isWhole_13 (fun H locs hB10 S => ?_)
    exact g_retb hx hb hr hlk S hB10 hz dX6_isWhole_16
noncomputable def f_X6_whole (x1 : Int32) (x2 : Int32) (w : GW) : Option (Int32 × GW) :=
  (f_X6_isWhole x1 x2 w).bind fun q1 =>
  if q1.1 = 0 then
    some (0, q1.2)
  else
    (f_X7_advance q1.2).bind fun q5 =>
    some (1, q5.2)
set_option maxHeartbeats 4000000 in
set_option maxRecDepth 100000 in
theorem c_X6_whole (l : Launch) (G : GG) (x1 : Int32) (x2 : Int32)  (w : GW) {z : Int32 × GW} (hz : f_X6_whole x1 x2 w = some z) : Met l yX6_whole (wsU yX6_whole cX6_whole 3 (some .boolean)) rm_X6_whole (va_Pc [.ref (gad G 3), .int x1, .int x2] (PreG G w)) (QB G z) 0 0 (gA G) := by
  refine Met.ofW (cc := cX6_whole) (maxL := 3) (ret := (some .boolean)) (by decide) rfl ?_
  intro p e s m args below meth c s₁ B hml hv
  obtain ⟨rfl, S⟩ := hv
  have F : CallFix p m c cX6_whole 3 s _ (wsU yX6_whole cX6_whole 3 (some .boolean)) RX6 := ⟨B.exec, B.bytes, hml, findClass_of_methodNamed B.named, atoms_spec B.pre⟩
  have hr := B.returns
  have hlk := B.notSynchronized
  obtain ⟨hx, hb, -, hown, hts⟩ := id F
  have hg : ∀ q ∈ lwg, q.before _ s = true := fun q h => hts q (List.mem_cons_of_mem _ h)
  refine g_entry (Nat.le_of_ble_eq_true rfl) (fun ls hl => ?_)
  have hl : lv_has ls 3 [(0, .ref (gad G 3)), (1, .int x1), (2, .int x2)] := hl
  have S : St G w s s.heap [] := S
  generalize s.heap = H at S ⊢
  generalize ([] : List Loc) = locs at S ⊢
  rw [f_X6_whole] at hz
  refine lv_aload_n hx hb dX6_whole_0 rfl (lv_at hl 0 rfl) ?_
  refine lv_iload_n hx hb dX6_whole_1 rfl (lv_at hl 1 rfl) ?_
  refine lv_iload_n hx hb dX6_whole_2 rfl (lv_at hl 2 rfl) ?_
  obtain ⟨q1, e2, hz⟩ := bd hz
  refine g_callVb (As := [.int x1, .int x2]) (rest := []) F S (c_X6_isWhole l G x1 x2  _ e2) (cw_X6_whole_X6_isWhole_108 hg) (S.obj (by decide) (by decide) rfl (oc_X6 _ _ _ (by decide))) rfl hl.1 rfl (Nat.le_of_ble_eq_true rfl) ⟨Nat.zero_le _, Nat.zero_le _⟩ dX6_whole_3 (fun H locs hB3 S => ?_)
  refine lv_if_ne (tgt := 11) hx hb dX6_whole_6 (by decide) (fun c4 => ?_) (fun c4 => ?_)
  · have hz := ipf (c4) hz
    refine lv_aload_n hx hb dX6_whole_11 rfl (lv_at hl 0 rfl) ?_
    refine fg_X6_0 hx hb (fun q h => hg q (tl_X6 q h)) hown (hg _ t_fl_X6_9) S (by decide) dX6_whole_12 ?_
    obtain ⟨q5, e6, hz⟩ := bd hz
    refine g_callVv (As := []) (rest := []) F S (c_X7_advance l G   _ e6) (cw_X6_whole_X7_advance_52 hg) (S.obj (by decide) (by decide) rfl (oc_X7 _ _ _ (by decide))) rfl hl.1 rfl (Nat.le_of_ble_eq_true rfl) ⟨Nat.zero_le _, Nat.zero_le _⟩ dX6_whole_15 (fun H locs  S => ?_)
    refine lv_iconst (v := 1) hx hb dX6_whole_18 (by decide) ?_
    exact g_retb hx hb hr hlk S isB_1 hz dX6_whole_19
  · have hz := ipt (c4) hz
    refine lv_iconst (v := 0) hx hb dX6_whole_9 (by decide) ?_
    exact g_retb hx hb hr hlk S isB_0 hz dX6_whole_10
noncomputable def f_X6_hallLine  (w : GW) : Option (Int32 × GW) :=
  if (gI w (fxH (gR w 2)) 0) = 0 then
    (f_X7_advance w).bind fun q2 =>
    (f_X6_word 1 q2.2).bind fun q4 =>
    if q4.1 = 0 then
      some (0, q4.2)
    else
      (f_X6_whole 1 5 q4.2).bind fun q8 =>
      if q8.1 = 0 then
        some (0, q8.2)
      else
        (f_X6_word 2 (sI q8.2 (fxH (gR q8.2 2)) 1 (gI q8.2 3 2))).bind fun q12 =>
        if q12.1 = 0 then
          some (0, q12.2)
        else
          (f_X6_whole 0 8 q12.2).bind fun q16 =>
          if q16.1 = 0 then
            some (0, q16.2)
          else
            some (1, (sI (sI q16.2 (fxH (gR q16.2 2)) 2 (gI q16.2 3 2)) (fxH (gR (sI q16.2 (fxH (gR q16.2 2)) 2 (gI q16.2 3 2)) 2)) 0 1))
  else
    (f_X6_wrong 3 w).bind fun q20 =>
    some (q20.1, q20.2)
set_option maxHeartbeats 4000000 in
set_option maxRecDepth 100000 in
theorem c_X6_hallLine (l : Launch) (G : GG)   (w : GW) {z : Int32 × GW} (hz : f_X6_hallLine  w = some z) : Met l yX6_hallLine (wsU yX6_hallLine cX6_hallLine 1 (some .boolean)) rm_X6_hallLine (va_Pc [.ref (gad G 3)] (PreG G w)) (QB G z) 0 0 (gA G) := by
  refine Met.ofW (cc := cX6_hallLine) (maxL := 1) (ret := (some .boolean)) (by decide) rfl ?_
  intro p e s m args below meth c s₁ B hml hv
  obtain ⟨rfl, S⟩ := hv
  have F : CallFix p m c cX6_hallLine 1 s _ (wsU yX6_hallLine cX6_hallLine 1 (some .boolean)) RX6 := ⟨B.exec, B.bytes, hml, findClass_of_methodNamed B.named, atoms_spec B.pre⟩
  have hr := B.returns
  have hlk := B.notSynchronized
  obtain ⟨hx, hb, -, hown, hts⟩ := id F
  have hg : ∀ q ∈ lwg, q.before _ s = true := fun q h => hts q (List.mem_cons_of_mem _ h)
  refine g_entry (Nat.le_of_ble_eq_true rfl) (fun ls hl => ?_)
  have hl : lv_has ls 1 [(0, .ref (gad G 3))] := hl
  have S : St G w s s.heap [] := S
  generalize s.heap = H at S ⊢
  generalize ([] : List Loc) = locs at S ⊢
  rw [f_X6_hallLine] at hz
  refine lv_aload_n hx hb dX6_hallLine_0 rfl (lv_at hl 0 rfl) ?_
  refine fg_X6_1 hx hb (fun q h => hg q (tl_X6 q h)) hown (hg _ t_fl_X6_18) S (by decide) dX6_hallLine_1 ?_
  refine fg_X3_0 hx hb (fun q h => hg q (tl_X3 q h)) hown (hg _ t_fl_X6_55) S (kd_H _) dX6_hallLine_4 ?_
  refine lv_if_eq (tgt := 16) hx hb dX6_hallLine_7 (by decide) (fun c1 => ?_) (fun c1 => ?_)
  · have hz := ipt (c1) hz
    refine lv_aload_n hx hb dX6_hallLine_16 rfl (lv_at hl 0 rfl) ?_
    refine fg_X6_0 hx hb (fun q h => hg q (tl_X6 q h)) hown (hg _ t_fl_X6_9) S (by decide) dX6_hallLine_17 ?_
    obtain ⟨q2, e3, hz⟩ := bd hz
    refine g_callVv (As := []) (rest := []) F S (c_X7_advance l G   _ e3) (cw_X6_hallLine_X7_advance_52 hg) (S.obj (by decide) (by decide) rfl (oc_X7 _ _ _ (by decide))) rfl hl.1 rfl (Nat.le_of_ble_eq_true rfl) ⟨Nat.zero_le _, Nat.zero_le _⟩ dX6_hallLine_20 (fun H locs  S => ?_)
    refine lv_aload_n hx hb dX6_hallLine_23 rfl (lv_at hl 0 rfl) ?_
    refine g_str 1 (by decide) hx hb S hown rfl dX6_hallLine_24 ?_
    obtain ⟨q4, e5, hz⟩ := bd hz
    refine g_callVb (As := [.ref (gK G 1)]) (rest := []) F S (c_X6_word l G 1 (by decide) _ e5) (cw_X6_hallLine_X6_word_114 hg) (S.obj (by decide) (by decide) rfl (oc_X6 _ _ _ (by decide))) rfl hl.1 rfl (Nat.le_of_ble_eq_true rfl) ⟨Nat.zero_le _, Nat.zero_le _⟩ dX6_hallLine_26 (fun H locs hB6 S => ?_)
    refine lv_if_eq (tgt := 41) hx hb dX6_hallLine_29 (by decide) (fun c7 => ?_) (fun c7 => ?_)
    · have hz := ipt (c7) hz
      refine lv_iconst (v := 0) hx hb dX6_hallLine_41 (by decide) ?_
      exact g_retb hx hb hr hlk S isB_0 hz dX6_hallLine_42
    · have hz := ipf (c7) hz
      refine lv_aload_n hx hb dX6_hallLine_32 rfl (lv_at hl 0 rfl) ?_
      refine lv_iconst (v := 1) hx hb dX6_hallLine_33 (by decide) ?_
      refine lv_iconst (v := 5) hx hb dX6_hallLine_34 (by decide) ?_
      obtain ⟨q8, e9, hz⟩ := bd hz
      refine g_callVb (As := [.int 1, .int 5]) (rest := []) F S (c_X6_whole l G 1 5  _ e9) (cw_X6_hallLine_X6_whole_117 hg) (S.obj (by decide) (by decide) rfl (oc_X6 _ _ _ (by decide))) rfl hl.1 rfl (Nat.le_of_ble_eq_true rfl) ⟨Nat.zero_le _, Nat.zero_le _⟩ dX6_hallLine_35 (fun H locs hB10 S => ?_)
      refine lv_if_ne (tgt := 43) hx hb dX6_hallLine_38 (by decide) (fun c11 => ?_) (fun c11 => ?_)
      · have hz := ipf (c11) hz
        refine lv_aload_n hx hb dX6_hallLine_43 rfl (lv_at hl 0 rfl) ?_
        refine fg_X6_1 hx hb (fun q h => hg q (tl_X6 q h)) hown (hg _ t_fl_X6_18) S (by decide) dX6_hallLine_44 ?_
        refine lv_aload_n hx hb dX6_hallLine_47 rfl (lv_at hl 0 rfl) ?_
        refine fg_X6_2 hx hb (fun q h => hg q (tl_X6 q h)) hown (hg _ t_fl_X6_105) S (by decide) dX6_hallLine_48 ?_
        refine fp_X3_1 (v := (gI q8.2 3 2)) hx hb (fun q h => hg q (tl_X3 q h)) hown (hg _ t_fl_X6_120) S (kd_H _) dX6_hallLine_51 (fun H locs S => ?_)
        refine lv_aload_n hx hb dX6_hallLine_54 rfl (lv_at hl 0 rfl) ?_
        refine g_str 2 (by decide) hx hb S hown rfl dX6_hallLine_55 ?_
        obtain ⟨q12, e13, hz⟩ := bd hz
        refine g_callVb (As := [.ref (gK G 2)]) (rest := []) F S (c_X6_word l G 2 (by decide) _ e13) (cw_X6_hallLine_X6_word_114 hg) (S.obj (by decide) (by decide) rfl (oc_X6 _ _ _ (by decide))) rfl hl.1 rfl (Nat.le_of_ble_eq_true rfl) ⟨Nat.zero_le _, Nat.zero_le _⟩ dX6_hallLine_57 (fun H locs hB14 S => ?_)
        refine lv_if_eq (tgt := 73) hx hb dX6_hallLine_60 (by decide) (fun c15 => ?_) (fun c15 => ?_)
        · have hz := ipt (c15) hz
          refine lv_iconst (v := 0) hx hb dX6_hallLine_73 (by decide) ?_
          exact g_retb hx hb hr hlk S isB_0 hz dX6_hallLine_74
        · have hz := ipf (c15) hz
          refine lv_aload_n hx hb dX6_hallLine_63 rfl (lv_at hl 0 rfl) ?_
          refine lv_iconst (v := 0) hx hb dX6_hallLine_64 (by decide) ?_
          refine lv_bipush (v := 8) hx hb dX6_hallLine_65 (by decide) ?_
          obtain ⟨q16, e17, hz⟩ := bd hz
          refine g_callVb (As := [.int 0, .int 8]) (rest := []) F S (c_X6_whole l G 0 8  _ e17) (cw_X6_hallLine_X6_whole_117 hg) (S.obj (by decide) (by decide) rfl (oc_X6 _ _ _ (by decide))) rfl hl.1 rfl (Nat.le_of_ble_eq_true rfl) ⟨Nat.zero_le _, Nat.zero_le _⟩ dX6_hallLine_67 (fun H locs hB18 S => ?_)
          refine lv_if_ne (tgt := 75) hx hb dX6_hallLine_70 (by decide) (fun c19 => ?_) (fun c19 => ?_)
          · have hz := ipf (c19) hz
            refine lv_aload_n hx hb dX6_hallLine_75 rfl (lv_at hl 0 rfl) ?_
            refine fg_X6_1 hx hb (fun q h => hg q (tl_X6 q h)) hown (hg _ t_fl_X6_18) S (by decide) dX6_hallLine_76 ?_
            refine lv_aload_n hx hb dX6_hallLine_79 rfl (lv_at hl 0 rfl) ?_
            refine fg_X6_2 hx hb (fun q h => hg q (tl_X6 q h)) hown (hg _ t_fl_X6_105) S (by decide) dX6_hallLine_80 ?_
            refine fp_X3_2 (v := (gI q16.2 3 2)) hx hb (fun q h => hg q (tl_X3 q h)) hown (hg _ t_fl_X6_124) S (kd_H _) dX6_hallLine_83 (fun H locs S => ?_)
            refine lv_aload_n hx hb dX6_hallLine_86 rfl (lv_at hl 0 rfl) ?_
            refine fg_X6_1 hx hb (fun q h => hg q (tl_X6 q h)) hown (hg _ t_fl_X6_18) S (by decide) dX6_hallLine_87 ?_
            refine lv_iconst (v := 1) hx hb dX6_hallLine_90 (by decide) ?_
            refine fp_X3_0 (v := 1) hx hb (fun q h => hg q (tl_X3 q h)) hown (hg _ t_fl_X6_55) S (kd_H _) isB_1 dX6_hallLine_91 (fun H locs S => ?_)
            refine lv_iconst (v := 1) hx hb dX6_hallLine_94 (by decide) ?_
            exact g_retb hx hb hr hlk S isB_1 hz dX6_hallLine_95
          · have hz := ipt (c19) hz
            refine lv_iconst (v := 0) hx hb dX6_hallLine_73 (by decide) ?_
            exact g_retb hx hb hr hlk S isB_0 hz dX6_hallLine_74
      · have hz := ipt (c11) hz
        refine lv_iconst (v := 0) hx hb dX6_hallLine_41 (by decide) ?_
        exact g_retb hx hb hr hlk S isB_0 hz dX6_hallLine_42
  · have hz := ipf (c1) hz
    refine lv_aload_n hx hb dX6_hallLine_10 rfl (lv_at hl 0 rfl) ?_
    refine lv_iconst (v := 3) hx hb dX6_hallLine_11 (by decide) ?_
    obtain ⟨q20, e21, hz⟩ := bd hz
    refine g_callVb (As := [.int 3]) (rest := []) F S (c_X6_wrong l G 3  _ e21) (cw_X6_hallLine_X6_wrong_48 hg) (S.obj (by decide) (by decide) rfl (oc_X6 _ _ _ (by decide))) rfl hl.1 rfl (Nat.le_of_ble_eq_true rfl) ⟨Nat.zero_le _, Nat.zero_le _⟩ dX6_hallLine_12 (fun H locs hB22 S => ?_)
    exact g_retb hx hb hr hlk S hB22 hz dX6_hallLine_15
