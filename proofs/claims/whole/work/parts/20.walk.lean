noncomputable def f_X0_letters (x1 : Int32) (w : GW) : Option (Int32 × GW) :=
  some ((jmax 0 (jmin (jmin x1 (gI w (fxH (gR w 3)) 3)) 8)), w)
set_option maxHeartbeats 4000000 in
set_option maxRecDepth 100000 in
theorem c_X0_letters (l : Launch) (G : GG) (x1 : Int32)  (w : GW) {z : Int32 × GW} (hz : f_X0_letters x1 w = some z) : Met l yX0_letters (wsU yX0_letters cX0_letters 2 (some .int)) rm_X0_letters (va_Pc [.ref (gad G 72), .int x1] (PreG G w)) (QI G z) 0 0 (gA G) := by
  refine Met.ofW (cc := cX0_letters) (maxL := 2) (ret := (some .int)) (by decide) rfl ?_
  intro p e s m args below meth c s₁ B hml hv
  obtain ⟨rfl, S⟩ := hv
  have F : CallFix p m c cX0_letters 2 s _ (wsU yX0_letters cX0_letters 2 (some .int)) RX0 := ⟨B.exec, B.bytes, hml, findClass_of_methodNamed B.named, atoms_spec B.pre⟩
  have hr := B.returns
  have hlk := B.notSynchronized
  obtain ⟨hx, hb, -, hown, hts⟩ := id F
  have hg : ∀ q ∈ lwg, q.before _ s = true := fun q h => hts q (List.mem_cons_of_mem _ h)
  refine g_entry (Nat.le_of_ble_eq_true rfl) (fun ls hl => ?_)
  have hl : lv_has ls 2 [(0, .ref (gad G 72)), (1, .int x1)] := hl
  have S : St G w s s.heap [] := S
  generalize s.heap = H at S ⊢
  generalize ([] : List Loc) = locs at S ⊢
  rw [f_X0_letters] at hz
  refine lv_iconst (v := 0) hx hb dX0_letters_0 (by decide) ?_
  refine lv_iload_n hx hb dX0_letters_1 rfl (lv_at hl 1 rfl) ?_
  refine lv_aload_n hx hb dX0_letters_2 rfl (lv_at hl 0 rfl) ?_
  refine fg_X0_8 hx hb (fun q h => hg q (tl_X0 q h)) hown (hg _ t_fl_X0_9) S (by decide) dX0_letters_3 ?_
  refine fg_X3_3 hx hb (fun q h => hg q (tl_X3 q h)) hown (hg _ t_fl_X0_68) S (kd_H _) dX0_letters_6 ?_
  refine va_mmin hx hb (hml.trans hl.1.symm) hown (hg _ t_ml_X0_71) (hg _ t_st_J9_min_7cf53) (hg _ t_in_J9) (hg _ t_co_J9_min_7cf53) (Nat.le_of_ble_eq_true rfl) (Nat.le_of_ble_eq_true rfl) (Nat.zero_le _) (Nat.zero_le _) dX0_letters_9 ?_
  refine g_toi (v := (jmin x1 (gI w (fxH (gR w 3)) 3))) rfl ?_
  refine lv_bipush (v := 8) hx hb dX0_letters_12 (by decide) ?_
  refine va_mmin hx hb (hml.trans hl.1.symm) hown (hg _ t_ml_X0_71) (hg _ t_st_J9_min_7cf53) (hg _ t_in_J9) (hg _ t_co_J9_min_7cf53) (Nat.le_of_ble_eq_true rfl) (Nat.le_of_ble_eq_true rfl) (Nat.zero_le _) (Nat.zero_le _) dX0_letters_14 ?_
  refine g_toi (v := (jmin (jmin x1 (gI w (fxH (gR w 3)) 3)) 8)) rfl ?_
  refine va_mmax hx hb (hml.trans hl.1.symm) hown (hg _ t_ml_X0_77) (hg _ t_st_J9_max_7cf53) (hg _ t_in_J9) (hg _ t_co_J9_max_7cf53) (Nat.le_of_ble_eq_true rfl) (Nat.le_of_ble_eq_true rfl) (Nat.zero_le _) (Nat.zero_le _) dX0_letters_17 ?_
  refine g_toi (v := (jmax 0 (jmin (jmin x1 (gI w (fxH (gR w 3)) 3)) 8))) rfl ?_
  exact g_reti hx hb hr hlk S hz dX0_letters_20
noncomputable def f_X0_rank_7  : Nat → Nat → Int32 → Int32 → Int32 → GW → Option (Int32 × GW)
  | 0, _, _, _, _, _ => none
  | n9 + 1, k1, x2, x3, x4, w =>
    if (gI w (fxH (gR w 3)) 1) ≤ x4 then
      some (x3, w)
    else
      if inb x4 5 then
      if (x2 + (gI w k1 (ix x4))) ≤ 8 then
        if inb ((x4 * 10) + (x2 + (gI w k1 (ix x4)))) 50 then
        f_X0_rank_7 n9 k1 (x2 + (gI w k1 (ix x4))) (x3 + (fewA (ix ((x4 * 10) + (x2 + (gI w k1 (ix x4))))))) (x4 + 1) w
        else none
      else
        some ((-1), w)
      else none
noncomputable def f_X0_rank (k1 : Nat) (w : GW) : Option (Int32 × GW) :=
  f_X0_rank_7 fu k1 0 0 0 w
set_option maxHeartbeats 4000000 in
set_option maxRecDepth 100000 in
theorem w_X0_rank_7 {p : Program} {l : Launch} {e : Env} {s : State} {m : MethodId} {args : Array Value} {below : List Frame} {meth : Method} {c : Code} {G : GG} (F : CallFix p m c cX0_rank 5 s args (wsU yX0_rank cX0_rank 5 (some .int)) RX0) (hr : meth.sig.returnType = (some .int)) (hlk : meth.locks = false) {z : Int32 × GW} : ∀ (n9 : Nat), (∀ (k1 : Nat) (x2 : Int32) (x3 : Int32) (x4 : Int32) (hk1 : kd k1 = 10) (w : GW) (H : Heap) (locs : List Loc) (ls : Array Slot), St G w s H locs → lv_has ls 5 [(0, .ref (gad G 72)), (1, .ref (gad G k1)), (2, .int x2), (3, .int x3), (4, .int x4)] → f_X0_rank_7 n9 k1 x2 x3 x4 w = some z → W p l e (headSpec (wsU yX0_rank cX0_rank 5 (some .int)) rm_X0_rank).room s m args below meth c H locs 0 0 (MQ below (QI G z) args s 0 0 (gA G)) (F0 m 7 ls [])) := by
  obtain ⟨hx, hb, hml, hown, hts⟩ := id F
  have hg : ∀ q ∈ lwg, q.before args s = true := fun q h => hts q (List.mem_cons_of_mem _ h)
  intro n9
  induction n9 with
  | zero =>
    intro k1 x2 x3 x4 hk1 w H locs ls S hl hz
    rw [f_X0_rank_7] at hz
    cases hz
  | succ n9 ih =>
    intro k1 x2 x3 x4 hk1 w H locs ls S hl hz
    rw [f_X0_rank_7] at hz
    refine lv_iload hx hb dX0_rank_7 (lv_at hl 4 rfl) ?_
    refine lv_aload_n hx hb dX0_rank_9 rfl (lv_at hl 0 rfl) ?_
    refine fg_X0_8 hx hb (fun q h => hg q (tl_X0 q h)) hown (hg _ t_fl_X0_9) S (by decide) dX0_rank_10 ?_
    refine fg_X3_1 hx hb (fun q h => hg q (tl_X3 q h)) hown (hg _ t_fl_X0_65) S (kd_H _) dX0_rank_13 ?_
    refine lv_icmp_ge (tgt := 54) hx hb dX0_rank_16 (by decide) (fun c1 => ?_) (fun c1 => ?_)
    · have hz := ipt (c1) hz
      refine lv_iload_n hx hb dX0_rank_54 rfl (lv_at hl 3 rfl) ?_
      exact g_reti hx hb hr hlk S hz dX0_rank_55
    · have hz := ipf (c1) hz
      refine lv_iload_n hx hb dX0_rank_19 rfl (lv_at hl 2 rfl) ?_
      refine lv_aload_n hx hb dX0_rank_20 rfl (lv_at hl 1 rfl) ?_
      refine lv_iload hx hb dX0_rank_21 (lv_at hl 4 rfl) ?_
      obtain ⟨h2, hz⟩ := ck hz
      refine g_iald hx hb S (isA_10 hk1) h2 dX0_rank_23 ?_
      refine lv_iadd hx hb dX0_rank_24 ?_
      refine lv_istore_n (lv' := [(2, .int (x2 + (gI w k1 (ix x4)))), (0, .ref (gad G 72)), (1, .ref (gad G k1)), (3, .int x3), (4, .int x4)]) hx hb dX0_rank_25 rfl hl (by decide) rfl (fun ls hl => ?_)
      refine lv_iload_n hx hb dX0_rank_26 rfl (lv_at hl 0 rfl) ?_
      refine lv_bipush (v := 8) hx hb dX0_rank_27 (by decide) ?_
      refine lv_icmp_le (tgt := 34) hx hb dX0_rank_29 (by decide) (fun c3 => ?_) (fun c3 => ?_)
      · have hz := ipt (c3) hz
        refine lv_iload_n hx hb dX0_rank_34 rfl (lv_at hl 3 rfl) ?_
        refine g_few hx hb S hown dX0_rank_35 ?_
        refine lv_iload hx hb dX0_rank_38 (lv_at hl 4 rfl) ?_
        refine lv_bipush (v := 10) hx hb dX0_rank_40 (by decide) ?_
        refine lv_imul hx hb dX0_rank_42 ?_
        refine lv_iload_n hx hb dX0_rank_43 rfl (lv_at hl 0 rfl) ?_
        refine lv_iadd hx hb dX0_rank_44 ?_
        obtain ⟨h4, hz⟩ := ck hz
        refine g_fewld hx hb S h4 dX0_rank_45 ?_
        refine lv_iadd hx hb dX0_rank_46 ?_
        refine lv_istore_n (lv' := [(3, .int (x3 + (fewA (ix ((x4 * 10) + (x2 + (gI w k1 (ix x4)))))))), (2, .int (x2 + (gI w k1 (ix x4)))), (0, .ref (gad G 72)), (1, .ref (gad G k1)), (4, .int x4)]) hx hb dX0_rank_47 rfl hl (by decide) rfl (fun ls hl => ?_)
        refine lv_iinc (v := (x4 + 1)) (lv' := [(4, .int (x4 + 1)), (3, .int (x3 + (fewA (ix ((x4 * 10) + (x2 + (gI w k1 (ix x4)))))))), (2, .int (x2 + (gI w k1 (ix x4)))), (0, .ref (gad G 72)), (1, .ref (gad G k1))]) hx hb dX0_rank_48 hl (k := 4) rfl rfl (by decide) rfl (fun ls hl => ?_)
        refine lv_goto (tgt := 7) hx hb dX0_rank_51 (by decide) ?_
        exact ih k1 (x2 + (gI w k1 (ix x4))) (x3 + (fewA (ix ((x4 * 10) + (x2 + (gI w k1 (ix x4))))))) (x4 + 1) hk1 _ _ _ _ S (lv_sub hl [3, 4, 2, 1, 0] rfl) hz
      · have hz := ipf (c3) hz
        refine lv_iconst (v := (-1)) hx hb dX0_rank_32 (by decide) ?_
        exact g_reti hx hb hr hlk S hz dX0_rank_33
set_option maxHeartbeats 4000000 in
set_option maxRecDepth 100000 in
theorem c_X0_rank (l : Launch) (G : GG) (k1 : Nat) (hk1 : kd k1 = 10) (w : GW) {z : Int32 × GW} (hz : f_X0_rank k1 w = some z) : Met l yX0_rank (wsU yX0_rank cX0_rank 5 (some .int)) rm_X0_rank (va_Pc [.ref (gad G 72), .ref (gad G k1)] (PreG G w)) (QI G z) 0 0 (gA G) := by
  refine Met.ofW (cc := cX0_rank) (maxL := 5) (ret := (some .int)) (by decide) rfl ?_
  intro p e s m args below meth c s₁ B hml hv
  obtain ⟨rfl, S⟩ := hv
  have F : CallFix p m c cX0_rank 5 s _ (wsU yX0_rank cX0_rank 5 (some .int)) RX0 := ⟨B.exec, B.bytes, hml, findClass_of_methodNamed B.named, atoms_spec B.pre⟩
  have hr := B.returns
  have hlk := B.notSynchronized
  obtain ⟨hx, hb, -, hown, hts⟩ := id F
  have hg : ∀ q ∈ lwg, q.before _ s = true := fun q h => hts q (List.mem_cons_of_mem _ h)
  refine g_entry (Nat.le_of_ble_eq_true rfl) (fun ls hl => ?_)
  have hl : lv_has ls 5 [(0, .ref (gad G 72)), (1, .ref (gad G k1))] := hl
  have S : St G w s s.heap [] := S
  generalize s.heap = H at S ⊢
  generalize ([] : List Loc) = locs at S ⊢
  rw [f_X0_rank] at hz
  refine lv_iconst (v := 0) hx hb dX0_rank_0 (by decide) ?_
  refine lv_istore_n (lv' := [(2, .int 0), (0, .ref (gad G 72)), (1, .ref (gad G k1))]) hx hb dX0_rank_1 rfl hl (by decide) rfl (fun ls hl => ?_)
  refine lv_iconst (v := 0) hx hb dX0_rank_2 (by decide) ?_
  refine lv_istore_n (lv' := [(3, .int 0), (2, .int 0), (0, .ref (gad G 72)), (1, .ref (gad G k1))]) hx hb dX0_rank_3 rfl hl (by decide) rfl (fun ls hl => ?_)
  refine lv_iconst (v := 0) hx hb dX0_rank_4 (by decide) ?_
  refine lv_istore (lv' := [(4, .int 0), (3, .int 0), (2, .int 0), (0, .ref (gad G 72)), (1, .ref (gad G k1))]) hx hb dX0_rank_5 hl (by decide) rfl (fun ls hl => ?_)
  exact w_X0_rank_7 F hr hlk fu k1 0 0 0 hk1 _ _ _ _ S (lv_sub hl [3, 4, 2, 1, 0] rfl) hz
noncomputable def f_X8_pack_4  : Nat → Nat → Int32 → Int32 → GW → Option (Int32 × GW)
  | 0, _, _, _, _ => none
  | n9 + 1, k0, x1, x2, w =>
    if 5 ≤ x2 then
      some (x1, w)
    else
      if (Int32.ofNat 5) ≤ x2 then
        some (x1, w)
      else
        if inb x2 5 then
        f_X8_pack_4 n9 k0 (x1 ||| ((gI w k0 (ix x2)) <<< ((4 * x2) &&& 31))) (x2 + 1) w
        else none
noncomputable def f_X8_pack (k0 : Nat) (w : GW) : Option (Int32 × GW) :=
  f_X8_pack_4 fu k0 0 0 w
set_option maxHeartbeats 4000000 in
set_option maxRecDepth 100000 in
theorem w_X8_pack_4 {p : Program} {l : Launch} {e : Env} {s : State} {m : MethodId} {args : Array Value} {below : List Frame} {meth : Method} {c : Code} {G : GG} (F : CallFix p m c cX8_pack 3 s args (wsU yX8_pack cX8_pack 3 (some .int)) RX8) (hr : meth.sig.returnType = (some .int)) (hlk : meth.locks = false) {z : Int32 × GW} : ∀ (n9 : Nat), (∀ (k0 : Nat) (x1 : Int32) (x2 : Int32) (hk0 : kd k0 = 10) (w : GW) (H : Heap) (locs : List Loc) (ls : Array Slot), St G w s H locs → lv_has ls 3 [(0, .ref (gad G k0)), (1, .int x1), (2, .int x2)] → f_X8_pack_4 n9 k0 x1 x2 w = some z → W p l e (headSpec (wsU yX8_pack cX8_pack 3 (some .int)) rm_X8_pack).room s m args below meth c H locs 0 0 (MQ below (QI G z) args s 0 0 (gA G)) (F0 m 4 ls [])) := by
  obtain ⟨hx, hb, hml, hown, hts⟩ := id F
  have hg : ∀ q ∈ lwg, q.before args s = true := fun q h => hts q (List.mem_cons_of_mem _ h)
  intro n9
  induction n9 with
  | zero =>
    intro k0 x1 x2 hk0 w H locs ls S hl hz
    rw [f_X8_pack_4] at hz
    cases hz
  | succ n9 ih =>
    intro k0 x1 x2 hk0 w H locs ls S hl hz
    rw [f_X8_pack_4] at hz
    refine lv_iload_n hx hb dX8_pack_4 rfl (lv_at hl 2 rfl) ?_
    refine lv_iconst (v := 5) hx hb dX8_pack_5 (by decide) ?_
    refine lv_icmp_ge (tgt := 31) hx hb dX8_pack_6 (by decide) (fun c1 => ?_) (fun c1 => ?_)
    · have hz := ipt (c1) hz
      refine lv_iload_n hx hb dX8_pack_31 rfl (lv_at hl 1 rfl) ?_
      exact g_reti hx hb hr hlk S hz dX8_pack_32
    · have hz := ipf (c1) hz
      refine lv_iload_n hx hb dX8_pack_9 rfl (lv_at hl 2 rfl) ?_
      refine lv_aload_n hx hb dX8_pack_10 rfl (lv_at hl 0 rfl) ?_
      refine g_alen (t := 0) (n := 5) hx hb S (isA_10 hk0) rfl dX8_pack_11 ?_
      refine lv_icmp_ge (tgt := 31) hx hb dX8_pack_12 (by decide) (fun c2 => ?_) (fun c2 => ?_)
      · have hz := ipt (c2) hz
        refine lv_iload_n hx hb dX8_pack_31 rfl (lv_at hl 1 rfl) ?_
        exact g_reti hx hb hr hlk S hz dX8_pack_32
      · have hz := ipf (c2) hz
        refine lv_iload_n hx hb dX8_pack_15 rfl (lv_at hl 1 rfl) ?_
        refine lv_aload_n hx hb dX8_pack_16 rfl (lv_at hl 0 rfl) ?_
        refine lv_iload_n hx hb dX8_pack_17 rfl (lv_at hl 2 rfl) ?_
        obtain ⟨h3, hz⟩ := ck hz
        refine g_iald hx hb S (isA_10 hk0) h3 dX8_pack_18 ?_
        refine lv_iconst (v := 4) hx hb dX8_pack_19 (by decide) ?_
        refine lv_iload_n hx hb dX8_pack_20 rfl (lv_at hl 2 rfl) ?_
        refine lv_imul hx hb dX8_pack_21 ?_
        refine lv_ishl hx hb dX8_pack_22 ?_
        refine lv_ior hx hb dX8_pack_23 ?_
        refine lv_istore_n (lv' := [(1, .int (x1 ||| ((gI w k0 (ix x2)) <<< ((4 * x2) &&& 31)))), (0, .ref (gad G k0)), (2, .int x2)]) hx hb dX8_pack_24 rfl hl (by decide) rfl (fun ls hl => ?_)
        refine lv_iinc (v := (x2 + 1)) (lv' := [(2, .int (x2 + 1)), (1, .int (x1 ||| ((gI w k0 (ix x2)) <<< ((4 * x2) &&& 31)))), (0, .ref (gad G k0))]) hx hb dX8_pack_25 hl (k := 2) rfl rfl (by decide) rfl (fun ls hl => ?_)
        refine lv_goto (tgt := 4) hx hb dX8_pack_28 (by decide) ?_
        exact ih k0 (x1 ||| ((gI w k0 (ix x2)) <<< ((4 * x2) &&& 31))) (x2 + 1) hk0 _ _ _ _ S (lv_sub hl [2, 1, 0] rfl) hz
set_option maxHeartbeats 4000000 in
set_option maxRecDepth 100000 in
theorem c_X8_pack (l : Launch) (G : GG) (k0 : Nat) (hk0 : kd k0 = 10) (w : GW) {z : Int32 × GW} (hz : f_X8_pack k0 w = some z) : Met l yX8_pack (wsU yX8_pack cX8_pack 3 (some .int)) rm_X8_pack (va_Pc [.ref (gad G k0)] (PreG G w)) (QI G z) 0 0 (gA G) := by
  refine Met.ofW (cc := cX8_pack) (maxL := 3) (ret := (some .int)) (by decide) rfl ?_
  intro p e s m args below meth c s₁ B hml hv
  obtain ⟨rfl, S⟩ := hv
  have F : CallFix p m c cX8_pack 3 s _ (wsU yX8_pack cX8_pack 3 (some .int)) RX8 := ⟨B.exec, B.bytes, hml, findClass_of_methodNamed B.named, atoms_spec B.pre⟩
  have hr := B.returns
  have hlk := B.notSynchronized
  obtain ⟨hx, hb, -, hown, hts⟩ := id F
  have hg : ∀ q ∈ lwg, q.before _ s = true := fun q h => hts q (List.mem_cons_of_mem _ h)
  refine g_entry (Nat.le_of_ble_eq_true rfl) (fun ls hl => ?_)
  have hl : lv_has ls 3 [(0, .ref (gad G k0))] := hl
  have S : St G w s s.heap [] := S
  generalize s.heap = H at S ⊢
  generalize ([] : List Loc) = locs at S ⊢
  rw [f_X8_pack] at hz
  refine lv_iconst (v := 0) hx hb dX8_pack_0 (by decide) ?_
  refine lv_istore_n (lv' := [(1, .int 0), (0, .ref (gad G k0))]) hx hb dX8_pack_1 rfl hl (by decide) rfl (fun ls hl => ?_)
  refine lv_iconst (v := 0) hx hb dX8_pack_2 (by decide) ?_
  refine lv_istore_n (lv' := [(2, .int 0), (1, .int 0), (0, .ref (gad G k0))]) hx hb dX8_pack_3 rfl hl (by decide) rfl (fun ls hl => ?_)
  exact w_X8_pack_4 F hr hlk fu k0 0 0 hk0 _ _ _ _ S (lv_sub hl [2, 1, 0] rfl) hz
noncomputable def f_X0_countOn_32  : Nat → Int32 → Int32 → Int32 → GW → Option (Int32 × GW)
  | 0, _, _, _, _ => none
  | n9 + 1, x1, x2, x3, w =>
    if (gI w (fxH (gR w 3)) 1) ≤ x3 then
      some (0, w)
    else
      if x1 ≤ x2 then
        if inb x3 5 then
        if inb x3 5 then
        f_X0_countOn_32 n9 x1 (x2 - (gI w 113 (ix x3))) (x3 + 1) (sI w 113 (ix x3) 0)
        else none
        else none
      else
        if inb x3 5 then
        if inb x3 5 then
        some (1, (sI w 113 (ix x3) ((gI w 113 (ix x3)) + 1)))
        else none
        else none
noncomputable def f_X0_countOn_4  : Nat → Int32 → Int32 → Int32 → GW → Option (Int32 × GW)
  | 0, _, _, _, _ => none
  | n9 + 1, x1, x2, x3, w =>
    if (gI w (fxH (gR w 3)) 1) ≤ x3 then
      f_X0_countOn_32 fu x1 x2 0 w
    else
      if inb x3 5 then
      f_X0_countOn_4 n9 x1 (x2 + (gI w 113 (ix x3))) (x3 + 1) w
      else none
noncomputable def f_X0_countOn (x1 : Int32) (w : GW) : Option (Int32 × GW) :=
  f_X0_countOn_4 fu x1 0 0 w
set_option maxHeartbeats 4000000 in
set_option maxRecDepth 100000 in
theorem w_X0_countOn_32 {p : Program} {l : Launch} {e : Env} {s : State} {m : MethodId} {args : Array Value} {below : List Frame} {meth : Method} {c : Code} {G : GG} (F : CallFix p m c cX0_countOn 4 s args (wsU yX0_countOn cX0_countOn 4 (some .boolean)) RX0) (hr : meth.sig.returnType = (some .boolean)) (hlk : meth.locks = false) {z : Int32 × GW} : ∀ (n9 : Nat), (∀ (x1 : Int32) (x2 : Int32) (x3 : Int32) (w : GW) (H : Heap) (locs : List Loc) (ls : Array Slot), St G w s H locs → lv_has ls 4 [(0, .ref (gad G 72)), (1, .int x1), (2, .int x2), (3, .int x3)] → f_X0_countOn_32 n9 x1 x2 x3 w = some z → W p l e (headSpec (wsU yX0_countOn cX0_countOn 4 (some .boolean)) rm_X0_countOn).room s m args below meth c H locs 0 0 (MQ below (QB G z) args s 0 0 (gA G)) (F0 m 32 ls [])) := by
  obtain ⟨hx, hb, hml, hown, hts⟩ := id F
  have hg : ∀ q ∈ lwg, q.before args s = true := fun q h => hts q (List.mem_cons_of_mem _ h)
  intro n9
  induction n9 with
  | zero =>
    intro x1 x2 x3 w H locs ls S hl hz
    rw [f_X0_countOn_32] at hz
    cases hz
  | succ n9 ih =>
    intro x1 x2 x3 w H locs ls S hl hz
    rw [f_X0_countOn_32] at hz
    refine lv_iload_n hx hb dX0_countOn_32 rfl (lv_at hl 3 rfl) ?_
    refine lv_aload_n hx hb dX0_countOn_33 rfl (lv_at hl 0 rfl) ?_
    refine fg_X0_8 hx hb (fun q h => hg q (tl_X0 q h)) hown (hg _ t_fl_X0_9) S (by decide) dX0_countOn_34 ?_
    refine fg_X3_1 hx hb (fun q h => hg q (tl_X3 q h)) hown (hg _ t_fl_X0_65) S (kd_H _) dX0_countOn_37 ?_
    refine lv_icmp_ge (tgt := 82) hx hb dX0_countOn_40 (by decide) (fun c2 => ?_) (fun c2 => ?_)
    · have hz := ipt (c2) hz
      refine lv_iconst (v := 0) hx hb dX0_countOn_82 (by decide) ?_
      exact g_retb hx hb hr hlk S isB_0 hz dX0_countOn_83
    · have hz := ipf (c2) hz
      refine lv_iload_n hx hb dX0_countOn_43 rfl (lv_at hl 2 rfl) ?_
      refine lv_iload_n hx hb dX0_countOn_44 rfl (lv_at hl 1 rfl) ?_
      refine lv_icmp_ge (tgt := 60) hx hb dX0_countOn_45 (by decide) (fun c3 => ?_) (fun c3 => ?_)
      · have hz := ipt (c3) hz
        refine lv_iload_n hx hb dX0_countOn_60 rfl (lv_at hl 2 rfl) ?_
        refine lv_aload_n hx hb dX0_countOn_61 rfl (lv_at hl 0 rfl) ?_
        refine fg_X0_4 hx hb (fun q h => hg q (tl_X0 q h)) hown (hg _ t_fl_X0_36) S (by decide) dX0_countOn_62 ?_
        refine lv_iload_n hx hb dX0_countOn_65 rfl (lv_at hl 3 rfl) ?_
        obtain ⟨h4, hz⟩ := ck hz
        refine g_iald hx hb S (isA_10 (by decide)) h4 dX0_countOn_66 ?_
        refine lv_isub hx hb dX0_countOn_67 ?_
        refine lv_istore_n (lv' := [(2, .int (x2 - (gI w 113 (ix x3)))), (0, .ref (gad G 72)), (1, .int x1), (3, .int x3)]) hx hb dX0_countOn_68 rfl hl (by decide) rfl (fun ls hl => ?_)
        refine lv_aload_n hx hb dX0_countOn_69 rfl (lv_at hl 1 rfl) ?_
        refine fg_X0_4 hx hb (fun q h => hg q (tl_X0 q h)) hown (hg _ t_fl_X0_36) S (by decide) dX0_countOn_70 ?_
        refine lv_iload_n hx hb dX0_countOn_73 rfl (lv_at hl 3 rfl) ?_
        refine lv_iconst (v := 0) hx hb dX0_countOn_74 (by decide) ?_
        obtain ⟨h5, hz⟩ := ck hz
        refine g_iast (x := 0) hx hb S (isA_10 (by decide)) h5 dX0_countOn_75 (fun H locs S => ?_)
        refine lv_iinc (v := (x3 + 1)) (lv' := [(3, .int (x3 + 1)), (2, .int (x2 - (gI w 113 (ix x3)))), (0, .ref (gad G 72)), (1, .int x1)]) hx hb dX0_countOn_76 hl (k := 3) rfl rfl (by decide) rfl (fun ls hl => ?_)
        refine lv_goto (tgt := 32) hx hb dX0_countOn_79 (by decide) ?_
        exact ih x1 (x2 - (gI w 113 (ix x3))) (x3 + 1)  _ _ _ _ S (lv_sub hl [2, 3, 1, 0] rfl) hz
      · have hz := ipf (c3) hz
        refine lv_aload_n hx hb dX0_countOn_48 rfl (lv_at hl 0 rfl) ?_
        refine fg_X0_4 hx hb (fun q h => hg q (tl_X0 q h)) hown (hg _ t_fl_X0_36) S (by decide) dX0_countOn_49 ?_
        refine lv_iload_n hx hb dX0_countOn_52 rfl (lv_at hl 3 rfl) ?_
        refine lv_dup2_11 hx hb dX0_countOn_53 rfl rfl ?_
        obtain ⟨h6, hz⟩ := ck hz
        refine g_iald hx hb S (isA_10 (by decide)) h6 dX0_countOn_54 ?_
        refine lv_iconst (v := 1) hx hb dX0_countOn_55 (by decide) ?_
        refine lv_iadd hx hb dX0_countOn_56 ?_
        obtain ⟨h7, hz⟩ := ck hz
        refine g_iast (x := ((gI w 113 (ix x3)) + 1)) hx hb S (isA_10 (by decide)) h7 dX0_countOn_57 (fun H locs S => ?_)
        refine lv_iconst (v := 1) hx hb dX0_countOn_58 (by decide) ?_
        exact g_retb hx hb hr hlk S isB_1 hz dX0_countOn_59
set_option maxHeartbeats 4000000 in
set_option maxRecDepth 100000 in
theorem w_X0_countOn_4 {p : Program} {l : Launch} {e : Env} {s : State} {m : MethodId} {args : Array Value} {below : List Frame} {meth : Method} {c : Code} {G : GG} (F : CallFix p m c cX0_countOn 4 s args (wsU yX0_countOn cX0_countOn 4 (some .boolean)) RX0) (hr : meth.sig.returnType = (some .boolean)) (hlk : meth.locks = false) {z : Int32 × GW} : ∀ (n9 : Nat), (∀ (x1 : Int32) (x2 : Int32) (x3 : Int32) (w : GW) (H : Heap) (locs : List Loc) (ls : Array Slot), St G w s H locs → lv_has ls 4 [(0, .ref (gad G 72)), (1, .int x1), (2, .int x2), (3, .int x3)] → f_X0_countOn_4 n9 x1 x2 x3 w = some z → W p l e (headSpec (wsU yX0_countOn cX0_countOn 4 (some .boolean)) rm_X0_countOn).room s m args below meth c H locs 0 0 (MQ below (QB G z) args s 0 0 (gA G)) (F0 m 4 ls [])) := by
  obtain ⟨hx, hb, hml, hown, hts⟩ := id F
  have hg : ∀ q ∈ lwg, q.before args s = true := fun q h => hts q (List.mem_cons_of_mem _ h)
  intro n9
  induction n9 with
  | zero =>
    intro x1 x2 x3 w H locs ls S hl hz
    rw [f_X0_countOn_4] at hz
    cases hz
  | succ n9 ih =>
    intro x1 x2 x3 w H locs ls S hl hz
    rw [f_X0_countOn_4] at hz
    refine lv_iload_n hx hb dX0_countOn_4 rfl (lv_at hl 3 rfl) ?_
    refine lv_aload_n hx hb dX0_countOn_5 rfl (lv_at hl 0 rfl) ?_
    refine fg_X0_8 hx hb (fun q h => hg q (tl_X0 q h)) hown (hg _ t_fl_X0_9) S (by decide) dX0_countOn_6 ?_
    refine fg_X3_1 hx hb (fun q h => hg q (tl_X3 q h)) hown (hg _ t_fl_X0_65) S (kd_H _) dX0_countOn_9 ?_
    refine lv_icmp_ge (tgt := 30) hx hb dX0_countOn_12 (by decide) (fun c1 => ?_) (fun c1 => ?_)
    · have hz := ipt (c1) hz
      refine lv_iconst (v := 0) hx hb dX0_countOn_30 (by decide) ?_
      refine lv_istore_n (lv' := [(3, .int 0), (0, .ref (gad G 72)), (1, .int x1), (2, .int x2)]) hx hb dX0_countOn_31 rfl hl (by decide) rfl (fun ls hl => ?_)
      exact w_X0_countOn_32 F hr hlk fu x1 x2 0 _ _ _ _ S (lv_sub hl [1, 2, 3, 0] rfl) hz
    · have hz := ipf (c1) hz
      refine lv_iload_n hx hb dX0_countOn_15 rfl (lv_at hl 2 rfl) ?_
      refine lv_aload_n hx hb dX0_countOn_16 rfl (lv_at hl 0 rfl) ?_
      refine fg_X0_4 hx hb (fun q h => hg q (tl_X0 q h)) hown (hg _ t_fl_X0_36) S (by decide) dX0_countOn_17 ?_
      refine lv_iload_n hx hb dX0_countOn_20 rfl (lv_at hl 3 rfl) ?_
      obtain ⟨h8, hz⟩ := ck hz
      refine g_iald hx hb S (isA_10 (by decide)) h8 dX0_countOn_21 ?_
      refine lv_iadd hx hb dX0_countOn_22 ?_
      refine lv_istore_n (lv' := [(2, .int (x2 + (gI w 113 (ix x3)))), (0, .ref (gad G 72)), (1, .int x1), (3, .int x3)]) hx hb dX0_countOn_23 rfl hl (by decide) rfl (fun ls hl => ?_)
      refine lv_iinc (v := (x3 + 1)) (lv' := [(3, .int (x3 + 1)), (2, .int (x2 + (gI w 113 (ix x3)))), (0, .ref (gad G 72)), (1, .int x1)]) hx hb dX0_countOn_24 hl (k := 3) rfl rfl (by decide) rfl (fun ls hl => ?_)
      refine lv_goto (tgt := 4) hx hb dX0_countOn_27 (by decide) ?_
      exact ih x1 (x2 + (gI w 113 (ix x3))) (x3 + 1)  _ _ _ _ S (lv_sub hl [2, 3, 1, 0] rfl) hz
set_option maxHeartbeats 4000000 in
set_option maxRecDepth 100000 in
theorem c_X0_countOn (l : Launch) (G : GG) (x1 : Int32)  (w : GW) {z : Int32 × GW} (hz : f_X0_countOn x1 w = some z) : Met l yX0_countOn (wsU yX0_countOn cX0_countOn 4 (some .boolean)) rm_X0_countOn (va_Pc [.ref (gad G 72), .int x1] (PreG G w)) (QB G z) 0 0 (gA G) := by
  refine Met.ofW (cc := cX0_countOn) (maxL := 4) (ret := (some .boolean)) (by decide) rfl ?_
  intro p e s m args below meth c s₁ B hml hv
  obtain ⟨rfl, S⟩ := hv
  have F : CallFix p m c cX0_countOn 4 s _ (wsU yX0_countOn cX0_countOn 4 (some .boolean)) RX0 := ⟨B.exec, B.bytes, hml, findClass_of_methodNamed B.named, atoms_spec B.pre⟩
  have hr := B.returns
  have hlk := B.notSynchronized
  obtain ⟨hx, hb, -, hown, hts⟩ := id F
  have hg : ∀ q ∈ lwg, q.before _ s = true := fun q h => hts q (List.mem_cons_of_mem _ h)
  refine g_entry (Nat.le_of_ble_eq_true rfl) (fun ls hl => ?_)
  have hl : lv_has ls 4 [(0, .ref (gad G 72)), (1, .int x1)] := hl
  have S : St G w s s.heap [] := S
  generalize s.heap = H at S ⊢
  generalize ([] : List Loc) = locs at S ⊢
  rw [f_X0_countOn] at hz
  refine lv_iconst (v := 0) hx hb dX0_countOn_0 (by decide) ?_
  refine lv_istore_n (lv' := [(2, .int 0), (0, .ref (gad G 72)), (1, .int x1)]) hx hb dX0_countOn_1 rfl hl (by decide) rfl (fun ls hl => ?_)
  refine lv_iconst (v := 0) hx hb dX0_countOn_2 (by decide) ?_
  refine lv_istore_n (lv' := [(3, .int 0), (2, .int 0), (0, .ref (gad G 72)), (1, .int x1)]) hx hb dX0_countOn_3 rfl hl (by decide) rfl (fun ls hl => ?_)
  exact w_X0_countOn_4 F hr hlk fu x1 0 0 _ _ _ _ S (lv_sub hl [2, 3, 1, 0] rfl) hz
noncomputable def f_X0_begin_104 (k_63 : Int32 → Int32 → Int32 → GW → Option (Unit × GW)) (x2 : Int32) (x4 : Int32) (w : GW) : Option (Unit × GW) :=
  (f_X0_countOn x2 w).bind fun q10 =>
  k_63 x2 q10.1 (x4 + 1) q10.2
noncomputable def f_X0_begin_63  : Nat → Int32 → Int32 → Int32 → GW → Option (Unit × GW)
  | 0, _, _, _, _ => none
  | n9 + 1, x2, x3, x4, w =>
    if 1287 ≤ x4 then
      some ((), w)
    else
      if x3 = 0 then
        some ((), w)
      else
        (f_X0_rank 113 w).bind fun q7 =>
        if q7.1 < 0 then
          f_X0_begin_104 (f_X0_begin_63 n9) x2 x4 q7.2
        else
          (f_X8_pack 113 q7.2).bind fun q13 =>
          if inb q7.1 1287 then
          f_X0_begin_104 (f_X0_begin_63 n9) x2 x4 (sI q13.2 112 (ix q7.1) q13.1)
          else none
noncomputable def f_X0_begin_28  : Nat → Int32 → GW → Option (Unit × GW)
  | 0, _, _ => none
  | n9 + 1, x2, w =>
    if 5 ≤ x2 then
      (f_X0_letters (gI w (fxH (gR w 3)) 2) w).bind fun q3 =>
      f_X0_begin_63 fu q3.1 1 0 q3.2
    else
      if inb x2 5 then
      f_X0_begin_28 n9 (x2 + 1) (sI w 113 (ix x2) 0)
      else none
noncomputable def f_X0_begin_7  : Nat → Int32 → GW → Option (Unit × GW)
  | 0, _, _ => none
  | n9 + 1, x2, w =>
    if 36 ≤ x2 then
      f_X0_begin_28 fu 0 w
    else
      if inb x2 36 then
      f_X0_begin_7 n9 (x2 + 1) (sI w 110 (ix x2) 0)
      else none
noncomputable def f_X0_begin (k1 : Nat) (w : GW) : Option (Unit × GW) :=
  f_X0_begin_7 fu 0 (sR w 3 k1)
set_option maxHeartbeats 4000000 in
set_option maxRecDepth 100000 in
theorem w_X0_begin_104 {p : Program} {l : Launch} {e : Env} {s : State} {m : MethodId} {args : Array Value} {below : List Frame} {meth : Method} {c : Code} {G : GG} (F : CallFix p m c cX0_begin 6 s args (wsU yX0_begin cX0_begin 6 none) RX0) (hr : meth.sig.returnType = none) (hlk : meth.locks = false) {z : Unit × GW} {k_63 : Int32 → Int32 → Int32 → GW → Option (Unit × GW)} (Hk_63 : (∀ (x2 : Int32) (x3 : Int32) (x4 : Int32) (w : GW) (H : Heap) (locs : List Loc) (ls : Array Slot), St G w s H locs → lv_has ls 6 [(0, .ref (gad G 72)), (2, .int x2), (3, .int x3), (4, .int x4)] → k_63 x2 x3 x4 w = some z → W p l e (headSpec (wsU yX0_begin cX0_begin 6 none) rm_X0_begin).room s m args below meth c H locs 0 0 (MQ below (QV G z) args s 0 0 (gA G)) (F0 m 63 ls []))) : (∀ (x2 : Int32) (x4 : Int32) (w : GW) (H : Heap) (locs : List Loc) (ls : Array Slot), St G w s H locs → lv_has ls 6 [(0, .ref (gad G 72)), (2, .int x2), (4, .int x4)] → f_X0_begin_104 k_63 x2 x4 w = some z → W p l e (headSpec (wsU yX0_begin cX0_begin 6 none) rm_X0_begin).room s m args below meth c H locs 0 0 (MQ below (QV G z) args s 0 0 (gA G)) (F0 m 104 ls [])) := by
  obtain ⟨hx, hb, hml, hown, hts⟩ := id F
  have hg : ∀ q ∈ lwg, q.before args s = true := fun q h => hts q (List.mem_cons_of_mem _ h)
  intro x2 x4 w H locs ls S hl hz
  rw [f_X0_begin_104] at hz
  refine lv_aload_n hx hb dX0_begin_104 rfl (lv_at hl 0 rfl) ?_
  refine lv_iload_n hx hb dX0_begin_105 rfl (lv_at hl 1 rfl) ?_
  obtain ⟨q10, e11, hz⟩ := bd hz
  refine g_callVb (As := [.int x2]) (rest := []) F S (c_X0_countOn l G x2  _ e11) (cw_X0_begin_X0_countOn_61 hg) (S.obj (by decide) (by decide) rfl (oc_X0 _ _ _ (by decide))) rfl hl.1 rfl (Nat.le_of_ble_eq_true rfl) ⟨Nat.zero_le _, Nat.zero_le _⟩ dX0_begin_106 (fun H locs hB12 S => ?_)
  refine lv_istore_n (lv' := [(3, .int q10.1), (0, .ref (gad G 72)), (2, .int x2), (4, .int x4)]) hx hb dX0_begin_109 rfl hl (by decide) rfl (fun ls hl => ?_)
  refine lv_iinc (v := (x4 + 1)) (lv' := [(4, .int (x4 + 1)), (3, .int q10.1), (0, .ref (gad G 72)), (2, .int x2)]) hx hb dX0_begin_110 hl (k := 3) rfl rfl (by decide) rfl (fun ls hl => ?_)
  refine lv_goto (tgt := 63) hx hb dX0_begin_113 (by decide) ?_
  exact Hk_63 x2 q10.1 (x4 + 1)  _ _ _ _ S (lv_sub hl [2, 3, 1, 0] rfl) hz
set_option maxHeartbeats 4000000 in
set_option maxRecDepth 100000 in
theorem w_X0_begin_63 {p : Program} {l : Launch} {e : Env} {s : State} {m : MethodId} {args : Array Value} {below : List Frame} {meth : Method} {c : Code} {G : GG} (F : CallFix p m c cX0_begin 6 s args (wsU yX0_begin cX0_begin 6 none) RX0) (hr : meth.sig.returnType = none) (hlk : meth.locks = false) {z : Unit × GW} : ∀ (n9 : Nat), (∀ (x2 : Int32) (x3 : Int32) (x4 : Int32) (w : GW) (H : Heap) (locs : List Loc) (ls : Array Slot), St G w s H locs → lv_has ls 6 [(0, .ref (gad G 72)), (2, .int x2), (3, .int x3), (4, .int x4)] → f_X0_begin_63 n9 x2 x3 x4 w = some z → W p l e (headSpec (wsU yX0_begin cX0_begin 6 none) rm_X0_begin).room s m args below meth c H locs 0 0 (MQ below (QV G z) args s 0 0 (gA G)) (F0 m 63 ls [])) := by
  obtain ⟨hx, hb, hml, hown, hts⟩ := id F
  have hg : ∀ q ∈ lwg, q.before args s = true := fun q h => hts q (List.mem_cons_of_mem _ h)
  intro n9
  induction n9 with
  | zero =>
    intro x2 x3 x4 w H locs ls S hl hz
    rw [f_X0_begin_63] at hz
    cases hz
  | succ n9 ih =>
    intro x2 x3 x4 w H locs ls S hl hz
    rw [f_X0_begin_63] at hz
    refine lv_iload hx hb dX0_begin_63 (lv_at hl 3 rfl) ?_
    refine lv_sipush (v := 1287) hx hb dX0_begin_65 (by decide) ?_
    refine lv_icmp_ge (tgt := 116) hx hb dX0_begin_68 (by decide) (fun c5 => ?_) (fun c5 => ?_)
    · have hz := ipt (c5) hz
      exact g_retv hx hb hr hlk S hz dX0_begin_116
    · have hz := ipf (c5) hz
      refine lv_iload_n hx hb dX0_begin_71 rfl (lv_at hl 2 rfl) ?_
      refine lv_if_eq (tgt := 116) hx hb dX0_begin_72 (by decide) (fun c6 => ?_) (fun c6 => ?_)
      · have hz := ipt (c6) hz
        exact g_retv hx hb hr hlk S hz dX0_begin_116
      · have hz := ipf (c6) hz
        refine lv_aload_n hx hb dX0_begin_75 rfl (lv_at hl 0 rfl) ?_
        refine lv_aload_n hx hb dX0_begin_76 rfl (lv_at hl 0 rfl) ?_
        refine fg_X0_4 hx hb (fun q h => hg q (tl_X0 q h)) hown (hg _ t_fl_X0_36) S (by decide) dX0_begin_77 ?_
        obtain ⟨q7, e8, hz⟩ := bd hz
        refine g_callVi (As := [.ref (gad G 113)]) (rest := []) F S (c_X0_rank l G 113 (by decide) _ e8) (cw_X0_begin_X0_rank_54 hg) (S.obj (by decide) (by decide) rfl (oc_X0 _ _ _ (by decide))) rfl hl.1 rfl (Nat.le_of_ble_eq_true rfl) ⟨Nat.zero_le _, Nat.zero_le _⟩ dX0_begin_80 (fun H locs  S => ?_)
        refine lv_istore (lv' := [(5, .int q7.1), (0, .ref (gad G 72)), (2, .int x2), (3, .int x3), (4, .int x4)]) hx hb dX0_begin_83 hl (by decide) rfl (fun ls hl => ?_)
        refine lv_iload hx hb dX0_begin_85 (lv_at hl 0 rfl) ?_
        refine lv_if_lt (tgt := 104) hx hb dX0_begin_87 (by decide) (fun c9 => ?_) (fun c9 => ?_)
        · have hz := ipt (c9) hz
          exact w_X0_begin_104 F hr hlk ih x2 x4 _ _ _ _ S (lv_sub hl [1, 2, 4] rfl) hz
        · have hz := ipf (c9) hz
          refine lv_aload_n hx hb dX0_begin_90 rfl (lv_at hl 1 rfl) ?_
          refine fg_X0_3 hx hb (fun q h => hg q (tl_X0 q h)) hown (hg _ t_fl_X0_32) S (by decide) dX0_begin_91 ?_
          refine lv_iload hx hb dX0_begin_94 (lv_at hl 0 rfl) ?_
          refine lv_aload_n hx hb dX0_begin_96 rfl (lv_at hl 1 rfl) ?_
          refine fg_X0_4 hx hb (fun q h => hg q (tl_X0 q h)) hown (hg _ t_fl_X0_36) S (by decide) dX0_begin_97 ?_
          obtain ⟨q13, e14, hz⟩ := bd hz
          refine g_callNi (As := [.ref (gad G 113)]) (rest := [.int q7.1, .ref (gad G 112)]) F S (c_X8_pack l G 113 (by decide) _ e14) (cw_X0_begin_X8_pack_58 hg S) rfl hl.1 rfl (Nat.le_of_ble_eq_true rfl) ⟨Nat.zero_le _, Nat.zero_le _⟩ dX0_begin_100 (fun H locs  S => ?_)
          obtain ⟨h15, hz⟩ := ck hz
          refine g_iast (x := q13.1) hx hb S (isA_13 (by decide)) h15 dX0_begin_103 (fun H locs S => ?_)
          exact w_X0_begin_104 F hr hlk ih x2 x4 _ _ _ _ S (lv_sub hl [1, 2, 4] rfl) hz
set_option maxHeartbeats 4000000 in
set_option maxRecDepth 100000 in
theorem w_X0_begin_28 {p : Program} {l : Launch} {e : Env} {s : State} {m : MethodId} {args : Array Value} {below : List Frame} {meth : Method} {c : Code} {G : GG} (F : CallFix p m c cX0_begin 6 s args (wsU yX0_begin cX0_begin 6 none) RX0) (hr : meth.sig.returnType = none) (hlk : meth.locks = false) {z : Unit × GW} : ∀ (n9 : Nat), (∀ (x2 : Int32) (w : GW) (H : Heap) (locs : List Loc) (ls : Array Slot), St G w s H locs → lv_has ls 6 [(0, .ref (gad G 72)), (2, .int x2)] → f_X0_begin_28 n9 x2 w = some z → W p l e (headSpec (wsU yX0_begin cX0_begin 6 none) rm_X0_begin).room s m args below meth c H locs 0 0 (MQ below (QV G z) args s 0 0 (gA G)) (F0 m 28 ls [])) := by
  obtain ⟨hx, hb, hml, hown, hts⟩ := id F
  have hg : ∀ q ∈ lwg, q.before args s = true := fun q h => hts q (List.mem_cons_of_mem _ h)
  intro n9
  induction n9 with
  | zero =>
    intro x2 w H locs ls S hl hz
    rw [f_X0_begin_28] at hz
    cases hz
  | succ n9 ih =>
    intro x2 w H locs ls S hl hz
    rw [f_X0_begin_28] at hz
    refine lv_iload_n hx hb dX0_begin_28 rfl (lv_at hl 1 rfl) ?_
    refine lv_iconst (v := 5) hx hb dX0_begin_29 (by decide) ?_
    refine lv_icmp_ge (tgt := 46) hx hb dX0_begin_30 (by decide) (fun c2 => ?_) (fun c2 => ?_)
    · have hz := ipt (c2) hz
      refine lv_aload_n hx hb dX0_begin_46 rfl (lv_at hl 0 rfl) ?_
      refine lv_aload_n hx hb dX0_begin_47 rfl (lv_at hl 0 rfl) ?_
      refine fg_X0_8 hx hb (fun q h => hg q (tl_X0 q h)) hown (hg _ t_fl_X0_9) S (by decide) dX0_begin_48 ?_
      refine fg_X3_2 hx hb (fun q h => hg q (tl_X3 q h)) hown (hg _ t_fl_X0_45) S (kd_H _) dX0_begin_51 ?_
      obtain ⟨q3, e4, hz⟩ := bd hz
      refine g_callVi (As := [.int (gI w (fxH (gR w 3)) 2)]) (rest := []) F S (c_X0_letters l G (gI w (fxH (gR w 3)) 2)  _ e4) (cw_X0_begin_X0_letters_51 hg) (S.obj (by decide) (by decide) rfl (oc_X0 _ _ _ (by decide))) rfl hl.1 rfl (Nat.le_of_ble_eq_true rfl) ⟨Nat.zero_le _, Nat.zero_le _⟩ dX0_begin_54 (fun H locs  S => ?_)
      refine lv_istore_n (lv' := [(2, .int q3.1), (0, .ref (gad G 72))]) hx hb dX0_begin_57 rfl hl (by decide) rfl (fun ls hl => ?_)
      refine lv_iconst (v := 1) hx hb dX0_begin_58 (by decide) ?_
      refine lv_istore_n (lv' := [(3, .int 1), (2, .int q3.1), (0, .ref (gad G 72))]) hx hb dX0_begin_59 rfl hl (by decide) rfl (fun ls hl => ?_)
      refine lv_iconst (v := 0) hx hb dX0_begin_60 (by decide) ?_
      refine lv_istore (lv' := [(4, .int 0), (3, .int 1), (2, .int q3.1), (0, .ref (gad G 72))]) hx hb dX0_begin_61 hl (by decide) rfl (fun ls hl => ?_)
      exact w_X0_begin_63 F hr hlk fu q3.1 1 0 _ _ _ _ S (lv_sub hl [3, 2, 1, 0] rfl) hz
    · have hz := ipf (c2) hz
      refine lv_aload_n hx hb dX0_begin_33 rfl (lv_at hl 0 rfl) ?_
      refine fg_X0_4 hx hb (fun q h => hg q (tl_X0 q h)) hown (hg _ t_fl_X0_36) S (by decide) dX0_begin_34 ?_
      refine lv_iload_n hx hb dX0_begin_37 rfl (lv_at hl 1 rfl) ?_
      refine lv_iconst (v := 0) hx hb dX0_begin_38 (by decide) ?_
      obtain ⟨h16, hz⟩ := ck hz
      refine g_iast (x := 0) hx hb S (isA_10 (by decide)) h16 dX0_begin_39 (fun H locs S => ?_)
      refine lv_iinc (v := (x2 + 1)) (lv' := [(2, .int (x2 + 1)), (0, .ref (gad G 72))]) hx hb dX0_begin_40 hl (k := 1) rfl rfl (by decide) rfl (fun ls hl => ?_)
      refine lv_goto (tgt := 28) hx hb dX0_begin_43 (by decide) ?_
      exact ih (x2 + 1)  _ _ _ _ S (lv_sub hl [1, 0] rfl) hz
set_option maxHeartbeats 4000000 in
set_option maxRecDepth 100000 in
theorem w_X0_begin_7 {p : Program} {l : Launch} {e : Env} {s : State} {m : MethodId} {args : Array Value} {below : List Frame} {meth : Method} {c : Code} {G : GG} (F : CallFix p m c cX0_begin 6 s args (wsU yX0_begin cX0_begin 6 none) RX0) (hr : meth.sig.returnType = none) (hlk : meth.locks = false) {z : Unit × GW} : ∀ (n9 : Nat), (∀ (x2 : Int32) (w : GW) (H : Heap) (locs : List Loc) (ls : Array Slot), St G w s H locs → lv_has ls 6 [(0, .ref (gad G 72)), (2, .int x2)] → f_X0_begin_7 n9 x2 w = some z → W p l e (headSpec (wsU yX0_begin cX0_begin 6 none) rm_X0_begin).room s m args below meth c H locs 0 0 (MQ below (QV G z) args s 0 0 (gA G)) (F0 m 7 ls [])) := by
  obtain ⟨hx, hb, hml, hown, hts⟩ := id F
  have hg : ∀ q ∈ lwg, q.before args s = true := fun q h => hts q (List.mem_cons_of_mem _ h)
  intro n9
  induction n9 with
  | zero =>
    intro x2 w H locs ls S hl hz
    rw [f_X0_begin_7] at hz
    cases hz
  | succ n9 ih =>
    intro x2 w H locs ls S hl hz
    rw [f_X0_begin_7] at hz
    refine lv_iload_n hx hb dX0_begin_7 rfl (lv_at hl 1 rfl) ?_
    refine lv_bipush (v := 36) hx hb dX0_begin_8 (by decide) ?_
    refine lv_icmp_ge (tgt := 26) hx hb dX0_begin_10 (by decide) (fun c1 => ?_) (fun c1 => ?_)
    · have hz := ipt (c1) hz
      refine lv_iconst (v := 0) hx hb dX0_begin_26 (by decide) ?_
      refine lv_istore_n (lv' := [(2, .int 0), (0, .ref (gad G 72))]) hx hb dX0_begin_27 rfl hl (by decide) rfl (fun ls hl => ?_)
      exact w_X0_begin_28 F hr hlk fu 0 _ _ _ _ S (lv_sub hl [1, 0] rfl) hz
    · have hz := ipf (c1) hz
      refine lv_aload_n hx hb dX0_begin_13 rfl (lv_at hl 0 rfl) ?_
      refine fg_X0_1 hx hb (fun q h => hg q (tl_X0 q h)) hown (hg _ t_fl_X0_24) S (by decide) dX0_begin_14 ?_
      refine lv_iload_n hx hb dX0_begin_17 rfl (lv_at hl 1 rfl) ?_
      refine lv_iconst (v := 0) hx hb dX0_begin_18 (by decide) ?_
      obtain ⟨h17, hz⟩ := ck hz
      refine g_zast (x := 0) hx hb S (isA_30 (by decide)) h17 isB_0 dX0_begin_19 (fun H locs S => ?_)
      refine lv_iinc (v := (x2 + 1)) (lv' := [(2, .int (x2 + 1)), (0, .ref (gad G 72))]) hx hb dX0_begin_20 hl (k := 1) rfl rfl (by decide) rfl (fun ls hl => ?_)
      refine lv_goto (tgt := 7) hx hb dX0_begin_23 (by decide) ?_
      exact ih (x2 + 1)  _ _ _ _ S (lv_sub hl [1, 0] rfl) hz
set_option maxHeartbeats 4000000 in
set_option maxRecDepth 100000 in
theorem c_X0_begin (l : Launch) (G : GG) (k1 : Nat) (hk1 : kd k1 = 3) (w : GW) {z : Unit × GW} (hz : f_X0_begin k1 w = some z) : Met l yX0_begin (wsU yX0_begin cX0_begin 6 none) rm_X0_begin (va_Pc [.ref (gad G 72), .ref (gad G k1)] (PreG G w)) (QV G z) 0 0 (gA G) := by
  refine Met.ofW (cc := cX0_begin) (maxL := 6) (ret := none) (by decide) rfl ?_
  intro p e s m args below meth c s₁ B hml hv
  obtain ⟨rfl, S⟩ := hv
  have F : CallFix p m c cX0_begin 6 s _ (wsU yX0_begin cX0_begin 6 none) RX0 := ⟨B.exec, B.bytes, hml, findClass_of_methodNamed B.named, atoms_spec B.pre⟩
  have hr := B.returns
  have hlk := B.notSynchronized
  obtain ⟨hx, hb, -, hown, hts⟩ := id F
  have hg : ∀ q ∈ lwg, q.before _ s = true := fun q h => hts q (List.mem_cons_of_mem _ h)
  refine g_entry (Nat.le_of_ble_eq_true rfl) (fun ls hl => ?_)
  have hl : lv_has ls 6 [(0, .ref (gad G 72)), (1, .ref (gad G k1))] := hl
  have S : St G w s s.heap [] := S
  generalize s.heap = H at S ⊢
  generalize ([] : List Loc) = locs at S ⊢
  rw [f_X0_begin] at hz
  refine lv_aload_n hx hb dX0_begin_0 rfl (lv_at hl 0 rfl) ?_
  refine lv_aload_n hx hb dX0_begin_1 rfl (lv_at hl 1 rfl) ?_
  refine fp_X0_8 (v := k1) hx hb (fun q h => hg q (tl_X0 q h)) hown (hg _ t_fl_X0_9) S (by decide) hk1 dX0_begin_2 (fun H locs S => ?_)
  refine lv_iconst (v := 0) hx hb dX0_begin_5 (by decide) ?_
  refine lv_istore_n (lv' := [(2, .int 0), (0, .ref (gad G 72)), (1, .ref (gad G k1))]) hx hb dX0_begin_6 rfl hl (by decide) rfl (fun ls hl => ?_)
  exact w_X0_begin_7 F hr hlk fu 0 _ _ _ _ S (lv_sub hl [1, 0] rfl) hz
noncomputable def f_X0_first (x1 : Int32) (w : GW) : Option (Int32 × GW) :=
  if (gI w (fxH (gR w 3)) 1) ≤ 0 then
    some (0, w)
  else
    if inb ((((gI w (fxH (gR w 3)) 1) - 1) * 10) + x1) 50 then
    some ((fewA (ix ((((gI w (fxH (gR w 3)) 1) - 1) * 10) + x1))), w)
    else none
set_option maxHeartbeats 4000000 in
set_option maxRecDepth 100000 in
theorem c_X0_first (l : Launch) (G : GG) (x1 : Int32)  (w : GW) {z : Int32 × GW} (hz : f_X0_first x1 w = some z) : Met l yX0_first (wsU yX0_first cX0_first 2 (some .int)) rm_X0_first (va_Pc [.ref (gad G 72), .int x1] (PreG G w)) (QI G z) 0 0 (gA G) := by
  refine Met.ofW (cc := cX0_first) (maxL := 2) (ret := (some .int)) (by decide) rfl ?_
  intro p e s m args below meth c s₁ B hml hv
  obtain ⟨rfl, S⟩ := hv
  have F : CallFix p m c cX0_first 2 s _ (wsU yX0_first cX0_first 2 (some .int)) RX0 := ⟨B.exec, B.bytes, hml, findClass_of_methodNamed B.named, atoms_spec B.pre⟩
  have hr := B.returns
  have hlk := B.notSynchronized
  obtain ⟨hx, hb, -, hown, hts⟩ := id F
  have hg : ∀ q ∈ lwg, q.before _ s = true := fun q h => hts q (List.mem_cons_of_mem _ h)
  refine g_entry (Nat.le_of_ble_eq_true rfl) (fun ls hl => ?_)
  have hl : lv_has ls 2 [(0, .ref (gad G 72)), (1, .int x1)] := hl
  have S : St G w s s.heap [] := S
  generalize s.heap = H at S ⊢
  generalize ([] : List Loc) = locs at S ⊢
  rw [f_X0_first] at hz
  refine lv_aload_n hx hb dX0_first_0 rfl (lv_at hl 0 rfl) ?_
  refine fg_X0_8 hx hb (fun q h => hg q (tl_X0 q h)) hown (hg _ t_fl_X0_9) S (by decide) dX0_first_1 ?_
  refine fg_X3_1 hx hb (fun q h => hg q (tl_X3 q h)) hown (hg _ t_fl_X0_65) S (kd_H _) dX0_first_4 ?_
  refine lv_if_le (tgt := 31) hx hb dX0_first_7 (by decide) (fun c1 => ?_) (fun c1 => ?_)
  · have hz := ipt (c1) hz
    refine lv_iconst (v := 0) hx hb dX0_first_31 (by decide) ?_
    exact g_reti hx hb hr hlk S hz dX0_first_32
  · have hz := ipf (c1) hz
    refine g_few hx hb S hown dX0_first_10 ?_
    refine lv_aload_n hx hb dX0_first_13 rfl (lv_at hl 0 rfl) ?_
    refine fg_X0_8 hx hb (fun q h => hg q (tl_X0 q h)) hown (hg _ t_fl_X0_9) S (by decide) dX0_first_14 ?_
    refine fg_X3_1 hx hb (fun q h => hg q (tl_X3 q h)) hown (hg _ t_fl_X0_65) S (kd_H _) dX0_first_17 ?_
    refine lv_iconst (v := 1) hx hb dX0_first_20 (by decide) ?_
    refine lv_isub hx hb dX0_first_21 ?_
    refine lv_bipush (v := 10) hx hb dX0_first_22 (by decide) ?_
    refine lv_imul hx hb dX0_first_24 ?_
    refine lv_iload_n hx hb dX0_first_25 rfl (lv_at hl 1 rfl) ?_
    refine lv_iadd hx hb dX0_first_26 ?_
    obtain ⟨h2, hz⟩ := ck hz
    refine g_fewld hx hb S h2 dX0_first_27 ?_
    refine lv_goto (tgt := 32) hx hb dX0_first_28 (by decide) ?_
    exact g_reti hx hb hr hlk S hz dX0_first_32
noncomputable def f_X3_isDoors (k0 : Nat) (x1 : Int32) (w : GW) : Option (Int32 × GW) :=
  if (gI w k0 6) ≤ 0 then
    some (0, w)
  else
    if ¬ (gI w k0 6) = 0 then
    if (irm x1 (gI w k0 6)) = 0 then
      some (1, w)
    else
      some (0, w)
    else none
set_option maxHeartbeats 4000000 in
set_option maxRecDepth 100000 in
theorem c_X3_isDoors (l : Launch) (G : GG) (k0 : Nat) (x1 : Int32) (hk0 : kd k0 = 3) (w : GW) {z : Int32 × GW} (hz : f_X3_isDoors k0 x1 w = some z) : Met l yX3_isDoors (wsU yX3_isDoors cX3_isDoors 2 (some .boolean)) rm_X3_isDoors (va_Pc [.ref (gad G k0), .int x1] (PreG G w)) (QB G z) 0 0 (gA G) := by
  refine Met.ofW (cc := cX3_isDoors) (maxL := 2) (ret := (some .boolean)) (by decide) rfl ?_
  intro p e s m args below meth c s₁ B hml hv
  obtain ⟨rfl, S⟩ := hv
  have F : CallFix p m c cX3_isDoors 2 s _ (wsU yX3_isDoors cX3_isDoors 2 (some .boolean)) RX3 := ⟨B.exec, B.bytes, hml, findClass_of_methodNamed B.named, atoms_spec B.pre⟩
  have hr := B.returns
  have hlk := B.notSynchronized
  obtain ⟨hx, hb, -, hown, hts⟩ := id F
  have hg : ∀ q ∈ lwg, q.before _ s = true := fun q h => hts q (List.mem_cons_of_mem _ h)
  refine g_entry (Nat.le_of_ble_eq_true rfl) (fun ls hl => ?_)
  have hl : lv_has ls 2 [(0, .ref (gad G k0)), (1, .int x1)] := hl
  have S : St G w s s.heap [] := S
  generalize s.heap = H at S ⊢
  generalize ([] : List Loc) = locs at S ⊢
  rw [f_X3_isDoors] at hz
  refine lv_aload_n hx hb dX3_isDoors_0 rfl (lv_at hl 0 rfl) ?_
  refine fg_X3_6 hx hb (fun q h => hg q (tl_X3 q h)) hown (hg _ t_fl_X3_52) S hk0 dX3_isDoors_1 ?_
  refine lv_if_le (tgt := 20) hx hb dX3_isDoors_4 (by decide) (fun c1 => ?_) (fun c1 => ?_)
  · have hz := ipt (c1) hz
    refine lv_iconst (v := 0) hx hb dX3_isDoors_20 (by decide) ?_
    exact g_retb hx hb hr hlk S isB_0 hz dX3_isDoors_21
  · have hz := ipf (c1) hz
    refine lv_iload_n hx hb dX3_isDoors_7 rfl (lv_at hl 1 rfl) ?_
    refine lv_aload_n hx hb dX3_isDoors_8 rfl (lv_at hl 0 rfl) ?_
    refine fg_X3_6 hx hb (fun q h => hg q (tl_X3 q h)) hown (hg _ t_fl_X3_52) S hk0 dX3_isDoors_9 ?_
    obtain ⟨h2, hz⟩ := ck hz
    refine g_irem hx hb dX3_isDoors_12 h2 ?_
    refine lv_if_ne (tgt := 20) hx hb dX3_isDoors_13 (by decide) (fun c3 => ?_) (fun c3 => ?_)
    · have hz := ipf (c3) hz
      refine lv_iconst (v := 0) hx hb dX3_isDoors_20 (by decide) ?_
      exact g_retb hx hb hr hlk S isB_0 hz dX3_isDoors_21
    · have hz := ipt (c3) hz
      refine lv_iconst (v := 1) hx hb dX3_isDoors_16 (by decide) ?_
      refine lv_goto (tgt := 21) hx hb dX3_isDoors_17 (by decide) ?_
      exact g_retb hx hb hr hlk S isB_1 hz dX3_isDoors_21
noncomputable def f_X3_tooMany_111 (k_80 : Nat → Int32 → Int64 → Int64 → Int64 → Int32 → GW → Option (Int32 × GW)) (k0 : Nat) (x2 : Int32) (x3 : Int64) (x5 : Int64) (x7 : Int64) (x9 : Int32) (w : GW) : Option (Int32 × GW) :=
  k_80 k0 x2 x3 x5 x7 (x9 + 1) w
noncomputable def f_X3_tooMany_80  : Nat → Nat → Int32 → Int64 → Int64 → Int64 → Int32 → GW → Option (Int32 × GW)
  | 0, _, _, _, _, _, _, _ => none
  | n9 + 1, k0, x2, x3, x5, x7, x9, w =>
    if x2 < x9 then
      some (0, w)
    else
      (f_X3_isDoors k0 x9 w).bind fun q5 =>
      if q5.1 = 0 then
        if x7 ≤ x5 then
          f_X3_tooMany_111 (f_X3_tooMany_80 n9) k0 x2 x3 x5 (x7 * x3) x9 q5.2
        else
          some (1, q5.2)
      else
        f_X3_tooMany_111 (f_X3_tooMany_80 n9) k0 x2 x3 x5 x7 x9 q5.2
noncomputable def f_X3_tooMany_72  (k0 : Nat) (x2 : Int32) (x3 : Int64) (t0 : Int64) (w : GW) : Option (Int32 × GW) :=
  f_X3_tooMany_80 fu k0 x2 x3 t0 1 1 w
noncomputable def f_X3_tooMany_57  (k0 : Nat) (x2 : Int32) (x3 : Int64) (w : GW) : Option (Int32 × GW) :=
  if x3 ≤ 0 then
    f_X3_tooMany_72 k0 x2 x3 0 w
  else
    if ¬ x3 = 0 then
    f_X3_tooMany_72 k0 x2 x3 (1000000000000000 / x3) w
    else none
noncomputable def f_X3_tooMany_55  (k0 : Nat) (x2 : Int32) (t0 : Int64) (t1 : Int64) (w : GW) : Option (Int32 × GW) :=
  f_X3_tooMany_57 k0 x2 (t1 * t0) w
noncomputable def f_X3_tooMany_5  : Nat → Nat → Nat → Int32 → Int64 → Int32 → GW → Option (Int32 × GW)
  | 0, _, _, _, _, _, _ => none
  | n9 + 1, k0, k1, x2, x3, x5, w =>
    if (gI w k1 0) ≤ x5 then
      if (gI w k1 1) = 0 then
        if (gI w k1 0) = 3 then
          f_X3_tooMany_55 k0 x2 6 x3 w
        else
          f_X3_tooMany_55 k0 x2 ((gI w k1 0).toInt64) x3 w
      else
        f_X3_tooMany_57 k0 x2 x3 w
    else
      f_X3_tooMany_5 n9 k0 k1 x2 (x3 * ((gI w k0 4).toInt64)) (x5 + 1) w
noncomputable def f_X3_tooMany (k0 : Nat) (k1 : Nat) (x2 : Int32) (w : GW) : Option (Int32 × GW) :=
  f_X3_tooMany_5 fu k0 k1 x2 1 0 w
set_option maxHeartbeats 4000000 in
set_option maxRecDepth 100000 in
theorem w_X3_tooMany_111 {p : Program} {l : Launch} {e : Env} {s : State} {m : MethodId} {args : Array Value} {below : List Frame} {meth : Method} {c : Code} {G : GG} (F : CallFix p m c cX3_tooMany 10 s args (wsU yX3_tooMany cX3_tooMany 10 (some .boolean)) RX3) (hr : meth.sig.returnType = (some .boolean)) (hlk : meth.locks = false) {z : Int32 × GW} {k_80 : Nat → Int32 → Int64 → Int64 → Int64 → Int32 → GW → Option (Int32 × GW)} (Hk_80 : (∀ (k0 : Nat) (x2 : Int32) (x3 : Int64) (x5 : Int64) (x7 : Int64) (x9 : Int32) (hk0 : kd k0 = 3) (w : GW) (H : Heap) (locs : List Loc) (ls : Array Slot), St G w s H locs → lv_has ls 10 [(0, .ref (gad G k0)), (2, .int x2), (3, .long x3), (5, .long x5), (7, .long x7), (9, .int x9)] → k_80 k0 x2 x3 x5 x7 x9 w = some z → W p l e (headSpec (wsU yX3_tooMany cX3_tooMany 10 (some .boolean)) rm_X3_tooMany).room s m args below meth c H locs 0 0 (MQ below (QB G z) args s 0 0 (gA G)) (F0 m 80 ls []))) : (∀ (k0 : Nat) (x2 : Int32) (x3 : Int64) (x5 : Int64) (x7 : Int64) (x9 : Int32) (hk0 : kd k0 = 3) (w : GW) (H : Heap) (locs : List Loc) (ls : Array Slot), St G w s H locs → lv_has ls 10 [(0, .ref (gad G k0)), (2, .int x2), (3, .long x3), (5, .long x5), (7, .long x7), (9, .int x9)] → f_X3_tooMany_111 k_80 k0 x2 x3 x5 x7 x9 w = some z → W p l e (headSpec (wsU yX3_tooMany cX3_tooMany 10 (some .boolean)) rm_X3_tooMany).room s m args below meth c H locs 0 0 (MQ below (QB G z) args s 0 0 (gA G)) (F0 m 111 ls [])) := by
  obtain ⟨hx, hb, hml, hown, hts⟩ := id F
  have hg : ∀ q ∈ lwg, q.before args s = true := fun q h => hts q (List.mem_cons_of_mem _ h)
  intro k0 x2 x3 x5 x7 x9 hk0 w H locs ls S hl hz
  rw [f_X3_tooMany_111] at hz
  refine lv_iinc (v := (x9 + 1)) (lv' := [(9, .int (x9 + 1)), (0, .ref (gad G k0)), (2, .int x2), (3, .long x3), (5, .long x5), (7, .long x7)]) hx hb dX3_tooMany_111 hl (k := 5) rfl rfl (by decide) rfl (fun ls hl => ?_)
  refine lv_goto (tgt := 80) hx hb dX3_tooMany_114 (by decide) ?_
  exact Hk_80 k0 x2 x3 x5 x7 (x9 + 1) hk0 _ _ _ _ S (lv_sub hl [1, 2, 3, 4, 5, 0] rfl) hz
set_option maxHeartbeats 4000000 in
set_option maxRecDepth 100000 in
theorem w_X3_tooMany_80 {p : Program} {l : Launch} {e : Env} {s : State} {m : MethodId} {args : Array Value} {below : List Frame} {meth : Method} {c : Code} {G : GG} (F : CallFix p m c cX3_tooMany 10 s args (wsU yX3_tooMany cX3_tooMany 10 (some .boolean)) RX3) (hr : meth.sig.returnType = (some .boolean)) (hlk : meth.locks = false) {z : Int32 × GW} : ∀ (n9 : Nat), (∀ (k0 : Nat) (x2 : Int32) (x3 : Int64) (x5 : Int64) (x7 : Int64) (x9 : Int32) (hk0 : kd k0 = 3) (w : GW) (H : Heap) (locs : List Loc) (ls : Array Slot), St G w s H locs → lv_has ls 10 [(0, .ref (gad G k0)), (2, .int x2), (3, .long x3), (5, .long x5), (7, .long x7), (9, .int x9)] → f_X3_tooMany_80 n9 k0 x2 x3 x5 x7 x9 w = some z → W p l e (headSpec (wsU yX3_tooMany cX3_tooMany 10 (some .boolean)) rm_X3_tooMany).room s m args below meth c H locs 0 0 (MQ below (QB G z) args s 0 0 (gA G)) (F0 m 80 ls [])) := by
  obtain ⟨hx, hb, hml, hown, hts⟩ := id F
  have hg : ∀ q ∈ lwg, q.before args s = true := fun q h => hts q (List.mem_cons_of_mem _ h)
  intro n9
  induction n9 with
  | zero =>
    intro k0 x2 x3 x5 x7 x9 hk0 w H locs ls S hl hz
    rw [f_X3_tooMany_80] at hz
    cases hz
  | succ n9 ih =>
    intro k0 x2 x3 x5 x7 x9 hk0 w H locs ls S hl hz
    rw [f_X3_tooMany_80] at hz
    refine lv_iload hx hb dX3_tooMany_80 (lv_at hl 5 rfl) ?_
    refine lv_iload_n hx hb dX3_tooMany_82 rfl (lv_at hl 1 rfl) ?_
    refine lv_icmp_gt (tgt := 117) hx hb dX3_tooMany_83 (by decide) (fun c4 => ?_) (fun c4 => ?_)
    · have hz := ipt (c4) hz
      refine lv_iconst (v := 0) hx hb dX3_tooMany_117 (by decide) ?_
      exact g_retb hx hb hr hlk S isB_0 hz dX3_tooMany_118
    · have hz := ipf (c4) hz
      refine lv_aload_n hx hb dX3_tooMany_86 rfl (lv_at hl 0 rfl) ?_
      refine lv_iload hx hb dX3_tooMany_87 (lv_at hl 5 rfl) ?_
      obtain ⟨q5, e6, hz⟩ := bd hz
      refine g_callVb (As := [.int x9]) (rest := []) F S (c_X3_isDoors l G k0 x9 hk0 _ e6) (cw_X3_tooMany_X3_isDoors_80 hg) (S.obj hk0 (by decide) rfl (oc_X3 _ _ _ hk0)) rfl hl.1 rfl (Nat.le_of_ble_eq_true rfl) ⟨Nat.zero_le _, Nat.zero_le _⟩ dX3_tooMany_89 (fun H locs hB7 S => ?_)
      refine lv_if_ne (tgt := 111) hx hb dX3_tooMany_92 (by decide) (fun c8 => ?_) (fun c8 => ?_)
      · have hz := ipf (c8) hz
        exact w_X3_tooMany_111 F hr hlk ih k0 x2 x3 x5 x7 x9 hk0 _ _ _ _ S (lv_sub hl [0, 1, 2, 3, 4, 5] rfl) hz
      · have hz := ipt (c8) hz
        refine lv_lload hx hb dX3_tooMany_95 (lv_at hl 4 rfl) ?_
        refine lv_lload hx hb dX3_tooMany_97 (lv_at hl 3 rfl) ?_
        refine W.lcmp hx hb dX3_tooMany_99 ?_
        refine lv_if_le (tgt := 105) hx hb dX3_tooMany_100 (by decide) (fun c9 => ?_) (fun c9 => ?_)
        · have hz := ipt ((lg_cmp_le _ _).mp c9) hz
          refine lv_lload hx hb dX3_tooMany_105 (lv_at hl 4 rfl) ?_
          refine lv_lload_n hx hb dX3_tooMany_107 rfl (lv_at hl 2 rfl) ?_
          refine lv_lmul hx hb dX3_tooMany_108 ?_
          refine lv_lstore (lv' := [(7, .long (x7 * x3)), (0, .ref (gad G k0)), (2, .int x2), (3, .long x3), (5, .long x5), (9, .int x9)]) hx hb dX3_tooMany_109 hl (by decide) rfl (fun ls hl => ?_)
          exact w_X3_tooMany_111 F hr hlk ih k0 x2 x3 x5 (x7 * x3) x9 hk0 _ _ _ _ S (lv_sub hl [1, 2, 3, 4, 0, 5] rfl) hz
        · have hz := ipf (fun q9 => c9 ((lg_cmp_le _ _).mpr q9)) hz
          refine lv_iconst (v := 1) hx hb dX3_tooMany_103 (by decide) ?_
          exact g_retb hx hb hr hlk S isB_1 hz dX3_tooMany_104
set_option maxHeartbeats 4000000 in
set_option maxRecDepth 100000 in
theorem w_X3_tooMany_72 {p : Program} {l : Launch} {e : Env} {s : State} {m : MethodId} {args : Array Value} {below : List Frame} {meth : Method} {c : Code} {G : GG} (F : CallFix p m c cX3_tooMany 10 s args (wsU yX3_tooMany cX3_tooMany 10 (some .boolean)) RX3) (hr : meth.sig.returnType = (some .boolean)) (hlk : meth.locks = false) {z : Int32 × GW} : (∀ (k0 : Nat) (x2 : Int32) (x3 : Int64) (t0 : Int64) (hk0 : kd k0 = 3) (w : GW) (H : Heap) (locs : List Loc) (ls : Array Slot), St G w s H locs → lv_has ls 10 [(0, .ref (gad G k0)), (2, .int x2), (3, .long x3)] → f_X3_tooMany_72 k0 x2 x3 t0 w = some z → W p l e (headSpec (wsU yX3_tooMany cX3_tooMany 10 (some .boolean)) rm_X3_tooMany).room s m args below meth c H locs 0 0 (MQ below (QB G z) args s 0 0 (gA G)) (F0 m 72 ls [.long t0])) := by
  obtain ⟨hx, hb, hml, hown, hts⟩ := id F
  have hg : ∀ q ∈ lwg, q.before args s = true := fun q h => hts q (List.mem_cons_of_mem _ h)
  intro k0 x2 x3 t0 hk0 w H locs ls S hl hz
  rw [f_X3_tooMany_72] at hz
  refine lv_lstore (lv' := [(5, .long t0), (0, .ref (gad G k0)), (2, .int x2), (3, .long x3)]) hx hb dX3_tooMany_72 hl (by decide) rfl (fun ls hl => ?_)
  refine lv_lconst (v := 1) hx hb dX3_tooMany_74 (by decide) ?_
  refine lv_lstore (lv' := [(7, .long 1), (5, .long t0), (0, .ref (gad G k0)), (2, .int x2), (3, .long x3)]) hx hb dX3_tooMany_75 hl (by decide) rfl (fun ls hl => ?_)
  refine lv_iconst (v := 1) hx hb dX3_tooMany_77 (by decide) ?_
  refine lv_istore (lv' := [(9, .int 1), (7, .long 1), (5, .long t0), (0, .ref (gad G k0)), (2, .int x2), (3, .long x3)]) hx hb dX3_tooMany_78 hl (by decide) rfl (fun ls hl => ?_)
  exact w_X3_tooMany_80 F hr hlk fu k0 x2 x3 t0 1 1 hk0 _ _ _ _ S (lv_sub hl [3, 4, 5, 2, 1, 0] rfl) hz
set_option maxHeartbeats 4000000 in
set_option maxRecDepth 100000 in
theorem w_X3_tooMany_57 {p : Program} {l : Launch} {e : Env} {s : State} {m : MethodId} {args : Array Value} {below : List Frame} {meth : Method} {c : Code} {G : GG} (F : CallFix p m c cX3_tooMany 10 s args (wsU yX3_tooMany cX3_tooMany 10 (some .boolean)) RX3) (hr : meth.sig.returnType = (some .boolean)) (hlk : meth.locks = false) {z : Int32 × GW} : (∀ (k0 : Nat) (x2 : Int32) (x3 : Int64) (hk0 : kd k0 = 3) (w : GW) (H : Heap) (locs : List Loc) (ls : Array Slot), St G w s H locs → lv_has ls 10 [(0, .ref (gad G k0)), (2, .int x2), (3, .long x3)] → f_X3_tooMany_57 k0 x2 x3 w = some z → W p l e (headSpec (wsU yX3_tooMany cX3_tooMany 10 (some .boolean)) rm_X3_tooMany).room s m args below meth c H locs 0 0 (MQ below (QB G z) args s 0 0 (gA G)) (F0 m 57 ls [])) := by
  obtain ⟨hx, hb, hml, hown, hts⟩ := id F
  have hg : ∀ q ∈ lwg, q.before args s = true := fun q h => hts q (List.mem_cons_of_mem _ h)
  intro k0 x2 x3 hk0 w H locs ls S hl hz
  rw [f_X3_tooMany_57] at hz
  refine lv_lload_n hx hb dX3_tooMany_57 rfl (lv_at hl 2 rfl) ?_
  refine lv_lconst (v := 0) hx hb dX3_tooMany_58 (by decide) ?_
  refine W.lcmp hx hb dX3_tooMany_59 ?_
  refine lv_if_le (tgt := 71) hx hb dX3_tooMany_60 (by decide) (fun c3 => ?_) (fun c3 => ?_)
  · have hz := ipt ((lg_cmp_le _ _).mp c3) hz
    refine lv_lconst (v := 0) hx hb dX3_tooMany_71 (by decide) ?_
    exact w_X3_tooMany_72 F hr hlk k0 x2 x3 0 hk0 _ _ _ _ S (lv_sub hl [0, 1, 2] rfl) hz
  · have hz := ipf (fun q9 => c3 ((lg_cmp_le _ _).mpr q9)) hz
    refine lv_ldc2 (v := 1000000000000000) hx hb hown (hg _ t_cl_X3_78) dX3_tooMany_63 ?_
    refine lv_lload_n hx hb dX3_tooMany_66 rfl (lv_at hl 2 rfl) ?_
    obtain ⟨h10, hz⟩ := ck hz
    refine g_ldiv hx hb dX3_tooMany_67 h10 ?_
    refine lv_goto (tgt := 72) hx hb dX3_tooMany_68 (by decide) ?_
    exact w_X3_tooMany_72 F hr hlk k0 x2 x3 (1000000000000000 / x3) hk0 _ _ _ _ S (lv_sub hl [0, 1, 2] rfl) hz
set_option maxHeartbeats 4000000 in
set_option maxRecDepth 100000 in
theorem w_X3_tooMany_55 {p : Program} {l : Launch} {e : Env} {s : State} {m : MethodId} {args : Array Value} {below : List Frame} {meth : Method} {c : Code} {G : GG} (F : CallFix p m c cX3_tooMany 10 s args (wsU yX3_tooMany cX3_tooMany 10 (some .boolean)) RX3) (hr : meth.sig.returnType = (some .boolean)) (hlk : meth.locks = false) {z : Int32 × GW} : (∀ (k0 : Nat) (x2 : Int32) (t0 : Int64) (t1 : Int64) (hk0 : kd k0 = 3) (w : GW) (H : Heap) (locs : List Loc) (ls : Array Slot), St G w s H locs → lv_has ls 10 [(0, .ref (gad G k0)), (2, .int x2)] → f_X3_tooMany_55 k0 x2 t0 t1 w = some z → W p l e (headSpec (wsU yX3_tooMany cX3_tooMany 10 (some .boolean)) rm_X3_tooMany).room s m args below meth c H locs 0 0 (MQ below (QB G z) args s 0 0 (gA G)) (F0 m 55 ls [.long t0, .long t1])) := by
  obtain ⟨hx, hb, hml, hown, hts⟩ := id F
  have hg : ∀ q ∈ lwg, q.before args s = true := fun q h => hts q (List.mem_cons_of_mem _ h)
  intro k0 x2 t0 t1 hk0 w H locs ls S hl hz
  rw [f_X3_tooMany_55] at hz
  refine lv_lmul hx hb dX3_tooMany_55 ?_
  refine lv_lstore_n (lv' := [(3, .long (t1 * t0)), (0, .ref (gad G k0)), (2, .int x2)]) hx hb dX3_tooMany_56 rfl hl (by decide) rfl (fun ls hl => ?_)
  exact w_X3_tooMany_57 F hr hlk k0 x2 (t1 * t0) hk0 _ _ _ _ S (lv_sub hl [1, 2, 0] rfl) hz
set_option maxHeartbeats 4000000 in
set_option maxRecDepth 100000 in
theorem w_X3_tooMany_5 {p : Program} {l : Launch} {e : Env} {s : State} {m : MethodId} {args : Array Value} {below : List Frame} {meth : Method} {c : Code} {G : GG} (F : CallFix p m c cX3_tooMany 10 s args (wsU yX3_tooMany cX3_tooMany 10 (some .boolean)) RX3) (hr : meth.sig.returnType = (some .boolean)) (hlk : meth.locks = false) {z : Int32 × GW} : ∀ (n9 : Nat), (∀ (k0 : Nat) (k1 : Nat) (x2 : Int32) (x3 : Int64) (x5 : Int32) (hk0 : kd k0 = 3) (hk1 : kd k1 = 4) (w : GW) (H : Heap) (locs : List Loc) (ls : Array Slot), St G w s H locs → lv_has ls 10 [(0, .ref (gad G k0)), (1, .ref (gad G k1)), (2, .int x2), (3, .long x3), (5, .int x5)] → f_X3_tooMany_5 n9 k0 k1 x2 x3 x5 w = some z → W p l e (headSpec (wsU yX3_tooMany cX3_tooMany 10 (some .boolean)) rm_X3_tooMany).room s m args below meth c H locs 0 0 (MQ below (QB G z) args s 0 0 (gA G)) (F0 m 5 ls [])) := by
  obtain ⟨hx, hb, hml, hown, hts⟩ := id F
  have hg : ∀ q ∈ lwg, q.before args s = true := fun q h => hts q (List.mem_cons_of_mem _ h)
  intro n9
  induction n9 with
  | zero =>
    intro k0 k1 x2 x3 x5 hk0 hk1 w H locs ls S hl hz
    rw [f_X3_tooMany_5] at hz
    cases hz
  | succ n9 ih =>
    intro k0 k1 x2 x3 x5 hk0 hk1 w H locs ls S hl hz
    rw [f_X3_tooMany_5] at hz
    refine lv_iload hx hb dX3_tooMany_5 (lv_at hl 4 rfl) ?_
    refine lv_aload_n hx hb dX3_tooMany_7 rfl (lv_at hl 1 rfl) ?_
    refine fg_X4_0 hx hb (fun q h => hg q (tl_X4 q h)) hown (hg _ t_fl_X3_70) S hk1 dX3_tooMany_8 ?_
    refine lv_icmp_ge (tgt := 28) hx hb dX3_tooMany_11 (by decide) (fun c1 => ?_) (fun c1 => ?_)
    · have hz := ipt (c1) hz
      refine lv_aload_n hx hb dX3_tooMany_28 rfl (lv_at hl 1 rfl) ?_
      refine fg_X4_1 hx hb (fun q h => hg q (tl_X4 q h)) hown (hg _ t_fl_X3_73) S hk1 dX3_tooMany_29 ?_
      refine lv_if_ne (tgt := 57) hx hb dX3_tooMany_32 (by decide) (fun c2 => ?_) (fun c2 => ?_)
      · have hz := ipf (c2) hz
        exact w_X3_tooMany_57 F hr hlk k0 x2 x3 hk0 _ _ _ _ S (lv_sub hl [0, 2, 3] rfl) hz
      · have hz := ipt (c2) hz
        refine lv_lload_n hx hb dX3_tooMany_35 rfl (lv_at hl 3 rfl) ?_
        refine lv_aload_n hx hb dX3_tooMany_36 rfl (lv_at hl 1 rfl) ?_
        refine fg_X4_0 hx hb (fun q h => hg q (tl_X4 q h)) hown (hg _ t_fl_X3_70) S hk1 dX3_tooMany_37 ?_
        refine lv_iconst (v := 3) hx hb dX3_tooMany_40 (by decide) ?_
        refine lv_icmp_ne (tgt := 50) hx hb dX3_tooMany_41 (by decide) (fun c11 => ?_) (fun c11 => ?_)
        · have hz := ipf (c11) hz
          refine lv_aload_n hx hb dX3_tooMany_50 rfl (lv_at hl 1 rfl) ?_
          refine fg_X4_0 hx hb (fun q h => hg q (tl_X4 q h)) hown (hg _ t_fl_X3_70) S hk1 dX3_tooMany_51 ?_
          refine lv_i2l (v := (gI w k1 0).toInt64) hx hb dX3_tooMany_54 rfl ?_
          exact w_X3_tooMany_55 F hr hlk k0 x2 ((gI w k1 0).toInt64) x3 hk0 _ _ _ _ S (lv_sub hl [0, 2] rfl) hz
        · have hz := ipt (c11) hz
          refine lv_ldc2 (v := 6) hx hb hown (hg _ t_cl_X3_76) dX3_tooMany_44 ?_
          refine lv_goto (tgt := 55) hx hb dX3_tooMany_47 (by decide) ?_
          exact w_X3_tooMany_55 F hr hlk k0 x2 6 x3 hk0 _ _ _ _ S (lv_sub hl [0, 2] rfl) hz
    · have hz := ipf (c1) hz
      refine lv_lload_n hx hb dX3_tooMany_14 rfl (lv_at hl 3 rfl) ?_
      refine lv_aload_n hx hb dX3_tooMany_15 rfl (lv_at hl 0 rfl) ?_
      refine fg_X3_4 hx hb (fun q h => hg q (tl_X3 q h)) hown (hg _ t_fl_X3_67) S hk0 dX3_tooMany_16 ?_
      refine lv_i2l (v := (gI w k0 4).toInt64) hx hb dX3_tooMany_19 rfl ?_
      refine lv_lmul hx hb dX3_tooMany_20 ?_
      refine lv_lstore_n (lv' := [(3, .long (x3 * ((gI w k0 4).toInt64))), (0, .ref (gad G k0)), (1, .ref (gad G k1)), (2, .int x2), (5, .int x5)]) hx hb dX3_tooMany_21 rfl hl (by decide) rfl (fun ls hl => ?_)
      refine lv_iinc (v := (x5 + 1)) (lv' := [(5, .int (x5 + 1)), (3, .long (x3 * ((gI w k0 4).toInt64))), (0, .ref (gad G k0)), (1, .ref (gad G k1)), (2, .int x2)]) hx hb dX3_tooMany_22 hl (k := 4) rfl rfl (by decide) rfl (fun ls hl => ?_)
      refine lv_goto (tgt := 5) hx hb dX3_tooMany_25 (by decide) ?_
      exact ih k0 k1 x2 (x3 * ((gI w k0 4).toInt64)) (x5 + 1) hk0 hk1 _ _ _ _ S (lv_sub hl [2, 3, 4, 1, 0] rfl) hz
set_option maxHeartbeats 4000000 in
set_option maxRecDepth 100000 in
theorem c_X3_tooMany (l : Launch) (G : GG) (k0 : Nat) (k1 : Nat) (x2 : Int32) (hk0 : kd k0 = 3) (hk1 : kd k1 = 4) (w : GW) {z : Int32 × GW} (hz : f_X3_tooMany k0 k1 x2 w = some z) : Met l yX3_tooMany (wsU yX3_tooMany cX3_tooMany 10 (some .boolean)) rm_X3_tooMany (va_Pc [.ref (gad G k0), .ref (gad G k1), .int x2] (PreG G w)) (QB G z) 0 0 (gA G) := by
  refine Met.ofW (cc := cX3_tooMany) (maxL := 10) (ret := (some .boolean)) (by decide) rfl ?_
  intro p e s m args below meth c s₁ B hml hv
  obtain ⟨rfl, S⟩ := hv
  have F : CallFix p m c cX3_tooMany 10 s _ (wsU yX3_tooMany cX3_tooMany 10 (some .boolean)) RX3 := ⟨B.exec, B.bytes, hml, findClass_of_methodNamed B.named, atoms_spec B.pre⟩
  have hr := B.returns
  have hlk := B.notSynchronized
  obtain ⟨hx, hb, -, hown, hts⟩ := id F
  have hg : ∀ q ∈ lwg, q.before _ s = true := fun q h => hts q (List.mem_cons_of_mem _ h)
  refine g_entry (Nat.le_of_ble_eq_true rfl) (fun ls hl => ?_)
  have hl : lv_has ls 10 [(0, .ref (gad G k0)), (1, .ref (gad G k1)), (2, .int x2)] := hl
  have S : St G w s s.heap [] := S
  generalize s.heap = H at S ⊢
  generalize ([] : List Loc) = locs at S ⊢
  rw [f_X3_tooMany] at hz
  refine lv_lconst (v := 1) hx hb dX3_tooMany_0 (by decide) ?_
  refine lv_lstore_n (lv' := [(3, .long 1), (0, .ref (gad G k0)), (1, .ref (gad G k1)), (2, .int x2)]) hx hb dX3_tooMany_1 rfl hl (by decide) rfl (fun ls hl => ?_)
  refine lv_iconst (v := 0) hx hb dX3_tooMany_2 (by decide) ?_
  refine lv_istore (lv' := [(5, .int 0), (3, .long 1), (0, .ref (gad G k0)), (1, .ref (gad G k1)), (2, .int x2)]) hx hb dX3_tooMany_3 hl (by decide) rfl (fun ls hl => ?_)
  exact w_X3_tooMany_5 F hr hlk fu k0 k1 x2 1 0 hk0 hk1 _ _ _ _ S (lv_sub hl [2, 3, 4, 1, 0] rfl) hz
noncomputable def f_X1_waysOfOneMore_61 (k_5 : Int32 → Int64 → Int32 → GW → Option (Int64 × GW)) (x1 : Int32) (x2 : Int64) (x4 : Int32) (w : GW) : Option (Int64 × GW) :=
  k_5 x1 x2 (x4 + 1) w
noncomputable def f_X1_waysOfOneMore_5  : Nat → Int32 → Int64 → Int32 → GW → Option (Int64 × GW)
  | 0, _, _, _, _ => none
  | n9 + 1, x1, x2, x4, w =>
    if (gI w (fxH (gR w 4)) 1) ≤ x4 then
      some (x2, w)
    else
      if (x1 &&& ((1 : Int32) <<< (x4 &&& 31))) = 0 then
        f_X1_waysOfOneMore_61 (f_X1_waysOfOneMore_5 n9) x1 x2 x4 w
      else
        if inb x1 32 then
        if inb (x1 ^^^ ((1 : Int32) <<< (x4 &&& 31))) 32 then
        if inb x4 5 then
        f_X1_waysOfOneMore_61 (f_X1_waysOfOneMore_5 n9) x1 (x2 + (((gL w 69 (ix x1)) + (gL w 69 (ix (x1 ^^^ ((1 : Int32) <<< (x4 &&& 31)))))) * ((gI w ((fxH (gR w 4)) + 2) (ix x4)).toInt64))) x4 w
        else none
        else none
        else none
noncomputable def f_X1_waysOfOneMore (x1 : Int32) (w : GW) : Option (Int64 × GW) :=
  f_X1_waysOfOneMore_5 fu x1 0 0 w
set_option maxHeartbeats 4000000 in
set_option maxRecDepth 100000 in
theorem w_X1_waysOfOneMore_61 {p : Program} {l : Launch} {e : Env} {s : State} {m : MethodId} {args : Array Value} {below : List Frame} {meth : Method} {c : Code} {G : GG} (F : CallFix p m c cX1_waysOfOneMore 6 s args (wsU yX1_waysOfOneMore cX1_waysOfOneMore 6 (some .long)) RX1) (hr : meth.sig.returnType = (some .long)) (hlk : meth.locks = false) {z : Int64 × GW} {k_5 : Int32 → Int64 → Int32 → GW → Option (Int64 × GW)} (Hk_5 : (∀ (x1 : Int32) (x2 : Int64) (x4 : Int32) (w : GW) (H : Heap) (locs : List Loc) (ls : Array Slot), St G w s H locs → lv_has ls 6 [(0, .ref (gad G 67)), (1, .int x1), (2, .long x2), (4, .int x4)] → k_5 x1 x2 x4 w = some z → W p l e (headSpec (wsU yX1_waysOfOneMore cX1_waysOfOneMore 6 (some .long)) rm_X1_waysOfOneMore).room s m args below meth c H locs 0 0 (MQ below (QL G z) args s 0 0 (gA G)) (F0 m 5 ls []))) : (∀ (x1 : Int32) (x2 : Int64) (x4 : Int32) (w : GW) (H : Heap) (locs : List Loc) (ls : Array Slot), St G w s H locs → lv_has ls 6 [(0, .ref (gad G 67)), (1, .int x1), (2, .long x2), (4, .int x4)] → f_X1_waysOfOneMore_61 k_5 x1 x2 x4 w = some z → W p l e (headSpec (wsU yX1_waysOfOneMore cX1_waysOfOneMore 6 (some .long)) rm_X1_waysOfOneMore).room s m args below meth c H locs 0 0 (MQ below (QL G z) args s 0 0 (gA G)) (F0 m 61 ls [])) := by
  obtain ⟨hx, hb, hml, hown, hts⟩ := id F
  have hg : ∀ q ∈ lwg, q.before args s = true := fun q h => hts q (List.mem_cons_of_mem _ h)
  intro x1 x2 x4 w H locs ls S hl hz
  rw [f_X1_waysOfOneMore_61] at hz
  refine lv_iinc (v := (x4 + 1)) (lv' := [(4, .int (x4 + 1)), (0, .ref (gad G 67)), (1, .int x1), (2, .long x2)]) hx hb dX1_waysOfOneMore_61 hl (k := 3) rfl rfl (by decide) rfl (fun ls hl => ?_)
  refine lv_goto (tgt := 5) hx hb dX1_waysOfOneMore_64 (by decide) ?_
  exact Hk_5 x1 x2 (x4 + 1)  _ _ _ _ S (lv_sub hl [1, 2, 3, 0] rfl) hz
set_option maxHeartbeats 4000000 in
set_option maxRecDepth 100000 in
theorem w_X1_waysOfOneMore_5 {p : Program} {l : Launch} {e : Env} {s : State} {m : MethodId} {args : Array Value} {below : List Frame} {meth : Method} {c : Code} {G : GG} (F : CallFix p m c cX1_waysOfOneMore 6 s args (wsU yX1_waysOfOneMore cX1_waysOfOneMore 6 (some .long)) RX1) (hr : meth.sig.returnType = (some .long)) (hlk : meth.locks = false) {z : Int64 × GW} : ∀ (n9 : Nat), (∀ (x1 : Int32) (x2 : Int64) (x4 : Int32) (w : GW) (H : Heap) (locs : List Loc) (ls : Array Slot), St G w s H locs → lv_has ls 6 [(0, .ref (gad G 67)), (1, .int x1), (2, .long x2), (4, .int x4)] → f_X1_waysOfOneMore_5 n9 x1 x2 x4 w = some z → W p l e (headSpec (wsU yX1_waysOfOneMore cX1_waysOfOneMore 6 (some .long)) rm_X1_waysOfOneMore).room s m args below meth c H locs 0 0 (MQ below (QL G z) args s 0 0 (gA G)) (F0 m 5 ls [])) := by
  obtain ⟨hx, hb, hml, hown, hts⟩ := id F
  have hg : ∀ q ∈ lwg, q.before args s = true := fun q h => hts q (List.mem_cons_of_mem _ h)
  intro n9
  induction n9 with
  | zero =>
    intro x1 x2 x4 w H locs ls S hl hz
    rw [f_X1_waysOfOneMore_5] at hz
    cases hz
  | succ n9 ih =>
    intro x1 x2 x4 w H locs ls S hl hz
    rw [f_X1_waysOfOneMore_5] at hz
    refine lv_iload hx hb dX1_waysOfOneMore_5 (lv_at hl 3 rfl) ?_
    refine lv_aload_n hx hb dX1_waysOfOneMore_7 rfl (lv_at hl 0 rfl) ?_
    refine fg_X1_3 hx hb (fun q h => hg q (tl_X1 q h)) hown (hg _ t_fl_X1_9) S (by decide) dX1_waysOfOneMore_8 ?_
    refine fg_X3_1 hx hb (fun q h => hg q (tl_X3 q h)) hown (hg _ t_fl_X1_33) S (kd_H _) dX1_waysOfOneMore_11 ?_
    refine lv_icmp_ge (tgt := 67) hx hb dX1_waysOfOneMore_14 (by decide) (fun c1 => ?_) (fun c1 => ?_)
    · have hz := ipt (c1) hz
      refine lv_lload_n hx hb dX1_waysOfOneMore_67 rfl (lv_at hl 2 rfl) ?_
      exact g_retl hx hb hr hlk S hz dX1_waysOfOneMore_68
    · have hz := ipf (c1) hz
      refine lv_iconst (v := 1) hx hb dX1_waysOfOneMore_17 (by decide) ?_
      refine lv_iload hx hb dX1_waysOfOneMore_18 (lv_at hl 3 rfl) ?_
      refine lv_ishl hx hb dX1_waysOfOneMore_20 ?_
      refine lv_istore (lv' := [(5, .int ((1 : Int32) <<< (x4 &&& 31))), (0, .ref (gad G 67)), (1, .int x1), (2, .long x2), (4, .int x4)]) hx hb dX1_waysOfOneMore_21 hl (by decide) rfl (fun ls hl => ?_)
      refine lv_iload_n hx hb dX1_waysOfOneMore_23 rfl (lv_at hl 2 rfl) ?_
      refine lv_iload hx hb dX1_waysOfOneMore_24 (lv_at hl 0 rfl) ?_
      refine lv_iand hx hb dX1_waysOfOneMore_26 ?_
      refine lv_if_eq (tgt := 61) hx hb dX1_waysOfOneMore_27 (by decide) (fun c2 => ?_) (fun c2 => ?_)
      · have hz := ipt (c2) hz
        exact w_X1_waysOfOneMore_61 F hr hlk ih x1 x2 x4 _ _ _ _ S (lv_sub hl [1, 2, 3, 4] rfl) hz
      · have hz := ipf (c2) hz
        refine lv_lload_n hx hb dX1_waysOfOneMore_30 rfl (lv_at hl 3 rfl) ?_
        refine lv_aload_n hx hb dX1_waysOfOneMore_31 rfl (lv_at hl 1 rfl) ?_
        refine fg_X1_0 hx hb (fun q h => hg q (tl_X1 q h)) hown (hg _ t_fl_X1_22) S (by decide) dX1_waysOfOneMore_32 ?_
        refine lv_iload_n hx hb dX1_waysOfOneMore_35 rfl (lv_at hl 2 rfl) ?_
        obtain ⟨h3, hz⟩ := ck hz
        refine g_lald hx hb S (isA_22 (by decide)) h3 dX1_waysOfOneMore_36 ?_
        refine lv_aload_n hx hb dX1_waysOfOneMore_37 rfl (lv_at hl 1 rfl) ?_
        refine fg_X1_0 hx hb (fun q h => hg q (tl_X1 q h)) hown (hg _ t_fl_X1_22) S (by decide) dX1_waysOfOneMore_38 ?_
        refine lv_iload_n hx hb dX1_waysOfOneMore_41 rfl (lv_at hl 2 rfl) ?_
        refine lv_iload hx hb dX1_waysOfOneMore_42 (lv_at hl 0 rfl) ?_
        refine lv_ixor hx hb dX1_waysOfOneMore_44 ?_
        obtain ⟨h4, hz⟩ := ck hz
        refine g_lald hx hb S (isA_22 (by decide)) h4 dX1_waysOfOneMore_45 ?_
        refine lv_ladd hx hb dX1_waysOfOneMore_46 ?_
        refine lv_aload_n hx hb dX1_waysOfOneMore_47 rfl (lv_at hl 1 rfl) ?_
        refine fg_X1_3 hx hb (fun q h => hg q (tl_X1 q h)) hown (hg _ t_fl_X1_9) S (by decide) dX1_waysOfOneMore_48 ?_
        refine fg_X3_11 hx hb (fun q h => hg q (tl_X3 q h)) hown (hg _ t_fl_X1_46) S (kd_H _) dX1_waysOfOneMore_51 ?_
        refine lv_iload hx hb dX1_waysOfOneMore_54 (lv_at hl 4 rfl) ?_
        obtain ⟨h5, hz⟩ := ck hz
        refine g_iald hx hb S (isA_10 (kd_3_2 (kd_H _))) h5 dX1_waysOfOneMore_56 ?_
        refine lv_i2l (v := (gI w ((fxH (gR w 4)) + 2) (ix x4)).toInt64) hx hb dX1_waysOfOneMore_57 rfl ?_
        refine lv_lmul hx hb dX1_waysOfOneMore_58 ?_
        refine lv_ladd hx hb dX1_waysOfOneMore_59 ?_
        refine lv_lstore_n (lv' := [(2, .long (x2 + (((gL w 69 (ix x1)) + (gL w 69 (ix (x1 ^^^ ((1 : Int32) <<< (x4 &&& 31)))))) * ((gI w ((fxH (gR w 4)) + 2) (ix x4)).toInt64)))), (5, .int ((1 : Int32) <<< (x4 &&& 31))), (0, .ref (gad G 67)), (1, .int x1), (4, .int x4)]) hx hb dX1_waysOfOneMore_60 rfl hl (by decide) rfl (fun ls hl => ?_)
        exact w_X1_waysOfOneMore_61 F hr hlk ih x1 (x2 + (((gL w 69 (ix x1)) + (gL w 69 (ix (x1 ^^^ ((1 : Int32) <<< (x4 &&& 31)))))) * ((gI w ((fxH (gR w 4)) + 2) (ix x4)).toInt64))) x4 _ _ _ _ S (lv_sub hl [2, 3, 0, 4] rfl) hz
set_option maxHeartbeats 4000000 in
set_option maxRecDepth 100000 in
theorem c_X1_waysOfOneMore (l : Launch) (G : GG) (x1 : Int32)  (w : GW) {z : Int64 × GW} (hz : f_X1_waysOfOneMore x1 w = some z) : Met l yX1_waysOfOneMore (wsU yX1_waysOfOneMore cX1_waysOfOneMore 6 (some .long)) rm_X1_waysOfOneMore (va_Pc [.ref (gad G 67), .int x1] (PreG G w)) (QL G z) 0 0 (gA G) := by
  refine Met.ofW (cc := cX1_waysOfOneMore) (maxL := 6) (ret := (some .long)) (by decide) rfl ?_
  intro p e s m args below meth c s₁ B hml hv
  obtain ⟨rfl, S⟩ := hv
  have F : CallFix p m c cX1_waysOfOneMore 6 s _ (wsU yX1_waysOfOneMore cX1_waysOfOneMore 6 (some .long)) RX1 := ⟨B.exec, B.bytes, hml, findClass_of_methodNamed B.named, atoms_spec B.pre⟩
  have hr := B.returns
  have hlk := B.notSynchronized
  obtain ⟨hx, hb, -, hown, hts⟩ := id F
  have hg : ∀ q ∈ lwg, q.before _ s = true := fun q h => hts q (List.mem_cons_of_mem _ h)
  refine g_entry (Nat.le_of_ble_eq_true rfl) (fun ls hl => ?_)
  have hl : lv_has ls 6 [(0, .ref (gad G 67)), (1, .int x1)] := hl
  have S : St G w s s.heap [] := S
  generalize s.heap = H at S ⊢
  generalize ([] : List Loc) = locs at S ⊢
  rw [f_X1_waysOfOneMore] at hz
  refine lv_lconst (v := 0) hx hb dX1_waysOfOneMore_0 (by decide) ?_
  refine lv_lstore_n (lv' := [(2, .long 0), (0, .ref (gad G 67)), (1, .int x1)]) hx hb dX1_waysOfOneMore_1 rfl hl (by decide) rfl (fun ls hl => ?_)
  refine lv_iconst (v := 0) hx hb dX1_waysOfOneMore_2 (by decide) ?_
  refine lv_istore (lv' := [(4, .int 0), (2, .long 0), (0, .ref (gad G 67)), (1, .int x1)]) hx hb dX1_waysOfOneMore_3 hl (by decide) rfl (fun ls hl => ?_)
  exact w_X1_waysOfOneMore_5 F hr hlk fu x1 0 0 _ _ _ _ S (lv_sub hl [2, 3, 1, 0] rfl) hz
noncomputable def f_X1_ready_71 (k_54 : Int32 → Int32 → GW → Option (Unit × GW)) : Nat → Int32 → Int32 → Int32 → GW → Option (Unit × GW)
  | 0, _, _, _, _ => none
  | n9 + 1, x3, x4, x5, w =>
    if x5 < 0 then
      k_54 x3 (x4 + 1) w
    else
      (f_X1_waysOfOneMore x5 w).bind fun q5 =>
      if inb x5 32 then
      f_X1_ready_71 k_54 n9 x3 x4 (x5 + (-1)) (sL q5.2 69 (ix x5) q5.1)
      else none
noncomputable def f_X1_ready_54  : Nat → Int32 → Int32 → GW → Option (Unit × GW)
  | 0, _, _, _ => none
  | n9 + 1, x3, x4, w =>
    if (gI w (fxP (gR w 5)) 0) ≤ x4 then
      some ((), w)
    else
      f_X1_ready_71 (f_X1_ready_54 n9) fu x3 x4 (x3 - 1) w
noncomputable def f_X1_ready_23  : Nat → Int32 → Int32 → GW → Option (Unit × GW)
  | 0, _, _, _ => none
  | n9 + 1, x3, x4, w =>
    if 32 ≤ x4 then
      if inb 0 32 then
      f_X1_ready_54 fu x3 0 (sL w 69 (ix 0) 1)
      else none
    else
      if inb x4 32 then
      f_X1_ready_23 n9 x3 (x4 + 1) (sL w 69 (ix x4) 0)
      else none
noncomputable def f_X1_ready (k1 : Nat) (k2 : Nat) (w : GW) : Option (Unit × GW) :=
  f_X1_ready_23 fu ((1 : Int32) <<< ((gI (sR (sR w 4 k1) 5 k2) (fxH (gR (sR (sR w 4 k1) 5 k2) 4)) 1) &&& 31)) 1 (sR (sR w 4 k1) 5 k2)
set_option maxHeartbeats 4000000 in
set_option maxRecDepth 100000 in
theorem w_X1_ready_71 {p : Program} {l : Launch} {e : Env} {s : State} {m : MethodId} {args : Array Value} {below : List Frame} {meth : Method} {c : Code} {G : GG} (F : CallFix p m c cX1_ready 6 s args (wsU yX1_ready cX1_ready 6 none) RX1) (hr : meth.sig.returnType = none) (hlk : meth.locks = false) {z : Unit × GW} {k_54 : Int32 → Int32 → GW → Option (Unit × GW)} (Hk_54 : (∀ (x3 : Int32) (x4 : Int32) (w : GW) (H : Heap) (locs : List Loc) (ls : Array Slot), St G w s H locs → lv_has ls 6 [(0, .ref (gad G 67)), (3, .int x3), (4, .int x4)] → k_54 x3 x4 w = some z → W p l e (headSpec (wsU yX1_ready cX1_ready 6 none) rm_X1_ready).room s m args below meth c H locs 0 0 (MQ below (QV G z) args s 0 0 (gA G)) (F0 m 54 ls []))) : ∀ (n9 : Nat), (∀ (x3 : Int32) (x4 : Int32) (x5 : Int32) (w : GW) (H : Heap) (locs : List Loc) (ls : Array Slot), St G w s H locs → lv_has ls 6 [(0, .ref (gad G 67)), (3, .int x3), (4, .int x4), (5, .int x5)] → f_X1_ready_71 k_54 n9 x3 x4 x5 w = some z → W p l e (headSpec (wsU yX1_ready cX1_ready 6 none) rm_X1_ready).room s m args below meth c H locs 0 0 (MQ below (QV G z) args s 0 0 (gA G)) (F0 m 71 ls [])) := by
  obtain ⟨hx, hb, hml, hown, hts⟩ := id F
  have hg : ∀ q ∈ lwg, q.before args s = true := fun q h => hts q (List.mem_cons_of_mem _ h)
  intro n9
  induction n9 with
  | zero =>
    intro x3 x4 x5 w H locs ls S hl hz
    rw [f_X1_ready_71] at hz
    cases hz
  | succ n9 ih =>
    intro x3 x4 x5 w H locs ls S hl hz
    rw [f_X1_ready_71] at hz
    refine lv_iload hx hb dX1_ready_71 (lv_at hl 3 rfl) ?_
    refine lv_if_lt (tgt := 95) hx hb dX1_ready_73 (by decide) (fun c4 => ?_) (fun c4 => ?_)
    · have hz := ipt (c4) hz
      refine lv_iinc (v := (x4 + 1)) (lv' := [(4, .int (x4 + 1)), (0, .ref (gad G 67)), (3, .int x3), (5, .int x5)]) hx hb dX1_ready_95 hl (k := 2) rfl rfl (by decide) rfl (fun ls hl => ?_)
      refine lv_goto (tgt := 54) hx hb dX1_ready_98 (by decide) ?_
      exact Hk_54 x3 (x4 + 1)  _ _ _ _ S (lv_sub hl [1, 2, 0] rfl) hz
    · have hz := ipf (c4) hz
      refine lv_aload_n hx hb dX1_ready_76 rfl (lv_at hl 0 rfl) ?_
      refine fg_X1_0 hx hb (fun q h => hg q (tl_X1 q h)) hown (hg _ t_fl_X1_22) S (by decide) dX1_ready_77 ?_
      refine lv_iload hx hb dX1_ready_80 (lv_at hl 3 rfl) ?_
      refine lv_aload_n hx hb dX1_ready_82 rfl (lv_at hl 0 rfl) ?_
      refine lv_iload hx hb dX1_ready_83 (lv_at hl 3 rfl) ?_
      obtain ⟨q5, e6, hz⟩ := bd hz
      refine g_callVl (As := [.int x5]) (rest := [.int x5, .ref (gad G 69)]) F S (c_X1_waysOfOneMore l G x5  _ e6) (cw_X1_ready_X1_waysOfOneMore_42 hg) (S.obj (by decide) (by decide) rfl (oc_X1 _ _ _ (by decide))) rfl hl.1 rfl (Nat.le_of_ble_eq_true rfl) ⟨Nat.zero_le _, Nat.zero_le _⟩ dX1_ready_85 (fun H locs  S => ?_)
      obtain ⟨h7, hz⟩ := ck hz
      refine g_last (x := q5.1) hx hb S (isA_22 (by decide)) h7 dX1_ready_88 (fun H locs S => ?_)
      refine lv_iinc (v := (x5 + (-1))) (lv' := [(5, .int (x5 + (-1))), (0, .ref (gad G 67)), (3, .int x3), (4, .int x4)]) hx hb dX1_ready_89 hl (k := 3) rfl (by rw [show Int32.ofInt (-1) = (-1) from by decide]) (by decide) rfl (fun ls hl => ?_)
      refine lv_goto (tgt := 71) hx hb dX1_ready_92 (by decide) ?_
      exact ih x3 x4 (x5 + (-1))  _ _ _ _ S (lv_sub hl [1, 2, 3, 0] rfl) hz
set_option maxHeartbeats 4000000 in
set_option maxRecDepth 100000 in
theorem w_X1_ready_54 {p : Program} {l : Launch} {e : Env} {s : State} {m : MethodId} {args : Array Value} {below : List Frame} {meth : Method} {c : Code} {G : GG} (F : CallFix p m c cX1_ready 6 s args (wsU yX1_ready cX1_ready 6 none) RX1) (hr : meth.sig.returnType = none) (hlk : meth.locks = false) {z : Unit × GW} : ∀ (n9 : Nat), (∀ (x3 : Int32) (x4 : Int32) (w : GW) (H : Heap) (locs : List Loc) (ls : Array Slot), St G w s H locs → lv_has ls 6 [(0, .ref (gad G 67)), (3, .int x3), (4, .int x4)] → f_X1_ready_54 n9 x3 x4 w = some z → W p l e (headSpec (wsU yX1_ready cX1_ready 6 none) rm_X1_ready).room s m args below meth c H locs 0 0 (MQ below (QV G z) args s 0 0 (gA G)) (F0 m 54 ls [])) := by
  obtain ⟨hx, hb, hml, hown, hts⟩ := id F
  have hg : ∀ q ∈ lwg, q.before args s = true := fun q h => hts q (List.mem_cons_of_mem _ h)
  intro n9
  induction n9 with
  | zero =>
    intro x3 x4 w H locs ls S hl hz
    rw [f_X1_ready_54] at hz
    cases hz
  | succ n9 ih =>
    intro x3 x4 w H locs ls S hl hz
    rw [f_X1_ready_54] at hz
    refine lv_iload hx hb dX1_ready_54 (lv_at hl 2 rfl) ?_
    refine lv_aload_n hx hb dX1_ready_56 rfl (lv_at hl 0 rfl) ?_
    refine fg_X1_4 hx hb (fun q h => hg q (tl_X1 q h)) hown (hg _ t_fl_X1_18) S (by decide) dX1_ready_57 ?_
    refine fg_X4_0 hx hb (fun q h => hg q (tl_X4 q h)) hown (hg _ t_fl_X1_39) S (kd_P _) dX1_ready_60 ?_
    refine lv_icmp_ge (tgt := 101) hx hb dX1_ready_63 (by decide) (fun c3 => ?_) (fun c3 => ?_)
    · have hz := ipt (c3) hz
      exact g_retv hx hb hr hlk S hz dX1_ready_101
    · have hz := ipf (c3) hz
      refine lv_iload_n hx hb dX1_ready_66 rfl (lv_at hl 1 rfl) ?_
      refine lv_iconst (v := 1) hx hb dX1_ready_67 (by decide) ?_
      refine lv_isub hx hb dX1_ready_68 ?_
      refine lv_istore (lv' := [(5, .int (x3 - 1)), (0, .ref (gad G 67)), (3, .int x3), (4, .int x4)]) hx hb dX1_ready_69 hl (by decide) rfl (fun ls hl => ?_)
      exact w_X1_ready_71 F hr hlk ih fu x3 x4 (x3 - 1) _ _ _ _ S (lv_sub hl [1, 2, 3, 0] rfl) hz
set_option maxHeartbeats 4000000 in
set_option maxRecDepth 100000 in
theorem w_X1_ready_23 {p : Program} {l : Launch} {e : Env} {s : State} {m : MethodId} {args : Array Value} {below : List Frame} {meth : Method} {c : Code} {G : GG} (F : CallFix p m c cX1_ready 6 s args (wsU yX1_ready cX1_ready 6 none) RX1) (hr : meth.sig.returnType = none) (hlk : meth.locks = false) {z : Unit × GW} : ∀ (n9 : Nat), (∀ (x3 : Int32) (x4 : Int32) (w : GW) (H : Heap) (locs : List Loc) (ls : Array Slot), St G w s H locs → lv_has ls 6 [(0, .ref (gad G 67)), (3, .int x3), (4, .int x4)] → f_X1_ready_23 n9 x3 x4 w = some z → W p l e (headSpec (wsU yX1_ready cX1_ready 6 none) rm_X1_ready).room s m args below meth c H locs 0 0 (MQ below (QV G z) args s 0 0 (gA G)) (F0 m 23 ls [])) := by
  obtain ⟨hx, hb, hml, hown, hts⟩ := id F
  have hg : ∀ q ∈ lwg, q.before args s = true := fun q h => hts q (List.mem_cons_of_mem _ h)
  intro n9
  induction n9 with
  | zero =>
    intro x3 x4 w H locs ls S hl hz
    rw [f_X1_ready_23] at hz
    cases hz
  | succ n9 ih =>
    intro x3 x4 w H locs ls S hl hz
    rw [f_X1_ready_23] at hz
    refine lv_iload hx hb dX1_ready_23 (lv_at hl 2 rfl) ?_
    refine lv_bipush (v := 32) hx hb dX1_ready_25 (by decide) ?_
    refine lv_icmp_ge (tgt := 44) hx hb dX1_ready_27 (by decide) (fun c1 => ?_) (fun c1 => ?_)
    · have hz := ipt (c1) hz
      refine lv_aload_n hx hb dX1_ready_44 rfl (lv_at hl 0 rfl) ?_
      refine fg_X1_0 hx hb (fun q h => hg q (tl_X1 q h)) hown (hg _ t_fl_X1_22) S (by decide) dX1_ready_45 ?_
      refine lv_iconst (v := 0) hx hb dX1_ready_48 (by decide) ?_
      refine lv_lconst (v := 1) hx hb dX1_ready_49 (by decide) ?_
      obtain ⟨h2, hz⟩ := ck hz
      refine g_last (x := 1) hx hb S (isA_22 (by decide)) h2 dX1_ready_50 (fun H locs S => ?_)
      refine lv_iconst (v := 0) hx hb dX1_ready_51 (by decide) ?_
      refine lv_istore (lv' := [(4, .int 0), (0, .ref (gad G 67)), (3, .int x3)]) hx hb dX1_ready_52 hl (by decide) rfl (fun ls hl => ?_)
      exact w_X1_ready_54 F hr hlk fu x3 0 _ _ _ _ S (lv_sub hl [1, 2, 0] rfl) hz
    · have hz := ipf (c1) hz
      refine lv_aload_n hx hb dX1_ready_30 rfl (lv_at hl 0 rfl) ?_
      refine fg_X1_0 hx hb (fun q h => hg q (tl_X1 q h)) hown (hg _ t_fl_X1_22) S (by decide) dX1_ready_31 ?_
      refine lv_iload hx hb dX1_ready_34 (lv_at hl 2 rfl) ?_
      refine lv_lconst (v := 0) hx hb dX1_ready_36 (by decide) ?_
      obtain ⟨h8, hz⟩ := ck hz
      refine g_last (x := 0) hx hb S (isA_22 (by decide)) h8 dX1_ready_37 (fun H locs S => ?_)
      refine lv_iinc (v := (x4 + 1)) (lv' := [(4, .int (x4 + 1)), (0, .ref (gad G 67)), (3, .int x3)]) hx hb dX1_ready_38 hl (k := 2) rfl rfl (by decide) rfl (fun ls hl => ?_)
      refine lv_goto (tgt := 23) hx hb dX1_ready_41 (by decide) ?_
      exact ih x3 (x4 + 1)  _ _ _ _ S (lv_sub hl [1, 2, 0] rfl) hz
set_option maxHeartbeats 4000000 in
set_option maxRecDepth 100000 in
theorem c_X1_ready (l : Launch) (G : GG) (k1 : Nat) (k2 : Nat) (hk1 : kd k1 = 3) (hk2 : kd k2 = 4) (w : GW) {z : Unit × GW} (hz : f_X1_ready k1 k2 w = some z) : Met l yX1_ready (wsU yX1_ready cX1_ready 6 none) rm_X1_ready (va_Pc [.ref (gad G 67), .ref (gad G k1), .ref (gad G k2)] (PreG G w)) (QV G z) 0 0 (gA G) := by
  refine Met.ofW (cc := cX1_ready) (maxL := 6) (ret := none) (by decide) rfl ?_
  intro p e s m args below meth c s₁ B hml hv
  obtain ⟨rfl, S⟩ := hv
  have F : CallFix p m c cX1_ready 6 s _ (wsU yX1_ready cX1_ready 6 none) RX1 := ⟨B.exec, B.bytes, hml, findClass_of_methodNamed B.named, atoms_spec B.pre⟩
  have hr := B.returns
  have hlk := B.notSynchronized
  obtain ⟨hx, hb, -, hown, hts⟩ := id F
  have hg : ∀ q ∈ lwg, q.before _ s = true := fun q h => hts q (List.mem_cons_of_mem _ h)
  refine g_entry (Nat.le_of_ble_eq_true rfl) (fun ls hl => ?_)
  have hl : lv_has ls 6 [(0, .ref (gad G 67)), (1, .ref (gad G k1)), (2, .ref (gad G k2))] := hl
  have S : St G w s s.heap [] := S
  generalize s.heap = H at S ⊢
  generalize ([] : List Loc) = locs at S ⊢
  rw [f_X1_ready] at hz
  refine lv_aload_n hx hb dX1_ready_0 rfl (lv_at hl 0 rfl) ?_
  refine lv_aload_n hx hb dX1_ready_1 rfl (lv_at hl 1 rfl) ?_
  refine fp_X1_3 (v := k1) hx hb (fun q h => hg q (tl_X1 q h)) hown (hg _ t_fl_X1_9) S (by decide) hk1 dX1_ready_2 (fun H locs S => ?_)
  refine lv_aload_n hx hb dX1_ready_5 rfl (lv_at hl 0 rfl) ?_
  refine lv_aload_n hx hb dX1_ready_6 rfl (lv_at hl 2 rfl) ?_
  refine fp_X1_4 (v := k2) hx hb (fun q h => hg q (tl_X1 q h)) hown (hg _ t_fl_X1_18) S (by decide) hk2 dX1_ready_7 (fun H locs S => ?_)
  refine lv_iconst (v := 1) hx hb dX1_ready_10 (by decide) ?_
  refine lv_aload_n hx hb dX1_ready_11 rfl (lv_at hl 0 rfl) ?_
  refine fg_X1_3 hx hb (fun q h => hg q (tl_X1 q h)) hown (hg _ t_fl_X1_9) S (by decide) dX1_ready_12 ?_
  refine fg_X3_1 hx hb (fun q h => hg q (tl_X3 q h)) hown (hg _ t_fl_X1_33) S (kd_H _) dX1_ready_15 ?_
  refine lv_ishl hx hb dX1_ready_18 ?_
  refine lv_istore_n (lv' := [(3, .int ((1 : Int32) <<< ((gI (sR (sR w 4 k1) 5 k2) (fxH (gR (sR (sR w 4 k1) 5 k2) 4)) 1) &&& 31))), (0, .ref (gad G 67)), (1, .ref (gad G k1)), (2, .ref (gad G k2))]) hx hb dX1_ready_19 rfl hl (by decide) rfl (fun ls hl => ?_)
  refine lv_iconst (v := 1) hx hb dX1_ready_20 (by decide) ?_
  refine lv_istore (lv' := [(4, .int 1), (3, .int ((1 : Int32) <<< ((gI (sR (sR w 4 k1) 5 k2) (fxH (gR (sR (sR w 4 k1) 5 k2) 4)) 1) &&& 31))), (0, .ref (gad G 67)), (1, .ref (gad G k1)), (2, .ref (gad G k2))]) hx hb dX1_ready_21 hl (by decide) rfl (fun ls hl => ?_)
  exact w_X1_ready_23 F hr hlk fu ((1 : Int32) <<< ((gI (sR (sR w 4 k1) 5 k2) (fxH (gR (sR (sR w 4 k1) 5 k2) 4)) 1) &&& 31)) 1 _ _ _ _ S (lv_sub hl [2, 1, 0] rfl) hz
noncomputable def f_X0_sumOfSlots_5  : Nat → Int32 → Int64 → Int32 → GW → Option (Int64 × GW)
  | 0, _, _, _, _ => none
  | n9 + 1, x1, x2, x4, w =>
    if 6 ≤ x4 then
      some (x2, w)
    else
      if inb ((x1 * 6) + x4) 7722 then
      f_X0_sumOfSlots_5 n9 x1 (x2 + (gL w 111 (ix ((x1 * 6) + x4)))) (x4 + 1) w
      else none
noncomputable def f_X0_sumOfSlots (x1 : Int32) (w : GW) : Option (Int64 × GW) :=
  f_X0_sumOfSlots_5 fu x1 0 0 w
set_option maxHeartbeats 4000000 in
set_option maxRecDepth 100000 in
theorem w_X0_sumOfSlots_5 {p : Program} {l : Launch} {e : Env} {s : State} {m : MethodId} {args : Array Value} {below : List Frame} {meth : Method} {c : Code} {G : GG} (F : CallFix p m c cX0_sumOfSlots 5 s args (wsU yX0_sumOfSlots cX0_sumOfSlots 5 (some .long)) RX0) (hr : meth.sig.returnType = (some .long)) (hlk : meth.locks = false) {z : Int64 × GW} : ∀ (n9 : Nat), (∀ (x1 : Int32) (x2 : Int64) (x4 : Int32) (w : GW) (H : Heap) (locs : List Loc) (ls : Array Slot), St G w s H locs → lv_has ls 5 [(0, .ref (gad G 72)), (1, .int x1), (2, .long x2), (4, .int x4)] → f_X0_sumOfSlots_5 n9 x1 x2 x4 w = some z → W p l e (headSpec (wsU yX0_sumOfSlots cX0_sumOfSlots 5 (some .long)) rm_X0_sumOfSlots).room s m args below meth c H locs 0 0 (MQ below (QL G z) args s 0 0 (gA G)) (F0 m 5 ls [])) := by
  obtain ⟨hx, hb, hml, hown, hts⟩ := id F
  have hg : ∀ q ∈ lwg, q.before args s = true := fun q h => hts q (List.mem_cons_of_mem _ h)
  intro n9
  induction n9 with
  | zero =>
    intro x1 x2 x4 w H locs ls S hl hz
    rw [f_X0_sumOfSlots_5] at hz
    cases hz
  | succ n9 ih =>
    intro x1 x2 x4 w H locs ls S hl hz
    rw [f_X0_sumOfSlots_5] at hz
    refine lv_iload hx hb dX0_sumOfSlots_5 (lv_at hl 3 rfl) ?_
    refine lv_bipush (v := 6) hx hb dX0_sumOfSlots_7 (by decide) ?_
    refine lv_icmp_ge (tgt := 33) hx hb dX0_sumOfSlots_9 (by decide) (fun c1 => ?_) (fun c1 => ?_)
    · have hz := ipt (c1) hz
      refine lv_lload_n hx hb dX0_sumOfSlots_33 rfl (lv_at hl 2 rfl) ?_
      exact g_retl hx hb hr hlk S hz dX0_sumOfSlots_34
    · have hz := ipf (c1) hz
      refine lv_lload_n hx hb dX0_sumOfSlots_12 rfl (lv_at hl 2 rfl) ?_
      refine lv_aload_n hx hb dX0_sumOfSlots_13 rfl (lv_at hl 0 rfl) ?_
      refine fg_X0_2 hx hb (fun q h => hg q (tl_X0 q h)) hown (hg _ t_fl_X0_28) S (by decide) dX0_sumOfSlots_14 ?_
      refine lv_iload_n hx hb dX0_sumOfSlots_17 rfl (lv_at hl 1 rfl) ?_
      refine lv_bipush (v := 6) hx hb dX0_sumOfSlots_18 (by decide) ?_
      refine lv_imul hx hb dX0_sumOfSlots_20 ?_
      refine lv_iload hx hb dX0_sumOfSlots_21 (lv_at hl 3 rfl) ?_
      refine lv_iadd hx hb dX0_sumOfSlots_23 ?_
      obtain ⟨h2, hz⟩ := ck hz
      refine g_lald hx hb S (isA_24 (by decide)) h2 dX0_sumOfSlots_24 ?_
      refine lv_ladd hx hb dX0_sumOfSlots_25 ?_
      refine lv_lstore_n (lv' := [(2, .long (x2 + (gL w 111 (ix ((x1 * 6) + x4))))), (0, .ref (gad G 72)), (1, .int x1), (4, .int x4)]) hx hb dX0_sumOfSlots_26 rfl hl (by decide) rfl (fun ls hl => ?_)
      refine lv_iinc (v := (x4 + 1)) (lv' := [(4, .int (x4 + 1)), (2, .long (x2 + (gL w 111 (ix ((x1 * 6) + x4))))), (0, .ref (gad G 72)), (1, .int x1)]) hx hb dX0_sumOfSlots_27 hl (k := 3) rfl rfl (by decide) rfl (fun ls hl => ?_)
      refine lv_goto (tgt := 5) hx hb dX0_sumOfSlots_30 (by decide) ?_
      exact ih x1 (x2 + (gL w 111 (ix ((x1 * 6) + x4)))) (x4 + 1)  _ _ _ _ S (lv_sub hl [2, 3, 1, 0] rfl) hz
set_option maxHeartbeats 4000000 in
set_option maxRecDepth 100000 in
theorem c_X0_sumOfSlots (l : Launch) (G : GG) (x1 : Int32)  (w : GW) {z : Int64 × GW} (hz : f_X0_sumOfSlots x1 w = some z) : Met l yX0_sumOfSlots (wsU yX0_sumOfSlots cX0_sumOfSlots 5 (some .long)) rm_X0_sumOfSlots (va_Pc [.ref (gad G 72), .int x1] (PreG G w)) (QL G z) 0 0 (gA G) := by
  refine Met.ofW (cc := cX0_sumOfSlots) (maxL := 5) (ret := (some .long)) (by decide) rfl ?_
  intro p e s m args below meth c s₁ B hml hv
  obtain ⟨rfl, S⟩ := hv
  have F : CallFix p m c cX0_sumOfSlots 5 s _ (wsU yX0_sumOfSlots cX0_sumOfSlots 5 (some .long)) RX0 := ⟨B.exec, B.bytes, hml, findClass_of_methodNamed B.named, atoms_spec B.pre⟩
  have hr := B.returns
  have hlk := B.notSynchronized
  obtain ⟨hx, hb, -, hown, hts⟩ := id F
  have hg : ∀ q ∈ lwg, q.before _ s = true := fun q h => hts q (List.mem_cons_of_mem _ h)
  refine g_entry (Nat.le_of_ble_eq_true rfl) (fun ls hl => ?_)
  have hl : lv_has ls 5 [(0, .ref (gad G 72)), (1, .int x1)] := hl
  have S : St G w s s.heap [] := S
  generalize s.heap = H at S ⊢
  generalize ([] : List Loc) = locs at S ⊢
  rw [f_X0_sumOfSlots] at hz
  refine lv_lconst (v := 0) hx hb dX0_sumOfSlots_0 (by decide) ?_
  refine lv_lstore_n (lv' := [(2, .long 0), (0, .ref (gad G 72)), (1, .int x1)]) hx hb dX0_sumOfSlots_1 rfl hl (by decide) rfl (fun ls hl => ?_)
  refine lv_iconst (v := 0) hx hb dX0_sumOfSlots_2 (by decide) ?_
  refine lv_istore (lv' := [(4, .int 0), (2, .long 0), (0, .ref (gad G 72)), (1, .int x1)]) hx hb dX0_sumOfSlots_3 hl (by decide) rfl (fun ls hl => ?_)
  exact w_X0_sumOfSlots_5 F hr hlk fu x1 0 0 _ _ _ _ S (lv_sub hl [2, 3, 1, 0] rfl) hz
noncomputable def f_X3_roomFrom_57 (k_5 : Nat → Nat → Int32 → Int32 → GW → Option (Int32 × GW)) (k0 : Nat) (k1 : Nat) (x4 : Int32) (t0 : Int32) (w : GW) : Option (Int32 × GW) :=
  k_5 k0 k1 t0 (x4 + 1) w
noncomputable def f_X3_roomFrom_5  : Nat → Nat → Nat → Int32 → Int32 → GW → Option (Int32 × GW)
  | 0, _, _, _, _, _ => none
  | n9 + 1, k0, k1, x3, x4, w =>
    if (gI w k0 1) ≤ x4 then
      some ((-1), w)
    else
      if x3 < 0 then
        some ((-1), w)
      else
        if (gI w k0 1) ≤ x3 then
          some ((-1), w)
        else
          if inb x3 5 then
          if inb x3 5 then
          if (gI w (k0 + 1) (ix x3)) ≤ (gI w k1 (ix x3)) then
            if (gI w k0 1) ≤ (x3 + 1) then
              f_X3_roomFrom_57 (f_X3_roomFrom_5 n9) k0 k1 x4 0 w
            else
              f_X3_roomFrom_57 (f_X3_roomFrom_5 n9) k0 k1 x4 (x3 + 1) w
          else
            some (x3, w)
          else none
          else none
noncomputable def f_X3_roomFrom (k0 : Nat) (k1 : Nat) (x2 : Int32) (w : GW) : Option (Int32 × GW) :=
  f_X3_roomFrom_5 fu k0 k1 x2 0 w
set_option maxHeartbeats 4000000 in
set_option maxRecDepth 100000 in
theorem w_X3_roomFrom_57 {p : Program} {l : Launch} {e : Env} {s : State} {m : MethodId} {args : Array Value} {below : List Frame} {meth : Method} {c : Code} {G : GG} (F : CallFix p m c cX3_roomFrom 5 s args (wsU yX3_roomFrom cX3_roomFrom 5 (some .int)) RX3) (hr : meth.sig.returnType = (some .int)) (hlk : meth.locks = false) {z : Int32 × GW} {k_5 : Nat → Nat → Int32 → Int32 → GW → Option (Int32 × GW)} (Hk_5 : (∀ (k0 : Nat) (k1 : Nat) (x3 : Int32) (x4 : Int32) (hk0 : kd k0 = 3) (hk1 : kd k1 = 10) (w : GW) (H : Heap) (locs : List Loc) (ls : Array Slot), St G w s H locs → lv_has ls 5 [(0, .ref (gad G k0)), (1, .ref (gad G k1)), (3, .int x3), (4, .int x4)] → k_5 k0 k1 x3 x4 w = some z → W p l e (headSpec (wsU yX3_roomFrom cX3_roomFrom 5 (some .int)) rm_X3_roomFrom).room s m args below meth c H locs 0 0 (MQ below (QI G z) args s 0 0 (gA G)) (F0 m 5 ls []))) : (∀ (k0 : Nat) (k1 : Nat) (x4 : Int32) (t0 : Int32) (hk0 : kd k0 = 3) (hk1 : kd k1 = 10) (w : GW) (H : Heap) (locs : List Loc) (ls : Array Slot), St G w s H locs → lv_has ls 5 [(0, .ref (gad G k0)), (1, .ref (gad G k1)), (4, .int x4)] → f_X3_roomFrom_57 k_5 k0 k1 x4 t0 w = some z → W p l e (headSpec (wsU yX3_roomFrom cX3_roomFrom 5 (some .int)) rm_X3_roomFrom).room s m args below meth c H locs 0 0 (MQ below (QI G z) args s 0 0 (gA G)) (F0 m 57 ls [.int t0])) := by
  obtain ⟨hx, hb, hml, hown, hts⟩ := id F
  have hg : ∀ q ∈ lwg, q.before args s = true := fun q h => hts q (List.mem_cons_of_mem _ h)
  intro k0 k1 x4 t0 hk0 hk1 w H locs ls S hl hz
  rw [f_X3_roomFrom_57] at hz
  refine lv_istore_n (lv' := [(3, .int t0), (0, .ref (gad G k0)), (1, .ref (gad G k1)), (4, .int x4)]) hx hb dX3_roomFrom_57 rfl hl (by decide) rfl (fun ls hl => ?_)
  refine lv_iinc (v := (x4 + 1)) (lv' := [(4, .int (x4 + 1)), (3, .int t0), (0, .ref (gad G k0)), (1, .ref (gad G k1))]) hx hb dX3_roomFrom_58 hl (k := 3) rfl rfl (by decide) rfl (fun ls hl => ?_)
  refine lv_goto (tgt := 5) hx hb dX3_roomFrom_61 (by decide) ?_
  exact Hk_5 k0 k1 t0 (x4 + 1) hk0 hk1 _ _ _ _ S (lv_sub hl [2, 3, 1, 0] rfl) hz
set_option maxHeartbeats 4000000 in
set_option maxRecDepth 100000 in
theorem w_X3_roomFrom_5 {p : Program} {l : Launch} {e : Env} {s : State} {m : MethodId} {args : Array Value} {below : List Frame} {meth : Method} {c : Code} {G : GG} (F : CallFix p m c cX3_roomFrom 5 s args (wsU yX3_roomFrom cX3_roomFrom 5 (some .int)) RX3) (hr : meth.sig.returnType = (some .int)) (hlk : meth.locks = false) {z : Int32 × GW} : ∀ (n9 : Nat), (∀ (k0 : Nat) (k1 : Nat) (x3 : Int32) (x4 : Int32) (hk0 : kd k0 = 3) (hk1 : kd k1 = 10) (w : GW) (H : Heap) (locs : List Loc) (ls : Array Slot), St G w s H locs → lv_has ls 5 [(0, .ref (gad G k0)), (1, .ref (gad G k1)), (3, .int x3), (4, .int x4)] → f_X3_roomFrom_5 n9 k0 k1 x3 x4 w = some z → W p l e (headSpec (wsU yX3_roomFrom cX3_roomFrom 5 (some .int)) rm_X3_roomFrom).room s m args below meth c H locs 0 0 (MQ below (QI G z) args s 0 0 (gA G)) (F0 m 5 ls [])) := by
  obtain ⟨hx, hb, hml, hown, hts⟩ := id F
  have hg : ∀ q ∈ lwg, q.before args s = true := fun q h => hts q (List.mem_cons_of_mem _ h)
  intro n9
  induction n9 with
  | zero =>
    intro k0 k1 x3 x4 hk0 hk1 w H locs ls S hl hz
    rw [f_X3_roomFrom_5] at hz
    cases hz
  | succ n9 ih =>
    intro k0 k1 x3 x4 hk0 hk1 w H locs ls S hl hz
    rw [f_X3_roomFrom_5] at hz
    refine lv_iload hx hb dX3_roomFrom_5 (lv_at hl 3 rfl) ?_
    refine lv_aload_n hx hb dX3_roomFrom_7 rfl (lv_at hl 0 rfl) ?_
    refine fg_X3_1 hx hb (fun q h => hg q (tl_X3 q h)) hown (hg _ t_fl_X3_42) S hk0 dX3_roomFrom_8 ?_
    refine lv_icmp_ge (tgt := 64) hx hb dX3_roomFrom_11 (by decide) (fun c1 => ?_) (fun c1 => ?_)
    · have hz := ipt (c1) hz
      refine lv_iconst (v := (-1)) hx hb dX3_roomFrom_64 (by decide) ?_
      exact g_reti hx hb hr hlk S hz dX3_roomFrom_65
    · have hz := ipf (c1) hz
      refine lv_iload_n hx hb dX3_roomFrom_14 rfl (lv_at hl 2 rfl) ?_
      refine lv_if_lt (tgt := 64) hx hb dX3_roomFrom_15 (by decide) (fun c2 => ?_) (fun c2 => ?_)
      · have hz := ipt (c2) hz
        refine lv_iconst (v := (-1)) hx hb dX3_roomFrom_64 (by decide) ?_
        exact g_reti hx hb hr hlk S hz dX3_roomFrom_65
      · have hz := ipf (c2) hz
        refine lv_iload_n hx hb dX3_roomFrom_18 rfl (lv_at hl 2 rfl) ?_
        refine lv_aload_n hx hb dX3_roomFrom_19 rfl (lv_at hl 0 rfl) ?_
        refine fg_X3_1 hx hb (fun q h => hg q (tl_X3 q h)) hown (hg _ t_fl_X3_42) S hk0 dX3_roomFrom_20 ?_
        refine lv_icmp_ge (tgt := 64) hx hb dX3_roomFrom_23 (by decide) (fun c3 => ?_) (fun c3 => ?_)
        · have hz := ipt (c3) hz
          refine lv_iconst (v := (-1)) hx hb dX3_roomFrom_64 (by decide) ?_
          exact g_reti hx hb hr hlk S hz dX3_roomFrom_65
        · have hz := ipf (c3) hz
          refine lv_aload_n hx hb dX3_roomFrom_26 rfl (lv_at hl 1 rfl) ?_
          refine lv_iload_n hx hb dX3_roomFrom_27 rfl (lv_at hl 2 rfl) ?_
          obtain ⟨h4, hz⟩ := ck hz
          refine g_iald hx hb S (isA_10 hk1) h4 dX3_roomFrom_28 ?_
          refine lv_aload_n hx hb dX3_roomFrom_29 rfl (lv_at hl 0 rfl) ?_
          refine fg_X3_10 hx hb (fun q h => hg q (tl_X3 q h)) hown (hg _ t_fl_X3_9) S hk0 dX3_roomFrom_30 ?_
          refine lv_iload_n hx hb dX3_roomFrom_33 rfl (lv_at hl 2 rfl) ?_
          obtain ⟨h5, hz⟩ := ck hz
          refine g_iald hx hb S (isA_10 (kd_3_1 hk0)) h5 dX3_roomFrom_34 ?_
          refine lv_icmp_ge (tgt := 40) hx hb dX3_roomFrom_35 (by decide) (fun c6 => ?_) (fun c6 => ?_)
          · have hz := ipt (c6) hz
            refine lv_iload_n hx hb dX3_roomFrom_40 rfl (lv_at hl 2 rfl) ?_
            refine lv_iconst (v := 1) hx hb dX3_roomFrom_41 (by decide) ?_
            refine lv_iadd hx hb dX3_roomFrom_42 ?_
            refine lv_aload_n hx hb dX3_roomFrom_43 rfl (lv_at hl 0 rfl) ?_
            refine fg_X3_1 hx hb (fun q h => hg q (tl_X3 q h)) hown (hg _ t_fl_X3_42) S hk0 dX3_roomFrom_44 ?_
            refine lv_icmp_ge (tgt := 56) hx hb dX3_roomFrom_47 (by decide) (fun c7 => ?_) (fun c7 => ?_)
            · have hz := ipt (c7) hz
              refine lv_iconst (v := 0) hx hb dX3_roomFrom_56 (by decide) ?_
              exact w_X3_roomFrom_57 F hr hlk ih k0 k1 x4 0 hk0 hk1 _ _ _ _ S (lv_sub hl [0, 1, 3] rfl) hz
            · have hz := ipf (c7) hz
              refine lv_iload_n hx hb dX3_roomFrom_50 rfl (lv_at hl 2 rfl) ?_
              refine lv_iconst (v := 1) hx hb dX3_roomFrom_51 (by decide) ?_
              refine lv_iadd hx hb dX3_roomFrom_52 ?_
              refine lv_goto (tgt := 57) hx hb dX3_roomFrom_53 (by decide) ?_
              exact w_X3_roomFrom_57 F hr hlk ih k0 k1 x4 (x3 + 1) hk0 hk1 _ _ _ _ S (lv_sub hl [0, 1, 3] rfl) hz
          · have hz := ipf (c6) hz
            refine lv_iload_n hx hb dX3_roomFrom_38 rfl (lv_at hl 2 rfl) ?_
            exact g_reti hx hb hr hlk S hz dX3_roomFrom_39
set_option maxHeartbeats 4000000 in
set_option maxRecDepth 100000 in
theorem c_X3_roomFrom (l : Launch) (G : GG) (k0 : Nat) (k1 : Nat) (x2 : Int32) (hk0 : kd k0 = 3) (hk1 : kd k1 = 10) (w : GW) {z : Int32 × GW} (hz : f_X3_roomFrom k0 k1 x2 w = some z) : Met l yX3_roomFrom (wsU yX3_roomFrom cX3_roomFrom 5 (some .int)) rm_X3_roomFrom (va_Pc [.ref (gad G k0), .ref (gad G k1), .int x2] (PreG G w)) (QI G z) 0 0 (gA G) := by
  refine Met.ofW (cc := cX3_roomFrom) (maxL := 5) (ret := (some .int)) (by decide) rfl ?_
  intro p e s m args below meth c s₁ B hml hv
  obtain ⟨rfl, S⟩ := hv
  have F : CallFix p m c cX3_roomFrom 5 s _ (wsU yX3_roomFrom cX3_roomFrom 5 (some .int)) RX3 := ⟨B.exec, B.bytes, hml, findClass_of_methodNamed B.named, atoms_spec B.pre⟩
  have hr := B.returns
  have hlk := B.notSynchronized
  obtain ⟨hx, hb, -, hown, hts⟩ := id F
  have hg : ∀ q ∈ lwg, q.before _ s = true := fun q h => hts q (List.mem_cons_of_mem _ h)
  refine g_entry (Nat.le_of_ble_eq_true rfl) (fun ls hl => ?_)
  have hl : lv_has ls 5 [(0, .ref (gad G k0)), (1, .ref (gad G k1)), (2, .int x2)] := hl
  have S : St G w s s.heap [] := S
  generalize s.heap = H at S ⊢
  generalize ([] : List Loc) = locs at S ⊢
  rw [f_X3_roomFrom] at hz
  refine lv_iload_n hx hb dX3_roomFrom_0 rfl (lv_at hl 2 rfl) ?_
  refine lv_istore_n (lv' := [(3, .int x2), (0, .ref (gad G k0)), (1, .ref (gad G k1)), (2, .int x2)]) hx hb dX3_roomFrom_1 rfl hl (by decide) rfl (fun ls hl => ?_)
  refine lv_iconst (v := 0) hx hb dX3_roomFrom_2 (by decide) ?_
  refine lv_istore (lv' := [(4, .int 0), (3, .int x2), (0, .ref (gad G k0)), (1, .ref (gad G k1)), (2, .int x2)]) hx hb dX3_roomFrom_3 hl (by decide) rfl (fun ls hl => ?_)
  exact w_X3_roomFrom_5 F hr hlk fu k0 k1 x2 0 hk0 hk1 _ _ _ _ S (lv_sub hl [2, 3, 1, 0] rfl) hz
noncomputable def f_X3_move_69 (k_25 : Nat → Nat → Int32 → Int32 → Int32 → GW → Option (Unit × GW)) (k0 : Nat) (k1 : Nat) (x3 : Int32) (x5 : Int32) (t0 : Int32) (w : GW) : Option (Unit × GW) :=
  k_25 k0 k1 x3 t0 (x5 + 1) w
noncomputable def f_X3_move_50 (k_25 : Nat → Nat → Int32 → Int32 → Int32 → GW → Option (Unit × GW)) (k0 : Nat) (k1 : Nat) (x4 : Int32) (x5 : Int32) (t0 : Int32) (w : GW) : Option (Unit × GW) :=
  if inb x5 5 then
  if inb x4 5 then
  if (gI w k1 (ix x4)) ≤ (gI w k1 (ix x5)) then
    f_X3_move_69 k_25 k0 k1 t0 x5 x4 w
  else
    f_X3_move_69 k_25 k0 k1 t0 x5 x5 w
  else none
  else none
noncomputable def f_X3_move_25  : Nat → Nat → Nat → Int32 → Int32 → Int32 → GW → Option (Unit × GW)
  | 0, _, _, _, _, _, _ => none
  | n9 + 1, k0, k1, x3, x4, x5, w =>
    if (gI w k0 1) ≤ x5 then
      if inb x3 5 then
      if inb x4 5 then
      if ((gI w k1 (ix x3)) - (gI w k1 (ix x4))) < 2 then
        some ((), w)
      else
        if inb x4 5 then
        if inb x4 5 then
        if (gI w (k0 + 1) (ix x4)) ≤ (gI w k1 (ix x4)) then
          some ((), w)
        else
          if inb x3 5 then
          if inb x3 5 then
          if inb x4 5 then
          if inb x4 5 then
          some ((), (sI (sI w k1 (ix x3) ((gI w k1 (ix x3)) - 1)) k1 (ix x4) ((gI (sI w k1 (ix x3) ((gI w k1 (ix x3)) - 1)) k1 (ix x4)) + 1)))
          else none
          else none
          else none
          else none
        else none
        else none
      else none
      else none
    else
      if inb x5 5 then
      if inb x3 5 then
      if (gI w k1 (ix x5)) ≤ (gI w k1 (ix x3)) then
        f_X3_move_50 (f_X3_move_25 n9) k0 k1 x4 x5 x3 w
      else
        f_X3_move_50 (f_X3_move_25 n9) k0 k1 x4 x5 x5 w
      else none
      else none
noncomputable def f_X3_move (k0 : Nat) (k1 : Nat) (x2 : Int32) (w : GW) : Option (Unit × GW) :=
  if (gI w k0 7) ≤ 0 then
    some ((), w)
  else
    if ¬ (gI w k0 7) = 0 then
    if (irm x2 (gI w k0 7)) = 0 then
      f_X3_move_25 fu k0 k1 0 0 1 w
    else
      some ((), w)
    else none
set_option maxHeartbeats 4000000 in
set_option maxRecDepth 100000 in
theorem w_X3_move_69 {p : Program} {l : Launch} {e : Env} {s : State} {m : MethodId} {args : Array Value} {below : List Frame} {meth : Method} {c : Code} {G : GG} (F : CallFix p m c cX3_move 6 s args (wsU yX3_move cX3_move 6 none) RX3) (hr : meth.sig.returnType = none) (hlk : meth.locks = false) {z : Unit × GW} {k_25 : Nat → Nat → Int32 → Int32 → Int32 → GW → Option (Unit × GW)} (Hk_25 : (∀ (k0 : Nat) (k1 : Nat) (x3 : Int32) (x4 : Int32) (x5 : Int32) (hk0 : kd k0 = 3) (hk1 : kd k1 = 10) (w : GW) (H : Heap) (locs : List Loc) (ls : Array Slot), St G w s H locs → lv_has ls 6 [(0, .ref (gad G k0)), (1, .ref (gad G k1)), (3, .int x3), (4, .int x4), (5, .int x5)] → k_25 k0 k1 x3 x4 x5 w = some z → W p l e (headSpec (wsU yX3_move cX3_move 6 none) rm_X3_move).room s m args below meth c H locs 0 0 (MQ below (QV G z) args s 0 0 (gA G)) (F0 m 25 ls []))) : (∀ (k0 : Nat) (k1 : Nat) (x3 : Int32) (x5 : Int32) (t0 : Int32) (hk0 : kd k0 = 3) (hk1 : kd k1 = 10) (w : GW) (H : Heap) (locs : List Loc) (ls : Array Slot), St G w s H locs → lv_has ls 6 [(0, .ref (gad G k0)), (1, .ref (gad G k1)), (3, .int x3), (5, .int x5)] → f_X3_move_69 k_25 k0 k1 x3 x5 t0 w = some z → W p l e (headSpec (wsU yX3_move cX3_move 6 none) rm_X3_move).room s m args below meth c H locs 0 0 (MQ below (QV G z) args s 0 0 (gA G)) (F0 m 69 ls [.int t0])) := by
  obtain ⟨hx, hb, hml, hown, hts⟩ := id F
  have hg : ∀ q ∈ lwg, q.before args s = true := fun q h => hts q (List.mem_cons_of_mem _ h)
  intro k0 k1 x3 x5 t0 hk0 hk1 w H locs ls S hl hz
  rw [f_X3_move_69] at hz
  refine lv_istore (lv' := [(4, .int t0), (0, .ref (gad G k0)), (1, .ref (gad G k1)), (3, .int x3), (5, .int x5)]) hx hb dX3_move_69 hl (by decide) rfl (fun ls hl => ?_)
  refine lv_iinc (v := (x5 + 1)) (lv' := [(5, .int (x5 + 1)), (4, .int t0), (0, .ref (gad G k0)), (1, .ref (gad G k1)), (3, .int x3)]) hx hb dX3_move_71 hl (k := 4) rfl rfl (by decide) rfl (fun ls hl => ?_)
  refine lv_goto (tgt := 25) hx hb dX3_move_74 (by decide) ?_
  exact Hk_25 k0 k1 x3 t0 (x5 + 1) hk0 hk1 _ _ _ _ S (lv_sub hl [2, 3, 4, 1, 0] rfl) hz
set_option maxHeartbeats 4000000 in
set_option maxRecDepth 100000 in
theorem w_X3_move_50 {p : Program} {l : Launch} {e : Env} {s : State} {m : MethodId} {args : Array Value} {below : List Frame} {meth : Method} {c : Code} {G : GG} (F : CallFix p m c cX3_move 6 s args (wsU yX3_move cX3_move 6 none) RX3) (hr : meth.sig.returnType = none) (hlk : meth.locks = false) {z : Unit × GW} {k_25 : Nat → Nat → Int32 → Int32 → Int32 → GW → Option (Unit × GW)} (Hk_25 : (∀ (k0 : Nat) (k1 : Nat) (x3 : Int32) (x4 : Int32) (x5 : Int32) (hk0 : kd k0 = 3) (hk1 : kd k1 = 10) (w : GW) (H : Heap) (locs : List Loc) (ls : Array Slot), St G w s H locs → lv_has ls 6 [(0, .ref (gad G k0)), (1, .ref (gad G k1)), (3, .int x3), (4, .int x4), (5, .int x5)] → k_25 k0 k1 x3 x4 x5 w = some z → W p l e (headSpec (wsU yX3_move cX3_move 6 none) rm_X3_move).room s m args below meth c H locs 0 0 (MQ below (QV G z) args s 0 0 (gA G)) (F0 m 25 ls []))) : (∀ (k0 : Nat) (k1 : Nat) (x4 : Int32) (x5 : Int32) (t0 : Int32) (hk0 : kd k0 = 3) (hk1 : kd k1 = 10) (w : GW) (H : Heap) (locs : List Loc) (ls : Array Slot), St G w s H locs → lv_has ls 6 [(0, .ref (gad G k0)), (1, .ref (gad G k1)), (4, .int x4), (5, .int x5)] → f_X3_move_50 k_25 k0 k1 x4 x5 t0 w = some z → W p l e (headSpec (wsU yX3_move cX3_move 6 none) rm_X3_move).room s m args below meth c H locs 0 0 (MQ below (QV G z) args s 0 0 (gA G)) (F0 m 50 ls [.int t0])) := by
  obtain ⟨hx, hb, hml, hown, hts⟩ := id F
  have hg : ∀ q ∈ lwg, q.before args s = true := fun q h => hts q (List.mem_cons_of_mem _ h)
  intro k0 k1 x4 x5 t0 hk0 hk1 w H locs ls S hl hz
  rw [f_X3_move_50] at hz
  refine lv_istore_n (lv' := [(3, .int t0), (0, .ref (gad G k0)), (1, .ref (gad G k1)), (4, .int x4), (5, .int x5)]) hx hb dX3_move_50 rfl hl (by decide) rfl (fun ls hl => ?_)
  refine lv_aload_n hx hb dX3_move_51 rfl (lv_at hl 2 rfl) ?_
  refine lv_iload hx hb dX3_move_52 (lv_at hl 4 rfl) ?_
  obtain ⟨h18, hz⟩ := ck hz
  refine g_iald hx hb S (isA_10 hk1) h18 dX3_move_54 ?_
  refine lv_aload_n hx hb dX3_move_55 rfl (lv_at hl 2 rfl) ?_
  refine lv_iload hx hb dX3_move_56 (lv_at hl 3 rfl) ?_
  obtain ⟨h19, hz⟩ := ck hz
  refine g_iald hx hb S (isA_10 hk1) h19 dX3_move_58 ?_
  refine lv_icmp_ge (tgt := 67) hx hb dX3_move_59 (by decide) (fun c20 => ?_) (fun c20 => ?_)
  · have hz := ipt (c20) hz
    refine lv_iload hx hb dX3_move_67 (lv_at hl 3 rfl) ?_
    exact w_X3_move_69 F hr hlk Hk_25 k0 k1 t0 x5 x4 hk0 hk1 _ _ _ _ S (lv_sub hl [1, 2, 0, 4] rfl) hz
  · have hz := ipf (c20) hz
    refine lv_iload hx hb dX3_move_62 (lv_at hl 4 rfl) ?_
    refine lv_goto (tgt := 69) hx hb dX3_move_64 (by decide) ?_
    exact w_X3_move_69 F hr hlk Hk_25 k0 k1 t0 x5 x5 hk0 hk1 _ _ _ _ S (lv_sub hl [1, 2, 0, 4] rfl) hz
set_option maxHeartbeats 4000000 in
set_option maxRecDepth 100000 in
theorem w_X3_move_25 {p : Program} {l : Launch} {e : Env} {s : State} {m : MethodId} {args : Array Value} {below : List Frame} {meth : Method} {c : Code} {G : GG} (F : CallFix p m c cX3_move 6 s args (wsU yX3_move cX3_move 6 none) RX3) (hr : meth.sig.returnType = none) (hlk : meth.locks = false) {z : Unit × GW} : ∀ (n9 : Nat), (∀ (k0 : Nat) (k1 : Nat) (x3 : Int32) (x4 : Int32) (x5 : Int32) (hk0 : kd k0 = 3) (hk1 : kd k1 = 10) (w : GW) (H : Heap) (locs : List Loc) (ls : Array Slot), St G w s H locs → lv_has ls 6 [(0, .ref (gad G k0)), (1, .ref (gad G k1)), (3, .int x3), (4, .int x4), (5, .int x5)] → f_X3_move_25 n9 k0 k1 x3 x4 x5 w = some z → W p l e (headSpec (wsU yX3_move cX3_move 6 none) rm_X3_move).room s m args below meth c H locs 0 0 (MQ below (QV G z) args s 0 0 (gA G)) (F0 m 25 ls [])) := by
  obtain ⟨hx, hb, hml, hown, hts⟩ := id F
  have hg : ∀ q ∈ lwg, q.before args s = true := fun q h => hts q (List.mem_cons_of_mem _ h)
  intro n9
  induction n9 with
  | zero =>
    intro k0 k1 x3 x4 x5 hk0 hk1 w H locs ls S hl hz
    rw [f_X3_move_25] at hz
    cases hz
  | succ n9 ih =>
    intro k0 k1 x3 x4 x5 hk0 hk1 w H locs ls S hl hz
    rw [f_X3_move_25] at hz
    refine lv_iload hx hb dX3_move_25 (lv_at hl 4 rfl) ?_
    refine lv_aload_n hx hb dX3_move_27 rfl (lv_at hl 0 rfl) ?_
    refine fg_X3_1 hx hb (fun q h => hg q (tl_X3 q h)) hown (hg _ t_fl_X3_42) S hk0 dX3_move_28 ?_
    refine lv_icmp_ge (tgt := 77) hx hb dX3_move_31 (by decide) (fun c4 => ?_) (fun c4 => ?_)
    · have hz := ipt (c4) hz
      refine lv_aload_n hx hb dX3_move_77 rfl (lv_at hl 1 rfl) ?_
      refine lv_iload_n hx hb dX3_move_78 rfl (lv_at hl 2 rfl) ?_
      obtain ⟨h5, hz⟩ := ck hz
      refine g_iald hx hb S (isA_10 hk1) h5 dX3_move_79 ?_
      refine lv_aload_n hx hb dX3_move_80 rfl (lv_at hl 1 rfl) ?_
      refine lv_iload hx hb dX3_move_81 (lv_at hl 3 rfl) ?_
      obtain ⟨h6, hz⟩ := ck hz
      refine g_iald hx hb S (isA_10 hk1) h6 dX3_move_83 ?_
      refine lv_isub hx hb dX3_move_84 ?_
      refine lv_iconst (v := 2) hx hb dX3_move_85 (by decide) ?_
      refine lv_icmp_lt (tgt := 118) hx hb dX3_move_86 (by decide) (fun c7 => ?_) (fun c7 => ?_)
      · have hz := ipt (c7) hz
        exact g_retv hx hb hr hlk S hz dX3_move_118
      · have hz := ipf (c7) hz
        refine lv_aload_n hx hb dX3_move_89 rfl (lv_at hl 1 rfl) ?_
        refine lv_iload hx hb dX3_move_90 (lv_at hl 3 rfl) ?_
        obtain ⟨h8, hz⟩ := ck hz
        refine g_iald hx hb S (isA_10 hk1) h8 dX3_move_92 ?_
        refine lv_aload_n hx hb dX3_move_93 rfl (lv_at hl 0 rfl) ?_
        refine fg_X3_10 hx hb (fun q h => hg q (tl_X3 q h)) hown (hg _ t_fl_X3_9) S hk0 dX3_move_94 ?_
        refine lv_iload hx hb dX3_move_97 (lv_at hl 3 rfl) ?_
        obtain ⟨h9, hz⟩ := ck hz
        refine g_iald hx hb S (isA_10 (kd_3_1 hk0)) h9 dX3_move_99 ?_
        refine lv_icmp_ge (tgt := 118) hx hb dX3_move_100 (by decide) (fun c10 => ?_) (fun c10 => ?_)
        · have hz := ipt (c10) hz
          exact g_retv hx hb hr hlk S hz dX3_move_118
        · have hz := ipf (c10) hz
          refine lv_aload_n hx hb dX3_move_103 rfl (lv_at hl 1 rfl) ?_
          refine lv_iload_n hx hb dX3_move_104 rfl (lv_at hl 2 rfl) ?_
          refine lv_dup2_11 hx hb dX3_move_105 rfl rfl ?_
          obtain ⟨h11, hz⟩ := ck hz
          refine g_iald hx hb S (isA_10 hk1) h11 dX3_move_106 ?_
          refine lv_iconst (v := 1) hx hb dX3_move_107 (by decide) ?_
          refine lv_isub hx hb dX3_move_108 ?_
          obtain ⟨h12, hz⟩ := ck hz
          refine g_iast (x := ((gI w k1 (ix x3)) - 1)) hx hb S (isA_10 hk1) h12 dX3_move_109 (fun H locs S => ?_)
          refine lv_aload_n hx hb dX3_move_110 rfl (lv_at hl 1 rfl) ?_
          refine lv_iload hx hb dX3_move_111 (lv_at hl 3 rfl) ?_
          refine lv_dup2_11 hx hb dX3_move_113 rfl rfl ?_
          obtain ⟨h13, hz⟩ := ck hz
          refine g_iald hx hb S (isA_10 hk1) h13 dX3_move_114 ?_
          refine lv_iconst (v := 1) hx hb dX3_move_115 (by decide) ?_
          refine lv_iadd hx hb dX3_move_116 ?_
          obtain ⟨h14, hz⟩ := ck hz
          refine g_iast (x := ((gI (sI w k1 (ix x3) ((gI w k1 (ix x3)) - 1)) k1 (ix x4)) + 1)) hx hb S (isA_10 hk1) h14 dX3_move_117 (fun H locs S => ?_)
          exact g_retv hx hb hr hlk S hz dX3_move_118
    · have hz := ipf (c4) hz
      refine lv_aload_n hx hb dX3_move_34 rfl (lv_at hl 1 rfl) ?_
      refine lv_iload hx hb dX3_move_35 (lv_at hl 4 rfl) ?_
      obtain ⟨h15, hz⟩ := ck hz
      refine g_iald hx hb S (isA_10 hk1) h15 dX3_move_37 ?_
      refine lv_aload_n hx hb dX3_move_38 rfl (lv_at hl 1 rfl) ?_
      refine lv_iload_n hx hb dX3_move_39 rfl (lv_at hl 2 rfl) ?_
      obtain ⟨h16, hz⟩ := ck hz
      refine g_iald hx hb S (isA_10 hk1) h16 dX3_move_40 ?_
      refine lv_icmp_le (tgt := 49) hx hb dX3_move_41 (by decide) (fun c17 => ?_) (fun c17 => ?_)
      · have hz := ipt (c17) hz
        refine lv_iload_n hx hb dX3_move_49 rfl (lv_at hl 2 rfl) ?_
        exact w_X3_move_50 F hr hlk ih k0 k1 x4 x5 x3 hk0 hk1 _ _ _ _ S (lv_sub hl [0, 1, 3, 4] rfl) hz
      · have hz := ipf (c17) hz
        refine lv_iload hx hb dX3_move_44 (lv_at hl 4 rfl) ?_
        refine lv_goto (tgt := 50) hx hb dX3_move_46 (by decide) ?_
        exact w_X3_move_50 F hr hlk ih k0 k1 x4 x5 x5 hk0 hk1 _ _ _ _ S (lv_sub hl [0, 1, 3, 4] rfl) hz
set_option maxHeartbeats 4000000 in
set_option maxRecDepth 100000 in
theorem c_X3_move (l : Launch) (G : GG) (k0 : Nat) (k1 : Nat) (x2 : Int32) (hk0 : kd k0 = 3) (hk1 : kd k1 = 10) (w : GW) {z : Unit × GW} (hz : f_X3_move k0 k1 x2 w = some z) : Met l yX3_move (wsU yX3_move cX3_move 6 none) rm_X3_move (va_Pc [.ref (gad G k0), .ref (gad G k1), .int x2] (PreG G w)) (QV G z) 0 0 (gA G) := by
  refine Met.ofW (cc := cX3_move) (maxL := 6) (ret := none) (by decide) rfl ?_
  intro p e s m args below meth c s₁ B hml hv
  obtain ⟨rfl, S⟩ := hv
  have F : CallFix p m c cX3_move 6 s _ (wsU yX3_move cX3_move 6 none) RX3 := ⟨B.exec, B.bytes, hml, findClass_of_methodNamed B.named, atoms_spec B.pre⟩
  have hr := B.returns
  have hlk := B.notSynchronized
  obtain ⟨hx, hb, -, hown, hts⟩ := id F
  have hg : ∀ q ∈ lwg, q.before _ s = true := fun q h => hts q (List.mem_cons_of_mem _ h)
  refine g_entry (Nat.le_of_ble_eq_true rfl) (fun ls hl => ?_)
  have hl : lv_has ls 6 [(0, .ref (gad G k0)), (1, .ref (gad G k1)), (2, .int x2)] := hl
  have S : St G w s s.heap [] := S
  generalize s.heap = H at S ⊢
  generalize ([] : List Loc) = locs at S ⊢
  rw [f_X3_move] at hz
  refine lv_aload_n hx hb dX3_move_0 rfl (lv_at hl 0 rfl) ?_
  refine fg_X3_7 hx hb (fun q h => hg q (tl_X3 q h)) hown (hg _ t_fl_X3_55) S hk0 dX3_move_1 ?_
  refine lv_if_le (tgt := 16) hx hb dX3_move_4 (by decide) (fun c1 => ?_) (fun c1 => ?_)
  · have hz := ipt (c1) hz
    exact g_retv hx hb hr hlk S hz dX3_move_16
  · have hz := ipf (c1) hz
    refine lv_iload_n hx hb dX3_move_7 rfl (lv_at hl 2 rfl) ?_
    refine lv_aload_n hx hb dX3_move_8 rfl (lv_at hl 0 rfl) ?_
    refine fg_X3_7 hx hb (fun q h => hg q (tl_X3 q h)) hown (hg _ t_fl_X3_55) S hk0 dX3_move_9 ?_
    obtain ⟨h2, hz⟩ := ck hz
    refine g_irem hx hb dX3_move_12 h2 ?_
    refine lv_if_eq (tgt := 17) hx hb dX3_move_13 (by decide) (fun c3 => ?_) (fun c3 => ?_)
    · have hz := ipt (c3) hz
      refine lv_iconst (v := 0) hx hb dX3_move_17 (by decide) ?_
      refine lv_istore_n (lv' := [(3, .int 0), (0, .ref (gad G k0)), (1, .ref (gad G k1)), (2, .int x2)]) hx hb dX3_move_18 rfl hl (by decide) rfl (fun ls hl => ?_)
      refine lv_iconst (v := 0) hx hb dX3_move_19 (by decide) ?_
      refine lv_istore (lv' := [(4, .int 0), (3, .int 0), (0, .ref (gad G k0)), (1, .ref (gad G k1)), (2, .int x2)]) hx hb dX3_move_20 hl (by decide) rfl (fun ls hl => ?_)
      refine lv_iconst (v := 1) hx hb dX3_move_22 (by decide) ?_
      refine lv_istore (lv' := [(5, .int 1), (4, .int 0), (3, .int 0), (0, .ref (gad G k0)), (1, .ref (gad G k1)), (2, .int x2)]) hx hb dX3_move_23 hl (by decide) rfl (fun ls hl => ?_)
      exact w_X3_move_25 F hr hlk fu k0 k1 0 0 1 hk0 hk1 _ _ _ _ S (lv_sub hl [3, 4, 2, 1, 0] rfl) hz
    · have hz := ipf (c3) hz
      exact g_retv hx hb hr hlk S hz dX3_move_16
noncomputable def f_X0_lieBehind_22  : Nat → Int32 → Int32 → Int32 → GW → Option (Int32 × GW)
  | 0, _, _, _, _ => none
  | n9 + 1, x2, x3, x4, w =>
    if 5 ≤ x4 then
      if inb x3 5 then
      if inb x3 5 then
      (f_X3_move (fxH (gR (sI w 114 (ix x3) ((gI w 114 (ix x3)) + 1)) 3)) 114 x2 (sI w 114 (ix x3) ((gI w 114 (ix x3)) + 1))).bind fun q7 =>
      (f_X0_rank 114 q7.2).bind fun q9 =>
      some (q9.1, q9.2)
      else none
      else none
    else
      if inb x4 5 then
      if inb x4 5 then
      f_X0_lieBehind_22 n9 x2 x3 (x4 + 1) (sI w 114 (ix x4) (gI w 113 (ix x4)))
      else none
      else none
noncomputable def f_X0_lieBehind (x1 : Int32) (x2 : Int32) (w : GW) : Option (Int32 × GW) :=
  (f_X3_roomFrom (fxH (gR w 3)) 113 x1 w).bind fun q1 =>
  if 0 ≤ q1.1 then
    f_X0_lieBehind_22 fu x2 q1.1 0 q1.2
  else
    some ((-1), q1.2)
set_option maxHeartbeats 4000000 in
set_option maxRecDepth 100000 in
theorem w_X0_lieBehind_22 {p : Program} {l : Launch} {e : Env} {s : State} {m : MethodId} {args : Array Value} {below : List Frame} {meth : Method} {c : Code} {G : GG} (F : CallFix p m c cX0_lieBehind 5 s args (wsU yX0_lieBehind cX0_lieBehind 5 (some .int)) RX0) (hr : meth.sig.returnType = (some .int)) (hlk : meth.locks = false) {z : Int32 × GW} : ∀ (n9 : Nat), (∀ (x2 : Int32) (x3 : Int32) (x4 : Int32) (w : GW) (H : Heap) (locs : List Loc) (ls : Array Slot), St G w s H locs → lv_has ls 5 [(0, .ref (gad G 72)), (2, .int x2), (3, .int x3), (4, .int x4)] → f_X0_lieBehind_22 n9 x2 x3 x4 w = some z → W p l e (headSpec (wsU yX0_lieBehind cX0_lieBehind 5 (some .int)) rm_X0_lieBehind).room s m args below meth c H locs 0 0 (MQ below (QI G z) args s 0 0 (gA G)) (F0 m 22 ls [])) := by
  obtain ⟨hx, hb, hml, hown, hts⟩ := id F
  have hg : ∀ q ∈ lwg, q.before args s = true := fun q h => hts q (List.mem_cons_of_mem _ h)
  intro n9
  induction n9 with
  | zero =>
    intro x2 x3 x4 w H locs ls S hl hz
    rw [f_X0_lieBehind_22] at hz
    cases hz
  | succ n9 ih =>
    intro x2 x3 x4 w H locs ls S hl hz
    rw [f_X0_lieBehind_22] at hz
    refine lv_iload hx hb dX0_lieBehind_22 (lv_at hl 3 rfl) ?_
    refine lv_iconst (v := 5) hx hb dX0_lieBehind_24 (by decide) ?_
    refine lv_icmp_ge (tgt := 48) hx hb dX0_lieBehind_25 (by decide) (fun c4 => ?_) (fun c4 => ?_)
    · have hz := ipt (c4) hz
      refine lv_aload_n hx hb dX0_lieBehind_48 rfl (lv_at hl 0 rfl) ?_
      refine fg_X0_5 hx hb (fun q h => hg q (tl_X0 q h)) hown (hg _ t_fl_X0_39) S (by decide) dX0_lieBehind_49 ?_
      refine lv_iload_n hx hb dX0_lieBehind_52 rfl (lv_at hl 2 rfl) ?_
      refine lv_dup2_11 hx hb dX0_lieBehind_53 rfl rfl ?_
      obtain ⟨h5, hz⟩ := ck hz
      refine g_iald hx hb S (isA_10 (by decide)) h5 dX0_lieBehind_54 ?_
      refine lv_iconst (v := 1) hx hb dX0_lieBehind_55 (by decide) ?_
      refine lv_iadd hx hb dX0_lieBehind_56 ?_
      obtain ⟨h6, hz⟩ := ck hz
      refine g_iast (x := ((gI w 114 (ix x3)) + 1)) hx hb S (isA_10 (by decide)) h6 dX0_lieBehind_57 (fun H locs S => ?_)
      refine lv_aload_n hx hb dX0_lieBehind_58 rfl (lv_at hl 0 rfl) ?_
      refine fg_X0_8 hx hb (fun q h => hg q (tl_X0 q h)) hown (hg _ t_fl_X0_9) S (by decide) dX0_lieBehind_59 ?_
      refine lv_aload_n hx hb dX0_lieBehind_62 rfl (lv_at hl 0 rfl) ?_
      refine fg_X0_5 hx hb (fun q h => hg q (tl_X0 q h)) hown (hg _ t_fl_X0_39) S (by decide) dX0_lieBehind_63 ?_
      refine lv_iload_n hx hb dX0_lieBehind_66 rfl (lv_at hl 1 rfl) ?_
      obtain ⟨q7, e8, hz⟩ := bd hz
      refine g_callVv (As := [.ref (gad G 114), .int x2]) (rest := []) F S (c_X3_move l G (fxH (gR (sI w 114 (ix x3) ((gI w 114 (ix x3)) + 1)) 3)) 114 x2 (kd_H _) (by decide) _ e8) (cw_X0_lieBehind_X3_move_120 hg) (S.obj (kd_H _) (by decide) rfl (oc_X3 _ _ _ (kd_H _))) rfl hl.1 rfl (Nat.le_of_ble_eq_true rfl) ⟨Nat.zero_le _, Nat.zero_le _⟩ dX0_lieBehind_67 (fun H locs  S => ?_)
      refine lv_aload_n hx hb dX0_lieBehind_70 rfl (lv_at hl 0 rfl) ?_
      refine lv_aload_n hx hb dX0_lieBehind_71 rfl (lv_at hl 0 rfl) ?_
      refine fg_X0_5 hx hb (fun q h => hg q (tl_X0 q h)) hown (hg _ t_fl_X0_39) S (by decide) dX0_lieBehind_72 ?_
      obtain ⟨q9, e10, hz⟩ := bd hz
      refine g_callVi (As := [.ref (gad G 114)]) (rest := []) F S (c_X0_rank l G 114 (by decide) _ e10) (cw_X0_lieBehind_X0_rank_54 hg) (S.obj (by decide) (by decide) rfl (oc_X0 _ _ _ (by decide))) rfl hl.1 rfl (Nat.le_of_ble_eq_true rfl) ⟨Nat.zero_le _, Nat.zero_le _⟩ dX0_lieBehind_75 (fun H locs  S => ?_)
      exact g_reti hx hb hr hlk S hz dX0_lieBehind_78
    · have hz := ipf (c4) hz
      refine lv_aload_n hx hb dX0_lieBehind_28 rfl (lv_at hl 0 rfl) ?_
      refine fg_X0_5 hx hb (fun q h => hg q (tl_X0 q h)) hown (hg _ t_fl_X0_39) S (by decide) dX0_lieBehind_29 ?_
      refine lv_iload hx hb dX0_lieBehind_32 (lv_at hl 3 rfl) ?_
      refine lv_aload_n hx hb dX0_lieBehind_34 rfl (lv_at hl 0 rfl) ?_
      refine fg_X0_4 hx hb (fun q h => hg q (tl_X0 q h)) hown (hg _ t_fl_X0_36) S (by decide) dX0_lieBehind_35 ?_
      refine lv_iload hx hb dX0_lieBehind_38 (lv_at hl 3 rfl) ?_
      obtain ⟨h11, hz⟩ := ck hz
      refine g_iald hx hb S (isA_10 (by decide)) h11 dX0_lieBehind_40 ?_
      obtain ⟨h12, hz⟩ := ck hz
      refine g_iast (x := (gI w 113 (ix x4))) hx hb S (isA_10 (by decide)) h12 dX0_lieBehind_41 (fun H locs S => ?_)
      refine lv_iinc (v := (x4 + 1)) (lv' := [(4, .int (x4 + 1)), (0, .ref (gad G 72)), (2, .int x2), (3, .int x3)]) hx hb dX0_lieBehind_42 hl (k := 3) rfl rfl (by decide) rfl (fun ls hl => ?_)
      refine lv_goto (tgt := 22) hx hb dX0_lieBehind_45 (by decide) ?_
      exact ih x2 x3 (x4 + 1)  _ _ _ _ S (lv_sub hl [1, 2, 3, 0] rfl) hz
set_option maxHeartbeats 4000000 in
set_option maxRecDepth 100000 in
theorem c_X0_lieBehind (l : Launch) (G : GG) (x1 : Int32) (x2 : Int32)  (w : GW) {z : Int32 × GW} (hz : f_X0_lieBehind x1 x2 w = some z) : Met l yX0_lieBehind (wsU yX0_lieBehind cX0_lieBehind 5 (some .int)) rm_X0_lieBehind (va_Pc [.ref (gad G 72), .int x1, .int x2] (PreG G w)) (QI G z) 0 0 (gA G) := by
  refine Met.ofW (cc := cX0_lieBehind) (maxL := 5) (ret := (some .int)) (by decide) rfl ?_
  intro p e s m args below meth c s₁ B hml hv
  obtain ⟨rfl, S⟩ := hv
  have F : CallFix p m c cX0_lieBehind 5 s _ (wsU yX0_lieBehind cX0_lieBehind 5 (some .int)) RX0 := ⟨B.exec, B.bytes, hml, findClass_of_methodNamed B.named, atoms_spec B.pre⟩
  have hr := B.returns
  have hlk := B.notSynchronized
  obtain ⟨hx, hb, -, hown, hts⟩ := id F
  have hg : ∀ q ∈ lwg, q.before _ s = true := fun q h => hts q (List.mem_cons_of_mem _ h)
  refine g_entry (Nat.le_of_ble_eq_true rfl) (fun ls hl => ?_)
  have hl : lv_has ls 5 [(0, .ref (gad G 72)), (1, .int x1), (2, .int x2)] := hl
  have S : St G w s s.heap [] := S
  generalize s.heap = H at S ⊢
  generalize ([] : List Loc) = locs at S ⊢
  rw [f_X0_lieBehind] at hz
  refine lv_aload_n hx hb dX0_lieBehind_0 rfl (lv_at hl 0 rfl) ?_
  refine fg_X0_8 hx hb (fun q h => hg q (tl_X0 q h)) hown (hg _ t_fl_X0_9) S (by decide) dX0_lieBehind_1 ?_
  refine lv_aload_n hx hb dX0_lieBehind_4 rfl (lv_at hl 0 rfl) ?_
  refine fg_X0_4 hx hb (fun q h => hg q (tl_X0 q h)) hown (hg _ t_fl_X0_36) S (by decide) dX0_lieBehind_5 ?_
  refine lv_iload_n hx hb dX0_lieBehind_8 rfl (lv_at hl 1 rfl) ?_
  obtain ⟨q1, e2, hz⟩ := bd hz
  refine g_callVi (As := [.ref (gad G 113), .int x1]) (rest := []) F S (c_X3_roomFrom l G (fxH (gR w 3)) 113 x1 (kd_H _) (by decide) _ e2) (cw_X0_lieBehind_X3_roomFrom_116 hg) (S.obj (kd_H _) (by decide) rfl (oc_X3 _ _ _ (kd_H _))) rfl hl.1 rfl (Nat.le_of_ble_eq_true rfl) ⟨Nat.zero_le _, Nat.zero_le _⟩ dX0_lieBehind_9 (fun H locs  S => ?_)
  refine lv_istore_n (lv' := [(3, .int q1.1), (0, .ref (gad G 72)), (1, .int x1), (2, .int x2)]) hx hb dX0_lieBehind_12 rfl hl (by decide) rfl (fun ls hl => ?_)
  refine lv_iload_n hx hb dX0_lieBehind_13 rfl (lv_at hl 0 rfl) ?_
  refine lv_if_ge (tgt := 19) hx hb dX0_lieBehind_14 (by decide) (fun c3 => ?_) (fun c3 => ?_)
  · have hz := ipt (c3) hz
    refine lv_iconst (v := 0) hx hb dX0_lieBehind_19 (by decide) ?_
    refine lv_istore (lv' := [(4, .int 0), (3, .int q1.1), (0, .ref (gad G 72)), (1, .int x1), (2, .int x2)]) hx hb dX0_lieBehind_20 hl (by decide) rfl (fun ls hl => ?_)
    exact w_X0_lieBehind_22 F hr hlk fu x2 q1.1 0 _ _ _ _ S (lv_sub hl [2, 4, 1, 0] rfl) hz
  · have hz := ipf (c3) hz
    refine lv_iconst (v := (-1)) hx hb dX0_lieBehind_17 (by decide) ?_
    exact g_reti hx hb hr hlk S hz dX0_lieBehind_18
noncomputable def f_X1_mixed_9  : Nat → Int64 → Int64 → Int32 → Int64 → Int64 → Int32 → GW → Option (Int64 × GW)
  | 0, _, _, _, _, _, _, _ => none
  | n9 + 1, x0, x2, x4, x5, x7, x9, w =>
    if x4 ≤ x9 then
      some (x5, w)
    else
      f_X1_mixed_9 n9 x0 x2 x4 ((x5 * x0) + x7) (x7 * x2) (x9 + 1) w
noncomputable def f_X1_mixed (x0 : Int64) (x2 : Int64) (x4 : Int32) (w : GW) : Option (Int64 × GW) :=
  f_X1_mixed_9 fu x0 x2 x4 0 1 0 w
set_option maxHeartbeats 4000000 in
set_option maxRecDepth 100000 in
theorem w_X1_mixed_9 {p : Program} {l : Launch} {e : Env} {s : State} {m : MethodId} {args : Array Value} {below : List Frame} {meth : Method} {c : Code} {G : GG} (F : CallFix p m c cX1_mixed 10 s args (wsU yX1_mixed cX1_mixed 10 (some .long)) RX1) (hr : meth.sig.returnType = (some .long)) (hlk : meth.locks = false) {z : Int64 × GW} : ∀ (n9 : Nat), (∀ (x0 : Int64) (x2 : Int64) (x4 : Int32) (x5 : Int64) (x7 : Int64) (x9 : Int32) (w : GW) (H : Heap) (locs : List Loc) (ls : Array Slot), St G w s H locs → lv_has ls 10 [(0, .long x0), (2, .long x2), (4, .int x4), (5, .long x5), (7, .long x7), (9, .int x9)] → f_X1_mixed_9 n9 x0 x2 x4 x5 x7 x9 w = some z → W p l e (headSpec (wsU yX1_mixed cX1_mixed 10 (some .long)) rm_X1_mixed).room s m args below meth c H locs 0 0 (MQ below (QL G z) args s 0 0 (gA G)) (F0 m 9 ls [])) := by
  obtain ⟨hx, hb, hml, hown, hts⟩ := id F
  have hg : ∀ q ∈ lwg, q.before args s = true := fun q h => hts q (List.mem_cons_of_mem _ h)
  intro n9
  induction n9 with
  | zero =>
    intro x0 x2 x4 x5 x7 x9 w H locs ls S hl hz
    rw [f_X1_mixed_9] at hz
    cases hz
  | succ n9 ih =>
    intro x0 x2 x4 x5 x7 x9 w H locs ls S hl hz
    rw [f_X1_mixed_9] at hz
    refine lv_iload hx hb dX1_mixed_9 (lv_at hl 5 rfl) ?_
    refine lv_iload hx hb dX1_mixed_11 (lv_at hl 2 rfl) ?_
    refine lv_icmp_ge (tgt := 37) hx hb dX1_mixed_13 (by decide) (fun c1 => ?_) (fun c1 => ?_)
    · have hz := ipt (c1) hz
      refine lv_lload hx hb dX1_mixed_37 (lv_at hl 3 rfl) ?_
      exact g_retl hx hb hr hlk S hz dX1_mixed_39
    · have hz := ipf (c1) hz
      refine lv_lload hx hb dX1_mixed_16 (lv_at hl 3 rfl) ?_
      refine lv_lload_n hx hb dX1_mixed_18 rfl (lv_at hl 0 rfl) ?_
      refine lv_lmul hx hb dX1_mixed_19 ?_
      refine lv_lload hx hb dX1_mixed_20 (lv_at hl 4 rfl) ?_
      refine lv_ladd hx hb dX1_mixed_22 ?_
      refine lv_lstore (lv' := [(5, .long ((x5 * x0) + x7)), (0, .long x0), (2, .long x2), (4, .int x4), (7, .long x7), (9, .int x9)]) hx hb dX1_mixed_23 hl (by decide) rfl (fun ls hl => ?_)
      refine lv_lload hx hb dX1_mixed_25 (lv_at hl 4 rfl) ?_
      refine lv_lload_n hx hb dX1_mixed_27 rfl (lv_at hl 2 rfl) ?_
      refine lv_lmul hx hb dX1_mixed_28 ?_
      refine lv_lstore (lv' := [(7, .long (x7 * x2)), (5, .long ((x5 * x0) + x7)), (0, .long x0), (2, .long x2), (4, .int x4), (9, .int x9)]) hx hb dX1_mixed_29 hl (by decide) rfl (fun ls hl => ?_)
      refine lv_iinc (v := (x9 + 1)) (lv' := [(9, .int (x9 + 1)), (7, .long (x7 * x2)), (5, .long ((x5 * x0) + x7)), (0, .long x0), (2, .long x2), (4, .int x4)]) hx hb dX1_mixed_31 hl (k := 5) rfl rfl (by decide) rfl (fun ls hl => ?_)
      refine lv_goto (tgt := 9) hx hb dX1_mixed_34 (by decide) ?_
      exact ih x0 x2 x4 ((x5 * x0) + x7) (x7 * x2) (x9 + 1)  _ _ _ _ S (lv_sub hl [3, 4, 5, 2, 1, 0] rfl) hz
set_option maxHeartbeats 4000000 in
set_option maxRecDepth 100000 in
theorem c_X1_mixed (l : Launch) (G : GG) (x0 : Int64) (x2 : Int64) (x4 : Int32)  (w : GW) {z : Int64 × GW} (hz : f_X1_mixed x0 x2 x4 w = some z) : Met l yX1_mixed (wsU yX1_mixed cX1_mixed 10 (some .long)) rm_X1_mixed (va_Pc [.long x0, .long x2, .int x4] (PreG G w)) (QL G z) 0 0 (gA G) := by
  refine Met.ofW (cc := cX1_mixed) (maxL := 10) (ret := (some .long)) (by decide) rfl ?_
  intro p e s m args below meth c s₁ B hml hv
  obtain ⟨rfl, S⟩ := hv
  have F : CallFix p m c cX1_mixed 10 s _ (wsU yX1_mixed cX1_mixed 10 (some .long)) RX1 := ⟨B.exec, B.bytes, hml, findClass_of_methodNamed B.named, atoms_spec B.pre⟩
  have hr := B.returns
  have hlk := B.notSynchronized
  obtain ⟨hx, hb, -, hown, hts⟩ := id F
  have hg : ∀ q ∈ lwg, q.before _ s = true := fun q h => hts q (List.mem_cons_of_mem _ h)
  refine g_entry (Nat.le_of_ble_eq_true rfl) (fun ls hl => ?_)
  have hl : lv_has ls 10 [(0, .long x0), (2, .long x2), (4, .int x4)] := hl
  have S : St G w s s.heap [] := S
  generalize s.heap = H at S ⊢
  generalize ([] : List Loc) = locs at S ⊢
  rw [f_X1_mixed] at hz
  refine lv_lconst (v := 0) hx hb dX1_mixed_0 (by decide) ?_
  refine lv_lstore (lv' := [(5, .long 0), (0, .long x0), (2, .long x2), (4, .int x4)]) hx hb dX1_mixed_1 hl (by decide) rfl (fun ls hl => ?_)
  refine lv_lconst (v := 1) hx hb dX1_mixed_3 (by decide) ?_
  refine lv_lstore (lv' := [(7, .long 1), (5, .long 0), (0, .long x0), (2, .long x2), (4, .int x4)]) hx hb dX1_mixed_4 hl (by decide) rfl (fun ls hl => ?_)
  refine lv_iconst (v := 0) hx hb dX1_mixed_6 (by decide) ?_
  refine lv_istore (lv' := [(9, .int 0), (7, .long 1), (5, .long 0), (0, .long x0), (2, .long x2), (4, .int x4)]) hx hb dX1_mixed_7 hl (by decide) rfl (fun ls hl => ?_)
  exact w_X1_mixed_9 F hr hlk fu x0 x2 x4 0 1 0 _ _ _ _ S (lv_sub hl [3, 4, 5, 2, 1, 0] rfl) hz
noncomputable def f_X1_weighLots_88 (k_2 : Nat → Int32 → GW → Option (Unit × GW)) (k_21 : Nat → Int32 → Int64 → Int64 → Int32 → GW → Option (Unit × GW)) (k1 : Nat) (x2 : Int32) (x3 : Int64) (x7 : Int32) (t0 : Int64) (t1 : Int64) (w : GW) : Option (Unit × GW) :=
  k_21 k1 x2 x3 (t1 + t0) (x7 + 1) w
noncomputable def f_X1_weighLots_59 (k_2 : Nat → Int32 → GW → Option (Unit × GW)) (k_21 : Nat → Int32 → Int64 → Int64 → Int32 → GW → Option (Unit × GW)) (k1 : Nat) (x2 : Int32) (x5 : Int64) (x7 : Int32) (t0 : Int64) (t1 : Int64) (w : GW) : Option (Unit × GW) :=
  if inb x7 5 then
  if inb x2 5 then
  if (gI w k1 (ix x7)) < (gI w k1 (ix x2)) then
    f_X1_weighLots_88 k_2 k_21 k1 x2 (t1 + t0) x7 0 x5 w
  else
    if inb x7 5 then
    f_X1_weighLots_88 k_2 k_21 k1 x2 (t1 + t0) x7 ((gI w ((fxH (gR w 4)) + 2) (ix x7)).toInt64) x5 w
    else none
  else none
  else none
noncomputable def f_X1_weighLots_21 (k_2 : Nat → Int32 → GW → Option (Unit × GW)) : Nat → Nat → Int32 → Int64 → Int64 → Int32 → GW → Option (Unit × GW)
  | 0, _, _, _, _, _, _ => none
  | n9 + 1, k1, x2, x3, x5, x7, w =>
    if (gI w (fxH (gR w 4)) 1) ≤ x7 then
      if inb x2 5 then
      (f_X1_mixed x5 x3 (gI w (fxP (gR w 5)) 0) w).bind fun q4 =>
      if inb (x2 * 6) 30 then
      k_2 k1 (x2 + 1) (sL q4.2 71 (ix (x2 * 6)) (((gI w ((fxH (gR w 4)) + 2) (ix x2)).toInt64) * q4.1))
      else none
      else none
    else
      if inb x7 5 then
      if inb x2 5 then
      if (gI w k1 (ix x7)) ≤ (gI w k1 (ix x2)) then
        f_X1_weighLots_59 k_2 (f_X1_weighLots_21 k_2 n9) k1 x2 x5 x7 0 x3 w
      else
        if inb x7 5 then
        f_X1_weighLots_59 k_2 (f_X1_weighLots_21 k_2 n9) k1 x2 x5 x7 ((gI w ((fxH (gR w 4)) + 2) (ix x7)).toInt64) x3 w
        else none
      else none
      else none
noncomputable def f_X1_weighLots_2  : Nat → Nat → Int32 → GW → Option (Unit × GW)
  | 0, _, _, _ => none
  | n9 + 1, k1, x2, w =>
    if (gI w (fxH (gR w 4)) 1) ≤ x2 then
      some ((), w)
    else
      f_X1_weighLots_21 (f_X1_weighLots_2 n9) fu k1 x2 0 0 0 w
noncomputable def f_X1_weighLots (k1 : Nat) (w : GW) : Option (Unit × GW) :=
  f_X1_weighLots_2 fu k1 0 w
set_option maxHeartbeats 4000000 in
set_option maxRecDepth 100000 in
theorem w_X1_weighLots_88 {p : Program} {l : Launch} {e : Env} {s : State} {m : MethodId} {args : Array Value} {below : List Frame} {meth : Method} {c : Code} {G : GG} (F : CallFix p m c cX1_weighLots 8 s args (wsU yX1_weighLots cX1_weighLots 8 none) RX1) (hr : meth.sig.returnType = none) (hlk : meth.locks = false) {z : Unit × GW} {k_2 : Nat → Int32 → GW → Option (Unit × GW)} (Hk_2 : (∀ (k1 : Nat) (x2 : Int32) (hk1 : kd k1 = 10) (w : GW) (H : Heap) (locs : List Loc) (ls : Array Slot), St G w s H locs → lv_has ls 8 [(0, .ref (gad G 67)), (1, .ref (gad G k1)), (2, .int x2)] → k_2 k1 x2 w = some z → W p l e (headSpec (wsU yX1_weighLots cX1_weighLots 8 none) rm_X1_weighLots).room s m args below meth c H locs 0 0 (MQ below (QV G z) args s 0 0 (gA G)) (F0 m 2 ls []))) {k_21 : Nat → Int32 → Int64 → Int64 → Int32 → GW → Option (Unit × GW)} (Hk_21 : (∀ (k1 : Nat) (x2 : Int32) (x3 : Int64) (x5 : Int64) (x7 : Int32) (hk1 : kd k1 = 10) (w : GW) (H : Heap) (locs : List Loc) (ls : Array Slot), St G w s H locs → lv_has ls 8 [(0, .ref (gad G 67)), (1, .ref (gad G k1)), (2, .int x2), (3, .long x3), (5, .long x5), (7, .int x7)] → k_21 k1 x2 x3 x5 x7 w = some z → W p l e (headSpec (wsU yX1_weighLots cX1_weighLots 8 none) rm_X1_weighLots).room s m args below meth c H locs 0 0 (MQ below (QV G z) args s 0 0 (gA G)) (F0 m 21 ls []))) : (∀ (k1 : Nat) (x2 : Int32) (x3 : Int64) (x7 : Int32) (t0 : Int64) (t1 : Int64) (hk1 : kd k1 = 10) (w : GW) (H : Heap) (locs : List Loc) (ls : Array Slot), St G w s H locs → lv_has ls 8 [(0, .ref (gad G 67)), (1, .ref (gad G k1)), (2, .int x2), (3, .long x3), (7, .int x7)] → f_X1_weighLots_88 k_2 k_21 k1 x2 x3 x7 t0 t1 w = some z → W p l e (headSpec (wsU yX1_weighLots cX1_weighLots 8 none) rm_X1_weighLots).room s m args below meth c H locs 0 0 (MQ below (QV G z) args s 0 0 (gA G)) (F0 m 88 ls [.long t0, .long t1])) := by
  obtain ⟨hx, hb, hml, hown, hts⟩ := id F
  have hg : ∀ q ∈ lwg, q.before args s = true := fun q h => hts q (List.mem_cons_of_mem _ h)
  intro k1 x2 x3 x7 t0 t1 hk1 w H locs ls S hl hz
  rw [f_X1_weighLots_88] at hz
  refine lv_ladd hx hb dX1_weighLots_88 ?_
  refine lv_lstore (lv' := [(5, .long (t1 + t0)), (0, .ref (gad G 67)), (1, .ref (gad G k1)), (2, .int x2), (3, .long x3), (7, .int x7)]) hx hb dX1_weighLots_89 hl (by decide) rfl (fun ls hl => ?_)
  refine lv_iinc (v := (x7 + 1)) (lv' := [(7, .int (x7 + 1)), (5, .long (t1 + t0)), (0, .ref (gad G 67)), (1, .ref (gad G k1)), (2, .int x2), (3, .long x3)]) hx hb dX1_weighLots_91 hl (k := 5) rfl rfl (by decide) rfl (fun ls hl => ?_)
  refine lv_goto (tgt := 21) hx hb dX1_weighLots_94 (by decide) ?_
  exact Hk_21 k1 x2 x3 (t1 + t0) (x7 + 1) hk1 _ _ _ _ S (lv_sub hl [2, 3, 4, 5, 1, 0] rfl) hz
set_option maxHeartbeats 4000000 in
set_option maxRecDepth 100000 in
theorem w_X1_weighLots_59 {p : Program} {l : Launch} {e : Env} {s : State} {m : MethodId} {args : Array Value} {below : List Frame} {meth : Method} {c : Code} {G : GG} (F : CallFix p m c cX1_weighLots 8 s args (wsU yX1_weighLots cX1_weighLots 8 none) RX1) (hr : meth.sig.returnType = none) (hlk : meth.locks = false) {z : Unit × GW} {k_2 : Nat → Int32 → GW → Option (Unit × GW)} (Hk_2 : (∀ (k1 : Nat) (x2 : Int32) (hk1 : kd k1 = 10) (w : GW) (H : Heap) (locs : List Loc) (ls : Array Slot), St G w s H locs → lv_has ls 8 [(0, .ref (gad G 67)), (1, .ref (gad G k1)), (2, .int x2)] → k_2 k1 x2 w = some z → W p l e (headSpec (wsU yX1_weighLots cX1_weighLots 8 none) rm_X1_weighLots).room s m args below meth c H locs 0 0 (MQ below (QV G z) args s 0 0 (gA G)) (F0 m 2 ls []))) {k_21 : Nat → Int32 → Int64 → Int64 → Int32 → GW → Option (Unit × GW)} (Hk_21 : (∀ (k1 : Nat) (x2 : Int32) (x3 : Int64) (x5 : Int64) (x7 : Int32) (hk1 : kd k1 = 10) (w : GW) (H : Heap) (locs : List Loc) (ls : Array Slot), St G w s H locs → lv_has ls 8 [(0, .ref (gad G 67)), (1, .ref (gad G k1)), (2, .int x2), (3, .long x3), (5, .long x5), (7, .int x7)] → k_21 k1 x2 x3 x5 x7 w = some z → W p l e (headSpec (wsU yX1_weighLots cX1_weighLots 8 none) rm_X1_weighLots).room s m args below meth c H locs 0 0 (MQ below (QV G z) args s 0 0 (gA G)) (F0 m 21 ls []))) : (∀ (k1 : Nat) (x2 : Int32) (x5 : Int64) (x7 : Int32) (t0 : Int64) (t1 : Int64) (hk1 : kd k1 = 10) (w : GW) (H : Heap) (locs : List Loc) (ls : Array Slot), St G w s H locs → lv_has ls 8 [(0, .ref (gad G 67)), (1, .ref (gad G k1)), (2, .int x2), (5, .long x5), (7, .int x7)] → f_X1_weighLots_59 k_2 k_21 k1 x2 x5 x7 t0 t1 w = some z → W p l e (headSpec (wsU yX1_weighLots cX1_weighLots 8 none) rm_X1_weighLots).room s m args below meth c H locs 0 0 (MQ below (QV G z) args s 0 0 (gA G)) (F0 m 59 ls [.long t0, .long t1])) := by
  obtain ⟨hx, hb, hml, hown, hts⟩ := id F
  have hg : ∀ q ∈ lwg, q.before args s = true := fun q h => hts q (List.mem_cons_of_mem _ h)
  intro k1 x2 x5 x7 t0 t1 hk1 w H locs ls S hl hz
  rw [f_X1_weighLots_59] at hz
  refine lv_ladd hx hb dX1_weighLots_59 ?_
  refine lv_lstore_n (lv' := [(3, .long (t1 + t0)), (0, .ref (gad G 67)), (1, .ref (gad G k1)), (2, .int x2), (5, .long x5), (7, .int x7)]) hx hb dX1_weighLots_60 rfl hl (by decide) rfl (fun ls hl => ?_)
  refine lv_lload hx hb dX1_weighLots_61 (lv_at hl 4 rfl) ?_
  refine lv_aload_n hx hb dX1_weighLots_63 rfl (lv_at hl 2 rfl) ?_
  refine lv_iload hx hb dX1_weighLots_64 (lv_at hl 5 rfl) ?_
  obtain ⟨h10, hz⟩ := ck hz
  refine g_iald hx hb S (isA_10 hk1) h10 dX1_weighLots_66 ?_
  refine lv_aload_n hx hb dX1_weighLots_67 rfl (lv_at hl 2 rfl) ?_
  refine lv_iload_n hx hb dX1_weighLots_68 rfl (lv_at hl 3 rfl) ?_
  obtain ⟨h11, hz⟩ := ck hz
  refine g_iald hx hb S (isA_10 hk1) h11 dX1_weighLots_69 ?_
  refine lv_icmp_lt (tgt := 87) hx hb dX1_weighLots_70 (by decide) (fun c12 => ?_) (fun c12 => ?_)
  · have hz := ipt (c12) hz
    refine lv_lconst (v := 0) hx hb dX1_weighLots_87 (by decide) ?_
    exact w_X1_weighLots_88 F hr hlk Hk_2 Hk_21 k1 x2 (t1 + t0) x7 0 x5 hk1 _ _ _ _ S (lv_sub hl [1, 2, 3, 0, 5] rfl) hz
  · have hz := ipf (c12) hz
    refine lv_aload_n hx hb dX1_weighLots_73 rfl (lv_at hl 1 rfl) ?_
    refine fg_X1_3 hx hb (fun q h => hg q (tl_X1 q h)) hown (hg _ t_fl_X1_9) S (by decide) dX1_weighLots_74 ?_
    refine fg_X3_11 hx hb (fun q h => hg q (tl_X3 q h)) hown (hg _ t_fl_X1_46) S (kd_H _) dX1_weighLots_77 ?_
    refine lv_iload hx hb dX1_weighLots_80 (lv_at hl 5 rfl) ?_
    obtain ⟨h13, hz⟩ := ck hz
    refine g_iald hx hb S (isA_10 (kd_3_2 (kd_H _))) h13 dX1_weighLots_82 ?_
    refine lv_i2l (v := (gI w ((fxH (gR w 4)) + 2) (ix x7)).toInt64) hx hb dX1_weighLots_83 rfl ?_
    refine lv_goto (tgt := 88) hx hb dX1_weighLots_84 (by decide) ?_
    exact w_X1_weighLots_88 F hr hlk Hk_2 Hk_21 k1 x2 (t1 + t0) x7 ((gI w ((fxH (gR w 4)) + 2) (ix x7)).toInt64) x5 hk1 _ _ _ _ S (lv_sub hl [1, 2, 3, 0, 5] rfl) hz
set_option maxHeartbeats 4000000 in
set_option maxRecDepth 100000 in
theorem w_X1_weighLots_21 {p : Program} {l : Launch} {e : Env} {s : State} {m : MethodId} {args : Array Value} {below : List Frame} {meth : Method} {c : Code} {G : GG} (F : CallFix p m c cX1_weighLots 8 s args (wsU yX1_weighLots cX1_weighLots 8 none) RX1) (hr : meth.sig.returnType = none) (hlk : meth.locks = false) {z : Unit × GW} {k_2 : Nat → Int32 → GW → Option (Unit × GW)} (Hk_2 : (∀ (k1 : Nat) (x2 : Int32) (hk1 : kd k1 = 10) (w : GW) (H : Heap) (locs : List Loc) (ls : Array Slot), St G w s H locs → lv_has ls 8 [(0, .ref (gad G 67)), (1, .ref (gad G k1)), (2, .int x2)] → k_2 k1 x2 w = some z → W p l e (headSpec (wsU yX1_weighLots cX1_weighLots 8 none) rm_X1_weighLots).room s m args below meth c H locs 0 0 (MQ below (QV G z) args s 0 0 (gA G)) (F0 m 2 ls []))) : ∀ (n9 : Nat), (∀ (k1 : Nat) (x2 : Int32) (x3 : Int64) (x5 : Int64) (x7 : Int32) (hk1 : kd k1 = 10) (w : GW) (H : Heap) (locs : List Loc) (ls : Array Slot), St G w s H locs → lv_has ls 8 [(0, .ref (gad G 67)), (1, .ref (gad G k1)), (2, .int x2), (3, .long x3), (5, .long x5), (7, .int x7)] → f_X1_weighLots_21 k_2 n9 k1 x2 x3 x5 x7 w = some z → W p l e (headSpec (wsU yX1_weighLots cX1_weighLots 8 none) rm_X1_weighLots).room s m args below meth c H locs 0 0 (MQ below (QV G z) args s 0 0 (gA G)) (F0 m 21 ls [])) := by
  obtain ⟨hx, hb, hml, hown, hts⟩ := id F
  have hg : ∀ q ∈ lwg, q.before args s = true := fun q h => hts q (List.mem_cons_of_mem _ h)
  intro n9
  induction n9 with
  | zero =>
    intro k1 x2 x3 x5 x7 hk1 w H locs ls S hl hz
    rw [f_X1_weighLots_21] at hz
    cases hz
  | succ n9 ih =>
    intro k1 x2 x3 x5 x7 hk1 w H locs ls S hl hz
    rw [f_X1_weighLots_21] at hz
    refine lv_iload hx hb dX1_weighLots_21 (lv_at hl 5 rfl) ?_
    refine lv_aload_n hx hb dX1_weighLots_23 rfl (lv_at hl 0 rfl) ?_
    refine fg_X1_3 hx hb (fun q h => hg q (tl_X1 q h)) hown (hg _ t_fl_X1_9) S (by decide) dX1_weighLots_24 ?_
    refine fg_X3_1 hx hb (fun q h => hg q (tl_X3 q h)) hown (hg _ t_fl_X1_33) S (kd_H _) dX1_weighLots_27 ?_
    refine lv_icmp_ge (tgt := 97) hx hb dX1_weighLots_30 (by decide) (fun c2 => ?_) (fun c2 => ?_)
    · have hz := ipt (c2) hz
      refine lv_aload_n hx hb dX1_weighLots_97 rfl (lv_at hl 0 rfl) ?_
      refine fg_X1_2 hx hb (fun q h => hg q (tl_X1 q h)) hown (hg _ t_fl_X1_30) S (by decide) dX1_weighLots_98 ?_
      refine lv_iload_n hx hb dX1_weighLots_101 rfl (lv_at hl 2 rfl) ?_
      refine lv_bipush (v := 6) hx hb dX1_weighLots_102 (by decide) ?_
      refine lv_imul hx hb dX1_weighLots_104 ?_
      refine lv_aload_n hx hb dX1_weighLots_105 rfl (lv_at hl 0 rfl) ?_
      refine fg_X1_3 hx hb (fun q h => hg q (tl_X1 q h)) hown (hg _ t_fl_X1_9) S (by decide) dX1_weighLots_106 ?_
      refine fg_X3_11 hx hb (fun q h => hg q (tl_X3 q h)) hown (hg _ t_fl_X1_46) S (kd_H _) dX1_weighLots_109 ?_
      refine lv_iload_n hx hb dX1_weighLots_112 rfl (lv_at hl 2 rfl) ?_
      obtain ⟨h3, hz⟩ := ck hz
      refine g_iald hx hb S (isA_10 (kd_3_2 (kd_H _))) h3 dX1_weighLots_113 ?_
      refine lv_i2l (v := (gI w ((fxH (gR w 4)) + 2) (ix x2)).toInt64) hx hb dX1_weighLots_114 rfl ?_
      refine lv_lload hx hb dX1_weighLots_115 (lv_at hl 4 rfl) ?_
      refine lv_lload_n hx hb dX1_weighLots_117 rfl (lv_at hl 3 rfl) ?_
      refine lv_aload_n hx hb dX1_weighLots_118 rfl (lv_at hl 0 rfl) ?_
      refine fg_X1_4 hx hb (fun q h => hg q (tl_X1 q h)) hown (hg _ t_fl_X1_18) S (by decide) dX1_weighLots_119 ?_
      refine fg_X4_0 hx hb (fun q h => hg q (tl_X4 q h)) hown (hg _ t_fl_X1_39) S (kd_P _) dX1_weighLots_122 ?_
      obtain ⟨q4, e5, hz⟩ := bd hz
      refine g_callSl (As := [.long x5, .long x3, .int (gI w (fxP (gR w 5)) 0)]) (rest := [.long ((gI w ((fxH (gR w 4)) + 2) (ix x2)).toInt64), .int (x2 * 6), .ref (gad G 71)]) F S (c_X1_mixed l G x5 x3 (gI w (fxP (gR w 5)) 0)  _ e5) (cw_X1_weighLots_X1_mixed_70 hg) rfl hl.1 rfl (Nat.le_of_ble_eq_true rfl) ⟨Nat.zero_le _, Nat.zero_le _⟩ dX1_weighLots_125 (fun H locs  S => ?_)
      refine lv_lmul hx hb dX1_weighLots_128 ?_
      obtain ⟨h6, hz⟩ := ck hz
      refine g_last (x := (((gI w ((fxH (gR w 4)) + 2) (ix x2)).toInt64) * q4.1)) hx hb S (isA_23 (by decide)) h6 dX1_weighLots_129 (fun H locs S => ?_)
      refine lv_iinc (v := (x2 + 1)) (lv' := [(2, .int (x2 + 1)), (0, .ref (gad G 67)), (1, .ref (gad G k1)), (3, .long x3), (5, .long x5), (7, .int x7)]) hx hb dX1_weighLots_130 hl (k := 2) rfl rfl (by decide) rfl (fun ls hl => ?_)
      refine lv_goto (tgt := 2) hx hb dX1_weighLots_133 (by decide) ?_
      exact Hk_2 k1 (x2 + 1) hk1 _ _ _ _ S (lv_sub hl [1, 2, 0] rfl) hz
    · have hz := ipf (c2) hz
      refine lv_lload_n hx hb dX1_weighLots_33 rfl (lv_at hl 3 rfl) ?_
      refine lv_aload_n hx hb dX1_weighLots_34 rfl (lv_at hl 1 rfl) ?_
      refine lv_iload hx hb dX1_weighLots_35 (lv_at hl 5 rfl) ?_
      obtain ⟨h7, hz⟩ := ck hz
      refine g_iald hx hb S (isA_10 hk1) h7 dX1_weighLots_37 ?_
      refine lv_aload_n hx hb dX1_weighLots_38 rfl (lv_at hl 1 rfl) ?_
      refine lv_iload_n hx hb dX1_weighLots_39 rfl (lv_at hl 2 rfl) ?_
      obtain ⟨h8, hz⟩ := ck hz
      refine g_iald hx hb S (isA_10 hk1) h8 dX1_weighLots_40 ?_
      refine lv_icmp_le (tgt := 58) hx hb dX1_weighLots_41 (by decide) (fun c9 => ?_) (fun c9 => ?_)
      · have hz := ipt (c9) hz
        refine lv_lconst (v := 0) hx hb dX1_weighLots_58 (by decide) ?_
        exact w_X1_weighLots_59 F hr hlk Hk_2 ih k1 x2 x5 x7 0 x3 hk1 _ _ _ _ S (lv_sub hl [0, 1, 2, 4, 5] rfl) hz
      · have hz := ipf (c9) hz
        refine lv_aload_n hx hb dX1_weighLots_44 rfl (lv_at hl 0 rfl) ?_
        refine fg_X1_3 hx hb (fun q h => hg q (tl_X1 q h)) hown (hg _ t_fl_X1_9) S (by decide) dX1_weighLots_45 ?_
        refine fg_X3_11 hx hb (fun q h => hg q (tl_X3 q h)) hown (hg _ t_fl_X1_46) S (kd_H _) dX1_weighLots_48 ?_
        refine lv_iload hx hb dX1_weighLots_51 (lv_at hl 5 rfl) ?_
        obtain ⟨h14, hz⟩ := ck hz
        refine g_iald hx hb S (isA_10 (kd_3_2 (kd_H _))) h14 dX1_weighLots_53 ?_
        refine lv_i2l (v := (gI w ((fxH (gR w 4)) + 2) (ix x7)).toInt64) hx hb dX1_weighLots_54 rfl ?_
        refine lv_goto (tgt := 59) hx hb dX1_weighLots_55 (by decide) ?_
        exact w_X1_weighLots_59 F hr hlk Hk_2 ih k1 x2 x5 x7 ((gI w ((fxH (gR w 4)) + 2) (ix x7)).toInt64) x3 hk1 _ _ _ _ S (lv_sub hl [0, 1, 2, 4, 5] rfl) hz
set_option maxHeartbeats 4000000 in
set_option maxRecDepth 100000 in
theorem w_X1_weighLots_2 {p : Program} {l : Launch} {e : Env} {s : State} {m : MethodId} {args : Array Value} {below : List Frame} {meth : Method} {c : Code} {G : GG} (F : CallFix p m c cX1_weighLots 8 s args (wsU yX1_weighLots cX1_weighLots 8 none) RX1) (hr : meth.sig.returnType = none) (hlk : meth.locks = false) {z : Unit × GW} : ∀ (n9 : Nat), (∀ (k1 : Nat) (x2 : Int32) (hk1 : kd k1 = 10) (w : GW) (H : Heap) (locs : List Loc) (ls : Array Slot), St G w s H locs → lv_has ls 8 [(0, .ref (gad G 67)), (1, .ref (gad G k1)), (2, .int x2)] → f_X1_weighLots_2 n9 k1 x2 w = some z → W p l e (headSpec (wsU yX1_weighLots cX1_weighLots 8 none) rm_X1_weighLots).room s m args below meth c H locs 0 0 (MQ below (QV G z) args s 0 0 (gA G)) (F0 m 2 ls [])) := by
  obtain ⟨hx, hb, hml, hown, hts⟩ := id F
  have hg : ∀ q ∈ lwg, q.before args s = true := fun q h => hts q (List.mem_cons_of_mem _ h)
  intro n9
  induction n9 with
  | zero =>
    intro k1 x2 hk1 w H locs ls S hl hz
    rw [f_X1_weighLots_2] at hz
    cases hz
  | succ n9 ih =>
    intro k1 x2 hk1 w H locs ls S hl hz
    rw [f_X1_weighLots_2] at hz
    refine lv_iload_n hx hb dX1_weighLots_2 rfl (lv_at hl 2 rfl) ?_
    refine lv_aload_n hx hb dX1_weighLots_3 rfl (lv_at hl 0 rfl) ?_
    refine fg_X1_3 hx hb (fun q h => hg q (tl_X1 q h)) hown (hg _ t_fl_X1_9) S (by decide) dX1_weighLots_4 ?_
    refine fg_X3_1 hx hb (fun q h => hg q (tl_X3 q h)) hown (hg _ t_fl_X1_33) S (kd_H _) dX1_weighLots_7 ?_
    refine lv_icmp_ge (tgt := 136) hx hb dX1_weighLots_10 (by decide) (fun c1 => ?_) (fun c1 => ?_)
    · have hz := ipt (c1) hz
      exact g_retv hx hb hr hlk S hz dX1_weighLots_136
    · have hz := ipf (c1) hz
      refine lv_lconst (v := 0) hx hb dX1_weighLots_13 (by decide) ?_
      refine lv_lstore_n (lv' := [(3, .long 0), (0, .ref (gad G 67)), (1, .ref (gad G k1)), (2, .int x2)]) hx hb dX1_weighLots_14 rfl hl (by decide) rfl (fun ls hl => ?_)
      refine lv_lconst (v := 0) hx hb dX1_weighLots_15 (by decide) ?_
      refine lv_lstore (lv' := [(5, .long 0), (3, .long 0), (0, .ref (gad G 67)), (1, .ref (gad G k1)), (2, .int x2)]) hx hb dX1_weighLots_16 hl (by decide) rfl (fun ls hl => ?_)
      refine lv_iconst (v := 0) hx hb dX1_weighLots_18 (by decide) ?_
      refine lv_istore (lv' := [(7, .int 0), (5, .long 0), (3, .long 0), (0, .ref (gad G 67)), (1, .ref (gad G k1)), (2, .int x2)]) hx hb dX1_weighLots_19 hl (by decide) rfl (fun ls hl => ?_)
      exact w_X1_weighLots_21 F hr hlk ih fu k1 x2 0 0 0 hk1 _ _ _ _ S (lv_sub hl [3, 4, 5, 2, 1, 0] rfl) hz
set_option maxHeartbeats 4000000 in
set_option maxRecDepth 100000 in
theorem c_X1_weighLots (l : Launch) (G : GG) (k1 : Nat) (hk1 : kd k1 = 10) (w : GW) {z : Unit × GW} (hz : f_X1_weighLots k1 w = some z) : Met l yX1_weighLots (wsU yX1_weighLots cX1_weighLots 8 none) rm_X1_weighLots (va_Pc [.ref (gad G 67), .ref (gad G k1)] (PreG G w)) (QV G z) 0 0 (gA G) := by
  refine Met.ofW (cc := cX1_weighLots) (maxL := 8) (ret := none) (by decide) rfl ?_
  intro p e s m args below meth c s₁ B hml hv
  obtain ⟨rfl, S⟩ := hv
  have F : CallFix p m c cX1_weighLots 8 s _ (wsU yX1_weighLots cX1_weighLots 8 none) RX1 := ⟨B.exec, B.bytes, hml, findClass_of_methodNamed B.named, atoms_spec B.pre⟩
  have hr := B.returns
  have hlk := B.notSynchronized
  obtain ⟨hx, hb, -, hown, hts⟩ := id F
  have hg : ∀ q ∈ lwg, q.before _ s = true := fun q h => hts q (List.mem_cons_of_mem _ h)
  refine g_entry (Nat.le_of_ble_eq_true rfl) (fun ls hl => ?_)
  have hl : lv_has ls 8 [(0, .ref (gad G 67)), (1, .ref (gad G k1))] := hl
  have S : St G w s s.heap [] := S
  generalize s.heap = H at S ⊢
  generalize ([] : List Loc) = locs at S ⊢
  rw [f_X1_weighLots] at hz
  refine lv_iconst (v := 0) hx hb dX1_weighLots_0 (by decide) ?_
  refine lv_istore_n (lv' := [(2, .int 0), (0, .ref (gad G 67)), (1, .ref (gad G k1))]) hx hb dX1_weighLots_1 rfl hl (by decide) rfl (fun ls hl => ?_)
  exact w_X1_weighLots_2 F hr hlk fu k1 0 hk1 _ _ _ _ S (lv_sub hl [1, 2, 0] rfl) hz
