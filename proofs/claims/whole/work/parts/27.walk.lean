noncomputable def f_X9_feed_76 (k_23 : Int32 → Int32 → Int32 → Int32 → Int32 → Int32 → GW → Option (Int32 × GW)) (x1 : Int32) (x2 : Int32) (x3 : Int32) (x4 : Int32) (x5 : Int32) (x6 : Int32) (t0 : Int32) (w : GW) : Option (Int32 × GW) :=
  if inb (gI w 130 2) 900 then
  k_23 x1 x2 x3 x4 x5 (x6 + 1) (sI (sI w 131 (ix (gI w 130 2)) ((t0 >>> ((24 - (8 * (irm x6 4))) &&& 31)) &&& 255)) 130 2 ((gI (sI w 131 (ix (gI w 130 2)) ((t0 >>> ((24 - (8 * (irm x6 4))) &&& 31)) &&& 255)) 130 2) + 1))
  else none
noncomputable def f_X9_feed_23  : Nat → Int32 → Int32 → Int32 → Int32 → Int32 → Int32 → GW → Option (Int32 × GW)
  | 0, _, _, _, _, _, _, _ => none
  | n9 + 1, x1, x2, x3, x4, x5, x6, w =>
    if 20 ≤ x6 then
      some ((gI w 130 2), w)
    else
      if 4 ≤ x6 then
        if 8 ≤ x6 then
          if 12 ≤ x6 then
            if 16 ≤ x6 then
              f_X9_feed_76 (f_X9_feed_23 n9) x1 x2 x3 x4 x5 x6 x5 w
            else
              f_X9_feed_76 (f_X9_feed_23 n9) x1 x2 x3 x4 x5 x6 x4 w
          else
            f_X9_feed_76 (f_X9_feed_23 n9) x1 x2 x3 x4 x5 x6 x3 w
        else
          f_X9_feed_76 (f_X9_feed_23 n9) x1 x2 x3 x4 x5 x6 x2 w
      else
        f_X9_feed_76 (f_X9_feed_23 n9) x1 x2 x3 x4 x5 x6 x1 w
noncomputable def f_X9_feed (x1 : Int32) (x2 : Int32) (x3 : Int32) (x4 : Int32) (x5 : Int32) (w : GW) : Option (Int32 × GW) :=
  if ((gI (sI w 130 0 0) 130 2) + 20) ≤ 900 then
    f_X9_feed_23 fu x1 x2 x3 x4 x5 0 (sI w 130 0 0)
  else
    some ((-1), (sI w 130 0 0))
set_option maxHeartbeats 4000000 in
set_option maxRecDepth 100000 in
theorem w_X9_feed_76 {p : Program} {l : Launch} {e : Env} {s : State} {m : MethodId} {args : Array Value} {below : List Frame} {meth : Method} {c : Code} {G : GG} (F : CallFix p m c cX9_feed 8 s args (wsU yX9_feed cX9_feed 8 (some .int)) RX9) (hr : meth.sig.returnType = (some .int)) (hlk : meth.locks = false) {z : Int32 × GW} {k_23 : Int32 → Int32 → Int32 → Int32 → Int32 → Int32 → GW → Option (Int32 × GW)} (Hk_23 : (∀ (x1 : Int32) (x2 : Int32) (x3 : Int32) (x4 : Int32) (x5 : Int32) (x6 : Int32) (w : GW) (H : Heap) (locs : List Loc) (ls : Array Slot), St G w s H locs → lv_has ls 8 [(0, .ref (gad G 130)), (1, .int x1), (2, .int x2), (3, .int x3), (4, .int x4), (5, .int x5), (6, .int x6)] → k_23 x1 x2 x3 x4 x5 x6 w = some z → W p l e (headSpec (wsU yX9_feed cX9_feed 8 (some .int)) rm_X9_feed).room s m args below meth c H locs 0 0 (MQ below (QI G z) args s 0 0 (gA G)) (F0 m 23 ls []))) : (∀ (x1 : Int32) (x2 : Int32) (x3 : Int32) (x4 : Int32) (x5 : Int32) (x6 : Int32) (t0 : Int32) (w : GW) (H : Heap) (locs : List Loc) (ls : Array Slot), St G w s H locs → lv_has ls 8 [(0, .ref (gad G 130)), (1, .int x1), (2, .int x2), (3, .int x3), (4, .int x4), (5, .int x5), (6, .int x6)] → f_X9_feed_76 k_23 x1 x2 x3 x4 x5 x6 t0 w = some z → W p l e (headSpec (wsU yX9_feed cX9_feed 8 (some .int)) rm_X9_feed).room s m args below meth c H locs 0 0 (MQ below (QI G z) args s 0 0 (gA G)) (F0 m 76 ls [.int t0])) := by
  obtain ⟨hx, hb, hml, hown, hts⟩ := id F
  have hg : ∀ q ∈ lwg, q.before args s = true := fun q h => hts q (List.mem_cons_of_mem _ h)
  intro x1 x2 x3 x4 x5 x6 t0 w H locs ls S hl hz
  rw [f_X9_feed_76] at hz
  refine lv_istore (lv' := [(7, .int t0), (0, .ref (gad G 130)), (1, .int x1), (2, .int x2), (3, .int x3), (4, .int x4), (5, .int x5), (6, .int x6)]) hx hb dX9_feed_76 hl (by decide) rfl (fun ls hl => ?_)
  refine lv_aload_n hx hb dX9_feed_78 rfl (lv_at hl 1 rfl) ?_
  refine fg_X9_1 hx hb (fun q h => hg q (tl_X9 q h)) hown (hg _ t_fl_X9_7) S (by decide) dX9_feed_79 ?_
  refine lv_aload_n hx hb dX9_feed_82 rfl (lv_at hl 1 rfl) ?_
  refine fg_X9_2 hx hb (fun q h => hg q (tl_X9 q h)) hown (hg _ t_fl_X9_75) S (by decide) dX9_feed_83 ?_
  refine lv_iload hx hb dX9_feed_86 (lv_at hl 0 rfl) ?_
  refine lv_bipush (v := 24) hx hb dX9_feed_88 (by decide) ?_
  refine lv_bipush (v := 8) hx hb dX9_feed_90 (by decide) ?_
  refine lv_iload hx hb dX9_feed_92 (lv_at hl 7 rfl) ?_
  refine lv_iconst (v := 4) hx hb dX9_feed_94 (by decide) ?_
  refine g_irem hx hb dX9_feed_95 (by decide) ?_
  refine lv_imul hx hb dX9_feed_96 ?_
  refine lv_isub hx hb dX9_feed_97 ?_
  refine lv_ishr hx hb dX9_feed_98 ?_
  refine lv_sipush (v := 255) hx hb dX9_feed_99 (by decide) ?_
  refine lv_iand hx hb dX9_feed_102 ?_
  obtain ⟨h7, hz⟩ := ck hz
  refine g_iast (x := ((t0 >>> ((24 - (8 * (irm x6 4))) &&& 31)) &&& 255)) hx hb S (isA_11 (by decide)) h7 dX9_feed_103 (fun H locs S => ?_)
  refine lv_aload_n hx hb dX9_feed_104 rfl (lv_at hl 1 rfl) ?_
  refine lv_dup hx hb dX9_feed_105 rfl ?_
  refine fg_X9_2 hx hb (fun q h => hg q (tl_X9 q h)) hown (hg _ t_fl_X9_75) S (by decide) dX9_feed_106 ?_
  refine lv_iconst (v := 1) hx hb dX9_feed_109 (by decide) ?_
  refine lv_iadd hx hb dX9_feed_110 ?_
  refine fp_X9_2 (v := ((gI (sI w 131 (ix (gI w 130 2)) ((t0 >>> ((24 - (8 * (irm x6 4))) &&& 31)) &&& 255)) 130 2) + 1)) hx hb (fun q h => hg q (tl_X9 q h)) hown (hg _ t_fl_X9_75) S (by decide) dX9_feed_111 (fun H locs S => ?_)
  refine lv_iinc (v := (x6 + 1)) (lv' := [(6, .int (x6 + 1)), (7, .int t0), (0, .ref (gad G 130)), (1, .int x1), (2, .int x2), (3, .int x3), (4, .int x4), (5, .int x5)]) hx hb dX9_feed_114 hl (k := 7) rfl rfl (by decide) rfl (fun ls hl => ?_)
  refine lv_goto (tgt := 23) hx hb dX9_feed_117 (by decide) ?_
  exact Hk_23 x1 x2 x3 x4 x5 (x6 + 1)  _ _ _ _ S (lv_sub hl [2, 3, 4, 5, 6, 7, 0] rfl) hz
set_option maxHeartbeats 4000000 in
set_option maxRecDepth 100000 in
theorem w_X9_feed_23 {p : Program} {l : Launch} {e : Env} {s : State} {m : MethodId} {args : Array Value} {below : List Frame} {meth : Method} {c : Code} {G : GG} (F : CallFix p m c cX9_feed 8 s args (wsU yX9_feed cX9_feed 8 (some .int)) RX9) (hr : meth.sig.returnType = (some .int)) (hlk : meth.locks = false) {z : Int32 × GW} : ∀ (n9 : Nat), (∀ (x1 : Int32) (x2 : Int32) (x3 : Int32) (x4 : Int32) (x5 : Int32) (x6 : Int32) (w : GW) (H : Heap) (locs : List Loc) (ls : Array Slot), St G w s H locs → lv_has ls 8 [(0, .ref (gad G 130)), (1, .int x1), (2, .int x2), (3, .int x3), (4, .int x4), (5, .int x5), (6, .int x6)] → f_X9_feed_23 n9 x1 x2 x3 x4 x5 x6 w = some z → W p l e (headSpec (wsU yX9_feed cX9_feed 8 (some .int)) rm_X9_feed).room s m args below meth c H locs 0 0 (MQ below (QI G z) args s 0 0 (gA G)) (F0 m 23 ls [])) := by
  obtain ⟨hx, hb, hml, hown, hts⟩ := id F
  have hg : ∀ q ∈ lwg, q.before args s = true := fun q h => hts q (List.mem_cons_of_mem _ h)
  intro n9
  induction n9 with
  | zero =>
    intro x1 x2 x3 x4 x5 x6 w H locs ls S hl hz
    rw [f_X9_feed_23] at hz
    cases hz
  | succ n9 ih =>
    intro x1 x2 x3 x4 x5 x6 w H locs ls S hl hz
    rw [f_X9_feed_23] at hz
    refine lv_iload hx hb dX9_feed_23 (lv_at hl 6 rfl) ?_
    refine lv_bipush (v := 20) hx hb dX9_feed_25 (by decide) ?_
    refine lv_icmp_ge (tgt := 120) hx hb dX9_feed_27 (by decide) (fun c2 => ?_) (fun c2 => ?_)
    · have hz := ipt (c2) hz
      refine lv_aload_n hx hb dX9_feed_120 rfl (lv_at hl 0 rfl) ?_
      refine fg_X9_2 hx hb (fun q h => hg q (tl_X9 q h)) hown (hg _ t_fl_X9_75) S (by decide) dX9_feed_121 ?_
      exact g_reti hx hb hr hlk S hz dX9_feed_124
    · have hz := ipf (c2) hz
      refine lv_iload hx hb dX9_feed_30 (lv_at hl 6 rfl) ?_
      refine lv_iconst (v := 4) hx hb dX9_feed_32 (by decide) ?_
      refine lv_icmp_ge (tgt := 40) hx hb dX9_feed_33 (by decide) (fun c3 => ?_) (fun c3 => ?_)
      · have hz := ipt (c3) hz
        refine lv_iload hx hb dX9_feed_40 (lv_at hl 6 rfl) ?_
        refine lv_bipush (v := 8) hx hb dX9_feed_42 (by decide) ?_
        refine lv_icmp_ge (tgt := 51) hx hb dX9_feed_44 (by decide) (fun c4 => ?_) (fun c4 => ?_)
        · have hz := ipt (c4) hz
          refine lv_iload hx hb dX9_feed_51 (lv_at hl 6 rfl) ?_
          refine lv_bipush (v := 12) hx hb dX9_feed_53 (by decide) ?_
          refine lv_icmp_ge (tgt := 62) hx hb dX9_feed_55 (by decide) (fun c5 => ?_) (fun c5 => ?_)
          · have hz := ipt (c5) hz
            refine lv_iload hx hb dX9_feed_62 (lv_at hl 6 rfl) ?_
            refine lv_bipush (v := 16) hx hb dX9_feed_64 (by decide) ?_
            refine lv_icmp_ge (tgt := 74) hx hb dX9_feed_66 (by decide) (fun c6 => ?_) (fun c6 => ?_)
            · have hz := ipt (c6) hz
              refine lv_iload hx hb dX9_feed_74 (lv_at hl 5 rfl) ?_
              exact w_X9_feed_76 F hr hlk ih x1 x2 x3 x4 x5 x6 x5 _ _ _ _ S (lv_sub hl [0, 1, 2, 3, 4, 5, 6] rfl) hz
            · have hz := ipf (c6) hz
              refine lv_iload hx hb dX9_feed_69 (lv_at hl 4 rfl) ?_
              refine lv_goto (tgt := 76) hx hb dX9_feed_71 (by decide) ?_
              exact w_X9_feed_76 F hr hlk ih x1 x2 x3 x4 x5 x6 x4 _ _ _ _ S (lv_sub hl [0, 1, 2, 3, 4, 5, 6] rfl) hz
          · have hz := ipf (c5) hz
            refine lv_iload_n hx hb dX9_feed_58 rfl (lv_at hl 3 rfl) ?_
            refine lv_goto (tgt := 76) hx hb dX9_feed_59 (by decide) ?_
            exact w_X9_feed_76 F hr hlk ih x1 x2 x3 x4 x5 x6 x3 _ _ _ _ S (lv_sub hl [0, 1, 2, 3, 4, 5, 6] rfl) hz
        · have hz := ipf (c4) hz
          refine lv_iload_n hx hb dX9_feed_47 rfl (lv_at hl 2 rfl) ?_
          refine lv_goto (tgt := 76) hx hb dX9_feed_48 (by decide) ?_
          exact w_X9_feed_76 F hr hlk ih x1 x2 x3 x4 x5 x6 x2 _ _ _ _ S (lv_sub hl [0, 1, 2, 3, 4, 5, 6] rfl) hz
      · have hz := ipf (c3) hz
        refine lv_iload_n hx hb dX9_feed_36 rfl (lv_at hl 1 rfl) ?_
        refine lv_goto (tgt := 76) hx hb dX9_feed_37 (by decide) ?_
        exact w_X9_feed_76 F hr hlk ih x1 x2 x3 x4 x5 x6 x1 _ _ _ _ S (lv_sub hl [0, 1, 2, 3, 4, 5, 6] rfl) hz
set_option maxHeartbeats 4000000 in
set_option maxRecDepth 100000 in
theorem c_X9_feed (l : Launch) (G : GG) (x1 : Int32) (x2 : Int32) (x3 : Int32) (x4 : Int32) (x5 : Int32)  (w : GW) {z : Int32 × GW} (hz : f_X9_feed x1 x2 x3 x4 x5 w = some z) : Met l yX9_feed (wsU yX9_feed cX9_feed 8 (some .int)) rm_X9_feed (va_Pc [.ref (gad G 130), .int x1, .int x2, .int x3, .int x4, .int x5] (PreG G w)) (QI G z) 0 0 (gA G) := by
  refine Met.ofW (cc := cX9_feed) (maxL := 8) (ret := (some .int)) (by decide) rfl ?_
  intro p e s m args below meth c s₁ B hml hv
  obtain ⟨rfl, S⟩ := hv
  have F : CallFix p m c cX9_feed 8 s _ (wsU yX9_feed cX9_feed 8 (some .int)) RX9 := ⟨B.exec, B.bytes, hml, findClass_of_methodNamed B.named, atoms_spec B.pre⟩
  have hr := B.returns
  have hlk := B.notSynchronized
  obtain ⟨hx, hb, -, hown, hts⟩ := id F
  have hg : ∀ q ∈ lwg, q.before _ s = true := fun q h => hts q (List.mem_cons_of_mem _ h)
  refine g_entry (Nat.le_of_ble_eq_true rfl) (fun ls hl => ?_)
  have hl : lv_has ls 8 [(0, .ref (gad G 130)), (1, .int x1), (2, .int x2), (3, .int x3), (4, .int x4), (5, .int x5)] := hl
  have S : St G w s s.heap [] := S
  generalize s.heap = H at S ⊢
  generalize ([] : List Loc) = locs at S ⊢
  rw [f_X9_feed] at hz
  refine lv_aload_n hx hb dX9_feed_0 rfl (lv_at hl 0 rfl) ?_
  refine lv_iconst (v := 0) hx hb dX9_feed_1 (by decide) ?_
  refine fp_X9_0 (v := 0) hx hb (fun q h => hg q (tl_X9 q h)) hown (hg _ t_fl_X9_69) S (by decide) dX9_feed_2 (fun H locs S => ?_)
  refine lv_aload_n hx hb dX9_feed_5 rfl (lv_at hl 0 rfl) ?_
  refine fg_X9_2 hx hb (fun q h => hg q (tl_X9 q h)) hown (hg _ t_fl_X9_75) S (by decide) dX9_feed_6 ?_
  refine lv_bipush (v := 20) hx hb dX9_feed_9 (by decide) ?_
  refine lv_iadd hx hb dX9_feed_11 ?_
  refine lv_sipush (v := 900) hx hb dX9_feed_12 (by decide) ?_
  refine lv_icmp_le (tgt := 20) hx hb dX9_feed_15 (by decide) (fun c1 => ?_) (fun c1 => ?_)
  · have hz := ipt (c1) hz
    refine lv_iconst (v := 0) hx hb dX9_feed_20 (by decide) ?_
    refine lv_istore (lv' := [(6, .int 0), (0, .ref (gad G 130)), (1, .int x1), (2, .int x2), (3, .int x3), (4, .int x4), (5, .int x5)]) hx hb dX9_feed_21 hl (by decide) rfl (fun ls hl => ?_)
    exact w_X9_feed_23 F hr hlk fu x1 x2 x3 x4 x5 0 _ _ _ _ S (lv_sub hl [1, 2, 3, 4, 5, 6, 0] rfl) hz
  · have hz := ipf (c1) hz
    refine lv_iconst (v := (-1)) hx hb dX9_feed_18 (by decide) ?_
    exact g_reti hx hb hr hlk S hz dX9_feed_19
noncomputable def f_X9_look (x1 : Int32) (w : GW) : Option (Int32 × GW) :=
  if (gI w 130 3) ≤ x1 then
    some ((-1), w)
  else
    if inb x1 900 then
    some ((gI w 131 (ix x1)), w)
    else none
set_option maxHeartbeats 4000000 in
set_option maxRecDepth 100000 in
theorem c_X9_look (l : Launch) (G : GG) (x1 : Int32)  (w : GW) {z : Int32 × GW} (hz : f_X9_look x1 w = some z) : Met l yX9_look (wsU yX9_look cX9_look 2 (some .int)) rm_X9_look (va_Pc [.ref (gad G 130), .int x1] (PreG G w)) (QI G z) 0 0 (gA G) := by
  refine Met.ofW (cc := cX9_look) (maxL := 2) (ret := (some .int)) (by decide) rfl ?_
  intro p e s m args below meth c s₁ B hml hv
  obtain ⟨rfl, S⟩ := hv
  have F : CallFix p m c cX9_look 2 s _ (wsU yX9_look cX9_look 2 (some .int)) RX9 := ⟨B.exec, B.bytes, hml, findClass_of_methodNamed B.named, atoms_spec B.pre⟩
  have hr := B.returns
  have hlk := B.notSynchronized
  obtain ⟨hx, hb, -, hown, hts⟩ := id F
  have hg : ∀ q ∈ lwg, q.before _ s = true := fun q h => hts q (List.mem_cons_of_mem _ h)
  refine g_entry (Nat.le_of_ble_eq_true rfl) (fun ls hl => ?_)
  have hl : lv_has ls 2 [(0, .ref (gad G 130)), (1, .int x1)] := hl
  have S : St G w s s.heap [] := S
  generalize s.heap = H at S ⊢
  generalize ([] : List Loc) = locs at S ⊢
  rw [f_X9_look] at hz
  refine lv_iload_n hx hb dX9_look_0 rfl (lv_at hl 1 rfl) ?_
  refine lv_aload_n hx hb dX9_look_1 rfl (lv_at hl 0 rfl) ?_
  refine fg_X9_3 hx hb (fun q h => hg q (tl_X9 q h)) hown (hg _ t_fl_X9_78) S (by decide) dX9_look_2 ?_
  refine lv_icmp_ge (tgt := 17) hx hb dX9_look_5 (by decide) (fun c1 => ?_) (fun c1 => ?_)
  · have hz := ipt (c1) hz
    refine lv_iconst (v := (-1)) hx hb dX9_look_17 (by decide) ?_
    exact g_reti hx hb hr hlk S hz dX9_look_18
  · have hz := ipf (c1) hz
    refine lv_aload_n hx hb dX9_look_8 rfl (lv_at hl 0 rfl) ?_
    refine fg_X9_1 hx hb (fun q h => hg q (tl_X9 q h)) hown (hg _ t_fl_X9_7) S (by decide) dX9_look_9 ?_
    refine lv_iload_n hx hb dX9_look_12 rfl (lv_at hl 1 rfl) ?_
    obtain ⟨h2, hz⟩ := ck hz
    refine g_iald hx hb S (isA_11 (by decide)) h2 dX9_look_13 ?_
    refine lv_goto (tgt := 18) hx hb dX9_look_14 (by decide) ?_
    exact g_reti hx hb hr hlk S hz dX9_look_18
noncomputable def f_X9_isSmall (x0 : Int32) (w : GW) : Option (Int32 × GW) :=
  if x0 < 97 then
    some (0, w)
  else
    if 122 < x0 then
      some (0, w)
    else
      some (1, w)
set_option maxHeartbeats 4000000 in
set_option maxRecDepth 100000 in
theorem c_X9_isSmall (l : Launch) (G : GG) (x0 : Int32)  (w : GW) {z : Int32 × GW} (hz : f_X9_isSmall x0 w = some z) : Met l yX9_isSmall (wsU yX9_isSmall cX9_isSmall 1 (some .boolean)) rm_X9_isSmall (va_Pc [.int x0] (PreG G w)) (QB G z) 0 0 (gA G) := by
  refine Met.ofW (cc := cX9_isSmall) (maxL := 1) (ret := (some .boolean)) (by decide) rfl ?_
  intro p e s m args below meth c s₁ B hml hv
  obtain ⟨rfl, S⟩ := hv
  have F : CallFix p m c cX9_isSmall 1 s _ (wsU yX9_isSmall cX9_isSmall 1 (some .boolean)) RX9 := ⟨B.exec, B.bytes, hml, findClass_of_methodNamed B.named, atoms_spec B.pre⟩
  have hr := B.returns
  have hlk := B.notSynchronized
  obtain ⟨hx, hb, -, hown, hts⟩ := id F
  have hg : ∀ q ∈ lwg, q.before _ s = true := fun q h => hts q (List.mem_cons_of_mem _ h)
  refine g_entry (Nat.le_of_ble_eq_true rfl) (fun ls hl => ?_)
  have hl : lv_has ls 1 [(0, .int x0)] := hl
  have S : St G w s s.heap [] := S
  generalize s.heap = H at S ⊢
  generalize ([] : List Loc) = locs at S ⊢
  rw [f_X9_isSmall] at hz
  refine lv_iload_n hx hb dX9_isSmall_0 rfl (lv_at hl 0 rfl) ?_
  refine lv_bipush (v := 97) hx hb dX9_isSmall_1 (by decide) ?_
  refine lv_icmp_lt (tgt := 16) hx hb dX9_isSmall_3 (by decide) (fun c1 => ?_) (fun c1 => ?_)
  · have hz := ipt (c1) hz
    refine lv_iconst (v := 0) hx hb dX9_isSmall_16 (by decide) ?_
    exact g_retb hx hb hr hlk S isB_0 hz dX9_isSmall_17
  · have hz := ipf (c1) hz
    refine lv_iload_n hx hb dX9_isSmall_6 rfl (lv_at hl 0 rfl) ?_
    refine lv_bipush (v := 122) hx hb dX9_isSmall_7 (by decide) ?_
    refine lv_icmp_gt (tgt := 16) hx hb dX9_isSmall_9 (by decide) (fun c2 => ?_) (fun c2 => ?_)
    · have hz := ipt (c2) hz
      refine lv_iconst (v := 0) hx hb dX9_isSmall_16 (by decide) ?_
      exact g_retb hx hb hr hlk S isB_0 hz dX9_isSmall_17
    · have hz := ipf (c2) hz
      refine lv_iconst (v := 1) hx hb dX9_isSmall_12 (by decide) ?_
      refine lv_goto (tgt := 17) hx hb dX9_isSmall_13 (by decide) ?_
      exact g_retb hx hb hr hlk S isB_1 hz dX9_isSmall_17
noncomputable def f_X9_isDigit (x0 : Int32) (w : GW) : Option (Int32 × GW) :=
  if x0 < 48 then
    some (0, w)
  else
    if 57 < x0 then
      some (0, w)
    else
      some (1, w)
set_option maxHeartbeats 4000000 in
set_option maxRecDepth 100000 in
theorem c_X9_isDigit (l : Launch) (G : GG) (x0 : Int32)  (w : GW) {z : Int32 × GW} (hz : f_X9_isDigit x0 w = some z) : Met l yX9_isDigit (wsU yX9_isDigit cX9_isDigit 1 (some .boolean)) rm_X9_isDigit (va_Pc [.int x0] (PreG G w)) (QB G z) 0 0 (gA G) := by
  refine Met.ofW (cc := cX9_isDigit) (maxL := 1) (ret := (some .boolean)) (by decide) rfl ?_
  intro p e s m args below meth c s₁ B hml hv
  obtain ⟨rfl, S⟩ := hv
  have F : CallFix p m c cX9_isDigit 1 s _ (wsU yX9_isDigit cX9_isDigit 1 (some .boolean)) RX9 := ⟨B.exec, B.bytes, hml, findClass_of_methodNamed B.named, atoms_spec B.pre⟩
  have hr := B.returns
  have hlk := B.notSynchronized
  obtain ⟨hx, hb, -, hown, hts⟩ := id F
  have hg : ∀ q ∈ lwg, q.before _ s = true := fun q h => hts q (List.mem_cons_of_mem _ h)
  refine g_entry (Nat.le_of_ble_eq_true rfl) (fun ls hl => ?_)
  have hl : lv_has ls 1 [(0, .int x0)] := hl
  have S : St G w s s.heap [] := S
  generalize s.heap = H at S ⊢
  generalize ([] : List Loc) = locs at S ⊢
  rw [f_X9_isDigit] at hz
  refine lv_iload_n hx hb dX9_isDigit_0 rfl (lv_at hl 0 rfl) ?_
  refine lv_bipush (v := 48) hx hb dX9_isDigit_1 (by decide) ?_
  refine lv_icmp_lt (tgt := 16) hx hb dX9_isDigit_3 (by decide) (fun c1 => ?_) (fun c1 => ?_)
  · have hz := ipt (c1) hz
    refine lv_iconst (v := 0) hx hb dX9_isDigit_16 (by decide) ?_
    exact g_retb hx hb hr hlk S isB_0 hz dX9_isDigit_17
  · have hz := ipf (c1) hz
    refine lv_iload_n hx hb dX9_isDigit_6 rfl (lv_at hl 0 rfl) ?_
    refine lv_bipush (v := 57) hx hb dX9_isDigit_7 (by decide) ?_
    refine lv_icmp_gt (tgt := 16) hx hb dX9_isDigit_9 (by decide) (fun c2 => ?_) (fun c2 => ?_)
    · have hz := ipt (c2) hz
      refine lv_iconst (v := 0) hx hb dX9_isDigit_16 (by decide) ?_
      exact g_retb hx hb hr hlk S isB_0 hz dX9_isDigit_17
    · have hz := ipf (c2) hz
      refine lv_iconst (v := 1) hx hb dX9_isDigit_12 (by decide) ?_
      refine lv_goto (tgt := 17) hx hb dX9_isDigit_13 (by decide) ?_
      exact g_retb hx hb hr hlk S isB_1 hz dX9_isDigit_17
noncomputable def f_X9_next_188 (k_152 : Int32 → Int32 → GW → Option (Unit × GW)) (x1 : Int32) (x3 : Int32) (w : GW) : Option (Unit × GW) :=
  k_152 (x1 + 1) (x3 + 1) w
noncomputable def f_X9_next_152  : Nat → Int32 → Int32 → GW → Option (Unit × GW)
  | 0, _, _, _ => none
  | n9 + 1, x1, x3, w =>
    (f_X9_look x1 w).bind fun q17 =>
    (f_X9_isDigit q17.1 q17.2).bind fun q19 =>
    if q19.1 = 0 then
      if x3 ≤ 3 then
        some ((), (sI (sI q19.2 130 5 x1) 130 6 3))
      else
        some ((), (sI (sI q19.2 130 5 x1) 130 6 1))
    else
      if 3 ≤ x3 then
        f_X9_next_188 (f_X9_next_152 n9) x1 x3 q19.2
      else
        (f_X9_look x1 q19.2).bind fun q25 =>
        f_X9_next_188 (f_X9_next_152 n9) x1 x3 (sI q25.2 130 7 (((10 * (gI q19.2 130 7)) + q25.1) - 48))
noncomputable def f_X9_next_101 (k_67 : Int32 → GW → Option (Unit × GW)) (x1 : Int32) (w : GW) : Option (Unit × GW) :=
  k_67 (x1 + 1) (sI w 130 8 ((gI w 130 8) + 1))
noncomputable def f_X9_next_67  : Nat → Int32 → GW → Option (Unit × GW)
  | 0, _, _ => none
  | n9 + 1, x1, w =>
    (f_X9_look x1 w).bind fun q27 =>
    (f_X9_isSmall q27.1 q27.2).bind fun q29 =>
    if q29.1 = 0 then
      if (gI (sI q29.2 130 5 x1) 130 8) ≤ 8 then
        some ((), (sI (sI q29.2 130 5 x1) 130 6 2))
      else
        some ((), (sI (sI q29.2 130 5 x1) 130 6 1))
    else
      if 8 ≤ (gI q29.2 130 8) then
        f_X9_next_101 (f_X9_next_67 n9) x1 q29.2
      else
        (f_X9_look x1 q29.2).bind fun q35 =>
        if inb (gI q29.2 130 8) 8 then
        f_X9_next_101 (f_X9_next_67 n9) x1 (sI q35.2 132 (ix (gI q29.2 130 8)) q35.1)
        else none
noncomputable def f_X9_next_5  : Nat → Int32 → GW → Option (Unit × GW)
  | 0, _, _ => none
  | n9 + 1, x1, w =>
    (f_X9_look x1 w).bind fun q1 =>
    if q1.1 = 32 then
      f_X9_next_5 n9 (x1 + 1) q1.2
    else
      (f_X9_look x1 (sI q1.2 130 4 x1)).bind fun q4 =>
      if q4.1 = (-1) then
        some ((), (sI (sI (sI (sI q4.2 130 8 0) 130 7 0) 130 6 0) 130 5 x1))
      else
        (f_X9_isSmall q4.1 (sI (sI q4.2 130 8 0) 130 7 0)).bind fun q7 =>
        if q7.1 = 0 then
          (f_X9_isDigit q4.1 q7.2).bind fun q11 =>
          if q11.1 = 0 then
            if q4.1 = 59 then
              some ((), (sI (sI q11.2 130 5 (x1 + 1)) 130 6 q4.1))
            else
              if q4.1 = 44 then
                some ((), (sI (sI q11.2 130 5 (x1 + 1)) 130 6 q4.1))
              else
                some ((), (sI (sI q11.2 130 5 (x1 + 1)) 130 6 1))
          else
            f_X9_next_152 fu x1 0 q11.2
        else
          f_X9_next_67 fu x1 q7.2
noncomputable def f_X9_next  (w : GW) : Option (Unit × GW) :=
  f_X9_next_5 fu (gI w 130 5) w
set_option maxHeartbeats 4000000 in
set_option maxRecDepth 100000 in
theorem w_X9_next_188 {p : Program} {l : Launch} {e : Env} {s : State} {m : MethodId} {args : Array Value} {below : List Frame} {meth : Method} {c : Code} {G : GG} (F : CallFix p m c cX9_next 4 s args (wsU yX9_next cX9_next 4 none) RX9) (hr : meth.sig.returnType = none) (hlk : meth.locks = false) {z : Unit × GW} {k_152 : Int32 → Int32 → GW → Option (Unit × GW)} (Hk_152 : (∀ (x1 : Int32) (x3 : Int32) (w : GW) (H : Heap) (locs : List Loc) (ls : Array Slot), St G w s H locs → lv_has ls 4 [(0, .ref (gad G 130)), (1, .int x1), (3, .int x3)] → k_152 x1 x3 w = some z → W p l e (headSpec (wsU yX9_next cX9_next 4 none) rm_X9_next).room s m args below meth c H locs 0 0 (MQ below (QV G z) args s 0 0 (gA G)) (F0 m 152 ls []))) : (∀ (x1 : Int32) (x3 : Int32) (w : GW) (H : Heap) (locs : List Loc) (ls : Array Slot), St G w s H locs → lv_has ls 4 [(0, .ref (gad G 130)), (1, .int x1), (3, .int x3)] → f_X9_next_188 k_152 x1 x3 w = some z → W p l e (headSpec (wsU yX9_next cX9_next 4 none) rm_X9_next).room s m args below meth c H locs 0 0 (MQ below (QV G z) args s 0 0 (gA G)) (F0 m 188 ls [])) := by
  obtain ⟨hx, hb, hml, hown, hts⟩ := id F
  have hg : ∀ q ∈ lwg, q.before args s = true := fun q h => hts q (List.mem_cons_of_mem _ h)
  intro x1 x3 w H locs ls S hl hz
  rw [f_X9_next_188] at hz
  refine lv_iinc (v := (x3 + 1)) (lv' := [(3, .int (x3 + 1)), (0, .ref (gad G 130)), (1, .int x1)]) hx hb dX9_next_188 hl (k := 2) rfl rfl (by decide) rfl (fun ls hl => ?_)
  refine lv_iinc (v := (x1 + 1)) (lv' := [(1, .int (x1 + 1)), (3, .int (x3 + 1)), (0, .ref (gad G 130))]) hx hb dX9_next_191 hl (k := 2) rfl rfl (by decide) rfl (fun ls hl => ?_)
  refine lv_goto (tgt := 152) hx hb dX9_next_194 (by decide) ?_
  exact Hk_152 (x1 + 1) (x3 + 1)  _ _ _ _ S (lv_sub hl [2, 0, 1] rfl) hz
set_option maxHeartbeats 4000000 in
set_option maxRecDepth 100000 in
theorem w_X9_next_152 {p : Program} {l : Launch} {e : Env} {s : State} {m : MethodId} {args : Array Value} {below : List Frame} {meth : Method} {c : Code} {G : GG} (F : CallFix p m c cX9_next 4 s args (wsU yX9_next cX9_next 4 none) RX9) (hr : meth.sig.returnType = none) (hlk : meth.locks = false) {z : Unit × GW} : ∀ (n9 : Nat), (∀ (x1 : Int32) (x3 : Int32) (w : GW) (H : Heap) (locs : List Loc) (ls : Array Slot), St G w s H locs → lv_has ls 4 [(0, .ref (gad G 130)), (1, .int x1), (3, .int x3)] → f_X9_next_152 n9 x1 x3 w = some z → W p l e (headSpec (wsU yX9_next cX9_next 4 none) rm_X9_next).room s m args below meth c H locs 0 0 (MQ below (QV G z) args s 0 0 (gA G)) (F0 m 152 ls [])) := by
  obtain ⟨hx, hb, hml, hown, hts⟩ := id F
  have hg : ∀ q ∈ lwg, q.before args s = true := fun q h => hts q (List.mem_cons_of_mem _ h)
  intro n9
  induction n9 with
  | zero =>
    intro x1 x3 w H locs ls S hl hz
    rw [f_X9_next_152] at hz
    cases hz
  | succ n9 ih =>
    intro x1 x3 w H locs ls S hl hz
    rw [f_X9_next_152] at hz
    refine lv_aload_n hx hb dX9_next_152 rfl (lv_at hl 0 rfl) ?_
    refine lv_iload_n hx hb dX9_next_153 rfl (lv_at hl 1 rfl) ?_
    obtain ⟨q17, e18, hz⟩ := bd hz
    refine g_callVi (As := [.int x1]) (rest := []) F S (c_X9_look l G x1  _ e18) (cw_X9_next_X9_look_84 hg) (S.obj (by decide) (by decide) rfl (oc_X9 _ _ _ (by decide))) rfl hl.1 rfl (Nat.le_of_ble_eq_true rfl) ⟨Nat.zero_le _, Nat.zero_le _⟩ dX9_next_154 (fun H locs  S => ?_)
    obtain ⟨q19, e20, hz⟩ := bd hz
    refine g_callSb (As := [.int q17.1]) (rest := []) F S (c_X9_isDigit l G q17.1  _ e20) (cw_X9_next_X9_isDigit_104 hg) rfl hl.1 rfl (Nat.le_of_ble_eq_true rfl) ⟨Nat.zero_le _, Nat.zero_le _⟩ dX9_next_157 (fun H locs hB21 S => ?_)
    refine lv_if_eq (tgt := 197) hx hb dX9_next_160 (by decide) (fun c22 => ?_) (fun c22 => ?_)
    · have hz := ipt (c22) hz
      refine lv_aload_n hx hb dX9_next_197 rfl (lv_at hl 0 rfl) ?_
      refine lv_iload_n hx hb dX9_next_198 rfl (lv_at hl 1 rfl) ?_
      refine fp_X9_5 (v := x1) hx hb (fun q h => hg q (tl_X9 q h)) hown (hg _ t_fl_X9_81) S (by decide) dX9_next_199 (fun H locs S => ?_)
      refine lv_aload_n hx hb dX9_next_202 rfl (lv_at hl 0 rfl) ?_
      refine lv_iload_n hx hb dX9_next_203 rfl (lv_at hl 2 rfl) ?_
      refine lv_iconst (v := 3) hx hb dX9_next_204 (by decide) ?_
      refine lv_icmp_le (tgt := 212) hx hb dX9_next_205 (by decide) (fun c23 => ?_) (fun c23 => ?_)
      · have hz := ipt (c23) hz
        refine lv_iconst (v := 3) hx hb dX9_next_212 (by decide) ?_
        refine fp_X9_6 (v := 3) hx hb (fun q h => hg q (tl_X9 q h)) hown (hg _ t_fl_X9_97) S (by decide) dX9_next_213 (fun H locs S => ?_)
        refine lv_goto (tgt := 247) hx hb dX9_next_216 (by decide) ?_
        exact g_retv hx hb hr hlk S hz dX9_next_247
      · have hz := ipf (c23) hz
        refine lv_iconst (v := 1) hx hb dX9_next_208 (by decide) ?_
        refine lv_goto (tgt := 213) hx hb dX9_next_209 (by decide) ?_
        refine fp_X9_6 (v := 1) hx hb (fun q h => hg q (tl_X9 q h)) hown (hg _ t_fl_X9_97) S (by decide) dX9_next_213 (fun H locs S => ?_)
        refine lv_goto (tgt := 247) hx hb dX9_next_216 (by decide) ?_
        exact g_retv hx hb hr hlk S hz dX9_next_247
    · have hz := ipf (c22) hz
      refine lv_iload_n hx hb dX9_next_163 rfl (lv_at hl 2 rfl) ?_
      refine lv_iconst (v := 3) hx hb dX9_next_164 (by decide) ?_
      refine lv_icmp_ge (tgt := 188) hx hb dX9_next_165 (by decide) (fun c24 => ?_) (fun c24 => ?_)
      · have hz := ipt (c24) hz
        exact w_X9_next_188 F hr hlk ih x1 x3 _ _ _ _ S (lv_sub hl [0, 1, 2] rfl) hz
      · have hz := ipf (c24) hz
        refine lv_aload_n hx hb dX9_next_168 rfl (lv_at hl 0 rfl) ?_
        refine lv_bipush (v := 10) hx hb dX9_next_169 (by decide) ?_
        refine lv_aload_n hx hb dX9_next_171 rfl (lv_at hl 0 rfl) ?_
        refine fg_X9_7 hx hb (fun q h => hg q (tl_X9 q h)) hown (hg _ t_fl_X9_94) S (by decide) dX9_next_172 ?_
        refine lv_imul hx hb dX9_next_175 ?_
        refine lv_aload_n hx hb dX9_next_176 rfl (lv_at hl 0 rfl) ?_
        refine lv_iload_n hx hb dX9_next_177 rfl (lv_at hl 1 rfl) ?_
        obtain ⟨q25, e26, hz⟩ := bd hz
        refine g_callVi (As := [.int x1]) (rest := [.int (10 * (gI q19.2 130 7)), .ref (gad G 130)]) F S (c_X9_look l G x1  _ e26) (cw_X9_next_X9_look_84 hg) (S.obj (by decide) (by decide) rfl (oc_X9 _ _ _ (by decide))) rfl hl.1 rfl (Nat.le_of_ble_eq_true rfl) ⟨Nat.zero_le _, Nat.zero_le _⟩ dX9_next_178 (fun H locs  S => ?_)
        refine lv_iadd hx hb dX9_next_181 ?_
        refine lv_bipush (v := 48) hx hb dX9_next_182 (by decide) ?_
        refine lv_isub hx hb dX9_next_184 ?_
        refine fp_X9_7 (v := (((10 * (gI q19.2 130 7)) + q25.1) - 48)) hx hb (fun q h => hg q (tl_X9 q h)) hown (hg _ t_fl_X9_94) S (by decide) dX9_next_185 (fun H locs S => ?_)
        exact w_X9_next_188 F hr hlk ih x1 x3 _ _ _ _ S (lv_sub hl [0, 1, 2] rfl) hz
set_option maxHeartbeats 4000000 in
set_option maxRecDepth 100000 in
theorem w_X9_next_101 {p : Program} {l : Launch} {e : Env} {s : State} {m : MethodId} {args : Array Value} {below : List Frame} {meth : Method} {c : Code} {G : GG} (F : CallFix p m c cX9_next 4 s args (wsU yX9_next cX9_next 4 none) RX9) (hr : meth.sig.returnType = none) (hlk : meth.locks = false) {z : Unit × GW} {k_67 : Int32 → GW → Option (Unit × GW)} (Hk_67 : (∀ (x1 : Int32) (w : GW) (H : Heap) (locs : List Loc) (ls : Array Slot), St G w s H locs → lv_has ls 4 [(0, .ref (gad G 130)), (1, .int x1)] → k_67 x1 w = some z → W p l e (headSpec (wsU yX9_next cX9_next 4 none) rm_X9_next).room s m args below meth c H locs 0 0 (MQ below (QV G z) args s 0 0 (gA G)) (F0 m 67 ls []))) : (∀ (x1 : Int32) (w : GW) (H : Heap) (locs : List Loc) (ls : Array Slot), St G w s H locs → lv_has ls 4 [(0, .ref (gad G 130)), (1, .int x1)] → f_X9_next_101 k_67 x1 w = some z → W p l e (headSpec (wsU yX9_next cX9_next 4 none) rm_X9_next).room s m args below meth c H locs 0 0 (MQ below (QV G z) args s 0 0 (gA G)) (F0 m 101 ls [])) := by
  obtain ⟨hx, hb, hml, hown, hts⟩ := id F
  have hg : ∀ q ∈ lwg, q.before args s = true := fun q h => hts q (List.mem_cons_of_mem _ h)
  intro x1 w H locs ls S hl hz
  rw [f_X9_next_101] at hz
  refine lv_aload_n hx hb dX9_next_101 rfl (lv_at hl 0 rfl) ?_
  refine lv_dup hx hb dX9_next_102 rfl ?_
  refine fg_X9_8 hx hb (fun q h => hg q (tl_X9 q h)) hown (hg _ t_fl_X9_91) S (by decide) dX9_next_103 ?_
  refine lv_iconst (v := 1) hx hb dX9_next_106 (by decide) ?_
  refine lv_iadd hx hb dX9_next_107 ?_
  refine fp_X9_8 (v := ((gI w 130 8) + 1)) hx hb (fun q h => hg q (tl_X9 q h)) hown (hg _ t_fl_X9_91) S (by decide) dX9_next_108 (fun H locs S => ?_)
  refine lv_iinc (v := (x1 + 1)) (lv' := [(1, .int (x1 + 1)), (0, .ref (gad G 130))]) hx hb dX9_next_111 hl (k := 1) rfl rfl (by decide) rfl (fun ls hl => ?_)
  refine lv_goto (tgt := 67) hx hb dX9_next_114 (by decide) ?_
  exact Hk_67 (x1 + 1)  _ _ _ _ S (lv_sub hl [1, 0] rfl) hz
set_option maxHeartbeats 4000000 in
set_option maxRecDepth 100000 in
theorem w_X9_next_67 {p : Program} {l : Launch} {e : Env} {s : State} {m : MethodId} {args : Array Value} {below : List Frame} {meth : Method} {c : Code} {G : GG} (F : CallFix p m c cX9_next 4 s args (wsU yX9_next cX9_next 4 none) RX9) (hr : meth.sig.returnType = none) (hlk : meth.locks = false) {z : Unit × GW} : ∀ (n9 : Nat), (∀ (x1 : Int32) (w : GW) (H : Heap) (locs : List Loc) (ls : Array Slot), St G w s H locs → lv_has ls 4 [(0, .ref (gad G 130)), (1, .int x1)] → f_X9_next_67 n9 x1 w = some z → W p l e (headSpec (wsU yX9_next cX9_next 4 none) rm_X9_next).room s m args below meth c H locs 0 0 (MQ below (QV G z) args s 0 0 (gA G)) (F0 m 67 ls [])) := by
  obtain ⟨hx, hb, hml, hown, hts⟩ := id F
  have hg : ∀ q ∈ lwg, q.before args s = true := fun q h => hts q (List.mem_cons_of_mem _ h)
  intro n9
  induction n9 with
  | zero =>
    intro x1 w H locs ls S hl hz
    rw [f_X9_next_67] at hz
    cases hz
  | succ n9 ih =>
    intro x1 w H locs ls S hl hz
    rw [f_X9_next_67] at hz
    refine lv_aload_n hx hb dX9_next_67 rfl (lv_at hl 0 rfl) ?_
    refine lv_iload_n hx hb dX9_next_68 rfl (lv_at hl 1 rfl) ?_
    obtain ⟨q27, e28, hz⟩ := bd hz
    refine g_callVi (As := [.int x1]) (rest := []) F S (c_X9_look l G x1  _ e28) (cw_X9_next_X9_look_84 hg) (S.obj (by decide) (by decide) rfl (oc_X9 _ _ _ (by decide))) rfl hl.1 rfl (Nat.le_of_ble_eq_true rfl) ⟨Nat.zero_le _, Nat.zero_le _⟩ dX9_next_69 (fun H locs  S => ?_)
    obtain ⟨q29, e30, hz⟩ := bd hz
    refine g_callSb (As := [.int q27.1]) (rest := []) F S (c_X9_isSmall l G q27.1  _ e30) (cw_X9_next_X9_isSmall_100 hg) rfl hl.1 rfl (Nat.le_of_ble_eq_true rfl) ⟨Nat.zero_le _, Nat.zero_le _⟩ dX9_next_72 (fun H locs hB31 S => ?_)
    refine lv_if_eq (tgt := 117) hx hb dX9_next_75 (by decide) (fun c32 => ?_) (fun c32 => ?_)
    · have hz := ipt (c32) hz
      refine lv_aload_n hx hb dX9_next_117 rfl (lv_at hl 0 rfl) ?_
      refine lv_iload_n hx hb dX9_next_118 rfl (lv_at hl 1 rfl) ?_
      refine fp_X9_5 (v := x1) hx hb (fun q h => hg q (tl_X9 q h)) hown (hg _ t_fl_X9_81) S (by decide) dX9_next_119 (fun H locs S => ?_)
      refine lv_aload_n hx hb dX9_next_122 rfl (lv_at hl 0 rfl) ?_
      refine lv_aload_n hx hb dX9_next_123 rfl (lv_at hl 0 rfl) ?_
      refine fg_X9_8 hx hb (fun q h => hg q (tl_X9 q h)) hown (hg _ t_fl_X9_91) S (by decide) dX9_next_124 ?_
      refine lv_bipush (v := 8) hx hb dX9_next_127 (by decide) ?_
      refine lv_icmp_le (tgt := 136) hx hb dX9_next_129 (by decide) (fun c33 => ?_) (fun c33 => ?_)
      · have hz := ipt (c33) hz
        refine lv_iconst (v := 2) hx hb dX9_next_136 (by decide) ?_
        refine fp_X9_6 (v := 2) hx hb (fun q h => hg q (tl_X9 q h)) hown (hg _ t_fl_X9_97) S (by decide) dX9_next_137 (fun H locs S => ?_)
        refine lv_goto (tgt := 247) hx hb dX9_next_140 (by decide) ?_
        exact g_retv hx hb hr hlk S hz dX9_next_247
      · have hz := ipf (c33) hz
        refine lv_iconst (v := 1) hx hb dX9_next_132 (by decide) ?_
        refine lv_goto (tgt := 137) hx hb dX9_next_133 (by decide) ?_
        refine fp_X9_6 (v := 1) hx hb (fun q h => hg q (tl_X9 q h)) hown (hg _ t_fl_X9_97) S (by decide) dX9_next_137 (fun H locs S => ?_)
        refine lv_goto (tgt := 247) hx hb dX9_next_140 (by decide) ?_
        exact g_retv hx hb hr hlk S hz dX9_next_247
    · have hz := ipf (c32) hz
      refine lv_aload_n hx hb dX9_next_78 rfl (lv_at hl 0 rfl) ?_
      refine fg_X9_8 hx hb (fun q h => hg q (tl_X9 q h)) hown (hg _ t_fl_X9_91) S (by decide) dX9_next_79 ?_
      refine lv_bipush (v := 8) hx hb dX9_next_82 (by decide) ?_
      refine lv_icmp_ge (tgt := 101) hx hb dX9_next_84 (by decide) (fun c34 => ?_) (fun c34 => ?_)
      · have hz := ipt (c34) hz
        exact w_X9_next_101 F hr hlk ih x1 _ _ _ _ S (lv_sub hl [0, 1] rfl) hz
      · have hz := ipf (c34) hz
        refine lv_aload_n hx hb dX9_next_87 rfl (lv_at hl 0 rfl) ?_
        refine fg_X9_12 hx hb (fun q h => hg q (tl_X9 q h)) hown (hg _ t_fl_X9_17) S (by decide) dX9_next_88 ?_
        refine lv_aload_n hx hb dX9_next_91 rfl (lv_at hl 0 rfl) ?_
        refine fg_X9_8 hx hb (fun q h => hg q (tl_X9 q h)) hown (hg _ t_fl_X9_91) S (by decide) dX9_next_92 ?_
        refine lv_aload_n hx hb dX9_next_95 rfl (lv_at hl 0 rfl) ?_
        refine lv_iload_n hx hb dX9_next_96 rfl (lv_at hl 1 rfl) ?_
        obtain ⟨q35, e36, hz⟩ := bd hz
        refine g_callVi (As := [.int x1]) (rest := [.int (gI q29.2 130 8), .ref (gad G 132)]) F S (c_X9_look l G x1  _ e36) (cw_X9_next_X9_look_84 hg) (S.obj (by decide) (by decide) rfl (oc_X9 _ _ _ (by decide))) rfl hl.1 rfl (Nat.le_of_ble_eq_true rfl) ⟨Nat.zero_le _, Nat.zero_le _⟩ dX9_next_97 (fun H locs  S => ?_)
        obtain ⟨h37, hz⟩ := ck hz
        refine g_iast (x := q35.1) hx hb S (isA_14 (by decide)) h37 dX9_next_100 (fun H locs S => ?_)
        exact w_X9_next_101 F hr hlk ih x1 _ _ _ _ S (lv_sub hl [0, 1] rfl) hz
set_option maxHeartbeats 4000000 in
set_option maxRecDepth 100000 in
theorem w_X9_next_5 {p : Program} {l : Launch} {e : Env} {s : State} {m : MethodId} {args : Array Value} {below : List Frame} {meth : Method} {c : Code} {G : GG} (F : CallFix p m c cX9_next 4 s args (wsU yX9_next cX9_next 4 none) RX9) (hr : meth.sig.returnType = none) (hlk : meth.locks = false) {z : Unit × GW} : ∀ (n9 : Nat), (∀ (x1 : Int32) (w : GW) (H : Heap) (locs : List Loc) (ls : Array Slot), St G w s H locs → lv_has ls 4 [(0, .ref (gad G 130)), (1, .int x1)] → f_X9_next_5 n9 x1 w = some z → W p l e (headSpec (wsU yX9_next cX9_next 4 none) rm_X9_next).room s m args below meth c H locs 0 0 (MQ below (QV G z) args s 0 0 (gA G)) (F0 m 5 ls [])) := by
  obtain ⟨hx, hb, hml, hown, hts⟩ := id F
  have hg : ∀ q ∈ lwg, q.before args s = true := fun q h => hts q (List.mem_cons_of_mem _ h)
  intro n9
  induction n9 with
  | zero =>
    intro x1 w H locs ls S hl hz
    rw [f_X9_next_5] at hz
    cases hz
  | succ n9 ih =>
    intro x1 w H locs ls S hl hz
    rw [f_X9_next_5] at hz
    refine lv_aload_n hx hb dX9_next_5 rfl (lv_at hl 0 rfl) ?_
    refine lv_iload_n hx hb dX9_next_6 rfl (lv_at hl 1 rfl) ?_
    obtain ⟨q1, e2, hz⟩ := bd hz
    refine g_callVi (As := [.int x1]) (rest := []) F S (c_X9_look l G x1  _ e2) (cw_X9_next_X9_look_84 hg) (S.obj (by decide) (by decide) rfl (oc_X9 _ _ _ (by decide))) rfl hl.1 rfl (Nat.le_of_ble_eq_true rfl) ⟨Nat.zero_le _, Nat.zero_le _⟩ dX9_next_7 (fun H locs  S => ?_)
    refine lv_bipush (v := 32) hx hb dX9_next_10 (by decide) ?_
    refine lv_icmp_ne (tgt := 21) hx hb dX9_next_12 (by decide) (fun c3 => ?_) (fun c3 => ?_)
    · have hz := ipf (c3) hz
      refine lv_aload_n hx hb dX9_next_21 rfl (lv_at hl 0 rfl) ?_
      refine lv_iload_n hx hb dX9_next_22 rfl (lv_at hl 1 rfl) ?_
      refine fp_X9_4 (v := x1) hx hb (fun q h => hg q (tl_X9 q h)) hown (hg _ t_fl_X9_88) S (by decide) dX9_next_23 (fun H locs S => ?_)
      refine lv_aload_n hx hb dX9_next_26 rfl (lv_at hl 0 rfl) ?_
      refine lv_iload_n hx hb dX9_next_27 rfl (lv_at hl 1 rfl) ?_
      obtain ⟨q4, e5, hz⟩ := bd hz
      refine g_callVi (As := [.int x1]) (rest := []) F S (c_X9_look l G x1  _ e5) (cw_X9_next_X9_look_84 hg) (S.obj (by decide) (by decide) rfl (oc_X9 _ _ _ (by decide))) rfl hl.1 rfl (Nat.le_of_ble_eq_true rfl) ⟨Nat.zero_le _, Nat.zero_le _⟩ dX9_next_28 (fun H locs  S => ?_)
      refine lv_istore_n (lv' := [(2, .int q4.1), (0, .ref (gad G 130)), (1, .int x1)]) hx hb dX9_next_31 rfl hl (by decide) rfl (fun ls hl => ?_)
      refine lv_aload_n hx hb dX9_next_32 rfl (lv_at hl 1 rfl) ?_
      refine lv_iconst (v := 0) hx hb dX9_next_33 (by decide) ?_
      refine fp_X9_8 (v := 0) hx hb (fun q h => hg q (tl_X9 q h)) hown (hg _ t_fl_X9_91) S (by decide) dX9_next_34 (fun H locs S => ?_)
      refine lv_aload_n hx hb dX9_next_37 rfl (lv_at hl 1 rfl) ?_
      refine lv_iconst (v := 0) hx hb dX9_next_38 (by decide) ?_
      refine fp_X9_7 (v := 0) hx hb (fun q h => hg q (tl_X9 q h)) hown (hg _ t_fl_X9_94) S (by decide) dX9_next_39 (fun H locs S => ?_)
      refine lv_iload_n hx hb dX9_next_42 rfl (lv_at hl 0 rfl) ?_
      refine lv_iconst (v := (-1)) hx hb dX9_next_43 (by decide) ?_
      refine lv_icmp_ne (tgt := 60) hx hb dX9_next_44 (by decide) (fun c6 => ?_) (fun c6 => ?_)
      · have hz := ipf (c6) hz
        refine lv_iload_n hx hb dX9_next_60 rfl (lv_at hl 0 rfl) ?_
        obtain ⟨q7, e8, hz⟩ := bd hz
        refine g_callSb (As := [.int q4.1]) (rest := []) F S (c_X9_isSmall l G q4.1  _ e8) (cw_X9_next_X9_isSmall_100 hg) rfl hl.1 rfl (Nat.le_of_ble_eq_true rfl) ⟨Nat.zero_le _, Nat.zero_le _⟩ dX9_next_61 (fun H locs hB9 S => ?_)
        refine lv_if_eq (tgt := 143) hx hb dX9_next_64 (by decide) (fun c10 => ?_) (fun c10 => ?_)
        · have hz := ipt (c10) hz
          refine lv_iload_n hx hb dX9_next_143 rfl (lv_at hl 0 rfl) ?_
          obtain ⟨q11, e12, hz⟩ := bd hz
          refine g_callSb (As := [.int q4.1]) (rest := []) F S (c_X9_isDigit l G q4.1  _ e12) (cw_X9_next_X9_isDigit_104 hg) rfl hl.1 rfl (Nat.le_of_ble_eq_true rfl) ⟨Nat.zero_le _, Nat.zero_le _⟩ dX9_next_144 (fun H locs hB13 S => ?_)
          refine lv_if_eq (tgt := 219) hx hb dX9_next_147 (by decide) (fun c14 => ?_) (fun c14 => ?_)
          · have hz := ipt (c14) hz
            refine lv_aload_n hx hb dX9_next_219 rfl (lv_at hl 1 rfl) ?_
            refine lv_iload_n hx hb dX9_next_220 rfl (lv_at hl 2 rfl) ?_
            refine lv_iconst (v := 1) hx hb dX9_next_221 (by decide) ?_
            refine lv_iadd hx hb dX9_next_222 ?_
            refine fp_X9_5 (v := (x1 + 1)) hx hb (fun q h => hg q (tl_X9 q h)) hown (hg _ t_fl_X9_81) S (by decide) dX9_next_223 (fun H locs S => ?_)
            refine lv_aload_n hx hb dX9_next_226 rfl (lv_at hl 1 rfl) ?_
            refine lv_iload_n hx hb dX9_next_227 rfl (lv_at hl 0 rfl) ?_
            refine lv_bipush (v := 59) hx hb dX9_next_228 (by decide) ?_
            refine lv_icmp_eq (tgt := 239) hx hb dX9_next_230 (by decide) (fun c15 => ?_) (fun c15 => ?_)
            · have hz := ipt (c15) hz
              refine lv_iload_n hx hb dX9_next_239 rfl (lv_at hl 0 rfl) ?_
              refine lv_goto (tgt := 244) hx hb dX9_next_240 (by decide) ?_
              refine fp_X9_6 (v := q4.1) hx hb (fun q h => hg q (tl_X9 q h)) hown (hg _ t_fl_X9_97) S (by decide) dX9_next_244 (fun H locs S => ?_)
              exact g_retv hx hb hr hlk S hz dX9_next_247
            · have hz := ipf (c15) hz
              refine lv_iload_n hx hb dX9_next_233 rfl (lv_at hl 0 rfl) ?_
              refine lv_bipush (v := 44) hx hb dX9_next_234 (by decide) ?_
              refine lv_icmp_ne (tgt := 243) hx hb dX9_next_236 (by decide) (fun c16 => ?_) (fun c16 => ?_)
              · have hz := ipf (c16) hz
                refine lv_iconst (v := 1) hx hb dX9_next_243 (by decide) ?_
                refine fp_X9_6 (v := 1) hx hb (fun q h => hg q (tl_X9 q h)) hown (hg _ t_fl_X9_97) S (by decide) dX9_next_244 (fun H locs S => ?_)
                exact g_retv hx hb hr hlk S hz dX9_next_247
              · have hz := ipt (c16) hz
                refine lv_iload_n hx hb dX9_next_239 rfl (lv_at hl 0 rfl) ?_
                refine lv_goto (tgt := 244) hx hb dX9_next_240 (by decide) ?_
                refine fp_X9_6 (v := q4.1) hx hb (fun q h => hg q (tl_X9 q h)) hown (hg _ t_fl_X9_97) S (by decide) dX9_next_244 (fun H locs S => ?_)
                exact g_retv hx hb hr hlk S hz dX9_next_247
          · have hz := ipf (c14) hz
            refine lv_iconst (v := 0) hx hb dX9_next_150 (by decide) ?_
            refine lv_istore_n (lv' := [(3, .int 0), (2, .int q4.1), (0, .ref (gad G 130)), (1, .int x1)]) hx hb dX9_next_151 rfl hl (by decide) rfl (fun ls hl => ?_)
            exact w_X9_next_152 F hr hlk fu x1 0 _ _ _ _ S (lv_sub hl [2, 3, 0] rfl) hz
        · have hz := ipf (c10) hz
          exact w_X9_next_67 F hr hlk fu x1 _ _ _ _ S (lv_sub hl [1, 2] rfl) hz
      · have hz := ipt (c6) hz
        refine lv_aload_n hx hb dX9_next_47 rfl (lv_at hl 1 rfl) ?_
        refine lv_iconst (v := 0) hx hb dX9_next_48 (by decide) ?_
        refine fp_X9_6 (v := 0) hx hb (fun q h => hg q (tl_X9 q h)) hown (hg _ t_fl_X9_97) S (by decide) dX9_next_49 (fun H locs S => ?_)
        refine lv_aload_n hx hb dX9_next_52 rfl (lv_at hl 1 rfl) ?_
        refine lv_iload_n hx hb dX9_next_53 rfl (lv_at hl 2 rfl) ?_
        refine fp_X9_5 (v := x1) hx hb (fun q h => hg q (tl_X9 q h)) hown (hg _ t_fl_X9_81) S (by decide) dX9_next_54 (fun H locs S => ?_)
        refine lv_goto (tgt := 247) hx hb dX9_next_57 (by decide) ?_
        exact g_retv hx hb hr hlk S hz dX9_next_247
    · have hz := ipt (c3) hz
      refine lv_iinc (v := (x1 + 1)) (lv' := [(1, .int (x1 + 1)), (0, .ref (gad G 130))]) hx hb dX9_next_15 hl (k := 1) rfl rfl (by decide) rfl (fun ls hl => ?_)
      refine lv_goto (tgt := 5) hx hb dX9_next_18 (by decide) ?_
      exact ih (x1 + 1)  _ _ _ _ S (lv_sub hl [1, 0] rfl) hz
set_option maxHeartbeats 4000000 in
set_option maxRecDepth 100000 in
theorem c_X9_next (l : Launch) (G : GG)   (w : GW) {z : Unit × GW} (hz : f_X9_next  w = some z) : Met l yX9_next (wsU yX9_next cX9_next 4 none) rm_X9_next (va_Pc [.ref (gad G 130)] (PreG G w)) (QV G z) 0 0 (gA G) := by
  refine Met.ofW (cc := cX9_next) (maxL := 4) (ret := none) (by decide) rfl ?_
  intro p e s m args below meth c s₁ B hml hv
  obtain ⟨rfl, S⟩ := hv
  have F : CallFix p m c cX9_next 4 s _ (wsU yX9_next cX9_next 4 none) RX9 := ⟨B.exec, B.bytes, hml, findClass_of_methodNamed B.named, atoms_spec B.pre⟩
  have hr := B.returns
  have hlk := B.notSynchronized
  obtain ⟨hx, hb, -, hown, hts⟩ := id F
  have hg : ∀ q ∈ lwg, q.before _ s = true := fun q h => hts q (List.mem_cons_of_mem _ h)
  refine g_entry (Nat.le_of_ble_eq_true rfl) (fun ls hl => ?_)
  have hl : lv_has ls 4 [(0, .ref (gad G 130))] := hl
  have S : St G w s s.heap [] := S
  generalize s.heap = H at S ⊢
  generalize ([] : List Loc) = locs at S ⊢
  rw [f_X9_next] at hz
  refine lv_aload_n hx hb dX9_next_0 rfl (lv_at hl 0 rfl) ?_
  refine fg_X9_5 hx hb (fun q h => hg q (tl_X9 q h)) hown (hg _ t_fl_X9_81) S (by decide) dX9_next_1 ?_
  refine lv_istore_n (lv' := [(1, .int (gI w 130 5)), (0, .ref (gad G 130))]) hx hb dX9_next_4 rfl hl (by decide) rfl (fun ls hl => ?_)
  exact w_X9_next_5 F hr hlk fu (gI w 130 5) _ _ _ _ S (lv_sub hl [1, 0] rfl) hz
noncomputable def f_X9_wrong (x1 : Int32) (x2 : Int32) (w : GW) : Option (Unit × GW) :=
  if (gI w 130 13) = 0 then
    some ((), (sI (sI (sI w 130 13 1) 130 9 x1) 130 10 x2))
  else
    some ((), w)
set_option maxHeartbeats 4000000 in
set_option maxRecDepth 100000 in
theorem c_X9_wrong (l : Launch) (G : GG) (x1 : Int32) (x2 : Int32)  (w : GW) {z : Unit × GW} (hz : f_X9_wrong x1 x2 w = some z) : Met l yX9_wrong (wsU yX9_wrong cX9_wrong 3 none) rm_X9_wrong (va_Pc [.ref (gad G 130), .int x1, .int x2] (PreG G w)) (QV G z) 0 0 (gA G) := by
  refine Met.ofW (cc := cX9_wrong) (maxL := 3) (ret := none) (by decide) rfl ?_
  intro p e s m args below meth c s₁ B hml hv
  obtain ⟨rfl, S⟩ := hv
  have F : CallFix p m c cX9_wrong 3 s _ (wsU yX9_wrong cX9_wrong 3 none) RX9 := ⟨B.exec, B.bytes, hml, findClass_of_methodNamed B.named, atoms_spec B.pre⟩
  have hr := B.returns
  have hlk := B.notSynchronized
  obtain ⟨hx, hb, -, hown, hts⟩ := id F
  have hg : ∀ q ∈ lwg, q.before _ s = true := fun q h => hts q (List.mem_cons_of_mem _ h)
  refine g_entry (Nat.le_of_ble_eq_true rfl) (fun ls hl => ?_)
  have hl : lv_has ls 3 [(0, .ref (gad G 130)), (1, .int x1), (2, .int x2)] := hl
  have S : St G w s s.heap [] := S
  generalize s.heap = H at S ⊢
  generalize ([] : List Loc) = locs at S ⊢
  rw [f_X9_wrong] at hz
  refine lv_aload_n hx hb dX9_wrong_0 rfl (lv_at hl 0 rfl) ?_
  refine fg_X9_13 hx hb (fun q h => hg q (tl_X9 q h)) hown (hg _ t_fl_X9_107) S (by decide) dX9_wrong_1 ?_
  refine lv_if_eq (tgt := 8) hx hb dX9_wrong_4 (by decide) (fun c1 => ?_) (fun c1 => ?_)
  · have hz := ipt (c1) hz
    refine lv_aload_n hx hb dX9_wrong_8 rfl (lv_at hl 0 rfl) ?_
    refine lv_iconst (v := 1) hx hb dX9_wrong_9 (by decide) ?_
    refine fp_X9_13 (v := 1) hx hb (fun q h => hg q (tl_X9 q h)) hown (hg _ t_fl_X9_107) S (by decide) isB_1 dX9_wrong_10 (fun H locs S => ?_)
    refine lv_aload_n hx hb dX9_wrong_13 rfl (lv_at hl 0 rfl) ?_
    refine lv_iload_n hx hb dX9_wrong_14 rfl (lv_at hl 1 rfl) ?_
    refine fp_X9_9 (v := x1) hx hb (fun q h => hg q (tl_X9 q h)) hown (hg _ t_fl_X9_111) S (by decide) dX9_wrong_15 (fun H locs S => ?_)
    refine lv_aload_n hx hb dX9_wrong_18 rfl (lv_at hl 0 rfl) ?_
    refine lv_iload_n hx hb dX9_wrong_19 rfl (lv_at hl 2 rfl) ?_
    refine fp_X9_10 (v := x2) hx hb (fun q h => hg q (tl_X9 q h)) hown (hg _ t_fl_X9_13) S (by decide) dX9_wrong_20 (fun H locs S => ?_)
    exact g_retv hx hb hr hlk S hz dX9_wrong_23
  · have hz := ipf (c1) hz
    exact g_retv hx hb hr hlk S hz dX9_wrong_7
noncomputable def f_X9_isWord_63 (k_32 : Nat → Int32 → Int32 → GW → Option (Int32 × GW)) (u1 : Nat) (x3 : Int32) (t0 : Int32) (w : GW) : Option (Int32 × GW) :=
  k_32 u1 t0 (x3 + 1) w
noncomputable def f_X9_isWord_62 (k_32 : Nat → Int32 → Int32 → GW → Option (Int32 × GW)) (u1 : Nat) (x3 : Int32) (w : GW) : Option (Int32 × GW) :=
  f_X9_isWord_63 k_32 u1 x3 0 w
noncomputable def f_X9_isWord_32  : Nat → Nat → Int32 → Int32 → GW → Option (Int32 × GW)
  | 0, _, _, _, _ => none
  | n9 + 1, u1, x2, x3, w =>
    if (gI w 130 8) ≤ x3 then
      some (x2, w)
    else
      if x2 = 0 then
        f_X9_isWord_62 (f_X9_isWord_32 n9) u1 x3 w
      else
        if inb x3 8 then
        if inb x3 (sLen u1) then
        if (gI w 132 (ix x3)) = (sCh u1 (ix x3)) then
          f_X9_isWord_63 (f_X9_isWord_32 n9) u1 x3 1 w
        else
          f_X9_isWord_62 (f_X9_isWord_32 n9) u1 x3 w
        else none
        else none
noncomputable def f_X9_isWord (u1 : Nat) (w : GW) : Option (Int32 × GW) :=
  if (gI w 130 13) = 0 then
    if (gI w 130 6) = 2 then
      if (gI w 130 8) = (Int32.ofNat (sLen u1)) then
        f_X9_isWord_32 fu u1 1 0 w
      else
        some (0, w)
    else
      some (0, w)
  else
    some (0, w)
set_option maxHeartbeats 4000000 in
set_option maxRecDepth 100000 in
theorem w_X9_isWord_63 {p : Program} {l : Launch} {e : Env} {s : State} {m : MethodId} {args : Array Value} {below : List Frame} {meth : Method} {c : Code} {G : GG} (F : CallFix p m c cX9_isWord 4 s args (wsU yX9_isWord cX9_isWord 4 (some .boolean)) RX9) (hr : meth.sig.returnType = (some .boolean)) (hlk : meth.locks = false) {z : Int32 × GW} {k_32 : Nat → Int32 → Int32 → GW → Option (Int32 × GW)} (Hk_32 : (∀ (u1 : Nat) (x2 : Int32) (x3 : Int32) (hu1 : u1 < 34) (hB2 : isB x2) (w : GW) (H : Heap) (locs : List Loc) (ls : Array Slot), St G w s H locs → lv_has ls 4 [(0, .ref (gad G 130)), (1, .ref (gK G u1)), (2, .int x2), (3, .int x3)] → k_32 u1 x2 x3 w = some z → W p l e (headSpec (wsU yX9_isWord cX9_isWord 4 (some .boolean)) rm_X9_isWord).room s m args below meth c H locs 0 0 (MQ below (QB G z) args s 0 0 (gA G)) (F0 m 32 ls []))) : (∀ (u1 : Nat) (x3 : Int32) (t0 : Int32) (hu1 : u1 < 34) (hBt0 : isB t0) (w : GW) (H : Heap) (locs : List Loc) (ls : Array Slot), St G w s H locs → lv_has ls 4 [(0, .ref (gad G 130)), (1, .ref (gK G u1)), (3, .int x3)] → f_X9_isWord_63 k_32 u1 x3 t0 w = some z → W p l e (headSpec (wsU yX9_isWord cX9_isWord 4 (some .boolean)) rm_X9_isWord).room s m args below meth c H locs 0 0 (MQ below (QB G z) args s 0 0 (gA G)) (F0 m 63 ls [.int t0])) := by
  obtain ⟨hx, hb, hml, hown, hts⟩ := id F
  have hg : ∀ q ∈ lwg, q.before args s = true := fun q h => hts q (List.mem_cons_of_mem _ h)
  intro u1 x3 t0 hu1 hBt0 w H locs ls S hl hz
  rw [f_X9_isWord_63] at hz
  refine lv_istore_n (lv' := [(2, .int t0), (0, .ref (gad G 130)), (1, .ref (gK G u1)), (3, .int x3)]) hx hb dX9_isWord_63 rfl hl (by decide) rfl (fun ls hl => ?_)
  refine lv_iinc (v := (x3 + 1)) (lv' := [(3, .int (x3 + 1)), (2, .int t0), (0, .ref (gad G 130)), (1, .ref (gK G u1))]) hx hb dX9_isWord_64 hl (k := 3) rfl rfl (by decide) rfl (fun ls hl => ?_)
  refine lv_goto (tgt := 32) hx hb dX9_isWord_67 (by decide) ?_
  exact Hk_32 u1 t0 (x3 + 1) hu1 hBt0 _ _ _ _ S (lv_sub hl [2, 3, 1, 0] rfl) hz
set_option maxHeartbeats 4000000 in
set_option maxRecDepth 100000 in
theorem w_X9_isWord_62 {p : Program} {l : Launch} {e : Env} {s : State} {m : MethodId} {args : Array Value} {below : List Frame} {meth : Method} {c : Code} {G : GG} (F : CallFix p m c cX9_isWord 4 s args (wsU yX9_isWord cX9_isWord 4 (some .boolean)) RX9) (hr : meth.sig.returnType = (some .boolean)) (hlk : meth.locks = false) {z : Int32 × GW} {k_32 : Nat → Int32 → Int32 → GW → Option (Int32 × GW)} (Hk_32 : (∀ (u1 : Nat) (x2 : Int32) (x3 : Int32) (hu1 : u1 < 34) (hB2 : isB x2) (w : GW) (H : Heap) (locs : List Loc) (ls : Array Slot), St G w s H locs → lv_has ls 4 [(0, .ref (gad G 130)), (1, .ref (gK G u1)), (2, .int x2), (3, .int x3)] → k_32 u1 x2 x3 w = some z → W p l e (headSpec (wsU yX9_isWord cX9_isWord 4 (some .boolean)) rm_X9_isWord).room s m args below meth c H locs 0 0 (MQ below (QB G z) args s 0 0 (gA G)) (F0 m 32 ls []))) : (∀ (u1 : Nat) (x3 : Int32) (hu1 : u1 < 34) (w : GW) (H : Heap) (locs : List Loc) (ls : Array Slot), St G w s H locs → lv_has ls 4 [(0, .ref (gad G 130)), (1, .ref (gK G u1)), (3, .int x3)] → f_X9_isWord_62 k_32 u1 x3 w = some z → W p l e (headSpec (wsU yX9_isWord cX9_isWord 4 (some .boolean)) rm_X9_isWord).room s m args below meth c H locs 0 0 (MQ below (QB G z) args s 0 0 (gA G)) (F0 m 62 ls [])) := by
  obtain ⟨hx, hb, hml, hown, hts⟩ := id F
  have hg : ∀ q ∈ lwg, q.before args s = true := fun q h => hts q (List.mem_cons_of_mem _ h)
  intro u1 x3 hu1 w H locs ls S hl hz
  rw [f_X9_isWord_62] at hz
  refine lv_iconst (v := 0) hx hb dX9_isWord_62 (by decide) ?_
  exact w_X9_isWord_63 F hr hlk Hk_32 u1 x3 0 hu1 isB_0 _ _ _ _ S (lv_sub hl [0, 1, 2] rfl) hz
set_option maxHeartbeats 4000000 in
set_option maxRecDepth 100000 in
theorem w_X9_isWord_32 {p : Program} {l : Launch} {e : Env} {s : State} {m : MethodId} {args : Array Value} {below : List Frame} {meth : Method} {c : Code} {G : GG} (F : CallFix p m c cX9_isWord 4 s args (wsU yX9_isWord cX9_isWord 4 (some .boolean)) RX9) (hr : meth.sig.returnType = (some .boolean)) (hlk : meth.locks = false) {z : Int32 × GW} : ∀ (n9 : Nat), (∀ (u1 : Nat) (x2 : Int32) (x3 : Int32) (hu1 : u1 < 34) (hB2 : isB x2) (w : GW) (H : Heap) (locs : List Loc) (ls : Array Slot), St G w s H locs → lv_has ls 4 [(0, .ref (gad G 130)), (1, .ref (gK G u1)), (2, .int x2), (3, .int x3)] → f_X9_isWord_32 n9 u1 x2 x3 w = some z → W p l e (headSpec (wsU yX9_isWord cX9_isWord 4 (some .boolean)) rm_X9_isWord).room s m args below meth c H locs 0 0 (MQ below (QB G z) args s 0 0 (gA G)) (F0 m 32 ls [])) := by
  obtain ⟨hx, hb, hml, hown, hts⟩ := id F
  have hg : ∀ q ∈ lwg, q.before args s = true := fun q h => hts q (List.mem_cons_of_mem _ h)
  intro n9
  induction n9 with
  | zero =>
    intro u1 x2 x3 hu1 hB2 w H locs ls S hl hz
    rw [f_X9_isWord_32] at hz
    cases hz
  | succ n9 ih =>
    intro u1 x2 x3 hu1 hB2 w H locs ls S hl hz
    rw [f_X9_isWord_32] at hz
    refine lv_iload_n hx hb dX9_isWord_32 rfl (lv_at hl 3 rfl) ?_
    refine lv_aload_n hx hb dX9_isWord_33 rfl (lv_at hl 0 rfl) ?_
    refine fg_X9_8 hx hb (fun q h => hg q (tl_X9 q h)) hown (hg _ t_fl_X9_91) S (by decide) dX9_isWord_34 ?_
    refine lv_icmp_ge (tgt := 70) hx hb dX9_isWord_37 (by decide) (fun c4 => ?_) (fun c4 => ?_)
    · have hz := ipt (c4) hz
      refine lv_iload_n hx hb dX9_isWord_70 rfl (lv_at hl 2 rfl) ?_
      exact g_retb hx hb hr hlk S hB2 hz dX9_isWord_71
    · have hz := ipf (c4) hz
      refine lv_iload_n hx hb dX9_isWord_40 rfl (lv_at hl 2 rfl) ?_
      refine lv_if_eq (tgt := 62) hx hb dX9_isWord_41 (by decide) (fun c5 => ?_) (fun c5 => ?_)
      · have hz := ipt (c5) hz
        exact w_X9_isWord_62 F hr hlk ih u1 x3 hu1 _ _ _ _ S (lv_sub hl [0, 1, 3] rfl) hz
      · have hz := ipf (c5) hz
        refine lv_aload_n hx hb dX9_isWord_44 rfl (lv_at hl 0 rfl) ?_
        refine fg_X9_12 hx hb (fun q h => hg q (tl_X9 q h)) hown (hg _ t_fl_X9_17) S (by decide) dX9_isWord_45 ?_
        refine lv_iload_n hx hb dX9_isWord_48 rfl (lv_at hl 3 rfl) ?_
        obtain ⟨h6, hz⟩ := ck hz
        refine g_iald hx hb S (isA_14 (by decide)) h6 dX9_isWord_49 ?_
        refine lv_aload_n hx hb dX9_isWord_50 rfl (lv_at hl 1 rfl) ?_
        refine lv_iload_n hx hb dX9_isWord_51 rfl (lv_at hl 3 rfl) ?_
        obtain ⟨h7, hz⟩ := ck hz
        refine g_callVi (As := [.int x3]) (rest := [.int (gI w 132 (ix x3))]) F S (c_schar l G u1 x3 hu1 h7 w) (cw_X9_isWord_J0_charAt_5068e_120 hg) (S.str hu1) rfl hl.1 rfl (Nat.le_of_ble_eq_true rfl) ⟨Nat.zero_le _, Nat.zero_le _⟩ dX9_isWord_52 (fun H locs S => ?_)
        refine lv_icmp_ne (tgt := 62) hx hb dX9_isWord_55 (by decide) (fun c8 => ?_) (fun c8 => ?_)
        · have hz := ipf (c8) hz
          exact w_X9_isWord_62 F hr hlk ih u1 x3 hu1 _ _ _ _ S (lv_sub hl [0, 1, 3] rfl) hz
        · have hz := ipt (c8) hz
          refine lv_iconst (v := 1) hx hb dX9_isWord_58 (by decide) ?_
          refine lv_goto (tgt := 63) hx hb dX9_isWord_59 (by decide) ?_
          exact w_X9_isWord_63 F hr hlk ih u1 x3 1 hu1 isB_1 _ _ _ _ S (lv_sub hl [0, 1, 3] rfl) hz
set_option maxHeartbeats 4000000 in
set_option maxRecDepth 100000 in
theorem c_X9_isWord (l : Launch) (G : GG) (u1 : Nat) (hu1 : u1 < 34) (w : GW) {z : Int32 × GW} (hz : f_X9_isWord u1 w = some z) : Met l yX9_isWord (wsU yX9_isWord cX9_isWord 4 (some .boolean)) rm_X9_isWord (va_Pc [.ref (gad G 130), .ref (gK G u1)] (PreG G w)) (QB G z) 0 0 (gA G) := by
  refine Met.ofW (cc := cX9_isWord) (maxL := 4) (ret := (some .boolean)) (by decide) rfl ?_
  intro p e s m args below meth c s₁ B hml hv
  obtain ⟨rfl, S⟩ := hv
  have F : CallFix p m c cX9_isWord 4 s _ (wsU yX9_isWord cX9_isWord 4 (some .boolean)) RX9 := ⟨B.exec, B.bytes, hml, findClass_of_methodNamed B.named, atoms_spec B.pre⟩
  have hr := B.returns
  have hlk := B.notSynchronized
  obtain ⟨hx, hb, -, hown, hts⟩ := id F
  have hg : ∀ q ∈ lwg, q.before _ s = true := fun q h => hts q (List.mem_cons_of_mem _ h)
  refine g_entry (Nat.le_of_ble_eq_true rfl) (fun ls hl => ?_)
  have hl : lv_has ls 4 [(0, .ref (gad G 130)), (1, .ref (gK G u1))] := hl
  have S : St G w s s.heap [] := S
  generalize s.heap = H at S ⊢
  generalize ([] : List Loc) = locs at S ⊢
  rw [f_X9_isWord] at hz
  refine lv_aload_n hx hb dX9_isWord_0 rfl (lv_at hl 0 rfl) ?_
  refine fg_X9_13 hx hb (fun q h => hg q (tl_X9 q h)) hown (hg _ t_fl_X9_107) S (by decide) dX9_isWord_1 ?_
  refine lv_if_ne (tgt := 26) hx hb dX9_isWord_4 (by decide) (fun c1 => ?_) (fun c1 => ?_)
  · have hz := ipf (c1) hz
    refine lv_iconst (v := 0) hx hb dX9_isWord_26 (by decide) ?_
    exact g_retb hx hb hr hlk S isB_0 hz dX9_isWord_27
  · have hz := ipt (c1) hz
    refine lv_aload_n hx hb dX9_isWord_7 rfl (lv_at hl 0 rfl) ?_
    refine fg_X9_6 hx hb (fun q h => hg q (tl_X9 q h)) hown (hg _ t_fl_X9_97) S (by decide) dX9_isWord_8 ?_
    refine lv_iconst (v := 2) hx hb dX9_isWord_11 (by decide) ?_
    refine lv_icmp_ne (tgt := 26) hx hb dX9_isWord_12 (by decide) (fun c2 => ?_) (fun c2 => ?_)
    · have hz := ipf (c2) hz
      refine lv_iconst (v := 0) hx hb dX9_isWord_26 (by decide) ?_
      exact g_retb hx hb hr hlk S isB_0 hz dX9_isWord_27
    · have hz := ipt (c2) hz
      refine lv_aload_n hx hb dX9_isWord_15 rfl (lv_at hl 0 rfl) ?_
      refine fg_X9_8 hx hb (fun q h => hg q (tl_X9 q h)) hown (hg _ t_fl_X9_91) S (by decide) dX9_isWord_16 ?_
      refine lv_aload_n hx hb dX9_isWord_19 rfl (lv_at hl 1 rfl) ?_
      refine g_callVi (As := []) (rest := [.int (gI w 130 8)]) F S (c_slen l G u1 hu1 w) (cw_X9_isWord_J0_length_8abf5_114 hg) (S.str hu1) rfl hl.1 rfl (Nat.le_of_ble_eq_true rfl) ⟨Nat.zero_le _, Nat.zero_le _⟩ dX9_isWord_20 (fun H locs S => ?_)
      refine lv_icmp_eq (tgt := 28) hx hb dX9_isWord_23 (by decide) (fun c3 => ?_) (fun c3 => ?_)
      · have hz := ipt (c3) hz
        refine lv_iconst (v := 1) hx hb dX9_isWord_28 (by decide) ?_
        refine lv_istore_n (lv' := [(2, .int 1), (0, .ref (gad G 130)), (1, .ref (gK G u1))]) hx hb dX9_isWord_29 rfl hl (by decide) rfl (fun ls hl => ?_)
        refine lv_iconst (v := 0) hx hb dX9_isWord_30 (by decide) ?_
        refine lv_istore_n (lv' := [(3, .int 0), (2, .int 1), (0, .ref (gad G 130)), (1, .ref (gK G u1))]) hx hb dX9_isWord_31 rfl hl (by decide) rfl (fun ls hl => ?_)
        exact w_X9_isWord_32 F hr hlk fu u1 1 0 hu1 isB_1 _ _ _ _ S (lv_sub hl [2, 3, 1, 0] rfl) hz
      · have hz := ipf (c3) hz
        refine lv_iconst (v := 0) hx hb dX9_isWord_26 (by decide) ?_
        exact g_retb hx hb hr hlk S isB_0 hz dX9_isWord_27
noncomputable def f_X9_takes (u1 : Nat) (w : GW) : Option (Int32 × GW) :=
  (f_X9_isWord u1 w).bind fun q1 =>
  if q1.1 = 0 then
    some (0, q1.2)
  else
    (f_X9_next q1.2).bind fun q5 =>
    some (1, q5.2)
set_option maxHeartbeats 4000000 in
set_option maxRecDepth 100000 in
theorem c_X9_takes (l : Launch) (G : GG) (u1 : Nat) (hu1 : u1 < 34) (w : GW) {z : Int32 × GW} (hz : f_X9_takes u1 w = some z) : Met l yX9_takes (wsU yX9_takes cX9_takes 2 (some .boolean)) rm_X9_takes (va_Pc [.ref (gad G 130), .ref (gK G u1)] (PreG G w)) (QB G z) 0 0 (gA G) := by
  refine Met.ofW (cc := cX9_takes) (maxL := 2) (ret := (some .boolean)) (by decide) rfl ?_
  intro p e s m args below meth c s₁ B hml hv
  obtain ⟨rfl, S⟩ := hv
  have F : CallFix p m c cX9_takes 2 s _ (wsU yX9_takes cX9_takes 2 (some .boolean)) RX9 := ⟨B.exec, B.bytes, hml, findClass_of_methodNamed B.named, atoms_spec B.pre⟩
  have hr := B.returns
  have hlk := B.notSynchronized
  obtain ⟨hx, hb, -, hown, hts⟩ := id F
  have hg : ∀ q ∈ lwg, q.before _ s = true := fun q h => hts q (List.mem_cons_of_mem _ h)
  refine g_entry (Nat.le_of_ble_eq_true rfl) (fun ls hl => ?_)
  have hl : lv_has ls 2 [(0, .ref (gad G 130)), (1, .ref (gK G u1))] := hl
  have S : St G w s s.heap [] := S
  generalize s.heap = H at S ⊢
  generalize ([] : List Loc) = locs at S ⊢
  rw [f_X9_takes] at hz
  refine lv_aload_n hx hb dX9_takes_0 rfl (lv_at hl 0 rfl) ?_
  refine lv_aload_n hx hb dX9_takes_1 rfl (lv_at hl 1 rfl) ?_
  obtain ⟨q1, e2, hz⟩ := bd hz
  refine g_callVb (As := [.ref (gK G u1)]) (rest := []) F S (c_X9_isWord l G u1 hu1 _ e2) (cw_X9_takes_X9_isWord_124 hg) (S.obj (by decide) (by decide) rfl (oc_X9 _ _ _ (by decide))) rfl hl.1 rfl (Nat.le_of_ble_eq_true rfl) ⟨Nat.zero_le _, Nat.zero_le _⟩ dX9_takes_2 (fun H locs hB3 S => ?_)
  refine lv_if_ne (tgt := 10) hx hb dX9_takes_5 (by decide) (fun c4 => ?_) (fun c4 => ?_)
  · have hz := ipf (c4) hz
    refine lv_aload_n hx hb dX9_takes_10 rfl (lv_at hl 0 rfl) ?_
    obtain ⟨q5, e6, hz⟩ := bd hz
    refine g_callVv (As := []) (rest := []) F S (c_X9_next l G   _ e6) (cw_X9_takes_X9_next_128 hg) (S.obj (by decide) (by decide) rfl (oc_X9 _ _ _ (by decide))) rfl hl.1 rfl (Nat.le_of_ble_eq_true rfl) ⟨Nat.zero_le _, Nat.zero_le _⟩ dX9_takes_11 (fun H locs  S => ?_)
    refine lv_iconst (v := 1) hx hb dX9_takes_14 (by decide) ?_
    exact g_retb hx hb hr hlk S isB_1 hz dX9_takes_15
  · have hz := ipt (c4) hz
    refine lv_iconst (v := 0) hx hb dX9_takes_8 (by decide) ?_
    exact g_retb hx hb hr hlk S isB_0 hz dX9_takes_9
noncomputable def f_X9_must (u1 : Nat) (w : GW) : Option (Unit × GW) :=
  if (gI w 130 13) = 0 then
    (f_X9_takes u1 w).bind fun q2 =>
    if q2.1 = 0 then
      (f_X9_wrong 1 (gI q2.2 130 4) q2.2).bind fun q6 =>
      some ((), q6.2)
    else
      some ((), q2.2)
  else
    some ((), w)
set_option maxHeartbeats 4000000 in
set_option maxRecDepth 100000 in
theorem c_X9_must (l : Launch) (G : GG) (u1 : Nat) (hu1 : u1 < 34) (w : GW) {z : Unit × GW} (hz : f_X9_must u1 w = some z) : Met l yX9_must (wsU yX9_must cX9_must 2 none) rm_X9_must (va_Pc [.ref (gad G 130), .ref (gK G u1)] (PreG G w)) (QV G z) 0 0 (gA G) := by
  refine Met.ofW (cc := cX9_must) (maxL := 2) (ret := none) (by decide) rfl ?_
  intro p e s m args below meth c s₁ B hml hv
  obtain ⟨rfl, S⟩ := hv
  have F : CallFix p m c cX9_must 2 s _ (wsU yX9_must cX9_must 2 none) RX9 := ⟨B.exec, B.bytes, hml, findClass_of_methodNamed B.named, atoms_spec B.pre⟩
  have hr := B.returns
  have hlk := B.notSynchronized
  obtain ⟨hx, hb, -, hown, hts⟩ := id F
  have hg : ∀ q ∈ lwg, q.before _ s = true := fun q h => hts q (List.mem_cons_of_mem _ h)
  refine g_entry (Nat.le_of_ble_eq_true rfl) (fun ls hl => ?_)
  have hl : lv_has ls 2 [(0, .ref (gad G 130)), (1, .ref (gK G u1))] := hl
  have S : St G w s s.heap [] := S
  generalize s.heap = H at S ⊢
  generalize ([] : List Loc) = locs at S ⊢
  rw [f_X9_must] at hz
  refine lv_aload_n hx hb dX9_must_0 rfl (lv_at hl 0 rfl) ?_
  refine fg_X9_13 hx hb (fun q h => hg q (tl_X9 q h)) hown (hg _ t_fl_X9_107) S (by decide) dX9_must_1 ?_
  refine lv_if_ne (tgt := 24) hx hb dX9_must_4 (by decide) (fun c1 => ?_) (fun c1 => ?_)
  · have hz := ipf (c1) hz
    exact g_retv hx hb hr hlk S hz dX9_must_24
  · have hz := ipt (c1) hz
    refine lv_aload_n hx hb dX9_must_7 rfl (lv_at hl 0 rfl) ?_
    refine lv_aload_n hx hb dX9_must_8 rfl (lv_at hl 1 rfl) ?_
    obtain ⟨q2, e3, hz⟩ := bd hz
    refine g_callVb (As := [.ref (gK G u1)]) (rest := []) F S (c_X9_takes l G u1 hu1 _ e3) (cw_X9_must_X9_takes_131 hg) (S.obj (by decide) (by decide) rfl (oc_X9 _ _ _ (by decide))) rfl hl.1 rfl (Nat.le_of_ble_eq_true rfl) ⟨Nat.zero_le _, Nat.zero_le _⟩ dX9_must_9 (fun H locs hB4 S => ?_)
    refine lv_if_ne (tgt := 24) hx hb dX9_must_12 (by decide) (fun c5 => ?_) (fun c5 => ?_)
    · have hz := ipf (c5) hz
      exact g_retv hx hb hr hlk S hz dX9_must_24
    · have hz := ipt (c5) hz
      refine lv_aload_n hx hb dX9_must_15 rfl (lv_at hl 0 rfl) ?_
      refine lv_iconst (v := 1) hx hb dX9_must_16 (by decide) ?_
      refine lv_aload_n hx hb dX9_must_17 rfl (lv_at hl 0 rfl) ?_
      refine fg_X9_4 hx hb (fun q h => hg q (tl_X9 q h)) hown (hg _ t_fl_X9_88) S (by decide) dX9_must_18 ?_
      obtain ⟨q6, e7, hz⟩ := bd hz
      refine g_callVv (As := [.int 1, .int (gI q2.2 130 4)]) (rest := []) F S (c_X9_wrong l G 1 (gI q2.2 130 4)  _ e7) (cw_X9_must_X9_wrong_134 hg) (S.obj (by decide) (by decide) rfl (oc_X9 _ _ _ (by decide))) rfl hl.1 rfl (Nat.le_of_ble_eq_true rfl) ⟨Nat.zero_le _, Nat.zero_le _⟩ dX9_must_21 (fun H locs  S => ?_)
      exact g_retv hx hb hr hlk S hz dX9_must_24
noncomputable def f_X9_number (x1 : Int32) (x2 : Int32) (w : GW) : Option (Int32 × GW) :=
  if (gI w 130 13) = 0 then
    if (gI w 130 6) = 3 then
      (f_X9_within (gI w 130 7) x1 x2 w).bind fun q3 =>
      if q3.1 = 0 then
        (f_X9_wrong 4 (gI q3.2 130 4) q3.2).bind fun q9 =>
        some (x1, q9.2)
      else
        (f_X9_next q3.2).bind fun q7 =>
        some ((gI w 130 7), q7.2)
    else
      (f_X9_wrong 1 (gI w 130 4) w).bind fun q11 =>
      some (x1, q11.2)
  else
    some (x1, w)
set_option maxHeartbeats 4000000 in
set_option maxRecDepth 100000 in
theorem c_X9_number (l : Launch) (G : GG) (x1 : Int32) (x2 : Int32)  (w : GW) {z : Int32 × GW} (hz : f_X9_number x1 x2 w = some z) : Met l yX9_number (wsU yX9_number cX9_number 4 (some .int)) rm_X9_number (va_Pc [.ref (gad G 130), .int x1, .int x2] (PreG G w)) (QI G z) 0 0 (gA G) := by
  refine Met.ofW (cc := cX9_number) (maxL := 4) (ret := (some .int)) (by decide) rfl ?_
  intro p e s m args below meth c s₁ B hml hv
  obtain ⟨rfl, S⟩ := hv
  have F : CallFix p m c cX9_number 4 s _ (wsU yX9_number cX9_number 4 (some .int)) RX9 := ⟨B.exec, B.bytes, hml, findClass_of_methodNamed B.named, atoms_spec B.pre⟩
  have hr := B.returns
  have hlk := B.notSynchronized
  obtain ⟨hx, hb, -, hown, hts⟩ := id F
  have hg : ∀ q ∈ lwg, q.before _ s = true := fun q h => hts q (List.mem_cons_of_mem _ h)
  refine g_entry (Nat.le_of_ble_eq_true rfl) (fun ls hl => ?_)
  have hl : lv_has ls 4 [(0, .ref (gad G 130)), (1, .int x1), (2, .int x2)] := hl
  have S : St G w s s.heap [] := S
  generalize s.heap = H at S ⊢
  generalize ([] : List Loc) = locs at S ⊢
  rw [f_X9_number] at hz
  refine lv_aload_n hx hb dX9_number_0 rfl (lv_at hl 0 rfl) ?_
  refine fg_X9_13 hx hb (fun q h => hg q (tl_X9 q h)) hown (hg _ t_fl_X9_107) S (by decide) dX9_number_1 ?_
  refine lv_if_eq (tgt := 9) hx hb dX9_number_4 (by decide) (fun c1 => ?_) (fun c1 => ?_)
  · have hz := ipt (c1) hz
    refine lv_aload_n hx hb dX9_number_9 rfl (lv_at hl 0 rfl) ?_
    refine fg_X9_6 hx hb (fun q h => hg q (tl_X9 q h)) hown (hg _ t_fl_X9_97) S (by decide) dX9_number_10 ?_
    refine lv_iconst (v := 3) hx hb dX9_number_13 (by decide) ?_
    refine lv_icmp_eq (tgt := 28) hx hb dX9_number_14 (by decide) (fun c2 => ?_) (fun c2 => ?_)
    · have hz := ipt (c2) hz
      refine lv_aload_n hx hb dX9_number_28 rfl (lv_at hl 0 rfl) ?_
      refine fg_X9_7 hx hb (fun q h => hg q (tl_X9 q h)) hown (hg _ t_fl_X9_94) S (by decide) dX9_number_29 ?_
      refine lv_istore_n (lv' := [(3, .int (gI w 130 7)), (0, .ref (gad G 130)), (1, .int x1), (2, .int x2)]) hx hb dX9_number_32 rfl hl (by decide) rfl (fun ls hl => ?_)
      refine lv_iload_n hx hb dX9_number_33 rfl (lv_at hl 0 rfl) ?_
      refine lv_iload_n hx hb dX9_number_34 rfl (lv_at hl 2 rfl) ?_
      refine lv_iload_n hx hb dX9_number_35 rfl (lv_at hl 3 rfl) ?_
      obtain ⟨q3, e4, hz⟩ := bd hz
      refine g_callSb (As := [.int (gI w 130 7), .int x1, .int x2]) (rest := []) F S (c_X9_within l G (gI w 130 7) x1 x2  _ e4) (cw_X9_number_X9_within_138 hg) rfl hl.1 rfl (Nat.le_of_ble_eq_true rfl) ⟨Nat.zero_le _, Nat.zero_le _⟩ dX9_number_36 (fun H locs hB5 S => ?_)
      refine lv_if_ne (tgt := 53) hx hb dX9_number_39 (by decide) (fun c6 => ?_) (fun c6 => ?_)
      · have hz := ipf (c6) hz
        refine lv_aload_n hx hb dX9_number_53 rfl (lv_at hl 1 rfl) ?_
        obtain ⟨q7, e8, hz⟩ := bd hz
        refine g_callVv (As := []) (rest := []) F S (c_X9_next l G   _ e8) (cw_X9_number_X9_next_128 hg) (S.obj (by decide) (by decide) rfl (oc_X9 _ _ _ (by decide))) rfl hl.1 rfl (Nat.le_of_ble_eq_true rfl) ⟨Nat.zero_le _, Nat.zero_le _⟩ dX9_number_54 (fun H locs  S => ?_)
        refine lv_iload_n hx hb dX9_number_57 rfl (lv_at hl 0 rfl) ?_
        exact g_reti hx hb hr hlk S hz dX9_number_58
      · have hz := ipt (c6) hz
        refine lv_aload_n hx hb dX9_number_42 rfl (lv_at hl 1 rfl) ?_
        refine lv_iconst (v := 4) hx hb dX9_number_43 (by decide) ?_
        refine lv_aload_n hx hb dX9_number_44 rfl (lv_at hl 1 rfl) ?_
        refine fg_X9_4 hx hb (fun q h => hg q (tl_X9 q h)) hown (hg _ t_fl_X9_88) S (by decide) dX9_number_45 ?_
        obtain ⟨q9, e10, hz⟩ := bd hz
        refine g_callVv (As := [.int 4, .int (gI q3.2 130 4)]) (rest := []) F S (c_X9_wrong l G 4 (gI q3.2 130 4)  _ e10) (cw_X9_number_X9_wrong_134 hg) (S.obj (by decide) (by decide) rfl (oc_X9 _ _ _ (by decide))) rfl hl.1 rfl (Nat.le_of_ble_eq_true rfl) ⟨Nat.zero_le _, Nat.zero_le _⟩ dX9_number_48 (fun H locs  S => ?_)
        refine lv_iload_n hx hb dX9_number_51 rfl (lv_at hl 2 rfl) ?_
        exact g_reti hx hb hr hlk S hz dX9_number_52
    · have hz := ipf (c2) hz
      refine lv_aload_n hx hb dX9_number_17 rfl (lv_at hl 0 rfl) ?_
      refine lv_iconst (v := 1) hx hb dX9_number_18 (by decide) ?_
      refine lv_aload_n hx hb dX9_number_19 rfl (lv_at hl 0 rfl) ?_
      refine fg_X9_4 hx hb (fun q h => hg q (tl_X9 q h)) hown (hg _ t_fl_X9_88) S (by decide) dX9_number_20 ?_
      obtain ⟨q11, e12, hz⟩ := bd hz
      refine g_callVv (As := [.int 1, .int (gI w 130 4)]) (rest := []) F S (c_X9_wrong l G 1 (gI w 130 4)  _ e12) (cw_X9_number_X9_wrong_134 hg) (S.obj (by decide) (by decide) rfl (oc_X9 _ _ _ (by decide))) rfl hl.1 rfl (Nat.le_of_ble_eq_true rfl) ⟨Nat.zero_le _, Nat.zero_le _⟩ dX9_number_23 (fun H locs  S => ?_)
      refine lv_iload_n hx hb dX9_number_26 rfl (lv_at hl 1 rfl) ?_
      exact g_reti hx hb hr hlk S hz dX9_number_27
  · have hz := ipf (c1) hz
    refine lv_iload_n hx hb dX9_number_7 rfl (lv_at hl 1 rfl) ?_
    exact g_reti hx hb hr hlk S hz dX9_number_8
noncomputable def f_X9_told (u1 : Nat) (x2 : Int32) (x3 : Int32) (w : GW) : Option (Int32 × GW) :=
  (f_X9_must u1 w).bind fun q1 =>
  (f_X9_number x2 x3 q1.2).bind fun q3 =>
  some (q3.1, q3.2)
set_option maxHeartbeats 4000000 in
set_option maxRecDepth 100000 in
theorem c_X9_told (l : Launch) (G : GG) (u1 : Nat) (x2 : Int32) (x3 : Int32) (hu1 : u1 < 34) (w : GW) {z : Int32 × GW} (hz : f_X9_told u1 x2 x3 w = some z) : Met l yX9_told (wsU yX9_told cX9_told 4 (some .int)) rm_X9_told (va_Pc [.ref (gad G 130), .ref (gK G u1), .int x2, .int x3] (PreG G w)) (QI G z) 0 0 (gA G) := by
  refine Met.ofW (cc := cX9_told) (maxL := 4) (ret := (some .int)) (by decide) rfl ?_
  intro p e s m args below meth c s₁ B hml hv
  obtain ⟨rfl, S⟩ := hv
  have F : CallFix p m c cX9_told 4 s _ (wsU yX9_told cX9_told 4 (some .int)) RX9 := ⟨B.exec, B.bytes, hml, findClass_of_methodNamed B.named, atoms_spec B.pre⟩
  have hr := B.returns
  have hlk := B.notSynchronized
  obtain ⟨hx, hb, -, hown, hts⟩ := id F
  have hg : ∀ q ∈ lwg, q.before _ s = true := fun q h => hts q (List.mem_cons_of_mem _ h)
  refine g_entry (Nat.le_of_ble_eq_true rfl) (fun ls hl => ?_)
  have hl : lv_has ls 4 [(0, .ref (gad G 130)), (1, .ref (gK G u1)), (2, .int x2), (3, .int x3)] := hl
  have S : St G w s s.heap [] := S
  generalize s.heap = H at S ⊢
  generalize ([] : List Loc) = locs at S ⊢
  rw [f_X9_told] at hz
  refine lv_aload_n hx hb dX9_told_0 rfl (lv_at hl 0 rfl) ?_
  refine lv_aload_n hx hb dX9_told_1 rfl (lv_at hl 1 rfl) ?_
  obtain ⟨q1, e2, hz⟩ := bd hz
  refine g_callVv (As := [.ref (gK G u1)]) (rest := []) F S (c_X9_must l G u1 hu1 _ e2) (cw_X9_told_X9_must_142 hg) (S.obj (by decide) (by decide) rfl (oc_X9 _ _ _ (by decide))) rfl hl.1 rfl (Nat.le_of_ble_eq_true rfl) ⟨Nat.zero_le _, Nat.zero_le _⟩ dX9_told_2 (fun H locs  S => ?_)
  refine lv_aload_n hx hb dX9_told_5 rfl (lv_at hl 0 rfl) ?_
  refine lv_iload_n hx hb dX9_told_6 rfl (lv_at hl 2 rfl) ?_
  refine lv_iload_n hx hb dX9_told_7 rfl (lv_at hl 3 rfl) ?_
  obtain ⟨q3, e4, hz⟩ := bd hz
  refine g_callVi (As := [.int x2, .int x3]) (rest := []) F S (c_X9_number l G x2 x3  _ e4) (cw_X9_told_X9_number_146 hg) (S.obj (by decide) (by decide) rfl (oc_X9 _ _ _ (by decide))) rfl hl.1 rfl (Nat.le_of_ble_eq_true rfl) ⟨Nat.zero_le _, Nat.zero_le _⟩ dX9_told_8 (fun H locs  S => ?_)
  exact g_reti hx hb hr hlk S hz dX9_told_11
noncomputable def f_X9_begins_48   (w : GW) : Option (Int32 × GW) :=
  if (gI w 130 13) = 0 then
    (f_X9_next w).bind fun q8 =>
    some (1, q8.2)
  else
    some (1, w)
noncomputable def f_X9_begins_23  (x4 : Int32) (w : GW) : Option (Int32 × GW) :=
  if x4 = 0 then
    f_X9_begins_48 w
  else
    if inb 80 135 then
    if (gI w 134 (ix 80)) = 0 then
      (f_X9_wrong 6 (gI w 130 4) w).bind fun q12 =>
      f_X9_begins_48 q12.2
    else
      f_X9_begins_48 w
    else none
noncomputable def f_X9_begins (u1 : Nat) (x2 : Int32) (x3 : Int32) (x4 : Int32) (w : GW) : Option (Int32 × GW) :=
  (f_X9_isWord u1 w).bind fun q1 =>
  if q1.1 = 0 then
    some (0, q1.2)
  else
    if x2 = 0 then
      (f_X9_wrong x3 (gI q1.2 130 4) q1.2).bind fun q14 =>
      f_X9_begins_23 x4 q14.2
    else
      f_X9_begins_23 x4 q1.2
set_option maxHeartbeats 4000000 in
set_option maxRecDepth 100000 in
theorem w_X9_begins_48 {p : Program} {l : Launch} {e : Env} {s : State} {m : MethodId} {args : Array Value} {below : List Frame} {meth : Method} {c : Code} {G : GG} (F : CallFix p m c cX9_begins 5 s args (wsU yX9_begins cX9_begins 5 (some .boolean)) RX9) (hr : meth.sig.returnType = (some .boolean)) (hlk : meth.locks = false) {z : Int32 × GW} : (∀ (w : GW) (H : Heap) (locs : List Loc) (ls : Array Slot), St G w s H locs → lv_has ls 5 [(0, .ref (gad G 130))] → f_X9_begins_48  w = some z → W p l e (headSpec (wsU yX9_begins cX9_begins 5 (some .boolean)) rm_X9_begins).room s m args below meth c H locs 0 0 (MQ below (QB G z) args s 0 0 (gA G)) (F0 m 48 ls [])) := by
  obtain ⟨hx, hb, hml, hown, hts⟩ := id F
  have hg : ∀ q ∈ lwg, q.before args s = true := fun q h => hts q (List.mem_cons_of_mem _ h)
  intro w H locs ls S hl hz
  rw [f_X9_begins_48] at hz
  refine lv_aload_n hx hb dX9_begins_48 rfl (lv_at hl 0 rfl) ?_
  refine fg_X9_13 hx hb (fun q h => hg q (tl_X9 q h)) hown (hg _ t_fl_X9_107) S (by decide) dX9_begins_49 ?_
  refine lv_if_ne (tgt := 59) hx hb dX9_begins_52 (by decide) (fun c7 => ?_) (fun c7 => ?_)
  · have hz := ipf (c7) hz
    refine lv_iconst (v := 1) hx hb dX9_begins_59 (by decide) ?_
    exact g_retb hx hb hr hlk S isB_1 hz dX9_begins_60
  · have hz := ipt (c7) hz
    refine lv_aload_n hx hb dX9_begins_55 rfl (lv_at hl 0 rfl) ?_
    obtain ⟨q8, e9, hz⟩ := bd hz
    refine g_callVv (As := []) (rest := []) F S (c_X9_next l G   _ e9) (cw_X9_begins_X9_next_128 hg) (S.obj (by decide) (by decide) rfl (oc_X9 _ _ _ (by decide))) rfl hl.1 rfl (Nat.le_of_ble_eq_true rfl) ⟨Nat.zero_le _, Nat.zero_le _⟩ dX9_begins_56 (fun H locs  S => ?_)
    refine lv_iconst (v := 1) hx hb dX9_begins_59 (by decide) ?_
    exact g_retb hx hb hr hlk S isB_1 hz dX9_begins_60
set_option maxHeartbeats 4000000 in
set_option maxRecDepth 100000 in
theorem w_X9_begins_23 {p : Program} {l : Launch} {e : Env} {s : State} {m : MethodId} {args : Array Value} {below : List Frame} {meth : Method} {c : Code} {G : GG} (F : CallFix p m c cX9_begins 5 s args (wsU yX9_begins cX9_begins 5 (some .boolean)) RX9) (hr : meth.sig.returnType = (some .boolean)) (hlk : meth.locks = false) {z : Int32 × GW} : (∀ (x4 : Int32) (w : GW) (H : Heap) (locs : List Loc) (ls : Array Slot), St G w s H locs → lv_has ls 5 [(0, .ref (gad G 130)), (4, .int x4)] → f_X9_begins_23 x4 w = some z → W p l e (headSpec (wsU yX9_begins cX9_begins 5 (some .boolean)) rm_X9_begins).room s m args below meth c H locs 0 0 (MQ below (QB G z) args s 0 0 (gA G)) (F0 m 23 ls [])) := by
  obtain ⟨hx, hb, hml, hown, hts⟩ := id F
  have hg : ∀ q ∈ lwg, q.before args s = true := fun q h => hts q (List.mem_cons_of_mem _ h)
  intro x4 w H locs ls S hl hz
  rw [f_X9_begins_23] at hz
  refine lv_iload hx hb dX9_begins_23 (lv_at hl 1 rfl) ?_
  refine lv_if_eq (tgt := 48) hx hb dX9_begins_25 (by decide) (fun c6 => ?_) (fun c6 => ?_)
  · have hz := ipt (c6) hz
    exact w_X9_begins_48 F hr hlk _ _ _ _ S (lv_sub hl [0] rfl) hz
  · have hz := ipf (c6) hz
    refine lv_aload_n hx hb dX9_begins_28 rfl (lv_at hl 0 rfl) ?_
    refine fg_X9_16 hx hb (fun q h => hg q (tl_X9 q h)) hown (hg _ t_fl_X9_23) S (by decide) dX9_begins_29 ?_
    refine lv_bipush (v := 80) hx hb dX9_begins_32 (by decide) ?_
    obtain ⟨h10, hz⟩ := ck hz
    refine g_iald hx hb S (isA_15 (by decide)) h10 dX9_begins_34 ?_
    refine lv_if_ne (tgt := 48) hx hb dX9_begins_35 (by decide) (fun c11 => ?_) (fun c11 => ?_)
    · have hz := ipf (c11) hz
      exact w_X9_begins_48 F hr hlk _ _ _ _ S (lv_sub hl [0] rfl) hz
    · have hz := ipt (c11) hz
      refine lv_aload_n hx hb dX9_begins_38 rfl (lv_at hl 0 rfl) ?_
      refine lv_bipush (v := 6) hx hb dX9_begins_39 (by decide) ?_
      refine lv_aload_n hx hb dX9_begins_41 rfl (lv_at hl 0 rfl) ?_
      refine fg_X9_4 hx hb (fun q h => hg q (tl_X9 q h)) hown (hg _ t_fl_X9_88) S (by decide) dX9_begins_42 ?_
      obtain ⟨q12, e13, hz⟩ := bd hz
      refine g_callVv (As := [.int 6, .int (gI w 130 4)]) (rest := []) F S (c_X9_wrong l G 6 (gI w 130 4)  _ e13) (cw_X9_begins_X9_wrong_134 hg) (S.obj (by decide) (by decide) rfl (oc_X9 _ _ _ (by decide))) rfl hl.1 rfl (Nat.le_of_ble_eq_true rfl) ⟨Nat.zero_le _, Nat.zero_le _⟩ dX9_begins_45 (fun H locs  S => ?_)
      exact w_X9_begins_48 F hr hlk _ _ _ _ S (lv_sub hl [0] rfl) hz
set_option maxHeartbeats 4000000 in
set_option maxRecDepth 100000 in
theorem c_X9_begins (l : Launch) (G : GG) (u1 : Nat) (x2 : Int32) (x3 : Int32) (x4 : Int32) (hu1 : u1 < 34) (w : GW) {z : Int32 × GW} (hz : f_X9_begins u1 x2 x3 x4 w = some z) : Met l yX9_begins (wsU yX9_begins cX9_begins 5 (some .boolean)) rm_X9_begins (va_Pc [.ref (gad G 130), .ref (gK G u1), .int x2, .int x3, .int x4] (PreG G w)) (QB G z) 0 0 (gA G) := by
  refine Met.ofW (cc := cX9_begins) (maxL := 5) (ret := (some .boolean)) (by decide) rfl ?_
  intro p e s m args below meth c s₁ B hml hv
  obtain ⟨rfl, S⟩ := hv
  have F : CallFix p m c cX9_begins 5 s _ (wsU yX9_begins cX9_begins 5 (some .boolean)) RX9 := ⟨B.exec, B.bytes, hml, findClass_of_methodNamed B.named, atoms_spec B.pre⟩
  have hr := B.returns
  have hlk := B.notSynchronized
  obtain ⟨hx, hb, -, hown, hts⟩ := id F
  have hg : ∀ q ∈ lwg, q.before _ s = true := fun q h => hts q (List.mem_cons_of_mem _ h)
  refine g_entry (Nat.le_of_ble_eq_true rfl) (fun ls hl => ?_)
  have hl : lv_has ls 5 [(0, .ref (gad G 130)), (1, .ref (gK G u1)), (2, .int x2), (3, .int x3), (4, .int x4)] := hl
  have S : St G w s s.heap [] := S
  generalize s.heap = H at S ⊢
  generalize ([] : List Loc) = locs at S ⊢
  rw [f_X9_begins] at hz
  refine lv_aload_n hx hb dX9_begins_0 rfl (lv_at hl 0 rfl) ?_
  refine lv_aload_n hx hb dX9_begins_1 rfl (lv_at hl 1 rfl) ?_
  obtain ⟨q1, e2, hz⟩ := bd hz
  refine g_callVb (As := [.ref (gK G u1)]) (rest := []) F S (c_X9_isWord l G u1 hu1 _ e2) (cw_X9_begins_X9_isWord_124 hg) (S.obj (by decide) (by decide) rfl (oc_X9 _ _ _ (by decide))) rfl hl.1 rfl (Nat.le_of_ble_eq_true rfl) ⟨Nat.zero_le _, Nat.zero_le _⟩ dX9_begins_2 (fun H locs hB3 S => ?_)
  refine lv_if_ne (tgt := 10) hx hb dX9_begins_5 (by decide) (fun c4 => ?_) (fun c4 => ?_)
  · have hz := ipf (c4) hz
    refine lv_iload_n hx hb dX9_begins_10 rfl (lv_at hl 2 rfl) ?_
    refine lv_if_ne (tgt := 23) hx hb dX9_begins_11 (by decide) (fun c5 => ?_) (fun c5 => ?_)
    · have hz := ipf (c5) hz
      exact w_X9_begins_23 F hr hlk x4 _ _ _ _ S (lv_sub hl [0, 4] rfl) hz
    · have hz := ipt (c5) hz
      refine lv_aload_n hx hb dX9_begins_14 rfl (lv_at hl 0 rfl) ?_
      refine lv_iload_n hx hb dX9_begins_15 rfl (lv_at hl 3 rfl) ?_
      refine lv_aload_n hx hb dX9_begins_16 rfl (lv_at hl 0 rfl) ?_
      refine fg_X9_4 hx hb (fun q h => hg q (tl_X9 q h)) hown (hg _ t_fl_X9_88) S (by decide) dX9_begins_17 ?_
      obtain ⟨q14, e15, hz⟩ := bd hz
      refine g_callVv (As := [.int x3, .int (gI q1.2 130 4)]) (rest := []) F S (c_X9_wrong l G x3 (gI q1.2 130 4)  _ e15) (cw_X9_begins_X9_wrong_134 hg) (S.obj (by decide) (by decide) rfl (oc_X9 _ _ _ (by decide))) rfl hl.1 rfl (Nat.le_of_ble_eq_true rfl) ⟨Nat.zero_le _, Nat.zero_le _⟩ dX9_begins_20 (fun H locs  S => ?_)
      exact w_X9_begins_23 F hr hlk x4 _ _ _ _ S (lv_sub hl [0, 4] rfl) hz
  · have hz := ipt (c4) hz
    refine lv_iconst (v := 0) hx hb dX9_begins_8 (by decide) ?_
    exact g_retb hx hb hr hlk S isB_0 hz dX9_begins_9
noncomputable def f_X9_hallLine  (w : GW) : Option (Unit × GW) :=
  if (gI w 130 13) = 0 then
    (f_X9_told 18 1 5 w).bind fun q2 =>
    if inb 0 135 then
    (f_X9_told 19 0 8 (sI q2.2 134 (ix 0) q2.1)).bind fun q5 =>
    if inb 1 135 then
    if (gI (sI q5.2 134 (ix 1) q5.1) 130 13) = 0 then
      if inb 80 135 then
      some ((), (sI (sI q5.2 134 (ix 1) q5.1) 134 (ix 80) 1))
      else none
    else
      some ((), (sI q5.2 134 (ix 1) q5.1))
    else none
    else none
  else
    some ((), w)
set_option maxHeartbeats 4000000 in
set_option maxRecDepth 100000 in
theorem c_X9_hallLine (l : Launch) (G : GG)   (w : GW) {z : Unit × GW} (hz : f_X9_hallLine  w = some z) : Met l yX9_hallLine (wsU yX9_hallLine cX9_hallLine 1 none) rm_X9_hallLine (va_Pc [.ref (gad G 130)] (PreG G w)) (QV G z) 0 0 (gA G) := by
  refine Met.ofW (cc := cX9_hallLine) (maxL := 1) (ret := none) (by decide) rfl ?_
  intro p e s m args below meth c s₁ B hml hv
  obtain ⟨rfl, S⟩ := hv
  have F : CallFix p m c cX9_hallLine 1 s _ (wsU yX9_hallLine cX9_hallLine 1 none) RX9 := ⟨B.exec, B.bytes, hml, findClass_of_methodNamed B.named, atoms_spec B.pre⟩
  have hr := B.returns
  have hlk := B.notSynchronized
  obtain ⟨hx, hb, -, hown, hts⟩ := id F
  have hg : ∀ q ∈ lwg, q.before _ s = true := fun q h => hts q (List.mem_cons_of_mem _ h)
  refine g_entry (Nat.le_of_ble_eq_true rfl) (fun ls hl => ?_)
  have hl : lv_has ls 1 [(0, .ref (gad G 130))] := hl
  have S : St G w s s.heap [] := S
  generalize s.heap = H at S ⊢
  generalize ([] : List Loc) = locs at S ⊢
  rw [f_X9_hallLine] at hz
  refine lv_aload_n hx hb dX9_hallLine_0 rfl (lv_at hl 0 rfl) ?_
  refine fg_X9_13 hx hb (fun q h => hg q (tl_X9 q h)) hown (hg _ t_fl_X9_107) S (by decide) dX9_hallLine_1 ?_
  refine lv_if_eq (tgt := 8) hx hb dX9_hallLine_4 (by decide) (fun c1 => ?_) (fun c1 => ?_)
  · have hz := ipt (c1) hz
    refine lv_aload_n hx hb dX9_hallLine_8 rfl (lv_at hl 0 rfl) ?_
    refine fg_X9_16 hx hb (fun q h => hg q (tl_X9 q h)) hown (hg _ t_fl_X9_23) S (by decide) dX9_hallLine_9 ?_
    refine lv_iconst (v := 0) hx hb dX9_hallLine_12 (by decide) ?_
    refine lv_aload_n hx hb dX9_hallLine_13 rfl (lv_at hl 0 rfl) ?_
    refine g_str 18 (by decide) hx hb S hown rfl dX9_hallLine_14 ?_
    refine lv_iconst (v := 1) hx hb dX9_hallLine_16 (by decide) ?_
    refine lv_iconst (v := 5) hx hb dX9_hallLine_17 (by decide) ?_
    obtain ⟨q2, e3, hz⟩ := bd hz
    refine g_callVi (As := [.ref (gK G 18), .int 1, .int 5]) (rest := [.int 0, .ref (gad G 134)]) F S (c_X9_told l G 18 1 5 (by decide) _ e3) (cw_X9_hallLine_X9_told_204 hg) (S.obj (by decide) (by decide) rfl (oc_X9 _ _ _ (by decide))) rfl hl.1 rfl (Nat.le_of_ble_eq_true rfl) ⟨Nat.zero_le _, Nat.zero_le _⟩ dX9_hallLine_18 (fun H locs  S => ?_)
    obtain ⟨h4, hz⟩ := ck hz
    refine g_iast (x := q2.1) hx hb S (isA_15 (by decide)) h4 dX9_hallLine_21 (fun H locs S => ?_)
    refine lv_aload_n hx hb dX9_hallLine_22 rfl (lv_at hl 0 rfl) ?_
    refine fg_X9_16 hx hb (fun q h => hg q (tl_X9 q h)) hown (hg _ t_fl_X9_23) S (by decide) dX9_hallLine_23 ?_
    refine lv_iconst (v := 1) hx hb dX9_hallLine_26 (by decide) ?_
    refine lv_aload_n hx hb dX9_hallLine_27 rfl (lv_at hl 0 rfl) ?_
    refine g_str 19 (by decide) hx hb S hown rfl dX9_hallLine_28 ?_
    refine lv_iconst (v := 0) hx hb dX9_hallLine_30 (by decide) ?_
    refine lv_bipush (v := 8) hx hb dX9_hallLine_31 (by decide) ?_
    obtain ⟨q5, e6, hz⟩ := bd hz
    refine g_callVi (As := [.ref (gK G 19), .int 0, .int 8]) (rest := [.int 1, .ref (gad G 134)]) F S (c_X9_told l G 19 0 8 (by decide) _ e6) (cw_X9_hallLine_X9_told_204 hg) (S.obj (by decide) (by decide) rfl (oc_X9 _ _ _ (by decide))) rfl hl.1 rfl (Nat.le_of_ble_eq_true rfl) ⟨Nat.zero_le _, Nat.zero_le _⟩ dX9_hallLine_33 (fun H locs  S => ?_)
    obtain ⟨h7, hz⟩ := ck hz
    refine g_iast (x := q5.1) hx hb S (isA_15 (by decide)) h7 dX9_hallLine_36 (fun H locs S => ?_)
    refine lv_aload_n hx hb dX9_hallLine_37 rfl (lv_at hl 0 rfl) ?_
    refine fg_X9_13 hx hb (fun q h => hg q (tl_X9 q h)) hown (hg _ t_fl_X9_107) S (by decide) dX9_hallLine_38 ?_
    refine lv_if_ne (tgt := 52) hx hb dX9_hallLine_41 (by decide) (fun c8 => ?_) (fun c8 => ?_)
    · have hz := ipf (c8) hz
      exact g_retv hx hb hr hlk S hz dX9_hallLine_52
    · have hz := ipt (c8) hz
      refine lv_aload_n hx hb dX9_hallLine_44 rfl (lv_at hl 0 rfl) ?_
      refine fg_X9_16 hx hb (fun q h => hg q (tl_X9 q h)) hown (hg _ t_fl_X9_23) S (by decide) dX9_hallLine_45 ?_
      refine lv_bipush (v := 80) hx hb dX9_hallLine_48 (by decide) ?_
      refine lv_iconst (v := 1) hx hb dX9_hallLine_50 (by decide) ?_
      obtain ⟨h9, hz⟩ := ck hz
      refine g_iast (x := 1) hx hb S (isA_15 (by decide)) h9 dX9_hallLine_51 (fun H locs S => ?_)
      exact g_retv hx hb hr hlk S hz dX9_hallLine_52
  · have hz := ipf (c1) hz
    exact g_retv hx hb hr hlk S hz dX9_hallLine_7
noncomputable def f_X9_boxLine_64   (w : GW) : Option (Unit × GW) :=
  if inb 0 135 then
  (f_X9_number 0 ((gI w 134 (ix 0)) - 1) w).bind fun q5 =>
  if (gI q5.2 130 13) = 0 then
    (f_X9_told 21 1 8 q5.2).bind fun q8 =>
    if inb (2 + q5.1) 135 then
    (f_X9_told 22 1 3 (sI q8.2 134 (ix (2 + q5.1)) q8.1)).bind fun q11 =>
    if inb (7 + q5.1) 135 then
    if inb (12 + q5.1) 135 then
    some ((), (sI (sI q11.2 134 (ix (7 + q5.1)) q11.1) 134 (ix (12 + q5.1)) 1))
    else none
    else none
    else none
  else
    some ((), q5.2)
  else none
noncomputable def f_X9_boxLine_50  (t0 : Int32) (w : GW) : Option (Unit × GW) :=
  if t0 = 0 then
    f_X9_boxLine_64 w
  else
    (f_X9_wrong 3 (gI w 130 4) w).bind fun q15 =>
    f_X9_boxLine_64 q15.2
noncomputable def f_X9_boxLine_49   (w : GW) : Option (Unit × GW) :=
  f_X9_boxLine_50 0 w
noncomputable def f_X9_boxLine  (w : GW) : Option (Unit × GW) :=
  if (gI w 130 13) = 0 then
    if (gI w 130 6) = 3 then
      if inb 0 135 then
      if (gI w 134 (ix 0)) ≤ (gI w 130 7) then
        f_X9_boxLine_49 w
      else
        if inb (12 + (gI w 130 7)) 135 then
        if (gI w 134 (ix (12 + (gI w 130 7)))) = 1 then
          f_X9_boxLine_50 1 w
        else
          f_X9_boxLine_49 w
        else none
      else none
    else
      f_X9_boxLine_49 w
  else
    some ((), w)
set_option maxHeartbeats 4000000 in
set_option maxRecDepth 100000 in
theorem w_X9_boxLine_64 {p : Program} {l : Launch} {e : Env} {s : State} {m : MethodId} {args : Array Value} {below : List Frame} {meth : Method} {c : Code} {G : GG} (F : CallFix p m c cX9_boxLine 3 s args (wsU yX9_boxLine cX9_boxLine 3 none) RX9) (hr : meth.sig.returnType = none) (hlk : meth.locks = false) {z : Unit × GW} : (∀ (w : GW) (H : Heap) (locs : List Loc) (ls : Array Slot), St G w s H locs → lv_has ls 3 [(0, .ref (gad G 130))] → f_X9_boxLine_64  w = some z → W p l e (headSpec (wsU yX9_boxLine cX9_boxLine 3 none) rm_X9_boxLine).room s m args below meth c H locs 0 0 (MQ below (QV G z) args s 0 0 (gA G)) (F0 m 64 ls [])) := by
  obtain ⟨hx, hb, hml, hown, hts⟩ := id F
  have hg : ∀ q ∈ lwg, q.before args s = true := fun q h => hts q (List.mem_cons_of_mem _ h)
  intro w H locs ls S hl hz
  rw [f_X9_boxLine_64] at hz
  refine lv_aload_n hx hb dX9_boxLine_64 rfl (lv_at hl 0 rfl) ?_
  refine lv_iconst (v := 0) hx hb dX9_boxLine_65 (by decide) ?_
  refine lv_aload_n hx hb dX9_boxLine_66 rfl (lv_at hl 0 rfl) ?_
  refine fg_X9_16 hx hb (fun q h => hg q (tl_X9 q h)) hown (hg _ t_fl_X9_23) S (by decide) dX9_boxLine_67 ?_
  refine lv_iconst (v := 0) hx hb dX9_boxLine_70 (by decide) ?_
  obtain ⟨h4, hz⟩ := ck hz
  refine g_iald hx hb S (isA_15 (by decide)) h4 dX9_boxLine_71 ?_
  refine lv_iconst (v := 1) hx hb dX9_boxLine_72 (by decide) ?_
  refine lv_isub hx hb dX9_boxLine_73 ?_
  obtain ⟨q5, e6, hz⟩ := bd hz
  refine g_callVi (As := [.int 0, .int ((gI w 134 (ix 0)) - 1)]) (rest := []) F S (c_X9_number l G 0 ((gI w 134 (ix 0)) - 1)  _ e6) (cw_X9_boxLine_X9_number_146 hg) (S.obj (by decide) (by decide) rfl (oc_X9 _ _ _ (by decide))) rfl hl.1 rfl (Nat.le_of_ble_eq_true rfl) ⟨Nat.zero_le _, Nat.zero_le _⟩ dX9_boxLine_74 (fun H locs  S => ?_)
  refine lv_istore_n (lv' := [(2, .int q5.1), (0, .ref (gad G 130))]) hx hb dX9_boxLine_77 rfl hl (by decide) rfl (fun ls hl => ?_)
  refine lv_aload_n hx hb dX9_boxLine_78 rfl (lv_at hl 1 rfl) ?_
  refine fg_X9_13 hx hb (fun q h => hg q (tl_X9 q h)) hown (hg _ t_fl_X9_107) S (by decide) dX9_boxLine_79 ?_
  refine lv_if_eq (tgt := 86) hx hb dX9_boxLine_82 (by decide) (fun c7 => ?_) (fun c7 => ?_)
  · have hz := ipt (c7) hz
    refine lv_aload_n hx hb dX9_boxLine_86 rfl (lv_at hl 1 rfl) ?_
    refine fg_X9_16 hx hb (fun q h => hg q (tl_X9 q h)) hown (hg _ t_fl_X9_23) S (by decide) dX9_boxLine_87 ?_
    refine lv_iconst (v := 2) hx hb dX9_boxLine_90 (by decide) ?_
    refine lv_iload_n hx hb dX9_boxLine_91 rfl (lv_at hl 0 rfl) ?_
    refine lv_iadd hx hb dX9_boxLine_92 ?_
    refine lv_aload_n hx hb dX9_boxLine_93 rfl (lv_at hl 1 rfl) ?_
    refine g_str 21 (by decide) hx hb S hown rfl dX9_boxLine_94 ?_
    refine lv_iconst (v := 1) hx hb dX9_boxLine_96 (by decide) ?_
    refine lv_bipush (v := 8) hx hb dX9_boxLine_97 (by decide) ?_
    obtain ⟨q8, e9, hz⟩ := bd hz
    refine g_callVi (As := [.ref (gK G 21), .int 1, .int 8]) (rest := [.int (2 + q5.1), .ref (gad G 134)]) F S (c_X9_told l G 21 1 8 (by decide) _ e9) (cw_X9_boxLine_X9_told_204 hg) (S.obj (by decide) (by decide) rfl (oc_X9 _ _ _ (by decide))) rfl hl.1 rfl (Nat.le_of_ble_eq_true rfl) ⟨Nat.zero_le _, Nat.zero_le _⟩ dX9_boxLine_99 (fun H locs  S => ?_)
    obtain ⟨h10, hz⟩ := ck hz
    refine g_iast (x := q8.1) hx hb S (isA_15 (by decide)) h10 dX9_boxLine_102 (fun H locs S => ?_)
    refine lv_aload_n hx hb dX9_boxLine_103 rfl (lv_at hl 1 rfl) ?_
    refine fg_X9_16 hx hb (fun q h => hg q (tl_X9 q h)) hown (hg _ t_fl_X9_23) S (by decide) dX9_boxLine_104 ?_
    refine lv_bipush (v := 7) hx hb dX9_boxLine_107 (by decide) ?_
    refine lv_iload_n hx hb dX9_boxLine_109 rfl (lv_at hl 0 rfl) ?_
    refine lv_iadd hx hb dX9_boxLine_110 ?_
    refine lv_aload_n hx hb dX9_boxLine_111 rfl (lv_at hl 1 rfl) ?_
    refine g_str 22 (by decide) hx hb S hown rfl dX9_boxLine_112 ?_
    refine lv_iconst (v := 1) hx hb dX9_boxLine_114 (by decide) ?_
    refine lv_iconst (v := 3) hx hb dX9_boxLine_115 (by decide) ?_
    obtain ⟨q11, e12, hz⟩ := bd hz
    refine g_callVi (As := [.ref (gK G 22), .int 1, .int 3]) (rest := [.int (7 + q5.1), .ref (gad G 134)]) F S (c_X9_told l G 22 1 3 (by decide) _ e12) (cw_X9_boxLine_X9_told_204 hg) (S.obj (by decide) (by decide) rfl (oc_X9 _ _ _ (by decide))) rfl hl.1 rfl (Nat.le_of_ble_eq_true rfl) ⟨Nat.zero_le _, Nat.zero_le _⟩ dX9_boxLine_116 (fun H locs  S => ?_)
    obtain ⟨h13, hz⟩ := ck hz
    refine g_iast (x := q11.1) hx hb S (isA_15 (by decide)) h13 dX9_boxLine_119 (fun H locs S => ?_)
    refine lv_aload_n hx hb dX9_boxLine_120 rfl (lv_at hl 1 rfl) ?_
    refine fg_X9_16 hx hb (fun q h => hg q (tl_X9 q h)) hown (hg _ t_fl_X9_23) S (by decide) dX9_boxLine_121 ?_
    refine lv_bipush (v := 12) hx hb dX9_boxLine_124 (by decide) ?_
    refine lv_iload_n hx hb dX9_boxLine_126 rfl (lv_at hl 0 rfl) ?_
    refine lv_iadd hx hb dX9_boxLine_127 ?_
    refine lv_iconst (v := 1) hx hb dX9_boxLine_128 (by decide) ?_
    obtain ⟨h14, hz⟩ := ck hz
    refine g_iast (x := 1) hx hb S (isA_15 (by decide)) h14 dX9_boxLine_129 (fun H locs S => ?_)
    exact g_retv hx hb hr hlk S hz dX9_boxLine_130
  · have hz := ipf (c7) hz
    exact g_retv hx hb hr hlk S hz dX9_boxLine_85
set_option maxHeartbeats 4000000 in
set_option maxRecDepth 100000 in
theorem w_X9_boxLine_50 {p : Program} {l : Launch} {e : Env} {s : State} {m : MethodId} {args : Array Value} {below : List Frame} {meth : Method} {c : Code} {G : GG} (F : CallFix p m c cX9_boxLine 3 s args (wsU yX9_boxLine cX9_boxLine 3 none) RX9) (hr : meth.sig.returnType = none) (hlk : meth.locks = false) {z : Unit × GW} : (∀ (t0 : Int32) (w : GW) (H : Heap) (locs : List Loc) (ls : Array Slot), St G w s H locs → lv_has ls 3 [(0, .ref (gad G 130))] → f_X9_boxLine_50 t0 w = some z → W p l e (headSpec (wsU yX9_boxLine cX9_boxLine 3 none) rm_X9_boxLine).room s m args below meth c H locs 0 0 (MQ below (QV G z) args s 0 0 (gA G)) (F0 m 50 ls [.int t0])) := by
  obtain ⟨hx, hb, hml, hown, hts⟩ := id F
  have hg : ∀ q ∈ lwg, q.before args s = true := fun q h => hts q (List.mem_cons_of_mem _ h)
  intro t0 w H locs ls S hl hz
  rw [f_X9_boxLine_50] at hz
  refine lv_istore_n (lv' := [(1, .int t0), (0, .ref (gad G 130))]) hx hb dX9_boxLine_50 rfl hl (by decide) rfl (fun ls hl => ?_)
  refine lv_iload_n hx hb dX9_boxLine_51 rfl (lv_at hl 0 rfl) ?_
  refine lv_if_eq (tgt := 64) hx hb dX9_boxLine_52 (by decide) (fun c3 => ?_) (fun c3 => ?_)
  · have hz := ipt (c3) hz
    exact w_X9_boxLine_64 F hr hlk _ _ _ _ S (lv_sub hl [1] rfl) hz
  · have hz := ipf (c3) hz
    refine lv_aload_n hx hb dX9_boxLine_55 rfl (lv_at hl 1 rfl) ?_
    refine lv_iconst (v := 3) hx hb dX9_boxLine_56 (by decide) ?_
    refine lv_aload_n hx hb dX9_boxLine_57 rfl (lv_at hl 1 rfl) ?_
    refine fg_X9_4 hx hb (fun q h => hg q (tl_X9 q h)) hown (hg _ t_fl_X9_88) S (by decide) dX9_boxLine_58 ?_
    obtain ⟨q15, e16, hz⟩ := bd hz
    refine g_callVv (As := [.int 3, .int (gI w 130 4)]) (rest := []) F S (c_X9_wrong l G 3 (gI w 130 4)  _ e16) (cw_X9_boxLine_X9_wrong_134 hg) (S.obj (by decide) (by decide) rfl (oc_X9 _ _ _ (by decide))) rfl hl.1 rfl (Nat.le_of_ble_eq_true rfl) ⟨Nat.zero_le _, Nat.zero_le _⟩ dX9_boxLine_61 (fun H locs  S => ?_)
    exact w_X9_boxLine_64 F hr hlk _ _ _ _ S (lv_sub hl [1] rfl) hz
set_option maxHeartbeats 4000000 in
set_option maxRecDepth 100000 in
theorem w_X9_boxLine_49 {p : Program} {l : Launch} {e : Env} {s : State} {m : MethodId} {args : Array Value} {below : List Frame} {meth : Method} {c : Code} {G : GG} (F : CallFix p m c cX9_boxLine 3 s args (wsU yX9_boxLine cX9_boxLine 3 none) RX9) (hr : meth.sig.returnType = none) (hlk : meth.locks = false) {z : Unit × GW} : (∀ (w : GW) (H : Heap) (locs : List Loc) (ls : Array Slot), St G w s H locs → lv_has ls 3 [(0, .ref (gad G 130))] → f_X9_boxLine_49  w = some z → W p l e (headSpec (wsU yX9_boxLine cX9_boxLine 3 none) rm_X9_boxLine).room s m args below meth c H locs 0 0 (MQ below (QV G z) args s 0 0 (gA G)) (F0 m 49 ls [])) := by
  obtain ⟨hx, hb, hml, hown, hts⟩ := id F
  have hg : ∀ q ∈ lwg, q.before args s = true := fun q h => hts q (List.mem_cons_of_mem _ h)
  intro w H locs ls S hl hz
  rw [f_X9_boxLine_49] at hz
  refine lv_iconst (v := 0) hx hb dX9_boxLine_49 (by decide) ?_
  exact w_X9_boxLine_50 F hr hlk 0 _ _ _ _ S (lv_sub hl [0] rfl) hz
set_option maxHeartbeats 4000000 in
set_option maxRecDepth 100000 in
theorem c_X9_boxLine (l : Launch) (G : GG)   (w : GW) {z : Unit × GW} (hz : f_X9_boxLine  w = some z) : Met l yX9_boxLine (wsU yX9_boxLine cX9_boxLine 3 none) rm_X9_boxLine (va_Pc [.ref (gad G 130)] (PreG G w)) (QV G z) 0 0 (gA G) := by
  refine Met.ofW (cc := cX9_boxLine) (maxL := 3) (ret := none) (by decide) rfl ?_
  intro p e s m args below meth c s₁ B hml hv
  obtain ⟨rfl, S⟩ := hv
  have F : CallFix p m c cX9_boxLine 3 s _ (wsU yX9_boxLine cX9_boxLine 3 none) RX9 := ⟨B.exec, B.bytes, hml, findClass_of_methodNamed B.named, atoms_spec B.pre⟩
  have hr := B.returns
  have hlk := B.notSynchronized
  obtain ⟨hx, hb, -, hown, hts⟩ := id F
  have hg : ∀ q ∈ lwg, q.before _ s = true := fun q h => hts q (List.mem_cons_of_mem _ h)
  refine g_entry (Nat.le_of_ble_eq_true rfl) (fun ls hl => ?_)
  have hl : lv_has ls 3 [(0, .ref (gad G 130))] := hl
  have S : St G w s s.heap [] := S
  generalize s.heap = H at S ⊢
  generalize ([] : List Loc) = locs at S ⊢
  rw [f_X9_boxLine] at hz
  refine lv_aload_n hx hb dX9_boxLine_0 rfl (lv_at hl 0 rfl) ?_
  refine fg_X9_13 hx hb (fun q h => hg q (tl_X9 q h)) hown (hg _ t_fl_X9_107) S (by decide) dX9_boxLine_1 ?_
  refine lv_if_eq (tgt := 8) hx hb dX9_boxLine_4 (by decide) (fun c1 => ?_) (fun c1 => ?_)
  · have hz := ipt (c1) hz
    refine lv_aload_n hx hb dX9_boxLine_8 rfl (lv_at hl 0 rfl) ?_
    refine fg_X9_6 hx hb (fun q h => hg q (tl_X9 q h)) hown (hg _ t_fl_X9_97) S (by decide) dX9_boxLine_9 ?_
    refine lv_iconst (v := 3) hx hb dX9_boxLine_12 (by decide) ?_
    refine lv_icmp_ne (tgt := 49) hx hb dX9_boxLine_13 (by decide) (fun c2 => ?_) (fun c2 => ?_)
    · have hz := ipf (c2) hz
      exact w_X9_boxLine_49 F hr hlk _ _ _ _ S (lv_sub hl [0] rfl) hz
    · have hz := ipt (c2) hz
      refine lv_aload_n hx hb dX9_boxLine_16 rfl (lv_at hl 0 rfl) ?_
      refine fg_X9_7 hx hb (fun q h => hg q (tl_X9 q h)) hown (hg _ t_fl_X9_94) S (by decide) dX9_boxLine_17 ?_
      refine lv_aload_n hx hb dX9_boxLine_20 rfl (lv_at hl 0 rfl) ?_
      refine fg_X9_16 hx hb (fun q h => hg q (tl_X9 q h)) hown (hg _ t_fl_X9_23) S (by decide) dX9_boxLine_21 ?_
      refine lv_iconst (v := 0) hx hb dX9_boxLine_24 (by decide) ?_
      obtain ⟨h17, hz⟩ := ck hz
      refine g_iald hx hb S (isA_15 (by decide)) h17 dX9_boxLine_25 ?_
      refine lv_icmp_ge (tgt := 49) hx hb dX9_boxLine_26 (by decide) (fun c18 => ?_) (fun c18 => ?_)
      · have hz := ipt (c18) hz
        exact w_X9_boxLine_49 F hr hlk _ _ _ _ S (lv_sub hl [0] rfl) hz
      · have hz := ipf (c18) hz
        refine lv_aload_n hx hb dX9_boxLine_29 rfl (lv_at hl 0 rfl) ?_
        refine fg_X9_16 hx hb (fun q h => hg q (tl_X9 q h)) hown (hg _ t_fl_X9_23) S (by decide) dX9_boxLine_30 ?_
        refine lv_bipush (v := 12) hx hb dX9_boxLine_33 (by decide) ?_
        refine lv_aload_n hx hb dX9_boxLine_35 rfl (lv_at hl 0 rfl) ?_
        refine fg_X9_7 hx hb (fun q h => hg q (tl_X9 q h)) hown (hg _ t_fl_X9_94) S (by decide) dX9_boxLine_36 ?_
        refine lv_iadd hx hb dX9_boxLine_39 ?_
        obtain ⟨h19, hz⟩ := ck hz
        refine g_iald hx hb S (isA_15 (by decide)) h19 dX9_boxLine_40 ?_
        refine lv_iconst (v := 1) hx hb dX9_boxLine_41 (by decide) ?_
        refine lv_icmp_ne (tgt := 49) hx hb dX9_boxLine_42 (by decide) (fun c20 => ?_) (fun c20 => ?_)
        · have hz := ipf (c20) hz
          exact w_X9_boxLine_49 F hr hlk _ _ _ _ S (lv_sub hl [0] rfl) hz
        · have hz := ipt (c20) hz
          refine lv_iconst (v := 1) hx hb dX9_boxLine_45 (by decide) ?_
          refine lv_goto (tgt := 50) hx hb dX9_boxLine_46 (by decide) ?_
          exact w_X9_boxLine_50 F hr hlk 1 _ _ _ _ S (lv_sub hl [0] rfl) hz
  · have hz := ipf (c1) hz
    exact g_retv hx hb hr hlk S hz dX9_boxLine_7
