noncomputable def f_X6_boxLine  (w : GW) : Option (Int32 × GW) :=
  if (gI w (fxH (gR w 2)) 0) = 0 then
    (f_X6_wrong 6 w).bind fun q34 =>
    some (q34.1, q34.2)
  else
    (f_X7_advance w).bind fun q2 =>
    (f_X6_isWhole 0 ((gI q2.2 (fxH (gR q2.2 2)) 1) - 1) q2.2).bind fun q4 =>
    if q4.1 = 0 then
      some (0, q4.2)
    else
      if inb (gI q4.2 3 2) 5 then
      if (gI q4.2 ((fxH (gR q4.2 2)) + 3) (ix (gI q4.2 3 2))) = 0 then
        if inb (gI q4.2 3 2) 5 then
        (f_X7_advance (sI q4.2 ((fxH (gR q4.2 2)) + 3) (ix (gI q4.2 3 2)) 1)).bind fun q11 =>
        (f_X6_word 4 q11.2).bind fun q13 =>
        if q13.1 = 0 then
          some (0, q13.2)
        else
          (f_X6_whole 1 8 q13.2).bind fun q17 =>
          if q17.1 = 0 then
            some (0, q17.2)
          else
            if inb (gI q4.2 3 2) 5 then
            (f_X6_word 5 (sI q17.2 ((fxH (gR q17.2 2)) + 1) (ix (gI q4.2 3 2)) (gI q17.2 3 2))).bind fun q22 =>
            if q22.1 = 0 then
              some (0, q22.2)
            else
              (f_X6_whole 1 3 q22.2).bind fun q26 =>
              if q26.1 = 0 then
                some (0, q26.2)
              else
                if inb (gI q4.2 3 2) 5 then
                some (1, (sI q26.2 ((fxH (gR q26.2 2)) + 2) (ix (gI q4.2 3 2)) (gI q26.2 3 2)))
                else none
            else none
        else none
      else
        (f_X6_wrong 3 q4.2).bind fun q31 =>
        some (q31.1, q31.2)
      else none
set_option maxHeartbeats 4000000 in
set_option maxRecDepth 100000 in
theorem c_X6_boxLine (l : Launch) (G : GG)   (w : GW) {z : Int32 × GW} (hz : f_X6_boxLine  w = some z) : Met l yX6_boxLine (wsU yX6_boxLine cX6_boxLine 2 (some .boolean)) rm_X6_boxLine (va_Pc [.ref (gad G 3)] (PreG G w)) (QB G z) 0 0 (gA G) := by
  refine Met.ofW (cc := cX6_boxLine) (maxL := 2) (ret := (some .boolean)) (by decide) rfl ?_
  intro p e s m args below meth c s₁ B hml hv
  obtain ⟨rfl, S⟩ := hv
  have F : CallFix p m c cX6_boxLine 2 s _ (wsU yX6_boxLine cX6_boxLine 2 (some .boolean)) RX6 := ⟨B.exec, B.bytes, hml, findClass_of_methodNamed B.named, atoms_spec B.pre⟩
  have hr := B.returns
  have hlk := B.notSynchronized
  obtain ⟨hx, hb, -, hown, hts⟩ := id F
  have hg : ∀ q ∈ lwg, q.before _ s = true := fun q h => hts q (List.mem_cons_of_mem _ h)
  refine g_entry (Nat.le_of_ble_eq_true rfl) (fun ls hl => ?_)
  have hl : lv_has ls 2 [(0, .ref (gad G 3))] := hl
  have S : St G w s s.heap [] := S
  generalize s.heap = H at S ⊢
  generalize ([] : List Loc) = locs at S ⊢
  rw [f_X6_boxLine] at hz
  refine lv_aload_n hx hb dX6_boxLine_0 rfl (lv_at hl 0 rfl) ?_
  refine fg_X6_1 hx hb (fun q h => hg q (tl_X6 q h)) hown (hg _ t_fl_X6_18) S (by decide) dX6_boxLine_1 ?_
  refine fg_X3_0 hx hb (fun q h => hg q (tl_X3 q h)) hown (hg _ t_fl_X6_55) S (kd_H _) dX6_boxLine_4 ?_
  refine lv_if_ne (tgt := 17) hx hb dX6_boxLine_7 (by decide) (fun c1 => ?_) (fun c1 => ?_)
  · have hz := ipf (c1) hz
    refine lv_aload_n hx hb dX6_boxLine_17 rfl (lv_at hl 0 rfl) ?_
    refine fg_X6_0 hx hb (fun q h => hg q (tl_X6 q h)) hown (hg _ t_fl_X6_9) S (by decide) dX6_boxLine_18 ?_
    obtain ⟨q2, e3, hz⟩ := bd hz
    refine g_callVv (As := []) (rest := []) F S (c_X7_advance l G   _ e3) (cw_X6_boxLine_X7_advance_52 hg) (S.obj (by decide) (by decide) rfl (oc_X7 _ _ _ (by decide))) rfl hl.1 rfl (Nat.le_of_ble_eq_true rfl) ⟨Nat.zero_le _, Nat.zero_le _⟩ dX6_boxLine_21 (fun H locs  S => ?_)
    refine lv_aload_n hx hb dX6_boxLine_24 rfl (lv_at hl 0 rfl) ?_
    refine lv_iconst (v := 0) hx hb dX6_boxLine_25 (by decide) ?_
    refine lv_aload_n hx hb dX6_boxLine_26 rfl (lv_at hl 0 rfl) ?_
    refine fg_X6_1 hx hb (fun q h => hg q (tl_X6 q h)) hown (hg _ t_fl_X6_18) S (by decide) dX6_boxLine_27 ?_
    refine fg_X3_1 hx hb (fun q h => hg q (tl_X3 q h)) hown (hg _ t_fl_X6_120) S (kd_H _) dX6_boxLine_30 ?_
    refine lv_iconst (v := 1) hx hb dX6_boxLine_33 (by decide) ?_
    refine lv_isub hx hb dX6_boxLine_34 ?_
    obtain ⟨q4, e5, hz⟩ := bd hz
    refine g_callVb (As := [.int 0, .int ((gI q2.2 (fxH (gR q2.2 2)) 1) - 1)]) (rest := []) F S (c_X6_isWhole l G 0 ((gI q2.2 (fxH (gR q2.2 2)) 1) - 1)  _ e5) (cw_X6_boxLine_X6_isWhole_108 hg) (S.obj (by decide) (by decide) rfl (oc_X6 _ _ _ (by decide))) rfl hl.1 rfl (Nat.le_of_ble_eq_true rfl) ⟨Nat.zero_le _, Nat.zero_le _⟩ dX6_boxLine_35 (fun H locs hB6 S => ?_)
    refine lv_if_ne (tgt := 43) hx hb dX6_boxLine_38 (by decide) (fun c7 => ?_) (fun c7 => ?_)
    · have hz := ipf (c7) hz
      refine lv_aload_n hx hb dX6_boxLine_43 rfl (lv_at hl 0 rfl) ?_
      refine fg_X6_2 hx hb (fun q h => hg q (tl_X6 q h)) hown (hg _ t_fl_X6_105) S (by decide) dX6_boxLine_44 ?_
      refine lv_istore_n (lv' := [(1, .int (gI q4.2 3 2)), (0, .ref (gad G 3))]) hx hb dX6_boxLine_47 rfl hl (by decide) rfl (fun ls hl => ?_)
      refine lv_aload_n hx hb dX6_boxLine_48 rfl (lv_at hl 1 rfl) ?_
      refine fg_X6_1 hx hb (fun q h => hg q (tl_X6 q h)) hown (hg _ t_fl_X6_18) S (by decide) dX6_boxLine_49 ?_
      refine fg_X3_12 hx hb (fun q h => hg q (tl_X3 q h)) hown (hg _ t_fl_X6_126) S (kd_H _) dX6_boxLine_52 ?_
      refine lv_iload_n hx hb dX6_boxLine_55 rfl (lv_at hl 0 rfl) ?_
      obtain ⟨h8, hz⟩ := ck hz
      refine g_zald hx hb S (isA_31 (kd_3_3 (kd_H _))) h8 dX6_boxLine_56 ?_
      refine lv_if_eq (tgt := 66) hx hb dX6_boxLine_57 (by decide) (fun c9 => ?_) (fun c9 => ?_)
      · have hz := ipt (c9) hz
        refine lv_aload_n hx hb dX6_boxLine_66 rfl (lv_at hl 1 rfl) ?_
        refine fg_X6_1 hx hb (fun q h => hg q (tl_X6 q h)) hown (hg _ t_fl_X6_18) S (by decide) dX6_boxLine_67 ?_
        refine fg_X3_12 hx hb (fun q h => hg q (tl_X3 q h)) hown (hg _ t_fl_X6_126) S (kd_H _) dX6_boxLine_70 ?_
        refine lv_iload_n hx hb dX6_boxLine_73 rfl (lv_at hl 0 rfl) ?_
        refine lv_iconst (v := 1) hx hb dX6_boxLine_74 (by decide) ?_
        obtain ⟨h10, hz⟩ := ck hz
        refine g_zast (x := 1) hx hb S (isA_31 (kd_3_3 (kd_H _))) h10 isB_1 dX6_boxLine_75 (fun H locs S => ?_)
        refine lv_aload_n hx hb dX6_boxLine_76 rfl (lv_at hl 1 rfl) ?_
        refine fg_X6_0 hx hb (fun q h => hg q (tl_X6 q h)) hown (hg _ t_fl_X6_9) S (by decide) dX6_boxLine_77 ?_
        obtain ⟨q11, e12, hz⟩ := bd hz
        refine g_callVv (As := []) (rest := []) F S (c_X7_advance l G   _ e12) (cw_X6_boxLine_X7_advance_52 hg) (S.obj (by decide) (by decide) rfl (oc_X7 _ _ _ (by decide))) rfl hl.1 rfl (Nat.le_of_ble_eq_true rfl) ⟨Nat.zero_le _, Nat.zero_le _⟩ dX6_boxLine_80 (fun H locs  S => ?_)
        refine lv_aload_n hx hb dX6_boxLine_83 rfl (lv_at hl 1 rfl) ?_
        refine g_str 4 (by decide) hx hb S hown rfl dX6_boxLine_84 ?_
        obtain ⟨q13, e14, hz⟩ := bd hz
        refine g_callVb (As := [.ref (gK G 4)]) (rest := []) F S (c_X6_word l G 4 (by decide) _ e14) (cw_X6_boxLine_X6_word_114 hg) (S.obj (by decide) (by decide) rfl (oc_X6 _ _ _ (by decide))) rfl hl.1 rfl (Nat.le_of_ble_eq_true rfl) ⟨Nat.zero_le _, Nat.zero_le _⟩ dX6_boxLine_86 (fun H locs hB15 S => ?_)
        refine lv_if_eq (tgt := 102) hx hb dX6_boxLine_89 (by decide) (fun c16 => ?_) (fun c16 => ?_)
        · have hz := ipt (c16) hz
          refine lv_iconst (v := 0) hx hb dX6_boxLine_102 (by decide) ?_
          exact g_retb hx hb hr hlk S isB_0 hz dX6_boxLine_103
        · have hz := ipf (c16) hz
          refine lv_aload_n hx hb dX6_boxLine_92 rfl (lv_at hl 1 rfl) ?_
          refine lv_iconst (v := 1) hx hb dX6_boxLine_93 (by decide) ?_
          refine lv_bipush (v := 8) hx hb dX6_boxLine_94 (by decide) ?_
          obtain ⟨q17, e18, hz⟩ := bd hz
          refine g_callVb (As := [.int 1, .int 8]) (rest := []) F S (c_X6_whole l G 1 8  _ e18) (cw_X6_boxLine_X6_whole_117 hg) (S.obj (by decide) (by decide) rfl (oc_X6 _ _ _ (by decide))) rfl hl.1 rfl (Nat.le_of_ble_eq_true rfl) ⟨Nat.zero_le _, Nat.zero_le _⟩ dX6_boxLine_96 (fun H locs hB19 S => ?_)
          refine lv_if_ne (tgt := 104) hx hb dX6_boxLine_99 (by decide) (fun c20 => ?_) (fun c20 => ?_)
          · have hz := ipf (c20) hz
            refine lv_aload_n hx hb dX6_boxLine_104 rfl (lv_at hl 1 rfl) ?_
            refine fg_X6_1 hx hb (fun q h => hg q (tl_X6 q h)) hown (hg _ t_fl_X6_18) S (by decide) dX6_boxLine_105 ?_
            refine fg_X3_10 hx hb (fun q h => hg q (tl_X3 q h)) hown (hg _ t_fl_X6_132) S (kd_H _) dX6_boxLine_108 ?_
            refine lv_iload_n hx hb dX6_boxLine_111 rfl (lv_at hl 0 rfl) ?_
            refine lv_aload_n hx hb dX6_boxLine_112 rfl (lv_at hl 1 rfl) ?_
            refine fg_X6_2 hx hb (fun q h => hg q (tl_X6 q h)) hown (hg _ t_fl_X6_105) S (by decide) dX6_boxLine_113 ?_
            obtain ⟨h21, hz⟩ := ck hz
            refine g_iast (x := (gI q17.2 3 2)) hx hb S (isA_10 (kd_3_1 (kd_H _))) h21 dX6_boxLine_116 (fun H locs S => ?_)
            refine lv_aload_n hx hb dX6_boxLine_117 rfl (lv_at hl 1 rfl) ?_
            refine g_str 5 (by decide) hx hb S hown rfl dX6_boxLine_118 ?_
            obtain ⟨q22, e23, hz⟩ := bd hz
            refine g_callVb (As := [.ref (gK G 5)]) (rest := []) F S (c_X6_word l G 5 (by decide) _ e23) (cw_X6_boxLine_X6_word_114 hg) (S.obj (by decide) (by decide) rfl (oc_X6 _ _ _ (by decide))) rfl hl.1 rfl (Nat.le_of_ble_eq_true rfl) ⟨Nat.zero_le _, Nat.zero_le _⟩ dX6_boxLine_120 (fun H locs hB24 S => ?_)
            refine lv_if_eq (tgt := 135) hx hb dX6_boxLine_123 (by decide) (fun c25 => ?_) (fun c25 => ?_)
            · have hz := ipt (c25) hz
              refine lv_iconst (v := 0) hx hb dX6_boxLine_135 (by decide) ?_
              exact g_retb hx hb hr hlk S isB_0 hz dX6_boxLine_136
            · have hz := ipf (c25) hz
              refine lv_aload_n hx hb dX6_boxLine_126 rfl (lv_at hl 1 rfl) ?_
              refine lv_iconst (v := 1) hx hb dX6_boxLine_127 (by decide) ?_
              refine lv_iconst (v := 3) hx hb dX6_boxLine_128 (by decide) ?_
              obtain ⟨q26, e27, hz⟩ := bd hz
              refine g_callVb (As := [.int 1, .int 3]) (rest := []) F S (c_X6_whole l G 1 3  _ e27) (cw_X6_boxLine_X6_whole_117 hg) (S.obj (by decide) (by decide) rfl (oc_X6 _ _ _ (by decide))) rfl hl.1 rfl (Nat.le_of_ble_eq_true rfl) ⟨Nat.zero_le _, Nat.zero_le _⟩ dX6_boxLine_129 (fun H locs hB28 S => ?_)
              refine lv_if_ne (tgt := 137) hx hb dX6_boxLine_132 (by decide) (fun c29 => ?_) (fun c29 => ?_)
              · have hz := ipf (c29) hz
                refine lv_aload_n hx hb dX6_boxLine_137 rfl (lv_at hl 1 rfl) ?_
                refine fg_X6_1 hx hb (fun q h => hg q (tl_X6 q h)) hown (hg _ t_fl_X6_18) S (by decide) dX6_boxLine_138 ?_
                refine fg_X3_11 hx hb (fun q h => hg q (tl_X3 q h)) hown (hg _ t_fl_X6_137) S (kd_H _) dX6_boxLine_141 ?_
                refine lv_iload_n hx hb dX6_boxLine_144 rfl (lv_at hl 0 rfl) ?_
                refine lv_aload_n hx hb dX6_boxLine_145 rfl (lv_at hl 1 rfl) ?_
                refine fg_X6_2 hx hb (fun q h => hg q (tl_X6 q h)) hown (hg _ t_fl_X6_105) S (by decide) dX6_boxLine_146 ?_
                obtain ⟨h30, hz⟩ := ck hz
                refine g_iast (x := (gI q26.2 3 2)) hx hb S (isA_10 (kd_3_2 (kd_H _))) h30 dX6_boxLine_149 (fun H locs S => ?_)
                refine lv_iconst (v := 1) hx hb dX6_boxLine_150 (by decide) ?_
                exact g_retb hx hb hr hlk S isB_1 hz dX6_boxLine_151
              · have hz := ipt (c29) hz
                refine lv_iconst (v := 0) hx hb dX6_boxLine_135 (by decide) ?_
                exact g_retb hx hb hr hlk S isB_0 hz dX6_boxLine_136
          · have hz := ipt (c20) hz
            refine lv_iconst (v := 0) hx hb dX6_boxLine_102 (by decide) ?_
            exact g_retb hx hb hr hlk S isB_0 hz dX6_boxLine_103
      · have hz := ipf (c9) hz
        refine lv_aload_n hx hb dX6_boxLine_60 rfl (lv_at hl 1 rfl) ?_
        refine lv_iconst (v := 3) hx hb dX6_boxLine_61 (by decide) ?_
        obtain ⟨q31, e32, hz⟩ := bd hz
        refine g_callVb (As := [.int 3]) (rest := []) F S (c_X6_wrong l G 3  _ e32) (cw_X6_boxLine_X6_wrong_48 hg) (S.obj (by decide) (by decide) rfl (oc_X6 _ _ _ (by decide))) rfl hl.1 rfl (Nat.le_of_ble_eq_true rfl) ⟨Nat.zero_le _, Nat.zero_le _⟩ dX6_boxLine_62 (fun H locs hB33 S => ?_)
        exact g_retb hx hb hr hlk S hB33 hz dX6_boxLine_65
    · have hz := ipt (c7) hz
      refine lv_iconst (v := 0) hx hb dX6_boxLine_41 (by decide) ?_
      exact g_retb hx hb hr hlk S isB_0 hz dX6_boxLine_42
  · have hz := ipt (c1) hz
    refine lv_aload_n hx hb dX6_boxLine_10 rfl (lv_at hl 0 rfl) ?_
    refine lv_bipush (v := 6) hx hb dX6_boxLine_11 (by decide) ?_
    obtain ⟨q34, e35, hz⟩ := bd hz
    refine g_callVb (As := [.int 6]) (rest := []) F S (c_X6_wrong l G 6  _ e35) (cw_X6_boxLine_X6_wrong_48 hg) (S.obj (by decide) (by decide) rfl (oc_X6 _ _ _ (by decide))) rfl hl.1 rfl (Nat.le_of_ble_eq_true rfl) ⟨Nat.zero_le _, Nat.zero_le _⟩ dX6_boxLine_13 (fun H locs hB36 S => ?_)
    exact g_retb hx hb hr hlk S hB36 hz dX6_boxLine_16
noncomputable def f_X6_isName_87  (t0 : Int32) (w : GW) : Option (Int32 × GW) :=
  if (gI w 1 5) = 1 then
    if t0 = 0 then
      some (1, w)
    else
      some (0, w)
  else
    some (0, w)
noncomputable def f_X6_isName_82   (w : GW) : Option (Int32 × GW) :=
  f_X6_isName_87 1 w
noncomputable def f_X6_isName_41  (t0 : Int32) (w : GW) : Option (Int32 × GW) :=
  if t0 = 0 then
    (f_X7_says 7 w).bind fun q8 =>
    if q8.1 = 0 then
      (f_X7_says 8 q8.2).bind fun q12 =>
      if q12.1 = 0 then
        (f_X7_says 9 q12.2).bind fun q16 =>
        if q16.1 = 0 then
          f_X6_isName_87 0 q16.2
        else
          f_X6_isName_82 q16.2
      else
        f_X6_isName_82 q12.2
    else
      f_X6_isName_82 q8.2
  else
    f_X6_isName_82 w
noncomputable def f_X6_isName_36   (w : GW) : Option (Int32 × GW) :=
  f_X6_isName_41 1 w
noncomputable def f_X6_isName  (w : GW) : Option (Int32 × GW) :=
  (f_X7_says 0 w).bind fun q1 =>
  if q1.1 = 0 then
    (f_X7_says 3 q1.2).bind fun q20 =>
    if q20.1 = 0 then
      (f_X7_says 6 q20.2).bind fun q24 =>
      if q24.1 = 0 then
        f_X6_isName_41 0 q24.2
      else
        f_X6_isName_36 q24.2
    else
      f_X6_isName_36 q20.2
  else
    f_X6_isName_36 q1.2
set_option maxHeartbeats 4000000 in
set_option maxRecDepth 100000 in
theorem w_X6_isName_87 {p : Program} {l : Launch} {e : Env} {s : State} {m : MethodId} {args : Array Value} {below : List Frame} {meth : Method} {c : Code} {G : GG} (F : CallFix p m c cX6_isName 2 s args (wsU yX6_isName cX6_isName 2 (some .boolean)) RX6) (hr : meth.sig.returnType = (some .boolean)) (hlk : meth.locks = false) {z : Int32 × GW} : (∀ (t0 : Int32) (hBt0 : isB t0) (w : GW) (H : Heap) (locs : List Loc) (ls : Array Slot), St G w s H locs → lv_has ls 2 [(0, .ref (gad G 3))] → f_X6_isName_87 t0 w = some z → W p l e (headSpec (wsU yX6_isName cX6_isName 2 (some .boolean)) rm_X6_isName).room s m args below meth c H locs 0 0 (MQ below (QB G z) args s 0 0 (gA G)) (F0 m 87 ls [.int t0])) := by
  obtain ⟨hx, hb, hml, hown, hts⟩ := id F
  have hg : ∀ q ∈ lwg, q.before args s = true := fun q h => hts q (List.mem_cons_of_mem _ h)
  intro t0 hBt0 w H locs ls S hl hz
  rw [f_X6_isName_87] at hz
  refine lv_istore_n (lv' := [(1, .int t0), (0, .ref (gad G 3))]) hx hb dX6_isName_87 rfl hl (by decide) rfl (fun ls hl => ?_)
  refine lv_aload_n hx hb dX6_isName_88 rfl (lv_at hl 1 rfl) ?_
  refine fg_X6_0 hx hb (fun q h => hg q (tl_X6 q h)) hown (hg _ t_fl_X6_9) S (by decide) dX6_isName_89 ?_
  refine fg_X7_5 hx hb (fun q h => hg q (tl_X7 q h)) hown (hg _ t_fl_X6_42) S (by decide) dX6_isName_92 ?_
  refine lv_iconst (v := 1) hx hb dX6_isName_95 (by decide) ?_
  refine lv_icmp_ne (tgt := 107) hx hb dX6_isName_96 (by decide) (fun c6 => ?_) (fun c6 => ?_)
  · have hz := ipf (c6) hz
    refine lv_iconst (v := 0) hx hb dX6_isName_107 (by decide) ?_
    exact g_retb hx hb hr hlk S isB_0 hz dX6_isName_108
  · have hz := ipt (c6) hz
    refine lv_iload_n hx hb dX6_isName_99 rfl (lv_at hl 0 rfl) ?_
    refine lv_if_ne (tgt := 107) hx hb dX6_isName_100 (by decide) (fun c7 => ?_) (fun c7 => ?_)
    · have hz := ipf (c7) hz
      refine lv_iconst (v := 0) hx hb dX6_isName_107 (by decide) ?_
      exact g_retb hx hb hr hlk S isB_0 hz dX6_isName_108
    · have hz := ipt (c7) hz
      refine lv_iconst (v := 1) hx hb dX6_isName_103 (by decide) ?_
      refine lv_goto (tgt := 108) hx hb dX6_isName_104 (by decide) ?_
      exact g_retb hx hb hr hlk S isB_1 hz dX6_isName_108
set_option maxHeartbeats 4000000 in
set_option maxRecDepth 100000 in
theorem w_X6_isName_82 {p : Program} {l : Launch} {e : Env} {s : State} {m : MethodId} {args : Array Value} {below : List Frame} {meth : Method} {c : Code} {G : GG} (F : CallFix p m c cX6_isName 2 s args (wsU yX6_isName cX6_isName 2 (some .boolean)) RX6) (hr : meth.sig.returnType = (some .boolean)) (hlk : meth.locks = false) {z : Int32 × GW} : (∀ (w : GW) (H : Heap) (locs : List Loc) (ls : Array Slot), St G w s H locs → lv_has ls 2 [(0, .ref (gad G 3))] → f_X6_isName_82  w = some z → W p l e (headSpec (wsU yX6_isName cX6_isName 2 (some .boolean)) rm_X6_isName).room s m args below meth c H locs 0 0 (MQ below (QB G z) args s 0 0 (gA G)) (F0 m 82 ls [])) := by
  obtain ⟨hx, hb, hml, hown, hts⟩ := id F
  have hg : ∀ q ∈ lwg, q.before args s = true := fun q h => hts q (List.mem_cons_of_mem _ h)
  intro w H locs ls S hl hz
  rw [f_X6_isName_82] at hz
  refine lv_iconst (v := 1) hx hb dX6_isName_82 (by decide) ?_
  refine lv_goto (tgt := 87) hx hb dX6_isName_83 (by decide) ?_
  exact w_X6_isName_87 F hr hlk 1 isB_1 _ _ _ _ S (lv_sub hl [0] rfl) hz
set_option maxHeartbeats 4000000 in
set_option maxRecDepth 100000 in
theorem w_X6_isName_41 {p : Program} {l : Launch} {e : Env} {s : State} {m : MethodId} {args : Array Value} {below : List Frame} {meth : Method} {c : Code} {G : GG} (F : CallFix p m c cX6_isName 2 s args (wsU yX6_isName cX6_isName 2 (some .boolean)) RX6) (hr : meth.sig.returnType = (some .boolean)) (hlk : meth.locks = false) {z : Int32 × GW} : (∀ (t0 : Int32) (hBt0 : isB t0) (w : GW) (H : Heap) (locs : List Loc) (ls : Array Slot), St G w s H locs → lv_has ls 2 [(0, .ref (gad G 3))] → f_X6_isName_41 t0 w = some z → W p l e (headSpec (wsU yX6_isName cX6_isName 2 (some .boolean)) rm_X6_isName).room s m args below meth c H locs 0 0 (MQ below (QB G z) args s 0 0 (gA G)) (F0 m 41 ls [.int t0])) := by
  obtain ⟨hx, hb, hml, hown, hts⟩ := id F
  have hg : ∀ q ∈ lwg, q.before args s = true := fun q h => hts q (List.mem_cons_of_mem _ h)
  intro t0 hBt0 w H locs ls S hl hz
  rw [f_X6_isName_41] at hz
  refine lv_istore_n (lv' := [(1, .int t0), (0, .ref (gad G 3))]) hx hb dX6_isName_41 rfl hl (by decide) rfl (fun ls hl => ?_)
  refine lv_iload_n hx hb dX6_isName_42 rfl (lv_at hl 0 rfl) ?_
  refine lv_if_ne (tgt := 82) hx hb dX6_isName_43 (by decide) (fun c5 => ?_) (fun c5 => ?_)
  · have hz := ipf (c5) hz
    exact w_X6_isName_82 F hr hlk _ _ _ _ S (lv_sub hl [1] rfl) hz
  · have hz := ipt (c5) hz
    refine lv_aload_n hx hb dX6_isName_46 rfl (lv_at hl 1 rfl) ?_
    refine fg_X6_0 hx hb (fun q h => hg q (tl_X6 q h)) hown (hg _ t_fl_X6_9) S (by decide) dX6_isName_47 ?_
    refine g_str 7 (by decide) hx hb S hown rfl dX6_isName_50 ?_
    obtain ⟨q8, e9, hz⟩ := bd hz
    refine g_callVb (As := [.ref (gK G 7)]) (rest := []) F S (c_X7_says l G 7 (by decide) _ e9) (cw_X6_isName_X7_says_70 hg) (S.obj (by decide) (by decide) rfl (oc_X7 _ _ _ (by decide))) rfl hl.1 rfl (Nat.le_of_ble_eq_true rfl) ⟨Nat.zero_le _, Nat.zero_le _⟩ dX6_isName_52 (fun H locs hB10 S => ?_)
    refine lv_if_ne (tgt := 82) hx hb dX6_isName_55 (by decide) (fun c11 => ?_) (fun c11 => ?_)
    · have hz := ipf (c11) hz
      exact w_X6_isName_82 F hr hlk _ _ _ _ S (lv_sub hl [1] rfl) hz
    · have hz := ipt (c11) hz
      refine lv_aload_n hx hb dX6_isName_58 rfl (lv_at hl 1 rfl) ?_
      refine fg_X6_0 hx hb (fun q h => hg q (tl_X6 q h)) hown (hg _ t_fl_X6_9) S (by decide) dX6_isName_59 ?_
      refine g_str 8 (by decide) hx hb S hown rfl dX6_isName_62 ?_
      obtain ⟨q12, e13, hz⟩ := bd hz
      refine g_callVb (As := [.ref (gK G 8)]) (rest := []) F S (c_X7_says l G 8 (by decide) _ e13) (cw_X6_isName_X7_says_70 hg) (S.obj (by decide) (by decide) rfl (oc_X7 _ _ _ (by decide))) rfl hl.1 rfl (Nat.le_of_ble_eq_true rfl) ⟨Nat.zero_le _, Nat.zero_le _⟩ dX6_isName_64 (fun H locs hB14 S => ?_)
      refine lv_if_ne (tgt := 82) hx hb dX6_isName_67 (by decide) (fun c15 => ?_) (fun c15 => ?_)
      · have hz := ipf (c15) hz
        exact w_X6_isName_82 F hr hlk _ _ _ _ S (lv_sub hl [1] rfl) hz
      · have hz := ipt (c15) hz
        refine lv_aload_n hx hb dX6_isName_70 rfl (lv_at hl 1 rfl) ?_
        refine fg_X6_0 hx hb (fun q h => hg q (tl_X6 q h)) hown (hg _ t_fl_X6_9) S (by decide) dX6_isName_71 ?_
        refine g_str 9 (by decide) hx hb S hown rfl dX6_isName_74 ?_
        obtain ⟨q16, e17, hz⟩ := bd hz
        refine g_callVb (As := [.ref (gK G 9)]) (rest := []) F S (c_X7_says l G 9 (by decide) _ e17) (cw_X6_isName_X7_says_70 hg) (S.obj (by decide) (by decide) rfl (oc_X7 _ _ _ (by decide))) rfl hl.1 rfl (Nat.le_of_ble_eq_true rfl) ⟨Nat.zero_le _, Nat.zero_le _⟩ dX6_isName_76 (fun H locs hB18 S => ?_)
        refine lv_if_eq (tgt := 86) hx hb dX6_isName_79 (by decide) (fun c19 => ?_) (fun c19 => ?_)
        · have hz := ipt (c19) hz
          refine lv_iconst (v := 0) hx hb dX6_isName_86 (by decide) ?_
          exact w_X6_isName_87 F hr hlk 0 isB_0 _ _ _ _ S (lv_sub hl [1] rfl) hz
        · have hz := ipf (c19) hz
          exact w_X6_isName_82 F hr hlk _ _ _ _ S (lv_sub hl [1] rfl) hz
set_option maxHeartbeats 4000000 in
set_option maxRecDepth 100000 in
theorem w_X6_isName_36 {p : Program} {l : Launch} {e : Env} {s : State} {m : MethodId} {args : Array Value} {below : List Frame} {meth : Method} {c : Code} {G : GG} (F : CallFix p m c cX6_isName 2 s args (wsU yX6_isName cX6_isName 2 (some .boolean)) RX6) (hr : meth.sig.returnType = (some .boolean)) (hlk : meth.locks = false) {z : Int32 × GW} : (∀ (w : GW) (H : Heap) (locs : List Loc) (ls : Array Slot), St G w s H locs → lv_has ls 2 [(0, .ref (gad G 3))] → f_X6_isName_36  w = some z → W p l e (headSpec (wsU yX6_isName cX6_isName 2 (some .boolean)) rm_X6_isName).room s m args below meth c H locs 0 0 (MQ below (QB G z) args s 0 0 (gA G)) (F0 m 36 ls [])) := by
  obtain ⟨hx, hb, hml, hown, hts⟩ := id F
  have hg : ∀ q ∈ lwg, q.before args s = true := fun q h => hts q (List.mem_cons_of_mem _ h)
  intro w H locs ls S hl hz
  rw [f_X6_isName_36] at hz
  refine lv_iconst (v := 1) hx hb dX6_isName_36 (by decide) ?_
  refine lv_goto (tgt := 41) hx hb dX6_isName_37 (by decide) ?_
  exact w_X6_isName_41 F hr hlk 1 isB_1 _ _ _ _ S (lv_sub hl [0] rfl) hz
set_option maxHeartbeats 4000000 in
set_option maxRecDepth 100000 in
theorem c_X6_isName (l : Launch) (G : GG)   (w : GW) {z : Int32 × GW} (hz : f_X6_isName  w = some z) : Met l yX6_isName (wsU yX6_isName cX6_isName 2 (some .boolean)) rm_X6_isName (va_Pc [.ref (gad G 3)] (PreG G w)) (QB G z) 0 0 (gA G) := by
  refine Met.ofW (cc := cX6_isName) (maxL := 2) (ret := (some .boolean)) (by decide) rfl ?_
  intro p e s m args below meth c s₁ B hml hv
  obtain ⟨rfl, S⟩ := hv
  have F : CallFix p m c cX6_isName 2 s _ (wsU yX6_isName cX6_isName 2 (some .boolean)) RX6 := ⟨B.exec, B.bytes, hml, findClass_of_methodNamed B.named, atoms_spec B.pre⟩
  have hr := B.returns
  have hlk := B.notSynchronized
  obtain ⟨hx, hb, -, hown, hts⟩ := id F
  have hg : ∀ q ∈ lwg, q.before _ s = true := fun q h => hts q (List.mem_cons_of_mem _ h)
  refine g_entry (Nat.le_of_ble_eq_true rfl) (fun ls hl => ?_)
  have hl : lv_has ls 2 [(0, .ref (gad G 3))] := hl
  have S : St G w s s.heap [] := S
  generalize s.heap = H at S ⊢
  generalize ([] : List Loc) = locs at S ⊢
  rw [f_X6_isName] at hz
  refine lv_aload_n hx hb dX6_isName_0 rfl (lv_at hl 0 rfl) ?_
  refine fg_X6_0 hx hb (fun q h => hg q (tl_X6 q h)) hown (hg _ t_fl_X6_9) S (by decide) dX6_isName_1 ?_
  refine g_str 0 (by decide) hx hb S hown rfl dX6_isName_4 ?_
  obtain ⟨q1, e2, hz⟩ := bd hz
  refine g_callVb (As := [.ref (gK G 0)]) (rest := []) F S (c_X7_says l G 0 (by decide) _ e2) (cw_X6_isName_X7_says_70 hg) (S.obj (by decide) (by decide) rfl (oc_X7 _ _ _ (by decide))) rfl hl.1 rfl (Nat.le_of_ble_eq_true rfl) ⟨Nat.zero_le _, Nat.zero_le _⟩ dX6_isName_6 (fun H locs hB3 S => ?_)
  refine lv_if_ne (tgt := 36) hx hb dX6_isName_9 (by decide) (fun c4 => ?_) (fun c4 => ?_)
  · have hz := ipf (c4) hz
    exact w_X6_isName_36 F hr hlk _ _ _ _ S (lv_sub hl [0] rfl) hz
  · have hz := ipt (c4) hz
    refine lv_aload_n hx hb dX6_isName_12 rfl (lv_at hl 0 rfl) ?_
    refine fg_X6_0 hx hb (fun q h => hg q (tl_X6 q h)) hown (hg _ t_fl_X6_9) S (by decide) dX6_isName_13 ?_
    refine g_str 3 (by decide) hx hb S hown rfl dX6_isName_16 ?_
    obtain ⟨q20, e21, hz⟩ := bd hz
    refine g_callVb (As := [.ref (gK G 3)]) (rest := []) F S (c_X7_says l G 3 (by decide) _ e21) (cw_X6_isName_X7_says_70 hg) (S.obj (by decide) (by decide) rfl (oc_X7 _ _ _ (by decide))) rfl hl.1 rfl (Nat.le_of_ble_eq_true rfl) ⟨Nat.zero_le _, Nat.zero_le _⟩ dX6_isName_18 (fun H locs hB22 S => ?_)
    refine lv_if_ne (tgt := 36) hx hb dX6_isName_21 (by decide) (fun c23 => ?_) (fun c23 => ?_)
    · have hz := ipf (c23) hz
      exact w_X6_isName_36 F hr hlk _ _ _ _ S (lv_sub hl [0] rfl) hz
    · have hz := ipt (c23) hz
      refine lv_aload_n hx hb dX6_isName_24 rfl (lv_at hl 0 rfl) ?_
      refine fg_X6_0 hx hb (fun q h => hg q (tl_X6 q h)) hown (hg _ t_fl_X6_9) S (by decide) dX6_isName_25 ?_
      refine g_str 6 (by decide) hx hb S hown rfl dX6_isName_28 ?_
      obtain ⟨q24, e25, hz⟩ := bd hz
      refine g_callVb (As := [.ref (gK G 6)]) (rest := []) F S (c_X7_says l G 6 (by decide) _ e25) (cw_X6_isName_X7_says_70 hg) (S.obj (by decide) (by decide) rfl (oc_X7 _ _ _ (by decide))) rfl hl.1 rfl (Nat.le_of_ble_eq_true rfl) ⟨Nat.zero_le _, Nat.zero_le _⟩ dX6_isName_30 (fun H locs hB26 S => ?_)
      refine lv_if_eq (tgt := 40) hx hb dX6_isName_33 (by decide) (fun c27 => ?_) (fun c27 => ?_)
      · have hz := ipt (c27) hz
        refine lv_iconst (v := 0) hx hb dX6_isName_40 (by decide) ?_
        exact w_X6_isName_41 F hr hlk 0 isB_0 _ _ _ _ S (lv_sub hl [0] rfl) hz
      · have hz := ipf (c27) hz
        exact w_X6_isName_36 F hr hlk _ _ _ _ S (lv_sub hl [0] rfl) hz
noncomputable def f_X6_rule  (w : GW) : Option (Int32 × GW) :=
  (f_X7_says 11 w).bind fun q1 =>
  if q1.1 = 0 then
    (f_X7_says 12 q1.2).bind fun q5 =>
    if q5.1 = 0 then
      (f_X7_says 13 q5.2).bind fun q9 =>
      if q9.1 = 0 then
        (f_X7_says 14 q9.2).bind fun q13 =>
        if q13.1 = 0 then
          (f_X7_says 15 q13.2).bind fun q17 =>
          if q17.1 = 0 then
            some ((-1), q17.2)
          else
            some (4, q17.2)
        else
          some (3, q13.2)
      else
        some (2, q9.2)
    else
      some (1, q5.2)
  else
    some (0, q1.2)
set_option maxHeartbeats 4000000 in
set_option maxRecDepth 100000 in
theorem c_X6_rule (l : Launch) (G : GG)   (w : GW) {z : Int32 × GW} (hz : f_X6_rule  w = some z) : Met l yX6_rule (wsU yX6_rule cX6_rule 1 (some .int)) rm_X6_rule (va_Pc [.ref (gad G 3)] (PreG G w)) (QI G z) 0 0 (gA G) := by
  refine Met.ofW (cc := cX6_rule) (maxL := 1) (ret := (some .int)) (by decide) rfl ?_
  intro p e s m args below meth c s₁ B hml hv
  obtain ⟨rfl, S⟩ := hv
  have F : CallFix p m c cX6_rule 1 s _ (wsU yX6_rule cX6_rule 1 (some .int)) RX6 := ⟨B.exec, B.bytes, hml, findClass_of_methodNamed B.named, atoms_spec B.pre⟩
  have hr := B.returns
  have hlk := B.notSynchronized
  obtain ⟨hx, hb, -, hown, hts⟩ := id F
  have hg : ∀ q ∈ lwg, q.before _ s = true := fun q h => hts q (List.mem_cons_of_mem _ h)
  refine g_entry (Nat.le_of_ble_eq_true rfl) (fun ls hl => ?_)
  have hl : lv_has ls 1 [(0, .ref (gad G 3))] := hl
  have S : St G w s s.heap [] := S
  generalize s.heap = H at S ⊢
  generalize ([] : List Loc) = locs at S ⊢
  rw [f_X6_rule] at hz
  refine lv_aload_n hx hb dX6_rule_0 rfl (lv_at hl 0 rfl) ?_
  refine fg_X6_0 hx hb (fun q h => hg q (tl_X6 q h)) hown (hg _ t_fl_X6_9) S (by decide) dX6_rule_1 ?_
  refine g_str 11 (by decide) hx hb S hown rfl dX6_rule_4 ?_
  obtain ⟨q1, e2, hz⟩ := bd hz
  refine g_callVb (As := [.ref (gK G 11)]) (rest := []) F S (c_X7_says l G 11 (by decide) _ e2) (cw_X6_rule_X7_says_70 hg) (S.obj (by decide) (by decide) rfl (oc_X7 _ _ _ (by decide))) rfl hl.1 rfl (Nat.le_of_ble_eq_true rfl) ⟨Nat.zero_le _, Nat.zero_le _⟩ dX6_rule_6 (fun H locs hB3 S => ?_)
  refine lv_if_eq (tgt := 14) hx hb dX6_rule_9 (by decide) (fun c4 => ?_) (fun c4 => ?_)
  · have hz := ipt (c4) hz
    refine lv_aload_n hx hb dX6_rule_14 rfl (lv_at hl 0 rfl) ?_
    refine fg_X6_0 hx hb (fun q h => hg q (tl_X6 q h)) hown (hg _ t_fl_X6_9) S (by decide) dX6_rule_15 ?_
    refine g_str 12 (by decide) hx hb S hown rfl dX6_rule_18 ?_
    obtain ⟨q5, e6, hz⟩ := bd hz
    refine g_callVb (As := [.ref (gK G 12)]) (rest := []) F S (c_X7_says l G 12 (by decide) _ e6) (cw_X6_rule_X7_says_70 hg) (S.obj (by decide) (by decide) rfl (oc_X7 _ _ _ (by decide))) rfl hl.1 rfl (Nat.le_of_ble_eq_true rfl) ⟨Nat.zero_le _, Nat.zero_le _⟩ dX6_rule_20 (fun H locs hB7 S => ?_)
    refine lv_if_eq (tgt := 28) hx hb dX6_rule_23 (by decide) (fun c8 => ?_) (fun c8 => ?_)
    · have hz := ipt (c8) hz
      refine lv_aload_n hx hb dX6_rule_28 rfl (lv_at hl 0 rfl) ?_
      refine fg_X6_0 hx hb (fun q h => hg q (tl_X6 q h)) hown (hg _ t_fl_X6_9) S (by decide) dX6_rule_29 ?_
      refine g_str 13 (by decide) hx hb S hown rfl dX6_rule_32 ?_
      obtain ⟨q9, e10, hz⟩ := bd hz
      refine g_callVb (As := [.ref (gK G 13)]) (rest := []) F S (c_X7_says l G 13 (by decide) _ e10) (cw_X6_rule_X7_says_70 hg) (S.obj (by decide) (by decide) rfl (oc_X7 _ _ _ (by decide))) rfl hl.1 rfl (Nat.le_of_ble_eq_true rfl) ⟨Nat.zero_le _, Nat.zero_le _⟩ dX6_rule_34 (fun H locs hB11 S => ?_)
      refine lv_if_eq (tgt := 42) hx hb dX6_rule_37 (by decide) (fun c12 => ?_) (fun c12 => ?_)
      · have hz := ipt (c12) hz
        refine lv_aload_n hx hb dX6_rule_42 rfl (lv_at hl 0 rfl) ?_
        refine fg_X6_0 hx hb (fun q h => hg q (tl_X6 q h)) hown (hg _ t_fl_X6_9) S (by decide) dX6_rule_43 ?_
        refine g_str 14 (by decide) hx hb S hown rfl dX6_rule_46 ?_
        obtain ⟨q13, e14, hz⟩ := bd hz
        refine g_callVb (As := [.ref (gK G 14)]) (rest := []) F S (c_X7_says l G 14 (by decide) _ e14) (cw_X6_rule_X7_says_70 hg) (S.obj (by decide) (by decide) rfl (oc_X7 _ _ _ (by decide))) rfl hl.1 rfl (Nat.le_of_ble_eq_true rfl) ⟨Nat.zero_le _, Nat.zero_le _⟩ dX6_rule_48 (fun H locs hB15 S => ?_)
        refine lv_if_eq (tgt := 56) hx hb dX6_rule_51 (by decide) (fun c16 => ?_) (fun c16 => ?_)
        · have hz := ipt (c16) hz
          refine lv_aload_n hx hb dX6_rule_56 rfl (lv_at hl 0 rfl) ?_
          refine fg_X6_0 hx hb (fun q h => hg q (tl_X6 q h)) hown (hg _ t_fl_X6_9) S (by decide) dX6_rule_57 ?_
          refine g_str 15 (by decide) hx hb S hown rfl dX6_rule_60 ?_
          obtain ⟨q17, e18, hz⟩ := bd hz
          refine g_callVb (As := [.ref (gK G 15)]) (rest := []) F S (c_X7_says l G 15 (by decide) _ e18) (cw_X6_rule_X7_says_70 hg) (S.obj (by decide) (by decide) rfl (oc_X7 _ _ _ (by decide))) rfl hl.1 rfl (Nat.le_of_ble_eq_true rfl) ⟨Nat.zero_le _, Nat.zero_le _⟩ dX6_rule_62 (fun H locs hB19 S => ?_)
          refine lv_if_eq (tgt := 72) hx hb dX6_rule_65 (by decide) (fun c20 => ?_) (fun c20 => ?_)
          · have hz := ipt (c20) hz
            refine lv_iconst (v := (-1)) hx hb dX6_rule_72 (by decide) ?_
            exact g_reti hx hb hr hlk S hz dX6_rule_73
          · have hz := ipf (c20) hz
            refine lv_iconst (v := 4) hx hb dX6_rule_68 (by decide) ?_
            refine lv_goto (tgt := 73) hx hb dX6_rule_69 (by decide) ?_
            exact g_reti hx hb hr hlk S hz dX6_rule_73
        · have hz := ipf (c16) hz
          refine lv_iconst (v := 3) hx hb dX6_rule_54 (by decide) ?_
          exact g_reti hx hb hr hlk S hz dX6_rule_55
      · have hz := ipf (c12) hz
        refine lv_iconst (v := 2) hx hb dX6_rule_40 (by decide) ?_
        exact g_reti hx hb hr hlk S hz dX6_rule_41
    · have hz := ipf (c8) hz
      refine lv_iconst (v := 1) hx hb dX6_rule_26 (by decide) ?_
      exact g_reti hx hb hr hlk S hz dX6_rule_27
  · have hz := ipf (c4) hz
    refine lv_iconst (v := 0) hx hb dX6_rule_12 (by decide) ?_
    exact g_reti hx hb hr hlk S hz dX6_rule_13
noncomputable def f_X6_porterLine_175  (t0 : Int32) (t1 : Int32) (t2 : Int32) (t3 : Nat) (w : GW) : Option (Int32 × GW) :=
  (f_X4_become t3 t2 t1 t0 w).bind fun q31 =>
  some (1, (sI q31.2 (fxH (gR q31.2 2)) 8 ((gI q31.2 (fxH (gR q31.2 2)) 8) + 1)))
noncomputable def f_X6_porterLine_150  (x1 : Int32) (x2 : Int32) (x3 : Int32) (w : GW) : Option (Int32 × GW) :=
  if inb x1 6 then
  if x3 = 2 then
    f_X6_porterLine_175 (gI w 3 2) x3 x2 (((fxH (gR w 2)) + 4) + 1 + ix x1) w
  else
    f_X6_porterLine_175 (-2) x3 x2 (((fxH (gR w 2)) + 4) + 1 + ix x1) w
  else none
noncomputable def f_X6_porterLine  (w : GW) : Option (Int32 × GW) :=
  if (gI w (fxH (gR w 2)) 8) < 6 then
    (f_X7_advance w).bind fun q2 =>
    (f_X6_isName q2.2).bind fun q4 =>
    if q4.1 = 0 then
      (f_X6_wrong 1 q4.2).bind fun q43 =>
      some (q43.1, q43.2)
    else
      (f_X3_hasName (fxH (gR q4.2 2)) (gL q4.2 1 7) q4.2).bind fun q8 =>
      if q8.1 = 0 then
        if inb (gI w (fxH (gR w 2)) 8) 6 then
        (f_X7_advance (sL q8.2 ((fxH (gR q8.2 2)) + 11) (ix (gI w (fxH (gR w 2)) 8)) (gL q8.2 1 7))).bind fun q13 =>
        (f_X6_word 10 q13.2).bind fun q15 =>
        if q15.1 = 0 then
          some (0, q15.2)
        else
          (f_X6_whole 1 3 q15.2).bind fun q19 =>
          if q19.1 = 0 then
            some (0, q19.2)
          else
            (f_X6_rule q19.2).bind fun q23 =>
            if 0 ≤ q23.1 then
              (f_X7_advance q23.2).bind fun q26 =>
              if q23.1 = 2 then
                (f_X6_whole 0 8 q26.2).bind fun q33 =>
                if q33.1 = 0 then
                  some (0, q33.2)
                else
                  f_X6_porterLine_150 (gI w (fxH (gR w 2)) 8) (gI q19.2 3 2) q23.1 q33.2
              else
                f_X6_porterLine_150 (gI w (fxH (gR w 2)) 8) (gI q19.2 3 2) q23.1 q26.2
            else
              (f_X6_wrong 1 q23.2).bind fun q37 =>
              some (q37.1, q37.2)
        else none
      else
        (f_X6_wrong 3 q8.2).bind fun q40 =>
        some (q40.1, q40.2)
  else
    (f_X6_wrong 5 w).bind fun q46 =>
    some (q46.1, q46.2)
set_option maxHeartbeats 4000000 in
set_option maxRecDepth 100000 in
theorem w_X6_porterLine_175 {p : Program} {l : Launch} {e : Env} {s : State} {m : MethodId} {args : Array Value} {below : List Frame} {meth : Method} {c : Code} {G : GG} (F : CallFix p m c cX6_porterLine 4 s args (wsU yX6_porterLine cX6_porterLine 4 (some .boolean)) RX6) (hr : meth.sig.returnType = (some .boolean)) (hlk : meth.locks = false) {z : Int32 × GW} : (∀ (t0 : Int32) (t1 : Int32) (t2 : Int32) (t3 : Nat) (ht3 : kd t3 = 4) (w : GW) (H : Heap) (locs : List Loc) (ls : Array Slot), St G w s H locs → lv_has ls 4 [(0, .ref (gad G 3))] → f_X6_porterLine_175 t0 t1 t2 t3 w = some z → W p l e (headSpec (wsU yX6_porterLine cX6_porterLine 4 (some .boolean)) rm_X6_porterLine).room s m args below meth c H locs 0 0 (MQ below (QB G z) args s 0 0 (gA G)) (F0 m 175 ls [.int t0, .int t1, .int t2, .ref (gad G t3)])) := by
  obtain ⟨hx, hb, hml, hown, hts⟩ := id F
  have hg : ∀ q ∈ lwg, q.before args s = true := fun q h => hts q (List.mem_cons_of_mem _ h)
  intro t0 t1 t2 t3 ht3 w H locs ls S hl hz
  rw [f_X6_porterLine_175] at hz
  obtain ⟨q31, e32, hz⟩ := bd hz
  refine g_callVv (As := [.int t2, .int t1, .int t0]) (rest := []) F S (c_X4_become l G t3 t2 t1 t0 ht3 _ e32) (cw_X6_porterLine_X4_become_162 hg) (S.obj ht3 (by decide) rfl (oc_X4 _ _ _ ht3)) rfl hl.1 rfl (Nat.le_of_ble_eq_true rfl) ⟨Nat.zero_le _, Nat.zero_le _⟩ dX6_porterLine_175 (fun H locs  S => ?_)
  refine lv_aload_n hx hb dX6_porterLine_178 rfl (lv_at hl 0 rfl) ?_
  refine fg_X6_1 hx hb (fun q h => hg q (tl_X6 q h)) hown (hg _ t_fl_X6_18) S (by decide) dX6_porterLine_179 ?_
  refine lv_dup hx hb dX6_porterLine_182 rfl ?_
  refine fg_X3_8 hx hb (fun q h => hg q (tl_X3 q h)) hown (hg _ t_fl_X6_59) S (kd_H _) dX6_porterLine_183 ?_
  refine lv_iconst (v := 1) hx hb dX6_porterLine_186 (by decide) ?_
  refine lv_iadd hx hb dX6_porterLine_187 ?_
  refine fp_X3_8 (v := ((gI q31.2 (fxH (gR q31.2 2)) 8) + 1)) hx hb (fun q h => hg q (tl_X3 q h)) hown (hg _ t_fl_X6_59) S (kd_H _) dX6_porterLine_188 (fun H locs S => ?_)
  refine lv_iconst (v := 1) hx hb dX6_porterLine_191 (by decide) ?_
  exact g_retb hx hb hr hlk S isB_1 hz dX6_porterLine_192
set_option maxHeartbeats 4000000 in
set_option maxRecDepth 100000 in
theorem w_X6_porterLine_150 {p : Program} {l : Launch} {e : Env} {s : State} {m : MethodId} {args : Array Value} {below : List Frame} {meth : Method} {c : Code} {G : GG} (F : CallFix p m c cX6_porterLine 4 s args (wsU yX6_porterLine cX6_porterLine 4 (some .boolean)) RX6) (hr : meth.sig.returnType = (some .boolean)) (hlk : meth.locks = false) {z : Int32 × GW} : (∀ (x1 : Int32) (x2 : Int32) (x3 : Int32) (w : GW) (H : Heap) (locs : List Loc) (ls : Array Slot), St G w s H locs → lv_has ls 4 [(0, .ref (gad G 3)), (1, .int x1), (2, .int x2), (3, .int x3)] → f_X6_porterLine_150 x1 x2 x3 w = some z → W p l e (headSpec (wsU yX6_porterLine cX6_porterLine 4 (some .boolean)) rm_X6_porterLine).room s m args below meth c H locs 0 0 (MQ below (QB G z) args s 0 0 (gA G)) (F0 m 150 ls [])) := by
  obtain ⟨hx, hb, hml, hown, hts⟩ := id F
  have hg : ∀ q ∈ lwg, q.before args s = true := fun q h => hts q (List.mem_cons_of_mem _ h)
  intro x1 x2 x3 w H locs ls S hl hz
  rw [f_X6_porterLine_150] at hz
  refine lv_aload_n hx hb dX6_porterLine_150 rfl (lv_at hl 0 rfl) ?_
  refine fg_X6_1 hx hb (fun q h => hg q (tl_X6 q h)) hown (hg _ t_fl_X6_18) S (by decide) dX6_porterLine_151 ?_
  refine fg_X3_13 hx hb (fun q h => hg q (tl_X3 q h)) hown (hg _ t_fl_X6_159) S (kd_H _) dX6_porterLine_154 ?_
  refine lv_iload_n hx hb dX6_porterLine_157 rfl (lv_at hl 1 rfl) ?_
  obtain ⟨h29, hz⟩ := ck hz
  refine g_aald33 hx hb S (kd_3_4 (kd_H _)) h29 dX6_porterLine_158 ?_
  refine lv_iload_n hx hb dX6_porterLine_159 rfl (lv_at hl 2 rfl) ?_
  refine lv_iload_n hx hb dX6_porterLine_160 rfl (lv_at hl 3 rfl) ?_
  refine lv_iload_n hx hb dX6_porterLine_161 rfl (lv_at hl 3 rfl) ?_
  refine lv_iconst (v := 2) hx hb dX6_porterLine_162 (by decide) ?_
  refine lv_icmp_ne (tgt := 173) hx hb dX6_porterLine_163 (by decide) (fun c30 => ?_) (fun c30 => ?_)
  · have hz := ipf (c30) hz
    refine lv_bipush (v := (-2)) hx hb dX6_porterLine_173 (by decide) ?_
    exact w_X6_porterLine_175 F hr hlk (-2) x3 x2 (((fxH (gR w 2)) + 4) + 1 + ix x1) (kd_el33 (kd_3_4 (kd_H _)) (h29).2) _ _ _ _ S (lv_sub hl [0] rfl) hz
  · have hz := ipt (c30) hz
    refine lv_aload_n hx hb dX6_porterLine_166 rfl (lv_at hl 0 rfl) ?_
    refine fg_X6_2 hx hb (fun q h => hg q (tl_X6 q h)) hown (hg _ t_fl_X6_105) S (by decide) dX6_porterLine_167 ?_
    refine lv_goto (tgt := 175) hx hb dX6_porterLine_170 (by decide) ?_
    exact w_X6_porterLine_175 F hr hlk (gI w 3 2) x3 x2 (((fxH (gR w 2)) + 4) + 1 + ix x1) (kd_el33 (kd_3_4 (kd_H _)) (h29).2) _ _ _ _ S (lv_sub hl [0] rfl) hz
set_option maxHeartbeats 4000000 in
set_option maxRecDepth 100000 in
theorem c_X6_porterLine (l : Launch) (G : GG)   (w : GW) {z : Int32 × GW} (hz : f_X6_porterLine  w = some z) : Met l yX6_porterLine (wsU yX6_porterLine cX6_porterLine 4 (some .boolean)) rm_X6_porterLine (va_Pc [.ref (gad G 3)] (PreG G w)) (QB G z) 0 0 (gA G) := by
  refine Met.ofW (cc := cX6_porterLine) (maxL := 4) (ret := (some .boolean)) (by decide) rfl ?_
  intro p e s m args below meth c s₁ B hml hv
  obtain ⟨rfl, S⟩ := hv
  have F : CallFix p m c cX6_porterLine 4 s _ (wsU yX6_porterLine cX6_porterLine 4 (some .boolean)) RX6 := ⟨B.exec, B.bytes, hml, findClass_of_methodNamed B.named, atoms_spec B.pre⟩
  have hr := B.returns
  have hlk := B.notSynchronized
  obtain ⟨hx, hb, -, hown, hts⟩ := id F
  have hg : ∀ q ∈ lwg, q.before _ s = true := fun q h => hts q (List.mem_cons_of_mem _ h)
  refine g_entry (Nat.le_of_ble_eq_true rfl) (fun ls hl => ?_)
  have hl : lv_has ls 4 [(0, .ref (gad G 3))] := hl
  have S : St G w s s.heap [] := S
  generalize s.heap = H at S ⊢
  generalize ([] : List Loc) = locs at S ⊢
  rw [f_X6_porterLine] at hz
  refine lv_aload_n hx hb dX6_porterLine_0 rfl (lv_at hl 0 rfl) ?_
  refine fg_X6_1 hx hb (fun q h => hg q (tl_X6 q h)) hown (hg _ t_fl_X6_18) S (by decide) dX6_porterLine_1 ?_
  refine fg_X3_8 hx hb (fun q h => hg q (tl_X3 q h)) hown (hg _ t_fl_X6_59) S (kd_H _) dX6_porterLine_4 ?_
  refine lv_istore_n (lv' := [(1, .int (gI w (fxH (gR w 2)) 8)), (0, .ref (gad G 3))]) hx hb dX6_porterLine_7 rfl hl (by decide) rfl (fun ls hl => ?_)
  refine lv_iload_n hx hb dX6_porterLine_8 rfl (lv_at hl 0 rfl) ?_
  refine lv_bipush (v := 6) hx hb dX6_porterLine_9 (by decide) ?_
  refine lv_icmp_lt (tgt := 20) hx hb dX6_porterLine_11 (by decide) (fun c1 => ?_) (fun c1 => ?_)
  · have hz := ipt (c1) hz
    refine lv_aload_n hx hb dX6_porterLine_20 rfl (lv_at hl 1 rfl) ?_
    refine fg_X6_0 hx hb (fun q h => hg q (tl_X6 q h)) hown (hg _ t_fl_X6_9) S (by decide) dX6_porterLine_21 ?_
    obtain ⟨q2, e3, hz⟩ := bd hz
    refine g_callVv (As := []) (rest := []) F S (c_X7_advance l G   _ e3) (cw_X6_porterLine_X7_advance_52 hg) (S.obj (by decide) (by decide) rfl (oc_X7 _ _ _ (by decide))) rfl hl.1 rfl (Nat.le_of_ble_eq_true rfl) ⟨Nat.zero_le _, Nat.zero_le _⟩ dX6_porterLine_24 (fun H locs  S => ?_)
    refine lv_aload_n hx hb dX6_porterLine_27 rfl (lv_at hl 1 rfl) ?_
    obtain ⟨q4, e5, hz⟩ := bd hz
    refine g_callVb (As := []) (rest := []) F S (c_X6_isName l G   _ e5) (cw_X6_porterLine_X6_isName_139 hg) (S.obj (by decide) (by decide) rfl (oc_X6 _ _ _ (by decide))) rfl hl.1 rfl (Nat.le_of_ble_eq_true rfl) ⟨Nat.zero_le _, Nat.zero_le _⟩ dX6_porterLine_28 (fun H locs hB6 S => ?_)
    refine lv_if_ne (tgt := 40) hx hb dX6_porterLine_31 (by decide) (fun c7 => ?_) (fun c7 => ?_)
    · have hz := ipf (c7) hz
      refine lv_aload_n hx hb dX6_porterLine_40 rfl (lv_at hl 1 rfl) ?_
      refine fg_X6_1 hx hb (fun q h => hg q (tl_X6 q h)) hown (hg _ t_fl_X6_18) S (by decide) dX6_porterLine_41 ?_
      refine lv_aload_n hx hb dX6_porterLine_44 rfl (lv_at hl 1 rfl) ?_
      refine fg_X6_0 hx hb (fun q h => hg q (tl_X6 q h)) hown (hg _ t_fl_X6_9) S (by decide) dX6_porterLine_45 ?_
      refine fg_X7_7 hx hb (fun q h => hg q (tl_X7 q h)) hown (hg _ t_fl_X6_142) S (by decide) dX6_porterLine_48 ?_
      obtain ⟨q8, e9, hz⟩ := bd hz
      refine g_callVb (As := [.long (gL q4.2 1 7)]) (rest := []) F S (c_X3_hasName l G (fxH (gR q4.2 2)) (gL q4.2 1 7) (kd_H _) _ e9) (cw_X6_porterLine_X3_hasName_146 hg) (S.obj (kd_H _) (by decide) rfl (oc_X3 _ _ _ (kd_H _))) rfl hl.1 rfl (Nat.le_of_ble_eq_true rfl) ⟨Nat.zero_le _, Nat.zero_le _⟩ dX6_porterLine_51 (fun H locs hB10 S => ?_)
      refine lv_if_eq (tgt := 63) hx hb dX6_porterLine_54 (by decide) (fun c11 => ?_) (fun c11 => ?_)
      · have hz := ipt (c11) hz
        refine lv_aload_n hx hb dX6_porterLine_63 rfl (lv_at hl 1 rfl) ?_
        refine fg_X6_1 hx hb (fun q h => hg q (tl_X6 q h)) hown (hg _ t_fl_X6_18) S (by decide) dX6_porterLine_64 ?_
        refine fg_X3_14 hx hb (fun q h => hg q (tl_X3 q h)) hown (hg _ t_fl_X6_150) S (kd_H _) dX6_porterLine_67 ?_
        refine lv_iload_n hx hb dX6_porterLine_70 rfl (lv_at hl 0 rfl) ?_
        refine lv_aload_n hx hb dX6_porterLine_71 rfl (lv_at hl 1 rfl) ?_
        refine fg_X6_0 hx hb (fun q h => hg q (tl_X6 q h)) hown (hg _ t_fl_X6_9) S (by decide) dX6_porterLine_72 ?_
        refine fg_X7_7 hx hb (fun q h => hg q (tl_X7 q h)) hown (hg _ t_fl_X6_142) S (by decide) dX6_porterLine_75 ?_
        obtain ⟨h12, hz⟩ := ck hz
        refine g_last (x := (gL q8.2 1 7)) hx hb S (isA_26 (kd_3_11 (kd_H _))) h12 dX6_porterLine_78 (fun H locs S => ?_)
        refine lv_aload_n hx hb dX6_porterLine_79 rfl (lv_at hl 1 rfl) ?_
        refine fg_X6_0 hx hb (fun q h => hg q (tl_X6 q h)) hown (hg _ t_fl_X6_9) S (by decide) dX6_porterLine_80 ?_
        obtain ⟨q13, e14, hz⟩ := bd hz
        refine g_callVv (As := []) (rest := []) F S (c_X7_advance l G   _ e14) (cw_X6_porterLine_X7_advance_52 hg) (S.obj (by decide) (by decide) rfl (oc_X7 _ _ _ (by decide))) rfl hl.1 rfl (Nat.le_of_ble_eq_true rfl) ⟨Nat.zero_le _, Nat.zero_le _⟩ dX6_porterLine_83 (fun H locs  S => ?_)
        refine lv_aload_n hx hb dX6_porterLine_86 rfl (lv_at hl 1 rfl) ?_
        refine g_str 10 (by decide) hx hb S hown rfl dX6_porterLine_87 ?_
        obtain ⟨q15, e16, hz⟩ := bd hz
        refine g_callVb (As := [.ref (gK G 10)]) (rest := []) F S (c_X6_word l G 10 (by decide) _ e16) (cw_X6_porterLine_X6_word_114 hg) (S.obj (by decide) (by decide) rfl (oc_X6 _ _ _ (by decide))) rfl hl.1 rfl (Nat.le_of_ble_eq_true rfl) ⟨Nat.zero_le _, Nat.zero_le _⟩ dX6_porterLine_89 (fun H locs hB17 S => ?_)
        refine lv_if_eq (tgt := 104) hx hb dX6_porterLine_92 (by decide) (fun c18 => ?_) (fun c18 => ?_)
        · have hz := ipt (c18) hz
          refine lv_iconst (v := 0) hx hb dX6_porterLine_104 (by decide) ?_
          exact g_retb hx hb hr hlk S isB_0 hz dX6_porterLine_105
        · have hz := ipf (c18) hz
          refine lv_aload_n hx hb dX6_porterLine_95 rfl (lv_at hl 1 rfl) ?_
          refine lv_iconst (v := 1) hx hb dX6_porterLine_96 (by decide) ?_
          refine lv_iconst (v := 3) hx hb dX6_porterLine_97 (by decide) ?_
          obtain ⟨q19, e20, hz⟩ := bd hz
          refine g_callVb (As := [.int 1, .int 3]) (rest := []) F S (c_X6_whole l G 1 3  _ e20) (cw_X6_porterLine_X6_whole_117 hg) (S.obj (by decide) (by decide) rfl (oc_X6 _ _ _ (by decide))) rfl hl.1 rfl (Nat.le_of_ble_eq_true rfl) ⟨Nat.zero_le _, Nat.zero_le _⟩ dX6_porterLine_98 (fun H locs hB21 S => ?_)
          refine lv_if_ne (tgt := 106) hx hb dX6_porterLine_101 (by decide) (fun c22 => ?_) (fun c22 => ?_)
          · have hz := ipf (c22) hz
            refine lv_aload_n hx hb dX6_porterLine_106 rfl (lv_at hl 1 rfl) ?_
            refine fg_X6_2 hx hb (fun q h => hg q (tl_X6 q h)) hown (hg _ t_fl_X6_105) S (by decide) dX6_porterLine_107 ?_
            refine lv_istore_n (lv' := [(2, .int (gI q19.2 3 2)), (1, .int (gI w (fxH (gR w 2)) 8)), (0, .ref (gad G 3))]) hx hb dX6_porterLine_110 rfl hl (by decide) rfl (fun ls hl => ?_)
            refine lv_aload_n hx hb dX6_porterLine_111 rfl (lv_at hl 2 rfl) ?_
            obtain ⟨q23, e24, hz⟩ := bd hz
            refine g_callVi (As := []) (rest := []) F S (c_X6_rule l G   _ e24) (cw_X6_porterLine_X6_rule_155 hg) (S.obj (by decide) (by decide) rfl (oc_X6 _ _ _ (by decide))) rfl hl.1 rfl (Nat.le_of_ble_eq_true rfl) ⟨Nat.zero_le _, Nat.zero_le _⟩ dX6_porterLine_112 (fun H locs  S => ?_)
            refine lv_istore_n (lv' := [(3, .int q23.1), (2, .int (gI q19.2 3 2)), (1, .int (gI w (fxH (gR w 2)) 8)), (0, .ref (gad G 3))]) hx hb dX6_porterLine_115 rfl hl (by decide) rfl (fun ls hl => ?_)
            refine lv_iload_n hx hb dX6_porterLine_116 rfl (lv_at hl 0 rfl) ?_
            refine lv_if_ge (tgt := 126) hx hb dX6_porterLine_117 (by decide) (fun c25 => ?_) (fun c25 => ?_)
            · have hz := ipt (c25) hz
              refine lv_aload_n hx hb dX6_porterLine_126 rfl (lv_at hl 3 rfl) ?_
              refine fg_X6_0 hx hb (fun q h => hg q (tl_X6 q h)) hown (hg _ t_fl_X6_9) S (by decide) dX6_porterLine_127 ?_
              obtain ⟨q26, e27, hz⟩ := bd hz
              refine g_callVv (As := []) (rest := []) F S (c_X7_advance l G   _ e27) (cw_X6_porterLine_X7_advance_52 hg) (S.obj (by decide) (by decide) rfl (oc_X7 _ _ _ (by decide))) rfl hl.1 rfl (Nat.le_of_ble_eq_true rfl) ⟨Nat.zero_le _, Nat.zero_le _⟩ dX6_porterLine_130 (fun H locs  S => ?_)
              refine lv_iload_n hx hb dX6_porterLine_133 rfl (lv_at hl 0 rfl) ?_
              refine lv_iconst (v := 2) hx hb dX6_porterLine_134 (by decide) ?_
              refine lv_icmp_ne (tgt := 150) hx hb dX6_porterLine_135 (by decide) (fun c28 => ?_) (fun c28 => ?_)
              · have hz := ipf (c28) hz
                exact w_X6_porterLine_150 F hr hlk (gI w (fxH (gR w 2)) 8) (gI q19.2 3 2) q23.1 _ _ _ _ S (lv_sub hl [3, 2, 1, 0] rfl) hz
              · have hz := ipt (c28) hz
                refine lv_aload_n hx hb dX6_porterLine_138 rfl (lv_at hl 3 rfl) ?_
                refine lv_iconst (v := 0) hx hb dX6_porterLine_139 (by decide) ?_
                refine lv_bipush (v := 8) hx hb dX6_porterLine_140 (by decide) ?_
                obtain ⟨q33, e34, hz⟩ := bd hz
                refine g_callVb (As := [.int 0, .int 8]) (rest := []) F S (c_X6_whole l G 0 8  _ e34) (cw_X6_porterLine_X6_whole_117 hg) (S.obj (by decide) (by decide) rfl (oc_X6 _ _ _ (by decide))) rfl hl.1 rfl (Nat.le_of_ble_eq_true rfl) ⟨Nat.zero_le _, Nat.zero_le _⟩ dX6_porterLine_142 (fun H locs hB35 S => ?_)
                refine lv_if_ne (tgt := 150) hx hb dX6_porterLine_145 (by decide) (fun c36 => ?_) (fun c36 => ?_)
                · have hz := ipf (c36) hz
                  exact w_X6_porterLine_150 F hr hlk (gI w (fxH (gR w 2)) 8) (gI q19.2 3 2) q23.1 _ _ _ _ S (lv_sub hl [3, 2, 1, 0] rfl) hz
                · have hz := ipt (c36) hz
                  refine lv_iconst (v := 0) hx hb dX6_porterLine_148 (by decide) ?_
                  exact g_retb hx hb hr hlk S isB_0 hz dX6_porterLine_149
            · have hz := ipf (c25) hz
              refine lv_aload_n hx hb dX6_porterLine_120 rfl (lv_at hl 3 rfl) ?_
              refine lv_iconst (v := 1) hx hb dX6_porterLine_121 (by decide) ?_
              obtain ⟨q37, e38, hz⟩ := bd hz
              refine g_callVb (As := [.int 1]) (rest := []) F S (c_X6_wrong l G 1  _ e38) (cw_X6_porterLine_X6_wrong_48 hg) (S.obj (by decide) (by decide) rfl (oc_X6 _ _ _ (by decide))) rfl hl.1 rfl (Nat.le_of_ble_eq_true rfl) ⟨Nat.zero_le _, Nat.zero_le _⟩ dX6_porterLine_122 (fun H locs hB39 S => ?_)
              exact g_retb hx hb hr hlk S hB39 hz dX6_porterLine_125
          · have hz := ipt (c22) hz
            refine lv_iconst (v := 0) hx hb dX6_porterLine_104 (by decide) ?_
            exact g_retb hx hb hr hlk S isB_0 hz dX6_porterLine_105
      · have hz := ipf (c11) hz
        refine lv_aload_n hx hb dX6_porterLine_57 rfl (lv_at hl 1 rfl) ?_
        refine lv_iconst (v := 3) hx hb dX6_porterLine_58 (by decide) ?_
        obtain ⟨q40, e41, hz⟩ := bd hz
        refine g_callVb (As := [.int 3]) (rest := []) F S (c_X6_wrong l G 3  _ e41) (cw_X6_porterLine_X6_wrong_48 hg) (S.obj (by decide) (by decide) rfl (oc_X6 _ _ _ (by decide))) rfl hl.1 rfl (Nat.le_of_ble_eq_true rfl) ⟨Nat.zero_le _, Nat.zero_le _⟩ dX6_porterLine_59 (fun H locs hB42 S => ?_)
        exact g_retb hx hb hr hlk S hB42 hz dX6_porterLine_62
    · have hz := ipt (c7) hz
      refine lv_aload_n hx hb dX6_porterLine_34 rfl (lv_at hl 1 rfl) ?_
      refine lv_iconst (v := 1) hx hb dX6_porterLine_35 (by decide) ?_
      obtain ⟨q43, e44, hz⟩ := bd hz
      refine g_callVb (As := [.int 1]) (rest := []) F S (c_X6_wrong l G 1  _ e44) (cw_X6_porterLine_X6_wrong_48 hg) (S.obj (by decide) (by decide) rfl (oc_X6 _ _ _ (by decide))) rfl hl.1 rfl (Nat.le_of_ble_eq_true rfl) ⟨Nat.zero_le _, Nat.zero_le _⟩ dX6_porterLine_36 (fun H locs hB45 S => ?_)
      exact g_retb hx hb hr hlk S hB45 hz dX6_porterLine_39
  · have hz := ipf (c1) hz
    refine lv_aload_n hx hb dX6_porterLine_14 rfl (lv_at hl 1 rfl) ?_
    refine lv_iconst (v := 5) hx hb dX6_porterLine_15 (by decide) ?_
    obtain ⟨q46, e47, hz⟩ := bd hz
    refine g_callVb (As := [.int 5]) (rest := []) F S (c_X6_wrong l G 5  _ e47) (cw_X6_porterLine_X6_wrong_48 hg) (S.obj (by decide) (by decide) rfl (oc_X6 _ _ _ (by decide))) rfl hl.1 rfl (Nat.le_of_ble_eq_true rfl) ⟨Nat.zero_le _, Nat.zero_le _⟩ dX6_porterLine_16 (fun H locs hB48 S => ?_)
    exact g_retb hx hb hr hlk S hB48 hz dX6_porterLine_19
noncomputable def f_X6_doorLine  (w : GW) : Option (Int32 × GW) :=
  if (gI w (fxH (gR w 2)) 6) ≤ 0 then
    if (gI w (fxH (gR w 2)) 0) = 0 then
      (f_X6_wrong 6 w).bind fun q17 =>
      some (q17.1, q17.2)
    else
      (f_X7_advance w).bind fun q3 =>
      (f_X6_whole 0 ((gI q3.2 (fxH (gR q3.2 2)) 1) - 1) q3.2).bind fun q5 =>
      if q5.1 = 0 then
        some (0, q5.2)
      else
        (f_X6_word 16 (sI q5.2 (fxH (gR q5.2 2)) 5 (gI q5.2 3 2))).bind fun q9 =>
        if q9.1 = 0 then
          some (0, q9.2)
        else
          (f_X6_whole 1 9 q9.2).bind fun q13 =>
          if q13.1 = 0 then
            some (0, q13.2)
          else
            some (1, (sI q13.2 (fxH (gR q13.2 2)) 6 (gI q13.2 3 2)))
  else
    (f_X6_wrong 3 w).bind fun q20 =>
    some (q20.1, q20.2)
set_option maxHeartbeats 4000000 in
set_option maxRecDepth 100000 in
theorem c_X6_doorLine (l : Launch) (G : GG)   (w : GW) {z : Int32 × GW} (hz : f_X6_doorLine  w = some z) : Met l yX6_doorLine (wsU yX6_doorLine cX6_doorLine 1 (some .boolean)) rm_X6_doorLine (va_Pc [.ref (gad G 3)] (PreG G w)) (QB G z) 0 0 (gA G) := by
  refine Met.ofW (cc := cX6_doorLine) (maxL := 1) (ret := (some .boolean)) (by decide) rfl ?_
  intro p e s m args below meth c s₁ B hml hv
  obtain ⟨rfl, S⟩ := hv
  have F : CallFix p m c cX6_doorLine 1 s _ (wsU yX6_doorLine cX6_doorLine 1 (some .boolean)) RX6 := ⟨B.exec, B.bytes, hml, findClass_of_methodNamed B.named, atoms_spec B.pre⟩
  have hr := B.returns
  have hlk := B.notSynchronized
  obtain ⟨hx, hb, -, hown, hts⟩ := id F
  have hg : ∀ q ∈ lwg, q.before _ s = true := fun q h => hts q (List.mem_cons_of_mem _ h)
  refine g_entry (Nat.le_of_ble_eq_true rfl) (fun ls hl => ?_)
  have hl : lv_has ls 1 [(0, .ref (gad G 3))] := hl
  have S : St G w s s.heap [] := S
  generalize s.heap = H at S ⊢
  generalize ([] : List Loc) = locs at S ⊢
  rw [f_X6_doorLine] at hz
  refine lv_aload_n hx hb dX6_doorLine_0 rfl (lv_at hl 0 rfl) ?_
  refine fg_X6_1 hx hb (fun q h => hg q (tl_X6 q h)) hown (hg _ t_fl_X6_18) S (by decide) dX6_doorLine_1 ?_
  refine fg_X3_6 hx hb (fun q h => hg q (tl_X3 q h)) hown (hg _ t_fl_X6_178) S (kd_H _) dX6_doorLine_4 ?_
  refine lv_if_le (tgt := 16) hx hb dX6_doorLine_7 (by decide) (fun c1 => ?_) (fun c1 => ?_)
  · have hz := ipt (c1) hz
    refine lv_aload_n hx hb dX6_doorLine_16 rfl (lv_at hl 0 rfl) ?_
    refine fg_X6_1 hx hb (fun q h => hg q (tl_X6 q h)) hown (hg _ t_fl_X6_18) S (by decide) dX6_doorLine_17 ?_
    refine fg_X3_0 hx hb (fun q h => hg q (tl_X3 q h)) hown (hg _ t_fl_X6_55) S (kd_H _) dX6_doorLine_20 ?_
    refine lv_if_ne (tgt := 33) hx hb dX6_doorLine_23 (by decide) (fun c2 => ?_) (fun c2 => ?_)
    · have hz := ipf (c2) hz
      refine lv_aload_n hx hb dX6_doorLine_33 rfl (lv_at hl 0 rfl) ?_
      refine fg_X6_0 hx hb (fun q h => hg q (tl_X6 q h)) hown (hg _ t_fl_X6_9) S (by decide) dX6_doorLine_34 ?_
      obtain ⟨q3, e4, hz⟩ := bd hz
      refine g_callVv (As := []) (rest := []) F S (c_X7_advance l G   _ e4) (cw_X6_doorLine_X7_advance_52 hg) (S.obj (by decide) (by decide) rfl (oc_X7 _ _ _ (by decide))) rfl hl.1 rfl (Nat.le_of_ble_eq_true rfl) ⟨Nat.zero_le _, Nat.zero_le _⟩ dX6_doorLine_37 (fun H locs  S => ?_)
      refine lv_aload_n hx hb dX6_doorLine_40 rfl (lv_at hl 0 rfl) ?_
      refine lv_iconst (v := 0) hx hb dX6_doorLine_41 (by decide) ?_
      refine lv_aload_n hx hb dX6_doorLine_42 rfl (lv_at hl 0 rfl) ?_
      refine fg_X6_1 hx hb (fun q h => hg q (tl_X6 q h)) hown (hg _ t_fl_X6_18) S (by decide) dX6_doorLine_43 ?_
      refine fg_X3_1 hx hb (fun q h => hg q (tl_X3 q h)) hown (hg _ t_fl_X6_120) S (kd_H _) dX6_doorLine_46 ?_
      refine lv_iconst (v := 1) hx hb dX6_doorLine_49 (by decide) ?_
      refine lv_isub hx hb dX6_doorLine_50 ?_
      obtain ⟨q5, e6, hz⟩ := bd hz
      refine g_callVb (As := [.int 0, .int ((gI q3.2 (fxH (gR q3.2 2)) 1) - 1)]) (rest := []) F S (c_X6_whole l G 0 ((gI q3.2 (fxH (gR q3.2 2)) 1) - 1)  _ e6) (cw_X6_doorLine_X6_whole_117 hg) (S.obj (by decide) (by decide) rfl (oc_X6 _ _ _ (by decide))) rfl hl.1 rfl (Nat.le_of_ble_eq_true rfl) ⟨Nat.zero_le _, Nat.zero_le _⟩ dX6_doorLine_51 (fun H locs hB7 S => ?_)
      refine lv_if_ne (tgt := 59) hx hb dX6_doorLine_54 (by decide) (fun c8 => ?_) (fun c8 => ?_)
      · have hz := ipf (c8) hz
        refine lv_aload_n hx hb dX6_doorLine_59 rfl (lv_at hl 0 rfl) ?_
        refine fg_X6_1 hx hb (fun q h => hg q (tl_X6 q h)) hown (hg _ t_fl_X6_18) S (by decide) dX6_doorLine_60 ?_
        refine lv_aload_n hx hb dX6_doorLine_63 rfl (lv_at hl 0 rfl) ?_
        refine fg_X6_2 hx hb (fun q h => hg q (tl_X6 q h)) hown (hg _ t_fl_X6_105) S (by decide) dX6_doorLine_64 ?_
        refine fp_X3_5 (v := (gI q5.2 3 2)) hx hb (fun q h => hg q (tl_X3 q h)) hown (hg _ t_fl_X6_181) S (kd_H _) dX6_doorLine_67 (fun H locs S => ?_)
        refine lv_aload_n hx hb dX6_doorLine_70 rfl (lv_at hl 0 rfl) ?_
        refine g_str 16 (by decide) hx hb S hown rfl dX6_doorLine_71 ?_
        obtain ⟨q9, e10, hz⟩ := bd hz
        refine g_callVb (As := [.ref (gK G 16)]) (rest := []) F S (c_X6_word l G 16 (by decide) _ e10) (cw_X6_doorLine_X6_word_114 hg) (S.obj (by decide) (by decide) rfl (oc_X6 _ _ _ (by decide))) rfl hl.1 rfl (Nat.le_of_ble_eq_true rfl) ⟨Nat.zero_le _, Nat.zero_le _⟩ dX6_doorLine_73 (fun H locs hB11 S => ?_)
        refine lv_if_eq (tgt := 89) hx hb dX6_doorLine_76 (by decide) (fun c12 => ?_) (fun c12 => ?_)
        · have hz := ipt (c12) hz
          refine lv_iconst (v := 0) hx hb dX6_doorLine_89 (by decide) ?_
          exact g_retb hx hb hr hlk S isB_0 hz dX6_doorLine_90
        · have hz := ipf (c12) hz
          refine lv_aload_n hx hb dX6_doorLine_79 rfl (lv_at hl 0 rfl) ?_
          refine lv_iconst (v := 1) hx hb dX6_doorLine_80 (by decide) ?_
          refine lv_bipush (v := 9) hx hb dX6_doorLine_81 (by decide) ?_
          obtain ⟨q13, e14, hz⟩ := bd hz
          refine g_callVb (As := [.int 1, .int 9]) (rest := []) F S (c_X6_whole l G 1 9  _ e14) (cw_X6_doorLine_X6_whole_117 hg) (S.obj (by decide) (by decide) rfl (oc_X6 _ _ _ (by decide))) rfl hl.1 rfl (Nat.le_of_ble_eq_true rfl) ⟨Nat.zero_le _, Nat.zero_le _⟩ dX6_doorLine_83 (fun H locs hB15 S => ?_)
          refine lv_if_ne (tgt := 91) hx hb dX6_doorLine_86 (by decide) (fun c16 => ?_) (fun c16 => ?_)
          · have hz := ipf (c16) hz
            refine lv_aload_n hx hb dX6_doorLine_91 rfl (lv_at hl 0 rfl) ?_
            refine fg_X6_1 hx hb (fun q h => hg q (tl_X6 q h)) hown (hg _ t_fl_X6_18) S (by decide) dX6_doorLine_92 ?_
            refine lv_aload_n hx hb dX6_doorLine_95 rfl (lv_at hl 0 rfl) ?_
            refine fg_X6_2 hx hb (fun q h => hg q (tl_X6 q h)) hown (hg _ t_fl_X6_105) S (by decide) dX6_doorLine_96 ?_
            refine fp_X3_6 (v := (gI q13.2 3 2)) hx hb (fun q h => hg q (tl_X3 q h)) hown (hg _ t_fl_X6_178) S (kd_H _) dX6_doorLine_99 (fun H locs S => ?_)
            refine lv_iconst (v := 1) hx hb dX6_doorLine_102 (by decide) ?_
            exact g_retb hx hb hr hlk S isB_1 hz dX6_doorLine_103
          · have hz := ipt (c16) hz
            refine lv_iconst (v := 0) hx hb dX6_doorLine_89 (by decide) ?_
            exact g_retb hx hb hr hlk S isB_0 hz dX6_doorLine_90
      · have hz := ipt (c8) hz
        refine lv_iconst (v := 0) hx hb dX6_doorLine_57 (by decide) ?_
        exact g_retb hx hb hr hlk S isB_0 hz dX6_doorLine_58
    · have hz := ipt (c2) hz
      refine lv_aload_n hx hb dX6_doorLine_26 rfl (lv_at hl 0 rfl) ?_
      refine lv_bipush (v := 6) hx hb dX6_doorLine_27 (by decide) ?_
      obtain ⟨q17, e18, hz⟩ := bd hz
      refine g_callVb (As := [.int 6]) (rest := []) F S (c_X6_wrong l G 6  _ e18) (cw_X6_doorLine_X6_wrong_48 hg) (S.obj (by decide) (by decide) rfl (oc_X6 _ _ _ (by decide))) rfl hl.1 rfl (Nat.le_of_ble_eq_true rfl) ⟨Nat.zero_le _, Nat.zero_le _⟩ dX6_doorLine_29 (fun H locs hB19 S => ?_)
      exact g_retb hx hb hr hlk S hB19 hz dX6_doorLine_32
  · have hz := ipf (c1) hz
    refine lv_aload_n hx hb dX6_doorLine_10 rfl (lv_at hl 0 rfl) ?_
    refine lv_iconst (v := 3) hx hb dX6_doorLine_11 (by decide) ?_
    obtain ⟨q20, e21, hz⟩ := bd hz
    refine g_callVb (As := [.int 3]) (rest := []) F S (c_X6_wrong l G 3  _ e21) (cw_X6_doorLine_X6_wrong_48 hg) (S.obj (by decide) (by decide) rfl (oc_X6 _ _ _ (by decide))) rfl hl.1 rfl (Nat.le_of_ble_eq_true rfl) ⟨Nat.zero_le _, Nat.zero_le _⟩ dX6_doorLine_12 (fun H locs hB22 S => ?_)
    exact g_retb hx hb hr hlk S hB22 hz dX6_doorLine_15
noncomputable def f_X6_movesLine  (w : GW) : Option (Int32 × GW) :=
  if (gI w (fxH (gR w 2)) 7) ≤ 0 then
    (f_X7_advance w).bind fun q2 =>
    (f_X6_word 16 q2.2).bind fun q4 =>
    if q4.1 = 0 then
      some (0, q4.2)
    else
      (f_X6_whole 1 9 q4.2).bind fun q8 =>
      if q8.1 = 0 then
        some (0, q8.2)
      else
        some (1, (sI q8.2 (fxH (gR q8.2 2)) 7 (gI q8.2 3 2)))
  else
    (f_X6_wrong 3 w).bind fun q12 =>
    some (q12.1, q12.2)
set_option maxHeartbeats 4000000 in
set_option maxRecDepth 100000 in
theorem c_X6_movesLine (l : Launch) (G : GG)   (w : GW) {z : Int32 × GW} (hz : f_X6_movesLine  w = some z) : Met l yX6_movesLine (wsU yX6_movesLine cX6_movesLine 1 (some .boolean)) rm_X6_movesLine (va_Pc [.ref (gad G 3)] (PreG G w)) (QB G z) 0 0 (gA G) := by
  refine Met.ofW (cc := cX6_movesLine) (maxL := 1) (ret := (some .boolean)) (by decide) rfl ?_
  intro p e s m args below meth c s₁ B hml hv
  obtain ⟨rfl, S⟩ := hv
  have F : CallFix p m c cX6_movesLine 1 s _ (wsU yX6_movesLine cX6_movesLine 1 (some .boolean)) RX6 := ⟨B.exec, B.bytes, hml, findClass_of_methodNamed B.named, atoms_spec B.pre⟩
  have hr := B.returns
  have hlk := B.notSynchronized
  obtain ⟨hx, hb, -, hown, hts⟩ := id F
  have hg : ∀ q ∈ lwg, q.before _ s = true := fun q h => hts q (List.mem_cons_of_mem _ h)
  refine g_entry (Nat.le_of_ble_eq_true rfl) (fun ls hl => ?_)
  have hl : lv_has ls 1 [(0, .ref (gad G 3))] := hl
  have S : St G w s s.heap [] := S
  generalize s.heap = H at S ⊢
  generalize ([] : List Loc) = locs at S ⊢
  rw [f_X6_movesLine] at hz
  refine lv_aload_n hx hb dX6_movesLine_0 rfl (lv_at hl 0 rfl) ?_
  refine fg_X6_1 hx hb (fun q h => hg q (tl_X6 q h)) hown (hg _ t_fl_X6_18) S (by decide) dX6_movesLine_1 ?_
  refine fg_X3_7 hx hb (fun q h => hg q (tl_X3 q h)) hown (hg _ t_fl_X6_186) S (kd_H _) dX6_movesLine_4 ?_
  refine lv_if_le (tgt := 16) hx hb dX6_movesLine_7 (by decide) (fun c1 => ?_) (fun c1 => ?_)
  · have hz := ipt (c1) hz
    refine lv_aload_n hx hb dX6_movesLine_16 rfl (lv_at hl 0 rfl) ?_
    refine fg_X6_0 hx hb (fun q h => hg q (tl_X6 q h)) hown (hg _ t_fl_X6_9) S (by decide) dX6_movesLine_17 ?_
    obtain ⟨q2, e3, hz⟩ := bd hz
    refine g_callVv (As := []) (rest := []) F S (c_X7_advance l G   _ e3) (cw_X6_movesLine_X7_advance_52 hg) (S.obj (by decide) (by decide) rfl (oc_X7 _ _ _ (by decide))) rfl hl.1 rfl (Nat.le_of_ble_eq_true rfl) ⟨Nat.zero_le _, Nat.zero_le _⟩ dX6_movesLine_20 (fun H locs  S => ?_)
    refine lv_aload_n hx hb dX6_movesLine_23 rfl (lv_at hl 0 rfl) ?_
    refine g_str 16 (by decide) hx hb S hown rfl dX6_movesLine_24 ?_
    obtain ⟨q4, e5, hz⟩ := bd hz
    refine g_callVb (As := [.ref (gK G 16)]) (rest := []) F S (c_X6_word l G 16 (by decide) _ e5) (cw_X6_movesLine_X6_word_114 hg) (S.obj (by decide) (by decide) rfl (oc_X6 _ _ _ (by decide))) rfl hl.1 rfl (Nat.le_of_ble_eq_true rfl) ⟨Nat.zero_le _, Nat.zero_le _⟩ dX6_movesLine_26 (fun H locs hB6 S => ?_)
    refine lv_if_eq (tgt := 42) hx hb dX6_movesLine_29 (by decide) (fun c7 => ?_) (fun c7 => ?_)
    · have hz := ipt (c7) hz
      refine lv_iconst (v := 0) hx hb dX6_movesLine_42 (by decide) ?_
      exact g_retb hx hb hr hlk S isB_0 hz dX6_movesLine_43
    · have hz := ipf (c7) hz
      refine lv_aload_n hx hb dX6_movesLine_32 rfl (lv_at hl 0 rfl) ?_
      refine lv_iconst (v := 1) hx hb dX6_movesLine_33 (by decide) ?_
      refine lv_bipush (v := 9) hx hb dX6_movesLine_34 (by decide) ?_
      obtain ⟨q8, e9, hz⟩ := bd hz
      refine g_callVb (As := [.int 1, .int 9]) (rest := []) F S (c_X6_whole l G 1 9  _ e9) (cw_X6_movesLine_X6_whole_117 hg) (S.obj (by decide) (by decide) rfl (oc_X6 _ _ _ (by decide))) rfl hl.1 rfl (Nat.le_of_ble_eq_true rfl) ⟨Nat.zero_le _, Nat.zero_le _⟩ dX6_movesLine_36 (fun H locs hB10 S => ?_)
      refine lv_if_ne (tgt := 44) hx hb dX6_movesLine_39 (by decide) (fun c11 => ?_) (fun c11 => ?_)
      · have hz := ipf (c11) hz
        refine lv_aload_n hx hb dX6_movesLine_44 rfl (lv_at hl 0 rfl) ?_
        refine fg_X6_1 hx hb (fun q h => hg q (tl_X6 q h)) hown (hg _ t_fl_X6_18) S (by decide) dX6_movesLine_45 ?_
        refine lv_aload_n hx hb dX6_movesLine_48 rfl (lv_at hl 0 rfl) ?_
        refine fg_X6_2 hx hb (fun q h => hg q (tl_X6 q h)) hown (hg _ t_fl_X6_105) S (by decide) dX6_movesLine_49 ?_
        refine fp_X3_7 (v := (gI q8.2 3 2)) hx hb (fun q h => hg q (tl_X3 q h)) hown (hg _ t_fl_X6_186) S (kd_H _) dX6_movesLine_52 (fun H locs S => ?_)
        refine lv_iconst (v := 1) hx hb dX6_movesLine_55 (by decide) ?_
        exact g_retb hx hb hr hlk S isB_1 hz dX6_movesLine_56
      · have hz := ipt (c11) hz
        refine lv_iconst (v := 0) hx hb dX6_movesLine_42 (by decide) ?_
        exact g_retb hx hb hr hlk S isB_0 hz dX6_movesLine_43
  · have hz := ipf (c1) hz
    refine lv_aload_n hx hb dX6_movesLine_10 rfl (lv_at hl 0 rfl) ?_
    refine lv_iconst (v := 3) hx hb dX6_movesLine_11 (by decide) ?_
    obtain ⟨q12, e13, hz⟩ := bd hz
    refine g_callVb (As := [.int 3]) (rest := []) F S (c_X6_wrong l G 3  _ e13) (cw_X6_movesLine_X6_wrong_48 hg) (S.obj (by decide) (by decide) rfl (oc_X6 _ _ _ (by decide))) rfl hl.1 rfl (Nat.le_of_ble_eq_true rfl) ⟨Nat.zero_le _, Nat.zero_le _⟩ dX6_movesLine_12 (fun H locs hB14 S => ?_)
    exact g_retb hx hb hr hlk S hB14 hz dX6_movesLine_15
noncomputable def f_X6_layLine_99 (k_60 : Nat → Int32 → GW → Option (Int32 × GW)) (k1 : Nat) (x2 : Int32) (w : GW) : Option (Int32 × GW) :=
  (f_X6_whole 0 8 w).bind fun q8 =>
  if q8.1 = 0 then
    some (0, q8.2)
  else
    if inb x2 5 then
    k_60 k1 (x2 + 1) (sI q8.2 k1 (ix x2) (gI q8.2 3 2))
    else none
noncomputable def f_X6_layLine_60  : Nat → Nat → Int32 → GW → Option (Int32 × GW)
  | 0, _, _, _ => none
  | n9 + 1, k1, x2, w =>
    if (gI w (fxH (gR w 2)) 1) ≤ x2 then
      some (1, (sI w (fxH (gR w 2)) 9 ((gI w (fxH (gR w 2)) 9) + 1)))
    else
      if x2 ≤ 0 then
        f_X6_layLine_99 (f_X6_layLine_60 n9) k1 x2 w
      else
        if (gI w 1 5) = 4 then
          (f_X7_advance w).bind fun q14 =>
          f_X6_layLine_99 (f_X6_layLine_60 n9) k1 x2 q14.2
        else
          (f_X6_wrong 1 w).bind fun q16 =>
          some (q16.1, q16.2)
noncomputable def f_X6_layLine  (w : GW) : Option (Int32 × GW) :=
  if (gI w (fxH (gR w 2)) 9) < 8 then
    if (gI w (fxH (gR w 2)) 0) = 0 then
      (f_X6_wrong 6 w).bind fun q19 =>
      some (q19.1, q19.2)
    else
      (f_X7_advance w).bind fun q3 =>
      if inb (gI q3.2 (fxH (gR q3.2 2)) 9) 8 then
      f_X6_layLine_60 fu (((fxH (gR q3.2 2)) + 12) + 1 + ix (gI q3.2 (fxH (gR q3.2 2)) 9)) 0 q3.2
      else none
  else
    (f_X6_wrong 5 w).bind fun q22 =>
    some (q22.1, q22.2)
set_option maxHeartbeats 4000000 in
set_option maxRecDepth 100000 in
theorem w_X6_layLine_99 {p : Program} {l : Launch} {e : Env} {s : State} {m : MethodId} {args : Array Value} {below : List Frame} {meth : Method} {c : Code} {G : GG} (F : CallFix p m c cX6_layLine 3 s args (wsU yX6_layLine cX6_layLine 3 (some .boolean)) RX6) (hr : meth.sig.returnType = (some .boolean)) (hlk : meth.locks = false) {z : Int32 × GW} {k_60 : Nat → Int32 → GW → Option (Int32 × GW)} (Hk_60 : (∀ (k1 : Nat) (x2 : Int32) (hk1 : kd k1 = 10) (w : GW) (H : Heap) (locs : List Loc) (ls : Array Slot), St G w s H locs → lv_has ls 3 [(0, .ref (gad G 3)), (1, .ref (gad G k1)), (2, .int x2)] → k_60 k1 x2 w = some z → W p l e (headSpec (wsU yX6_layLine cX6_layLine 3 (some .boolean)) rm_X6_layLine).room s m args below meth c H locs 0 0 (MQ below (QB G z) args s 0 0 (gA G)) (F0 m 60 ls []))) : (∀ (k1 : Nat) (x2 : Int32) (hk1 : kd k1 = 10) (w : GW) (H : Heap) (locs : List Loc) (ls : Array Slot), St G w s H locs → lv_has ls 3 [(0, .ref (gad G 3)), (1, .ref (gad G k1)), (2, .int x2)] → f_X6_layLine_99 k_60 k1 x2 w = some z → W p l e (headSpec (wsU yX6_layLine cX6_layLine 3 (some .boolean)) rm_X6_layLine).room s m args below meth c H locs 0 0 (MQ below (QB G z) args s 0 0 (gA G)) (F0 m 99 ls [])) := by
  obtain ⟨hx, hb, hml, hown, hts⟩ := id F
  have hg : ∀ q ∈ lwg, q.before args s = true := fun q h => hts q (List.mem_cons_of_mem _ h)
  intro k1 x2 hk1 w H locs ls S hl hz
  rw [f_X6_layLine_99] at hz
  refine lv_aload_n hx hb dX6_layLine_99 rfl (lv_at hl 0 rfl) ?_
  refine lv_iconst (v := 0) hx hb dX6_layLine_100 (by decide) ?_
  refine lv_bipush (v := 8) hx hb dX6_layLine_101 (by decide) ?_
  obtain ⟨q8, e9, hz⟩ := bd hz
  refine g_callVb (As := [.int 0, .int 8]) (rest := []) F S (c_X6_whole l G 0 8  _ e9) (cw_X6_layLine_X6_whole_117 hg) (S.obj (by decide) (by decide) rfl (oc_X6 _ _ _ (by decide))) rfl hl.1 rfl (Nat.le_of_ble_eq_true rfl) ⟨Nat.zero_le _, Nat.zero_le _⟩ dX6_layLine_103 (fun H locs hB10 S => ?_)
  refine lv_if_ne (tgt := 111) hx hb dX6_layLine_106 (by decide) (fun c11 => ?_) (fun c11 => ?_)
  · have hz := ipf (c11) hz
    refine lv_aload_n hx hb dX6_layLine_111 rfl (lv_at hl 1 rfl) ?_
    refine lv_iload_n hx hb dX6_layLine_112 rfl (lv_at hl 2 rfl) ?_
    refine lv_aload_n hx hb dX6_layLine_113 rfl (lv_at hl 0 rfl) ?_
    refine fg_X6_2 hx hb (fun q h => hg q (tl_X6 q h)) hown (hg _ t_fl_X6_105) S (by decide) dX6_layLine_114 ?_
    obtain ⟨h12, hz⟩ := ck hz
    refine g_iast (x := (gI q8.2 3 2)) hx hb S (isA_10 hk1) h12 dX6_layLine_117 (fun H locs S => ?_)
    refine lv_iinc (v := (x2 + 1)) (lv' := [(2, .int (x2 + 1)), (0, .ref (gad G 3)), (1, .ref (gad G k1))]) hx hb dX6_layLine_118 hl (k := 2) rfl rfl (by decide) rfl (fun ls hl => ?_)
    refine lv_goto (tgt := 60) hx hb dX6_layLine_121 (by decide) ?_
    exact Hk_60 k1 (x2 + 1) hk1 _ _ _ _ S (lv_sub hl [1, 2, 0] rfl) hz
  · have hz := ipt (c11) hz
    refine lv_iconst (v := 0) hx hb dX6_layLine_109 (by decide) ?_
    exact g_retb hx hb hr hlk S isB_0 hz dX6_layLine_110
set_option maxHeartbeats 4000000 in
set_option maxRecDepth 100000 in
theorem w_X6_layLine_60 {p : Program} {l : Launch} {e : Env} {s : State} {m : MethodId} {args : Array Value} {below : List Frame} {meth : Method} {c : Code} {G : GG} (F : CallFix p m c cX6_layLine 3 s args (wsU yX6_layLine cX6_layLine 3 (some .boolean)) RX6) (hr : meth.sig.returnType = (some .boolean)) (hlk : meth.locks = false) {z : Int32 × GW} : ∀ (n9 : Nat), (∀ (k1 : Nat) (x2 : Int32) (hk1 : kd k1 = 10) (w : GW) (H : Heap) (locs : List Loc) (ls : Array Slot), St G w s H locs → lv_has ls 3 [(0, .ref (gad G 3)), (1, .ref (gad G k1)), (2, .int x2)] → f_X6_layLine_60 n9 k1 x2 w = some z → W p l e (headSpec (wsU yX6_layLine cX6_layLine 3 (some .boolean)) rm_X6_layLine).room s m args below meth c H locs 0 0 (MQ below (QB G z) args s 0 0 (gA G)) (F0 m 60 ls [])) := by
  obtain ⟨hx, hb, hml, hown, hts⟩ := id F
  have hg : ∀ q ∈ lwg, q.before args s = true := fun q h => hts q (List.mem_cons_of_mem _ h)
  intro n9
  induction n9 with
  | zero =>
    intro k1 x2 hk1 w H locs ls S hl hz
    rw [f_X6_layLine_60] at hz
    cases hz
  | succ n9 ih =>
    intro k1 x2 hk1 w H locs ls S hl hz
    rw [f_X6_layLine_60] at hz
    refine lv_iload_n hx hb dX6_layLine_60 rfl (lv_at hl 2 rfl) ?_
    refine lv_aload_n hx hb dX6_layLine_61 rfl (lv_at hl 0 rfl) ?_
    refine fg_X6_1 hx hb (fun q h => hg q (tl_X6 q h)) hown (hg _ t_fl_X6_18) S (by decide) dX6_layLine_62 ?_
    refine fg_X3_1 hx hb (fun q h => hg q (tl_X3 q h)) hown (hg _ t_fl_X6_120) S (kd_H _) dX6_layLine_65 ?_
    refine lv_icmp_ge (tgt := 124) hx hb dX6_layLine_68 (by decide) (fun c6 => ?_) (fun c6 => ?_)
    · have hz := ipt (c6) hz
      refine lv_aload_n hx hb dX6_layLine_124 rfl (lv_at hl 0 rfl) ?_
      refine fg_X6_1 hx hb (fun q h => hg q (tl_X6 q h)) hown (hg _ t_fl_X6_18) S (by decide) dX6_layLine_125 ?_
      refine lv_dup hx hb dX6_layLine_128 rfl ?_
      refine fg_X3_9 hx hb (fun q h => hg q (tl_X3 q h)) hown (hg _ t_fl_X6_189) S (kd_H _) dX6_layLine_129 ?_
      refine lv_iconst (v := 1) hx hb dX6_layLine_132 (by decide) ?_
      refine lv_iadd hx hb dX6_layLine_133 ?_
      refine fp_X3_9 (v := ((gI w (fxH (gR w 2)) 9) + 1)) hx hb (fun q h => hg q (tl_X3 q h)) hown (hg _ t_fl_X6_189) S (kd_H _) dX6_layLine_134 (fun H locs S => ?_)
      refine lv_iconst (v := 1) hx hb dX6_layLine_137 (by decide) ?_
      exact g_retb hx hb hr hlk S isB_1 hz dX6_layLine_138
    · have hz := ipf (c6) hz
      refine lv_iload_n hx hb dX6_layLine_71 rfl (lv_at hl 2 rfl) ?_
      refine lv_if_le (tgt := 99) hx hb dX6_layLine_72 (by decide) (fun c7 => ?_) (fun c7 => ?_)
      · have hz := ipt (c7) hz
        exact w_X6_layLine_99 F hr hlk ih k1 x2 hk1 _ _ _ _ S (lv_sub hl [0, 1, 2] rfl) hz
      · have hz := ipf (c7) hz
        refine lv_aload_n hx hb dX6_layLine_75 rfl (lv_at hl 0 rfl) ?_
        refine fg_X6_0 hx hb (fun q h => hg q (tl_X6 q h)) hown (hg _ t_fl_X6_9) S (by decide) dX6_layLine_76 ?_
        refine fg_X7_5 hx hb (fun q h => hg q (tl_X7 q h)) hown (hg _ t_fl_X6_42) S (by decide) dX6_layLine_79 ?_
        refine lv_iconst (v := 4) hx hb dX6_layLine_82 (by decide) ?_
        refine lv_icmp_eq (tgt := 92) hx hb dX6_layLine_83 (by decide) (fun c13 => ?_) (fun c13 => ?_)
        · have hz := ipt (c13) hz
          refine lv_aload_n hx hb dX6_layLine_92 rfl (lv_at hl 0 rfl) ?_
          refine fg_X6_0 hx hb (fun q h => hg q (tl_X6 q h)) hown (hg _ t_fl_X6_9) S (by decide) dX6_layLine_93 ?_
          obtain ⟨q14, e15, hz⟩ := bd hz
          refine g_callVv (As := []) (rest := []) F S (c_X7_advance l G   _ e15) (cw_X6_layLine_X7_advance_52 hg) (S.obj (by decide) (by decide) rfl (oc_X7 _ _ _ (by decide))) rfl hl.1 rfl (Nat.le_of_ble_eq_true rfl) ⟨Nat.zero_le _, Nat.zero_le _⟩ dX6_layLine_96 (fun H locs  S => ?_)
          exact w_X6_layLine_99 F hr hlk ih k1 x2 hk1 _ _ _ _ S (lv_sub hl [0, 1, 2] rfl) hz
        · have hz := ipf (c13) hz
          refine lv_aload_n hx hb dX6_layLine_86 rfl (lv_at hl 0 rfl) ?_
          refine lv_iconst (v := 1) hx hb dX6_layLine_87 (by decide) ?_
          obtain ⟨q16, e17, hz⟩ := bd hz
          refine g_callVb (As := [.int 1]) (rest := []) F S (c_X6_wrong l G 1  _ e17) (cw_X6_layLine_X6_wrong_48 hg) (S.obj (by decide) (by decide) rfl (oc_X6 _ _ _ (by decide))) rfl hl.1 rfl (Nat.le_of_ble_eq_true rfl) ⟨Nat.zero_le _, Nat.zero_le _⟩ dX6_layLine_88 (fun H locs hB18 S => ?_)
          exact g_retb hx hb hr hlk S hB18 hz dX6_layLine_91
set_option maxHeartbeats 4000000 in
set_option maxRecDepth 100000 in
theorem c_X6_layLine (l : Launch) (G : GG)   (w : GW) {z : Int32 × GW} (hz : f_X6_layLine  w = some z) : Met l yX6_layLine (wsU yX6_layLine cX6_layLine 3 (some .boolean)) rm_X6_layLine (va_Pc [.ref (gad G 3)] (PreG G w)) (QB G z) 0 0 (gA G) := by
  refine Met.ofW (cc := cX6_layLine) (maxL := 3) (ret := (some .boolean)) (by decide) rfl ?_
  intro p e s m args below meth c s₁ B hml hv
  obtain ⟨rfl, S⟩ := hv
  have F : CallFix p m c cX6_layLine 3 s _ (wsU yX6_layLine cX6_layLine 3 (some .boolean)) RX6 := ⟨B.exec, B.bytes, hml, findClass_of_methodNamed B.named, atoms_spec B.pre⟩
  have hr := B.returns
  have hlk := B.notSynchronized
  obtain ⟨hx, hb, -, hown, hts⟩ := id F
  have hg : ∀ q ∈ lwg, q.before _ s = true := fun q h => hts q (List.mem_cons_of_mem _ h)
  refine g_entry (Nat.le_of_ble_eq_true rfl) (fun ls hl => ?_)
  have hl : lv_has ls 3 [(0, .ref (gad G 3))] := hl
  have S : St G w s s.heap [] := S
  generalize s.heap = H at S ⊢
  generalize ([] : List Loc) = locs at S ⊢
  rw [f_X6_layLine] at hz
  refine lv_aload_n hx hb dX6_layLine_0 rfl (lv_at hl 0 rfl) ?_
  refine fg_X6_1 hx hb (fun q h => hg q (tl_X6 q h)) hown (hg _ t_fl_X6_18) S (by decide) dX6_layLine_1 ?_
  refine fg_X3_9 hx hb (fun q h => hg q (tl_X3 q h)) hown (hg _ t_fl_X6_189) S (kd_H _) dX6_layLine_4 ?_
  refine lv_bipush (v := 8) hx hb dX6_layLine_7 (by decide) ?_
  refine lv_icmp_lt (tgt := 18) hx hb dX6_layLine_9 (by decide) (fun c1 => ?_) (fun c1 => ?_)
  · have hz := ipt (c1) hz
    refine lv_aload_n hx hb dX6_layLine_18 rfl (lv_at hl 0 rfl) ?_
    refine fg_X6_1 hx hb (fun q h => hg q (tl_X6 q h)) hown (hg _ t_fl_X6_18) S (by decide) dX6_layLine_19 ?_
    refine fg_X3_0 hx hb (fun q h => hg q (tl_X3 q h)) hown (hg _ t_fl_X6_55) S (kd_H _) dX6_layLine_22 ?_
    refine lv_if_ne (tgt := 35) hx hb dX6_layLine_25 (by decide) (fun c2 => ?_) (fun c2 => ?_)
    · have hz := ipf (c2) hz
      refine lv_aload_n hx hb dX6_layLine_35 rfl (lv_at hl 0 rfl) ?_
      refine fg_X6_0 hx hb (fun q h => hg q (tl_X6 q h)) hown (hg _ t_fl_X6_9) S (by decide) dX6_layLine_36 ?_
      obtain ⟨q3, e4, hz⟩ := bd hz
      refine g_callVv (As := []) (rest := []) F S (c_X7_advance l G   _ e4) (cw_X6_layLine_X7_advance_52 hg) (S.obj (by decide) (by decide) rfl (oc_X7 _ _ _ (by decide))) rfl hl.1 rfl (Nat.le_of_ble_eq_true rfl) ⟨Nat.zero_le _, Nat.zero_le _⟩ dX6_layLine_39 (fun H locs  S => ?_)
      refine lv_aload_n hx hb dX6_layLine_42 rfl (lv_at hl 0 rfl) ?_
      refine fg_X6_1 hx hb (fun q h => hg q (tl_X6 q h)) hown (hg _ t_fl_X6_18) S (by decide) dX6_layLine_43 ?_
      refine fg_X3_15 hx hb (fun q h => hg q (tl_X3 q h)) hown (hg _ t_fl_X6_192) S (kd_H _) dX6_layLine_46 ?_
      refine lv_aload_n hx hb dX6_layLine_49 rfl (lv_at hl 0 rfl) ?_
      refine fg_X6_1 hx hb (fun q h => hg q (tl_X6 q h)) hown (hg _ t_fl_X6_18) S (by decide) dX6_layLine_50 ?_
      refine fg_X3_9 hx hb (fun q h => hg q (tl_X3 q h)) hown (hg _ t_fl_X6_189) S (kd_H _) dX6_layLine_53 ?_
      obtain ⟨h5, hz⟩ := ck hz
      refine g_aald35 hx hb S (kd_3_12 (kd_H _)) h5 dX6_layLine_56 ?_
      refine lv_astore_n (lv' := [(1, .ref (gad G (((fxH (gR q3.2 2)) + 12) + 1 + ix (gI q3.2 (fxH (gR q3.2 2)) 9)))), (0, .ref (gad G 3))]) hx hb dX6_layLine_57 rfl hl (by decide) rfl (fun ls hl => ?_)
      refine lv_iconst (v := 0) hx hb dX6_layLine_58 (by decide) ?_
      refine lv_istore_n (lv' := [(2, .int 0), (1, .ref (gad G (((fxH (gR q3.2 2)) + 12) + 1 + ix (gI q3.2 (fxH (gR q3.2 2)) 9)))), (0, .ref (gad G 3))]) hx hb dX6_layLine_59 rfl hl (by decide) rfl (fun ls hl => ?_)
      exact w_X6_layLine_60 F hr hlk fu (((fxH (gR q3.2 2)) + 12) + 1 + ix (gI q3.2 (fxH (gR q3.2 2)) 9)) 0 (kd_el35 (kd_3_12 (kd_H _)) (h5).2) _ _ _ _ S (lv_sub hl [2, 1, 0] rfl) hz
    · have hz := ipt (c2) hz
      refine lv_aload_n hx hb dX6_layLine_28 rfl (lv_at hl 0 rfl) ?_
      refine lv_bipush (v := 6) hx hb dX6_layLine_29 (by decide) ?_
      obtain ⟨q19, e20, hz⟩ := bd hz
      refine g_callVb (As := [.int 6]) (rest := []) F S (c_X6_wrong l G 6  _ e20) (cw_X6_layLine_X6_wrong_48 hg) (S.obj (by decide) (by decide) rfl (oc_X6 _ _ _ (by decide))) rfl hl.1 rfl (Nat.le_of_ble_eq_true rfl) ⟨Nat.zero_le _, Nat.zero_le _⟩ dX6_layLine_31 (fun H locs hB21 S => ?_)
      exact g_retb hx hb hr hlk S hB21 hz dX6_layLine_34
  · have hz := ipf (c1) hz
    refine lv_aload_n hx hb dX6_layLine_12 rfl (lv_at hl 0 rfl) ?_
    refine lv_iconst (v := 5) hx hb dX6_layLine_13 (by decide) ?_
    obtain ⟨q22, e23, hz⟩ := bd hz
    refine g_callVb (As := [.int 5]) (rest := []) F S (c_X6_wrong l G 5  _ e23) (cw_X6_layLine_X6_wrong_48 hg) (S.obj (by decide) (by decide) rfl (oc_X6 _ _ _ (by decide))) rfl hl.1 rfl (Nat.le_of_ble_eq_true rfl) ⟨Nat.zero_le _, Nat.zero_le _⟩ dX6_layLine_14 (fun H locs hB24 S => ?_)
    exact g_retb hx hb hr hlk S hB24 hz dX6_layLine_17
noncomputable def f_X6_line  (w : GW) : Option (Int32 × GW) :=
  (f_X7_says 0 w).bind fun q1 =>
  if q1.1 = 0 then
    (f_X7_says 3 q1.2).bind fun q5 =>
    if q5.1 = 0 then
      (f_X7_says 6 q5.2).bind fun q9 =>
      if q9.1 = 0 then
        (f_X7_says 7 q9.2).bind fun q13 =>
        if q13.1 = 0 then
          (f_X7_says 8 q13.2).bind fun q17 =>
          if q17.1 = 0 then
            (f_X7_says 9 q17.2).bind fun q21 =>
            if q21.1 = 0 then
              (f_X6_wrong 1 q21.2).bind fun q25 =>
              some (q25.1, q25.2)
            else
              (f_X6_layLine q21.2).bind fun q28 =>
              some (q28.1, q28.2)
          else
            (f_X6_movesLine q17.2).bind fun q31 =>
            some (q31.1, q31.2)
        else
          (f_X6_doorLine q13.2).bind fun q34 =>
          some (q34.1, q34.2)
      else
        (f_X6_porterLine q9.2).bind fun q37 =>
        some (q37.1, q37.2)
    else
      (f_X6_boxLine q5.2).bind fun q40 =>
      some (q40.1, q40.2)
  else
    (f_X6_hallLine q1.2).bind fun q43 =>
    some (q43.1, q43.2)
set_option maxHeartbeats 4000000 in
set_option maxRecDepth 100000 in
theorem c_X6_line (l : Launch) (G : GG)   (w : GW) {z : Int32 × GW} (hz : f_X6_line  w = some z) : Met l yX6_line (wsU yX6_line cX6_line 1 (some .boolean)) rm_X6_line (va_Pc [.ref (gad G 3)] (PreG G w)) (QB G z) 0 0 (gA G) := by
  refine Met.ofW (cc := cX6_line) (maxL := 1) (ret := (some .boolean)) (by decide) rfl ?_
  intro p e s m args below meth c s₁ B hml hv
  obtain ⟨rfl, S⟩ := hv
  have F : CallFix p m c cX6_line 1 s _ (wsU yX6_line cX6_line 1 (some .boolean)) RX6 := ⟨B.exec, B.bytes, hml, findClass_of_methodNamed B.named, atoms_spec B.pre⟩
  have hr := B.returns
  have hlk := B.notSynchronized
  obtain ⟨hx, hb, -, hown, hts⟩ := id F
  have hg : ∀ q ∈ lwg, q.before _ s = true := fun q h => hts q (List.mem_cons_of_mem _ h)
  refine g_entry (Nat.le_of_ble_eq_true rfl) (fun ls hl => ?_)
  have hl : lv_has ls 1 [(0, .ref (gad G 3))] := hl
  have S : St G w s s.heap [] := S
  generalize s.heap = H at S ⊢
  generalize ([] : List Loc) = locs at S ⊢
  rw [f_X6_line] at hz
  refine lv_aload_n hx hb dX6_line_0 rfl (lv_at hl 0 rfl) ?_
  refine fg_X6_0 hx hb (fun q h => hg q (tl_X6 q h)) hown (hg _ t_fl_X6_9) S (by decide) dX6_line_1 ?_
  refine g_str 0 (by decide) hx hb S hown rfl dX6_line_4 ?_
  obtain ⟨q1, e2, hz⟩ := bd hz
  refine g_callVb (As := [.ref (gK G 0)]) (rest := []) F S (c_X7_says l G 0 (by decide) _ e2) (cw_X6_line_X7_says_70 hg) (S.obj (by decide) (by decide) rfl (oc_X7 _ _ _ (by decide))) rfl hl.1 rfl (Nat.le_of_ble_eq_true rfl) ⟨Nat.zero_le _, Nat.zero_le _⟩ dX6_line_6 (fun H locs hB3 S => ?_)
  refine lv_if_eq (tgt := 17) hx hb dX6_line_9 (by decide) (fun c4 => ?_) (fun c4 => ?_)
  · have hz := ipt (c4) hz
    refine lv_aload_n hx hb dX6_line_17 rfl (lv_at hl 0 rfl) ?_
    refine fg_X6_0 hx hb (fun q h => hg q (tl_X6 q h)) hown (hg _ t_fl_X6_9) S (by decide) dX6_line_18 ?_
    refine g_str 3 (by decide) hx hb S hown rfl dX6_line_21 ?_
    obtain ⟨q5, e6, hz⟩ := bd hz
    refine g_callVb (As := [.ref (gK G 3)]) (rest := []) F S (c_X7_says l G 3 (by decide) _ e6) (cw_X6_line_X7_says_70 hg) (S.obj (by decide) (by decide) rfl (oc_X7 _ _ _ (by decide))) rfl hl.1 rfl (Nat.le_of_ble_eq_true rfl) ⟨Nat.zero_le _, Nat.zero_le _⟩ dX6_line_23 (fun H locs hB7 S => ?_)
    refine lv_if_eq (tgt := 34) hx hb dX6_line_26 (by decide) (fun c8 => ?_) (fun c8 => ?_)
    · have hz := ipt (c8) hz
      refine lv_aload_n hx hb dX6_line_34 rfl (lv_at hl 0 rfl) ?_
      refine fg_X6_0 hx hb (fun q h => hg q (tl_X6 q h)) hown (hg _ t_fl_X6_9) S (by decide) dX6_line_35 ?_
      refine g_str 6 (by decide) hx hb S hown rfl dX6_line_38 ?_
      obtain ⟨q9, e10, hz⟩ := bd hz
      refine g_callVb (As := [.ref (gK G 6)]) (rest := []) F S (c_X7_says l G 6 (by decide) _ e10) (cw_X6_line_X7_says_70 hg) (S.obj (by decide) (by decide) rfl (oc_X7 _ _ _ (by decide))) rfl hl.1 rfl (Nat.le_of_ble_eq_true rfl) ⟨Nat.zero_le _, Nat.zero_le _⟩ dX6_line_40 (fun H locs hB11 S => ?_)
      refine lv_if_eq (tgt := 51) hx hb dX6_line_43 (by decide) (fun c12 => ?_) (fun c12 => ?_)
      · have hz := ipt (c12) hz
        refine lv_aload_n hx hb dX6_line_51 rfl (lv_at hl 0 rfl) ?_
        refine fg_X6_0 hx hb (fun q h => hg q (tl_X6 q h)) hown (hg _ t_fl_X6_9) S (by decide) dX6_line_52 ?_
        refine g_str 7 (by decide) hx hb S hown rfl dX6_line_55 ?_
        obtain ⟨q13, e14, hz⟩ := bd hz
        refine g_callVb (As := [.ref (gK G 7)]) (rest := []) F S (c_X7_says l G 7 (by decide) _ e14) (cw_X6_line_X7_says_70 hg) (S.obj (by decide) (by decide) rfl (oc_X7 _ _ _ (by decide))) rfl hl.1 rfl (Nat.le_of_ble_eq_true rfl) ⟨Nat.zero_le _, Nat.zero_le _⟩ dX6_line_57 (fun H locs hB15 S => ?_)
        refine lv_if_eq (tgt := 68) hx hb dX6_line_60 (by decide) (fun c16 => ?_) (fun c16 => ?_)
        · have hz := ipt (c16) hz
          refine lv_aload_n hx hb dX6_line_68 rfl (lv_at hl 0 rfl) ?_
          refine fg_X6_0 hx hb (fun q h => hg q (tl_X6 q h)) hown (hg _ t_fl_X6_9) S (by decide) dX6_line_69 ?_
          refine g_str 8 (by decide) hx hb S hown rfl dX6_line_72 ?_
          obtain ⟨q17, e18, hz⟩ := bd hz
          refine g_callVb (As := [.ref (gK G 8)]) (rest := []) F S (c_X7_says l G 8 (by decide) _ e18) (cw_X6_line_X7_says_70 hg) (S.obj (by decide) (by decide) rfl (oc_X7 _ _ _ (by decide))) rfl hl.1 rfl (Nat.le_of_ble_eq_true rfl) ⟨Nat.zero_le _, Nat.zero_le _⟩ dX6_line_74 (fun H locs hB19 S => ?_)
          refine lv_if_eq (tgt := 85) hx hb dX6_line_77 (by decide) (fun c20 => ?_) (fun c20 => ?_)
          · have hz := ipt (c20) hz
            refine lv_aload_n hx hb dX6_line_85 rfl (lv_at hl 0 rfl) ?_
            refine fg_X6_0 hx hb (fun q h => hg q (tl_X6 q h)) hown (hg _ t_fl_X6_9) S (by decide) dX6_line_86 ?_
            refine g_str 9 (by decide) hx hb S hown rfl dX6_line_89 ?_
            obtain ⟨q21, e22, hz⟩ := bd hz
            refine g_callVb (As := [.ref (gK G 9)]) (rest := []) F S (c_X7_says l G 9 (by decide) _ e22) (cw_X6_line_X7_says_70 hg) (S.obj (by decide) (by decide) rfl (oc_X7 _ _ _ (by decide))) rfl hl.1 rfl (Nat.le_of_ble_eq_true rfl) ⟨Nat.zero_le _, Nat.zero_le _⟩ dX6_line_91 (fun H locs hB23 S => ?_)
            refine lv_if_eq (tgt := 104) hx hb dX6_line_94 (by decide) (fun c24 => ?_) (fun c24 => ?_)
            · have hz := ipt (c24) hz
              refine lv_aload_n hx hb dX6_line_104 rfl (lv_at hl 0 rfl) ?_
              refine lv_iconst (v := 1) hx hb dX6_line_105 (by decide) ?_
              obtain ⟨q25, e26, hz⟩ := bd hz
              refine g_callVb (As := [.int 1]) (rest := []) F S (c_X6_wrong l G 1  _ e26) (cw_X6_line_X6_wrong_48 hg) (S.obj (by decide) (by decide) rfl (oc_X6 _ _ _ (by decide))) rfl hl.1 rfl (Nat.le_of_ble_eq_true rfl) ⟨Nat.zero_le _, Nat.zero_le _⟩ dX6_line_106 (fun H locs hB27 S => ?_)
              exact g_retb hx hb hr hlk S hB27 hz dX6_line_109
            · have hz := ipf (c24) hz
              refine lv_aload_n hx hb dX6_line_97 rfl (lv_at hl 0 rfl) ?_
              obtain ⟨q28, e29, hz⟩ := bd hz
              refine g_callVb (As := []) (rest := []) F S (c_X6_layLine l G   _ e29) (cw_X6_line_X6_layLine_99 hg) (S.obj (by decide) (by decide) rfl (oc_X6 _ _ _ (by decide))) rfl hl.1 rfl (Nat.le_of_ble_eq_true rfl) ⟨Nat.zero_le _, Nat.zero_le _⟩ dX6_line_98 (fun H locs hB30 S => ?_)
              refine lv_goto (tgt := 109) hx hb dX6_line_101 (by decide) ?_
              exact g_retb hx hb hr hlk S hB30 hz dX6_line_109
          · have hz := ipf (c20) hz
            refine lv_aload_n hx hb dX6_line_80 rfl (lv_at hl 0 rfl) ?_
            obtain ⟨q31, e32, hz⟩ := bd hz
            refine g_callVb (As := []) (rest := []) F S (c_X6_movesLine l G   _ e32) (cw_X6_line_X6_movesLine_94 hg) (S.obj (by decide) (by decide) rfl (oc_X6 _ _ _ (by decide))) rfl hl.1 rfl (Nat.le_of_ble_eq_true rfl) ⟨Nat.zero_le _, Nat.zero_le _⟩ dX6_line_81 (fun H locs hB33 S => ?_)
            exact g_retb hx hb hr hlk S hB33 hz dX6_line_84
        · have hz := ipf (c16) hz
          refine lv_aload_n hx hb dX6_line_63 rfl (lv_at hl 0 rfl) ?_
          obtain ⟨q34, e35, hz⟩ := bd hz
          refine g_callVb (As := []) (rest := []) F S (c_X6_doorLine l G   _ e35) (cw_X6_line_X6_doorLine_89 hg) (S.obj (by decide) (by decide) rfl (oc_X6 _ _ _ (by decide))) rfl hl.1 rfl (Nat.le_of_ble_eq_true rfl) ⟨Nat.zero_le _, Nat.zero_le _⟩ dX6_line_64 (fun H locs hB36 S => ?_)
          exact g_retb hx hb hr hlk S hB36 hz dX6_line_67
      · have hz := ipf (c12) hz
        refine lv_aload_n hx hb dX6_line_46 rfl (lv_at hl 0 rfl) ?_
        obtain ⟨q37, e38, hz⟩ := bd hz
        refine g_callVb (As := []) (rest := []) F S (c_X6_porterLine l G   _ e38) (cw_X6_line_X6_porterLine_84 hg) (S.obj (by decide) (by decide) rfl (oc_X6 _ _ _ (by decide))) rfl hl.1 rfl (Nat.le_of_ble_eq_true rfl) ⟨Nat.zero_le _, Nat.zero_le _⟩ dX6_line_47 (fun H locs hB39 S => ?_)
        exact g_retb hx hb hr hlk S hB39 hz dX6_line_50
    · have hz := ipf (c8) hz
      refine lv_aload_n hx hb dX6_line_29 rfl (lv_at hl 0 rfl) ?_
      obtain ⟨q40, e41, hz⟩ := bd hz
      refine g_callVb (As := []) (rest := []) F S (c_X6_boxLine l G   _ e41) (cw_X6_line_X6_boxLine_79 hg) (S.obj (by decide) (by decide) rfl (oc_X6 _ _ _ (by decide))) rfl hl.1 rfl (Nat.le_of_ble_eq_true rfl) ⟨Nat.zero_le _, Nat.zero_le _⟩ dX6_line_30 (fun H locs hB42 S => ?_)
      exact g_retb hx hb hr hlk S hB42 hz dX6_line_33
  · have hz := ipf (c4) hz
    refine lv_aload_n hx hb dX6_line_12 rfl (lv_at hl 0 rfl) ?_
    obtain ⟨q43, e44, hz⟩ := bd hz
    refine g_callVb (As := []) (rest := []) F S (c_X6_hallLine l G   _ e44) (cw_X6_line_X6_hallLine_74 hg) (S.obj (by decide) (by decide) rfl (oc_X6 _ _ _ (by decide))) rfl hl.1 rfl (Nat.le_of_ble_eq_true rfl) ⟨Nat.zero_le _, Nat.zero_le _⟩ dX6_line_13 (fun H locs hB45 S => ?_)
    exact g_retb hx hb hr hlk S hB45 hz dX6_line_16
noncomputable def f_X6_ends_20   (w : GW) : Option (Int32 × GW) :=
  (f_X6_wrong 6 w).bind fun q2 =>
  some (q2.1, q2.2)
noncomputable def f_X6_ends  (w : GW) : Option (Int32 × GW) :=
  if (gI w (fxH (gR w 2)) 0) = 0 then
    f_X6_ends_20 w
  else
    if (gI w (fxH (gR w 2)) 8) = 0 then
      f_X6_ends_20 w
    else
      (f_X3_sumUp (fxH (gR w 2)) w).bind fun q6 =>
      some (1, q6.2)
set_option maxHeartbeats 4000000 in
set_option maxRecDepth 100000 in
theorem w_X6_ends_20 {p : Program} {l : Launch} {e : Env} {s : State} {m : MethodId} {args : Array Value} {below : List Frame} {meth : Method} {c : Code} {G : GG} (F : CallFix p m c cX6_ends 1 s args (wsU yX6_ends cX6_ends 1 (some .boolean)) RX6) (hr : meth.sig.returnType = (some .boolean)) (hlk : meth.locks = false) {z : Int32 × GW} : (∀ (w : GW) (H : Heap) (locs : List Loc) (ls : Array Slot), St G w s H locs → lv_has ls 1 [(0, .ref (gad G 3))] → f_X6_ends_20  w = some z → W p l e (headSpec (wsU yX6_ends cX6_ends 1 (some .boolean)) rm_X6_ends).room s m args below meth c H locs 0 0 (MQ below (QB G z) args s 0 0 (gA G)) (F0 m 20 ls [])) := by
  obtain ⟨hx, hb, hml, hown, hts⟩ := id F
  have hg : ∀ q ∈ lwg, q.before args s = true := fun q h => hts q (List.mem_cons_of_mem _ h)
  intro w H locs ls S hl hz
  rw [f_X6_ends_20] at hz
  refine lv_aload_n hx hb dX6_ends_20 rfl (lv_at hl 0 rfl) ?_
  refine lv_bipush (v := 6) hx hb dX6_ends_21 (by decide) ?_
  obtain ⟨q2, e3, hz⟩ := bd hz
  refine g_callVb (As := [.int 6]) (rest := []) F S (c_X6_wrong l G 6  _ e3) (cw_X6_ends_X6_wrong_48 hg) (S.obj (by decide) (by decide) rfl (oc_X6 _ _ _ (by decide))) rfl hl.1 rfl (Nat.le_of_ble_eq_true rfl) ⟨Nat.zero_le _, Nat.zero_le _⟩ dX6_ends_23 (fun H locs hB4 S => ?_)
  exact g_retb hx hb hr hlk S hB4 hz dX6_ends_26
set_option maxHeartbeats 4000000 in
set_option maxRecDepth 100000 in
theorem c_X6_ends (l : Launch) (G : GG)   (w : GW) {z : Int32 × GW} (hz : f_X6_ends  w = some z) : Met l yX6_ends (wsU yX6_ends cX6_ends 1 (some .boolean)) rm_X6_ends (va_Pc [.ref (gad G 3)] (PreG G w)) (QB G z) 0 0 (gA G) := by
  refine Met.ofW (cc := cX6_ends) (maxL := 1) (ret := (some .boolean)) (by decide) rfl ?_
  intro p e s m args below meth c s₁ B hml hv
  obtain ⟨rfl, S⟩ := hv
  have F : CallFix p m c cX6_ends 1 s _ (wsU yX6_ends cX6_ends 1 (some .boolean)) RX6 := ⟨B.exec, B.bytes, hml, findClass_of_methodNamed B.named, atoms_spec B.pre⟩
  have hr := B.returns
  have hlk := B.notSynchronized
  obtain ⟨hx, hb, -, hown, hts⟩ := id F
  have hg : ∀ q ∈ lwg, q.before _ s = true := fun q h => hts q (List.mem_cons_of_mem _ h)
  refine g_entry (Nat.le_of_ble_eq_true rfl) (fun ls hl => ?_)
  have hl : lv_has ls 1 [(0, .ref (gad G 3))] := hl
  have S : St G w s s.heap [] := S
  generalize s.heap = H at S ⊢
  generalize ([] : List Loc) = locs at S ⊢
  rw [f_X6_ends] at hz
  refine lv_aload_n hx hb dX6_ends_0 rfl (lv_at hl 0 rfl) ?_
  refine fg_X6_1 hx hb (fun q h => hg q (tl_X6 q h)) hown (hg _ t_fl_X6_18) S (by decide) dX6_ends_1 ?_
  refine fg_X3_0 hx hb (fun q h => hg q (tl_X3 q h)) hown (hg _ t_fl_X6_55) S (kd_H _) dX6_ends_4 ?_
  refine lv_if_eq (tgt := 20) hx hb dX6_ends_7 (by decide) (fun c1 => ?_) (fun c1 => ?_)
  · have hz := ipt (c1) hz
    exact w_X6_ends_20 F hr hlk _ _ _ _ S (lv_sub hl [0] rfl) hz
  · have hz := ipf (c1) hz
    refine lv_aload_n hx hb dX6_ends_10 rfl (lv_at hl 0 rfl) ?_
    refine fg_X6_1 hx hb (fun q h => hg q (tl_X6 q h)) hown (hg _ t_fl_X6_18) S (by decide) dX6_ends_11 ?_
    refine fg_X3_8 hx hb (fun q h => hg q (tl_X3 q h)) hown (hg _ t_fl_X6_59) S (kd_H _) dX6_ends_14 ?_
    refine lv_if_ne (tgt := 27) hx hb dX6_ends_17 (by decide) (fun c5 => ?_) (fun c5 => ?_)
    · have hz := ipf (c5) hz
      refine lv_aload_n hx hb dX6_ends_27 rfl (lv_at hl 0 rfl) ?_
      refine fg_X6_1 hx hb (fun q h => hg q (tl_X6 q h)) hown (hg _ t_fl_X6_18) S (by decide) dX6_ends_28 ?_
      obtain ⟨q6, e7, hz⟩ := bd hz
      refine g_callVv (As := []) (rest := []) F S (c_X3_sumUp l G (fxH (gR w 2)) (kd_H _) _ e7) (cw_X6_ends_X3_sumUp_62 hg) (S.obj (kd_H _) (by decide) rfl (oc_X3 _ _ _ (kd_H _))) rfl hl.1 rfl (Nat.le_of_ble_eq_true rfl) ⟨Nat.zero_le _, Nat.zero_le _⟩ dX6_ends_31 (fun H locs  S => ?_)
      refine lv_iconst (v := 1) hx hb dX6_ends_34 (by decide) ?_
      exact g_retb hx hb hr hlk S isB_1 hz dX6_ends_35
    · have hz := ipt (c5) hz
      exact w_X6_ends_20 F hr hlk _ _ _ _ S (lv_sub hl [0] rfl) hz
noncomputable def f_X6_reads_32  : Nat → Int32 → GW → Option (Int32 × GW)
  | 0, _, _ => none
  | n9 + 1, x3, w =>
    if 900 < x3 then
      (f_X6_wrong 1 w).bind fun q6 =>
      some (q6.1, q6.2)
    else
      (f_X6_line w).bind fun q9 =>
      if q9.1 = 0 then
        some (0, q9.2)
      else
        if (gI q9.2 1 5) = 0 then
          (f_X6_ends q9.2).bind fun q20 =>
          some (q20.1, q20.2)
        else
          if (gI q9.2 1 5) = 3 then
            (f_X7_advance q9.2).bind fun q15 =>
            f_X6_reads_32 n9 (x3 + 1) q15.2
          else
            (f_X6_wrong 1 q9.2).bind fun q17 =>
            some (q17.1, q17.2)
noncomputable def f_X6_reads (k1 : Nat) (x2 : Int32) (w : GW) : Option (Int32 × GW) :=
  (f_X3_clear (fxH (gR (sR w 2 k1) 2)) (sR w 2 k1)).bind fun q1 =>
  (f_X7_begin x2 (sI (sI q1.2 3 3 0) 3 4 (-1))).bind fun q3 =>
  f_X6_reads_32 fu 0 q3.2
set_option maxHeartbeats 4000000 in
set_option maxRecDepth 100000 in
theorem w_X6_reads_32 {p : Program} {l : Launch} {e : Env} {s : State} {m : MethodId} {args : Array Value} {below : List Frame} {meth : Method} {c : Code} {G : GG} (F : CallFix p m c cX6_reads 4 s args (wsU yX6_reads cX6_reads 4 (some .boolean)) RX6) (hr : meth.sig.returnType = (some .boolean)) (hlk : meth.locks = false) {z : Int32 × GW} : ∀ (n9 : Nat), (∀ (x3 : Int32) (w : GW) (H : Heap) (locs : List Loc) (ls : Array Slot), St G w s H locs → lv_has ls 4 [(0, .ref (gad G 3)), (3, .int x3)] → f_X6_reads_32 n9 x3 w = some z → W p l e (headSpec (wsU yX6_reads cX6_reads 4 (some .boolean)) rm_X6_reads).room s m args below meth c H locs 0 0 (MQ below (QB G z) args s 0 0 (gA G)) (F0 m 32 ls [])) := by
  obtain ⟨hx, hb, hml, hown, hts⟩ := id F
  have hg : ∀ q ∈ lwg, q.before args s = true := fun q h => hts q (List.mem_cons_of_mem _ h)
  intro n9
  induction n9 with
  | zero =>
    intro x3 w H locs ls S hl hz
    rw [f_X6_reads_32] at hz
    cases hz
  | succ n9 ih =>
    intro x3 w H locs ls S hl hz
    rw [f_X6_reads_32] at hz
    refine lv_iload_n hx hb dX6_reads_32 rfl (lv_at hl 1 rfl) ?_
    refine lv_sipush (v := 900) hx hb dX6_reads_33 (by decide) ?_
    refine lv_icmp_gt (tgt := 93) hx hb dX6_reads_36 (by decide) (fun c5 => ?_) (fun c5 => ?_)
    · have hz := ipt (c5) hz
      refine lv_aload_n hx hb dX6_reads_93 rfl (lv_at hl 0 rfl) ?_
      refine lv_iconst (v := 1) hx hb dX6_reads_94 (by decide) ?_
      obtain ⟨q6, e7, hz⟩ := bd hz
      refine g_callVb (As := [.int 1]) (rest := []) F S (c_X6_wrong l G 1  _ e7) (cw_X6_reads_X6_wrong_48 hg) (S.obj (by decide) (by decide) rfl (oc_X6 _ _ _ (by decide))) rfl hl.1 rfl (Nat.le_of_ble_eq_true rfl) ⟨Nat.zero_le _, Nat.zero_le _⟩ dX6_reads_95 (fun H locs hB8 S => ?_)
      exact g_retb hx hb hr hlk S hB8 hz dX6_reads_98
    · have hz := ipf (c5) hz
      refine lv_aload_n hx hb dX6_reads_39 rfl (lv_at hl 0 rfl) ?_
      obtain ⟨q9, e10, hz⟩ := bd hz
      refine g_callVb (As := []) (rest := []) F S (c_X6_line l G   _ e10) (cw_X6_reads_X6_line_38 hg) (S.obj (by decide) (by decide) rfl (oc_X6 _ _ _ (by decide))) rfl hl.1 rfl (Nat.le_of_ble_eq_true rfl) ⟨Nat.zero_le _, Nat.zero_le _⟩ dX6_reads_40 (fun H locs hB11 S => ?_)
      refine lv_if_ne (tgt := 48) hx hb dX6_reads_43 (by decide) (fun c12 => ?_) (fun c12 => ?_)
      · have hz := ipf (c12) hz
        refine lv_aload_n hx hb dX6_reads_48 rfl (lv_at hl 0 rfl) ?_
        refine fg_X6_0 hx hb (fun q h => hg q (tl_X6 q h)) hown (hg _ t_fl_X6_9) S (by decide) dX6_reads_49 ?_
        refine fg_X7_5 hx hb (fun q h => hg q (tl_X7 q h)) hown (hg _ t_fl_X6_42) S (by decide) dX6_reads_52 ?_
        refine lv_if_ne (tgt := 63) hx hb dX6_reads_55 (by decide) (fun c13 => ?_) (fun c13 => ?_)
        · have hz := ipf (c13) hz
          refine lv_aload_n hx hb dX6_reads_63 rfl (lv_at hl 0 rfl) ?_
          refine fg_X6_0 hx hb (fun q h => hg q (tl_X6 q h)) hown (hg _ t_fl_X6_9) S (by decide) dX6_reads_64 ?_
          refine fg_X7_5 hx hb (fun q h => hg q (tl_X7 q h)) hown (hg _ t_fl_X6_42) S (by decide) dX6_reads_67 ?_
          refine lv_iconst (v := 3) hx hb dX6_reads_70 (by decide) ?_
          refine lv_icmp_eq (tgt := 80) hx hb dX6_reads_71 (by decide) (fun c14 => ?_) (fun c14 => ?_)
          · have hz := ipt (c14) hz
            refine lv_aload_n hx hb dX6_reads_80 rfl (lv_at hl 0 rfl) ?_
            refine fg_X6_0 hx hb (fun q h => hg q (tl_X6 q h)) hown (hg _ t_fl_X6_9) S (by decide) dX6_reads_81 ?_
            obtain ⟨q15, e16, hz⟩ := bd hz
            refine g_callVv (As := []) (rest := []) F S (c_X7_advance l G   _ e16) (cw_X6_reads_X7_advance_52 hg) (S.obj (by decide) (by decide) rfl (oc_X7 _ _ _ (by decide))) rfl hl.1 rfl (Nat.le_of_ble_eq_true rfl) ⟨Nat.zero_le _, Nat.zero_le _⟩ dX6_reads_84 (fun H locs  S => ?_)
            refine lv_iinc (v := (x3 + 1)) (lv' := [(3, .int (x3 + 1)), (0, .ref (gad G 3))]) hx hb dX6_reads_87 hl (k := 1) rfl rfl (by decide) rfl (fun ls hl => ?_)
            refine lv_goto (tgt := 32) hx hb dX6_reads_90 (by decide) ?_
            exact ih (x3 + 1)  _ _ _ _ S (lv_sub hl [1, 0] rfl) hz
          · have hz := ipf (c14) hz
            refine lv_aload_n hx hb dX6_reads_74 rfl (lv_at hl 0 rfl) ?_
            refine lv_iconst (v := 1) hx hb dX6_reads_75 (by decide) ?_
            obtain ⟨q17, e18, hz⟩ := bd hz
            refine g_callVb (As := [.int 1]) (rest := []) F S (c_X6_wrong l G 1  _ e18) (cw_X6_reads_X6_wrong_48 hg) (S.obj (by decide) (by decide) rfl (oc_X6 _ _ _ (by decide))) rfl hl.1 rfl (Nat.le_of_ble_eq_true rfl) ⟨Nat.zero_le _, Nat.zero_le _⟩ dX6_reads_76 (fun H locs hB19 S => ?_)
            exact g_retb hx hb hr hlk S hB19 hz dX6_reads_79
        · have hz := ipt (c13) hz
          refine lv_aload_n hx hb dX6_reads_58 rfl (lv_at hl 0 rfl) ?_
          obtain ⟨q20, e21, hz⟩ := bd hz
          refine g_callVb (As := []) (rest := []) F S (c_X6_ends l G   _ e21) (cw_X6_reads_X6_ends_45 hg) (S.obj (by decide) (by decide) rfl (oc_X6 _ _ _ (by decide))) rfl hl.1 rfl (Nat.le_of_ble_eq_true rfl) ⟨Nat.zero_le _, Nat.zero_le _⟩ dX6_reads_59 (fun H locs hB22 S => ?_)
          exact g_retb hx hb hr hlk S hB22 hz dX6_reads_62
      · have hz := ipt (c12) hz
        refine lv_iconst (v := 0) hx hb dX6_reads_46 (by decide) ?_
        exact g_retb hx hb hr hlk S isB_0 hz dX6_reads_47
set_option maxHeartbeats 4000000 in
set_option maxRecDepth 100000 in
theorem c_X6_reads (l : Launch) (G : GG) (k1 : Nat) (x2 : Int32) (hk1 : kd k1 = 3) (w : GW) {z : Int32 × GW} (hz : f_X6_reads k1 x2 w = some z) : Met l yX6_reads (wsU yX6_reads cX6_reads 4 (some .boolean)) rm_X6_reads (va_Pc [.ref (gad G 3), .ref (gad G k1), .int x2] (PreG G w)) (QB G z) 0 0 (gA G) := by
  refine Met.ofW (cc := cX6_reads) (maxL := 4) (ret := (some .boolean)) (by decide) rfl ?_
  intro p e s m args below meth c s₁ B hml hv
  obtain ⟨rfl, S⟩ := hv
  have F : CallFix p m c cX6_reads 4 s _ (wsU yX6_reads cX6_reads 4 (some .boolean)) RX6 := ⟨B.exec, B.bytes, hml, findClass_of_methodNamed B.named, atoms_spec B.pre⟩
  have hr := B.returns
  have hlk := B.notSynchronized
  obtain ⟨hx, hb, -, hown, hts⟩ := id F
  have hg : ∀ q ∈ lwg, q.before _ s = true := fun q h => hts q (List.mem_cons_of_mem _ h)
  refine g_entry (Nat.le_of_ble_eq_true rfl) (fun ls hl => ?_)
  have hl : lv_has ls 4 [(0, .ref (gad G 3)), (1, .ref (gad G k1)), (2, .int x2)] := hl
  have S : St G w s s.heap [] := S
  generalize s.heap = H at S ⊢
  generalize ([] : List Loc) = locs at S ⊢
  rw [f_X6_reads] at hz
  refine lv_aload_n hx hb dX6_reads_0 rfl (lv_at hl 0 rfl) ?_
  refine lv_aload_n hx hb dX6_reads_1 rfl (lv_at hl 1 rfl) ?_
  refine fp_X6_1 (v := k1) hx hb (fun q h => hg q (tl_X6 q h)) hown (hg _ t_fl_X6_18) S (by decide) hk1 dX6_reads_2 (fun H locs S => ?_)
  refine lv_aload_n hx hb dX6_reads_5 rfl (lv_at hl 0 rfl) ?_
  refine fg_X6_1 hx hb (fun q h => hg q (tl_X6 q h)) hown (hg _ t_fl_X6_18) S (by decide) dX6_reads_6 ?_
  obtain ⟨q1, e2, hz⟩ := bd hz
  refine g_callVv (As := []) (rest := []) F S (c_X3_clear l G (fxH (gR (sR w 2 k1) 2)) (kd_H _) _ e2) (cw_X6_reads_X3_clear_22 hg) (S.obj (kd_H _) (by decide) rfl (oc_X3 _ _ _ (kd_H _))) rfl hl.1 rfl (Nat.le_of_ble_eq_true rfl) ⟨Nat.zero_le _, Nat.zero_le _⟩ dX6_reads_9 (fun H locs  S => ?_)
  refine lv_aload_n hx hb dX6_reads_12 rfl (lv_at hl 0 rfl) ?_
  refine lv_iconst (v := 0) hx hb dX6_reads_13 (by decide) ?_
  refine fp_X6_3 (v := 0) hx hb (fun q h => hg q (tl_X6 q h)) hown (hg _ t_fl_X6_25) S (by decide) dX6_reads_14 (fun H locs S => ?_)
  refine lv_aload_n hx hb dX6_reads_17 rfl (lv_at hl 0 rfl) ?_
  refine lv_iconst (v := (-1)) hx hb dX6_reads_18 (by decide) ?_
  refine fp_X6_4 (v := (-1)) hx hb (fun q h => hg q (tl_X6 q h)) hown (hg _ t_fl_X6_29) S (by decide) dX6_reads_19 (fun H locs S => ?_)
  refine lv_aload_n hx hb dX6_reads_22 rfl (lv_at hl 0 rfl) ?_
  refine fg_X6_0 hx hb (fun q h => hg q (tl_X6 q h)) hown (hg _ t_fl_X6_9) S (by decide) dX6_reads_23 ?_
  refine lv_iload_n hx hb dX6_reads_26 rfl (lv_at hl 2 rfl) ?_
  obtain ⟨q3, e4, hz⟩ := bd hz
  refine g_callVv (As := [.int x2]) (rest := []) F S (c_X7_begin l G x2  _ e4) (cw_X6_reads_X7_begin_32 hg) (S.obj (by decide) (by decide) rfl (oc_X7 _ _ _ (by decide))) rfl hl.1 rfl (Nat.le_of_ble_eq_true rfl) ⟨Nat.zero_le _, Nat.zero_le _⟩ dX6_reads_27 (fun H locs  S => ?_)
  refine lv_iconst (v := 0) hx hb dX6_reads_30 (by decide) ?_
  refine lv_istore_n (lv' := [(3, .int 0), (0, .ref (gad G 3)), (1, .ref (gad G k1)), (2, .int x2)]) hx hb dX6_reads_31 rfl hl (by decide) rfl (fun ls hl => ?_)
  exact w_X6_reads_32 F hr hlk fu 0 _ _ _ _ S (lv_sub hl [1, 0] rfl) hz
noncomputable def f_X7_add_43 (k_3 : Int32 → Int32 → GW → Option (Unit × GW)) (x1 : Int32) (x2 : Int32) (w : GW) : Option (Unit × GW) :=
  k_3 x1 (x2 + (-8)) w
noncomputable def f_X7_add_3  : Nat → Int32 → Int32 → GW → Option (Unit × GW)
  | 0, _, _, _ => none
  | n9 + 1, x1, x2, w =>
    if x2 < 0 then
      some ((), w)
    else
      if 900 ≤ (gI w 1 3) then
        f_X7_add_43 (f_X7_add_3 n9) x1 x2 w
      else
        if inb (gI w 1 3) 900 then
        f_X7_add_43 (f_X7_add_3 n9) x1 x2 (sI (sI w 2 (ix (gI w 1 3)) ((x1 >>> (x2 &&& 31)) &&& 255)) 1 3 ((gI (sI w 2 (ix (gI w 1 3)) ((x1 >>> (x2 &&& 31)) &&& 255)) 1 3) + 1))
        else none
noncomputable def f_X7_add (x1 : Int32) (w : GW) : Option (Unit × GW) :=
  f_X7_add_3 fu x1 24 w
set_option maxHeartbeats 4000000 in
set_option maxRecDepth 100000 in
theorem w_X7_add_43 {p : Program} {l : Launch} {e : Env} {s : State} {m : MethodId} {args : Array Value} {below : List Frame} {meth : Method} {c : Code} {G : GG} (F : CallFix p m c cX7_add 3 s args (wsU yX7_add cX7_add 3 none) RX7) (hr : meth.sig.returnType = none) (hlk : meth.locks = false) {z : Unit × GW} {k_3 : Int32 → Int32 → GW → Option (Unit × GW)} (Hk_3 : (∀ (x1 : Int32) (x2 : Int32) (w : GW) (H : Heap) (locs : List Loc) (ls : Array Slot), St G w s H locs → lv_has ls 3 [(0, .ref (gad G 1)), (1, .int x1), (2, .int x2)] → k_3 x1 x2 w = some z → W p l e (headSpec (wsU yX7_add cX7_add 3 none) rm_X7_add).room s m args below meth c H locs 0 0 (MQ below (QV G z) args s 0 0 (gA G)) (F0 m 3 ls []))) : (∀ (x1 : Int32) (x2 : Int32) (w : GW) (H : Heap) (locs : List Loc) (ls : Array Slot), St G w s H locs → lv_has ls 3 [(0, .ref (gad G 1)), (1, .int x1), (2, .int x2)] → f_X7_add_43 k_3 x1 x2 w = some z → W p l e (headSpec (wsU yX7_add cX7_add 3 none) rm_X7_add).room s m args below meth c H locs 0 0 (MQ below (QV G z) args s 0 0 (gA G)) (F0 m 43 ls [])) := by
  obtain ⟨hx, hb, hml, hown, hts⟩ := id F
  have hg : ∀ q ∈ lwg, q.before args s = true := fun q h => hts q (List.mem_cons_of_mem _ h)
  intro x1 x2 w H locs ls S hl hz
  rw [f_X7_add_43] at hz
  refine lv_iinc (v := (x2 + (-8))) (lv' := [(2, .int (x2 + (-8))), (0, .ref (gad G 1)), (1, .int x1)]) hx hb dX7_add_43 hl (k := 2) rfl (by rw [show Int32.ofInt (-8) = (-8) from by decide]) (by decide) rfl (fun ls hl => ?_)
  refine lv_goto (tgt := 3) hx hb dX7_add_46 (by decide) ?_
  exact Hk_3 x1 (x2 + (-8))  _ _ _ _ S (lv_sub hl [1, 2, 0] rfl) hz
set_option maxHeartbeats 4000000 in
set_option maxRecDepth 100000 in
theorem w_X7_add_3 {p : Program} {l : Launch} {e : Env} {s : State} {m : MethodId} {args : Array Value} {below : List Frame} {meth : Method} {c : Code} {G : GG} (F : CallFix p m c cX7_add 3 s args (wsU yX7_add cX7_add 3 none) RX7) (hr : meth.sig.returnType = none) (hlk : meth.locks = false) {z : Unit × GW} : ∀ (n9 : Nat), (∀ (x1 : Int32) (x2 : Int32) (w : GW) (H : Heap) (locs : List Loc) (ls : Array Slot), St G w s H locs → lv_has ls 3 [(0, .ref (gad G 1)), (1, .int x1), (2, .int x2)] → f_X7_add_3 n9 x1 x2 w = some z → W p l e (headSpec (wsU yX7_add cX7_add 3 none) rm_X7_add).room s m args below meth c H locs 0 0 (MQ below (QV G z) args s 0 0 (gA G)) (F0 m 3 ls [])) := by
  obtain ⟨hx, hb, hml, hown, hts⟩ := id F
  have hg : ∀ q ∈ lwg, q.before args s = true := fun q h => hts q (List.mem_cons_of_mem _ h)
  intro n9
  induction n9 with
  | zero =>
    intro x1 x2 w H locs ls S hl hz
    rw [f_X7_add_3] at hz
    cases hz
  | succ n9 ih =>
    intro x1 x2 w H locs ls S hl hz
    rw [f_X7_add_3] at hz
    refine lv_iload_n hx hb dX7_add_3 rfl (lv_at hl 2 rfl) ?_
    refine lv_if_lt (tgt := 49) hx hb dX7_add_4 (by decide) (fun c1 => ?_) (fun c1 => ?_)
    · have hz := ipt (c1) hz
      exact g_retv hx hb hr hlk S hz dX7_add_49
    · have hz := ipf (c1) hz
      refine lv_aload_n hx hb dX7_add_7 rfl (lv_at hl 0 rfl) ?_
      refine fg_X7_3 hx hb (fun q h => hg q (tl_X7 q h)) hown (hg _ t_fl_X7_15) S (by decide) dX7_add_8 ?_
      refine lv_sipush (v := 900) hx hb dX7_add_11 (by decide) ?_
      refine lv_icmp_ge (tgt := 43) hx hb dX7_add_14 (by decide) (fun c2 => ?_) (fun c2 => ?_)
      · have hz := ipt (c2) hz
        exact w_X7_add_43 F hr hlk ih x1 x2 _ _ _ _ S (lv_sub hl [0, 1, 2] rfl) hz
      · have hz := ipf (c2) hz
        refine lv_aload_n hx hb dX7_add_17 rfl (lv_at hl 0 rfl) ?_
        refine fg_X7_0 hx hb (fun q h => hg q (tl_X7 q h)) hown (hg _ t_fl_X7_9) S (by decide) dX7_add_18 ?_
        refine lv_aload_n hx hb dX7_add_21 rfl (lv_at hl 0 rfl) ?_
        refine fg_X7_3 hx hb (fun q h => hg q (tl_X7 q h)) hown (hg _ t_fl_X7_15) S (by decide) dX7_add_22 ?_
        refine lv_iload_n hx hb dX7_add_25 rfl (lv_at hl 1 rfl) ?_
        refine lv_iload_n hx hb dX7_add_26 rfl (lv_at hl 2 rfl) ?_
        refine lv_ishr hx hb dX7_add_27 ?_
        refine lv_sipush (v := 255) hx hb dX7_add_28 (by decide) ?_
        refine lv_iand hx hb dX7_add_31 ?_
        obtain ⟨h3, hz⟩ := ck hz
        refine g_iast (x := ((x1 >>> (x2 &&& 31)) &&& 255)) hx hb S (isA_11 (by decide)) h3 dX7_add_32 (fun H locs S => ?_)
        refine lv_aload_n hx hb dX7_add_33 rfl (lv_at hl 0 rfl) ?_
        refine lv_dup hx hb dX7_add_34 rfl ?_
        refine fg_X7_3 hx hb (fun q h => hg q (tl_X7 q h)) hown (hg _ t_fl_X7_15) S (by decide) dX7_add_35 ?_
        refine lv_iconst (v := 1) hx hb dX7_add_38 (by decide) ?_
        refine lv_iadd hx hb dX7_add_39 ?_
        refine fp_X7_3 (v := ((gI (sI w 2 (ix (gI w 1 3)) ((x1 >>> (x2 &&& 31)) &&& 255)) 1 3) + 1)) hx hb (fun q h => hg q (tl_X7 q h)) hown (hg _ t_fl_X7_15) S (by decide) dX7_add_40 (fun H locs S => ?_)
        exact w_X7_add_43 F hr hlk ih x1 x2 _ _ _ _ S (lv_sub hl [0, 1, 2] rfl) hz
set_option maxHeartbeats 4000000 in
set_option maxRecDepth 100000 in
theorem c_X7_add (l : Launch) (G : GG) (x1 : Int32)  (w : GW) {z : Unit × GW} (hz : f_X7_add x1 w = some z) : Met l yX7_add (wsU yX7_add cX7_add 3 none) rm_X7_add (va_Pc [.ref (gad G 1), .int x1] (PreG G w)) (QV G z) 0 0 (gA G) := by
  refine Met.ofW (cc := cX7_add) (maxL := 3) (ret := none) (by decide) rfl ?_
  intro p e s m args below meth c s₁ B hml hv
  obtain ⟨rfl, S⟩ := hv
  have F : CallFix p m c cX7_add 3 s _ (wsU yX7_add cX7_add 3 none) RX7 := ⟨B.exec, B.bytes, hml, findClass_of_methodNamed B.named, atoms_spec B.pre⟩
  have hr := B.returns
  have hlk := B.notSynchronized
  obtain ⟨hx, hb, -, hown, hts⟩ := id F
  have hg : ∀ q ∈ lwg, q.before _ s = true := fun q h => hts q (List.mem_cons_of_mem _ h)
  refine g_entry (Nat.le_of_ble_eq_true rfl) (fun ls hl => ?_)
  have hl : lv_has ls 3 [(0, .ref (gad G 1)), (1, .int x1)] := hl
  have S : St G w s s.heap [] := S
  generalize s.heap = H at S ⊢
  generalize ([] : List Loc) = locs at S ⊢
  rw [f_X7_add] at hz
  refine lv_bipush (v := 24) hx hb dX7_add_0 (by decide) ?_
  refine lv_istore_n (lv' := [(2, .int 24), (0, .ref (gad G 1)), (1, .int x1)]) hx hb dX7_add_2 rfl hl (by decide) rfl (fun ls hl => ?_)
  exact w_X7_add_3 F hr hlk fu x1 24 _ _ _ _ S (lv_sub hl [1, 2, 0] rfl) hz
noncomputable def f_X8_feed (x1 : Int32) (x2 : Int32) (x3 : Int32) (x4 : Int32) (x5 : Int32) (w : GW) : Option (Int32 × GW) :=
  if ((gI w 1 3) + 20) ≤ 900 then
    (f_X7_add x1 w).bind fun q2 =>
    (f_X7_add x2 q2.2).bind fun q4 =>
    (f_X7_add x3 q4.2).bind fun q6 =>
    (f_X7_add x4 q6.2).bind fun q8 =>
    (f_X7_add x5 q8.2).bind fun q10 =>
    some ((gI q10.2 1 3), q10.2)
  else
    some ((-1), w)
set_option maxHeartbeats 4000000 in
set_option maxRecDepth 100000 in
theorem c_X8_feed (l : Launch) (G : GG) (x1 : Int32) (x2 : Int32) (x3 : Int32) (x4 : Int32) (x5 : Int32)  (w : GW) {z : Int32 × GW} (hz : f_X8_feed x1 x2 x3 x4 x5 w = some z) : Met l yX8_feed (wsU yX8_feed cX8_feed 6 (some .int)) rm_X8_feed (va_Pc [.ref (gad G 0), .int x1, .int x2, .int x3, .int x4, .int x5] (PreG G w)) (QI G z) 0 0 (gA G) := by
  refine Met.ofW (cc := cX8_feed) (maxL := 6) (ret := (some .int)) (by decide) rfl ?_
  intro p e s m args below meth c s₁ B hml hv
  obtain ⟨rfl, S⟩ := hv
  have F : CallFix p m c cX8_feed 6 s _ (wsU yX8_feed cX8_feed 6 (some .int)) RX8 := ⟨B.exec, B.bytes, hml, findClass_of_methodNamed B.named, atoms_spec B.pre⟩
  have hr := B.returns
  have hlk := B.notSynchronized
  obtain ⟨hx, hb, -, hown, hts⟩ := id F
  have hg : ∀ q ∈ lwg, q.before _ s = true := fun q h => hts q (List.mem_cons_of_mem _ h)
  refine g_entry (Nat.le_of_ble_eq_true rfl) (fun ls hl => ?_)
  have hl : lv_has ls 6 [(0, .ref (gad G 0)), (1, .int x1), (2, .int x2), (3, .int x3), (4, .int x4), (5, .int x5)] := hl
  have S : St G w s s.heap [] := S
  generalize s.heap = H at S ⊢
  generalize ([] : List Loc) = locs at S ⊢
  rw [f_X8_feed] at hz
  refine lv_aload_n hx hb dX8_feed_0 rfl (lv_at hl 0 rfl) ?_
  refine fg_X8_0 hx hb (fun q h => hg q (tl_X8 q h)) hown (hg _ t_fl_X8_12) S (by decide) dX8_feed_1 ?_
  refine fg_X7_3 hx hb (fun q h => hg q (tl_X7 q h)) hown (hg _ t_fl_X8_88) S (by decide) dX8_feed_4 ?_
  refine lv_bipush (v := 20) hx hb dX8_feed_7 (by decide) ?_
  refine lv_iadd hx hb dX8_feed_9 ?_
  refine lv_sipush (v := 900) hx hb dX8_feed_10 (by decide) ?_
  refine lv_icmp_le (tgt := 18) hx hb dX8_feed_13 (by decide) (fun c1 => ?_) (fun c1 => ?_)
  · have hz := ipt (c1) hz
    refine lv_aload_n hx hb dX8_feed_18 rfl (lv_at hl 0 rfl) ?_
    refine fg_X8_0 hx hb (fun q h => hg q (tl_X8 q h)) hown (hg _ t_fl_X8_12) S (by decide) dX8_feed_19 ?_
    refine lv_iload_n hx hb dX8_feed_22 rfl (lv_at hl 1 rfl) ?_
    obtain ⟨q2, e3, hz⟩ := bd hz
    refine g_callVv (As := [.int x1]) (rest := []) F S (c_X7_add l G x1  _ e3) (cw_X8_feed_X7_add_91 hg) (S.obj (by decide) (by decide) rfl (oc_X7 _ _ _ (by decide))) rfl hl.1 rfl (Nat.le_of_ble_eq_true rfl) ⟨Nat.zero_le _, Nat.zero_le _⟩ dX8_feed_23 (fun H locs  S => ?_)
    refine lv_aload_n hx hb dX8_feed_26 rfl (lv_at hl 0 rfl) ?_
    refine fg_X8_0 hx hb (fun q h => hg q (tl_X8 q h)) hown (hg _ t_fl_X8_12) S (by decide) dX8_feed_27 ?_
    refine lv_iload_n hx hb dX8_feed_30 rfl (lv_at hl 2 rfl) ?_
    obtain ⟨q4, e5, hz⟩ := bd hz
    refine g_callVv (As := [.int x2]) (rest := []) F S (c_X7_add l G x2  _ e5) (cw_X8_feed_X7_add_91 hg) (S.obj (by decide) (by decide) rfl (oc_X7 _ _ _ (by decide))) rfl hl.1 rfl (Nat.le_of_ble_eq_true rfl) ⟨Nat.zero_le _, Nat.zero_le _⟩ dX8_feed_31 (fun H locs  S => ?_)
    refine lv_aload_n hx hb dX8_feed_34 rfl (lv_at hl 0 rfl) ?_
    refine fg_X8_0 hx hb (fun q h => hg q (tl_X8 q h)) hown (hg _ t_fl_X8_12) S (by decide) dX8_feed_35 ?_
    refine lv_iload_n hx hb dX8_feed_38 rfl (lv_at hl 3 rfl) ?_
    obtain ⟨q6, e7, hz⟩ := bd hz
    refine g_callVv (As := [.int x3]) (rest := []) F S (c_X7_add l G x3  _ e7) (cw_X8_feed_X7_add_91 hg) (S.obj (by decide) (by decide) rfl (oc_X7 _ _ _ (by decide))) rfl hl.1 rfl (Nat.le_of_ble_eq_true rfl) ⟨Nat.zero_le _, Nat.zero_le _⟩ dX8_feed_39 (fun H locs  S => ?_)
    refine lv_aload_n hx hb dX8_feed_42 rfl (lv_at hl 0 rfl) ?_
    refine fg_X8_0 hx hb (fun q h => hg q (tl_X8 q h)) hown (hg _ t_fl_X8_12) S (by decide) dX8_feed_43 ?_
    refine lv_iload hx hb dX8_feed_46 (lv_at hl 4 rfl) ?_
    obtain ⟨q8, e9, hz⟩ := bd hz
    refine g_callVv (As := [.int x4]) (rest := []) F S (c_X7_add l G x4  _ e9) (cw_X8_feed_X7_add_91 hg) (S.obj (by decide) (by decide) rfl (oc_X7 _ _ _ (by decide))) rfl hl.1 rfl (Nat.le_of_ble_eq_true rfl) ⟨Nat.zero_le _, Nat.zero_le _⟩ dX8_feed_48 (fun H locs  S => ?_)
    refine lv_aload_n hx hb dX8_feed_51 rfl (lv_at hl 0 rfl) ?_
    refine fg_X8_0 hx hb (fun q h => hg q (tl_X8 q h)) hown (hg _ t_fl_X8_12) S (by decide) dX8_feed_52 ?_
    refine lv_iload hx hb dX8_feed_55 (lv_at hl 5 rfl) ?_
    obtain ⟨q10, e11, hz⟩ := bd hz
    refine g_callVv (As := [.int x5]) (rest := []) F S (c_X7_add l G x5  _ e11) (cw_X8_feed_X7_add_91 hg) (S.obj (by decide) (by decide) rfl (oc_X7 _ _ _ (by decide))) rfl hl.1 rfl (Nat.le_of_ble_eq_true rfl) ⟨Nat.zero_le _, Nat.zero_le _⟩ dX8_feed_57 (fun H locs  S => ?_)
    refine lv_aload_n hx hb dX8_feed_60 rfl (lv_at hl 0 rfl) ?_
    refine fg_X8_0 hx hb (fun q h => hg q (tl_X8 q h)) hown (hg _ t_fl_X8_12) S (by decide) dX8_feed_61 ?_
    refine fg_X7_3 hx hb (fun q h => hg q (tl_X7 q h)) hown (hg _ t_fl_X8_88) S (by decide) dX8_feed_64 ?_
    exact g_reti hx hb hr hlk S hz dX8_feed_67
  · have hz := ipf (c1) hz
    refine lv_iconst (v := (-1)) hx hb dX8_feed_16 (by decide) ?_
    exact g_reti hx hb hr hlk S hz dX8_feed_17
noncomputable def f_X8_refuse (x1 : Int32) (w : GW) : Option (Int32 × GW) :=
  some ((-1), (sI w 0 12 x1))
set_option maxHeartbeats 4000000 in
set_option maxRecDepth 100000 in
theorem c_X8_refuse (l : Launch) (G : GG) (x1 : Int32)  (w : GW) {z : Int32 × GW} (hz : f_X8_refuse x1 w = some z) : Met l yX8_refuse (wsU yX8_refuse cX8_refuse 2 (some .int)) rm_X8_refuse (va_Pc [.ref (gad G 0), .int x1] (PreG G w)) (QI G z) 0 0 (gA G) := by
  refine Met.ofW (cc := cX8_refuse) (maxL := 2) (ret := (some .int)) (by decide) rfl ?_
  intro p e s m args below meth c s₁ B hml hv
  obtain ⟨rfl, S⟩ := hv
  have F : CallFix p m c cX8_refuse 2 s _ (wsU yX8_refuse cX8_refuse 2 (some .int)) RX8 := ⟨B.exec, B.bytes, hml, findClass_of_methodNamed B.named, atoms_spec B.pre⟩
  have hr := B.returns
  have hlk := B.notSynchronized
  obtain ⟨hx, hb, -, hown, hts⟩ := id F
  have hg : ∀ q ∈ lwg, q.before _ s = true := fun q h => hts q (List.mem_cons_of_mem _ h)
  refine g_entry (Nat.le_of_ble_eq_true rfl) (fun ls hl => ?_)
  have hl : lv_has ls 2 [(0, .ref (gad G 0)), (1, .int x1)] := hl
  have S : St G w s s.heap [] := S
  generalize s.heap = H at S ⊢
  generalize ([] : List Loc) = locs at S ⊢
  rw [f_X8_refuse] at hz
  refine lv_aload_n hx hb dX8_refuse_0 rfl (lv_at hl 0 rfl) ?_
  refine lv_iload_n hx hb dX8_refuse_1 rfl (lv_at hl 1 rfl) ?_
  refine fp_X8_12 (v := x1) hx hb (fun q h => hg q (tl_X8 q h)) hown (hg _ t_fl_X8_85) S (by decide) dX8_refuse_2 (fun H locs S => ?_)
  refine lv_iconst (v := (-1)) hx hb dX8_refuse_5 (by decide) ?_
  exact g_reti hx hb hr hlk S hz dX8_refuse_6
noncomputable def f_X8_fine (x1 : Int32) (w : GW) : Option (Int32 × GW) :=
  some (x1, (sI w 0 12 0))
set_option maxHeartbeats 4000000 in
set_option maxRecDepth 100000 in
theorem c_X8_fine (l : Launch) (G : GG) (x1 : Int32)  (w : GW) {z : Int32 × GW} (hz : f_X8_fine x1 w = some z) : Met l yX8_fine (wsU yX8_fine cX8_fine 2 (some .int)) rm_X8_fine (va_Pc [.ref (gad G 0), .int x1] (PreG G w)) (QI G z) 0 0 (gA G) := by
  refine Met.ofW (cc := cX8_fine) (maxL := 2) (ret := (some .int)) (by decide) rfl ?_
  intro p e s m args below meth c s₁ B hml hv
  obtain ⟨rfl, S⟩ := hv
  have F : CallFix p m c cX8_fine 2 s _ (wsU yX8_fine cX8_fine 2 (some .int)) RX8 := ⟨B.exec, B.bytes, hml, findClass_of_methodNamed B.named, atoms_spec B.pre⟩
  have hr := B.returns
  have hlk := B.notSynchronized
  obtain ⟨hx, hb, -, hown, hts⟩ := id F
  have hg : ∀ q ∈ lwg, q.before _ s = true := fun q h => hts q (List.mem_cons_of_mem _ h)
  refine g_entry (Nat.le_of_ble_eq_true rfl) (fun ls hl => ?_)
  have hl : lv_has ls 2 [(0, .ref (gad G 0)), (1, .int x1)] := hl
  have S : St G w s s.heap [] := S
  generalize s.heap = H at S ⊢
  generalize ([] : List Loc) = locs at S ⊢
  rw [f_X8_fine] at hz
  refine lv_aload_n hx hb dX8_fine_0 rfl (lv_at hl 0 rfl) ?_
  refine lv_iconst (v := 0) hx hb dX8_fine_1 (by decide) ?_
  refine fp_X8_12 (v := 0) hx hb (fun q h => hg q (tl_X8 q h)) hown (hg _ t_fl_X8_85) S (by decide) dX8_fine_2 (fun H locs S => ?_)
  refine lv_iload_n hx hb dX8_fine_5 rfl (lv_at hl 1 rfl) ?_
  exact g_reti hx hb hr hlk S hz dX8_fine_6
noncomputable def f_X8_hall_15   (w : GW) : Option (Int32 × GW) :=
  (f_X8_refuse 2 w).bind fun q2 =>
  some (q2.1, q2.2)
noncomputable def f_X8_hall (x1 : Int32) (w : GW) : Option (Int32 × GW) :=
  if x1 < 0 then
    f_X8_hall_15 w
  else
    if x1 ≤ (gI w 1 3) then
      (f_X6_reads (fxH (gR w 1)) x1 w).bind fun q5 =>
      if q5.1 = 0 then
        (f_X8_refuse 4 (sI q5.2 1 3 0)).bind fun q15 =>
        some (q15.1, q15.2)
      else
        (f_X0_begin (fxH (gR (sR (sR (sI q5.2 1 3 0) 0 (fxH (gR (sI q5.2 1 3 0) 1))) 1 (fxH (gR (sI q5.2 1 3 0) 0))) 0)) (sR (sR (sI q5.2 1 3 0) 0 (fxH (gR (sI q5.2 1 3 0) 1))) 1 (fxH (gR (sI q5.2 1 3 0) 0)))).bind fun q9 =>
        (f_X2_begin 121 0 0 q9.2).bind fun q11 =>
        (f_X8_fine (gI (sI q11.2 0 11 0) (fxH (gR (sI q11.2 0 11 0) 0)) 8) (sI q11.2 0 11 0)).bind fun q13 =>
        some (q13.1, q13.2)
    else
      f_X8_hall_15 w
set_option maxHeartbeats 4000000 in
set_option maxRecDepth 100000 in
theorem w_X8_hall_15 {p : Program} {l : Launch} {e : Env} {s : State} {m : MethodId} {args : Array Value} {below : List Frame} {meth : Method} {c : Code} {G : GG} (F : CallFix p m c cX8_hall 4 s args (wsU yX8_hall cX8_hall 4 (some .int)) RX8) (hr : meth.sig.returnType = (some .int)) (hlk : meth.locks = false) {z : Int32 × GW} : (∀ (w : GW) (H : Heap) (locs : List Loc) (ls : Array Slot), St G w s H locs → lv_has ls 4 [(0, .ref (gad G 0))] → f_X8_hall_15  w = some z → W p l e (headSpec (wsU yX8_hall cX8_hall 4 (some .int)) rm_X8_hall).room s m args below meth c H locs 0 0 (MQ below (QI G z) args s 0 0 (gA G)) (F0 m 15 ls [])) := by
  obtain ⟨hx, hb, hml, hown, hts⟩ := id F
  have hg : ∀ q ∈ lwg, q.before args s = true := fun q h => hts q (List.mem_cons_of_mem _ h)
  intro w H locs ls S hl hz
  rw [f_X8_hall_15] at hz
  refine lv_aload_n hx hb dX8_hall_15 rfl (lv_at hl 0 rfl) ?_
  refine lv_iconst (v := 2) hx hb dX8_hall_16 (by decide) ?_
  obtain ⟨q2, e3, hz⟩ := bd hz
  refine g_callVi (As := [.int 2]) (rest := []) F S (c_X8_refuse l G 2  _ e3) (cw_X8_hall_X8_refuse_95 hg) (S.obj (by decide) (by decide) rfl (oc_X8 _ _ _ (by decide))) rfl hl.1 rfl (Nat.le_of_ble_eq_true rfl) ⟨Nat.zero_le _, Nat.zero_le _⟩ dX8_hall_17 (fun H locs  S => ?_)
  exact g_reti hx hb hr hlk S hz dX8_hall_20
set_option maxHeartbeats 4000000 in
set_option maxRecDepth 100000 in
theorem c_X8_hall (l : Launch) (G : GG) (x1 : Int32)  (w : GW) {z : Int32 × GW} (hz : f_X8_hall x1 w = some z) : Met l yX8_hall (wsU yX8_hall cX8_hall 4 (some .int)) rm_X8_hall (va_Pc [.ref (gad G 0), .int x1] (PreG G w)) (QI G z) 0 0 (gA G) := by
  refine Met.ofW (cc := cX8_hall) (maxL := 4) (ret := (some .int)) (by decide) rfl ?_
  intro p e s m args below meth c s₁ B hml hv
  obtain ⟨rfl, S⟩ := hv
  have F : CallFix p m c cX8_hall 4 s _ (wsU yX8_hall cX8_hall 4 (some .int)) RX8 := ⟨B.exec, B.bytes, hml, findClass_of_methodNamed B.named, atoms_spec B.pre⟩
  have hr := B.returns
  have hlk := B.notSynchronized
  obtain ⟨hx, hb, -, hown, hts⟩ := id F
  have hg : ∀ q ∈ lwg, q.before _ s = true := fun q h => hts q (List.mem_cons_of_mem _ h)
  refine g_entry (Nat.le_of_ble_eq_true rfl) (fun ls hl => ?_)
  have hl : lv_has ls 4 [(0, .ref (gad G 0)), (1, .int x1)] := hl
  have S : St G w s s.heap [] := S
  generalize s.heap = H at S ⊢
  generalize ([] : List Loc) = locs at S ⊢
  rw [f_X8_hall] at hz
  refine lv_iload_n hx hb dX8_hall_0 rfl (lv_at hl 1 rfl) ?_
  refine lv_if_lt (tgt := 15) hx hb dX8_hall_1 (by decide) (fun c1 => ?_) (fun c1 => ?_)
  · have hz := ipt (c1) hz
    exact w_X8_hall_15 F hr hlk _ _ _ _ S (lv_sub hl [0] rfl) hz
  · have hz := ipf (c1) hz
    refine lv_iload_n hx hb dX8_hall_4 rfl (lv_at hl 1 rfl) ?_
    refine lv_aload_n hx hb dX8_hall_5 rfl (lv_at hl 0 rfl) ?_
    refine fg_X8_0 hx hb (fun q h => hg q (tl_X8 q h)) hown (hg _ t_fl_X8_12) S (by decide) dX8_hall_6 ?_
    refine fg_X7_3 hx hb (fun q h => hg q (tl_X7 q h)) hown (hg _ t_fl_X8_88) S (by decide) dX8_hall_9 ?_
    refine lv_icmp_le (tgt := 21) hx hb dX8_hall_12 (by decide) (fun c4 => ?_) (fun c4 => ?_)
    · have hz := ipt (c4) hz
      refine lv_aload_n hx hb dX8_hall_21 rfl (lv_at hl 0 rfl) ?_
      refine fg_X8_1 hx hb (fun q h => hg q (tl_X8 q h)) hown (hg _ t_fl_X8_21) S (by decide) dX8_hall_22 ?_
      refine lv_aload_n hx hb dX8_hall_25 rfl (lv_at hl 0 rfl) ?_
      refine fg_X8_10 hx hb (fun q h => hg q (tl_X8 q h)) hown (hg _ t_fl_X8_32) S (by decide) dX8_hall_26 ?_
      refine lv_iload_n hx hb dX8_hall_29 rfl (lv_at hl 1 rfl) ?_
      obtain ⟨q5, e6, hz⟩ := bd hz
      refine g_callVb (As := [.ref (gad G (fxH (gR w 1))), .int x1]) (rest := []) F S (c_X6_reads l G (fxH (gR w 1)) x1 (kd_H _) _ e6) (cw_X8_hall_X6_reads_99 hg) (S.obj (by decide) (by decide) rfl (oc_X6 _ _ _ (by decide))) rfl hl.1 rfl (Nat.le_of_ble_eq_true rfl) ⟨Nat.zero_le _, Nat.zero_le _⟩ dX8_hall_30 (fun H locs hB7 S => ?_)
      refine lv_istore_n (lv' := [(2, .int q5.1), (0, .ref (gad G 0)), (1, .int x1)]) hx hb dX8_hall_33 rfl hl (by decide) rfl (fun ls hl => ?_)
      refine lv_aload_n hx hb dX8_hall_34 rfl (lv_at hl 1 rfl) ?_
      refine fg_X8_0 hx hb (fun q h => hg q (tl_X8 q h)) hown (hg _ t_fl_X8_12) S (by decide) dX8_hall_35 ?_
      refine lv_iconst (v := 0) hx hb dX8_hall_38 (by decide) ?_
      refine fp_X7_3 (v := 0) hx hb (fun q h => hg q (tl_X7 q h)) hown (hg _ t_fl_X8_88) S (by decide) dX8_hall_39 (fun H locs S => ?_)
      refine lv_iload_n hx hb dX8_hall_42 rfl (lv_at hl 0 rfl) ?_
      refine lv_if_ne (tgt := 52) hx hb dX8_hall_43 (by decide) (fun c8 => ?_) (fun c8 => ?_)
      · have hz := ipf (c8) hz
        refine lv_aload_n hx hb dX8_hall_52 rfl (lv_at hl 1 rfl) ?_
        refine fg_X8_9 hx hb (fun q h => hg q (tl_X8 q h)) hown (hg _ t_fl_X8_28) S (by decide) dX8_hall_53 ?_
        refine lv_astore_n (lv' := [(3, .ref (gad G (fxH (gR (sI q5.2 1 3 0) 0)))), (2, .int q5.1), (0, .ref (gad G 0)), (1, .int x1)]) hx hb dX8_hall_56 rfl hl (by decide) rfl (fun ls hl => ?_)
        refine lv_aload_n hx hb dX8_hall_57 rfl (lv_at hl 2 rfl) ?_
        refine lv_aload_n hx hb dX8_hall_58 rfl (lv_at hl 2 rfl) ?_
        refine fg_X8_10 hx hb (fun q h => hg q (tl_X8 q h)) hown (hg _ t_fl_X8_32) S (by decide) dX8_hall_59 ?_
        refine fp_X8_9 (v := (fxH (gR (sI q5.2 1 3 0) 1))) hx hb (fun q h => hg q (tl_X8 q h)) hown (hg _ t_fl_X8_28) S (by decide) (kd_H _) dX8_hall_62 (fun H locs S => ?_)
        refine lv_aload_n hx hb dX8_hall_65 rfl (lv_at hl 2 rfl) ?_
        refine lv_aload_n hx hb dX8_hall_66 rfl (lv_at hl 0 rfl) ?_
        refine fp_X8_10 (v := (fxH (gR (sI q5.2 1 3 0) 0))) hx hb (fun q h => hg q (tl_X8 q h)) hown (hg _ t_fl_X8_32) S (by decide) (kd_H _) dX8_hall_67 (fun H locs S => ?_)
        refine lv_aload_n hx hb dX8_hall_70 rfl (lv_at hl 2 rfl) ?_
        refine fg_X8_2 hx hb (fun q h => hg q (tl_X8 q h)) hown (hg _ t_fl_X8_49) S (by decide) dX8_hall_71 ?_
        refine lv_aload_n hx hb dX8_hall_74 rfl (lv_at hl 2 rfl) ?_
        refine fg_X8_9 hx hb (fun q h => hg q (tl_X8 q h)) hown (hg _ t_fl_X8_28) S (by decide) dX8_hall_75 ?_
        obtain ⟨q9, e10, hz⟩ := bd hz
        refine g_callVv (As := [.ref (gad G (fxH (gR (sR (sR (sI q5.2 1 3 0) 0 (fxH (gR (sI q5.2 1 3 0) 1))) 1 (fxH (gR (sI q5.2 1 3 0) 0))) 0)))]) (rest := []) F S (c_X0_begin l G (fxH (gR (sR (sR (sI q5.2 1 3 0) 0 (fxH (gR (sI q5.2 1 3 0) 1))) 1 (fxH (gR (sI q5.2 1 3 0) 0))) 0)) (kd_H _) _ e10) (cw_X8_hall_X0_begin_103 hg) (S.obj (by decide) (by decide) rfl (oc_X0 _ _ _ (by decide))) rfl hl.1 rfl (Nat.le_of_ble_eq_true rfl) ⟨Nat.zero_le _, Nat.zero_le _⟩ dX8_hall_78 (fun H locs  S => ?_)
        refine lv_aload_n hx hb dX8_hall_81 rfl (lv_at hl 2 rfl) ?_
        refine fg_X8_7 hx hb (fun q h => hg q (tl_X8 q h)) hown (hg _ t_fl_X8_73) S (by decide) dX8_hall_82 ?_
        refine lv_iconst (v := 0) hx hb dX8_hall_85 (by decide) ?_
        refine lv_iconst (v := 0) hx hb dX8_hall_86 (by decide) ?_
        obtain ⟨q11, e12, hz⟩ := bd hz
        refine g_callVv (As := [.int 0, .int 0]) (rest := []) F S (c_X2_begin l G 121 0 0 (by decide) _ e12) (cw_X8_hall_X2_begin_106 hg) (S.obj (by decide) (by decide) rfl (oc_X2 _ _ _ (by decide))) rfl hl.1 rfl (Nat.le_of_ble_eq_true rfl) ⟨Nat.zero_le _, Nat.zero_le _⟩ dX8_hall_87 (fun H locs  S => ?_)
        refine lv_aload_n hx hb dX8_hall_90 rfl (lv_at hl 2 rfl) ?_
        refine lv_iconst (v := 0) hx hb dX8_hall_91 (by decide) ?_
        refine fp_X8_11 (v := 0) hx hb (fun q h => hg q (tl_X8 q h)) hown (hg _ t_fl_X8_81) S (by decide) dX8_hall_92 (fun H locs S => ?_)
        refine lv_aload_n hx hb dX8_hall_95 rfl (lv_at hl 2 rfl) ?_
        refine lv_aload_n hx hb dX8_hall_96 rfl (lv_at hl 2 rfl) ?_
        refine fg_X8_9 hx hb (fun q h => hg q (tl_X8 q h)) hown (hg _ t_fl_X8_28) S (by decide) dX8_hall_97 ?_
        refine fg_X3_8 hx hb (fun q h => hg q (tl_X3 q h)) hown (hg _ t_fl_X8_109) S (kd_H _) dX8_hall_100 ?_
        obtain ⟨q13, e14, hz⟩ := bd hz
        refine g_callVi (As := [.int (gI (sI q11.2 0 11 0) (fxH (gR (sI q11.2 0 11 0) 0)) 8)]) (rest := []) F S (c_X8_fine l G (gI (sI q11.2 0 11 0) (fxH (gR (sI q11.2 0 11 0) 0)) 8)  _ e14) (cw_X8_hall_X8_fine_112 hg) (S.obj (by decide) (by decide) rfl (oc_X8 _ _ _ (by decide))) rfl hl.1 rfl (Nat.le_of_ble_eq_true rfl) ⟨Nat.zero_le _, Nat.zero_le _⟩ dX8_hall_103 (fun H locs  S => ?_)
        exact g_reti hx hb hr hlk S hz dX8_hall_106
      · have hz := ipt (c8) hz
        refine lv_aload_n hx hb dX8_hall_46 rfl (lv_at hl 1 rfl) ?_
        refine lv_iconst (v := 4) hx hb dX8_hall_47 (by decide) ?_
        obtain ⟨q15, e16, hz⟩ := bd hz
        refine g_callVi (As := [.int 4]) (rest := []) F S (c_X8_refuse l G 4  _ e16) (cw_X8_hall_X8_refuse_95 hg) (S.obj (by decide) (by decide) rfl (oc_X8 _ _ _ (by decide))) rfl hl.1 rfl (Nat.le_of_ble_eq_true rfl) ⟨Nat.zero_le _, Nat.zero_le _⟩ dX8_hall_48 (fun H locs  S => ?_)
        exact g_reti hx hb hr hlk S hz dX8_hall_51
    · have hz := ipf (c4) hz
      exact w_X8_hall_15 F hr hlk _ _ _ _ S (lv_sub hl [0] rfl) hz
noncomputable def f_X8_fault  (w : GW) : Option (Int32 × GW) :=
  some ((gI w 3 3), w)
set_option maxHeartbeats 4000000 in
set_option maxRecDepth 100000 in
theorem c_X8_fault (l : Launch) (G : GG)   (w : GW) {z : Int32 × GW} (hz : f_X8_fault  w = some z) : Met l yX8_fault (wsU yX8_fault cX8_fault 1 (some .int)) rm_X8_fault (va_Pc [.ref (gad G 0)] (PreG G w)) (QI G z) 0 0 (gA G) := by
  refine Met.ofW (cc := cX8_fault) (maxL := 1) (ret := (some .int)) (by decide) rfl ?_
  intro p e s m args below meth c s₁ B hml hv
  obtain ⟨rfl, S⟩ := hv
  have F : CallFix p m c cX8_fault 1 s _ (wsU yX8_fault cX8_fault 1 (some .int)) RX8 := ⟨B.exec, B.bytes, hml, findClass_of_methodNamed B.named, atoms_spec B.pre⟩
  have hr := B.returns
  have hlk := B.notSynchronized
  obtain ⟨hx, hb, -, hown, hts⟩ := id F
  have hg : ∀ q ∈ lwg, q.before _ s = true := fun q h => hts q (List.mem_cons_of_mem _ h)
  refine g_entry (Nat.le_of_ble_eq_true rfl) (fun ls hl => ?_)
  have hl : lv_has ls 1 [(0, .ref (gad G 0))] := hl
  have S : St G w s s.heap [] := S
  generalize s.heap = H at S ⊢
  generalize ([] : List Loc) = locs at S ⊢
  rw [f_X8_fault] at hz
  refine lv_aload_n hx hb dX8_fault_0 rfl (lv_at hl 0 rfl) ?_
  refine fg_X8_1 hx hb (fun q h => hg q (tl_X8 q h)) hown (hg _ t_fl_X8_21) S (by decide) dX8_fault_1 ?_
  refine fg_X6_3 hx hb (fun q h => hg q (tl_X6 q h)) hown (hg _ t_fl_X8_115) S (by decide) dX8_fault_4 ?_
  exact g_reti hx hb hr hlk S hz dX8_fault_7
noncomputable def f_X8_where  (w : GW) : Option (Int32 × GW) :=
  if (gI w 0 12) = 4 then
    some ((gI w 3 4), w)
  else
    some ((-1), w)
set_option maxHeartbeats 4000000 in
set_option maxRecDepth 100000 in
theorem c_X8_where (l : Launch) (G : GG)   (w : GW) {z : Int32 × GW} (hz : f_X8_where  w = some z) : Met l yX8_where (wsU yX8_where cX8_where 1 (some .int)) rm_X8_where (va_Pc [.ref (gad G 0)] (PreG G w)) (QI G z) 0 0 (gA G) := by
  refine Met.ofW (cc := cX8_where) (maxL := 1) (ret := (some .int)) (by decide) rfl ?_
  intro p e s m args below meth c s₁ B hml hv
  obtain ⟨rfl, S⟩ := hv
  have F : CallFix p m c cX8_where 1 s _ (wsU yX8_where cX8_where 1 (some .int)) RX8 := ⟨B.exec, B.bytes, hml, findClass_of_methodNamed B.named, atoms_spec B.pre⟩
  have hr := B.returns
  have hlk := B.notSynchronized
  obtain ⟨hx, hb, -, hown, hts⟩ := id F
  have hg : ∀ q ∈ lwg, q.before _ s = true := fun q h => hts q (List.mem_cons_of_mem _ h)
  refine g_entry (Nat.le_of_ble_eq_true rfl) (fun ls hl => ?_)
  have hl : lv_has ls 1 [(0, .ref (gad G 0))] := hl
  have S : St G w s s.heap [] := S
  generalize s.heap = H at S ⊢
  generalize ([] : List Loc) = locs at S ⊢
  rw [f_X8_where] at hz
  refine lv_aload_n hx hb dX8_where_0 rfl (lv_at hl 0 rfl) ?_
  refine fg_X8_12 hx hb (fun q h => hg q (tl_X8 q h)) hown (hg _ t_fl_X8_85) S (by decide) dX8_where_1 ?_
  refine lv_iconst (v := 4) hx hb dX8_where_4 (by decide) ?_
  refine lv_icmp_ne (tgt := 18) hx hb dX8_where_5 (by decide) (fun c1 => ?_) (fun c1 => ?_)
  · have hz := ipf (c1) hz
    refine lv_iconst (v := (-1)) hx hb dX8_where_18 (by decide) ?_
    exact g_reti hx hb hr hlk S hz dX8_where_19
  · have hz := ipt (c1) hz
    refine lv_aload_n hx hb dX8_where_8 rfl (lv_at hl 0 rfl) ?_
    refine fg_X8_1 hx hb (fun q h => hg q (tl_X8 q h)) hown (hg _ t_fl_X8_21) S (by decide) dX8_where_9 ?_
    refine fg_X6_4 hx hb (fun q h => hg q (tl_X6 q h)) hown (hg _ t_fl_X8_118) S (by decide) dX8_where_12 ?_
    refine lv_goto (tgt := 19) hx hb dX8_where_15 (by decide) ?_
    exact g_reti hx hb hr hlk S hz dX8_where_19
noncomputable def f_X8_isPorter (x1 : Int32) (w : GW) : Option (Int32 × GW) :=
  if x1 < 0 then
    some (0, w)
  else
    if (gI w (fxH (gR w 0)) 8) ≤ x1 then
      some (0, w)
    else
      some (1, w)
set_option maxHeartbeats 4000000 in
set_option maxRecDepth 100000 in
theorem c_X8_isPorter (l : Launch) (G : GG) (x1 : Int32)  (w : GW) {z : Int32 × GW} (hz : f_X8_isPorter x1 w = some z) : Met l yX8_isPorter (wsU yX8_isPorter cX8_isPorter 2 (some .boolean)) rm_X8_isPorter (va_Pc [.ref (gad G 0), .int x1] (PreG G w)) (QB G z) 0 0 (gA G) := by
  refine Met.ofW (cc := cX8_isPorter) (maxL := 2) (ret := (some .boolean)) (by decide) rfl ?_
  intro p e s m args below meth c s₁ B hml hv
  obtain ⟨rfl, S⟩ := hv
  have F : CallFix p m c cX8_isPorter 2 s _ (wsU yX8_isPorter cX8_isPorter 2 (some .boolean)) RX8 := ⟨B.exec, B.bytes, hml, findClass_of_methodNamed B.named, atoms_spec B.pre⟩
  have hr := B.returns
  have hlk := B.notSynchronized
  obtain ⟨hx, hb, -, hown, hts⟩ := id F
  have hg : ∀ q ∈ lwg, q.before _ s = true := fun q h => hts q (List.mem_cons_of_mem _ h)
  refine g_entry (Nat.le_of_ble_eq_true rfl) (fun ls hl => ?_)
  have hl : lv_has ls 2 [(0, .ref (gad G 0)), (1, .int x1)] := hl
  have S : St G w s s.heap [] := S
  generalize s.heap = H at S ⊢
  generalize ([] : List Loc) = locs at S ⊢
  rw [f_X8_isPorter] at hz
  refine lv_iload_n hx hb dX8_isPorter_0 rfl (lv_at hl 1 rfl) ?_
  refine lv_if_lt (tgt := 19) hx hb dX8_isPorter_1 (by decide) (fun c1 => ?_) (fun c1 => ?_)
  · have hz := ipt (c1) hz
    refine lv_iconst (v := 0) hx hb dX8_isPorter_19 (by decide) ?_
    exact g_retb hx hb hr hlk S isB_0 hz dX8_isPorter_20
  · have hz := ipf (c1) hz
    refine lv_iload_n hx hb dX8_isPorter_4 rfl (lv_at hl 1 rfl) ?_
    refine lv_aload_n hx hb dX8_isPorter_5 rfl (lv_at hl 0 rfl) ?_
    refine fg_X8_9 hx hb (fun q h => hg q (tl_X8 q h)) hown (hg _ t_fl_X8_28) S (by decide) dX8_isPorter_6 ?_
    refine fg_X3_8 hx hb (fun q h => hg q (tl_X3 q h)) hown (hg _ t_fl_X8_109) S (kd_H _) dX8_isPorter_9 ?_
    refine lv_icmp_ge (tgt := 19) hx hb dX8_isPorter_12 (by decide) (fun c2 => ?_) (fun c2 => ?_)
    · have hz := ipt (c2) hz
      refine lv_iconst (v := 0) hx hb dX8_isPorter_19 (by decide) ?_
      exact g_retb hx hb hr hlk S isB_0 hz dX8_isPorter_20
    · have hz := ipf (c2) hz
      refine lv_iconst (v := 1) hx hb dX8_isPorter_15 (by decide) ?_
      refine lv_goto (tgt := 20) hx hb dX8_isPorter_16 (by decide) ?_
      exact g_retb hx hb hr hlk S isB_1 hz dX8_isPorter_20
noncomputable def f_X8_isCount (x1 : Int32) (w : GW) : Option (Int32 × GW) :=
  if x1 < 0 then
    some (0, w)
  else
    if (gI w (fxH (gR w 0)) 2) < x1 then
      some (0, w)
    else
      some (1, w)
set_option maxHeartbeats 4000000 in
set_option maxRecDepth 100000 in
theorem c_X8_isCount (l : Launch) (G : GG) (x1 : Int32)  (w : GW) {z : Int32 × GW} (hz : f_X8_isCount x1 w = some z) : Met l yX8_isCount (wsU yX8_isCount cX8_isCount 2 (some .boolean)) rm_X8_isCount (va_Pc [.ref (gad G 0), .int x1] (PreG G w)) (QB G z) 0 0 (gA G) := by
  refine Met.ofW (cc := cX8_isCount) (maxL := 2) (ret := (some .boolean)) (by decide) rfl ?_
  intro p e s m args below meth c s₁ B hml hv
  obtain ⟨rfl, S⟩ := hv
  have F : CallFix p m c cX8_isCount 2 s _ (wsU yX8_isCount cX8_isCount 2 (some .boolean)) RX8 := ⟨B.exec, B.bytes, hml, findClass_of_methodNamed B.named, atoms_spec B.pre⟩
  have hr := B.returns
  have hlk := B.notSynchronized
  obtain ⟨hx, hb, -, hown, hts⟩ := id F
  have hg : ∀ q ∈ lwg, q.before _ s = true := fun q h => hts q (List.mem_cons_of_mem _ h)
  refine g_entry (Nat.le_of_ble_eq_true rfl) (fun ls hl => ?_)
  have hl : lv_has ls 2 [(0, .ref (gad G 0)), (1, .int x1)] := hl
  have S : St G w s s.heap [] := S
  generalize s.heap = H at S ⊢
  generalize ([] : List Loc) = locs at S ⊢
  rw [f_X8_isCount] at hz
  refine lv_iload_n hx hb dX8_isCount_0 rfl (lv_at hl 1 rfl) ?_
  refine lv_if_lt (tgt := 19) hx hb dX8_isCount_1 (by decide) (fun c1 => ?_) (fun c1 => ?_)
  · have hz := ipt (c1) hz
    refine lv_iconst (v := 0) hx hb dX8_isCount_19 (by decide) ?_
    exact g_retb hx hb hr hlk S isB_0 hz dX8_isCount_20
  · have hz := ipf (c1) hz
    refine lv_iload_n hx hb dX8_isCount_4 rfl (lv_at hl 1 rfl) ?_
    refine lv_aload_n hx hb dX8_isCount_5 rfl (lv_at hl 0 rfl) ?_
    refine fg_X8_9 hx hb (fun q h => hg q (tl_X8 q h)) hown (hg _ t_fl_X8_28) S (by decide) dX8_isCount_6 ?_
    refine fg_X3_2 hx hb (fun q h => hg q (tl_X3 q h)) hown (hg _ t_fl_X8_157) S (kd_H _) dX8_isCount_9 ?_
    refine lv_icmp_gt (tgt := 19) hx hb dX8_isCount_12 (by decide) (fun c2 => ?_) (fun c2 => ?_)
    · have hz := ipt (c2) hz
      refine lv_iconst (v := 0) hx hb dX8_isCount_19 (by decide) ?_
      exact g_retb hx hb hr hlk S isB_0 hz dX8_isCount_20
    · have hz := ipf (c2) hz
      refine lv_iconst (v := 1) hx hb dX8_isCount_15 (by decide) ?_
      refine lv_goto (tgt := 20) hx hb dX8_isCount_16 (by decide) ?_
      exact g_retb hx hb hr hlk S isB_1 hz dX8_isCount_20
noncomputable def f_X8_isFullest (x0 : Int32) (w : GW) : Option (Int32 × GW) :=
  if x0 < 0 then
    some (0, w)
  else
    if 9 < x0 then
      some (0, w)
    else
      some (1, w)
set_option maxHeartbeats 4000000 in
set_option maxRecDepth 100000 in
theorem c_X8_isFullest (l : Launch) (G : GG) (x0 : Int32)  (w : GW) {z : Int32 × GW} (hz : f_X8_isFullest x0 w = some z) : Met l yX8_isFullest (wsU yX8_isFullest cX8_isFullest 1 (some .boolean)) rm_X8_isFullest (va_Pc [.int x0] (PreG G w)) (QB G z) 0 0 (gA G) := by
  refine Met.ofW (cc := cX8_isFullest) (maxL := 1) (ret := (some .boolean)) (by decide) rfl ?_
  intro p e s m args below meth c s₁ B hml hv
  obtain ⟨rfl, S⟩ := hv
  have F : CallFix p m c cX8_isFullest 1 s _ (wsU yX8_isFullest cX8_isFullest 1 (some .boolean)) RX8 := ⟨B.exec, B.bytes, hml, findClass_of_methodNamed B.named, atoms_spec B.pre⟩
  have hr := B.returns
  have hlk := B.notSynchronized
  obtain ⟨hx, hb, -, hown, hts⟩ := id F
  have hg : ∀ q ∈ lwg, q.before _ s = true := fun q h => hts q (List.mem_cons_of_mem _ h)
  refine g_entry (Nat.le_of_ble_eq_true rfl) (fun ls hl => ?_)
  have hl : lv_has ls 1 [(0, .int x0)] := hl
  have S : St G w s s.heap [] := S
  generalize s.heap = H at S ⊢
  generalize ([] : List Loc) = locs at S ⊢
  rw [f_X8_isFullest] at hz
  refine lv_iload_n hx hb dX8_isFullest_0 rfl (lv_at hl 0 rfl) ?_
  refine lv_if_lt (tgt := 14) hx hb dX8_isFullest_1 (by decide) (fun c1 => ?_) (fun c1 => ?_)
  · have hz := ipt (c1) hz
    refine lv_iconst (v := 0) hx hb dX8_isFullest_14 (by decide) ?_
    exact g_retb hx hb hr hlk S isB_0 hz dX8_isFullest_15
  · have hz := ipf (c1) hz
    refine lv_iload_n hx hb dX8_isFullest_4 rfl (lv_at hl 0 rfl) ?_
    refine lv_bipush (v := 9) hx hb dX8_isFullest_5 (by decide) ?_
    refine lv_icmp_gt (tgt := 14) hx hb dX8_isFullest_7 (by decide) (fun c2 => ?_) (fun c2 => ?_)
    · have hz := ipt (c2) hz
      refine lv_iconst (v := 0) hx hb dX8_isFullest_14 (by decide) ?_
      exact g_retb hx hb hr hlk S isB_0 hz dX8_isFullest_15
    · have hz := ipf (c2) hz
      refine lv_iconst (v := 1) hx hb dX8_isFullest_10 (by decide) ?_
      refine lv_goto (tgt := 15) hx hb dX8_isFullest_11 (by decide) ?_
      exact g_retb hx hb hr hlk S isB_1 hz dX8_isFullest_15
noncomputable def f_X8_isTooMany (x1 : Int32) (x2 : Int32) (w : GW) : Option (Int32 × GW) :=
  if inb x1 6 then
  (f_X3_tooMany (fxH (gR w 0)) (((fxH (gR w 0)) + 4) + 1 + ix x1) x2 w).bind fun q2 =>
  some (q2.1, q2.2)
  else none
set_option maxHeartbeats 4000000 in
set_option maxRecDepth 100000 in
theorem c_X8_isTooMany (l : Launch) (G : GG) (x1 : Int32) (x2 : Int32)  (w : GW) {z : Int32 × GW} (hz : f_X8_isTooMany x1 x2 w = some z) : Met l yX8_isTooMany (wsU yX8_isTooMany cX8_isTooMany 3 (some .boolean)) rm_X8_isTooMany (va_Pc [.ref (gad G 0), .int x1, .int x2] (PreG G w)) (QB G z) 0 0 (gA G) := by
  refine Met.ofW (cc := cX8_isTooMany) (maxL := 3) (ret := (some .boolean)) (by decide) rfl ?_
  intro p e s m args below meth c s₁ B hml hv
  obtain ⟨rfl, S⟩ := hv
  have F : CallFix p m c cX8_isTooMany 3 s _ (wsU yX8_isTooMany cX8_isTooMany 3 (some .boolean)) RX8 := ⟨B.exec, B.bytes, hml, findClass_of_methodNamed B.named, atoms_spec B.pre⟩
  have hr := B.returns
  have hlk := B.notSynchronized
  obtain ⟨hx, hb, -, hown, hts⟩ := id F
  have hg : ∀ q ∈ lwg, q.before _ s = true := fun q h => hts q (List.mem_cons_of_mem _ h)
  refine g_entry (Nat.le_of_ble_eq_true rfl) (fun ls hl => ?_)
  have hl : lv_has ls 3 [(0, .ref (gad G 0)), (1, .int x1), (2, .int x2)] := hl
  have S : St G w s s.heap [] := S
  generalize s.heap = H at S ⊢
  generalize ([] : List Loc) = locs at S ⊢
  rw [f_X8_isTooMany] at hz
  refine lv_aload_n hx hb dX8_isTooMany_0 rfl (lv_at hl 0 rfl) ?_
  refine fg_X8_9 hx hb (fun q h => hg q (tl_X8 q h)) hown (hg _ t_fl_X8_28) S (by decide) dX8_isTooMany_1 ?_
  refine lv_aload_n hx hb dX8_isTooMany_4 rfl (lv_at hl 0 rfl) ?_
  refine fg_X8_9 hx hb (fun q h => hg q (tl_X8 q h)) hown (hg _ t_fl_X8_28) S (by decide) dX8_isTooMany_5 ?_
  refine fg_X3_13 hx hb (fun q h => hg q (tl_X3 q h)) hown (hg _ t_fl_X8_221) S (kd_H _) dX8_isTooMany_8 ?_
  refine lv_iload_n hx hb dX8_isTooMany_11 rfl (lv_at hl 1 rfl) ?_
  obtain ⟨h1, hz⟩ := ck hz
  refine g_aald33 hx hb S (kd_3_4 (kd_H _)) h1 dX8_isTooMany_12 ?_
  refine lv_iload_n hx hb dX8_isTooMany_13 rfl (lv_at hl 2 rfl) ?_
  obtain ⟨q2, e3, hz⟩ := bd hz
  refine g_callVb (As := [.ref (gad G (((fxH (gR w 0)) + 4) + 1 + ix x1)), .int x2]) (rest := []) F S (c_X3_tooMany l G (fxH (gR w 0)) (((fxH (gR w 0)) + 4) + 1 + ix x1) x2 (kd_H _) (kd_el33 (kd_3_4 (kd_H _)) (h1).2) _ e3) (cw_X8_isTooMany_X3_tooMany_300 hg) (S.obj (kd_H _) (by decide) rfl (oc_X3 _ _ _ (kd_H _))) rfl hl.1 rfl (Nat.le_of_ble_eq_true rfl) ⟨Nat.zero_le _, Nat.zero_le _⟩ dX8_isTooMany_14 (fun H locs hB4 S => ?_)
  exact g_retb hx hb hr hlk S hB4 hz dX8_isTooMany_17
noncomputable def f_X8_common_9  : Nat → Int64 → Int64 → Int32 → GW → Option (Int64 × GW)
  | 0, _, _, _, _ => none
  | n9 + 1, x4, x6, x8, w =>
    if 200 ≤ x8 then
      some (x4, w)
    else
      if x6 ≤ 0 then
        some (x4, w)
      else
        if ¬ x6 = 0 then
        f_X8_common_9 n9 x6 (lrm x4 x6) (x8 + 1) w
        else none
noncomputable def f_X8_common (x0 : Int64) (x2 : Int64) (w : GW) : Option (Int64 × GW) :=
  f_X8_common_9 fu x0 x2 0 w
set_option maxHeartbeats 4000000 in
set_option maxRecDepth 100000 in
theorem w_X8_common_9 {p : Program} {l : Launch} {e : Env} {s : State} {m : MethodId} {args : Array Value} {below : List Frame} {meth : Method} {c : Code} {G : GG} (F : CallFix p m c cX8_common 11 s args (wsU yX8_common cX8_common 11 (some .long)) RX8) (hr : meth.sig.returnType = (some .long)) (hlk : meth.locks = false) {z : Int64 × GW} : ∀ (n9 : Nat), (∀ (x4 : Int64) (x6 : Int64) (x8 : Int32) (w : GW) (H : Heap) (locs : List Loc) (ls : Array Slot), St G w s H locs → lv_has ls 11 [(4, .long x4), (6, .long x6), (8, .int x8)] → f_X8_common_9 n9 x4 x6 x8 w = some z → W p l e (headSpec (wsU yX8_common cX8_common 11 (some .long)) rm_X8_common).room s m args below meth c H locs 0 0 (MQ below (QL G z) args s 0 0 (gA G)) (F0 m 9 ls [])) := by
  obtain ⟨hx, hb, hml, hown, hts⟩ := id F
  have hg : ∀ q ∈ lwg, q.before args s = true := fun q h => hts q (List.mem_cons_of_mem _ h)
  intro n9
  induction n9 with
  | zero =>
    intro x4 x6 x8 w H locs ls S hl hz
    rw [f_X8_common_9] at hz
    cases hz
  | succ n9 ih =>
    intro x4 x6 x8 w H locs ls S hl hz
    rw [f_X8_common_9] at hz
    refine lv_iload hx hb dX8_common_9 (lv_at hl 2 rfl) ?_
    refine lv_sipush (v := 200) hx hb dX8_common_11 (by decide) ?_
    refine lv_icmp_ge (tgt := 45) hx hb dX8_common_14 (by decide) (fun c1 => ?_) (fun c1 => ?_)
    · have hz := ipt (c1) hz
      refine lv_lload hx hb dX8_common_45 (lv_at hl 0 rfl) ?_
      exact g_retl hx hb hr hlk S hz dX8_common_47
    · have hz := ipf (c1) hz
      refine lv_lload hx hb dX8_common_17 (lv_at hl 1 rfl) ?_
      refine lv_lconst (v := 0) hx hb dX8_common_19 (by decide) ?_
      refine W.lcmp hx hb dX8_common_20 ?_
      refine lv_if_le (tgt := 45) hx hb dX8_common_21 (by decide) (fun c2 => ?_) (fun c2 => ?_)
      · have hz := ipt ((lg_cmp_le _ _).mp c2) hz
        refine lv_lload hx hb dX8_common_45 (lv_at hl 0 rfl) ?_
        exact g_retl hx hb hr hlk S hz dX8_common_47
      · have hz := ipf (fun q9 => c2 ((lg_cmp_le _ _).mpr q9)) hz
        refine lv_lload hx hb dX8_common_24 (lv_at hl 0 rfl) ?_
        refine lv_lload hx hb dX8_common_26 (lv_at hl 1 rfl) ?_
        obtain ⟨h3, hz⟩ := ck hz
        refine g_lrem hx hb dX8_common_28 h3 ?_
        refine lv_lstore (lv' := [(9, .long (lrm x4 x6)), (4, .long x4), (6, .long x6), (8, .int x8)]) hx hb dX8_common_29 hl (by decide) rfl (fun ls hl => ?_)
        refine lv_lload hx hb dX8_common_31 (lv_at hl 2 rfl) ?_
        refine lv_lstore (lv' := [(4, .long x6), (9, .long (lrm x4 x6)), (6, .long x6), (8, .int x8)]) hx hb dX8_common_33 hl (by decide) rfl (fun ls hl => ?_)
        refine lv_lload hx hb dX8_common_35 (lv_at hl 1 rfl) ?_
        refine lv_lstore (lv' := [(6, .long (lrm x4 x6)), (4, .long x6), (9, .long (lrm x4 x6)), (8, .int x8)]) hx hb dX8_common_37 hl (by decide) rfl (fun ls hl => ?_)
        refine lv_iinc (v := (x8 + 1)) (lv' := [(8, .int (x8 + 1)), (6, .long (lrm x4 x6)), (4, .long x6), (9, .long (lrm x4 x6))]) hx hb dX8_common_39 hl (k := 3) rfl rfl (by decide) rfl (fun ls hl => ?_)
        refine lv_goto (tgt := 9) hx hb dX8_common_42 (by decide) ?_
        exact ih x6 (lrm x4 x6) (x8 + 1)  _ _ _ _ S (lv_sub hl [2, 1, 0] rfl) hz
set_option maxHeartbeats 4000000 in
set_option maxRecDepth 100000 in
theorem c_X8_common (l : Launch) (G : GG) (x0 : Int64) (x2 : Int64)  (w : GW) {z : Int64 × GW} (hz : f_X8_common x0 x2 w = some z) : Met l yX8_common (wsU yX8_common cX8_common 11 (some .long)) rm_X8_common (va_Pc [.long x0, .long x2] (PreG G w)) (QL G z) 0 0 (gA G) := by
  refine Met.ofW (cc := cX8_common) (maxL := 11) (ret := (some .long)) (by decide) rfl ?_
  intro p e s m args below meth c s₁ B hml hv
  obtain ⟨rfl, S⟩ := hv
  have F : CallFix p m c cX8_common 11 s _ (wsU yX8_common cX8_common 11 (some .long)) RX8 := ⟨B.exec, B.bytes, hml, findClass_of_methodNamed B.named, atoms_spec B.pre⟩
  have hr := B.returns
  have hlk := B.notSynchronized
  obtain ⟨hx, hb, -, hown, hts⟩ := id F
  have hg : ∀ q ∈ lwg, q.before _ s = true := fun q h => hts q (List.mem_cons_of_mem _ h)
  refine g_entry (Nat.le_of_ble_eq_true rfl) (fun ls hl => ?_)
  have hl : lv_has ls 11 [(0, .long x0), (2, .long x2)] := hl
  have S : St G w s s.heap [] := S
  generalize s.heap = H at S ⊢
  generalize ([] : List Loc) = locs at S ⊢
  rw [f_X8_common] at hz
  refine lv_lload_n hx hb dX8_common_0 rfl (lv_at hl 0 rfl) ?_
  refine lv_lstore (lv' := [(4, .long x0), (0, .long x0), (2, .long x2)]) hx hb dX8_common_1 hl (by decide) rfl (fun ls hl => ?_)
  refine lv_lload_n hx hb dX8_common_3 rfl (lv_at hl 2 rfl) ?_
  refine lv_lstore (lv' := [(6, .long x2), (4, .long x0), (0, .long x0), (2, .long x2)]) hx hb dX8_common_4 hl (by decide) rfl (fun ls hl => ?_)
  refine lv_iconst (v := 0) hx hb dX8_common_6 (by decide) ?_
  refine lv_istore (lv' := [(8, .int 0), (6, .long x2), (4, .long x0), (0, .long x0), (2, .long x2)]) hx hb dX8_common_7 hl (by decide) rfl (fun ls hl => ?_)
  exact w_X8_common_9 F hr hlk fu x0 x2 0 _ _ _ _ S (lv_sub hl [2, 1, 0] rfl) hz
