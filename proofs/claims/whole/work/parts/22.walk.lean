noncomputable def f_X0_worth (x1 : Int32) (x2 : Int32) (x3 : Int32) (x4 : Int32) (w : GW) : Option (Int32 × GW) :=
  if x1 = 0 then
    (f_X0_fullestOf x2 w).bind fun q2 =>
    some (q2.1, q2.2)
  else
  if x1 = 1 then
    (f_X0_emptyOf x2 w).bind fun q5 =>
    some (q5.1, q5.2)
  else
  if x1 = 2 then
    some ((jmax 0 (x3 - (gI w (fxH (gR w 3)) 3))), w)
  else
  if x1 = 3 then
    (f_X0_squaresOf x2 w).bind fun q9 =>
    some (q9.1, q9.2)
  else
  if x1 = 4 then
    (f_X0_fullestOf x2 w).bind fun q12 =>
    if q12.1 < x3 then
      some (0, q12.2)
    else
      some (1, q12.2)
  else
  if x1 = 5 then
    (f_X0_emptyOf x2 w).bind fun q16 =>
    if q16.1 = x3 then
      some (1, q16.2)
    else
      some (0, q16.2)
  else
  if x1 = 6 then
    if ((x2 >>> ((4 * x3) &&& 31)) &&& 15) = x4 then
      some (1, w)
    else
      some (0, w)
  else
  if x2 = x3 then
    some (1, w)
  else
    some (0, w)
set_option maxHeartbeats 4000000 in
set_option maxRecDepth 100000 in
theorem c_X0_worth (l : Launch) (G : GG) (x1 : Int32) (x2 : Int32) (x3 : Int32) (x4 : Int32)  (w : GW) {z : Int32 × GW} (hz : f_X0_worth x1 x2 x3 x4 w = some z) : Met l yX0_worth (wsU yX0_worth cX0_worth 5 (some .int)) rm_X0_worth (va_Pc [.ref (gad G 72), .int x1, .int x2, .int x3, .int x4] (PreG G w)) (QI G z) 0 0 (gA G) := by
  refine Met.ofW (cc := cX0_worth) (maxL := 5) (ret := (some .int)) (by decide) rfl ?_
  intro p e s m args below meth c s₁ B hml hv
  obtain ⟨rfl, S⟩ := hv
  have F : CallFix p m c cX0_worth 5 s _ (wsU yX0_worth cX0_worth 5 (some .int)) RX0 := ⟨B.exec, B.bytes, hml, findClass_of_methodNamed B.named, atoms_spec B.pre⟩
  have hr := B.returns
  have hlk := B.notSynchronized
  obtain ⟨hx, hb, -, hown, hts⟩ := id F
  have hg : ∀ q ∈ lwg, q.before _ s = true := fun q h => hts q (List.mem_cons_of_mem _ h)
  refine g_entry (Nat.le_of_ble_eq_true rfl) (fun ls hl => ?_)
  have hl : lv_has ls 5 [(0, .ref (gad G 72)), (1, .int x1), (2, .int x2), (3, .int x3), (4, .int x4)] := hl
  have S : St G w s s.heap [] := S
  generalize s.heap = H at S ⊢
  generalize ([] : List Loc) = locs at S ⊢
  rw [f_X0_worth] at hz
  refine lv_iload_n hx hb dX0_worth_0 rfl (lv_at hl 1 rfl) ?_
  by_cases c1 : x1 = 0
  · have hz := ipt c1 hz
    refine lv_tableIn (off := 43) (tgt := 44) hx hb dX0_worth_1 (by rw [c1]; decide) (by rw [c1]; decide) (by rw [c1]; rfl) (by decide) ?_
    refine lv_aload_n hx hb dX0_worth_44 rfl (lv_at hl 0 rfl) ?_
    refine lv_iload_n hx hb dX0_worth_45 rfl (lv_at hl 2 rfl) ?_
    obtain ⟨q2, e3, hz⟩ := bd hz
    refine g_callVi (As := [.int x2]) (rest := []) F S (c_X0_fullestOf l G x2  _ e3) (cw_X0_worth_X0_fullestOf_135 hg) (S.obj (by decide) (by decide) rfl (oc_X0 _ _ _ (by decide))) rfl hl.1 rfl (Nat.le_of_ble_eq_true rfl) ⟨Nat.zero_le _, Nat.zero_le _⟩ dX0_worth_46 (fun H locs  S => ?_)
    exact g_reti hx hb hr hlk S hz dX0_worth_49
  have hz := ipf c1 hz
  by_cases c4 : x1 = 1
  · have hz := ipt c4 hz
    refine lv_tableIn (off := 49) (tgt := 50) hx hb dX0_worth_1 (by rw [c4]; decide) (by rw [c4]; decide) (by rw [c4]; rfl) (by decide) ?_
    refine lv_aload_n hx hb dX0_worth_50 rfl (lv_at hl 0 rfl) ?_
    refine lv_iload_n hx hb dX0_worth_51 rfl (lv_at hl 2 rfl) ?_
    obtain ⟨q5, e6, hz⟩ := bd hz
    refine g_callVi (As := [.int x2]) (rest := []) F S (c_X0_emptyOf l G x2  _ e6) (cw_X0_worth_X0_emptyOf_138 hg) (S.obj (by decide) (by decide) rfl (oc_X0 _ _ _ (by decide))) rfl hl.1 rfl (Nat.le_of_ble_eq_true rfl) ⟨Nat.zero_le _, Nat.zero_le _⟩ dX0_worth_52 (fun H locs  S => ?_)
    exact g_reti hx hb hr hlk S hz dX0_worth_55
  have hz := ipf c4 hz
  by_cases c7 : x1 = 2
  · have hz := ipt c7 hz
    refine lv_tableIn (off := 55) (tgt := 56) hx hb dX0_worth_1 (by rw [c7]; decide) (by rw [c7]; decide) (by rw [c7]; rfl) (by decide) ?_
    refine lv_iconst (v := 0) hx hb dX0_worth_56 (by decide) ?_
    refine lv_iload_n hx hb dX0_worth_57 rfl (lv_at hl 3 rfl) ?_
    refine lv_aload_n hx hb dX0_worth_58 rfl (lv_at hl 0 rfl) ?_
    refine fg_X0_8 hx hb (fun q h => hg q (tl_X0 q h)) hown (hg _ t_fl_X0_9) S (by decide) dX0_worth_59 ?_
    refine fg_X3_3 hx hb (fun q h => hg q (tl_X3 q h)) hown (hg _ t_fl_X0_68) S (kd_H _) dX0_worth_62 ?_
    refine lv_isub hx hb dX0_worth_65 ?_
    refine va_mmax hx hb (hml.trans hl.1.symm) hown (hg _ t_ml_X0_77) (hg _ t_st_J9_max_7cf53) (hg _ t_in_J9) (hg _ t_co_J9_max_7cf53) (Nat.le_of_ble_eq_true rfl) (Nat.le_of_ble_eq_true rfl) (Nat.zero_le _) (Nat.zero_le _) dX0_worth_66 ?_
    refine g_toi (v := (jmax 0 (x3 - (gI w (fxH (gR w 3)) 3)))) rfl ?_
    exact g_reti hx hb hr hlk S hz dX0_worth_69
  have hz := ipf c7 hz
  by_cases c8 : x1 = 3
  · have hz := ipt c8 hz
    refine lv_tableIn (off := 69) (tgt := 70) hx hb dX0_worth_1 (by rw [c8]; decide) (by rw [c8]; decide) (by rw [c8]; rfl) (by decide) ?_
    refine lv_aload_n hx hb dX0_worth_70 rfl (lv_at hl 0 rfl) ?_
    refine lv_iload_n hx hb dX0_worth_71 rfl (lv_at hl 2 rfl) ?_
    obtain ⟨q9, e10, hz⟩ := bd hz
    refine g_callVi (As := [.int x2]) (rest := []) F S (c_X0_squaresOf l G x2  _ e10) (cw_X0_worth_X0_squaresOf_141 hg) (S.obj (by decide) (by decide) rfl (oc_X0 _ _ _ (by decide))) rfl hl.1 rfl (Nat.le_of_ble_eq_true rfl) ⟨Nat.zero_le _, Nat.zero_le _⟩ dX0_worth_72 (fun H locs  S => ?_)
    exact g_reti hx hb hr hlk S hz dX0_worth_75
  have hz := ipf c8 hz
  by_cases c11 : x1 = 4
  · have hz := ipt c11 hz
    refine lv_tableIn (off := 75) (tgt := 76) hx hb dX0_worth_1 (by rw [c11]; decide) (by rw [c11]; decide) (by rw [c11]; rfl) (by decide) ?_
    refine lv_aload_n hx hb dX0_worth_76 rfl (lv_at hl 0 rfl) ?_
    refine lv_iload_n hx hb dX0_worth_77 rfl (lv_at hl 2 rfl) ?_
    obtain ⟨q12, e13, hz⟩ := bd hz
    refine g_callVi (As := [.int x2]) (rest := []) F S (c_X0_fullestOf l G x2  _ e13) (cw_X0_worth_X0_fullestOf_135 hg) (S.obj (by decide) (by decide) rfl (oc_X0 _ _ _ (by decide))) rfl hl.1 rfl (Nat.le_of_ble_eq_true rfl) ⟨Nat.zero_le _, Nat.zero_le _⟩ dX0_worth_78 (fun H locs  S => ?_)
    refine lv_iload_n hx hb dX0_worth_81 rfl (lv_at hl 3 rfl) ?_
    refine lv_icmp_lt (tgt := 89) hx hb dX0_worth_82 (by decide) (fun c14 => ?_) (fun c14 => ?_)
    · have hz := ipt (c14) hz
      refine lv_iconst (v := 0) hx hb dX0_worth_89 (by decide) ?_
      exact g_reti hx hb hr hlk S hz dX0_worth_90
    · have hz := ipf (c14) hz
      refine lv_iconst (v := 1) hx hb dX0_worth_85 (by decide) ?_
      refine lv_goto (tgt := 90) hx hb dX0_worth_86 (by decide) ?_
      exact g_reti hx hb hr hlk S hz dX0_worth_90
  have hz := ipf c11 hz
  by_cases c15 : x1 = 5
  · have hz := ipt c15 hz
    refine lv_tableIn (off := 90) (tgt := 91) hx hb dX0_worth_1 (by rw [c15]; decide) (by rw [c15]; decide) (by rw [c15]; rfl) (by decide) ?_
    refine lv_aload_n hx hb dX0_worth_91 rfl (lv_at hl 0 rfl) ?_
    refine lv_iload_n hx hb dX0_worth_92 rfl (lv_at hl 2 rfl) ?_
    obtain ⟨q16, e17, hz⟩ := bd hz
    refine g_callVi (As := [.int x2]) (rest := []) F S (c_X0_emptyOf l G x2  _ e17) (cw_X0_worth_X0_emptyOf_138 hg) (S.obj (by decide) (by decide) rfl (oc_X0 _ _ _ (by decide))) rfl hl.1 rfl (Nat.le_of_ble_eq_true rfl) ⟨Nat.zero_le _, Nat.zero_le _⟩ dX0_worth_93 (fun H locs  S => ?_)
    refine lv_iload_n hx hb dX0_worth_96 rfl (lv_at hl 3 rfl) ?_
    refine lv_icmp_ne (tgt := 104) hx hb dX0_worth_97 (by decide) (fun c18 => ?_) (fun c18 => ?_)
    · have hz := ipf (c18) hz
      refine lv_iconst (v := 0) hx hb dX0_worth_104 (by decide) ?_
      exact g_reti hx hb hr hlk S hz dX0_worth_105
    · have hz := ipt (c18) hz
      refine lv_iconst (v := 1) hx hb dX0_worth_100 (by decide) ?_
      refine lv_goto (tgt := 105) hx hb dX0_worth_101 (by decide) ?_
      exact g_reti hx hb hr hlk S hz dX0_worth_105
  have hz := ipf c15 hz
  by_cases c19 : x1 = 6
  · have hz := ipt c19 hz
    refine lv_tableIn (off := 105) (tgt := 106) hx hb dX0_worth_1 (by rw [c19]; decide) (by rw [c19]; decide) (by rw [c19]; rfl) (by decide) ?_
    refine lv_iload_n hx hb dX0_worth_106 rfl (lv_at hl 2 rfl) ?_
    refine lv_iconst (v := 4) hx hb dX0_worth_107 (by decide) ?_
    refine lv_iload_n hx hb dX0_worth_108 rfl (lv_at hl 3 rfl) ?_
    refine lv_imul hx hb dX0_worth_109 ?_
    refine lv_ishr hx hb dX0_worth_110 ?_
    refine lv_bipush (v := 15) hx hb dX0_worth_111 (by decide) ?_
    refine lv_iand hx hb dX0_worth_113 ?_
    refine lv_iload hx hb dX0_worth_114 (lv_at hl 4 rfl) ?_
    refine lv_icmp_ne (tgt := 123) hx hb dX0_worth_116 (by decide) (fun c20 => ?_) (fun c20 => ?_)
    · have hz := ipf (c20) hz
      refine lv_iconst (v := 0) hx hb dX0_worth_123 (by decide) ?_
      exact g_reti hx hb hr hlk S hz dX0_worth_124
    · have hz := ipt (c20) hz
      refine lv_iconst (v := 1) hx hb dX0_worth_119 (by decide) ?_
      refine lv_goto (tgt := 124) hx hb dX0_worth_120 (by decide) ?_
      exact g_reti hx hb hr hlk S hz dX0_worth_124
  have hz := ipf c19 hz
  have hsw := tsw_out 7 (by decide) (show ∀ j : Nat, j < 7 → ¬ x1 = Int32.ofNat j from (lt_s (lt_s (lt_s (lt_s (lt_s (lt_s (lt_s lt_0 c1) c4) c7) c8) c11) c15) c19))
  refine lv_tableOut (tgt := 125) hx hb dX0_worth_1 hsw (by decide) ?_
  refine lv_iload_n hx hb dX0_worth_125 rfl (lv_at hl 2 rfl) ?_
  refine lv_iload_n hx hb dX0_worth_126 rfl (lv_at hl 3 rfl) ?_
  refine lv_icmp_ne (tgt := 134) hx hb dX0_worth_127 (by decide) (fun c21 => ?_) (fun c21 => ?_)
  · have hz := ipf (c21) hz
    refine lv_iconst (v := 0) hx hb dX0_worth_134 (by decide) ?_
    exact g_reti hx hb hr hlk S hz dX0_worth_135
  · have hz := ipt (c21) hz
    refine lv_iconst (v := 1) hx hb dX0_worth_130 (by decide) ?_
    refine lv_goto (tgt := 135) hx hb dX0_worth_131 (by decide) ?_
    exact g_reti hx hb hr hlk S hz dX0_worth_135
noncomputable def f_X0_count_91 (k_25 : Nat → Int32 → Int32 → Int32 → Int32 → Int32 → GW → Option (Unit × GW)) (k1 : Nat) (x3 : Int32) (x4 : Int32) (x5 : Int32) (x6 : Int32) (x7 : Int32) (w : GW) : Option (Unit × GW) :=
  k_25 k1 x3 x4 x5 x6 (x7 + 1) w
noncomputable def f_X0_count_25  : Nat → Nat → Int32 → Int32 → Int32 → Int32 → Int32 → GW → Option (Unit × GW)
  | 0, _, _, _, _, _, _, _ => none
  | n9 + 1, k1, x3, x4, x5, x6, x7, w =>
    (f_X0_first (x6 + 1) w).bind fun q5 =>
    if q5.1 ≤ x7 then
      some ((), q5.2)
    else
      if inb x7 1287 then
      if (gL q5.2 k1 (ix x7)) ≤ 0 then
        f_X0_count_91 (f_X0_count_25 n9) k1 x3 x4 x5 x6 x7 q5.2
      else
        if inb x7 1287 then
        if inb x7 1287 then
        if inb x7 1287 then
        (f_X0_worth x3 (gI (sL q5.2 72 10 ((gL q5.2 72 10) + (gL q5.2 k1 (ix x7)))) 112 (ix x7)) x4 x5 (sL q5.2 72 10 ((gL q5.2 72 10) + (gL q5.2 k1 (ix x7))))).bind fun q13 =>
        f_X0_count_91 (f_X0_count_25 n9) k1 x3 x4 x5 x6 x7 (sL q13.2 72 9 ((gL (sL q5.2 72 10 ((gL q5.2 72 10) + (gL q5.2 k1 (ix x7)))) 72 9) + ((gL (sL q5.2 72 10 ((gL q5.2 72 10) + (gL q5.2 k1 (ix x7)))) k1 (ix x7)) * (q13.1.toInt64))))
        else none
        else none
        else none
      else none
noncomputable def f_X0_count (k1 : Nat) (x2 : Int32) (x3 : Int32) (x4 : Int32) (x5 : Int32) (w : GW) : Option (Unit × GW) :=
  (f_X0_letters x2 (sL (sL w 72 9 0) 72 10 0)).bind fun q1 =>
  (f_X0_first q1.1 q1.2).bind fun q3 =>
  f_X0_count_25 fu k1 x3 x4 x5 q1.1 q3.1 q3.2
set_option maxHeartbeats 4000000 in
set_option maxRecDepth 100000 in
theorem w_X0_count_91 {p : Program} {l : Launch} {e : Env} {s : State} {m : MethodId} {args : Array Value} {below : List Frame} {meth : Method} {c : Code} {G : GG} (F : CallFix p m c cX0_count 8 s args (wsU yX0_count cX0_count 8 none) RX0) (hr : meth.sig.returnType = none) (hlk : meth.locks = false) {z : Unit × GW} {k_25 : Nat → Int32 → Int32 → Int32 → Int32 → Int32 → GW → Option (Unit × GW)} (Hk_25 : (∀ (k1 : Nat) (x3 : Int32) (x4 : Int32) (x5 : Int32) (x6 : Int32) (x7 : Int32) (hk1 : kd k1 = 25) (w : GW) (H : Heap) (locs : List Loc) (ls : Array Slot), St G w s H locs → lv_has ls 8 [(0, .ref (gad G 72)), (1, .ref (gad G k1)), (3, .int x3), (4, .int x4), (5, .int x5), (6, .int x6), (7, .int x7)] → k_25 k1 x3 x4 x5 x6 x7 w = some z → W p l e (headSpec (wsU yX0_count cX0_count 8 none) rm_X0_count).room s m args below meth c H locs 0 0 (MQ below (QV G z) args s 0 0 (gA G)) (F0 m 25 ls []))) : (∀ (k1 : Nat) (x3 : Int32) (x4 : Int32) (x5 : Int32) (x6 : Int32) (x7 : Int32) (hk1 : kd k1 = 25) (w : GW) (H : Heap) (locs : List Loc) (ls : Array Slot), St G w s H locs → lv_has ls 8 [(0, .ref (gad G 72)), (1, .ref (gad G k1)), (3, .int x3), (4, .int x4), (5, .int x5), (6, .int x6), (7, .int x7)] → f_X0_count_91 k_25 k1 x3 x4 x5 x6 x7 w = some z → W p l e (headSpec (wsU yX0_count cX0_count 8 none) rm_X0_count).room s m args below meth c H locs 0 0 (MQ below (QV G z) args s 0 0 (gA G)) (F0 m 91 ls [])) := by
  obtain ⟨hx, hb, hml, hown, hts⟩ := id F
  have hg : ∀ q ∈ lwg, q.before args s = true := fun q h => hts q (List.mem_cons_of_mem _ h)
  intro k1 x3 x4 x5 x6 x7 hk1 w H locs ls S hl hz
  rw [f_X0_count_91] at hz
  refine lv_iinc (v := (x7 + 1)) (lv' := [(7, .int (x7 + 1)), (0, .ref (gad G 72)), (1, .ref (gad G k1)), (3, .int x3), (4, .int x4), (5, .int x5), (6, .int x6)]) hx hb dX0_count_91 hl (k := 6) rfl rfl (by decide) rfl (fun ls hl => ?_)
  refine lv_goto (tgt := 25) hx hb dX0_count_94 (by decide) ?_
  exact Hk_25 k1 x3 x4 x5 x6 (x7 + 1) hk1 _ _ _ _ S (lv_sub hl [1, 2, 3, 4, 5, 6, 0] rfl) hz
set_option maxHeartbeats 4000000 in
set_option maxRecDepth 100000 in
theorem w_X0_count_25 {p : Program} {l : Launch} {e : Env} {s : State} {m : MethodId} {args : Array Value} {below : List Frame} {meth : Method} {c : Code} {G : GG} (F : CallFix p m c cX0_count 8 s args (wsU yX0_count cX0_count 8 none) RX0) (hr : meth.sig.returnType = none) (hlk : meth.locks = false) {z : Unit × GW} : ∀ (n9 : Nat), (∀ (k1 : Nat) (x3 : Int32) (x4 : Int32) (x5 : Int32) (x6 : Int32) (x7 : Int32) (hk1 : kd k1 = 25) (w : GW) (H : Heap) (locs : List Loc) (ls : Array Slot), St G w s H locs → lv_has ls 8 [(0, .ref (gad G 72)), (1, .ref (gad G k1)), (3, .int x3), (4, .int x4), (5, .int x5), (6, .int x6), (7, .int x7)] → f_X0_count_25 n9 k1 x3 x4 x5 x6 x7 w = some z → W p l e (headSpec (wsU yX0_count cX0_count 8 none) rm_X0_count).room s m args below meth c H locs 0 0 (MQ below (QV G z) args s 0 0 (gA G)) (F0 m 25 ls [])) := by
  obtain ⟨hx, hb, hml, hown, hts⟩ := id F
  have hg : ∀ q ∈ lwg, q.before args s = true := fun q h => hts q (List.mem_cons_of_mem _ h)
  intro n9
  induction n9 with
  | zero =>
    intro k1 x3 x4 x5 x6 x7 hk1 w H locs ls S hl hz
    rw [f_X0_count_25] at hz
    cases hz
  | succ n9 ih =>
    intro k1 x3 x4 x5 x6 x7 hk1 w H locs ls S hl hz
    rw [f_X0_count_25] at hz
    refine lv_iload hx hb dX0_count_25 (lv_at hl 6 rfl) ?_
    refine lv_aload_n hx hb dX0_count_27 rfl (lv_at hl 0 rfl) ?_
    refine lv_iload hx hb dX0_count_28 (lv_at hl 5 rfl) ?_
    refine lv_iconst (v := 1) hx hb dX0_count_30 (by decide) ?_
    refine lv_iadd hx hb dX0_count_31 ?_
    obtain ⟨q5, e6, hz⟩ := bd hz
    refine g_callVi (As := [.int (x6 + 1)]) (rest := [.int x7]) F S (c_X0_first l G (x6 + 1)  _ e6) (cw_X0_count_X0_first_93 hg) (S.obj (by decide) (by decide) rfl (oc_X0 _ _ _ (by decide))) rfl hl.1 rfl (Nat.le_of_ble_eq_true rfl) ⟨Nat.zero_le _, Nat.zero_le _⟩ dX0_count_32 (fun H locs  S => ?_)
    refine lv_icmp_ge (tgt := 97) hx hb dX0_count_35 (by decide) (fun c7 => ?_) (fun c7 => ?_)
    · have hz := ipt (c7) hz
      exact g_retv hx hb hr hlk S hz dX0_count_97
    · have hz := ipf (c7) hz
      refine lv_aload_n hx hb dX0_count_38 rfl (lv_at hl 1 rfl) ?_
      refine lv_iload hx hb dX0_count_39 (lv_at hl 6 rfl) ?_
      obtain ⟨h8, hz⟩ := ck hz
      refine g_lald hx hb S (isA_25 hk1) h8 dX0_count_41 ?_
      refine lv_lconst (v := 0) hx hb dX0_count_42 (by decide) ?_
      refine W.lcmp hx hb dX0_count_43 ?_
      refine lv_if_le (tgt := 91) hx hb dX0_count_44 (by decide) (fun c9 => ?_) (fun c9 => ?_)
      · have hz := ipt ((lg_cmp_le _ _).mp c9) hz
        exact w_X0_count_91 F hr hlk ih k1 x3 x4 x5 x6 x7 hk1 _ _ _ _ S (lv_sub hl [0, 1, 2, 3, 4, 5, 6] rfl) hz
      · have hz := ipf (fun q9 => c9 ((lg_cmp_le _ _).mpr q9)) hz
        refine lv_aload_n hx hb dX0_count_47 rfl (lv_at hl 0 rfl) ?_
        refine lv_dup hx hb dX0_count_48 rfl ?_
        refine fg_X0_10 hx hb (fun q h => hg q (tl_X0 q h)) hown (hg _ t_fl_X0_128) S (by decide) dX0_count_49 ?_
        refine lv_aload_n hx hb dX0_count_52 rfl (lv_at hl 1 rfl) ?_
        refine lv_iload hx hb dX0_count_53 (lv_at hl 6 rfl) ?_
        obtain ⟨h10, hz⟩ := ck hz
        refine g_lald hx hb S (isA_25 hk1) h10 dX0_count_55 ?_
        refine lv_ladd hx hb dX0_count_56 ?_
        refine fp_X0_10 (v := ((gL q5.2 72 10) + (gL q5.2 k1 (ix x7)))) hx hb (fun q h => hg q (tl_X0 q h)) hown (hg _ t_fl_X0_128) S (by decide) dX0_count_57 (fun H locs S => ?_)
        refine lv_aload_n hx hb dX0_count_60 rfl (lv_at hl 0 rfl) ?_
        refine lv_dup hx hb dX0_count_61 rfl ?_
        refine fg_X0_9 hx hb (fun q h => hg q (tl_X0 q h)) hown (hg _ t_fl_X0_124) S (by decide) dX0_count_62 ?_
        refine lv_aload_n hx hb dX0_count_65 rfl (lv_at hl 1 rfl) ?_
        refine lv_iload hx hb dX0_count_66 (lv_at hl 6 rfl) ?_
        obtain ⟨h11, hz⟩ := ck hz
        refine g_lald hx hb S (isA_25 hk1) h11 dX0_count_68 ?_
        refine lv_aload_n hx hb dX0_count_69 rfl (lv_at hl 0 rfl) ?_
        refine lv_iload_n hx hb dX0_count_70 rfl (lv_at hl 2 rfl) ?_
        refine lv_aload_n hx hb dX0_count_71 rfl (lv_at hl 0 rfl) ?_
        refine fg_X0_3 hx hb (fun q h => hg q (tl_X0 q h)) hown (hg _ t_fl_X0_32) S (by decide) dX0_count_72 ?_
        refine lv_iload hx hb dX0_count_75 (lv_at hl 6 rfl) ?_
        obtain ⟨h12, hz⟩ := ck hz
        refine g_iald hx hb S (isA_13 (by decide)) h12 dX0_count_77 ?_
        refine lv_iload hx hb dX0_count_78 (lv_at hl 3 rfl) ?_
        refine lv_iload hx hb dX0_count_80 (lv_at hl 4 rfl) ?_
        obtain ⟨q13, e14, hz⟩ := bd hz
        refine g_callVi (As := [.int x3, .int (gI (sL q5.2 72 10 ((gL q5.2 72 10) + (gL q5.2 k1 (ix x7)))) 112 (ix x7)), .int x4, .int x5]) (rest := [.long (gL (sL q5.2 72 10 ((gL q5.2 72 10) + (gL q5.2 k1 (ix x7)))) k1 (ix x7)), .long (gL (sL q5.2 72 10 ((gL q5.2 72 10) + (gL q5.2 k1 (ix x7)))) 72 9), .ref (gad G 72)]) F S (c_X0_worth l G x3 (gI (sL q5.2 72 10 ((gL q5.2 72 10) + (gL q5.2 k1 (ix x7)))) 112 (ix x7)) x4 x5  _ e14) (cw_X0_count_X0_worth_131 hg) (S.obj (by decide) (by decide) rfl (oc_X0 _ _ _ (by decide))) rfl hl.1 rfl (Nat.le_of_ble_eq_true rfl) ⟨Nat.zero_le _, Nat.zero_le _⟩ dX0_count_82 (fun H locs  S => ?_)
        refine lv_i2l (v := q13.1.toInt64) hx hb dX0_count_85 rfl ?_
        refine lv_lmul hx hb dX0_count_86 ?_
        refine lv_ladd hx hb dX0_count_87 ?_
        refine fp_X0_9 (v := ((gL (sL q5.2 72 10 ((gL q5.2 72 10) + (gL q5.2 k1 (ix x7)))) 72 9) + ((gL (sL q5.2 72 10 ((gL q5.2 72 10) + (gL q5.2 k1 (ix x7)))) k1 (ix x7)) * (q13.1.toInt64)))) hx hb (fun q h => hg q (tl_X0 q h)) hown (hg _ t_fl_X0_124) S (by decide) dX0_count_88 (fun H locs S => ?_)
        exact w_X0_count_91 F hr hlk ih k1 x3 x4 x5 x6 x7 hk1 _ _ _ _ S (lv_sub hl [0, 1, 2, 3, 4, 5, 6] rfl) hz
set_option maxHeartbeats 4000000 in
set_option maxRecDepth 100000 in
theorem c_X0_count (l : Launch) (G : GG) (k1 : Nat) (x2 : Int32) (x3 : Int32) (x4 : Int32) (x5 : Int32) (hk1 : kd k1 = 25) (w : GW) {z : Unit × GW} (hz : f_X0_count k1 x2 x3 x4 x5 w = some z) : Met l yX0_count (wsU yX0_count cX0_count 8 none) rm_X0_count (va_Pc [.ref (gad G 72), .ref (gad G k1), .int x2, .int x3, .int x4, .int x5] (PreG G w)) (QV G z) 0 0 (gA G) := by
  refine Met.ofW (cc := cX0_count) (maxL := 8) (ret := none) (by decide) rfl ?_
  intro p e s m args below meth c s₁ B hml hv
  obtain ⟨rfl, S⟩ := hv
  have F : CallFix p m c cX0_count 8 s _ (wsU yX0_count cX0_count 8 none) RX0 := ⟨B.exec, B.bytes, hml, findClass_of_methodNamed B.named, atoms_spec B.pre⟩
  have hr := B.returns
  have hlk := B.notSynchronized
  obtain ⟨hx, hb, -, hown, hts⟩ := id F
  have hg : ∀ q ∈ lwg, q.before _ s = true := fun q h => hts q (List.mem_cons_of_mem _ h)
  refine g_entry (Nat.le_of_ble_eq_true rfl) (fun ls hl => ?_)
  have hl : lv_has ls 8 [(0, .ref (gad G 72)), (1, .ref (gad G k1)), (2, .int x2), (3, .int x3), (4, .int x4), (5, .int x5)] := hl
  have S : St G w s s.heap [] := S
  generalize s.heap = H at S ⊢
  generalize ([] : List Loc) = locs at S ⊢
  rw [f_X0_count] at hz
  refine lv_aload_n hx hb dX0_count_0 rfl (lv_at hl 0 rfl) ?_
  refine lv_lconst (v := 0) hx hb dX0_count_1 (by decide) ?_
  refine fp_X0_9 (v := 0) hx hb (fun q h => hg q (tl_X0 q h)) hown (hg _ t_fl_X0_124) S (by decide) dX0_count_2 (fun H locs S => ?_)
  refine lv_aload_n hx hb dX0_count_5 rfl (lv_at hl 0 rfl) ?_
  refine lv_lconst (v := 0) hx hb dX0_count_6 (by decide) ?_
  refine fp_X0_10 (v := 0) hx hb (fun q h => hg q (tl_X0 q h)) hown (hg _ t_fl_X0_128) S (by decide) dX0_count_7 (fun H locs S => ?_)
  refine lv_aload_n hx hb dX0_count_10 rfl (lv_at hl 0 rfl) ?_
  refine lv_iload_n hx hb dX0_count_11 rfl (lv_at hl 2 rfl) ?_
  obtain ⟨q1, e2, hz⟩ := bd hz
  refine g_callVi (As := [.int x2]) (rest := []) F S (c_X0_letters l G x2  _ e2) (cw_X0_count_X0_letters_51 hg) (S.obj (by decide) (by decide) rfl (oc_X0 _ _ _ (by decide))) rfl hl.1 rfl (Nat.le_of_ble_eq_true rfl) ⟨Nat.zero_le _, Nat.zero_le _⟩ dX0_count_12 (fun H locs  S => ?_)
  refine lv_istore (lv' := [(6, .int q1.1), (0, .ref (gad G 72)), (1, .ref (gad G k1)), (2, .int x2), (3, .int x3), (4, .int x4), (5, .int x5)]) hx hb dX0_count_15 hl (by decide) rfl (fun ls hl => ?_)
  refine lv_aload_n hx hb dX0_count_17 rfl (lv_at hl 1 rfl) ?_
  refine lv_iload hx hb dX0_count_18 (lv_at hl 0 rfl) ?_
  obtain ⟨q3, e4, hz⟩ := bd hz
  refine g_callVi (As := [.int q1.1]) (rest := []) F S (c_X0_first l G q1.1  _ e4) (cw_X0_count_X0_first_93 hg) (S.obj (by decide) (by decide) rfl (oc_X0 _ _ _ (by decide))) rfl hl.1 rfl (Nat.le_of_ble_eq_true rfl) ⟨Nat.zero_le _, Nat.zero_le _⟩ dX0_count_20 (fun H locs  S => ?_)
  refine lv_istore (lv' := [(7, .int q3.1), (6, .int q1.1), (0, .ref (gad G 72)), (1, .ref (gad G k1)), (2, .int x2), (3, .int x3), (4, .int x4), (5, .int x5)]) hx hb dX0_count_23 hl (by decide) rfl (fun ls hl => ?_)
  exact w_X0_count_25 F hr hlk fu k1 x3 x4 x5 q1.1 q3.1 hk1 _ _ _ _ S (lv_sub hl [2, 3, 5, 6, 7, 1, 0] rfl) hz
noncomputable def f_X0_waysToLie_45 (k_17 : Nat → Int32 → Int32 → Int32 → GW → Option (Int32 × GW)) (k1 : Nat) (x4 : Int32) (x5 : Int32) (t0 : Int32) (t1 : Int32) (w : GW) : Option (Int32 × GW) :=
  k_17 k1 (t1 + t0) x4 (x5 + 1) w
noncomputable def f_X0_waysToLie_17  : Nat → Nat → Int32 → Int32 → Int32 → GW → Option (Int32 × GW)
  | 0, _, _, _, _, _ => none
  | n9 + 1, k1, x3, x4, x5, w =>
    (f_X0_first (x4 + 1) w).bind fun q5 =>
    if q5.1 ≤ x5 then
      some (x3, q5.2)
    else
      if inb x5 1287 then
      if (gL q5.2 k1 (ix x5)) ≤ 0 then
        f_X0_waysToLie_45 (f_X0_waysToLie_17 n9) k1 x4 x5 0 x3 q5.2
      else
        f_X0_waysToLie_45 (f_X0_waysToLie_17 n9) k1 x4 x5 1 x3 q5.2
      else none
noncomputable def f_X0_waysToLie (k1 : Nat) (x2 : Int32) (w : GW) : Option (Int32 × GW) :=
  (f_X0_letters x2 w).bind fun q1 =>
  (f_X0_first q1.1 q1.2).bind fun q3 =>
  f_X0_waysToLie_17 fu k1 0 q1.1 q3.1 q3.2
set_option maxHeartbeats 4000000 in
set_option maxRecDepth 100000 in
theorem w_X0_waysToLie_45 {p : Program} {l : Launch} {e : Env} {s : State} {m : MethodId} {args : Array Value} {below : List Frame} {meth : Method} {c : Code} {G : GG} (F : CallFix p m c cX0_waysToLie 6 s args (wsU yX0_waysToLie cX0_waysToLie 6 (some .int)) RX0) (hr : meth.sig.returnType = (some .int)) (hlk : meth.locks = false) {z : Int32 × GW} {k_17 : Nat → Int32 → Int32 → Int32 → GW → Option (Int32 × GW)} (Hk_17 : (∀ (k1 : Nat) (x3 : Int32) (x4 : Int32) (x5 : Int32) (hk1 : kd k1 = 25) (w : GW) (H : Heap) (locs : List Loc) (ls : Array Slot), St G w s H locs → lv_has ls 6 [(0, .ref (gad G 72)), (1, .ref (gad G k1)), (3, .int x3), (4, .int x4), (5, .int x5)] → k_17 k1 x3 x4 x5 w = some z → W p l e (headSpec (wsU yX0_waysToLie cX0_waysToLie 6 (some .int)) rm_X0_waysToLie).room s m args below meth c H locs 0 0 (MQ below (QI G z) args s 0 0 (gA G)) (F0 m 17 ls []))) : (∀ (k1 : Nat) (x4 : Int32) (x5 : Int32) (t0 : Int32) (t1 : Int32) (hk1 : kd k1 = 25) (w : GW) (H : Heap) (locs : List Loc) (ls : Array Slot), St G w s H locs → lv_has ls 6 [(0, .ref (gad G 72)), (1, .ref (gad G k1)), (4, .int x4), (5, .int x5)] → f_X0_waysToLie_45 k_17 k1 x4 x5 t0 t1 w = some z → W p l e (headSpec (wsU yX0_waysToLie cX0_waysToLie 6 (some .int)) rm_X0_waysToLie).room s m args below meth c H locs 0 0 (MQ below (QI G z) args s 0 0 (gA G)) (F0 m 45 ls [.int t0, .int t1])) := by
  obtain ⟨hx, hb, hml, hown, hts⟩ := id F
  have hg : ∀ q ∈ lwg, q.before args s = true := fun q h => hts q (List.mem_cons_of_mem _ h)
  intro k1 x4 x5 t0 t1 hk1 w H locs ls S hl hz
  rw [f_X0_waysToLie_45] at hz
  refine lv_iadd hx hb dX0_waysToLie_45 ?_
  refine lv_istore_n (lv' := [(3, .int (t1 + t0)), (0, .ref (gad G 72)), (1, .ref (gad G k1)), (4, .int x4), (5, .int x5)]) hx hb dX0_waysToLie_46 rfl hl (by decide) rfl (fun ls hl => ?_)
  refine lv_iinc (v := (x5 + 1)) (lv' := [(5, .int (x5 + 1)), (3, .int (t1 + t0)), (0, .ref (gad G 72)), (1, .ref (gad G k1)), (4, .int x4)]) hx hb dX0_waysToLie_47 hl (k := 4) rfl rfl (by decide) rfl (fun ls hl => ?_)
  refine lv_goto (tgt := 17) hx hb dX0_waysToLie_50 (by decide) ?_
  exact Hk_17 k1 (t1 + t0) x4 (x5 + 1) hk1 _ _ _ _ S (lv_sub hl [2, 3, 1, 4, 0] rfl) hz
set_option maxHeartbeats 4000000 in
set_option maxRecDepth 100000 in
theorem w_X0_waysToLie_17 {p : Program} {l : Launch} {e : Env} {s : State} {m : MethodId} {args : Array Value} {below : List Frame} {meth : Method} {c : Code} {G : GG} (F : CallFix p m c cX0_waysToLie 6 s args (wsU yX0_waysToLie cX0_waysToLie 6 (some .int)) RX0) (hr : meth.sig.returnType = (some .int)) (hlk : meth.locks = false) {z : Int32 × GW} : ∀ (n9 : Nat), (∀ (k1 : Nat) (x3 : Int32) (x4 : Int32) (x5 : Int32) (hk1 : kd k1 = 25) (w : GW) (H : Heap) (locs : List Loc) (ls : Array Slot), St G w s H locs → lv_has ls 6 [(0, .ref (gad G 72)), (1, .ref (gad G k1)), (3, .int x3), (4, .int x4), (5, .int x5)] → f_X0_waysToLie_17 n9 k1 x3 x4 x5 w = some z → W p l e (headSpec (wsU yX0_waysToLie cX0_waysToLie 6 (some .int)) rm_X0_waysToLie).room s m args below meth c H locs 0 0 (MQ below (QI G z) args s 0 0 (gA G)) (F0 m 17 ls [])) := by
  obtain ⟨hx, hb, hml, hown, hts⟩ := id F
  have hg : ∀ q ∈ lwg, q.before args s = true := fun q h => hts q (List.mem_cons_of_mem _ h)
  intro n9
  induction n9 with
  | zero =>
    intro k1 x3 x4 x5 hk1 w H locs ls S hl hz
    rw [f_X0_waysToLie_17] at hz
    cases hz
  | succ n9 ih =>
    intro k1 x3 x4 x5 hk1 w H locs ls S hl hz
    rw [f_X0_waysToLie_17] at hz
    refine lv_iload hx hb dX0_waysToLie_17 (lv_at hl 4 rfl) ?_
    refine lv_aload_n hx hb dX0_waysToLie_19 rfl (lv_at hl 0 rfl) ?_
    refine lv_iload hx hb dX0_waysToLie_20 (lv_at hl 3 rfl) ?_
    refine lv_iconst (v := 1) hx hb dX0_waysToLie_22 (by decide) ?_
    refine lv_iadd hx hb dX0_waysToLie_23 ?_
    obtain ⟨q5, e6, hz⟩ := bd hz
    refine g_callVi (As := [.int (x4 + 1)]) (rest := [.int x5]) F S (c_X0_first l G (x4 + 1)  _ e6) (cw_X0_waysToLie_X0_first_93 hg) (S.obj (by decide) (by decide) rfl (oc_X0 _ _ _ (by decide))) rfl hl.1 rfl (Nat.le_of_ble_eq_true rfl) ⟨Nat.zero_le _, Nat.zero_le _⟩ dX0_waysToLie_24 (fun H locs  S => ?_)
    refine lv_icmp_ge (tgt := 53) hx hb dX0_waysToLie_27 (by decide) (fun c7 => ?_) (fun c7 => ?_)
    · have hz := ipt (c7) hz
      refine lv_iload_n hx hb dX0_waysToLie_53 rfl (lv_at hl 2 rfl) ?_
      exact g_reti hx hb hr hlk S hz dX0_waysToLie_54
    · have hz := ipf (c7) hz
      refine lv_iload_n hx hb dX0_waysToLie_30 rfl (lv_at hl 2 rfl) ?_
      refine lv_aload_n hx hb dX0_waysToLie_31 rfl (lv_at hl 1 rfl) ?_
      refine lv_iload hx hb dX0_waysToLie_32 (lv_at hl 4 rfl) ?_
      obtain ⟨h8, hz⟩ := ck hz
      refine g_lald hx hb S (isA_25 hk1) h8 dX0_waysToLie_34 ?_
      refine lv_lconst (v := 0) hx hb dX0_waysToLie_35 (by decide) ?_
      refine W.lcmp hx hb dX0_waysToLie_36 ?_
      refine lv_if_le (tgt := 44) hx hb dX0_waysToLie_37 (by decide) (fun c9 => ?_) (fun c9 => ?_)
      · have hz := ipt ((lg_cmp_le _ _).mp c9) hz
        refine lv_iconst (v := 0) hx hb dX0_waysToLie_44 (by decide) ?_
        exact w_X0_waysToLie_45 F hr hlk ih k1 x4 x5 0 x3 hk1 _ _ _ _ S (lv_sub hl [0, 1, 3, 4] rfl) hz
      · have hz := ipf (fun q9 => c9 ((lg_cmp_le _ _).mpr q9)) hz
        refine lv_iconst (v := 1) hx hb dX0_waysToLie_40 (by decide) ?_
        refine lv_goto (tgt := 45) hx hb dX0_waysToLie_41 (by decide) ?_
        exact w_X0_waysToLie_45 F hr hlk ih k1 x4 x5 1 x3 hk1 _ _ _ _ S (lv_sub hl [0, 1, 3, 4] rfl) hz
set_option maxHeartbeats 4000000 in
set_option maxRecDepth 100000 in
theorem c_X0_waysToLie (l : Launch) (G : GG) (k1 : Nat) (x2 : Int32) (hk1 : kd k1 = 25) (w : GW) {z : Int32 × GW} (hz : f_X0_waysToLie k1 x2 w = some z) : Met l yX0_waysToLie (wsU yX0_waysToLie cX0_waysToLie 6 (some .int)) rm_X0_waysToLie (va_Pc [.ref (gad G 72), .ref (gad G k1), .int x2] (PreG G w)) (QI G z) 0 0 (gA G) := by
  refine Met.ofW (cc := cX0_waysToLie) (maxL := 6) (ret := (some .int)) (by decide) rfl ?_
  intro p e s m args below meth c s₁ B hml hv
  obtain ⟨rfl, S⟩ := hv
  have F : CallFix p m c cX0_waysToLie 6 s _ (wsU yX0_waysToLie cX0_waysToLie 6 (some .int)) RX0 := ⟨B.exec, B.bytes, hml, findClass_of_methodNamed B.named, atoms_spec B.pre⟩
  have hr := B.returns
  have hlk := B.notSynchronized
  obtain ⟨hx, hb, -, hown, hts⟩ := id F
  have hg : ∀ q ∈ lwg, q.before _ s = true := fun q h => hts q (List.mem_cons_of_mem _ h)
  refine g_entry (Nat.le_of_ble_eq_true rfl) (fun ls hl => ?_)
  have hl : lv_has ls 6 [(0, .ref (gad G 72)), (1, .ref (gad G k1)), (2, .int x2)] := hl
  have S : St G w s s.heap [] := S
  generalize s.heap = H at S ⊢
  generalize ([] : List Loc) = locs at S ⊢
  rw [f_X0_waysToLie] at hz
  refine lv_iconst (v := 0) hx hb dX0_waysToLie_0 (by decide) ?_
  refine lv_istore_n (lv' := [(3, .int 0), (0, .ref (gad G 72)), (1, .ref (gad G k1)), (2, .int x2)]) hx hb dX0_waysToLie_1 rfl hl (by decide) rfl (fun ls hl => ?_)
  refine lv_aload_n hx hb dX0_waysToLie_2 rfl (lv_at hl 1 rfl) ?_
  refine lv_iload_n hx hb dX0_waysToLie_3 rfl (lv_at hl 3 rfl) ?_
  obtain ⟨q1, e2, hz⟩ := bd hz
  refine g_callVi (As := [.int x2]) (rest := []) F S (c_X0_letters l G x2  _ e2) (cw_X0_waysToLie_X0_letters_51 hg) (S.obj (by decide) (by decide) rfl (oc_X0 _ _ _ (by decide))) rfl hl.1 rfl (Nat.le_of_ble_eq_true rfl) ⟨Nat.zero_le _, Nat.zero_le _⟩ dX0_waysToLie_4 (fun H locs  S => ?_)
  refine lv_istore (lv' := [(4, .int q1.1), (3, .int 0), (0, .ref (gad G 72)), (1, .ref (gad G k1)), (2, .int x2)]) hx hb dX0_waysToLie_7 hl (by decide) rfl (fun ls hl => ?_)
  refine lv_aload_n hx hb dX0_waysToLie_9 rfl (lv_at hl 2 rfl) ?_
  refine lv_iload hx hb dX0_waysToLie_10 (lv_at hl 0 rfl) ?_
  obtain ⟨q3, e4, hz⟩ := bd hz
  refine g_callVi (As := [.int q1.1]) (rest := []) F S (c_X0_first l G q1.1  _ e4) (cw_X0_waysToLie_X0_first_93 hg) (S.obj (by decide) (by decide) rfl (oc_X0 _ _ _ (by decide))) rfl hl.1 rfl (Nat.le_of_ble_eq_true rfl) ⟨Nat.zero_le _, Nat.zero_le _⟩ dX0_waysToLie_12 (fun H locs  S => ?_)
  refine lv_istore (lv' := [(5, .int q3.1), (4, .int q1.1), (3, .int 0), (0, .ref (gad G 72)), (1, .ref (gad G k1)), (2, .int x2)]) hx hb dX0_waysToLie_15 hl (by decide) rfl (fun ls hl => ?_)
  exact w_X0_waysToLie_17 F hr hlk fu k1 0 q1.1 q3.1 hk1 _ _ _ _ S (lv_sub hl [3, 4, 2, 1, 0] rfl) hz
noncomputable def f_X0_furthest_83 (k_18 : Nat → Int32 → Int32 → Int32 → Int32 → GW → Option (Int32 × GW)) (k1 : Nat) (x3 : Int32) (x4 : Int32) (x5 : Int32) (x6 : Int32) (w : GW) : Option (Int32 × GW) :=
  k_18 k1 x3 x4 x5 (x6 + 1) w
noncomputable def f_X0_furthest_79 (k_18 : Nat → Int32 → Int32 → Int32 → Int32 → GW → Option (Int32 × GW)) (k1 : Nat) (x3 : Int32) (x5 : Int32) (x6 : Int32) (x7 : Int32) (w : GW) : Option (Int32 × GW) :=
  f_X0_furthest_83 k_18 k1 x3 x7 x5 x6 w
noncomputable def f_X0_furthest_18  : Nat → Nat → Int32 → Int32 → Int32 → Int32 → GW → Option (Int32 × GW)
  | 0, _, _, _, _, _, _ => none
  | n9 + 1, k1, x3, x4, x5, x6, w =>
    (f_X0_first (x5 + 1) w).bind fun q5 =>
    if q5.1 ≤ x6 then
      some (x4, q5.2)
    else
      if inb x6 1287 then
      if (gL q5.2 k1 (ix x6)) ≤ 0 then
        f_X0_furthest_83 (f_X0_furthest_18 n9) k1 x3 x4 x5 x6 q5.2
      else
        if inb x6 1287 then
        (f_X0_fullestOf (gI q5.2 112 (ix x6)) q5.2).bind fun q11 =>
        if x4 < 0 then
          f_X0_furthest_79 (f_X0_furthest_18 n9) k1 x3 x5 x6 q11.1 q11.2
        else
          if x3 = 0 then
            if q11.1 ≤ x4 then
              f_X0_furthest_83 (f_X0_furthest_18 n9) k1 x3 x4 x5 x6 q11.2
            else
              f_X0_furthest_79 (f_X0_furthest_18 n9) k1 x3 x5 x6 q11.1 q11.2
          else
            if x4 ≤ q11.1 then
              f_X0_furthest_83 (f_X0_furthest_18 n9) k1 x3 x4 x5 x6 q11.2
            else
              f_X0_furthest_79 (f_X0_furthest_18 n9) k1 x3 x5 x6 q11.1 q11.2
        else none
      else none
noncomputable def f_X0_furthest (k1 : Nat) (x2 : Int32) (x3 : Int32) (w : GW) : Option (Int32 × GW) :=
  (f_X0_letters x2 w).bind fun q1 =>
  (f_X0_first q1.1 q1.2).bind fun q3 =>
  f_X0_furthest_18 fu k1 x3 (-1) q1.1 q3.1 q3.2
set_option maxHeartbeats 4000000 in
set_option maxRecDepth 100000 in
theorem w_X0_furthest_83 {p : Program} {l : Launch} {e : Env} {s : State} {m : MethodId} {args : Array Value} {below : List Frame} {meth : Method} {c : Code} {G : GG} (F : CallFix p m c cX0_furthest 8 s args (wsU yX0_furthest cX0_furthest 8 (some .int)) RX0) (hr : meth.sig.returnType = (some .int)) (hlk : meth.locks = false) {z : Int32 × GW} {k_18 : Nat → Int32 → Int32 → Int32 → Int32 → GW → Option (Int32 × GW)} (Hk_18 : (∀ (k1 : Nat) (x3 : Int32) (x4 : Int32) (x5 : Int32) (x6 : Int32) (hk1 : kd k1 = 25) (w : GW) (H : Heap) (locs : List Loc) (ls : Array Slot), St G w s H locs → lv_has ls 8 [(0, .ref (gad G 72)), (1, .ref (gad G k1)), (3, .int x3), (4, .int x4), (5, .int x5), (6, .int x6)] → k_18 k1 x3 x4 x5 x6 w = some z → W p l e (headSpec (wsU yX0_furthest cX0_furthest 8 (some .int)) rm_X0_furthest).room s m args below meth c H locs 0 0 (MQ below (QI G z) args s 0 0 (gA G)) (F0 m 18 ls []))) : (∀ (k1 : Nat) (x3 : Int32) (x4 : Int32) (x5 : Int32) (x6 : Int32) (hk1 : kd k1 = 25) (w : GW) (H : Heap) (locs : List Loc) (ls : Array Slot), St G w s H locs → lv_has ls 8 [(0, .ref (gad G 72)), (1, .ref (gad G k1)), (3, .int x3), (4, .int x4), (5, .int x5), (6, .int x6)] → f_X0_furthest_83 k_18 k1 x3 x4 x5 x6 w = some z → W p l e (headSpec (wsU yX0_furthest cX0_furthest 8 (some .int)) rm_X0_furthest).room s m args below meth c H locs 0 0 (MQ below (QI G z) args s 0 0 (gA G)) (F0 m 83 ls [])) := by
  obtain ⟨hx, hb, hml, hown, hts⟩ := id F
  have hg : ∀ q ∈ lwg, q.before args s = true := fun q h => hts q (List.mem_cons_of_mem _ h)
  intro k1 x3 x4 x5 x6 hk1 w H locs ls S hl hz
  rw [f_X0_furthest_83] at hz
  refine lv_iinc (v := (x6 + 1)) (lv' := [(6, .int (x6 + 1)), (0, .ref (gad G 72)), (1, .ref (gad G k1)), (3, .int x3), (4, .int x4), (5, .int x5)]) hx hb dX0_furthest_83 hl (k := 5) rfl rfl (by decide) rfl (fun ls hl => ?_)
  refine lv_goto (tgt := 18) hx hb dX0_furthest_86 (by decide) ?_
  exact Hk_18 k1 x3 x4 x5 (x6 + 1) hk1 _ _ _ _ S (lv_sub hl [1, 2, 3, 4, 5, 0] rfl) hz
set_option maxHeartbeats 4000000 in
set_option maxRecDepth 100000 in
theorem w_X0_furthest_79 {p : Program} {l : Launch} {e : Env} {s : State} {m : MethodId} {args : Array Value} {below : List Frame} {meth : Method} {c : Code} {G : GG} (F : CallFix p m c cX0_furthest 8 s args (wsU yX0_furthest cX0_furthest 8 (some .int)) RX0) (hr : meth.sig.returnType = (some .int)) (hlk : meth.locks = false) {z : Int32 × GW} {k_18 : Nat → Int32 → Int32 → Int32 → Int32 → GW → Option (Int32 × GW)} (Hk_18 : (∀ (k1 : Nat) (x3 : Int32) (x4 : Int32) (x5 : Int32) (x6 : Int32) (hk1 : kd k1 = 25) (w : GW) (H : Heap) (locs : List Loc) (ls : Array Slot), St G w s H locs → lv_has ls 8 [(0, .ref (gad G 72)), (1, .ref (gad G k1)), (3, .int x3), (4, .int x4), (5, .int x5), (6, .int x6)] → k_18 k1 x3 x4 x5 x6 w = some z → W p l e (headSpec (wsU yX0_furthest cX0_furthest 8 (some .int)) rm_X0_furthest).room s m args below meth c H locs 0 0 (MQ below (QI G z) args s 0 0 (gA G)) (F0 m 18 ls []))) : (∀ (k1 : Nat) (x3 : Int32) (x5 : Int32) (x6 : Int32) (x7 : Int32) (hk1 : kd k1 = 25) (w : GW) (H : Heap) (locs : List Loc) (ls : Array Slot), St G w s H locs → lv_has ls 8 [(0, .ref (gad G 72)), (1, .ref (gad G k1)), (3, .int x3), (5, .int x5), (6, .int x6), (7, .int x7)] → f_X0_furthest_79 k_18 k1 x3 x5 x6 x7 w = some z → W p l e (headSpec (wsU yX0_furthest cX0_furthest 8 (some .int)) rm_X0_furthest).room s m args below meth c H locs 0 0 (MQ below (QI G z) args s 0 0 (gA G)) (F0 m 79 ls [])) := by
  obtain ⟨hx, hb, hml, hown, hts⟩ := id F
  have hg : ∀ q ∈ lwg, q.before args s = true := fun q h => hts q (List.mem_cons_of_mem _ h)
  intro k1 x3 x5 x6 x7 hk1 w H locs ls S hl hz
  rw [f_X0_furthest_79] at hz
  refine lv_iload hx hb dX0_furthest_79 (lv_at hl 5 rfl) ?_
  refine lv_istore (lv' := [(4, .int x7), (0, .ref (gad G 72)), (1, .ref (gad G k1)), (3, .int x3), (5, .int x5), (6, .int x6), (7, .int x7)]) hx hb dX0_furthest_81 hl (by decide) rfl (fun ls hl => ?_)
  exact w_X0_furthest_83 F hr hlk Hk_18 k1 x3 x7 x5 x6 hk1 _ _ _ _ S (lv_sub hl [1, 2, 3, 0, 4, 5] rfl) hz
set_option maxHeartbeats 4000000 in
set_option maxRecDepth 100000 in
theorem w_X0_furthest_18 {p : Program} {l : Launch} {e : Env} {s : State} {m : MethodId} {args : Array Value} {below : List Frame} {meth : Method} {c : Code} {G : GG} (F : CallFix p m c cX0_furthest 8 s args (wsU yX0_furthest cX0_furthest 8 (some .int)) RX0) (hr : meth.sig.returnType = (some .int)) (hlk : meth.locks = false) {z : Int32 × GW} : ∀ (n9 : Nat), (∀ (k1 : Nat) (x3 : Int32) (x4 : Int32) (x5 : Int32) (x6 : Int32) (hk1 : kd k1 = 25) (w : GW) (H : Heap) (locs : List Loc) (ls : Array Slot), St G w s H locs → lv_has ls 8 [(0, .ref (gad G 72)), (1, .ref (gad G k1)), (3, .int x3), (4, .int x4), (5, .int x5), (6, .int x6)] → f_X0_furthest_18 n9 k1 x3 x4 x5 x6 w = some z → W p l e (headSpec (wsU yX0_furthest cX0_furthest 8 (some .int)) rm_X0_furthest).room s m args below meth c H locs 0 0 (MQ below (QI G z) args s 0 0 (gA G)) (F0 m 18 ls [])) := by
  obtain ⟨hx, hb, hml, hown, hts⟩ := id F
  have hg : ∀ q ∈ lwg, q.before args s = true := fun q h => hts q (List.mem_cons_of_mem _ h)
  intro n9
  induction n9 with
  | zero =>
    intro k1 x3 x4 x5 x6 hk1 w H locs ls S hl hz
    rw [f_X0_furthest_18] at hz
    cases hz
  | succ n9 ih =>
    intro k1 x3 x4 x5 x6 hk1 w H locs ls S hl hz
    rw [f_X0_furthest_18] at hz
    refine lv_iload hx hb dX0_furthest_18 (lv_at hl 5 rfl) ?_
    refine lv_aload_n hx hb dX0_furthest_20 rfl (lv_at hl 0 rfl) ?_
    refine lv_iload hx hb dX0_furthest_21 (lv_at hl 4 rfl) ?_
    refine lv_iconst (v := 1) hx hb dX0_furthest_23 (by decide) ?_
    refine lv_iadd hx hb dX0_furthest_24 ?_
    obtain ⟨q5, e6, hz⟩ := bd hz
    refine g_callVi (As := [.int (x5 + 1)]) (rest := [.int x6]) F S (c_X0_first l G (x5 + 1)  _ e6) (cw_X0_furthest_X0_first_93 hg) (S.obj (by decide) (by decide) rfl (oc_X0 _ _ _ (by decide))) rfl hl.1 rfl (Nat.le_of_ble_eq_true rfl) ⟨Nat.zero_le _, Nat.zero_le _⟩ dX0_furthest_25 (fun H locs  S => ?_)
    refine lv_icmp_ge (tgt := 89) hx hb dX0_furthest_28 (by decide) (fun c7 => ?_) (fun c7 => ?_)
    · have hz := ipt (c7) hz
      refine lv_iload hx hb dX0_furthest_89 (lv_at hl 3 rfl) ?_
      exact g_reti hx hb hr hlk S hz dX0_furthest_91
    · have hz := ipf (c7) hz
      refine lv_aload_n hx hb dX0_furthest_31 rfl (lv_at hl 1 rfl) ?_
      refine lv_iload hx hb dX0_furthest_32 (lv_at hl 5 rfl) ?_
      obtain ⟨h8, hz⟩ := ck hz
      refine g_lald hx hb S (isA_25 hk1) h8 dX0_furthest_34 ?_
      refine lv_lconst (v := 0) hx hb dX0_furthest_35 (by decide) ?_
      refine W.lcmp hx hb dX0_furthest_36 ?_
      refine lv_if_le (tgt := 83) hx hb dX0_furthest_37 (by decide) (fun c9 => ?_) (fun c9 => ?_)
      · have hz := ipt ((lg_cmp_le _ _).mp c9) hz
        exact w_X0_furthest_83 F hr hlk ih k1 x3 x4 x5 x6 hk1 _ _ _ _ S (lv_sub hl [0, 1, 2, 3, 4, 5] rfl) hz
      · have hz := ipf (fun q9 => c9 ((lg_cmp_le _ _).mpr q9)) hz
        refine lv_aload_n hx hb dX0_furthest_40 rfl (lv_at hl 0 rfl) ?_
        refine lv_aload_n hx hb dX0_furthest_41 rfl (lv_at hl 0 rfl) ?_
        refine fg_X0_3 hx hb (fun q h => hg q (tl_X0 q h)) hown (hg _ t_fl_X0_32) S (by decide) dX0_furthest_42 ?_
        refine lv_iload hx hb dX0_furthest_45 (lv_at hl 5 rfl) ?_
        obtain ⟨h10, hz⟩ := ck hz
        refine g_iald hx hb S (isA_13 (by decide)) h10 dX0_furthest_47 ?_
        obtain ⟨q11, e12, hz⟩ := bd hz
        refine g_callVi (As := [.int (gI q5.2 112 (ix x6))]) (rest := []) F S (c_X0_fullestOf l G (gI q5.2 112 (ix x6))  _ e12) (cw_X0_furthest_X0_fullestOf_135 hg) (S.obj (by decide) (by decide) rfl (oc_X0 _ _ _ (by decide))) rfl hl.1 rfl (Nat.le_of_ble_eq_true rfl) ⟨Nat.zero_le _, Nat.zero_le _⟩ dX0_furthest_48 (fun H locs  S => ?_)
        refine lv_istore (lv' := [(7, .int q11.1), (0, .ref (gad G 72)), (1, .ref (gad G k1)), (3, .int x3), (4, .int x4), (5, .int x5), (6, .int x6)]) hx hb dX0_furthest_51 hl (by decide) rfl (fun ls hl => ?_)
        refine lv_iload hx hb dX0_furthest_53 (lv_at hl 4 rfl) ?_
        refine lv_if_lt (tgt := 79) hx hb dX0_furthest_55 (by decide) (fun c13 => ?_) (fun c13 => ?_)
        · have hz := ipt (c13) hz
          exact w_X0_furthest_79 F hr hlk ih k1 x3 x5 x6 q11.1 hk1 _ _ _ _ S (lv_sub hl [1, 2, 3, 5, 6, 0] rfl) hz
        · have hz := ipf (c13) hz
          refine lv_iload_n hx hb dX0_furthest_58 rfl (lv_at hl 3 rfl) ?_
          refine lv_if_eq (tgt := 72) hx hb dX0_furthest_59 (by decide) (fun c14 => ?_) (fun c14 => ?_)
          · have hz := ipt (c14) hz
            refine lv_iload hx hb dX0_furthest_72 (lv_at hl 0 rfl) ?_
            refine lv_iload hx hb dX0_furthest_74 (lv_at hl 4 rfl) ?_
            refine lv_icmp_le (tgt := 83) hx hb dX0_furthest_76 (by decide) (fun c15 => ?_) (fun c15 => ?_)
            · have hz := ipt (c15) hz
              exact w_X0_furthest_83 F hr hlk ih k1 x3 x4 x5 x6 hk1 _ _ _ _ S (lv_sub hl [1, 2, 3, 4, 5, 6] rfl) hz
            · have hz := ipf (c15) hz
              exact w_X0_furthest_79 F hr hlk ih k1 x3 x5 x6 q11.1 hk1 _ _ _ _ S (lv_sub hl [1, 2, 3, 5, 6, 0] rfl) hz
          · have hz := ipf (c14) hz
            refine lv_iload hx hb dX0_furthest_62 (lv_at hl 0 rfl) ?_
            refine lv_iload hx hb dX0_furthest_64 (lv_at hl 4 rfl) ?_
            refine lv_icmp_ge (tgt := 83) hx hb dX0_furthest_66 (by decide) (fun c16 => ?_) (fun c16 => ?_)
            · have hz := ipt (c16) hz
              exact w_X0_furthest_83 F hr hlk ih k1 x3 x4 x5 x6 hk1 _ _ _ _ S (lv_sub hl [1, 2, 3, 4, 5, 6] rfl) hz
            · have hz := ipf (c16) hz
              refine lv_goto (tgt := 79) hx hb dX0_furthest_69 (by decide) ?_
              exact w_X0_furthest_79 F hr hlk ih k1 x3 x5 x6 q11.1 hk1 _ _ _ _ S (lv_sub hl [1, 2, 3, 5, 6, 0] rfl) hz
set_option maxHeartbeats 4000000 in
set_option maxRecDepth 100000 in
theorem c_X0_furthest (l : Launch) (G : GG) (k1 : Nat) (x2 : Int32) (x3 : Int32) (hk1 : kd k1 = 25) (w : GW) {z : Int32 × GW} (hz : f_X0_furthest k1 x2 x3 w = some z) : Met l yX0_furthest (wsU yX0_furthest cX0_furthest 8 (some .int)) rm_X0_furthest (va_Pc [.ref (gad G 72), .ref (gad G k1), .int x2, .int x3] (PreG G w)) (QI G z) 0 0 (gA G) := by
  refine Met.ofW (cc := cX0_furthest) (maxL := 8) (ret := (some .int)) (by decide) rfl ?_
  intro p e s m args below meth c s₁ B hml hv
  obtain ⟨rfl, S⟩ := hv
  have F : CallFix p m c cX0_furthest 8 s _ (wsU yX0_furthest cX0_furthest 8 (some .int)) RX0 := ⟨B.exec, B.bytes, hml, findClass_of_methodNamed B.named, atoms_spec B.pre⟩
  have hr := B.returns
  have hlk := B.notSynchronized
  obtain ⟨hx, hb, -, hown, hts⟩ := id F
  have hg : ∀ q ∈ lwg, q.before _ s = true := fun q h => hts q (List.mem_cons_of_mem _ h)
  refine g_entry (Nat.le_of_ble_eq_true rfl) (fun ls hl => ?_)
  have hl : lv_has ls 8 [(0, .ref (gad G 72)), (1, .ref (gad G k1)), (2, .int x2), (3, .int x3)] := hl
  have S : St G w s s.heap [] := S
  generalize s.heap = H at S ⊢
  generalize ([] : List Loc) = locs at S ⊢
  rw [f_X0_furthest] at hz
  refine lv_iconst (v := (-1)) hx hb dX0_furthest_0 (by decide) ?_
  refine lv_istore (lv' := [(4, .int (-1)), (0, .ref (gad G 72)), (1, .ref (gad G k1)), (2, .int x2), (3, .int x3)]) hx hb dX0_furthest_1 hl (by decide) rfl (fun ls hl => ?_)
  refine lv_aload_n hx hb dX0_furthest_3 rfl (lv_at hl 1 rfl) ?_
  refine lv_iload_n hx hb dX0_furthest_4 rfl (lv_at hl 3 rfl) ?_
  obtain ⟨q1, e2, hz⟩ := bd hz
  refine g_callVi (As := [.int x2]) (rest := []) F S (c_X0_letters l G x2  _ e2) (cw_X0_furthest_X0_letters_51 hg) (S.obj (by decide) (by decide) rfl (oc_X0 _ _ _ (by decide))) rfl hl.1 rfl (Nat.le_of_ble_eq_true rfl) ⟨Nat.zero_le _, Nat.zero_le _⟩ dX0_furthest_5 (fun H locs  S => ?_)
  refine lv_istore (lv' := [(5, .int q1.1), (4, .int (-1)), (0, .ref (gad G 72)), (1, .ref (gad G k1)), (2, .int x2), (3, .int x3)]) hx hb dX0_furthest_8 hl (by decide) rfl (fun ls hl => ?_)
  refine lv_aload_n hx hb dX0_furthest_10 rfl (lv_at hl 2 rfl) ?_
  refine lv_iload hx hb dX0_furthest_11 (lv_at hl 0 rfl) ?_
  obtain ⟨q3, e4, hz⟩ := bd hz
  refine g_callVi (As := [.int q1.1]) (rest := []) F S (c_X0_first l G q1.1  _ e4) (cw_X0_furthest_X0_first_93 hg) (S.obj (by decide) (by decide) rfl (oc_X0 _ _ _ (by decide))) rfl hl.1 rfl (Nat.le_of_ble_eq_true rfl) ⟨Nat.zero_le _, Nat.zero_le _⟩ dX0_furthest_13 (fun H locs  S => ?_)
  refine lv_istore (lv' := [(6, .int q3.1), (5, .int q1.1), (4, .int (-1)), (0, .ref (gad G 72)), (1, .ref (gad G k1)), (2, .int x2), (3, .int x3)]) hx hb dX0_furthest_16 hl (by decide) rfl (fun ls hl => ?_)
  exact w_X0_furthest_18 F hr hlk fu k1 x3 (-1) q1.1 q3.1 hk1 _ _ _ _ S (lv_sub hl [3, 4, 6, 2, 1, 0] rfl) hz
noncomputable def f_X1_allWays_4  : Nat → Int64 → Int32 → GW → Option (Int64 × GW)
  | 0, _, _, _ => none
  | n9 + 1, x1, x3, w =>
    if 30 ≤ x3 then
      some (x1, w)
    else
      if inb x3 30 then
      f_X1_allWays_4 n9 (x1 + (gL w 71 (ix x3))) (x3 + 1) w
      else none
noncomputable def f_X1_allWays  (w : GW) : Option (Int64 × GW) :=
  f_X1_allWays_4 fu 0 0 w
set_option maxHeartbeats 4000000 in
set_option maxRecDepth 100000 in
theorem w_X1_allWays_4 {p : Program} {l : Launch} {e : Env} {s : State} {m : MethodId} {args : Array Value} {below : List Frame} {meth : Method} {c : Code} {G : GG} (F : CallFix p m c cX1_allWays 4 s args (wsU yX1_allWays cX1_allWays 4 (some .long)) RX1) (hr : meth.sig.returnType = (some .long)) (hlk : meth.locks = false) {z : Int64 × GW} : ∀ (n9 : Nat), (∀ (x1 : Int64) (x3 : Int32) (w : GW) (H : Heap) (locs : List Loc) (ls : Array Slot), St G w s H locs → lv_has ls 4 [(0, .ref (gad G 67)), (1, .long x1), (3, .int x3)] → f_X1_allWays_4 n9 x1 x3 w = some z → W p l e (headSpec (wsU yX1_allWays cX1_allWays 4 (some .long)) rm_X1_allWays).room s m args below meth c H locs 0 0 (MQ below (QL G z) args s 0 0 (gA G)) (F0 m 4 ls [])) := by
  obtain ⟨hx, hb, hml, hown, hts⟩ := id F
  have hg : ∀ q ∈ lwg, q.before args s = true := fun q h => hts q (List.mem_cons_of_mem _ h)
  intro n9
  induction n9 with
  | zero =>
    intro x1 x3 w H locs ls S hl hz
    rw [f_X1_allWays_4] at hz
    cases hz
  | succ n9 ih =>
    intro x1 x3 w H locs ls S hl hz
    rw [f_X1_allWays_4] at hz
    refine lv_iload_n hx hb dX1_allWays_4 rfl (lv_at hl 2 rfl) ?_
    refine lv_bipush (v := 30) hx hb dX1_allWays_5 (by decide) ?_
    refine lv_icmp_ge (tgt := 25) hx hb dX1_allWays_7 (by decide) (fun c1 => ?_) (fun c1 => ?_)
    · have hz := ipt (c1) hz
      refine lv_lload_n hx hb dX1_allWays_25 rfl (lv_at hl 1 rfl) ?_
      exact g_retl hx hb hr hlk S hz dX1_allWays_26
    · have hz := ipf (c1) hz
      refine lv_lload_n hx hb dX1_allWays_10 rfl (lv_at hl 1 rfl) ?_
      refine lv_aload_n hx hb dX1_allWays_11 rfl (lv_at hl 0 rfl) ?_
      refine fg_X1_2 hx hb (fun q h => hg q (tl_X1 q h)) hown (hg _ t_fl_X1_30) S (by decide) dX1_allWays_12 ?_
      refine lv_iload_n hx hb dX1_allWays_15 rfl (lv_at hl 2 rfl) ?_
      obtain ⟨h2, hz⟩ := ck hz
      refine g_lald hx hb S (isA_23 (by decide)) h2 dX1_allWays_16 ?_
      refine lv_ladd hx hb dX1_allWays_17 ?_
      refine lv_lstore_n (lv' := [(1, .long (x1 + (gL w 71 (ix x3)))), (0, .ref (gad G 67)), (3, .int x3)]) hx hb dX1_allWays_18 rfl hl (by decide) rfl (fun ls hl => ?_)
      refine lv_iinc (v := (x3 + 1)) (lv' := [(3, .int (x3 + 1)), (1, .long (x1 + (gL w 71 (ix x3)))), (0, .ref (gad G 67))]) hx hb dX1_allWays_19 hl (k := 2) rfl rfl (by decide) rfl (fun ls hl => ?_)
      refine lv_goto (tgt := 4) hx hb dX1_allWays_22 (by decide) ?_
      exact ih (x1 + (gL w 71 (ix x3))) (x3 + 1)  _ _ _ _ S (lv_sub hl [2, 1, 0] rfl) hz
set_option maxHeartbeats 4000000 in
set_option maxRecDepth 100000 in
theorem c_X1_allWays (l : Launch) (G : GG)   (w : GW) {z : Int64 × GW} (hz : f_X1_allWays  w = some z) : Met l yX1_allWays (wsU yX1_allWays cX1_allWays 4 (some .long)) rm_X1_allWays (va_Pc [.ref (gad G 67)] (PreG G w)) (QL G z) 0 0 (gA G) := by
  refine Met.ofW (cc := cX1_allWays) (maxL := 4) (ret := (some .long)) (by decide) rfl ?_
  intro p e s m args below meth c s₁ B hml hv
  obtain ⟨rfl, S⟩ := hv
  have F : CallFix p m c cX1_allWays 4 s _ (wsU yX1_allWays cX1_allWays 4 (some .long)) RX1 := ⟨B.exec, B.bytes, hml, findClass_of_methodNamed B.named, atoms_spec B.pre⟩
  have hr := B.returns
  have hlk := B.notSynchronized
  obtain ⟨hx, hb, -, hown, hts⟩ := id F
  have hg : ∀ q ∈ lwg, q.before _ s = true := fun q h => hts q (List.mem_cons_of_mem _ h)
  refine g_entry (Nat.le_of_ble_eq_true rfl) (fun ls hl => ?_)
  have hl : lv_has ls 4 [(0, .ref (gad G 67))] := hl
  have S : St G w s s.heap [] := S
  generalize s.heap = H at S ⊢
  generalize ([] : List Loc) = locs at S ⊢
  rw [f_X1_allWays] at hz
  refine lv_lconst (v := 0) hx hb dX1_allWays_0 (by decide) ?_
  refine lv_lstore_n (lv' := [(1, .long 0), (0, .ref (gad G 67))]) hx hb dX1_allWays_1 rfl hl (by decide) rfl (fun ls hl => ?_)
  refine lv_iconst (v := 0) hx hb dX1_allWays_2 (by decide) ?_
  refine lv_istore_n (lv' := [(3, .int 0), (1, .long 0), (0, .ref (gad G 67))]) hx hb dX1_allWays_3 rfl hl (by decide) rfl (fun ls hl => ?_)
  exact w_X1_allWays_4 F hr hlk fu 0 0 _ _ _ _ S (lv_sub hl [2, 1, 0] rfl) hz
noncomputable def f_X1_waysTo_63 (k_5 : Nat → Int32 → Int64 → Int32 → GW → Option (Int64 × GW)) (k1 : Nat) (x2 : Int32) (x3 : Int64) (x5 : Int32) (w : GW) : Option (Int64 × GW) :=
  k_5 k1 x2 x3 (x5 + 1) w
noncomputable def f_X1_waysTo_34 (k_5 : Nat → Int32 → Int64 → Int32 → GW → Option (Int64 × GW)) : Nat → Nat → Int32 → Int64 → Int32 → Int32 → GW → Option (Int64 × GW)
  | 0, _, _, _, _, _, _ => none
  | n9 + 1, k1, x2, x3, x5, x6, w =>
    if 6 ≤ x6 then
      f_X1_waysTo_63 k_5 k1 x2 x3 x5 w
    else
      if inb ((x5 * 6) + x6) 30 then
      f_X1_waysTo_34 k_5 n9 k1 x2 (x3 + (gL w 71 (ix ((x5 * 6) + x6)))) x5 (x6 + 1) w
      else none
noncomputable def f_X1_waysTo_5  : Nat → Nat → Int32 → Int64 → Int32 → GW → Option (Int64 × GW)
  | 0, _, _, _, _, _ => none
  | n9 + 1, k1, x2, x3, x5, w =>
    if (gI w (fxH (gR w 4)) 1) ≤ x5 then
      some (x3, w)
    else
      (f_X3_roomFrom (fxH (gR w 4)) k1 x5 w).bind fun q2 =>
      if q2.1 = x2 then
        f_X1_waysTo_34 (f_X1_waysTo_5 n9) fu k1 x2 x3 x5 0 q2.2
      else
        f_X1_waysTo_63 (f_X1_waysTo_5 n9) k1 x2 x3 x5 q2.2
noncomputable def f_X1_waysTo (k1 : Nat) (x2 : Int32) (w : GW) : Option (Int64 × GW) :=
  f_X1_waysTo_5 fu k1 x2 0 0 w
set_option maxHeartbeats 4000000 in
set_option maxRecDepth 100000 in
theorem w_X1_waysTo_63 {p : Program} {l : Launch} {e : Env} {s : State} {m : MethodId} {args : Array Value} {below : List Frame} {meth : Method} {c : Code} {G : GG} (F : CallFix p m c cX1_waysTo 7 s args (wsU yX1_waysTo cX1_waysTo 7 (some .long)) RX1) (hr : meth.sig.returnType = (some .long)) (hlk : meth.locks = false) {z : Int64 × GW} {k_5 : Nat → Int32 → Int64 → Int32 → GW → Option (Int64 × GW)} (Hk_5 : (∀ (k1 : Nat) (x2 : Int32) (x3 : Int64) (x5 : Int32) (hk1 : kd k1 = 10) (w : GW) (H : Heap) (locs : List Loc) (ls : Array Slot), St G w s H locs → lv_has ls 7 [(0, .ref (gad G 67)), (1, .ref (gad G k1)), (2, .int x2), (3, .long x3), (5, .int x5)] → k_5 k1 x2 x3 x5 w = some z → W p l e (headSpec (wsU yX1_waysTo cX1_waysTo 7 (some .long)) rm_X1_waysTo).room s m args below meth c H locs 0 0 (MQ below (QL G z) args s 0 0 (gA G)) (F0 m 5 ls []))) : (∀ (k1 : Nat) (x2 : Int32) (x3 : Int64) (x5 : Int32) (hk1 : kd k1 = 10) (w : GW) (H : Heap) (locs : List Loc) (ls : Array Slot), St G w s H locs → lv_has ls 7 [(0, .ref (gad G 67)), (1, .ref (gad G k1)), (2, .int x2), (3, .long x3), (5, .int x5)] → f_X1_waysTo_63 k_5 k1 x2 x3 x5 w = some z → W p l e (headSpec (wsU yX1_waysTo cX1_waysTo 7 (some .long)) rm_X1_waysTo).room s m args below meth c H locs 0 0 (MQ below (QL G z) args s 0 0 (gA G)) (F0 m 63 ls [])) := by
  obtain ⟨hx, hb, hml, hown, hts⟩ := id F
  have hg : ∀ q ∈ lwg, q.before args s = true := fun q h => hts q (List.mem_cons_of_mem _ h)
  intro k1 x2 x3 x5 hk1 w H locs ls S hl hz
  rw [f_X1_waysTo_63] at hz
  refine lv_iinc (v := (x5 + 1)) (lv' := [(5, .int (x5 + 1)), (0, .ref (gad G 67)), (1, .ref (gad G k1)), (2, .int x2), (3, .long x3)]) hx hb dX1_waysTo_63 hl (k := 4) rfl rfl (by decide) rfl (fun ls hl => ?_)
  refine lv_goto (tgt := 5) hx hb dX1_waysTo_66 (by decide) ?_
  exact Hk_5 k1 x2 x3 (x5 + 1) hk1 _ _ _ _ S (lv_sub hl [1, 2, 3, 4, 0] rfl) hz
set_option maxHeartbeats 4000000 in
set_option maxRecDepth 100000 in
theorem w_X1_waysTo_34 {p : Program} {l : Launch} {e : Env} {s : State} {m : MethodId} {args : Array Value} {below : List Frame} {meth : Method} {c : Code} {G : GG} (F : CallFix p m c cX1_waysTo 7 s args (wsU yX1_waysTo cX1_waysTo 7 (some .long)) RX1) (hr : meth.sig.returnType = (some .long)) (hlk : meth.locks = false) {z : Int64 × GW} {k_5 : Nat → Int32 → Int64 → Int32 → GW → Option (Int64 × GW)} (Hk_5 : (∀ (k1 : Nat) (x2 : Int32) (x3 : Int64) (x5 : Int32) (hk1 : kd k1 = 10) (w : GW) (H : Heap) (locs : List Loc) (ls : Array Slot), St G w s H locs → lv_has ls 7 [(0, .ref (gad G 67)), (1, .ref (gad G k1)), (2, .int x2), (3, .long x3), (5, .int x5)] → k_5 k1 x2 x3 x5 w = some z → W p l e (headSpec (wsU yX1_waysTo cX1_waysTo 7 (some .long)) rm_X1_waysTo).room s m args below meth c H locs 0 0 (MQ below (QL G z) args s 0 0 (gA G)) (F0 m 5 ls []))) : ∀ (n9 : Nat), (∀ (k1 : Nat) (x2 : Int32) (x3 : Int64) (x5 : Int32) (x6 : Int32) (hk1 : kd k1 = 10) (w : GW) (H : Heap) (locs : List Loc) (ls : Array Slot), St G w s H locs → lv_has ls 7 [(0, .ref (gad G 67)), (1, .ref (gad G k1)), (2, .int x2), (3, .long x3), (5, .int x5), (6, .int x6)] → f_X1_waysTo_34 k_5 n9 k1 x2 x3 x5 x6 w = some z → W p l e (headSpec (wsU yX1_waysTo cX1_waysTo 7 (some .long)) rm_X1_waysTo).room s m args below meth c H locs 0 0 (MQ below (QL G z) args s 0 0 (gA G)) (F0 m 34 ls [])) := by
  obtain ⟨hx, hb, hml, hown, hts⟩ := id F
  have hg : ∀ q ∈ lwg, q.before args s = true := fun q h => hts q (List.mem_cons_of_mem _ h)
  intro n9
  induction n9 with
  | zero =>
    intro k1 x2 x3 x5 x6 hk1 w H locs ls S hl hz
    rw [f_X1_waysTo_34] at hz
    cases hz
  | succ n9 ih =>
    intro k1 x2 x3 x5 x6 hk1 w H locs ls S hl hz
    rw [f_X1_waysTo_34] at hz
    refine lv_iload hx hb dX1_waysTo_34 (lv_at hl 5 rfl) ?_
    refine lv_bipush (v := 6) hx hb dX1_waysTo_36 (by decide) ?_
    refine lv_icmp_ge (tgt := 63) hx hb dX1_waysTo_38 (by decide) (fun c5 => ?_) (fun c5 => ?_)
    · have hz := ipt (c5) hz
      exact w_X1_waysTo_63 F hr hlk Hk_5 k1 x2 x3 x5 hk1 _ _ _ _ S (lv_sub hl [0, 1, 2, 3, 4] rfl) hz
    · have hz := ipf (c5) hz
      refine lv_lload_n hx hb dX1_waysTo_41 rfl (lv_at hl 3 rfl) ?_
      refine lv_aload_n hx hb dX1_waysTo_42 rfl (lv_at hl 0 rfl) ?_
      refine fg_X1_2 hx hb (fun q h => hg q (tl_X1 q h)) hown (hg _ t_fl_X1_30) S (by decide) dX1_waysTo_43 ?_
      refine lv_iload hx hb dX1_waysTo_46 (lv_at hl 4 rfl) ?_
      refine lv_bipush (v := 6) hx hb dX1_waysTo_48 (by decide) ?_
      refine lv_imul hx hb dX1_waysTo_50 ?_
      refine lv_iload hx hb dX1_waysTo_51 (lv_at hl 5 rfl) ?_
      refine lv_iadd hx hb dX1_waysTo_53 ?_
      obtain ⟨h6, hz⟩ := ck hz
      refine g_lald hx hb S (isA_23 (by decide)) h6 dX1_waysTo_54 ?_
      refine lv_ladd hx hb dX1_waysTo_55 ?_
      refine lv_lstore_n (lv' := [(3, .long (x3 + (gL w 71 (ix ((x5 * 6) + x6))))), (0, .ref (gad G 67)), (1, .ref (gad G k1)), (2, .int x2), (5, .int x5), (6, .int x6)]) hx hb dX1_waysTo_56 rfl hl (by decide) rfl (fun ls hl => ?_)
      refine lv_iinc (v := (x6 + 1)) (lv' := [(6, .int (x6 + 1)), (3, .long (x3 + (gL w 71 (ix ((x5 * 6) + x6))))), (0, .ref (gad G 67)), (1, .ref (gad G k1)), (2, .int x2), (5, .int x5)]) hx hb dX1_waysTo_57 hl (k := 5) rfl rfl (by decide) rfl (fun ls hl => ?_)
      refine lv_goto (tgt := 34) hx hb dX1_waysTo_60 (by decide) ?_
      exact ih k1 x2 (x3 + (gL w 71 (ix ((x5 * 6) + x6)))) x5 (x6 + 1) hk1 _ _ _ _ S (lv_sub hl [2, 3, 4, 1, 5, 0] rfl) hz
set_option maxHeartbeats 4000000 in
set_option maxRecDepth 100000 in
theorem w_X1_waysTo_5 {p : Program} {l : Launch} {e : Env} {s : State} {m : MethodId} {args : Array Value} {below : List Frame} {meth : Method} {c : Code} {G : GG} (F : CallFix p m c cX1_waysTo 7 s args (wsU yX1_waysTo cX1_waysTo 7 (some .long)) RX1) (hr : meth.sig.returnType = (some .long)) (hlk : meth.locks = false) {z : Int64 × GW} : ∀ (n9 : Nat), (∀ (k1 : Nat) (x2 : Int32) (x3 : Int64) (x5 : Int32) (hk1 : kd k1 = 10) (w : GW) (H : Heap) (locs : List Loc) (ls : Array Slot), St G w s H locs → lv_has ls 7 [(0, .ref (gad G 67)), (1, .ref (gad G k1)), (2, .int x2), (3, .long x3), (5, .int x5)] → f_X1_waysTo_5 n9 k1 x2 x3 x5 w = some z → W p l e (headSpec (wsU yX1_waysTo cX1_waysTo 7 (some .long)) rm_X1_waysTo).room s m args below meth c H locs 0 0 (MQ below (QL G z) args s 0 0 (gA G)) (F0 m 5 ls [])) := by
  obtain ⟨hx, hb, hml, hown, hts⟩ := id F
  have hg : ∀ q ∈ lwg, q.before args s = true := fun q h => hts q (List.mem_cons_of_mem _ h)
  intro n9
  induction n9 with
  | zero =>
    intro k1 x2 x3 x5 hk1 w H locs ls S hl hz
    rw [f_X1_waysTo_5] at hz
    cases hz
  | succ n9 ih =>
    intro k1 x2 x3 x5 hk1 w H locs ls S hl hz
    rw [f_X1_waysTo_5] at hz
    refine lv_iload hx hb dX1_waysTo_5 (lv_at hl 4 rfl) ?_
    refine lv_aload_n hx hb dX1_waysTo_7 rfl (lv_at hl 0 rfl) ?_
    refine fg_X1_3 hx hb (fun q h => hg q (tl_X1 q h)) hown (hg _ t_fl_X1_9) S (by decide) dX1_waysTo_8 ?_
    refine fg_X3_1 hx hb (fun q h => hg q (tl_X3 q h)) hown (hg _ t_fl_X1_33) S (kd_H _) dX1_waysTo_11 ?_
    refine lv_icmp_ge (tgt := 69) hx hb dX1_waysTo_14 (by decide) (fun c1 => ?_) (fun c1 => ?_)
    · have hz := ipt (c1) hz
      refine lv_lload_n hx hb dX1_waysTo_69 rfl (lv_at hl 3 rfl) ?_
      exact g_retl hx hb hr hlk S hz dX1_waysTo_70
    · have hz := ipf (c1) hz
      refine lv_aload_n hx hb dX1_waysTo_17 rfl (lv_at hl 0 rfl) ?_
      refine fg_X1_3 hx hb (fun q h => hg q (tl_X1 q h)) hown (hg _ t_fl_X1_9) S (by decide) dX1_waysTo_18 ?_
      refine lv_aload_n hx hb dX1_waysTo_21 rfl (lv_at hl 1 rfl) ?_
      refine lv_iload hx hb dX1_waysTo_22 (lv_at hl 4 rfl) ?_
      obtain ⟨q2, e3, hz⟩ := bd hz
      refine g_callVi (As := [.ref (gad G k1), .int x5]) (rest := []) F S (c_X3_roomFrom l G (fxH (gR w 4)) k1 x5 (kd_H _) hk1 _ e3) (cw_X1_waysTo_X3_roomFrom_88 hg) (S.obj (kd_H _) (by decide) rfl (oc_X3 _ _ _ (kd_H _))) rfl hl.1 rfl (Nat.le_of_ble_eq_true rfl) ⟨Nat.zero_le _, Nat.zero_le _⟩ dX1_waysTo_24 (fun H locs  S => ?_)
      refine lv_iload_n hx hb dX1_waysTo_27 rfl (lv_at hl 2 rfl) ?_
      refine lv_icmp_ne (tgt := 63) hx hb dX1_waysTo_28 (by decide) (fun c4 => ?_) (fun c4 => ?_)
      · have hz := ipf (c4) hz
        exact w_X1_waysTo_63 F hr hlk ih k1 x2 x3 x5 hk1 _ _ _ _ S (lv_sub hl [0, 1, 2, 3, 4] rfl) hz
      · have hz := ipt (c4) hz
        refine lv_iconst (v := 0) hx hb dX1_waysTo_31 (by decide) ?_
        refine lv_istore (lv' := [(6, .int 0), (0, .ref (gad G 67)), (1, .ref (gad G k1)), (2, .int x2), (3, .long x3), (5, .int x5)]) hx hb dX1_waysTo_32 hl (by decide) rfl (fun ls hl => ?_)
        exact w_X1_waysTo_34 F hr hlk ih fu k1 x2 x3 x5 0 hk1 _ _ _ _ S (lv_sub hl [1, 2, 3, 4, 5, 0] rfl) hz
set_option maxHeartbeats 4000000 in
set_option maxRecDepth 100000 in
theorem c_X1_waysTo (l : Launch) (G : GG) (k1 : Nat) (x2 : Int32) (hk1 : kd k1 = 10) (w : GW) {z : Int64 × GW} (hz : f_X1_waysTo k1 x2 w = some z) : Met l yX1_waysTo (wsU yX1_waysTo cX1_waysTo 7 (some .long)) rm_X1_waysTo (va_Pc [.ref (gad G 67), .ref (gad G k1), .int x2] (PreG G w)) (QL G z) 0 0 (gA G) := by
  refine Met.ofW (cc := cX1_waysTo) (maxL := 7) (ret := (some .long)) (by decide) rfl ?_
  intro p e s m args below meth c s₁ B hml hv
  obtain ⟨rfl, S⟩ := hv
  have F : CallFix p m c cX1_waysTo 7 s _ (wsU yX1_waysTo cX1_waysTo 7 (some .long)) RX1 := ⟨B.exec, B.bytes, hml, findClass_of_methodNamed B.named, atoms_spec B.pre⟩
  have hr := B.returns
  have hlk := B.notSynchronized
  obtain ⟨hx, hb, -, hown, hts⟩ := id F
  have hg : ∀ q ∈ lwg, q.before _ s = true := fun q h => hts q (List.mem_cons_of_mem _ h)
  refine g_entry (Nat.le_of_ble_eq_true rfl) (fun ls hl => ?_)
  have hl : lv_has ls 7 [(0, .ref (gad G 67)), (1, .ref (gad G k1)), (2, .int x2)] := hl
  have S : St G w s s.heap [] := S
  generalize s.heap = H at S ⊢
  generalize ([] : List Loc) = locs at S ⊢
  rw [f_X1_waysTo] at hz
  refine lv_lconst (v := 0) hx hb dX1_waysTo_0 (by decide) ?_
  refine lv_lstore_n (lv' := [(3, .long 0), (0, .ref (gad G 67)), (1, .ref (gad G k1)), (2, .int x2)]) hx hb dX1_waysTo_1 rfl hl (by decide) rfl (fun ls hl => ?_)
  refine lv_iconst (v := 0) hx hb dX1_waysTo_2 (by decide) ?_
  refine lv_istore (lv' := [(5, .int 0), (3, .long 0), (0, .ref (gad G 67)), (1, .ref (gad G k1)), (2, .int x2)]) hx hb dX1_waysTo_3 hl (by decide) rfl (fun ls hl => ?_)
  exact w_X1_waysTo_5 F hr hlk fu k1 x2 0 0 hk1 _ _ _ _ S (lv_sub hl [2, 3, 4, 1, 0] rfl) hz
noncomputable def f_X1_slotBehind_80 (k_5 : Nat → Int32 → Int32 → Int32 → GW → Option (Int32 × GW)) (k1 : Nat) (x2 : Int32) (x3 : Int32) (x4 : Int32) (w : GW) : Option (Int32 × GW) :=
  k_5 k1 x2 x3 (x4 + 1) w
noncomputable def f_X1_slotBehind_74 (k_5 : Nat → Int32 → Int32 → Int32 → GW → Option (Int32 × GW)) (k_34 : Nat → Int32 → Int32 → Int32 → Int32 → GW → Option (Int32 × GW)) (k1 : Nat) (x2 : Int32) (x3 : Int32) (x4 : Int32) (x5 : Int32) (w : GW) : Option (Int32 × GW) :=
  k_34 k1 x2 x3 x4 (x5 + 1) w
noncomputable def f_X1_slotBehind_71 (k_5 : Nat → Int32 → Int32 → Int32 → GW → Option (Int32 × GW)) (k_34 : Nat → Int32 → Int32 → Int32 → Int32 → GW → Option (Int32 × GW)) (k1 : Nat) (x2 : Int32) (x4 : Int32) (x5 : Int32) (w : GW) : Option (Int32 × GW) :=
  f_X1_slotBehind_74 k_5 k_34 k1 x2 x5 x4 x5 w
noncomputable def f_X1_slotBehind_34 (k_5 : Nat → Int32 → Int32 → Int32 → GW → Option (Int32 × GW)) : Nat → Nat → Int32 → Int32 → Int32 → Int32 → GW → Option (Int32 × GW)
  | 0, _, _, _, _, _, _ => none
  | n9 + 1, k1, x2, x3, x4, x5, w =>
    if 6 ≤ x5 then
      f_X1_slotBehind_80 k_5 k1 x2 x3 x4 w
    else
      if inb ((x4 * 6) + x5) 30 then
      if (gL w 71 (ix ((x4 * 6) + x5))) ≤ 0 then
        f_X1_slotBehind_74 k_5 (f_X1_slotBehind_34 k_5 n9) k1 x2 x3 x4 x5 w
      else
        if x3 < 0 then
          f_X1_slotBehind_71 k_5 (f_X1_slotBehind_34 k_5 n9) k1 x2 x4 x5 w
        else
          if x3 = x5 then
            f_X1_slotBehind_71 k_5 (f_X1_slotBehind_34 k_5 n9) k1 x2 x4 x5 w
          else
            some ((-1), w)
      else none
noncomputable def f_X1_slotBehind_5  : Nat → Nat → Int32 → Int32 → Int32 → GW → Option (Int32 × GW)
  | 0, _, _, _, _, _ => none
  | n9 + 1, k1, x2, x3, x4, w =>
    if (gI w (fxH (gR w 4)) 1) ≤ x4 then
      some (x3, w)
    else
      (f_X3_roomFrom (fxH (gR w 4)) k1 x4 w).bind fun q2 =>
      if q2.1 = x2 then
        f_X1_slotBehind_34 (f_X1_slotBehind_5 n9) fu k1 x2 x3 x4 0 q2.2
      else
        f_X1_slotBehind_80 (f_X1_slotBehind_5 n9) k1 x2 x3 x4 q2.2
noncomputable def f_X1_slotBehind (k1 : Nat) (x2 : Int32) (w : GW) : Option (Int32 × GW) :=
  f_X1_slotBehind_5 fu k1 x2 (-1) 0 w
set_option maxHeartbeats 4000000 in
set_option maxRecDepth 100000 in
theorem w_X1_slotBehind_80 {p : Program} {l : Launch} {e : Env} {s : State} {m : MethodId} {args : Array Value} {below : List Frame} {meth : Method} {c : Code} {G : GG} (F : CallFix p m c cX1_slotBehind 6 s args (wsU yX1_slotBehind cX1_slotBehind 6 (some .int)) RX1) (hr : meth.sig.returnType = (some .int)) (hlk : meth.locks = false) {z : Int32 × GW} {k_5 : Nat → Int32 → Int32 → Int32 → GW → Option (Int32 × GW)} (Hk_5 : (∀ (k1 : Nat) (x2 : Int32) (x3 : Int32) (x4 : Int32) (hk1 : kd k1 = 10) (w : GW) (H : Heap) (locs : List Loc) (ls : Array Slot), St G w s H locs → lv_has ls 6 [(0, .ref (gad G 67)), (1, .ref (gad G k1)), (2, .int x2), (3, .int x3), (4, .int x4)] → k_5 k1 x2 x3 x4 w = some z → W p l e (headSpec (wsU yX1_slotBehind cX1_slotBehind 6 (some .int)) rm_X1_slotBehind).room s m args below meth c H locs 0 0 (MQ below (QI G z) args s 0 0 (gA G)) (F0 m 5 ls []))) : (∀ (k1 : Nat) (x2 : Int32) (x3 : Int32) (x4 : Int32) (hk1 : kd k1 = 10) (w : GW) (H : Heap) (locs : List Loc) (ls : Array Slot), St G w s H locs → lv_has ls 6 [(0, .ref (gad G 67)), (1, .ref (gad G k1)), (2, .int x2), (3, .int x3), (4, .int x4)] → f_X1_slotBehind_80 k_5 k1 x2 x3 x4 w = some z → W p l e (headSpec (wsU yX1_slotBehind cX1_slotBehind 6 (some .int)) rm_X1_slotBehind).room s m args below meth c H locs 0 0 (MQ below (QI G z) args s 0 0 (gA G)) (F0 m 80 ls [])) := by
  obtain ⟨hx, hb, hml, hown, hts⟩ := id F
  have hg : ∀ q ∈ lwg, q.before args s = true := fun q h => hts q (List.mem_cons_of_mem _ h)
  intro k1 x2 x3 x4 hk1 w H locs ls S hl hz
  rw [f_X1_slotBehind_80] at hz
  refine lv_iinc (v := (x4 + 1)) (lv' := [(4, .int (x4 + 1)), (0, .ref (gad G 67)), (1, .ref (gad G k1)), (2, .int x2), (3, .int x3)]) hx hb dX1_slotBehind_80 hl (k := 4) rfl rfl (by decide) rfl (fun ls hl => ?_)
  refine lv_goto (tgt := 5) hx hb dX1_slotBehind_83 (by decide) ?_
  exact Hk_5 k1 x2 x3 (x4 + 1) hk1 _ _ _ _ S (lv_sub hl [1, 2, 3, 4, 0] rfl) hz
set_option maxHeartbeats 4000000 in
set_option maxRecDepth 100000 in
theorem w_X1_slotBehind_74 {p : Program} {l : Launch} {e : Env} {s : State} {m : MethodId} {args : Array Value} {below : List Frame} {meth : Method} {c : Code} {G : GG} (F : CallFix p m c cX1_slotBehind 6 s args (wsU yX1_slotBehind cX1_slotBehind 6 (some .int)) RX1) (hr : meth.sig.returnType = (some .int)) (hlk : meth.locks = false) {z : Int32 × GW} {k_5 : Nat → Int32 → Int32 → Int32 → GW → Option (Int32 × GW)} (Hk_5 : (∀ (k1 : Nat) (x2 : Int32) (x3 : Int32) (x4 : Int32) (hk1 : kd k1 = 10) (w : GW) (H : Heap) (locs : List Loc) (ls : Array Slot), St G w s H locs → lv_has ls 6 [(0, .ref (gad G 67)), (1, .ref (gad G k1)), (2, .int x2), (3, .int x3), (4, .int x4)] → k_5 k1 x2 x3 x4 w = some z → W p l e (headSpec (wsU yX1_slotBehind cX1_slotBehind 6 (some .int)) rm_X1_slotBehind).room s m args below meth c H locs 0 0 (MQ below (QI G z) args s 0 0 (gA G)) (F0 m 5 ls []))) {k_34 : Nat → Int32 → Int32 → Int32 → Int32 → GW → Option (Int32 × GW)} (Hk_34 : (∀ (k1 : Nat) (x2 : Int32) (x3 : Int32) (x4 : Int32) (x5 : Int32) (hk1 : kd k1 = 10) (w : GW) (H : Heap) (locs : List Loc) (ls : Array Slot), St G w s H locs → lv_has ls 6 [(0, .ref (gad G 67)), (1, .ref (gad G k1)), (2, .int x2), (3, .int x3), (4, .int x4), (5, .int x5)] → k_34 k1 x2 x3 x4 x5 w = some z → W p l e (headSpec (wsU yX1_slotBehind cX1_slotBehind 6 (some .int)) rm_X1_slotBehind).room s m args below meth c H locs 0 0 (MQ below (QI G z) args s 0 0 (gA G)) (F0 m 34 ls []))) : (∀ (k1 : Nat) (x2 : Int32) (x3 : Int32) (x4 : Int32) (x5 : Int32) (hk1 : kd k1 = 10) (w : GW) (H : Heap) (locs : List Loc) (ls : Array Slot), St G w s H locs → lv_has ls 6 [(0, .ref (gad G 67)), (1, .ref (gad G k1)), (2, .int x2), (3, .int x3), (4, .int x4), (5, .int x5)] → f_X1_slotBehind_74 k_5 k_34 k1 x2 x3 x4 x5 w = some z → W p l e (headSpec (wsU yX1_slotBehind cX1_slotBehind 6 (some .int)) rm_X1_slotBehind).room s m args below meth c H locs 0 0 (MQ below (QI G z) args s 0 0 (gA G)) (F0 m 74 ls [])) := by
  obtain ⟨hx, hb, hml, hown, hts⟩ := id F
  have hg : ∀ q ∈ lwg, q.before args s = true := fun q h => hts q (List.mem_cons_of_mem _ h)
  intro k1 x2 x3 x4 x5 hk1 w H locs ls S hl hz
  rw [f_X1_slotBehind_74] at hz
  refine lv_iinc (v := (x5 + 1)) (lv' := [(5, .int (x5 + 1)), (0, .ref (gad G 67)), (1, .ref (gad G k1)), (2, .int x2), (3, .int x3), (4, .int x4)]) hx hb dX1_slotBehind_74 hl (k := 5) rfl rfl (by decide) rfl (fun ls hl => ?_)
  refine lv_goto (tgt := 34) hx hb dX1_slotBehind_77 (by decide) ?_
  exact Hk_34 k1 x2 x3 x4 (x5 + 1) hk1 _ _ _ _ S (lv_sub hl [1, 2, 3, 4, 5, 0] rfl) hz
set_option maxHeartbeats 4000000 in
set_option maxRecDepth 100000 in
theorem w_X1_slotBehind_71 {p : Program} {l : Launch} {e : Env} {s : State} {m : MethodId} {args : Array Value} {below : List Frame} {meth : Method} {c : Code} {G : GG} (F : CallFix p m c cX1_slotBehind 6 s args (wsU yX1_slotBehind cX1_slotBehind 6 (some .int)) RX1) (hr : meth.sig.returnType = (some .int)) (hlk : meth.locks = false) {z : Int32 × GW} {k_5 : Nat → Int32 → Int32 → Int32 → GW → Option (Int32 × GW)} (Hk_5 : (∀ (k1 : Nat) (x2 : Int32) (x3 : Int32) (x4 : Int32) (hk1 : kd k1 = 10) (w : GW) (H : Heap) (locs : List Loc) (ls : Array Slot), St G w s H locs → lv_has ls 6 [(0, .ref (gad G 67)), (1, .ref (gad G k1)), (2, .int x2), (3, .int x3), (4, .int x4)] → k_5 k1 x2 x3 x4 w = some z → W p l e (headSpec (wsU yX1_slotBehind cX1_slotBehind 6 (some .int)) rm_X1_slotBehind).room s m args below meth c H locs 0 0 (MQ below (QI G z) args s 0 0 (gA G)) (F0 m 5 ls []))) {k_34 : Nat → Int32 → Int32 → Int32 → Int32 → GW → Option (Int32 × GW)} (Hk_34 : (∀ (k1 : Nat) (x2 : Int32) (x3 : Int32) (x4 : Int32) (x5 : Int32) (hk1 : kd k1 = 10) (w : GW) (H : Heap) (locs : List Loc) (ls : Array Slot), St G w s H locs → lv_has ls 6 [(0, .ref (gad G 67)), (1, .ref (gad G k1)), (2, .int x2), (3, .int x3), (4, .int x4), (5, .int x5)] → k_34 k1 x2 x3 x4 x5 w = some z → W p l e (headSpec (wsU yX1_slotBehind cX1_slotBehind 6 (some .int)) rm_X1_slotBehind).room s m args below meth c H locs 0 0 (MQ below (QI G z) args s 0 0 (gA G)) (F0 m 34 ls []))) : (∀ (k1 : Nat) (x2 : Int32) (x4 : Int32) (x5 : Int32) (hk1 : kd k1 = 10) (w : GW) (H : Heap) (locs : List Loc) (ls : Array Slot), St G w s H locs → lv_has ls 6 [(0, .ref (gad G 67)), (1, .ref (gad G k1)), (2, .int x2), (4, .int x4), (5, .int x5)] → f_X1_slotBehind_71 k_5 k_34 k1 x2 x4 x5 w = some z → W p l e (headSpec (wsU yX1_slotBehind cX1_slotBehind 6 (some .int)) rm_X1_slotBehind).room s m args below meth c H locs 0 0 (MQ below (QI G z) args s 0 0 (gA G)) (F0 m 71 ls [])) := by
  obtain ⟨hx, hb, hml, hown, hts⟩ := id F
  have hg : ∀ q ∈ lwg, q.before args s = true := fun q h => hts q (List.mem_cons_of_mem _ h)
  intro k1 x2 x4 x5 hk1 w H locs ls S hl hz
  rw [f_X1_slotBehind_71] at hz
  refine lv_iload hx hb dX1_slotBehind_71 (lv_at hl 4 rfl) ?_
  refine lv_istore_n (lv' := [(3, .int x5), (0, .ref (gad G 67)), (1, .ref (gad G k1)), (2, .int x2), (4, .int x4), (5, .int x5)]) hx hb dX1_slotBehind_73 rfl hl (by decide) rfl (fun ls hl => ?_)
  exact w_X1_slotBehind_74 F hr hlk Hk_5 Hk_34 k1 x2 x5 x4 x5 hk1 _ _ _ _ S (lv_sub hl [1, 2, 3, 0, 4, 5] rfl) hz
set_option maxHeartbeats 4000000 in
set_option maxRecDepth 100000 in
theorem w_X1_slotBehind_34 {p : Program} {l : Launch} {e : Env} {s : State} {m : MethodId} {args : Array Value} {below : List Frame} {meth : Method} {c : Code} {G : GG} (F : CallFix p m c cX1_slotBehind 6 s args (wsU yX1_slotBehind cX1_slotBehind 6 (some .int)) RX1) (hr : meth.sig.returnType = (some .int)) (hlk : meth.locks = false) {z : Int32 × GW} {k_5 : Nat → Int32 → Int32 → Int32 → GW → Option (Int32 × GW)} (Hk_5 : (∀ (k1 : Nat) (x2 : Int32) (x3 : Int32) (x4 : Int32) (hk1 : kd k1 = 10) (w : GW) (H : Heap) (locs : List Loc) (ls : Array Slot), St G w s H locs → lv_has ls 6 [(0, .ref (gad G 67)), (1, .ref (gad G k1)), (2, .int x2), (3, .int x3), (4, .int x4)] → k_5 k1 x2 x3 x4 w = some z → W p l e (headSpec (wsU yX1_slotBehind cX1_slotBehind 6 (some .int)) rm_X1_slotBehind).room s m args below meth c H locs 0 0 (MQ below (QI G z) args s 0 0 (gA G)) (F0 m 5 ls []))) : ∀ (n9 : Nat), (∀ (k1 : Nat) (x2 : Int32) (x3 : Int32) (x4 : Int32) (x5 : Int32) (hk1 : kd k1 = 10) (w : GW) (H : Heap) (locs : List Loc) (ls : Array Slot), St G w s H locs → lv_has ls 6 [(0, .ref (gad G 67)), (1, .ref (gad G k1)), (2, .int x2), (3, .int x3), (4, .int x4), (5, .int x5)] → f_X1_slotBehind_34 k_5 n9 k1 x2 x3 x4 x5 w = some z → W p l e (headSpec (wsU yX1_slotBehind cX1_slotBehind 6 (some .int)) rm_X1_slotBehind).room s m args below meth c H locs 0 0 (MQ below (QI G z) args s 0 0 (gA G)) (F0 m 34 ls [])) := by
  obtain ⟨hx, hb, hml, hown, hts⟩ := id F
  have hg : ∀ q ∈ lwg, q.before args s = true := fun q h => hts q (List.mem_cons_of_mem _ h)
  intro n9
  induction n9 with
  | zero =>
    intro k1 x2 x3 x4 x5 hk1 w H locs ls S hl hz
    rw [f_X1_slotBehind_34] at hz
    cases hz
  | succ n9 ih =>
    intro k1 x2 x3 x4 x5 hk1 w H locs ls S hl hz
    rw [f_X1_slotBehind_34] at hz
    refine lv_iload hx hb dX1_slotBehind_34 (lv_at hl 5 rfl) ?_
    refine lv_bipush (v := 6) hx hb dX1_slotBehind_36 (by decide) ?_
    refine lv_icmp_ge (tgt := 80) hx hb dX1_slotBehind_38 (by decide) (fun c5 => ?_) (fun c5 => ?_)
    · have hz := ipt (c5) hz
      exact w_X1_slotBehind_80 F hr hlk Hk_5 k1 x2 x3 x4 hk1 _ _ _ _ S (lv_sub hl [0, 1, 2, 3, 4] rfl) hz
    · have hz := ipf (c5) hz
      refine lv_aload_n hx hb dX1_slotBehind_41 rfl (lv_at hl 0 rfl) ?_
      refine fg_X1_2 hx hb (fun q h => hg q (tl_X1 q h)) hown (hg _ t_fl_X1_30) S (by decide) dX1_slotBehind_42 ?_
      refine lv_iload hx hb dX1_slotBehind_45 (lv_at hl 4 rfl) ?_
      refine lv_bipush (v := 6) hx hb dX1_slotBehind_47 (by decide) ?_
      refine lv_imul hx hb dX1_slotBehind_49 ?_
      refine lv_iload hx hb dX1_slotBehind_50 (lv_at hl 5 rfl) ?_
      refine lv_iadd hx hb dX1_slotBehind_52 ?_
      obtain ⟨h6, hz⟩ := ck hz
      refine g_lald hx hb S (isA_23 (by decide)) h6 dX1_slotBehind_53 ?_
      refine lv_lconst (v := 0) hx hb dX1_slotBehind_54 (by decide) ?_
      refine W.lcmp hx hb dX1_slotBehind_55 ?_
      refine lv_if_le (tgt := 74) hx hb dX1_slotBehind_56 (by decide) (fun c7 => ?_) (fun c7 => ?_)
      · have hz := ipt ((lg_cmp_le _ _).mp c7) hz
        exact w_X1_slotBehind_74 F hr hlk Hk_5 ih k1 x2 x3 x4 x5 hk1 _ _ _ _ S (lv_sub hl [0, 1, 2, 3, 4, 5] rfl) hz
      · have hz := ipf (fun q9 => c7 ((lg_cmp_le _ _).mpr q9)) hz
        refine lv_iload_n hx hb dX1_slotBehind_59 rfl (lv_at hl 3 rfl) ?_
        refine lv_if_lt (tgt := 71) hx hb dX1_slotBehind_60 (by decide) (fun c8 => ?_) (fun c8 => ?_)
        · have hz := ipt (c8) hz
          exact w_X1_slotBehind_71 F hr hlk Hk_5 ih k1 x2 x4 x5 hk1 _ _ _ _ S (lv_sub hl [0, 1, 2, 4, 5] rfl) hz
        · have hz := ipf (c8) hz
          refine lv_iload_n hx hb dX1_slotBehind_63 rfl (lv_at hl 3 rfl) ?_
          refine lv_iload hx hb dX1_slotBehind_64 (lv_at hl 5 rfl) ?_
          refine lv_icmp_eq (tgt := 71) hx hb dX1_slotBehind_66 (by decide) (fun c9 => ?_) (fun c9 => ?_)
          · have hz := ipt (c9) hz
            exact w_X1_slotBehind_71 F hr hlk Hk_5 ih k1 x2 x4 x5 hk1 _ _ _ _ S (lv_sub hl [0, 1, 2, 4, 5] rfl) hz
          · have hz := ipf (c9) hz
            refine lv_iconst (v := (-1)) hx hb dX1_slotBehind_69 (by decide) ?_
            exact g_reti hx hb hr hlk S hz dX1_slotBehind_70
set_option maxHeartbeats 4000000 in
set_option maxRecDepth 100000 in
theorem w_X1_slotBehind_5 {p : Program} {l : Launch} {e : Env} {s : State} {m : MethodId} {args : Array Value} {below : List Frame} {meth : Method} {c : Code} {G : GG} (F : CallFix p m c cX1_slotBehind 6 s args (wsU yX1_slotBehind cX1_slotBehind 6 (some .int)) RX1) (hr : meth.sig.returnType = (some .int)) (hlk : meth.locks = false) {z : Int32 × GW} : ∀ (n9 : Nat), (∀ (k1 : Nat) (x2 : Int32) (x3 : Int32) (x4 : Int32) (hk1 : kd k1 = 10) (w : GW) (H : Heap) (locs : List Loc) (ls : Array Slot), St G w s H locs → lv_has ls 6 [(0, .ref (gad G 67)), (1, .ref (gad G k1)), (2, .int x2), (3, .int x3), (4, .int x4)] → f_X1_slotBehind_5 n9 k1 x2 x3 x4 w = some z → W p l e (headSpec (wsU yX1_slotBehind cX1_slotBehind 6 (some .int)) rm_X1_slotBehind).room s m args below meth c H locs 0 0 (MQ below (QI G z) args s 0 0 (gA G)) (F0 m 5 ls [])) := by
  obtain ⟨hx, hb, hml, hown, hts⟩ := id F
  have hg : ∀ q ∈ lwg, q.before args s = true := fun q h => hts q (List.mem_cons_of_mem _ h)
  intro n9
  induction n9 with
  | zero =>
    intro k1 x2 x3 x4 hk1 w H locs ls S hl hz
    rw [f_X1_slotBehind_5] at hz
    cases hz
  | succ n9 ih =>
    intro k1 x2 x3 x4 hk1 w H locs ls S hl hz
    rw [f_X1_slotBehind_5] at hz
    refine lv_iload hx hb dX1_slotBehind_5 (lv_at hl 4 rfl) ?_
    refine lv_aload_n hx hb dX1_slotBehind_7 rfl (lv_at hl 0 rfl) ?_
    refine fg_X1_3 hx hb (fun q h => hg q (tl_X1 q h)) hown (hg _ t_fl_X1_9) S (by decide) dX1_slotBehind_8 ?_
    refine fg_X3_1 hx hb (fun q h => hg q (tl_X3 q h)) hown (hg _ t_fl_X1_33) S (kd_H _) dX1_slotBehind_11 ?_
    refine lv_icmp_ge (tgt := 86) hx hb dX1_slotBehind_14 (by decide) (fun c1 => ?_) (fun c1 => ?_)
    · have hz := ipt (c1) hz
      refine lv_iload_n hx hb dX1_slotBehind_86 rfl (lv_at hl 3 rfl) ?_
      exact g_reti hx hb hr hlk S hz dX1_slotBehind_87
    · have hz := ipf (c1) hz
      refine lv_aload_n hx hb dX1_slotBehind_17 rfl (lv_at hl 0 rfl) ?_
      refine fg_X1_3 hx hb (fun q h => hg q (tl_X1 q h)) hown (hg _ t_fl_X1_9) S (by decide) dX1_slotBehind_18 ?_
      refine lv_aload_n hx hb dX1_slotBehind_21 rfl (lv_at hl 1 rfl) ?_
      refine lv_iload hx hb dX1_slotBehind_22 (lv_at hl 4 rfl) ?_
      obtain ⟨q2, e3, hz⟩ := bd hz
      refine g_callVi (As := [.ref (gad G k1), .int x4]) (rest := []) F S (c_X3_roomFrom l G (fxH (gR w 4)) k1 x4 (kd_H _) hk1 _ e3) (cw_X1_slotBehind_X3_roomFrom_88 hg) (S.obj (kd_H _) (by decide) rfl (oc_X3 _ _ _ (kd_H _))) rfl hl.1 rfl (Nat.le_of_ble_eq_true rfl) ⟨Nat.zero_le _, Nat.zero_le _⟩ dX1_slotBehind_24 (fun H locs  S => ?_)
      refine lv_iload_n hx hb dX1_slotBehind_27 rfl (lv_at hl 2 rfl) ?_
      refine lv_icmp_ne (tgt := 80) hx hb dX1_slotBehind_28 (by decide) (fun c4 => ?_) (fun c4 => ?_)
      · have hz := ipf (c4) hz
        exact w_X1_slotBehind_80 F hr hlk ih k1 x2 x3 x4 hk1 _ _ _ _ S (lv_sub hl [0, 1, 2, 3, 4] rfl) hz
      · have hz := ipt (c4) hz
        refine lv_iconst (v := 0) hx hb dX1_slotBehind_31 (by decide) ?_
        refine lv_istore (lv' := [(5, .int 0), (0, .ref (gad G 67)), (1, .ref (gad G k1)), (2, .int x2), (3, .int x3), (4, .int x4)]) hx hb dX1_slotBehind_32 hl (by decide) rfl (fun ls hl => ?_)
        exact w_X1_slotBehind_34 F hr hlk ih fu k1 x2 x3 x4 0 hk1 _ _ _ _ S (lv_sub hl [1, 2, 3, 4, 5, 0] rfl) hz
set_option maxHeartbeats 4000000 in
set_option maxRecDepth 100000 in
theorem c_X1_slotBehind (l : Launch) (G : GG) (k1 : Nat) (x2 : Int32) (hk1 : kd k1 = 10) (w : GW) {z : Int32 × GW} (hz : f_X1_slotBehind k1 x2 w = some z) : Met l yX1_slotBehind (wsU yX1_slotBehind cX1_slotBehind 6 (some .int)) rm_X1_slotBehind (va_Pc [.ref (gad G 67), .ref (gad G k1), .int x2] (PreG G w)) (QI G z) 0 0 (gA G) := by
  refine Met.ofW (cc := cX1_slotBehind) (maxL := 6) (ret := (some .int)) (by decide) rfl ?_
  intro p e s m args below meth c s₁ B hml hv
  obtain ⟨rfl, S⟩ := hv
  have F : CallFix p m c cX1_slotBehind 6 s _ (wsU yX1_slotBehind cX1_slotBehind 6 (some .int)) RX1 := ⟨B.exec, B.bytes, hml, findClass_of_methodNamed B.named, atoms_spec B.pre⟩
  have hr := B.returns
  have hlk := B.notSynchronized
  obtain ⟨hx, hb, -, hown, hts⟩ := id F
  have hg : ∀ q ∈ lwg, q.before _ s = true := fun q h => hts q (List.mem_cons_of_mem _ h)
  refine g_entry (Nat.le_of_ble_eq_true rfl) (fun ls hl => ?_)
  have hl : lv_has ls 6 [(0, .ref (gad G 67)), (1, .ref (gad G k1)), (2, .int x2)] := hl
  have S : St G w s s.heap [] := S
  generalize s.heap = H at S ⊢
  generalize ([] : List Loc) = locs at S ⊢
  rw [f_X1_slotBehind] at hz
  refine lv_iconst (v := (-1)) hx hb dX1_slotBehind_0 (by decide) ?_
  refine lv_istore_n (lv' := [(3, .int (-1)), (0, .ref (gad G 67)), (1, .ref (gad G k1)), (2, .int x2)]) hx hb dX1_slotBehind_1 rfl hl (by decide) rfl (fun ls hl => ?_)
  refine lv_iconst (v := 0) hx hb dX1_slotBehind_2 (by decide) ?_
  refine lv_istore (lv' := [(4, .int 0), (3, .int (-1)), (0, .ref (gad G 67)), (1, .ref (gad G k1)), (2, .int x2)]) hx hb dX1_slotBehind_3 hl (by decide) rfl (fun ls hl => ?_)
  exact w_X1_slotBehind_5 F hr hlk fu k1 x2 (-1) 0 hk1 _ _ _ _ S (lv_sub hl [2, 3, 4, 1, 0] rfl) hz
noncomputable def f_X2_land_40  (k0 : Nat) (k1 : Nat) (x3 : Int32) (w : GW) : Option (Unit × GW) :=
  (f_X3_move k1 (k0 + 1) (gI (sI (sI w k0 2 ((gI w k0 2) + 1)) k0 4 x3) k0 2) (sI (sI w k0 2 ((gI w k0 2) + 1)) k0 4 x3)).bind fun q6 =>
  some ((), q6.2)
noncomputable def f_X2_land (k0 : Nat) (k1 : Nat) (x2 : Int32) (x3 : Int32) (w : GW) : Option (Unit × GW) :=
  (f_X3_roomFrom k1 (k0 + 1) x2 w).bind fun q1 =>
  if 0 ≤ q1.1 then
    if inb q1.1 5 then
    if inb q1.1 5 then
    f_X2_land_40 k0 k1 x3 (sI q1.2 (k0 + 1) (ix q1.1) ((gI q1.2 (k0 + 1) (ix q1.1)) + 1))
    else none
    else none
  else
    f_X2_land_40 k0 k1 x3 (sI q1.2 k0 3 ((gI q1.2 k0 3) + 1))
set_option maxHeartbeats 4000000 in
set_option maxRecDepth 100000 in
theorem w_X2_land_40 {p : Program} {l : Launch} {e : Env} {s : State} {m : MethodId} {args : Array Value} {below : List Frame} {meth : Method} {c : Code} {G : GG} (F : CallFix p m c cX2_land 5 s args (wsU yX2_land cX2_land 5 none) RX2) (hr : meth.sig.returnType = none) (hlk : meth.locks = false) {z : Unit × GW} : (∀ (k0 : Nat) (k1 : Nat) (x3 : Int32) (hk0 : kd k0 = 2) (hk1 : kd k1 = 3) (w : GW) (H : Heap) (locs : List Loc) (ls : Array Slot), St G w s H locs → lv_has ls 5 [(0, .ref (gad G k0)), (1, .ref (gad G k1)), (3, .int x3)] → f_X2_land_40 k0 k1 x3 w = some z → W p l e (headSpec (wsU yX2_land cX2_land 5 none) rm_X2_land).room s m args below meth c H locs 0 0 (MQ below (QV G z) args s 0 0 (gA G)) (F0 m 40 ls [])) := by
  obtain ⟨hx, hb, hml, hown, hts⟩ := id F
  have hg : ∀ q ∈ lwg, q.before args s = true := fun q h => hts q (List.mem_cons_of_mem _ h)
  intro k0 k1 x3 hk0 hk1 w H locs ls S hl hz
  rw [f_X2_land_40] at hz
  refine lv_aload_n hx hb dX2_land_40 rfl (lv_at hl 0 rfl) ?_
  refine lv_dup hx hb dX2_land_41 rfl ?_
  refine fg_X2_2 hx hb (fun q h => hg q (tl_X2 q h)) hown (hg _ t_fl_X2_22) S hk0 dX2_land_42 ?_
  refine lv_iconst (v := 1) hx hb dX2_land_45 (by decide) ?_
  refine lv_iadd hx hb dX2_land_46 ?_
  refine fp_X2_2 (v := ((gI w k0 2) + 1)) hx hb (fun q h => hg q (tl_X2 q h)) hown (hg _ t_fl_X2_22) S hk0 dX2_land_47 (fun H locs S => ?_)
  refine lv_aload_n hx hb dX2_land_50 rfl (lv_at hl 0 rfl) ?_
  refine lv_iload_n hx hb dX2_land_51 rfl (lv_at hl 2 rfl) ?_
  refine fp_X2_4 (v := x3) hx hb (fun q h => hg q (tl_X2 q h)) hown (hg _ t_fl_X2_28) S hk0 dX2_land_52 (fun H locs S => ?_)
  refine lv_aload_n hx hb dX2_land_55 rfl (lv_at hl 1 rfl) ?_
  refine lv_aload_n hx hb dX2_land_56 rfl (lv_at hl 0 rfl) ?_
  refine fg_X2_5 hx hb (fun q h => hg q (tl_X2 q h)) hown (hg _ t_fl_X2_9) S hk0 dX2_land_57 ?_
  refine lv_aload_n hx hb dX2_land_60 rfl (lv_at hl 0 rfl) ?_
  refine fg_X2_2 hx hb (fun q h => hg q (tl_X2 q h)) hown (hg _ t_fl_X2_22) S hk0 dX2_land_61 ?_
  obtain ⟨q6, e7, hz⟩ := bd hz
  refine g_callVv (As := [.ref (gad G (k0 + 1)), .int (gI (sI (sI w k0 2 ((gI w k0 2) + 1)) k0 4 x3) k0 2)]) (rest := []) F S (c_X3_move l G k1 (k0 + 1) (gI (sI (sI w k0 2 ((gI w k0 2) + 1)) k0 4 x3) k0 2) hk1 (kd_2_1 hk0) _ e7) (cw_X2_land_X3_move_38 hg) (S.obj hk1 (by decide) rfl (oc_X3 _ _ _ hk1)) rfl hl.1 rfl (Nat.le_of_ble_eq_true rfl) ⟨Nat.zero_le _, Nat.zero_le _⟩ dX2_land_64 (fun H locs  S => ?_)
  exact g_retv hx hb hr hlk S hz dX2_land_67
set_option maxHeartbeats 4000000 in
set_option maxRecDepth 100000 in
theorem c_X2_land (l : Launch) (G : GG) (k0 : Nat) (k1 : Nat) (x2 : Int32) (x3 : Int32) (hk0 : kd k0 = 2) (hk1 : kd k1 = 3) (w : GW) {z : Unit × GW} (hz : f_X2_land k0 k1 x2 x3 w = some z) : Met l yX2_land (wsU yX2_land cX2_land 5 none) rm_X2_land (va_Pc [.ref (gad G k0), .ref (gad G k1), .int x2, .int x3] (PreG G w)) (QV G z) 0 0 (gA G) := by
  refine Met.ofW (cc := cX2_land) (maxL := 5) (ret := none) (by decide) rfl ?_
  intro p e s m args below meth c s₁ B hml hv
  obtain ⟨rfl, S⟩ := hv
  have F : CallFix p m c cX2_land 5 s _ (wsU yX2_land cX2_land 5 none) RX2 := ⟨B.exec, B.bytes, hml, findClass_of_methodNamed B.named, atoms_spec B.pre⟩
  have hr := B.returns
  have hlk := B.notSynchronized
  obtain ⟨hx, hb, -, hown, hts⟩ := id F
  have hg : ∀ q ∈ lwg, q.before _ s = true := fun q h => hts q (List.mem_cons_of_mem _ h)
  refine g_entry (Nat.le_of_ble_eq_true rfl) (fun ls hl => ?_)
  have hl : lv_has ls 5 [(0, .ref (gad G k0)), (1, .ref (gad G k1)), (2, .int x2), (3, .int x3)] := hl
  have S : St G w s s.heap [] := S
  generalize s.heap = H at S ⊢
  generalize ([] : List Loc) = locs at S ⊢
  rw [f_X2_land] at hz
  refine lv_aload_n hx hb dX2_land_0 rfl (lv_at hl 1 rfl) ?_
  refine lv_aload_n hx hb dX2_land_1 rfl (lv_at hl 0 rfl) ?_
  refine fg_X2_5 hx hb (fun q h => hg q (tl_X2 q h)) hown (hg _ t_fl_X2_9) S hk0 dX2_land_2 ?_
  refine lv_iload_n hx hb dX2_land_5 rfl (lv_at hl 2 rfl) ?_
  obtain ⟨q1, e2, hz⟩ := bd hz
  refine g_callVi (As := [.ref (gad G (k0 + 1)), .int x2]) (rest := []) F S (c_X3_roomFrom l G k1 (k0 + 1) x2 hk1 (kd_2_1 hk0) _ e2) (cw_X2_land_X3_roomFrom_32 hg) (S.obj hk1 (by decide) rfl (oc_X3 _ _ _ hk1)) rfl hl.1 rfl (Nat.le_of_ble_eq_true rfl) ⟨Nat.zero_le _, Nat.zero_le _⟩ dX2_land_6 (fun H locs  S => ?_)
  refine lv_istore (lv' := [(4, .int q1.1), (0, .ref (gad G k0)), (1, .ref (gad G k1)), (2, .int x2), (3, .int x3)]) hx hb dX2_land_9 hl (by decide) rfl (fun ls hl => ?_)
  refine lv_iload hx hb dX2_land_11 (lv_at hl 0 rfl) ?_
  refine lv_if_ge (tgt := 29) hx hb dX2_land_13 (by decide) (fun c3 => ?_) (fun c3 => ?_)
  · have hz := ipt (c3) hz
    refine lv_aload_n hx hb dX2_land_29 rfl (lv_at hl 1 rfl) ?_
    refine fg_X2_5 hx hb (fun q h => hg q (tl_X2 q h)) hown (hg _ t_fl_X2_9) S hk0 dX2_land_30 ?_
    refine lv_iload hx hb dX2_land_33 (lv_at hl 0 rfl) ?_
    refine lv_dup2_11 hx hb dX2_land_35 rfl rfl ?_
    obtain ⟨h4, hz⟩ := ck hz
    refine g_iald hx hb S (isA_10 (kd_2_1 hk0)) h4 dX2_land_36 ?_
    refine lv_iconst (v := 1) hx hb dX2_land_37 (by decide) ?_
    refine lv_iadd hx hb dX2_land_38 ?_
    obtain ⟨h5, hz⟩ := ck hz
    refine g_iast (x := ((gI q1.2 (k0 + 1) (ix q1.1)) + 1)) hx hb S (isA_10 (kd_2_1 hk0)) h5 dX2_land_39 (fun H locs S => ?_)
    exact w_X2_land_40 F hr hlk k0 k1 x3 hk0 hk1 _ _ _ _ S (lv_sub hl [1, 2, 4] rfl) hz
  · have hz := ipf (c3) hz
    refine lv_aload_n hx hb dX2_land_16 rfl (lv_at hl 1 rfl) ?_
    refine lv_dup hx hb dX2_land_17 rfl ?_
    refine fg_X2_3 hx hb (fun q h => hg q (tl_X2 q h)) hown (hg _ t_fl_X2_25) S hk0 dX2_land_18 ?_
    refine lv_iconst (v := 1) hx hb dX2_land_21 (by decide) ?_
    refine lv_iadd hx hb dX2_land_22 ?_
    refine fp_X2_3 (v := ((gI q1.2 k0 3) + 1)) hx hb (fun q h => hg q (tl_X2 q h)) hown (hg _ t_fl_X2_25) S hk0 dX2_land_23 (fun H locs S => ?_)
    refine lv_goto (tgt := 40) hx hb dX2_land_26 (by decide) ?_
    exact w_X2_land_40 F hr hlk k0 k1 x3 hk0 hk1 _ _ _ _ S (lv_sub hl [1, 2, 4] rfl) hz
noncomputable def f_X2_draw (k0 : Nat) (w : GW) : Option (Int32 × GW) :=
  some ((gI (sI w k0 1 (irm ((75 * (gI w k0 1)) + 74) 65537)) k0 1), (sI w k0 1 (irm ((75 * (gI w k0 1)) + 74) 65537)))
set_option maxHeartbeats 4000000 in
set_option maxRecDepth 100000 in
theorem c_X2_draw (l : Launch) (G : GG) (k0 : Nat) (hk0 : kd k0 = 2) (w : GW) {z : Int32 × GW} (hz : f_X2_draw k0 w = some z) : Met l yX2_draw (wsU yX2_draw cX2_draw 1 (some .int)) rm_X2_draw (va_Pc [.ref (gad G k0)] (PreG G w)) (QI G z) 0 0 (gA G) := by
  refine Met.ofW (cc := cX2_draw) (maxL := 1) (ret := (some .int)) (by decide) rfl ?_
  intro p e s m args below meth c s₁ B hml hv
  obtain ⟨rfl, S⟩ := hv
  have F : CallFix p m c cX2_draw 1 s _ (wsU yX2_draw cX2_draw 1 (some .int)) RX2 := ⟨B.exec, B.bytes, hml, findClass_of_methodNamed B.named, atoms_spec B.pre⟩
  have hr := B.returns
  have hlk := B.notSynchronized
  obtain ⟨hx, hb, -, hown, hts⟩ := id F
  have hg : ∀ q ∈ lwg, q.before _ s = true := fun q h => hts q (List.mem_cons_of_mem _ h)
  refine g_entry (Nat.le_of_ble_eq_true rfl) (fun ls hl => ?_)
  have hl : lv_has ls 1 [(0, .ref (gad G k0))] := hl
  have S : St G w s s.heap [] := S
  generalize s.heap = H at S ⊢
  generalize ([] : List Loc) = locs at S ⊢
  rw [f_X2_draw] at hz
  refine lv_aload_n hx hb dX2_draw_0 rfl (lv_at hl 0 rfl) ?_
  refine lv_bipush (v := 75) hx hb dX2_draw_1 (by decide) ?_
  refine lv_aload_n hx hb dX2_draw_3 rfl (lv_at hl 0 rfl) ?_
  refine fg_X2_1 hx hb (fun q h => hg q (tl_X2 q h)) hown (hg _ t_fl_X2_19) S hk0 dX2_draw_4 ?_
  refine lv_imul hx hb dX2_draw_7 ?_
  refine lv_bipush (v := 74) hx hb dX2_draw_8 (by decide) ?_
  refine lv_iadd hx hb dX2_draw_10 ?_
  refine lv_ldc (v := 65537) hx hb hown (hg _ t_ci_X2_31) dX2_draw_11 ?_
  refine g_irem hx hb dX2_draw_13 (by decide) ?_
  refine fp_X2_1 (v := (irm ((75 * (gI w k0 1)) + 74) 65537)) hx hb (fun q h => hg q (tl_X2 q h)) hown (hg _ t_fl_X2_19) S hk0 dX2_draw_14 (fun H locs S => ?_)
  refine lv_aload_n hx hb dX2_draw_17 rfl (lv_at hl 0 rfl) ?_
  refine fg_X2_1 hx hb (fun q h => hg q (tl_X2 q h)) hown (hg _ t_fl_X2_19) S hk0 dX2_draw_18 ?_
  exact g_reti hx hb hr hlk S hz dX2_draw_21
noncomputable def f_X1_glance_29  : Nat → Int32 → Int32 → GW → Option (Int32 × GW)
  | 0, _, _, _ => none
  | n9 + 1, x2, x3, w =>
    if ((gI w (fxH (gR w 4)) 1) - 1) ≤ x3 then
      some (x3, w)
    else
      if inb x3 5 then
      if x2 < (gI w ((fxH (gR w 4)) + 2) (ix x3)) then
        some (x3, w)
      else
        if inb x3 5 then
        f_X1_glance_29 n9 (x2 - (gI w ((fxH (gR w 4)) + 2) (ix x3))) (x3 + 1) w
        else none
      else none
noncomputable def f_X1_glance_26  (t0 : Int32) (w : GW) : Option (Int32 × GW) :=
  f_X1_glance_29 fu t0 0 w
noncomputable def f_X1_glance (k1 : Nat) (w : GW) : Option (Int32 × GW) :=
  if (gI w (fxH (gR w 4)) 4) ≤ 0 then
    f_X1_glance_26 0 w
  else
    (f_X2_draw k1 w).bind fun q6 =>
    if ¬ (gI q6.2 (fxH (gR q6.2 4)) 4) = 0 then
    f_X1_glance_26 (irm q6.1 (gI q6.2 (fxH (gR q6.2 4)) 4)) q6.2
    else none
set_option maxHeartbeats 4000000 in
set_option maxRecDepth 100000 in
theorem w_X1_glance_29 {p : Program} {l : Launch} {e : Env} {s : State} {m : MethodId} {args : Array Value} {below : List Frame} {meth : Method} {c : Code} {G : GG} (F : CallFix p m c cX1_glance 4 s args (wsU yX1_glance cX1_glance 4 (some .int)) RX1) (hr : meth.sig.returnType = (some .int)) (hlk : meth.locks = false) {z : Int32 × GW} : ∀ (n9 : Nat), (∀ (x2 : Int32) (x3 : Int32) (w : GW) (H : Heap) (locs : List Loc) (ls : Array Slot), St G w s H locs → lv_has ls 4 [(0, .ref (gad G 67)), (2, .int x2), (3, .int x3)] → f_X1_glance_29 n9 x2 x3 w = some z → W p l e (headSpec (wsU yX1_glance cX1_glance 4 (some .int)) rm_X1_glance).room s m args below meth c H locs 0 0 (MQ below (QI G z) args s 0 0 (gA G)) (F0 m 29 ls [])) := by
  obtain ⟨hx, hb, hml, hown, hts⟩ := id F
  have hg : ∀ q ∈ lwg, q.before args s = true := fun q h => hts q (List.mem_cons_of_mem _ h)
  intro n9
  induction n9 with
  | zero =>
    intro x2 x3 w H locs ls S hl hz
    rw [f_X1_glance_29] at hz
    cases hz
  | succ n9 ih =>
    intro x2 x3 w H locs ls S hl hz
    rw [f_X1_glance_29] at hz
    refine lv_iload_n hx hb dX1_glance_29 rfl (lv_at hl 2 rfl) ?_
    refine lv_aload_n hx hb dX1_glance_30 rfl (lv_at hl 0 rfl) ?_
    refine fg_X1_3 hx hb (fun q h => hg q (tl_X1 q h)) hown (hg _ t_fl_X1_9) S (by decide) dX1_glance_31 ?_
    refine fg_X3_1 hx hb (fun q h => hg q (tl_X3 q h)) hown (hg _ t_fl_X1_33) S (kd_H _) dX1_glance_34 ?_
    refine lv_iconst (v := 1) hx hb dX1_glance_37 (by decide) ?_
    refine lv_isub hx hb dX1_glance_38 ?_
    refine lv_icmp_ge (tgt := 73) hx hb dX1_glance_39 (by decide) (fun c2 => ?_) (fun c2 => ?_)
    · have hz := ipt (c2) hz
      refine lv_iload_n hx hb dX1_glance_73 rfl (lv_at hl 2 rfl) ?_
      exact g_reti hx hb hr hlk S hz dX1_glance_74
    · have hz := ipf (c2) hz
      refine lv_iload_n hx hb dX1_glance_42 rfl (lv_at hl 1 rfl) ?_
      refine lv_aload_n hx hb dX1_glance_43 rfl (lv_at hl 0 rfl) ?_
      refine fg_X1_3 hx hb (fun q h => hg q (tl_X1 q h)) hown (hg _ t_fl_X1_9) S (by decide) dX1_glance_44 ?_
      refine fg_X3_11 hx hb (fun q h => hg q (tl_X3 q h)) hown (hg _ t_fl_X1_46) S (kd_H _) dX1_glance_47 ?_
      refine lv_iload_n hx hb dX1_glance_50 rfl (lv_at hl 2 rfl) ?_
      obtain ⟨h3, hz⟩ := ck hz
      refine g_iald hx hb S (isA_10 (kd_3_2 (kd_H _))) h3 dX1_glance_51 ?_
      refine lv_icmp_lt (tgt := 73) hx hb dX1_glance_52 (by decide) (fun c4 => ?_) (fun c4 => ?_)
      · have hz := ipt (c4) hz
        refine lv_iload_n hx hb dX1_glance_73 rfl (lv_at hl 2 rfl) ?_
        exact g_reti hx hb hr hlk S hz dX1_glance_74
      · have hz := ipf (c4) hz
        refine lv_iload_n hx hb dX1_glance_55 rfl (lv_at hl 1 rfl) ?_
        refine lv_aload_n hx hb dX1_glance_56 rfl (lv_at hl 0 rfl) ?_
        refine fg_X1_3 hx hb (fun q h => hg q (tl_X1 q h)) hown (hg _ t_fl_X1_9) S (by decide) dX1_glance_57 ?_
        refine fg_X3_11 hx hb (fun q h => hg q (tl_X3 q h)) hown (hg _ t_fl_X1_46) S (kd_H _) dX1_glance_60 ?_
        refine lv_iload_n hx hb dX1_glance_63 rfl (lv_at hl 2 rfl) ?_
        obtain ⟨h5, hz⟩ := ck hz
        refine g_iald hx hb S (isA_10 (kd_3_2 (kd_H _))) h5 dX1_glance_64 ?_
        refine lv_isub hx hb dX1_glance_65 ?_
        refine lv_istore_n (lv' := [(2, .int (x2 - (gI w ((fxH (gR w 4)) + 2) (ix x3)))), (0, .ref (gad G 67)), (3, .int x3)]) hx hb dX1_glance_66 rfl hl (by decide) rfl (fun ls hl => ?_)
        refine lv_iinc (v := (x3 + 1)) (lv' := [(3, .int (x3 + 1)), (2, .int (x2 - (gI w ((fxH (gR w 4)) + 2) (ix x3)))), (0, .ref (gad G 67))]) hx hb dX1_glance_67 hl (k := 2) rfl rfl (by decide) rfl (fun ls hl => ?_)
        refine lv_goto (tgt := 29) hx hb dX1_glance_70 (by decide) ?_
        exact ih (x2 - (gI w ((fxH (gR w 4)) + 2) (ix x3))) (x3 + 1)  _ _ _ _ S (lv_sub hl [2, 1, 0] rfl) hz
set_option maxHeartbeats 4000000 in
set_option maxRecDepth 100000 in
theorem w_X1_glance_26 {p : Program} {l : Launch} {e : Env} {s : State} {m : MethodId} {args : Array Value} {below : List Frame} {meth : Method} {c : Code} {G : GG} (F : CallFix p m c cX1_glance 4 s args (wsU yX1_glance cX1_glance 4 (some .int)) RX1) (hr : meth.sig.returnType = (some .int)) (hlk : meth.locks = false) {z : Int32 × GW} : (∀ (t0 : Int32) (w : GW) (H : Heap) (locs : List Loc) (ls : Array Slot), St G w s H locs → lv_has ls 4 [(0, .ref (gad G 67))] → f_X1_glance_26 t0 w = some z → W p l e (headSpec (wsU yX1_glance cX1_glance 4 (some .int)) rm_X1_glance).room s m args below meth c H locs 0 0 (MQ below (QI G z) args s 0 0 (gA G)) (F0 m 26 ls [.int t0])) := by
  obtain ⟨hx, hb, hml, hown, hts⟩ := id F
  have hg : ∀ q ∈ lwg, q.before args s = true := fun q h => hts q (List.mem_cons_of_mem _ h)
  intro t0 w H locs ls S hl hz
  rw [f_X1_glance_26] at hz
  refine lv_istore_n (lv' := [(2, .int t0), (0, .ref (gad G 67))]) hx hb dX1_glance_26 rfl hl (by decide) rfl (fun ls hl => ?_)
  refine lv_iconst (v := 0) hx hb dX1_glance_27 (by decide) ?_
  refine lv_istore_n (lv' := [(3, .int 0), (2, .int t0), (0, .ref (gad G 67))]) hx hb dX1_glance_28 rfl hl (by decide) rfl (fun ls hl => ?_)
  exact w_X1_glance_29 F hr hlk fu t0 0 _ _ _ _ S (lv_sub hl [2, 1, 0] rfl) hz
set_option maxHeartbeats 4000000 in
set_option maxRecDepth 100000 in
theorem c_X1_glance (l : Launch) (G : GG) (k1 : Nat) (hk1 : kd k1 = 2) (w : GW) {z : Int32 × GW} (hz : f_X1_glance k1 w = some z) : Met l yX1_glance (wsU yX1_glance cX1_glance 4 (some .int)) rm_X1_glance (va_Pc [.ref (gad G 67), .ref (gad G k1)] (PreG G w)) (QI G z) 0 0 (gA G) := by
  refine Met.ofW (cc := cX1_glance) (maxL := 4) (ret := (some .int)) (by decide) rfl ?_
  intro p e s m args below meth c s₁ B hml hv
  obtain ⟨rfl, S⟩ := hv
  have F : CallFix p m c cX1_glance 4 s _ (wsU yX1_glance cX1_glance 4 (some .int)) RX1 := ⟨B.exec, B.bytes, hml, findClass_of_methodNamed B.named, atoms_spec B.pre⟩
  have hr := B.returns
  have hlk := B.notSynchronized
  obtain ⟨hx, hb, -, hown, hts⟩ := id F
  have hg : ∀ q ∈ lwg, q.before _ s = true := fun q h => hts q (List.mem_cons_of_mem _ h)
  refine g_entry (Nat.le_of_ble_eq_true rfl) (fun ls hl => ?_)
  have hl : lv_has ls 4 [(0, .ref (gad G 67)), (1, .ref (gad G k1))] := hl
  have S : St G w s s.heap [] := S
  generalize s.heap = H at S ⊢
  generalize ([] : List Loc) = locs at S ⊢
  rw [f_X1_glance] at hz
  refine lv_aload_n hx hb dX1_glance_0 rfl (lv_at hl 0 rfl) ?_
  refine fg_X1_3 hx hb (fun q h => hg q (tl_X1 q h)) hown (hg _ t_fl_X1_9) S (by decide) dX1_glance_1 ?_
  refine fg_X3_4 hx hb (fun q h => hg q (tl_X3 q h)) hown (hg _ t_fl_X1_77) S (kd_H _) dX1_glance_4 ?_
  refine lv_if_le (tgt := 25) hx hb dX1_glance_7 (by decide) (fun c1 => ?_) (fun c1 => ?_)
  · have hz := ipt (c1) hz
    refine lv_iconst (v := 0) hx hb dX1_glance_25 (by decide) ?_
    exact w_X1_glance_26 F hr hlk 0 _ _ _ _ S (lv_sub hl [0] rfl) hz
  · have hz := ipf (c1) hz
    refine lv_aload_n hx hb dX1_glance_10 rfl (lv_at hl 1 rfl) ?_
    obtain ⟨q6, e7, hz⟩ := bd hz
    refine g_callVi (As := []) (rest := []) F S (c_X2_draw l G k1 hk1 _ e7) (cw_X1_glance_X2_draw_118 hg) (S.obj hk1 (by decide) rfl (oc_X2 _ _ _ hk1)) rfl hl.1 rfl (Nat.le_of_ble_eq_true rfl) ⟨Nat.zero_le _, Nat.zero_le _⟩ dX1_glance_11 (fun H locs  S => ?_)
    refine lv_aload_n hx hb dX1_glance_14 rfl (lv_at hl 0 rfl) ?_
    refine fg_X1_3 hx hb (fun q h => hg q (tl_X1 q h)) hown (hg _ t_fl_X1_9) S (by decide) dX1_glance_15 ?_
    refine fg_X3_4 hx hb (fun q h => hg q (tl_X3 q h)) hown (hg _ t_fl_X1_77) S (kd_H _) dX1_glance_18 ?_
    obtain ⟨h8, hz⟩ := ck hz
    refine g_irem hx hb dX1_glance_21 h8 ?_
    refine lv_goto (tgt := 26) hx hb dX1_glance_22 (by decide) ?_
    exact w_X1_glance_26 F hr hlk (irm q6.1 (gI q6.2 (fxH (gR q6.2 4)) 4)) _ _ _ _ S (lv_sub hl [0] rfl) hz
noncomputable def f_X1_byLot_147 (k_97 : Nat → Int32 → Int32 → Int32 → GW → Option (Int32 × GW)) (k1 : Nat) (x2 : Int32) (x4 : Int32) (x5 : Int32) (w : GW) : Option (Int32 × GW) :=
  k_97 k1 x2 x4 (x5 + 1) w
noncomputable def f_X1_byLot_97  : Nat → Nat → Int32 → Int32 → Int32 → GW → Option (Int32 × GW)
  | 0, _, _, _, _, _ => none
  | n9 + 1, k1, x2, x4, x5, w =>
    if (gI w (fxP (gR w 5)) 0) ≤ x5 then
      some ((-1), w)
    else
      if 3 ≤ x5 then
        some ((-1), w)
      else
        if inb x5 3 then
        if inb (gI w 70 (ix x5)) 5 then
        if (gI w (k1 + 1) (ix (gI w 70 (ix x5)))) = x2 then
          if x4 = 0 then
            if inb x5 3 then
            some ((gI w 70 (ix x5)), w)
            else none
          else
            f_X1_byLot_147 (f_X1_byLot_97 n9) k1 x2 (x4 + (-1)) x5 w
        else
          f_X1_byLot_147 (f_X1_byLot_97 n9) k1 x2 x4 x5 w
        else none
        else none
noncomputable def f_X1_byLot_92  (k1 : Nat) (x2 : Int32) (t0 : Int32) (w : GW) : Option (Int32 × GW) :=
  f_X1_byLot_97 fu k1 x2 t0 0 w
noncomputable def f_X1_byLot_77  (k1 : Nat) (x2 : Int32) (x3 : Int32) (w : GW) : Option (Int32 × GW) :=
  if x3 ≤ 1 then
    f_X1_byLot_92 k1 x2 0 w
  else
    (f_X2_draw k1 w).bind fun q10 =>
    if ¬ x3 = 0 then
    f_X1_byLot_92 k1 x2 (irm q10.1 x3) q10.2
    else none
noncomputable def f_X1_byLot_63 (k_8 : Nat → Int32 → Int32 → Int32 → GW → Option (Int32 × GW)) (k1 : Nat) (x2 : Int32) (x4 : Int32) (x5 : Int32) (t0 : Int32) (w : GW) : Option (Int32 × GW) :=
  k_8 k1 (jmin x2 x5) t0 (x4 + 1) w
noncomputable def f_X1_byLot_8  : Nat → Nat → Int32 → Int32 → Int32 → GW → Option (Int32 × GW)
  | 0, _, _, _, _, _ => none
  | n9 + 1, k1, x2, x3, x4, w =>
    if (gI w (fxP (gR w 5)) 0) ≤ x4 then
      f_X1_byLot_77 k1 x2 x3 w
    else
      if 3 ≤ x4 then
        f_X1_byLot_77 k1 x2 x3 w
      else
        if inb x4 3 then
        if inb (gI w 70 (ix x4)) 5 then
        if x2 ≤ (gI w (k1 + 1) (ix (gI w 70 (ix x4)))) then
          if (gI w (k1 + 1) (ix (gI w 70 (ix x4)))) = x2 then
            f_X1_byLot_63 (f_X1_byLot_8 n9) k1 x2 x4 (gI w (k1 + 1) (ix (gI w 70 (ix x4)))) (x3 + 1) w
          else
            f_X1_byLot_63 (f_X1_byLot_8 n9) k1 x2 x4 (gI w (k1 + 1) (ix (gI w 70 (ix x4)))) x3 w
        else
          f_X1_byLot_63 (f_X1_byLot_8 n9) k1 x2 x4 (gI w (k1 + 1) (ix (gI w 70 (ix x4)))) 1 w
        else none
        else none
noncomputable def f_X1_byLot (k1 : Nat) (w : GW) : Option (Int32 × GW) :=
  f_X1_byLot_8 fu k1 9 0 0 w
set_option maxHeartbeats 4000000 in
set_option maxRecDepth 100000 in
theorem w_X1_byLot_147 {p : Program} {l : Launch} {e : Env} {s : State} {m : MethodId} {args : Array Value} {below : List Frame} {meth : Method} {c : Code} {G : GG} (F : CallFix p m c cX1_byLot 6 s args (wsU yX1_byLot cX1_byLot 6 (some .int)) RX1) (hr : meth.sig.returnType = (some .int)) (hlk : meth.locks = false) {z : Int32 × GW} {k_97 : Nat → Int32 → Int32 → Int32 → GW → Option (Int32 × GW)} (Hk_97 : (∀ (k1 : Nat) (x2 : Int32) (x4 : Int32) (x5 : Int32) (hk1 : kd k1 = 2) (w : GW) (H : Heap) (locs : List Loc) (ls : Array Slot), St G w s H locs → lv_has ls 6 [(0, .ref (gad G 67)), (1, .ref (gad G k1)), (2, .int x2), (4, .int x4), (5, .int x5)] → k_97 k1 x2 x4 x5 w = some z → W p l e (headSpec (wsU yX1_byLot cX1_byLot 6 (some .int)) rm_X1_byLot).room s m args below meth c H locs 0 0 (MQ below (QI G z) args s 0 0 (gA G)) (F0 m 97 ls []))) : (∀ (k1 : Nat) (x2 : Int32) (x4 : Int32) (x5 : Int32) (hk1 : kd k1 = 2) (w : GW) (H : Heap) (locs : List Loc) (ls : Array Slot), St G w s H locs → lv_has ls 6 [(0, .ref (gad G 67)), (1, .ref (gad G k1)), (2, .int x2), (4, .int x4), (5, .int x5)] → f_X1_byLot_147 k_97 k1 x2 x4 x5 w = some z → W p l e (headSpec (wsU yX1_byLot cX1_byLot 6 (some .int)) rm_X1_byLot).room s m args below meth c H locs 0 0 (MQ below (QI G z) args s 0 0 (gA G)) (F0 m 147 ls [])) := by
  obtain ⟨hx, hb, hml, hown, hts⟩ := id F
  have hg : ∀ q ∈ lwg, q.before args s = true := fun q h => hts q (List.mem_cons_of_mem _ h)
  intro k1 x2 x4 x5 hk1 w H locs ls S hl hz
  rw [f_X1_byLot_147] at hz
  refine lv_iinc (v := (x5 + 1)) (lv' := [(5, .int (x5 + 1)), (0, .ref (gad G 67)), (1, .ref (gad G k1)), (2, .int x2), (4, .int x4)]) hx hb dX1_byLot_147 hl (k := 4) rfl rfl (by decide) rfl (fun ls hl => ?_)
  refine lv_goto (tgt := 97) hx hb dX1_byLot_150 (by decide) ?_
  exact Hk_97 k1 x2 x4 (x5 + 1) hk1 _ _ _ _ S (lv_sub hl [1, 2, 3, 4, 0] rfl) hz
set_option maxHeartbeats 4000000 in
set_option maxRecDepth 100000 in
theorem w_X1_byLot_97 {p : Program} {l : Launch} {e : Env} {s : State} {m : MethodId} {args : Array Value} {below : List Frame} {meth : Method} {c : Code} {G : GG} (F : CallFix p m c cX1_byLot 6 s args (wsU yX1_byLot cX1_byLot 6 (some .int)) RX1) (hr : meth.sig.returnType = (some .int)) (hlk : meth.locks = false) {z : Int32 × GW} : ∀ (n9 : Nat), (∀ (k1 : Nat) (x2 : Int32) (x4 : Int32) (x5 : Int32) (hk1 : kd k1 = 2) (w : GW) (H : Heap) (locs : List Loc) (ls : Array Slot), St G w s H locs → lv_has ls 6 [(0, .ref (gad G 67)), (1, .ref (gad G k1)), (2, .int x2), (4, .int x4), (5, .int x5)] → f_X1_byLot_97 n9 k1 x2 x4 x5 w = some z → W p l e (headSpec (wsU yX1_byLot cX1_byLot 6 (some .int)) rm_X1_byLot).room s m args below meth c H locs 0 0 (MQ below (QI G z) args s 0 0 (gA G)) (F0 m 97 ls [])) := by
  obtain ⟨hx, hb, hml, hown, hts⟩ := id F
  have hg : ∀ q ∈ lwg, q.before args s = true := fun q h => hts q (List.mem_cons_of_mem _ h)
  intro n9
  induction n9 with
  | zero =>
    intro k1 x2 x4 x5 hk1 w H locs ls S hl hz
    rw [f_X1_byLot_97] at hz
    cases hz
  | succ n9 ih =>
    intro k1 x2 x4 x5 hk1 w H locs ls S hl hz
    rw [f_X1_byLot_97] at hz
    refine lv_iload hx hb dX1_byLot_97 (lv_at hl 4 rfl) ?_
    refine lv_aload_n hx hb dX1_byLot_99 rfl (lv_at hl 0 rfl) ?_
    refine fg_X1_4 hx hb (fun q h => hg q (tl_X1 q h)) hown (hg _ t_fl_X1_18) S (by decide) dX1_byLot_100 ?_
    refine fg_X4_0 hx hb (fun q h => hg q (tl_X4 q h)) hown (hg _ t_fl_X1_39) S (kd_P _) dX1_byLot_103 ?_
    refine lv_icmp_ge (tgt := 153) hx hb dX1_byLot_106 (by decide) (fun c3 => ?_) (fun c3 => ?_)
    · have hz := ipt (c3) hz
      refine lv_iconst (v := (-1)) hx hb dX1_byLot_153 (by decide) ?_
      exact g_reti hx hb hr hlk S hz dX1_byLot_154
    · have hz := ipf (c3) hz
      refine lv_iload hx hb dX1_byLot_109 (lv_at hl 4 rfl) ?_
      refine lv_iconst (v := 3) hx hb dX1_byLot_111 (by decide) ?_
      refine lv_icmp_ge (tgt := 153) hx hb dX1_byLot_112 (by decide) (fun c4 => ?_) (fun c4 => ?_)
      · have hz := ipt (c4) hz
        refine lv_iconst (v := (-1)) hx hb dX1_byLot_153 (by decide) ?_
        exact g_reti hx hb hr hlk S hz dX1_byLot_154
      · have hz := ipf (c4) hz
        refine lv_aload_n hx hb dX1_byLot_115 rfl (lv_at hl 1 rfl) ?_
        refine fg_X2_5 hx hb (fun q h => hg q (tl_X2 q h)) hown (hg _ t_fl_X1_111) S hk1 dX1_byLot_116 ?_
        refine lv_aload_n hx hb dX1_byLot_119 rfl (lv_at hl 0 rfl) ?_
        refine fg_X1_1 hx hb (fun q h => hg q (tl_X1 q h)) hown (hg _ t_fl_X1_26) S (by decide) dX1_byLot_120 ?_
        refine lv_iload hx hb dX1_byLot_123 (lv_at hl 4 rfl) ?_
        obtain ⟨h5, hz⟩ := ck hz
        refine g_iald hx hb S (isA_12 (by decide)) h5 dX1_byLot_125 ?_
        obtain ⟨h6, hz⟩ := ck hz
        refine g_iald hx hb S (isA_10 (kd_2_1 hk1)) h6 dX1_byLot_126 ?_
        refine lv_iload_n hx hb dX1_byLot_127 rfl (lv_at hl 2 rfl) ?_
        refine lv_icmp_ne (tgt := 147) hx hb dX1_byLot_128 (by decide) (fun c7 => ?_) (fun c7 => ?_)
        · have hz := ipf (c7) hz
          exact w_X1_byLot_147 F hr hlk ih k1 x2 x4 x5 hk1 _ _ _ _ S (lv_sub hl [0, 1, 2, 3, 4] rfl) hz
        · have hz := ipt (c7) hz
          refine lv_iload hx hb dX1_byLot_131 (lv_at hl 3 rfl) ?_
          refine lv_if_ne (tgt := 144) hx hb dX1_byLot_133 (by decide) (fun c8 => ?_) (fun c8 => ?_)
          · have hz := ipf (c8) hz
            refine lv_iinc (v := (x4 + (-1))) (lv' := [(4, .int (x4 + (-1))), (0, .ref (gad G 67)), (1, .ref (gad G k1)), (2, .int x2), (5, .int x5)]) hx hb dX1_byLot_144 hl (k := 3) rfl (by rw [show Int32.ofInt (-1) = (-1) from by decide]) (by decide) rfl (fun ls hl => ?_)
            exact w_X1_byLot_147 F hr hlk ih k1 x2 (x4 + (-1)) x5 hk1 _ _ _ _ S (lv_sub hl [1, 2, 3, 0, 4] rfl) hz
          · have hz := ipt (c8) hz
            refine lv_aload_n hx hb dX1_byLot_136 rfl (lv_at hl 0 rfl) ?_
            refine fg_X1_1 hx hb (fun q h => hg q (tl_X1 q h)) hown (hg _ t_fl_X1_26) S (by decide) dX1_byLot_137 ?_
            refine lv_iload hx hb dX1_byLot_140 (lv_at hl 4 rfl) ?_
            obtain ⟨h9, hz⟩ := ck hz
            refine g_iald hx hb S (isA_12 (by decide)) h9 dX1_byLot_142 ?_
            exact g_reti hx hb hr hlk S hz dX1_byLot_143
set_option maxHeartbeats 4000000 in
set_option maxRecDepth 100000 in
theorem w_X1_byLot_92 {p : Program} {l : Launch} {e : Env} {s : State} {m : MethodId} {args : Array Value} {below : List Frame} {meth : Method} {c : Code} {G : GG} (F : CallFix p m c cX1_byLot 6 s args (wsU yX1_byLot cX1_byLot 6 (some .int)) RX1) (hr : meth.sig.returnType = (some .int)) (hlk : meth.locks = false) {z : Int32 × GW} : (∀ (k1 : Nat) (x2 : Int32) (t0 : Int32) (hk1 : kd k1 = 2) (w : GW) (H : Heap) (locs : List Loc) (ls : Array Slot), St G w s H locs → lv_has ls 6 [(0, .ref (gad G 67)), (1, .ref (gad G k1)), (2, .int x2)] → f_X1_byLot_92 k1 x2 t0 w = some z → W p l e (headSpec (wsU yX1_byLot cX1_byLot 6 (some .int)) rm_X1_byLot).room s m args below meth c H locs 0 0 (MQ below (QI G z) args s 0 0 (gA G)) (F0 m 92 ls [.int t0])) := by
  obtain ⟨hx, hb, hml, hown, hts⟩ := id F
  have hg : ∀ q ∈ lwg, q.before args s = true := fun q h => hts q (List.mem_cons_of_mem _ h)
  intro k1 x2 t0 hk1 w H locs ls S hl hz
  rw [f_X1_byLot_92] at hz
  refine lv_istore (lv' := [(4, .int t0), (0, .ref (gad G 67)), (1, .ref (gad G k1)), (2, .int x2)]) hx hb dX1_byLot_92 hl (by decide) rfl (fun ls hl => ?_)
  refine lv_iconst (v := 0) hx hb dX1_byLot_94 (by decide) ?_
  refine lv_istore (lv' := [(5, .int 0), (4, .int t0), (0, .ref (gad G 67)), (1, .ref (gad G k1)), (2, .int x2)]) hx hb dX1_byLot_95 hl (by decide) rfl (fun ls hl => ?_)
  exact w_X1_byLot_97 F hr hlk fu k1 x2 t0 0 hk1 _ _ _ _ S (lv_sub hl [2, 3, 4, 1, 0] rfl) hz
set_option maxHeartbeats 4000000 in
set_option maxRecDepth 100000 in
theorem w_X1_byLot_77 {p : Program} {l : Launch} {e : Env} {s : State} {m : MethodId} {args : Array Value} {below : List Frame} {meth : Method} {c : Code} {G : GG} (F : CallFix p m c cX1_byLot 6 s args (wsU yX1_byLot cX1_byLot 6 (some .int)) RX1) (hr : meth.sig.returnType = (some .int)) (hlk : meth.locks = false) {z : Int32 × GW} : (∀ (k1 : Nat) (x2 : Int32) (x3 : Int32) (hk1 : kd k1 = 2) (w : GW) (H : Heap) (locs : List Loc) (ls : Array Slot), St G w s H locs → lv_has ls 6 [(0, .ref (gad G 67)), (1, .ref (gad G k1)), (2, .int x2), (3, .int x3)] → f_X1_byLot_77 k1 x2 x3 w = some z → W p l e (headSpec (wsU yX1_byLot cX1_byLot 6 (some .int)) rm_X1_byLot).room s m args below meth c H locs 0 0 (MQ below (QI G z) args s 0 0 (gA G)) (F0 m 77 ls [])) := by
  obtain ⟨hx, hb, hml, hown, hts⟩ := id F
  have hg : ∀ q ∈ lwg, q.before args s = true := fun q h => hts q (List.mem_cons_of_mem _ h)
  intro k1 x2 x3 hk1 w H locs ls S hl hz
  rw [f_X1_byLot_77] at hz
  refine lv_iload_n hx hb dX1_byLot_77 rfl (lv_at hl 3 rfl) ?_
  refine lv_iconst (v := 1) hx hb dX1_byLot_78 (by decide) ?_
  refine lv_icmp_le (tgt := 91) hx hb dX1_byLot_79 (by decide) (fun c2 => ?_) (fun c2 => ?_)
  · have hz := ipt (c2) hz
    refine lv_iconst (v := 0) hx hb dX1_byLot_91 (by decide) ?_
    exact w_X1_byLot_92 F hr hlk k1 x2 0 hk1 _ _ _ _ S (lv_sub hl [0, 1, 2] rfl) hz
  · have hz := ipf (c2) hz
    refine lv_aload_n hx hb dX1_byLot_82 rfl (lv_at hl 1 rfl) ?_
    obtain ⟨q10, e11, hz⟩ := bd hz
    refine g_callVi (As := []) (rest := []) F S (c_X2_draw l G k1 hk1 _ e11) (cw_X1_byLot_X2_draw_118 hg) (S.obj hk1 (by decide) rfl (oc_X2 _ _ _ hk1)) rfl hl.1 rfl (Nat.le_of_ble_eq_true rfl) ⟨Nat.zero_le _, Nat.zero_le _⟩ dX1_byLot_83 (fun H locs  S => ?_)
    refine lv_iload_n hx hb dX1_byLot_86 rfl (lv_at hl 3 rfl) ?_
    obtain ⟨h12, hz⟩ := ck hz
    refine g_irem hx hb dX1_byLot_87 h12 ?_
    refine lv_goto (tgt := 92) hx hb dX1_byLot_88 (by decide) ?_
    exact w_X1_byLot_92 F hr hlk k1 x2 (irm q10.1 x3) hk1 _ _ _ _ S (lv_sub hl [0, 1, 2] rfl) hz
set_option maxHeartbeats 4000000 in
set_option maxRecDepth 100000 in
theorem w_X1_byLot_63 {p : Program} {l : Launch} {e : Env} {s : State} {m : MethodId} {args : Array Value} {below : List Frame} {meth : Method} {c : Code} {G : GG} (F : CallFix p m c cX1_byLot 6 s args (wsU yX1_byLot cX1_byLot 6 (some .int)) RX1) (hr : meth.sig.returnType = (some .int)) (hlk : meth.locks = false) {z : Int32 × GW} {k_8 : Nat → Int32 → Int32 → Int32 → GW → Option (Int32 × GW)} (Hk_8 : (∀ (k1 : Nat) (x2 : Int32) (x3 : Int32) (x4 : Int32) (hk1 : kd k1 = 2) (w : GW) (H : Heap) (locs : List Loc) (ls : Array Slot), St G w s H locs → lv_has ls 6 [(0, .ref (gad G 67)), (1, .ref (gad G k1)), (2, .int x2), (3, .int x3), (4, .int x4)] → k_8 k1 x2 x3 x4 w = some z → W p l e (headSpec (wsU yX1_byLot cX1_byLot 6 (some .int)) rm_X1_byLot).room s m args below meth c H locs 0 0 (MQ below (QI G z) args s 0 0 (gA G)) (F0 m 8 ls []))) : (∀ (k1 : Nat) (x2 : Int32) (x4 : Int32) (x5 : Int32) (t0 : Int32) (hk1 : kd k1 = 2) (w : GW) (H : Heap) (locs : List Loc) (ls : Array Slot), St G w s H locs → lv_has ls 6 [(0, .ref (gad G 67)), (1, .ref (gad G k1)), (2, .int x2), (4, .int x4), (5, .int x5)] → f_X1_byLot_63 k_8 k1 x2 x4 x5 t0 w = some z → W p l e (headSpec (wsU yX1_byLot cX1_byLot 6 (some .int)) rm_X1_byLot).room s m args below meth c H locs 0 0 (MQ below (QI G z) args s 0 0 (gA G)) (F0 m 63 ls [.int t0])) := by
  obtain ⟨hx, hb, hml, hown, hts⟩ := id F
  have hg : ∀ q ∈ lwg, q.before args s = true := fun q h => hts q (List.mem_cons_of_mem _ h)
  intro k1 x2 x4 x5 t0 hk1 w H locs ls S hl hz
  rw [f_X1_byLot_63] at hz
  refine lv_istore_n (lv' := [(3, .int t0), (0, .ref (gad G 67)), (1, .ref (gad G k1)), (2, .int x2), (4, .int x4), (5, .int x5)]) hx hb dX1_byLot_63 rfl hl (by decide) rfl (fun ls hl => ?_)
  refine lv_iload_n hx hb dX1_byLot_64 rfl (lv_at hl 3 rfl) ?_
  refine lv_iload hx hb dX1_byLot_65 (lv_at hl 5 rfl) ?_
  refine va_mmin hx hb (hml.trans hl.1.symm) hown (hg _ t_ml_X1_122) (hg _ t_st_J9_min_7cf53) (hg _ t_in_J9) (hg _ t_co_J9_min_7cf53) (Nat.le_of_ble_eq_true rfl) (Nat.le_of_ble_eq_true rfl) (Nat.zero_le _) (Nat.zero_le _) dX1_byLot_67 ?_
  refine g_toi (v := (jmin x2 x5)) rfl ?_
  refine lv_istore_n (lv' := [(2, .int (jmin x2 x5)), (3, .int t0), (0, .ref (gad G 67)), (1, .ref (gad G k1)), (4, .int x4), (5, .int x5)]) hx hb dX1_byLot_70 rfl hl (by decide) rfl (fun ls hl => ?_)
  refine lv_iinc (v := (x4 + 1)) (lv' := [(4, .int (x4 + 1)), (2, .int (jmin x2 x5)), (3, .int t0), (0, .ref (gad G 67)), (1, .ref (gad G k1)), (5, .int x5)]) hx hb dX1_byLot_71 hl (k := 4) rfl rfl (by decide) rfl (fun ls hl => ?_)
  refine lv_goto (tgt := 8) hx hb dX1_byLot_74 (by decide) ?_
  exact Hk_8 k1 (jmin x2 x5) t0 (x4 + 1) hk1 _ _ _ _ S (lv_sub hl [3, 4, 1, 2, 0] rfl) hz
set_option maxHeartbeats 4000000 in
set_option maxRecDepth 100000 in
theorem w_X1_byLot_8 {p : Program} {l : Launch} {e : Env} {s : State} {m : MethodId} {args : Array Value} {below : List Frame} {meth : Method} {c : Code} {G : GG} (F : CallFix p m c cX1_byLot 6 s args (wsU yX1_byLot cX1_byLot 6 (some .int)) RX1) (hr : meth.sig.returnType = (some .int)) (hlk : meth.locks = false) {z : Int32 × GW} : ∀ (n9 : Nat), (∀ (k1 : Nat) (x2 : Int32) (x3 : Int32) (x4 : Int32) (hk1 : kd k1 = 2) (w : GW) (H : Heap) (locs : List Loc) (ls : Array Slot), St G w s H locs → lv_has ls 6 [(0, .ref (gad G 67)), (1, .ref (gad G k1)), (2, .int x2), (3, .int x3), (4, .int x4)] → f_X1_byLot_8 n9 k1 x2 x3 x4 w = some z → W p l e (headSpec (wsU yX1_byLot cX1_byLot 6 (some .int)) rm_X1_byLot).room s m args below meth c H locs 0 0 (MQ below (QI G z) args s 0 0 (gA G)) (F0 m 8 ls [])) := by
  obtain ⟨hx, hb, hml, hown, hts⟩ := id F
  have hg : ∀ q ∈ lwg, q.before args s = true := fun q h => hts q (List.mem_cons_of_mem _ h)
  intro n9
  induction n9 with
  | zero =>
    intro k1 x2 x3 x4 hk1 w H locs ls S hl hz
    rw [f_X1_byLot_8] at hz
    cases hz
  | succ n9 ih =>
    intro k1 x2 x3 x4 hk1 w H locs ls S hl hz
    rw [f_X1_byLot_8] at hz
    refine lv_iload hx hb dX1_byLot_8 (lv_at hl 4 rfl) ?_
    refine lv_aload_n hx hb dX1_byLot_10 rfl (lv_at hl 0 rfl) ?_
    refine fg_X1_4 hx hb (fun q h => hg q (tl_X1 q h)) hown (hg _ t_fl_X1_18) S (by decide) dX1_byLot_11 ?_
    refine fg_X4_0 hx hb (fun q h => hg q (tl_X4 q h)) hown (hg _ t_fl_X1_39) S (kd_P _) dX1_byLot_14 ?_
    refine lv_icmp_ge (tgt := 77) hx hb dX1_byLot_17 (by decide) (fun c1 => ?_) (fun c1 => ?_)
    · have hz := ipt (c1) hz
      exact w_X1_byLot_77 F hr hlk k1 x2 x3 hk1 _ _ _ _ S (lv_sub hl [0, 1, 2, 3] rfl) hz
    · have hz := ipf (c1) hz
      refine lv_iload hx hb dX1_byLot_20 (lv_at hl 4 rfl) ?_
      refine lv_iconst (v := 3) hx hb dX1_byLot_22 (by decide) ?_
      refine lv_icmp_ge (tgt := 77) hx hb dX1_byLot_23 (by decide) (fun c13 => ?_) (fun c13 => ?_)
      · have hz := ipt (c13) hz
        exact w_X1_byLot_77 F hr hlk k1 x2 x3 hk1 _ _ _ _ S (lv_sub hl [0, 1, 2, 3] rfl) hz
      · have hz := ipf (c13) hz
        refine lv_aload_n hx hb dX1_byLot_26 rfl (lv_at hl 1 rfl) ?_
        refine fg_X2_5 hx hb (fun q h => hg q (tl_X2 q h)) hown (hg _ t_fl_X1_111) S hk1 dX1_byLot_27 ?_
        refine lv_aload_n hx hb dX1_byLot_30 rfl (lv_at hl 0 rfl) ?_
        refine fg_X1_1 hx hb (fun q h => hg q (tl_X1 q h)) hown (hg _ t_fl_X1_26) S (by decide) dX1_byLot_31 ?_
        refine lv_iload hx hb dX1_byLot_34 (lv_at hl 4 rfl) ?_
        obtain ⟨h14, hz⟩ := ck hz
        refine g_iald hx hb S (isA_12 (by decide)) h14 dX1_byLot_36 ?_
        obtain ⟨h15, hz⟩ := ck hz
        refine g_iald hx hb S (isA_10 (kd_2_1 hk1)) h15 dX1_byLot_37 ?_
        refine lv_istore (lv' := [(5, .int (gI w (k1 + 1) (ix (gI w 70 (ix x4))))), (0, .ref (gad G 67)), (1, .ref (gad G k1)), (2, .int x2), (3, .int x3), (4, .int x4)]) hx hb dX1_byLot_38 hl (by decide) rfl (fun ls hl => ?_)
        refine lv_iload hx hb dX1_byLot_40 (lv_at hl 0 rfl) ?_
        refine lv_iload_n hx hb dX1_byLot_42 rfl (lv_at hl 3 rfl) ?_
        refine lv_icmp_ge (tgt := 50) hx hb dX1_byLot_43 (by decide) (fun c16 => ?_) (fun c16 => ?_)
        · have hz := ipt (c16) hz
          refine lv_iload hx hb dX1_byLot_50 (lv_at hl 0 rfl) ?_
          refine lv_iload_n hx hb dX1_byLot_52 rfl (lv_at hl 3 rfl) ?_
          refine lv_icmp_ne (tgt := 62) hx hb dX1_byLot_53 (by decide) (fun c17 => ?_) (fun c17 => ?_)
          · have hz := ipf (c17) hz
            refine lv_iload_n hx hb dX1_byLot_62 rfl (lv_at hl 4 rfl) ?_
            exact w_X1_byLot_63 F hr hlk ih k1 x2 x4 (gI w (k1 + 1) (ix (gI w 70 (ix x4)))) x3 hk1 _ _ _ _ S (lv_sub hl [1, 2, 3, 5, 0] rfl) hz
          · have hz := ipt (c17) hz
            refine lv_iload_n hx hb dX1_byLot_56 rfl (lv_at hl 4 rfl) ?_
            refine lv_iconst (v := 1) hx hb dX1_byLot_57 (by decide) ?_
            refine lv_iadd hx hb dX1_byLot_58 ?_
            refine lv_goto (tgt := 63) hx hb dX1_byLot_59 (by decide) ?_
            exact w_X1_byLot_63 F hr hlk ih k1 x2 x4 (gI w (k1 + 1) (ix (gI w 70 (ix x4)))) (x3 + 1) hk1 _ _ _ _ S (lv_sub hl [1, 2, 3, 5, 0] rfl) hz
        · have hz := ipf (c16) hz
          refine lv_iconst (v := 1) hx hb dX1_byLot_46 (by decide) ?_
          refine lv_goto (tgt := 63) hx hb dX1_byLot_47 (by decide) ?_
          exact w_X1_byLot_63 F hr hlk ih k1 x2 x4 (gI w (k1 + 1) (ix (gI w 70 (ix x4)))) 1 hk1 _ _ _ _ S (lv_sub hl [1, 2, 3, 5, 0] rfl) hz
set_option maxHeartbeats 4000000 in
set_option maxRecDepth 100000 in
theorem c_X1_byLot (l : Launch) (G : GG) (k1 : Nat) (hk1 : kd k1 = 2) (w : GW) {z : Int32 × GW} (hz : f_X1_byLot k1 w = some z) : Met l yX1_byLot (wsU yX1_byLot cX1_byLot 6 (some .int)) rm_X1_byLot (va_Pc [.ref (gad G 67), .ref (gad G k1)] (PreG G w)) (QI G z) 0 0 (gA G) := by
  refine Met.ofW (cc := cX1_byLot) (maxL := 6) (ret := (some .int)) (by decide) rfl ?_
  intro p e s m args below meth c s₁ B hml hv
  obtain ⟨rfl, S⟩ := hv
  have F : CallFix p m c cX1_byLot 6 s _ (wsU yX1_byLot cX1_byLot 6 (some .int)) RX1 := ⟨B.exec, B.bytes, hml, findClass_of_methodNamed B.named, atoms_spec B.pre⟩
  have hr := B.returns
  have hlk := B.notSynchronized
  obtain ⟨hx, hb, -, hown, hts⟩ := id F
  have hg : ∀ q ∈ lwg, q.before _ s = true := fun q h => hts q (List.mem_cons_of_mem _ h)
  refine g_entry (Nat.le_of_ble_eq_true rfl) (fun ls hl => ?_)
  have hl : lv_has ls 6 [(0, .ref (gad G 67)), (1, .ref (gad G k1))] := hl
  have S : St G w s s.heap [] := S
  generalize s.heap = H at S ⊢
  generalize ([] : List Loc) = locs at S ⊢
  rw [f_X1_byLot] at hz
  refine lv_bipush (v := 9) hx hb dX1_byLot_0 (by decide) ?_
  refine lv_istore_n (lv' := [(2, .int 9), (0, .ref (gad G 67)), (1, .ref (gad G k1))]) hx hb dX1_byLot_2 rfl hl (by decide) rfl (fun ls hl => ?_)
  refine lv_iconst (v := 0) hx hb dX1_byLot_3 (by decide) ?_
  refine lv_istore_n (lv' := [(3, .int 0), (2, .int 9), (0, .ref (gad G 67)), (1, .ref (gad G k1))]) hx hb dX1_byLot_4 rfl hl (by decide) rfl (fun ls hl => ?_)
  refine lv_iconst (v := 0) hx hb dX1_byLot_5 (by decide) ?_
  refine lv_istore (lv' := [(4, .int 0), (3, .int 0), (2, .int 9), (0, .ref (gad G 67)), (1, .ref (gad G k1))]) hx hb dX1_byLot_6 hl (by decide) rfl (fun ls hl => ?_)
  exact w_X1_byLot_8 F hr hlk fu k1 9 0 0 hk1 _ _ _ _ S (lv_sub hl [3, 4, 2, 1, 0] rfl) hz
noncomputable def f_X1_firstNotFuller_4  : Nat → Nat → Int32 → Int32 → GW → Option (Int32 × GW)
  | 0, _, _, _, _ => none
  | n9 + 1, k1, x2, x3, w =>
    if (gI w (fxP (gR w 5)) 0) ≤ x3 then
      some (x2, w)
    else
      if 3 ≤ x3 then
        some (x2, w)
      else
        if inb x3 3 then
        if inb (gI w 70 (ix x3)) 5 then
        if (gI w (fxP (gR w 5)) 2) < (gI w k1 (ix (gI w 70 (ix x3)))) then
          f_X1_firstNotFuller_4 n9 k1 (gI w 70 (ix x3)) (x3 + 1) w
        else
          some ((gI w 70 (ix x3)), w)
        else none
        else none
noncomputable def f_X1_firstNotFuller (k1 : Nat) (w : GW) : Option (Int32 × GW) :=
  f_X1_firstNotFuller_4 fu k1 (-1) 0 w
set_option maxHeartbeats 4000000 in
set_option maxRecDepth 100000 in
theorem w_X1_firstNotFuller_4 {p : Program} {l : Launch} {e : Env} {s : State} {m : MethodId} {args : Array Value} {below : List Frame} {meth : Method} {c : Code} {G : GG} (F : CallFix p m c cX1_firstNotFuller 4 s args (wsU yX1_firstNotFuller cX1_firstNotFuller 4 (some .int)) RX1) (hr : meth.sig.returnType = (some .int)) (hlk : meth.locks = false) {z : Int32 × GW} : ∀ (n9 : Nat), (∀ (k1 : Nat) (x2 : Int32) (x3 : Int32) (hk1 : kd k1 = 10) (w : GW) (H : Heap) (locs : List Loc) (ls : Array Slot), St G w s H locs → lv_has ls 4 [(0, .ref (gad G 67)), (1, .ref (gad G k1)), (2, .int x2), (3, .int x3)] → f_X1_firstNotFuller_4 n9 k1 x2 x3 w = some z → W p l e (headSpec (wsU yX1_firstNotFuller cX1_firstNotFuller 4 (some .int)) rm_X1_firstNotFuller).room s m args below meth c H locs 0 0 (MQ below (QI G z) args s 0 0 (gA G)) (F0 m 4 ls [])) := by
  obtain ⟨hx, hb, hml, hown, hts⟩ := id F
  have hg : ∀ q ∈ lwg, q.before args s = true := fun q h => hts q (List.mem_cons_of_mem _ h)
  intro n9
  induction n9 with
  | zero =>
    intro k1 x2 x3 hk1 w H locs ls S hl hz
    rw [f_X1_firstNotFuller_4] at hz
    cases hz
  | succ n9 ih =>
    intro k1 x2 x3 hk1 w H locs ls S hl hz
    rw [f_X1_firstNotFuller_4] at hz
    refine lv_iload_n hx hb dX1_firstNotFuller_4 rfl (lv_at hl 3 rfl) ?_
    refine lv_aload_n hx hb dX1_firstNotFuller_5 rfl (lv_at hl 0 rfl) ?_
    refine fg_X1_4 hx hb (fun q h => hg q (tl_X1 q h)) hown (hg _ t_fl_X1_18) S (by decide) dX1_firstNotFuller_6 ?_
    refine fg_X4_0 hx hb (fun q h => hg q (tl_X4 q h)) hown (hg _ t_fl_X1_39) S (kd_P _) dX1_firstNotFuller_9 ?_
    refine lv_icmp_ge (tgt := 48) hx hb dX1_firstNotFuller_12 (by decide) (fun c1 => ?_) (fun c1 => ?_)
    · have hz := ipt (c1) hz
      refine lv_iload_n hx hb dX1_firstNotFuller_48 rfl (lv_at hl 2 rfl) ?_
      exact g_reti hx hb hr hlk S hz dX1_firstNotFuller_49
    · have hz := ipf (c1) hz
      refine lv_iload_n hx hb dX1_firstNotFuller_15 rfl (lv_at hl 3 rfl) ?_
      refine lv_iconst (v := 3) hx hb dX1_firstNotFuller_16 (by decide) ?_
      refine lv_icmp_ge (tgt := 48) hx hb dX1_firstNotFuller_17 (by decide) (fun c2 => ?_) (fun c2 => ?_)
      · have hz := ipt (c2) hz
        refine lv_iload_n hx hb dX1_firstNotFuller_48 rfl (lv_at hl 2 rfl) ?_
        exact g_reti hx hb hr hlk S hz dX1_firstNotFuller_49
      · have hz := ipf (c2) hz
        refine lv_aload_n hx hb dX1_firstNotFuller_20 rfl (lv_at hl 0 rfl) ?_
        refine fg_X1_1 hx hb (fun q h => hg q (tl_X1 q h)) hown (hg _ t_fl_X1_26) S (by decide) dX1_firstNotFuller_21 ?_
        refine lv_iload_n hx hb dX1_firstNotFuller_24 rfl (lv_at hl 3 rfl) ?_
        obtain ⟨h3, hz⟩ := ck hz
        refine g_iald hx hb S (isA_12 (by decide)) h3 dX1_firstNotFuller_25 ?_
        refine lv_istore_n (lv' := [(2, .int (gI w 70 (ix x3))), (0, .ref (gad G 67)), (1, .ref (gad G k1)), (3, .int x3)]) hx hb dX1_firstNotFuller_26 rfl hl (by decide) rfl (fun ls hl => ?_)
        refine lv_aload_n hx hb dX1_firstNotFuller_27 rfl (lv_at hl 2 rfl) ?_
        refine lv_iload_n hx hb dX1_firstNotFuller_28 rfl (lv_at hl 0 rfl) ?_
        obtain ⟨h4, hz⟩ := ck hz
        refine g_iald hx hb S (isA_10 hk1) h4 dX1_firstNotFuller_29 ?_
        refine lv_aload_n hx hb dX1_firstNotFuller_30 rfl (lv_at hl 1 rfl) ?_
        refine fg_X1_4 hx hb (fun q h => hg q (tl_X1 q h)) hown (hg _ t_fl_X1_18) S (by decide) dX1_firstNotFuller_31 ?_
        refine fg_X4_2 hx hb (fun q h => hg q (tl_X4 q h)) hown (hg _ t_fl_X1_74) S (kd_P _) dX1_firstNotFuller_34 ?_
        refine lv_icmp_gt (tgt := 42) hx hb dX1_firstNotFuller_37 (by decide) (fun c5 => ?_) (fun c5 => ?_)
        · have hz := ipt (c5) hz
          refine lv_iinc (v := (x3 + 1)) (lv' := [(3, .int (x3 + 1)), (2, .int (gI w 70 (ix x3))), (0, .ref (gad G 67)), (1, .ref (gad G k1))]) hx hb dX1_firstNotFuller_42 hl (k := 3) rfl rfl (by decide) rfl (fun ls hl => ?_)
          refine lv_goto (tgt := 4) hx hb dX1_firstNotFuller_45 (by decide) ?_
          exact ih k1 (gI w 70 (ix x3)) (x3 + 1) hk1 _ _ _ _ S (lv_sub hl [2, 3, 1, 0] rfl) hz
        · have hz := ipf (c5) hz
          refine lv_iload_n hx hb dX1_firstNotFuller_40 rfl (lv_at hl 0 rfl) ?_
          exact g_reti hx hb hr hlk S hz dX1_firstNotFuller_41
set_option maxHeartbeats 4000000 in
set_option maxRecDepth 100000 in
theorem c_X1_firstNotFuller (l : Launch) (G : GG) (k1 : Nat) (hk1 : kd k1 = 10) (w : GW) {z : Int32 × GW} (hz : f_X1_firstNotFuller k1 w = some z) : Met l yX1_firstNotFuller (wsU yX1_firstNotFuller cX1_firstNotFuller 4 (some .int)) rm_X1_firstNotFuller (va_Pc [.ref (gad G 67), .ref (gad G k1)] (PreG G w)) (QI G z) 0 0 (gA G) := by
  refine Met.ofW (cc := cX1_firstNotFuller) (maxL := 4) (ret := (some .int)) (by decide) rfl ?_
  intro p e s m args below meth c s₁ B hml hv
  obtain ⟨rfl, S⟩ := hv
  have F : CallFix p m c cX1_firstNotFuller 4 s _ (wsU yX1_firstNotFuller cX1_firstNotFuller 4 (some .int)) RX1 := ⟨B.exec, B.bytes, hml, findClass_of_methodNamed B.named, atoms_spec B.pre⟩
  have hr := B.returns
  have hlk := B.notSynchronized
  obtain ⟨hx, hb, -, hown, hts⟩ := id F
  have hg : ∀ q ∈ lwg, q.before _ s = true := fun q h => hts q (List.mem_cons_of_mem _ h)
  refine g_entry (Nat.le_of_ble_eq_true rfl) (fun ls hl => ?_)
  have hl : lv_has ls 4 [(0, .ref (gad G 67)), (1, .ref (gad G k1))] := hl
  have S : St G w s s.heap [] := S
  generalize s.heap = H at S ⊢
  generalize ([] : List Loc) = locs at S ⊢
  rw [f_X1_firstNotFuller] at hz
  refine lv_iconst (v := (-1)) hx hb dX1_firstNotFuller_0 (by decide) ?_
  refine lv_istore_n (lv' := [(2, .int (-1)), (0, .ref (gad G 67)), (1, .ref (gad G k1))]) hx hb dX1_firstNotFuller_1 rfl hl (by decide) rfl (fun ls hl => ?_)
  refine lv_iconst (v := 0) hx hb dX1_firstNotFuller_2 (by decide) ?_
  refine lv_istore_n (lv' := [(3, .int 0), (2, .int (-1)), (0, .ref (gad G 67)), (1, .ref (gad G k1))]) hx hb dX1_firstNotFuller_3 rfl hl (by decide) rfl (fun ls hl => ?_)
  exact w_X1_firstNotFuller_4 F hr hlk fu k1 (-1) 0 hk1 _ _ _ _ S (lv_sub hl [2, 3, 1, 0] rfl) hz
noncomputable def f_X1_putByDraws_193  (k1 : Nat) (x4 : Int32) (t0 : Int32) (w : GW) : Option (Unit × GW) :=
  (f_X2_land k1 (fxH (gR w 4)) x4 t0 w).bind fun q15 =>
  some ((), q15.2)
noncomputable def f_X1_putByDraws_150  (k1 : Nat) (x3 : Int32) (x4 : Int32) (w : GW) : Option (Unit × GW) :=
  (f_X3_roomFrom (fxH (gR w 4)) (k1 + 1) x4 w).bind fun q12 =>
  if (gI q12.2 (fxP (gR q12.2 5)) 1) = 4 then
    (f_X1_emptiest (k1 + 1) x3 q12.1 q12.2).bind fun q17 =>
    f_X1_putByDraws_193 k1 x4 (q17.1 + 1) q17.2
  else
    f_X1_putByDraws_193 k1 x4 0 q12.2
noncomputable def f_X1_putByDraws_84  (k1 : Nat) (x2 : Int32) (w : GW) : Option (Unit × GW) :=
  (f_X1_lookedAt x2 (gI w k1 4) w).bind fun q6 =>
  if (gI q6.2 (fxP (gR q6.2 5)) 1) = 0 then
    (f_X1_byLot k1 q6.2).bind fun q21 =>
    f_X1_putByDraws_150 k1 q6.1 q21.1 q21.2
  else
    if (gI q6.2 (fxP (gR q6.2 5)) 1) = 2 then
      (f_X1_firstNotFuller (k1 + 1) q6.2).bind fun q19 =>
      f_X1_putByDraws_150 k1 q6.1 q19.1 q19.2
    else
      (f_X1_emptiest (k1 + 1) q6.1 (-1) q6.2).bind fun q10 =>
      f_X1_putByDraws_150 k1 q6.1 q10.1 q10.2
noncomputable def f_X1_putByDraws_40  : Nat → Nat → Int32 → Int32 → GW → Option (Unit × GW)
  | 0, _, _, _, _ => none
  | n9 + 1, k1, x2, x3, w =>
    if (gI w (fxP (gR w 5)) 0) ≤ x3 then
      f_X1_putByDraws_84 k1 x2 w
    else
      if 3 ≤ x3 then
        f_X1_putByDraws_84 k1 x2 w
      else
        (f_X1_glance k1 w).bind fun q24 =>
        if inb x3 3 then
        if inb x3 3 then
        f_X1_putByDraws_40 n9 k1 (x2 ||| ((1 : Int32) <<< ((gI (sI q24.2 70 (ix x3) q24.1) 70 (ix x3)) &&& 31))) (x3 + 1) (sI q24.2 70 (ix x3) q24.1)
        else none
        else none
noncomputable def f_X1_putByDraws (k1 : Nat) (w : GW) : Option (Unit × GW) :=
  (f_X3_isDoors (fxH (gR w 4)) ((gI w k1 2) + 1) w).bind fun q1 =>
  if q1.1 = 0 then
    f_X1_putByDraws_40 fu k1 0 0 q1.2
  else
    (f_X2_land k1 (fxH (gR q1.2 4)) (gI q1.2 (fxH (gR q1.2 4)) 5) (gI q1.2 k1 4) q1.2).bind fun q28 =>
    some ((), q28.2)
set_option maxHeartbeats 4000000 in
set_option maxRecDepth 100000 in
theorem w_X1_putByDraws_193 {p : Program} {l : Launch} {e : Env} {s : State} {m : MethodId} {args : Array Value} {below : List Frame} {meth : Method} {c : Code} {G : GG} (F : CallFix p m c cX1_putByDraws 7 s args (wsU yX1_putByDraws cX1_putByDraws 7 none) RX1) (hr : meth.sig.returnType = none) (hlk : meth.locks = false) {z : Unit × GW} : (∀ (k1 : Nat) (x4 : Int32) (t0 : Int32) (hk1 : kd k1 = 2) (w : GW) (H : Heap) (locs : List Loc) (ls : Array Slot), St G w s H locs → lv_has ls 7 [(0, .ref (gad G 67)), (1, .ref (gad G k1)), (4, .int x4)] → f_X1_putByDraws_193 k1 x4 t0 w = some z → W p l e (headSpec (wsU yX1_putByDraws cX1_putByDraws 7 none) rm_X1_putByDraws).room s m args below meth c H locs 0 0 (MQ below (QV G z) args s 0 0 (gA G)) (F0 m 193 ls [.int t0])) := by
  obtain ⟨hx, hb, hml, hown, hts⟩ := id F
  have hg : ∀ q ∈ lwg, q.before args s = true := fun q h => hts q (List.mem_cons_of_mem _ h)
  intro k1 x4 t0 hk1 w H locs ls S hl hz
  rw [f_X1_putByDraws_193] at hz
  refine lv_istore (lv' := [(6, .int t0), (0, .ref (gad G 67)), (1, .ref (gad G k1)), (4, .int x4)]) hx hb dX1_putByDraws_193 hl (by decide) rfl (fun ls hl => ?_)
  refine lv_aload_n hx hb dX1_putByDraws_195 rfl (lv_at hl 2 rfl) ?_
  refine lv_aload_n hx hb dX1_putByDraws_196 rfl (lv_at hl 1 rfl) ?_
  refine fg_X1_3 hx hb (fun q h => hg q (tl_X1 q h)) hown (hg _ t_fl_X1_9) S (by decide) dX1_putByDraws_197 ?_
  refine lv_iload hx hb dX1_putByDraws_200 (lv_at hl 3 rfl) ?_
  refine lv_iload hx hb dX1_putByDraws_202 (lv_at hl 0 rfl) ?_
  obtain ⟨q15, e16, hz⟩ := bd hz
  refine g_callVv (As := [.ref (gad G (fxH (gR w 4))), .int x4, .int t0]) (rest := []) F S (c_X2_land l G k1 (fxH (gR w 4)) x4 t0 hk1 (kd_H _) _ e16) (cw_X1_putByDraws_X2_land_100 hg) (S.obj hk1 (by decide) rfl (oc_X2 _ _ _ hk1)) rfl hl.1 rfl (Nat.le_of_ble_eq_true rfl) ⟨Nat.zero_le _, Nat.zero_le _⟩ dX1_putByDraws_204 (fun H locs  S => ?_)
  exact g_retv hx hb hr hlk S hz dX1_putByDraws_207
set_option maxHeartbeats 4000000 in
set_option maxRecDepth 100000 in
theorem w_X1_putByDraws_150 {p : Program} {l : Launch} {e : Env} {s : State} {m : MethodId} {args : Array Value} {below : List Frame} {meth : Method} {c : Code} {G : GG} (F : CallFix p m c cX1_putByDraws 7 s args (wsU yX1_putByDraws cX1_putByDraws 7 none) RX1) (hr : meth.sig.returnType = none) (hlk : meth.locks = false) {z : Unit × GW} : (∀ (k1 : Nat) (x3 : Int32) (x4 : Int32) (hk1 : kd k1 = 2) (w : GW) (H : Heap) (locs : List Loc) (ls : Array Slot), St G w s H locs → lv_has ls 7 [(0, .ref (gad G 67)), (1, .ref (gad G k1)), (3, .int x3), (4, .int x4)] → f_X1_putByDraws_150 k1 x3 x4 w = some z → W p l e (headSpec (wsU yX1_putByDraws cX1_putByDraws 7 none) rm_X1_putByDraws).room s m args below meth c H locs 0 0 (MQ below (QV G z) args s 0 0 (gA G)) (F0 m 150 ls [])) := by
  obtain ⟨hx, hb, hml, hown, hts⟩ := id F
  have hg : ∀ q ∈ lwg, q.before args s = true := fun q h => hts q (List.mem_cons_of_mem _ h)
  intro k1 x3 x4 hk1 w H locs ls S hl hz
  rw [f_X1_putByDraws_150] at hz
  refine lv_aload_n hx hb dX1_putByDraws_150 rfl (lv_at hl 0 rfl) ?_
  refine fg_X1_3 hx hb (fun q h => hg q (tl_X1 q h)) hown (hg _ t_fl_X1_9) S (by decide) dX1_putByDraws_151 ?_
  refine lv_aload_n hx hb dX1_putByDraws_154 rfl (lv_at hl 1 rfl) ?_
  refine fg_X2_5 hx hb (fun q h => hg q (tl_X2 q h)) hown (hg _ t_fl_X1_111) S hk1 dX1_putByDraws_155 ?_
  refine lv_iload hx hb dX1_putByDraws_158 (lv_at hl 3 rfl) ?_
  obtain ⟨q12, e13, hz⟩ := bd hz
  refine g_callVi (As := [.ref (gad G (k1 + 1)), .int x4]) (rest := []) F S (c_X3_roomFrom l G (fxH (gR w 4)) (k1 + 1) x4 (kd_H _) (kd_2_1 hk1) _ e13) (cw_X1_putByDraws_X3_roomFrom_88 hg) (S.obj (kd_H _) (by decide) rfl (oc_X3 _ _ _ (kd_H _))) rfl hl.1 rfl (Nat.le_of_ble_eq_true rfl) ⟨Nat.zero_le _, Nat.zero_le _⟩ dX1_putByDraws_160 (fun H locs  S => ?_)
  refine lv_istore (lv' := [(5, .int q12.1), (0, .ref (gad G 67)), (1, .ref (gad G k1)), (3, .int x3), (4, .int x4)]) hx hb dX1_putByDraws_163 hl (by decide) rfl (fun ls hl => ?_)
  refine lv_aload_n hx hb dX1_putByDraws_165 rfl (lv_at hl 1 rfl) ?_
  refine fg_X1_4 hx hb (fun q h => hg q (tl_X1 q h)) hown (hg _ t_fl_X1_18) S (by decide) dX1_putByDraws_166 ?_
  refine fg_X4_1 hx hb (fun q h => hg q (tl_X4 q h)) hown (hg _ t_fl_X1_56) S (kd_P _) dX1_putByDraws_169 ?_
  refine lv_iconst (v := 4) hx hb dX1_putByDraws_172 (by decide) ?_
  refine lv_icmp_ne (tgt := 192) hx hb dX1_putByDraws_173 (by decide) (fun c14 => ?_) (fun c14 => ?_)
  · have hz := ipf (c14) hz
    refine lv_iconst (v := 0) hx hb dX1_putByDraws_192 (by decide) ?_
    exact w_X1_putByDraws_193 F hr hlk k1 x4 0 hk1 _ _ _ _ S (lv_sub hl [1, 2, 4] rfl) hz
  · have hz := ipt (c14) hz
    refine lv_aload_n hx hb dX1_putByDraws_176 rfl (lv_at hl 1 rfl) ?_
    refine lv_aload_n hx hb dX1_putByDraws_177 rfl (lv_at hl 2 rfl) ?_
    refine fg_X2_5 hx hb (fun q h => hg q (tl_X2 q h)) hown (hg _ t_fl_X1_111) S hk1 dX1_putByDraws_178 ?_
    refine lv_iload_n hx hb dX1_putByDraws_181 rfl (lv_at hl 3 rfl) ?_
    refine lv_iload hx hb dX1_putByDraws_182 (lv_at hl 0 rfl) ?_
    obtain ⟨q17, e18, hz⟩ := bd hz
    refine g_callVi (As := [.ref (gad G (k1 + 1)), .int x3, .int q12.1]) (rest := []) F S (c_X1_emptiest l G (k1 + 1) x3 q12.1 (kd_2_1 hk1) _ e18) (cw_X1_putByDraws_X1_emptiest_84 hg) (S.obj (by decide) (by decide) rfl (oc_X1 _ _ _ (by decide))) rfl hl.1 rfl (Nat.le_of_ble_eq_true rfl) ⟨Nat.zero_le _, Nat.zero_le _⟩ dX1_putByDraws_184 (fun H locs  S => ?_)
    refine lv_iconst (v := 1) hx hb dX1_putByDraws_187 (by decide) ?_
    refine lv_iadd hx hb dX1_putByDraws_188 ?_
    refine lv_goto (tgt := 193) hx hb dX1_putByDraws_189 (by decide) ?_
    exact w_X1_putByDraws_193 F hr hlk k1 x4 (q17.1 + 1) hk1 _ _ _ _ S (lv_sub hl [1, 2, 4] rfl) hz
set_option maxHeartbeats 4000000 in
set_option maxRecDepth 100000 in
theorem w_X1_putByDraws_84 {p : Program} {l : Launch} {e : Env} {s : State} {m : MethodId} {args : Array Value} {below : List Frame} {meth : Method} {c : Code} {G : GG} (F : CallFix p m c cX1_putByDraws 7 s args (wsU yX1_putByDraws cX1_putByDraws 7 none) RX1) (hr : meth.sig.returnType = none) (hlk : meth.locks = false) {z : Unit × GW} : (∀ (k1 : Nat) (x2 : Int32) (hk1 : kd k1 = 2) (w : GW) (H : Heap) (locs : List Loc) (ls : Array Slot), St G w s H locs → lv_has ls 7 [(0, .ref (gad G 67)), (1, .ref (gad G k1)), (2, .int x2)] → f_X1_putByDraws_84 k1 x2 w = some z → W p l e (headSpec (wsU yX1_putByDraws cX1_putByDraws 7 none) rm_X1_putByDraws).room s m args below meth c H locs 0 0 (MQ below (QV G z) args s 0 0 (gA G)) (F0 m 84 ls [])) := by
  obtain ⟨hx, hb, hml, hown, hts⟩ := id F
  have hg : ∀ q ∈ lwg, q.before args s = true := fun q h => hts q (List.mem_cons_of_mem _ h)
  intro k1 x2 hk1 w H locs ls S hl hz
  rw [f_X1_putByDraws_84] at hz
  refine lv_aload_n hx hb dX1_putByDraws_84 rfl (lv_at hl 0 rfl) ?_
  refine lv_iload_n hx hb dX1_putByDraws_85 rfl (lv_at hl 2 rfl) ?_
  refine lv_aload_n hx hb dX1_putByDraws_86 rfl (lv_at hl 1 rfl) ?_
  refine fg_X2_4 hx hb (fun q h => hg q (tl_X2 q h)) hown (hg _ t_fl_X1_97) S hk1 dX1_putByDraws_87 ?_
  obtain ⟨q6, e7, hz⟩ := bd hz
  refine g_callVi (As := [.int x2, .int (gI w k1 4)]) (rest := []) F S (c_X1_lookedAt l G x2 (gI w k1 4)  _ e7) (cw_X1_putByDraws_X1_lookedAt_80 hg) (S.obj (by decide) (by decide) rfl (oc_X1 _ _ _ (by decide))) rfl hl.1 rfl (Nat.le_of_ble_eq_true rfl) ⟨Nat.zero_le _, Nat.zero_le _⟩ dX1_putByDraws_90 (fun H locs  S => ?_)
  refine lv_istore_n (lv' := [(3, .int q6.1), (0, .ref (gad G 67)), (1, .ref (gad G k1)), (2, .int x2)]) hx hb dX1_putByDraws_93 rfl hl (by decide) rfl (fun ls hl => ?_)
  refine lv_aload_n hx hb dX1_putByDraws_94 rfl (lv_at hl 1 rfl) ?_
  refine fg_X1_4 hx hb (fun q h => hg q (tl_X1 q h)) hown (hg _ t_fl_X1_18) S (by decide) dX1_putByDraws_95 ?_
  refine fg_X4_1 hx hb (fun q h => hg q (tl_X4 q h)) hown (hg _ t_fl_X1_56) S (kd_P _) dX1_putByDraws_98 ?_
  refine lv_if_ne (tgt := 114) hx hb dX1_putByDraws_101 (by decide) (fun c8 => ?_) (fun c8 => ?_)
  · have hz := ipf (c8) hz
    refine lv_aload_n hx hb dX1_putByDraws_114 rfl (lv_at hl 1 rfl) ?_
    refine fg_X1_4 hx hb (fun q h => hg q (tl_X1 q h)) hown (hg _ t_fl_X1_18) S (by decide) dX1_putByDraws_115 ?_
    refine fg_X4_1 hx hb (fun q h => hg q (tl_X4 q h)) hown (hg _ t_fl_X1_56) S (kd_P _) dX1_putByDraws_118 ?_
    refine lv_iconst (v := 2) hx hb dX1_putByDraws_121 (by decide) ?_
    refine lv_icmp_ne (tgt := 138) hx hb dX1_putByDraws_122 (by decide) (fun c9 => ?_) (fun c9 => ?_)
    · have hz := ipf (c9) hz
      refine lv_aload_n hx hb dX1_putByDraws_138 rfl (lv_at hl 1 rfl) ?_
      refine lv_aload_n hx hb dX1_putByDraws_139 rfl (lv_at hl 2 rfl) ?_
      refine fg_X2_5 hx hb (fun q h => hg q (tl_X2 q h)) hown (hg _ t_fl_X1_111) S hk1 dX1_putByDraws_140 ?_
      refine lv_iload_n hx hb dX1_putByDraws_143 rfl (lv_at hl 0 rfl) ?_
      refine lv_iconst (v := (-1)) hx hb dX1_putByDraws_144 (by decide) ?_
      obtain ⟨q10, e11, hz⟩ := bd hz
      refine g_callVi (As := [.ref (gad G (k1 + 1)), .int q6.1, .int (-1)]) (rest := []) F S (c_X1_emptiest l G (k1 + 1) q6.1 (-1) (kd_2_1 hk1) _ e11) (cw_X1_putByDraws_X1_emptiest_84 hg) (S.obj (by decide) (by decide) rfl (oc_X1 _ _ _ (by decide))) rfl hl.1 rfl (Nat.le_of_ble_eq_true rfl) ⟨Nat.zero_le _, Nat.zero_le _⟩ dX1_putByDraws_145 (fun H locs  S => ?_)
      refine lv_istore (lv' := [(4, .int q10.1), (3, .int q6.1), (0, .ref (gad G 67)), (1, .ref (gad G k1)), (2, .int x2)]) hx hb dX1_putByDraws_148 hl (by decide) rfl (fun ls hl => ?_)
      exact w_X1_putByDraws_150 F hr hlk k1 q6.1 q10.1 hk1 _ _ _ _ S (lv_sub hl [2, 3, 1, 0] rfl) hz
    · have hz := ipt (c9) hz
      refine lv_aload_n hx hb dX1_putByDraws_125 rfl (lv_at hl 1 rfl) ?_
      refine lv_aload_n hx hb dX1_putByDraws_126 rfl (lv_at hl 2 rfl) ?_
      refine fg_X2_5 hx hb (fun q h => hg q (tl_X2 q h)) hown (hg _ t_fl_X1_111) S hk1 dX1_putByDraws_127 ?_
      obtain ⟨q19, e20, hz⟩ := bd hz
      refine g_callVi (As := [.ref (gad G (k1 + 1))]) (rest := []) F S (c_X1_firstNotFuller l G (k1 + 1) (kd_2_1 hk1) _ e20) (cw_X1_putByDraws_X1_firstNotFuller_114 hg) (S.obj (by decide) (by decide) rfl (oc_X1 _ _ _ (by decide))) rfl hl.1 rfl (Nat.le_of_ble_eq_true rfl) ⟨Nat.zero_le _, Nat.zero_le _⟩ dX1_putByDraws_130 (fun H locs  S => ?_)
      refine lv_istore (lv' := [(4, .int q19.1), (3, .int q6.1), (0, .ref (gad G 67)), (1, .ref (gad G k1)), (2, .int x2)]) hx hb dX1_putByDraws_133 hl (by decide) rfl (fun ls hl => ?_)
      refine lv_goto (tgt := 150) hx hb dX1_putByDraws_135 (by decide) ?_
      exact w_X1_putByDraws_150 F hr hlk k1 q6.1 q19.1 hk1 _ _ _ _ S (lv_sub hl [2, 3, 1, 0] rfl) hz
  · have hz := ipt (c8) hz
    refine lv_aload_n hx hb dX1_putByDraws_104 rfl (lv_at hl 1 rfl) ?_
    refine lv_aload_n hx hb dX1_putByDraws_105 rfl (lv_at hl 2 rfl) ?_
    obtain ⟨q21, e22, hz⟩ := bd hz
    refine g_callVi (As := [.ref (gad G k1)]) (rest := []) F S (c_X1_byLot l G k1 hk1 _ e22) (cw_X1_putByDraws_X1_byLot_108 hg) (S.obj (by decide) (by decide) rfl (oc_X1 _ _ _ (by decide))) rfl hl.1 rfl (Nat.le_of_ble_eq_true rfl) ⟨Nat.zero_le _, Nat.zero_le _⟩ dX1_putByDraws_106 (fun H locs  S => ?_)
    refine lv_istore (lv' := [(4, .int q21.1), (3, .int q6.1), (0, .ref (gad G 67)), (1, .ref (gad G k1)), (2, .int x2)]) hx hb dX1_putByDraws_109 hl (by decide) rfl (fun ls hl => ?_)
    refine lv_goto (tgt := 150) hx hb dX1_putByDraws_111 (by decide) ?_
    exact w_X1_putByDraws_150 F hr hlk k1 q6.1 q21.1 hk1 _ _ _ _ S (lv_sub hl [2, 3, 1, 0] rfl) hz
set_option maxHeartbeats 4000000 in
set_option maxRecDepth 100000 in
theorem w_X1_putByDraws_40 {p : Program} {l : Launch} {e : Env} {s : State} {m : MethodId} {args : Array Value} {below : List Frame} {meth : Method} {c : Code} {G : GG} (F : CallFix p m c cX1_putByDraws 7 s args (wsU yX1_putByDraws cX1_putByDraws 7 none) RX1) (hr : meth.sig.returnType = none) (hlk : meth.locks = false) {z : Unit × GW} : ∀ (n9 : Nat), (∀ (k1 : Nat) (x2 : Int32) (x3 : Int32) (hk1 : kd k1 = 2) (w : GW) (H : Heap) (locs : List Loc) (ls : Array Slot), St G w s H locs → lv_has ls 7 [(0, .ref (gad G 67)), (1, .ref (gad G k1)), (2, .int x2), (3, .int x3)] → f_X1_putByDraws_40 n9 k1 x2 x3 w = some z → W p l e (headSpec (wsU yX1_putByDraws cX1_putByDraws 7 none) rm_X1_putByDraws).room s m args below meth c H locs 0 0 (MQ below (QV G z) args s 0 0 (gA G)) (F0 m 40 ls [])) := by
  obtain ⟨hx, hb, hml, hown, hts⟩ := id F
  have hg : ∀ q ∈ lwg, q.before args s = true := fun q h => hts q (List.mem_cons_of_mem _ h)
  intro n9
  induction n9 with
  | zero =>
    intro k1 x2 x3 hk1 w H locs ls S hl hz
    rw [f_X1_putByDraws_40] at hz
    cases hz
  | succ n9 ih =>
    intro k1 x2 x3 hk1 w H locs ls S hl hz
    rw [f_X1_putByDraws_40] at hz
    refine lv_iload_n hx hb dX1_putByDraws_40 rfl (lv_at hl 3 rfl) ?_
    refine lv_aload_n hx hb dX1_putByDraws_41 rfl (lv_at hl 0 rfl) ?_
    refine fg_X1_4 hx hb (fun q h => hg q (tl_X1 q h)) hown (hg _ t_fl_X1_18) S (by decide) dX1_putByDraws_42 ?_
    refine fg_X4_0 hx hb (fun q h => hg q (tl_X4 q h)) hown (hg _ t_fl_X1_39) S (kd_P _) dX1_putByDraws_45 ?_
    refine lv_icmp_ge (tgt := 84) hx hb dX1_putByDraws_48 (by decide) (fun c5 => ?_) (fun c5 => ?_)
    · have hz := ipt (c5) hz
      exact w_X1_putByDraws_84 F hr hlk k1 x2 hk1 _ _ _ _ S (lv_sub hl [0, 1, 2] rfl) hz
    · have hz := ipf (c5) hz
      refine lv_iload_n hx hb dX1_putByDraws_51 rfl (lv_at hl 3 rfl) ?_
      refine lv_iconst (v := 3) hx hb dX1_putByDraws_52 (by decide) ?_
      refine lv_icmp_ge (tgt := 84) hx hb dX1_putByDraws_53 (by decide) (fun c23 => ?_) (fun c23 => ?_)
      · have hz := ipt (c23) hz
        exact w_X1_putByDraws_84 F hr hlk k1 x2 hk1 _ _ _ _ S (lv_sub hl [0, 1, 2] rfl) hz
      · have hz := ipf (c23) hz
        refine lv_aload_n hx hb dX1_putByDraws_56 rfl (lv_at hl 0 rfl) ?_
        refine fg_X1_1 hx hb (fun q h => hg q (tl_X1 q h)) hown (hg _ t_fl_X1_26) S (by decide) dX1_putByDraws_57 ?_
        refine lv_iload_n hx hb dX1_putByDraws_60 rfl (lv_at hl 3 rfl) ?_
        refine lv_aload_n hx hb dX1_putByDraws_61 rfl (lv_at hl 0 rfl) ?_
        refine lv_aload_n hx hb dX1_putByDraws_62 rfl (lv_at hl 1 rfl) ?_
        obtain ⟨q24, e25, hz⟩ := bd hz
        refine g_callVi (As := [.ref (gad G k1)]) (rest := [.int x3, .ref (gad G 70)]) F S (c_X1_glance l G k1 hk1 _ e25) (cw_X1_putByDraws_X1_glance_104 hg) (S.obj (by decide) (by decide) rfl (oc_X1 _ _ _ (by decide))) rfl hl.1 rfl (Nat.le_of_ble_eq_true rfl) ⟨Nat.zero_le _, Nat.zero_le _⟩ dX1_putByDraws_63 (fun H locs  S => ?_)
        obtain ⟨h26, hz⟩ := ck hz
        refine g_iast (x := q24.1) hx hb S (isA_12 (by decide)) h26 dX1_putByDraws_66 (fun H locs S => ?_)
        refine lv_iload_n hx hb dX1_putByDraws_67 rfl (lv_at hl 2 rfl) ?_
        refine lv_iconst (v := 1) hx hb dX1_putByDraws_68 (by decide) ?_
        refine lv_aload_n hx hb dX1_putByDraws_69 rfl (lv_at hl 0 rfl) ?_
        refine fg_X1_1 hx hb (fun q h => hg q (tl_X1 q h)) hown (hg _ t_fl_X1_26) S (by decide) dX1_putByDraws_70 ?_
        refine lv_iload_n hx hb dX1_putByDraws_73 rfl (lv_at hl 3 rfl) ?_
        obtain ⟨h27, hz⟩ := ck hz
        refine g_iald hx hb S (isA_12 (by decide)) h27 dX1_putByDraws_74 ?_
        refine lv_ishl hx hb dX1_putByDraws_75 ?_
        refine lv_ior hx hb dX1_putByDraws_76 ?_
        refine lv_istore_n (lv' := [(2, .int (x2 ||| ((1 : Int32) <<< ((gI (sI q24.2 70 (ix x3) q24.1) 70 (ix x3)) &&& 31)))), (0, .ref (gad G 67)), (1, .ref (gad G k1)), (3, .int x3)]) hx hb dX1_putByDraws_77 rfl hl (by decide) rfl (fun ls hl => ?_)
        refine lv_iinc (v := (x3 + 1)) (lv' := [(3, .int (x3 + 1)), (2, .int (x2 ||| ((1 : Int32) <<< ((gI (sI q24.2 70 (ix x3) q24.1) 70 (ix x3)) &&& 31)))), (0, .ref (gad G 67)), (1, .ref (gad G k1))]) hx hb dX1_putByDraws_78 hl (k := 3) rfl rfl (by decide) rfl (fun ls hl => ?_)
        refine lv_goto (tgt := 40) hx hb dX1_putByDraws_81 (by decide) ?_
        exact ih k1 (x2 ||| ((1 : Int32) <<< ((gI (sI q24.2 70 (ix x3) q24.1) 70 (ix x3)) &&& 31))) (x3 + 1) hk1 _ _ _ _ S (lv_sub hl [2, 3, 1, 0] rfl) hz
set_option maxHeartbeats 4000000 in
set_option maxRecDepth 100000 in
theorem c_X1_putByDraws (l : Launch) (G : GG) (k1 : Nat) (hk1 : kd k1 = 2) (w : GW) {z : Unit × GW} (hz : f_X1_putByDraws k1 w = some z) : Met l yX1_putByDraws (wsU yX1_putByDraws cX1_putByDraws 7 none) rm_X1_putByDraws (va_Pc [.ref (gad G 67), .ref (gad G k1)] (PreG G w)) (QV G z) 0 0 (gA G) := by
  refine Met.ofW (cc := cX1_putByDraws) (maxL := 7) (ret := none) (by decide) rfl ?_
  intro p e s m args below meth c s₁ B hml hv
  obtain ⟨rfl, S⟩ := hv
  have F : CallFix p m c cX1_putByDraws 7 s _ (wsU yX1_putByDraws cX1_putByDraws 7 none) RX1 := ⟨B.exec, B.bytes, hml, findClass_of_methodNamed B.named, atoms_spec B.pre⟩
  have hr := B.returns
  have hlk := B.notSynchronized
  obtain ⟨hx, hb, -, hown, hts⟩ := id F
  have hg : ∀ q ∈ lwg, q.before _ s = true := fun q h => hts q (List.mem_cons_of_mem _ h)
  refine g_entry (Nat.le_of_ble_eq_true rfl) (fun ls hl => ?_)
  have hl : lv_has ls 7 [(0, .ref (gad G 67)), (1, .ref (gad G k1))] := hl
  have S : St G w s s.heap [] := S
  generalize s.heap = H at S ⊢
  generalize ([] : List Loc) = locs at S ⊢
  rw [f_X1_putByDraws] at hz
  refine lv_aload_n hx hb dX1_putByDraws_0 rfl (lv_at hl 0 rfl) ?_
  refine fg_X1_3 hx hb (fun q h => hg q (tl_X1 q h)) hown (hg _ t_fl_X1_9) S (by decide) dX1_putByDraws_1 ?_
  refine lv_aload_n hx hb dX1_putByDraws_4 rfl (lv_at hl 1 rfl) ?_
  refine fg_X2_2 hx hb (fun q h => hg q (tl_X2 q h)) hown (hg _ t_fl_X1_92) S hk1 dX1_putByDraws_5 ?_
  refine lv_iconst (v := 1) hx hb dX1_putByDraws_8 (by decide) ?_
  refine lv_iadd hx hb dX1_putByDraws_9 ?_
  obtain ⟨q1, e2, hz⟩ := bd hz
  refine g_callVb (As := [.int ((gI w k1 2) + 1)]) (rest := []) F S (c_X3_isDoors l G (fxH (gR w 4)) ((gI w k1 2) + 1) (kd_H _) _ e2) (cw_X1_putByDraws_X3_isDoors_49 hg) (S.obj (kd_H _) (by decide) rfl (oc_X3 _ _ _ (kd_H _))) rfl hl.1 rfl (Nat.le_of_ble_eq_true rfl) ⟨Nat.zero_le _, Nat.zero_le _⟩ dX1_putByDraws_10 (fun H locs hB3 S => ?_)
  refine lv_if_eq (tgt := 36) hx hb dX1_putByDraws_13 (by decide) (fun c4 => ?_) (fun c4 => ?_)
  · have hz := ipt (c4) hz
    refine lv_iconst (v := 0) hx hb dX1_putByDraws_36 (by decide) ?_
    refine lv_istore_n (lv' := [(2, .int 0), (0, .ref (gad G 67)), (1, .ref (gad G k1))]) hx hb dX1_putByDraws_37 rfl hl (by decide) rfl (fun ls hl => ?_)
    refine lv_iconst (v := 0) hx hb dX1_putByDraws_38 (by decide) ?_
    refine lv_istore_n (lv' := [(3, .int 0), (2, .int 0), (0, .ref (gad G 67)), (1, .ref (gad G k1))]) hx hb dX1_putByDraws_39 rfl hl (by decide) rfl (fun ls hl => ?_)
    exact w_X1_putByDraws_40 F hr hlk fu k1 0 0 hk1 _ _ _ _ S (lv_sub hl [2, 3, 1, 0] rfl) hz
  · have hz := ipf (c4) hz
    refine lv_aload_n hx hb dX1_putByDraws_16 rfl (lv_at hl 1 rfl) ?_
    refine lv_aload_n hx hb dX1_putByDraws_17 rfl (lv_at hl 0 rfl) ?_
    refine fg_X1_3 hx hb (fun q h => hg q (tl_X1 q h)) hown (hg _ t_fl_X1_9) S (by decide) dX1_putByDraws_18 ?_
    refine lv_aload_n hx hb dX1_putByDraws_21 rfl (lv_at hl 0 rfl) ?_
    refine fg_X1_3 hx hb (fun q h => hg q (tl_X1 q h)) hown (hg _ t_fl_X1_9) S (by decide) dX1_putByDraws_22 ?_
    refine fg_X3_5 hx hb (fun q h => hg q (tl_X3 q h)) hown (hg _ t_fl_X1_53) S (kd_H _) dX1_putByDraws_25 ?_
    refine lv_aload_n hx hb dX1_putByDraws_28 rfl (lv_at hl 1 rfl) ?_
    refine fg_X2_4 hx hb (fun q h => hg q (tl_X2 q h)) hown (hg _ t_fl_X1_97) S hk1 dX1_putByDraws_29 ?_
    obtain ⟨q28, e29, hz⟩ := bd hz
    refine g_callVv (As := [.ref (gad G (fxH (gR q1.2 4))), .int (gI q1.2 (fxH (gR q1.2 4)) 5), .int (gI q1.2 k1 4)]) (rest := []) F S (c_X2_land l G k1 (fxH (gR q1.2 4)) (gI q1.2 (fxH (gR q1.2 4)) 5) (gI q1.2 k1 4) hk1 (kd_H _) _ e29) (cw_X1_putByDraws_X2_land_100 hg) (S.obj hk1 (by decide) rfl (oc_X2 _ _ _ hk1)) rfl hl.1 rfl (Nat.le_of_ble_eq_true rfl) ⟨Nat.zero_le _, Nat.zero_le _⟩ dX1_putByDraws_32 (fun H locs  S => ?_)
    exact g_retv hx hb hr hlk S hz dX1_putByDraws_35
