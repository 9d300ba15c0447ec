noncomputable def f_X9_bestWhy (x1 : Int32) (x2 : Int32) (x3 : Int32) (w : GW) : Option (Int32 × GW) :=
  if (gI w 130 14) = 0 then
    some (1, w)
  else
    if inb 1 135 then
    (f_X9_within x2 0 (gI w 133 (ix 1)) w).bind fun q3 =>
    if q3.1 = 0 then
      some (2, q3.2)
    else
      (f_X9_within x3 0 9 q3.2).bind fun q7 =>
      if q7.1 = 0 then
        some (2, q7.2)
      else
        (f_X9_within x1 1 3 q7.2).bind fun q11 =>
        if q11.1 = 0 then
          some (2, q11.2)
        else
          some (0, q11.2)
    else none
set_option maxHeartbeats 4000000 in
set_option maxRecDepth 100000 in
theorem c_X9_bestWhy (l : Launch) (G : GG) (x1 : Int32) (x2 : Int32) (x3 : Int32)  (w : GW) {z : Int32 × GW} (hz : f_X9_bestWhy x1 x2 x3 w = some z) : Met l yX9_bestWhy (wsU yX9_bestWhy cX9_bestWhy 4 (some .int)) rm_X9_bestWhy (va_Pc [.ref (gad G 130), .int x1, .int x2, .int x3] (PreG G w)) (QI G z) 0 0 (gA G) := by
  refine Met.ofW (cc := cX9_bestWhy) (maxL := 4) (ret := (some .int)) (by decide) rfl ?_
  intro p e s m args below meth c s₁ B hml hv
  obtain ⟨rfl, S⟩ := hv
  have F : CallFix p m c cX9_bestWhy 4 s _ (wsU yX9_bestWhy cX9_bestWhy 4 (some .int)) RX9 := ⟨B.exec, B.bytes, hml, findClass_of_methodNamed B.named, atoms_spec B.pre⟩
  have hr := B.returns
  have hlk := B.notSynchronized
  obtain ⟨hx, hb, -, hown, hts⟩ := id F
  have hg : ∀ q ∈ lwg, q.before _ s = true := fun q h => hts q (List.mem_cons_of_mem _ h)
  refine g_entry (Nat.le_of_ble_eq_true rfl) (fun ls hl => ?_)
  have hl : lv_has ls 4 [(0, .ref (gad G 130)), (1, .int x1), (2, .int x2), (3, .int x3)] := hl
  have S : St G w s s.heap [] := S
  generalize s.heap = H at S ⊢
  generalize ([] : List Loc) = locs at S ⊢
  rw [f_X9_bestWhy] at hz
  refine lv_aload_n hx hb dX9_bestWhy_0 rfl (lv_at hl 0 rfl) ?_
  refine fg_X9_14 hx hb (fun q h => hg q (tl_X9 q h)) hown (hg _ t_fl_X9_159) S (by decide) dX9_bestWhy_1 ?_
  refine lv_if_ne (tgt := 9) hx hb dX9_bestWhy_4 (by decide) (fun c1 => ?_) (fun c1 => ?_)
  · have hz := ipf (c1) hz
    refine lv_iload_n hx hb dX9_bestWhy_9 rfl (lv_at hl 2 rfl) ?_
    refine lv_iconst (v := 0) hx hb dX9_bestWhy_10 (by decide) ?_
    refine lv_aload_n hx hb dX9_bestWhy_11 rfl (lv_at hl 0 rfl) ?_
    refine fg_X9_15 hx hb (fun q h => hg q (tl_X9 q h)) hown (hg _ t_fl_X9_20) S (by decide) dX9_bestWhy_12 ?_
    refine lv_iconst (v := 1) hx hb dX9_bestWhy_15 (by decide) ?_
    obtain ⟨h2, hz⟩ := ck hz
    refine g_iald hx hb S (isA_15 (by decide)) h2 dX9_bestWhy_16 ?_
    obtain ⟨q3, e4, hz⟩ := bd hz
    refine g_callSb (As := [.int x2, .int 0, .int (gI w 133 (ix 1))]) (rest := []) F S (c_X9_within l G x2 0 (gI w 133 (ix 1))  _ e4) (cw_X9_bestWhy_X9_within_138 hg) rfl hl.1 rfl (Nat.le_of_ble_eq_true rfl) ⟨Nat.zero_le _, Nat.zero_le _⟩ dX9_bestWhy_17 (fun H locs hB5 S => ?_)
    refine lv_if_eq (tgt := 46) hx hb dX9_bestWhy_20 (by decide) (fun c6 => ?_) (fun c6 => ?_)
    · have hz := ipt (c6) hz
      refine lv_iconst (v := 2) hx hb dX9_bestWhy_46 (by decide) ?_
      exact g_reti hx hb hr hlk S hz dX9_bestWhy_47
    · have hz := ipf (c6) hz
      refine lv_iload_n hx hb dX9_bestWhy_23 rfl (lv_at hl 3 rfl) ?_
      refine lv_iconst (v := 0) hx hb dX9_bestWhy_24 (by decide) ?_
      refine lv_bipush (v := 9) hx hb dX9_bestWhy_25 (by decide) ?_
      obtain ⟨q7, e8, hz⟩ := bd hz
      refine g_callSb (As := [.int x3, .int 0, .int 9]) (rest := []) F S (c_X9_within l G x3 0 9  _ e8) (cw_X9_bestWhy_X9_within_138 hg) rfl hl.1 rfl (Nat.le_of_ble_eq_true rfl) ⟨Nat.zero_le _, Nat.zero_le _⟩ dX9_bestWhy_27 (fun H locs hB9 S => ?_)
      refine lv_if_eq (tgt := 46) hx hb dX9_bestWhy_30 (by decide) (fun c10 => ?_) (fun c10 => ?_)
      · have hz := ipt (c10) hz
        refine lv_iconst (v := 2) hx hb dX9_bestWhy_46 (by decide) ?_
        exact g_reti hx hb hr hlk S hz dX9_bestWhy_47
      · have hz := ipf (c10) hz
        refine lv_iload_n hx hb dX9_bestWhy_33 rfl (lv_at hl 1 rfl) ?_
        refine lv_iconst (v := 1) hx hb dX9_bestWhy_34 (by decide) ?_
        refine lv_iconst (v := 3) hx hb dX9_bestWhy_35 (by decide) ?_
        obtain ⟨q11, e12, hz⟩ := bd hz
        refine g_callSb (As := [.int x1, .int 1, .int 3]) (rest := []) F S (c_X9_within l G x1 1 3  _ e12) (cw_X9_bestWhy_X9_within_138 hg) rfl hl.1 rfl (Nat.le_of_ble_eq_true rfl) ⟨Nat.zero_le _, Nat.zero_le _⟩ dX9_bestWhy_36 (fun H locs hB13 S => ?_)
        refine lv_if_eq (tgt := 46) hx hb dX9_bestWhy_39 (by decide) (fun c14 => ?_) (fun c14 => ?_)
        · have hz := ipt (c14) hz
          refine lv_iconst (v := 2) hx hb dX9_bestWhy_46 (by decide) ?_
          exact g_reti hx hb hr hlk S hz dX9_bestWhy_47
        · have hz := ipf (c14) hz
          refine lv_iconst (v := 0) hx hb dX9_bestWhy_42 (by decide) ?_
          refine lv_goto (tgt := 47) hx hb dX9_bestWhy_43 (by decide) ?_
          exact g_reti hx hb hr hlk S hz dX9_bestWhy_47
  · have hz := ipt (c1) hz
    refine lv_iconst (v := 1) hx hb dX9_bestWhy_7 (by decide) ?_
    exact g_reti hx hb hr hlk S hz dX9_bestWhy_8
noncomputable def f_X9_best (x1 : Int32) (x2 : Int32) (x3 : Int32) (w : GW) : Option (Int32 × GW) :=
  (f_X9_good w).bind fun q1 =>
  (f_X9_bestWhy x1 x2 x3 q1.2).bind fun q3 =>
  if q3.1 = 0 then
    (f_X9_findBest x1 x2 x3 q3.2).bind fun q6 =>
    if 0 ≤ q6.1 then
      some (q6.1, q6.2)
    else
      (f_X9_no 3 q6.2).bind fun q9 =>
      some (q9.1, q9.2)
  else
    (f_X9_no q3.1 q3.2).bind fun q11 =>
    some (q11.1, q11.2)
set_option maxHeartbeats 4000000 in
set_option maxRecDepth 100000 in
theorem c_X9_best (l : Launch) (G : GG) (x1 : Int32) (x2 : Int32) (x3 : Int32)  (w : GW) {z : Int32 × GW} (hz : f_X9_best x1 x2 x3 w = some z) : Met l yX9_best (wsU yX9_best cX9_best 6 (some .int)) rm_X9_best (va_Pc [.ref (gad G 130), .int x1, .int x2, .int x3] (PreG G w)) (QI G z) 0 0 (gA G) := by
  refine Met.ofW (cc := cX9_best) (maxL := 6) (ret := (some .int)) (by decide) rfl ?_
  intro p e s m args below meth c s₁ B hml hv
  obtain ⟨rfl, S⟩ := hv
  have F : CallFix p m c cX9_best 6 s _ (wsU yX9_best cX9_best 6 (some .int)) RX9 := ⟨B.exec, B.bytes, hml, findClass_of_methodNamed B.named, atoms_spec B.pre⟩
  have hr := B.returns
  have hlk := B.notSynchronized
  obtain ⟨hx, hb, -, hown, hts⟩ := id F
  have hg : ∀ q ∈ lwg, q.before _ s = true := fun q h => hts q (List.mem_cons_of_mem _ h)
  refine g_entry (Nat.le_of_ble_eq_true rfl) (fun ls hl => ?_)
  have hl : lv_has ls 6 [(0, .ref (gad G 130)), (1, .int x1), (2, .int x2), (3, .int x3)] := hl
  have S : St G w s s.heap [] := S
  generalize s.heap = H at S ⊢
  generalize ([] : List Loc) = locs at S ⊢
  rw [f_X9_best] at hz
  refine lv_aload_n hx hb dX9_best_0 rfl (lv_at hl 0 rfl) ?_
  obtain ⟨q1, e2, hz⟩ := bd hz
  refine g_callVv (As := []) (rest := []) F S (c_X9_good l G   _ e2) (cw_X9_best_X9_good_150 hg) (S.obj (by decide) (by decide) rfl (oc_X9 _ _ _ (by decide))) rfl hl.1 rfl (Nat.le_of_ble_eq_true rfl) ⟨Nat.zero_le _, Nat.zero_le _⟩ dX9_best_1 (fun H locs  S => ?_)
  refine lv_aload_n hx hb dX9_best_4 rfl (lv_at hl 0 rfl) ?_
  refine lv_iload_n hx hb dX9_best_5 rfl (lv_at hl 1 rfl) ?_
  refine lv_iload_n hx hb dX9_best_6 rfl (lv_at hl 2 rfl) ?_
  refine lv_iload_n hx hb dX9_best_7 rfl (lv_at hl 3 rfl) ?_
  obtain ⟨q3, e4, hz⟩ := bd hz
  refine g_callVi (As := [.int x1, .int x2, .int x3]) (rest := []) F S (c_X9_bestWhy l G x1 x2 x3  _ e4) (cw_X9_best_X9_bestWhy_370 hg) (S.obj (by decide) (by decide) rfl (oc_X9 _ _ _ (by decide))) rfl hl.1 rfl (Nat.le_of_ble_eq_true rfl) ⟨Nat.zero_le _, Nat.zero_le _⟩ dX9_best_8 (fun H locs  S => ?_)
  refine lv_istore (lv' := [(4, .int q3.1), (0, .ref (gad G 130)), (1, .int x1), (2, .int x2), (3, .int x3)]) hx hb dX9_best_11 hl (by decide) rfl (fun ls hl => ?_)
  refine lv_iload hx hb dX9_best_13 (lv_at hl 0 rfl) ?_
  refine lv_if_eq (tgt := 25) hx hb dX9_best_15 (by decide) (fun c5 => ?_) (fun c5 => ?_)
  · have hz := ipt (c5) hz
    refine lv_aload_n hx hb dX9_best_25 rfl (lv_at hl 1 rfl) ?_
    refine lv_iload_n hx hb dX9_best_26 rfl (lv_at hl 2 rfl) ?_
    refine lv_iload_n hx hb dX9_best_27 rfl (lv_at hl 3 rfl) ?_
    refine lv_iload_n hx hb dX9_best_28 rfl (lv_at hl 4 rfl) ?_
    obtain ⟨q6, e7, hz⟩ := bd hz
    refine g_callVi (As := [.int x1, .int x2, .int x3]) (rest := []) F S (c_X9_findBest l G x1 x2 x3  _ e7) (cw_X9_best_X9_findBest_373 hg) (S.obj (by decide) (by decide) rfl (oc_X9 _ _ _ (by decide))) rfl hl.1 rfl (Nat.le_of_ble_eq_true rfl) ⟨Nat.zero_le _, Nat.zero_le _⟩ dX9_best_29 (fun H locs  S => ?_)
    refine lv_istore (lv' := [(5, .int q6.1), (4, .int q3.1), (0, .ref (gad G 130)), (1, .int x1), (2, .int x2), (3, .int x3)]) hx hb dX9_best_32 hl (by decide) rfl (fun ls hl => ?_)
    refine lv_iload hx hb dX9_best_34 (lv_at hl 0 rfl) ?_
    refine lv_if_ge (tgt := 47) hx hb dX9_best_36 (by decide) (fun c8 => ?_) (fun c8 => ?_)
    · have hz := ipt (c8) hz
      refine lv_iload hx hb dX9_best_47 (lv_at hl 0 rfl) ?_
      exact g_reti hx hb hr hlk S hz dX9_best_49
    · have hz := ipf (c8) hz
      refine lv_aload_n hx hb dX9_best_39 rfl (lv_at hl 2 rfl) ?_
      refine lv_iconst (v := 3) hx hb dX9_best_40 (by decide) ?_
      obtain ⟨q9, e10, hz⟩ := bd hz
      refine g_callVi (As := [.int 3]) (rest := []) F S (c_X9_no l G 3  _ e10) (cw_X9_best_X9_no_153 hg) (S.obj (by decide) (by decide) rfl (oc_X9 _ _ _ (by decide))) rfl hl.1 rfl (Nat.le_of_ble_eq_true rfl) ⟨Nat.zero_le _, Nat.zero_le _⟩ dX9_best_41 (fun H locs  S => ?_)
      refine lv_goto (tgt := 49) hx hb dX9_best_44 (by decide) ?_
      exact g_reti hx hb hr hlk S hz dX9_best_49
  · have hz := ipf (c5) hz
    refine lv_aload_n hx hb dX9_best_18 rfl (lv_at hl 1 rfl) ?_
    refine lv_iload hx hb dX9_best_19 (lv_at hl 0 rfl) ?_
    obtain ⟨q11, e12, hz⟩ := bd hz
    refine g_callVi (As := [.int q3.1]) (rest := []) F S (c_X9_no l G q3.1  _ e12) (cw_X9_best_X9_no_153 hg) (S.obj (by decide) (by decide) rfl (oc_X9 _ _ _ (by decide))) rfl hl.1 rfl (Nat.le_of_ble_eq_true rfl) ⟨Nat.zero_le _, Nat.zero_le _⟩ dX9_best_21 (fun H locs  S => ?_)
    exact g_reti hx hb hr hlk S hz dX9_best_24
noncomputable def f_X9_bestChance (x1 : Int32) (x2 : Int32) (x3 : Int32) (x4 : Int32) (w : GW) : Option (Int64 × GW) :=
  (f_X9_good w).bind fun q1 =>
  (f_X9_bestWhy x1 x2 x3 q1.2).bind fun q3 =>
  if q3.1 = 0 then
    (f_X9_findBest x1 x2 x3 q3.2).bind fun q6 =>
    if 0 ≤ q6.1 then
      (f_X9_lowest (gL q6.2 130 34) (gL q6.2 130 30) x4 q6.2).bind fun q9 =>
      some (q9.1, q9.2)
    else
      (f_X9_no 3 q6.2).bind fun q11 =>
      some ((q11.1.toInt64), q11.2)
  else
    (f_X9_no q3.1 q3.2).bind fun q13 =>
    some ((q13.1.toInt64), q13.2)
set_option maxHeartbeats 4000000 in
set_option maxRecDepth 100000 in
theorem c_X9_bestChance (l : Launch) (G : GG) (x1 : Int32) (x2 : Int32) (x3 : Int32) (x4 : Int32)  (w : GW) {z : Int64 × GW} (hz : f_X9_bestChance x1 x2 x3 x4 w = some z) : Met l yX9_bestChance (wsU yX9_bestChance cX9_bestChance 6 (some .long)) rm_X9_bestChance (va_Pc [.ref (gad G 130), .int x1, .int x2, .int x3, .int x4] (PreG G w)) (QL G z) 0 0 (gA G) := by
  refine Met.ofW (cc := cX9_bestChance) (maxL := 6) (ret := (some .long)) (by decide) rfl ?_
  intro p e s m args below meth c s₁ B hml hv
  obtain ⟨rfl, S⟩ := hv
  have F : CallFix p m c cX9_bestChance 6 s _ (wsU yX9_bestChance cX9_bestChance 6 (some .long)) RX9 := ⟨B.exec, B.bytes, hml, findClass_of_methodNamed B.named, atoms_spec B.pre⟩
  have hr := B.returns
  have hlk := B.notSynchronized
  obtain ⟨hx, hb, -, hown, hts⟩ := id F
  have hg : ∀ q ∈ lwg, q.before _ s = true := fun q h => hts q (List.mem_cons_of_mem _ h)
  refine g_entry (Nat.le_of_ble_eq_true rfl) (fun ls hl => ?_)
  have hl : lv_has ls 6 [(0, .ref (gad G 130)), (1, .int x1), (2, .int x2), (3, .int x3), (4, .int x4)] := hl
  have S : St G w s s.heap [] := S
  generalize s.heap = H at S ⊢
  generalize ([] : List Loc) = locs at S ⊢
  rw [f_X9_bestChance] at hz
  refine lv_aload_n hx hb dX9_bestChance_0 rfl (lv_at hl 0 rfl) ?_
  obtain ⟨q1, e2, hz⟩ := bd hz
  refine g_callVv (As := []) (rest := []) F S (c_X9_good l G   _ e2) (cw_X9_bestChance_X9_good_150 hg) (S.obj (by decide) (by decide) rfl (oc_X9 _ _ _ (by decide))) rfl hl.1 rfl (Nat.le_of_ble_eq_true rfl) ⟨Nat.zero_le _, Nat.zero_le _⟩ dX9_bestChance_1 (fun H locs  S => ?_)
  refine lv_aload_n hx hb dX9_bestChance_4 rfl (lv_at hl 0 rfl) ?_
  refine lv_iload_n hx hb dX9_bestChance_5 rfl (lv_at hl 1 rfl) ?_
  refine lv_iload_n hx hb dX9_bestChance_6 rfl (lv_at hl 2 rfl) ?_
  refine lv_iload_n hx hb dX9_bestChance_7 rfl (lv_at hl 3 rfl) ?_
  obtain ⟨q3, e4, hz⟩ := bd hz
  refine g_callVi (As := [.int x1, .int x2, .int x3]) (rest := []) F S (c_X9_bestWhy l G x1 x2 x3  _ e4) (cw_X9_bestChance_X9_bestWhy_370 hg) (S.obj (by decide) (by decide) rfl (oc_X9 _ _ _ (by decide))) rfl hl.1 rfl (Nat.le_of_ble_eq_true rfl) ⟨Nat.zero_le _, Nat.zero_le _⟩ dX9_bestChance_8 (fun H locs  S => ?_)
  refine lv_istore (lv' := [(5, .int q3.1), (0, .ref (gad G 130)), (1, .int x1), (2, .int x2), (3, .int x3), (4, .int x4)]) hx hb dX9_bestChance_11 hl (by decide) rfl (fun ls hl => ?_)
  refine lv_iload hx hb dX9_bestChance_13 (lv_at hl 0 rfl) ?_
  refine lv_if_eq (tgt := 26) hx hb dX9_bestChance_15 (by decide) (fun c5 => ?_) (fun c5 => ?_)
  · have hz := ipt (c5) hz
    refine lv_aload_n hx hb dX9_bestChance_26 rfl (lv_at hl 1 rfl) ?_
    refine lv_iload_n hx hb dX9_bestChance_27 rfl (lv_at hl 2 rfl) ?_
    refine lv_iload_n hx hb dX9_bestChance_28 rfl (lv_at hl 3 rfl) ?_
    refine lv_iload_n hx hb dX9_bestChance_29 rfl (lv_at hl 4 rfl) ?_
    obtain ⟨q6, e7, hz⟩ := bd hz
    refine g_callVi (As := [.int x1, .int x2, .int x3]) (rest := []) F S (c_X9_findBest l G x1 x2 x3  _ e7) (cw_X9_bestChance_X9_findBest_373 hg) (S.obj (by decide) (by decide) rfl (oc_X9 _ _ _ (by decide))) rfl hl.1 rfl (Nat.le_of_ble_eq_true rfl) ⟨Nat.zero_le _, Nat.zero_le _⟩ dX9_bestChance_30 (fun H locs  S => ?_)
    refine lv_if_ge (tgt := 45) hx hb dX9_bestChance_33 (by decide) (fun c8 => ?_) (fun c8 => ?_)
    · have hz := ipt (c8) hz
      refine lv_aload_n hx hb dX9_bestChance_45 rfl (lv_at hl 1 rfl) ?_
      refine fg_X9_34 hx hb (fun q h => hg q (tl_X9 q h)) hown (hg _ t_fl_X9_367) S (by decide) dX9_bestChance_46 ?_
      refine lv_aload_n hx hb dX9_bestChance_49 rfl (lv_at hl 1 rfl) ?_
      refine fg_X9_30 hx hb (fun q h => hg q (tl_X9 q h)) hown (hg _ t_fl_X9_255) S (by decide) dX9_bestChance_50 ?_
      refine lv_iload hx hb dX9_bestChance_53 (lv_at hl 5 rfl) ?_
      obtain ⟨q9, e10, hz⟩ := bd hz
      refine g_callSl (As := [.long (gL q6.2 130 34), .long (gL q6.2 130 30), .int x4]) (rest := []) F S (c_X9_lowest l G (gL q6.2 130 34) (gL q6.2 130 30) x4  _ e10) (cw_X9_bestChance_X9_lowest_334 hg) rfl hl.1 rfl (Nat.le_of_ble_eq_true rfl) ⟨Nat.zero_le _, Nat.zero_le _⟩ dX9_bestChance_55 (fun H locs  S => ?_)
      exact g_retl hx hb hr hlk S hz dX9_bestChance_58
    · have hz := ipf (c8) hz
      refine lv_aload_n hx hb dX9_bestChance_36 rfl (lv_at hl 1 rfl) ?_
      refine lv_iconst (v := 3) hx hb dX9_bestChance_37 (by decide) ?_
      obtain ⟨q11, e12, hz⟩ := bd hz
      refine g_callVi (As := [.int 3]) (rest := []) F S (c_X9_no l G 3  _ e12) (cw_X9_bestChance_X9_no_153 hg) (S.obj (by decide) (by decide) rfl (oc_X9 _ _ _ (by decide))) rfl hl.1 rfl (Nat.le_of_ble_eq_true rfl) ⟨Nat.zero_le _, Nat.zero_le _⟩ dX9_bestChance_38 (fun H locs  S => ?_)
      refine lv_i2l (v := q11.1.toInt64) hx hb dX9_bestChance_41 rfl ?_
      refine lv_goto (tgt := 58) hx hb dX9_bestChance_42 (by decide) ?_
      exact g_retl hx hb hr hlk S hz dX9_bestChance_58
  · have hz := ipf (c5) hz
    refine lv_aload_n hx hb dX9_bestChance_18 rfl (lv_at hl 1 rfl) ?_
    refine lv_iload hx hb dX9_bestChance_19 (lv_at hl 0 rfl) ?_
    obtain ⟨q13, e14, hz⟩ := bd hz
    refine g_callVi (As := [.int q3.1]) (rest := []) F S (c_X9_no l G q3.1  _ e14) (cw_X9_bestChance_X9_no_153 hg) (S.obj (by decide) (by decide) rfl (oc_X9 _ _ _ (by decide))) rfl hl.1 rfl (Nat.le_of_ble_eq_true rfl) ⟨Nat.zero_le _, Nat.zero_le _⟩ dX9_bestChance_21 (fun H locs  S => ?_)
    refine lv_i2l (v := q13.1.toInt64) hx hb dX9_bestChance_24 rfl ?_
    exact g_retl hx hb hr hlk S hz dX9_bestChance_25
noncomputable def f_X9_isLikelier_16  : Nat → Int32 → Int32 → Int32 → GW → Option (Int32 × GW)
  | 0, _, _, _, _ => none
  | n9 + 1, x1, x2, x3, w =>
    if inb 39 135 then
    if (gI w 133 (ix 39)) ≤ x3 then
      (f_X9_compareBig 144 145 w).bind fun q7 =>
      if q7.1 ≤ 0 then
        some (0, q7.2)
      else
        some (1, q7.2)
    else
      if inb ((8 * x1) + x3) 48 then
      (f_X9_timesBig 144 (gL w 147 (ix ((8 * x1) + x3))) w).bind fun q11 =>
      if inb x2 6 then
      (f_X9_timesBig 144 (gL q11.2 148 (ix x2)) q11.2).bind fun q14 =>
      if inb ((8 * x2) + x3) 48 then
      (f_X9_timesBig 145 (gL q14.2 147 (ix ((8 * x2) + x3))) q14.2).bind fun q17 =>
      if inb x1 6 then
      (f_X9_timesBig 145 (gL q17.2 148 (ix x1)) q17.2).bind fun q20 =>
      f_X9_isLikelier_16 n9 x1 x2 (x3 + 1) q20.2
      else none
      else none
      else none
      else none
    else none
noncomputable def f_X9_isLikelier (x1 : Int32) (x2 : Int32) (w : GW) : Option (Int32 × GW) :=
  (f_X9_setBig 144 w).bind fun q1 =>
  (f_X9_setBig 145 q1.2).bind fun q3 =>
  f_X9_isLikelier_16 fu x1 x2 0 q3.2
set_option maxHeartbeats 4000000 in
set_option maxRecDepth 100000 in
theorem w_X9_isLikelier_16 {p : Program} {l : Launch} {e : Env} {s : State} {m : MethodId} {args : Array Value} {below : List Frame} {meth : Method} {c : Code} {G : GG} (F : CallFix p m c cX9_isLikelier 4 s args (wsU yX9_isLikelier cX9_isLikelier 4 (some .boolean)) RX9) (hr : meth.sig.returnType = (some .boolean)) (hlk : meth.locks = false) {z : Int32 × GW} : ∀ (n9 : Nat), (∀ (x1 : Int32) (x2 : Int32) (x3 : Int32) (w : GW) (H : Heap) (locs : List Loc) (ls : Array Slot), St G w s H locs → lv_has ls 4 [(0, .ref (gad G 130)), (1, .int x1), (2, .int x2), (3, .int x3)] → f_X9_isLikelier_16 n9 x1 x2 x3 w = some z → W p l e (headSpec (wsU yX9_isLikelier cX9_isLikelier 4 (some .boolean)) rm_X9_isLikelier).room s m args below meth c H locs 0 0 (MQ below (QB G z) args s 0 0 (gA G)) (F0 m 16 ls [])) := by
  obtain ⟨hx, hb, hml, hown, hts⟩ := id F
  have hg : ∀ q ∈ lwg, q.before args s = true := fun q h => hts q (List.mem_cons_of_mem _ h)
  intro n9
  induction n9 with
  | zero =>
    intro x1 x2 x3 w H locs ls S hl hz
    rw [f_X9_isLikelier_16] at hz
    cases hz
  | succ n9 ih =>
    intro x1 x2 x3 w H locs ls S hl hz
    rw [f_X9_isLikelier_16] at hz
    refine lv_iload_n hx hb dX9_isLikelier_16 rfl (lv_at hl 3 rfl) ?_
    refine lv_aload_n hx hb dX9_isLikelier_17 rfl (lv_at hl 0 rfl) ?_
    refine fg_X9_15 hx hb (fun q h => hg q (tl_X9 q h)) hown (hg _ t_fl_X9_20) S (by decide) dX9_isLikelier_18 ?_
    refine lv_bipush (v := 39) hx hb dX9_isLikelier_21 (by decide) ?_
    obtain ⟨h5, hz⟩ := ck hz
    refine g_iald hx hb S (isA_15 (by decide)) h5 dX9_isLikelier_23 ?_
    refine lv_icmp_ge (tgt := 99) hx hb dX9_isLikelier_24 (by decide) (fun c6 => ?_) (fun c6 => ?_)
    · have hz := ipt (c6) hz
      refine lv_aload_n hx hb dX9_isLikelier_99 rfl (lv_at hl 0 rfl) ?_
      refine fg_X9_31 hx hb (fun q h => hg q (tl_X9 q h)) hown (hg _ t_fl_X9_54) S (by decide) dX9_isLikelier_100 ?_
      refine lv_aload_n hx hb dX9_isLikelier_103 rfl (lv_at hl 0 rfl) ?_
      refine fg_X9_32 hx hb (fun q h => hg q (tl_X9 q h)) hown (hg _ t_fl_X9_57) S (by decide) dX9_isLikelier_104 ?_
      obtain ⟨q7, e8, hz⟩ := bd hz
      refine g_callSi (As := [.ref (gad G 144), .ref (gad G 145)]) (rest := []) F S (c_X9_compareBig l G 144 145 (by decide) (by decide) _ e8) (cw_X9_isLikelier_X9_compareBig_360 hg) rfl hl.1 rfl (Nat.le_of_ble_eq_true rfl) ⟨Nat.zero_le _, Nat.zero_le _⟩ dX9_isLikelier_107 (fun H locs  S => ?_)
      refine lv_if_le (tgt := 117) hx hb dX9_isLikelier_110 (by decide) (fun c9 => ?_) (fun c9 => ?_)
      · have hz := ipt (c9) hz
        refine lv_iconst (v := 0) hx hb dX9_isLikelier_117 (by decide) ?_
        exact g_retb hx hb hr hlk S isB_0 hz dX9_isLikelier_118
      · have hz := ipf (c9) hz
        refine lv_iconst (v := 1) hx hb dX9_isLikelier_113 (by decide) ?_
        refine lv_goto (tgt := 118) hx hb dX9_isLikelier_114 (by decide) ?_
        exact g_retb hx hb hr hlk S isB_1 hz dX9_isLikelier_118
    · have hz := ipf (c6) hz
      refine lv_aload_n hx hb dX9_isLikelier_27 rfl (lv_at hl 0 rfl) ?_
      refine lv_aload_n hx hb dX9_isLikelier_28 rfl (lv_at hl 0 rfl) ?_
      refine fg_X9_31 hx hb (fun q h => hg q (tl_X9 q h)) hown (hg _ t_fl_X9_54) S (by decide) dX9_isLikelier_29 ?_
      refine lv_aload_n hx hb dX9_isLikelier_32 rfl (lv_at hl 0 rfl) ?_
      refine fg_X9_35 hx hb (fun q h => hg q (tl_X9 q h)) hown (hg _ t_fl_X9_63) S (by decide) dX9_isLikelier_33 ?_
      refine lv_bipush (v := 8) hx hb dX9_isLikelier_36 (by decide) ?_
      refine lv_iload_n hx hb dX9_isLikelier_38 rfl (lv_at hl 1 rfl) ?_
      refine lv_imul hx hb dX9_isLikelier_39 ?_
      refine lv_iload_n hx hb dX9_isLikelier_40 rfl (lv_at hl 3 rfl) ?_
      refine lv_iadd hx hb dX9_isLikelier_41 ?_
      obtain ⟨h10, hz⟩ := ck hz
      refine g_lald hx hb S (isA_28 (by decide)) h10 dX9_isLikelier_42 ?_
      obtain ⟨q11, e12, hz⟩ := bd hz
      refine g_callVv (As := [.ref (gad G 144), .long (gL w 147 (ix ((8 * x1) + x3)))]) (rest := []) F S (c_X9_timesBig l G 144 (gL w 147 (ix ((8 * x1) + x3))) (by decide) _ e12) (cw_X9_isLikelier_X9_timesBig_356 hg) (S.obj (by decide) (by decide) rfl (oc_X9 _ _ _ (by decide))) rfl hl.1 rfl (Nat.le_of_ble_eq_true rfl) ⟨Nat.zero_le _, Nat.zero_le _⟩ dX9_isLikelier_43 (fun H locs  S => ?_)
      refine lv_aload_n hx hb dX9_isLikelier_46 rfl (lv_at hl 0 rfl) ?_
      refine lv_aload_n hx hb dX9_isLikelier_47 rfl (lv_at hl 0 rfl) ?_
      refine fg_X9_31 hx hb (fun q h => hg q (tl_X9 q h)) hown (hg _ t_fl_X9_54) S (by decide) dX9_isLikelier_48 ?_
      refine lv_aload_n hx hb dX9_isLikelier_51 rfl (lv_at hl 0 rfl) ?_
      refine fg_X9_36 hx hb (fun q h => hg q (tl_X9 q h)) hown (hg _ t_fl_X9_66) S (by decide) dX9_isLikelier_52 ?_
      refine lv_iload_n hx hb dX9_isLikelier_55 rfl (lv_at hl 2 rfl) ?_
      obtain ⟨h13, hz⟩ := ck hz
      refine g_lald hx hb S (isA_26 (by decide)) h13 dX9_isLikelier_56 ?_
      obtain ⟨q14, e15, hz⟩ := bd hz
      refine g_callVv (As := [.ref (gad G 144), .long (gL q11.2 148 (ix x2))]) (rest := []) F S (c_X9_timesBig l G 144 (gL q11.2 148 (ix x2)) (by decide) _ e15) (cw_X9_isLikelier_X9_timesBig_356 hg) (S.obj (by decide) (by decide) rfl (oc_X9 _ _ _ (by decide))) rfl hl.1 rfl (Nat.le_of_ble_eq_true rfl) ⟨Nat.zero_le _, Nat.zero_le _⟩ dX9_isLikelier_57 (fun H locs  S => ?_)
      refine lv_aload_n hx hb dX9_isLikelier_60 rfl (lv_at hl 0 rfl) ?_
      refine lv_aload_n hx hb dX9_isLikelier_61 rfl (lv_at hl 0 rfl) ?_
      refine fg_X9_32 hx hb (fun q h => hg q (tl_X9 q h)) hown (hg _ t_fl_X9_57) S (by decide) dX9_isLikelier_62 ?_
      refine lv_aload_n hx hb dX9_isLikelier_65 rfl (lv_at hl 0 rfl) ?_
      refine fg_X9_35 hx hb (fun q h => hg q (tl_X9 q h)) hown (hg _ t_fl_X9_63) S (by decide) dX9_isLikelier_66 ?_
      refine lv_bipush (v := 8) hx hb dX9_isLikelier_69 (by decide) ?_
      refine lv_iload_n hx hb dX9_isLikelier_71 rfl (lv_at hl 2 rfl) ?_
      refine lv_imul hx hb dX9_isLikelier_72 ?_
      refine lv_iload_n hx hb dX9_isLikelier_73 rfl (lv_at hl 3 rfl) ?_
      refine lv_iadd hx hb dX9_isLikelier_74 ?_
      obtain ⟨h16, hz⟩ := ck hz
      refine g_lald hx hb S (isA_28 (by decide)) h16 dX9_isLikelier_75 ?_
      obtain ⟨q17, e18, hz⟩ := bd hz
      refine g_callVv (As := [.ref (gad G 145), .long (gL q14.2 147 (ix ((8 * x2) + x3)))]) (rest := []) F S (c_X9_timesBig l G 145 (gL q14.2 147 (ix ((8 * x2) + x3))) (by decide) _ e18) (cw_X9_isLikelier_X9_timesBig_356 hg) (S.obj (by decide) (by decide) rfl (oc_X9 _ _ _ (by decide))) rfl hl.1 rfl (Nat.le_of_ble_eq_true rfl) ⟨Nat.zero_le _, Nat.zero_le _⟩ dX9_isLikelier_76 (fun H locs  S => ?_)
      refine lv_aload_n hx hb dX9_isLikelier_79 rfl (lv_at hl 0 rfl) ?_
      refine lv_aload_n hx hb dX9_isLikelier_80 rfl (lv_at hl 0 rfl) ?_
      refine fg_X9_32 hx hb (fun q h => hg q (tl_X9 q h)) hown (hg _ t_fl_X9_57) S (by decide) dX9_isLikelier_81 ?_
      refine lv_aload_n hx hb dX9_isLikelier_84 rfl (lv_at hl 0 rfl) ?_
      refine fg_X9_36 hx hb (fun q h => hg q (tl_X9 q h)) hown (hg _ t_fl_X9_66) S (by decide) dX9_isLikelier_85 ?_
      refine lv_iload_n hx hb dX9_isLikelier_88 rfl (lv_at hl 1 rfl) ?_
      obtain ⟨h19, hz⟩ := ck hz
      refine g_lald hx hb S (isA_26 (by decide)) h19 dX9_isLikelier_89 ?_
      obtain ⟨q20, e21, hz⟩ := bd hz
      refine g_callVv (As := [.ref (gad G 145), .long (gL q17.2 148 (ix x1))]) (rest := []) F S (c_X9_timesBig l G 145 (gL q17.2 148 (ix x1)) (by decide) _ e21) (cw_X9_isLikelier_X9_timesBig_356 hg) (S.obj (by decide) (by decide) rfl (oc_X9 _ _ _ (by decide))) rfl hl.1 rfl (Nat.le_of_ble_eq_true rfl) ⟨Nat.zero_le _, Nat.zero_le _⟩ dX9_isLikelier_90 (fun H locs  S => ?_)
      refine lv_iinc (v := (x3 + 1)) (lv' := [(3, .int (x3 + 1)), (0, .ref (gad G 130)), (1, .int x1), (2, .int x2)]) hx hb dX9_isLikelier_93 hl (k := 3) rfl rfl (by decide) rfl (fun ls hl => ?_)
      refine lv_goto (tgt := 16) hx hb dX9_isLikelier_96 (by decide) ?_
      exact ih x1 x2 (x3 + 1)  _ _ _ _ S (lv_sub hl [1, 2, 3, 0] rfl) hz
set_option maxHeartbeats 4000000 in
set_option maxRecDepth 100000 in
theorem c_X9_isLikelier (l : Launch) (G : GG) (x1 : Int32) (x2 : Int32)  (w : GW) {z : Int32 × GW} (hz : f_X9_isLikelier x1 x2 w = some z) : Met l yX9_isLikelier (wsU yX9_isLikelier cX9_isLikelier 4 (some .boolean)) rm_X9_isLikelier (va_Pc [.ref (gad G 130), .int x1, .int x2] (PreG G w)) (QB G z) 0 0 (gA G) := by
  refine Met.ofW (cc := cX9_isLikelier) (maxL := 4) (ret := (some .boolean)) (by decide) rfl ?_
  intro p e s m args below meth c s₁ B hml hv
  obtain ⟨rfl, S⟩ := hv
  have F : CallFix p m c cX9_isLikelier 4 s _ (wsU yX9_isLikelier cX9_isLikelier 4 (some .boolean)) RX9 := ⟨B.exec, B.bytes, hml, findClass_of_methodNamed B.named, atoms_spec B.pre⟩
  have hr := B.returns
  have hlk := B.notSynchronized
  obtain ⟨hx, hb, -, hown, hts⟩ := id F
  have hg : ∀ q ∈ lwg, q.before _ s = true := fun q h => hts q (List.mem_cons_of_mem _ h)
  refine g_entry (Nat.le_of_ble_eq_true rfl) (fun ls hl => ?_)
  have hl : lv_has ls 4 [(0, .ref (gad G 130)), (1, .int x1), (2, .int x2)] := hl
  have S : St G w s s.heap [] := S
  generalize s.heap = H at S ⊢
  generalize ([] : List Loc) = locs at S ⊢
  rw [f_X9_isLikelier] at hz
  refine lv_aload_n hx hb dX9_isLikelier_0 rfl (lv_at hl 0 rfl) ?_
  refine fg_X9_31 hx hb (fun q h => hg q (tl_X9 q h)) hown (hg _ t_fl_X9_54) S (by decide) dX9_isLikelier_1 ?_
  obtain ⟨q1, e2, hz⟩ := bd hz
  refine g_callSv (As := [.ref (gad G 144)]) (rest := []) F S (c_X9_setBig l G 144 (by decide) _ e2) (cw_X9_isLikelier_X9_setBig_352 hg) rfl hl.1 rfl (Nat.le_of_ble_eq_true rfl) ⟨Nat.zero_le _, Nat.zero_le _⟩ dX9_isLikelier_4 (fun H locs  S => ?_)
  refine lv_aload_n hx hb dX9_isLikelier_7 rfl (lv_at hl 0 rfl) ?_
  refine fg_X9_32 hx hb (fun q h => hg q (tl_X9 q h)) hown (hg _ t_fl_X9_57) S (by decide) dX9_isLikelier_8 ?_
  obtain ⟨q3, e4, hz⟩ := bd hz
  refine g_callSv (As := [.ref (gad G 145)]) (rest := []) F S (c_X9_setBig l G 145 (by decide) _ e4) (cw_X9_isLikelier_X9_setBig_352 hg) rfl hl.1 rfl (Nat.le_of_ble_eq_true rfl) ⟨Nat.zero_le _, Nat.zero_le _⟩ dX9_isLikelier_11 (fun H locs  S => ?_)
  refine lv_iconst (v := 0) hx hb dX9_isLikelier_14 (by decide) ?_
  refine lv_istore_n (lv' := [(3, .int 0), (0, .ref (gad G 130)), (1, .int x1), (2, .int x2)]) hx hb dX9_isLikelier_15 rfl hl (by decide) rfl (fun ls hl => ?_)
  exact w_X9_isLikelier_16 F hr hlk fu x1 x2 0 _ _ _ _ S (lv_sub hl [1, 2, 3, 0] rfl) hz
noncomputable def f_X9_likely_205 (k_123 : Int32 → Int32 → GW → Option (Int32 × GW)) (x1 : Int32) (x2 : Int32) (w : GW) : Option (Int32 × GW) :=
  k_123 x1 (x2 + 1) w
noncomputable def f_X9_likely_203 (k_123 : Int32 → Int32 → GW → Option (Int32 × GW)) (x2 : Int32) (w : GW) : Option (Int32 × GW) :=
  f_X9_likely_205 k_123 x2 x2 w
noncomputable def f_X9_likely_177 (k_123 : Int32 → Int32 → GW → Option (Int32 × GW)) (k_139 : Int32 → Int32 → Int32 → Int32 → GW → Option (Int32 × GW)) (x1 : Int32) (x2 : Int32) (x4 : Int32) (t0 : Int32) (w : GW) : Option (Int32 × GW) :=
  k_139 x1 x2 t0 (x4 + 1) w
noncomputable def f_X9_likely_176 (k_123 : Int32 → Int32 → GW → Option (Int32 × GW)) (k_139 : Int32 → Int32 → Int32 → Int32 → GW → Option (Int32 × GW)) (x1 : Int32) (x2 : Int32) (x4 : Int32) (w : GW) : Option (Int32 × GW) :=
  f_X9_likely_177 k_123 k_139 x1 x2 x4 0 w
noncomputable def f_X9_likely_139 (k_123 : Int32 → Int32 → GW → Option (Int32 × GW)) : Nat → Int32 → Int32 → Int32 → Int32 → GW → Option (Int32 × GW)
  | 0, _, _, _, _, _ => none
  | n9 + 1, x1, x2, x3, x4, w =>
    if inb 39 135 then
    if (gI w 133 (ix 39)) ≤ x4 then
      if x3 = 0 then
        f_X9_likely_205 k_123 x1 x2 w
      else
        if x1 = (-2) then
          f_X9_likely_203 k_123 x2 w
        else
          (f_X9_isLikelier x2 x1 w).bind fun q14 =>
          if q14.1 = 0 then
            f_X9_likely_205 k_123 x1 x2 q14.2
          else
            f_X9_likely_203 k_123 x2 q14.2
    else
      if x3 = 0 then
        f_X9_likely_176 k_123 (f_X9_likely_139 k_123 n9) x1 x2 x4 w
      else
        if inb ((8 * x2) + x4) 48 then
        if (gL w 147 (ix ((8 * x2) + x4))) ≤ 0 then
          f_X9_likely_176 k_123 (f_X9_likely_139 k_123 n9) x1 x2 x4 w
        else
          f_X9_likely_177 k_123 (f_X9_likely_139 k_123 n9) x1 x2 x4 1 w
        else none
    else none
noncomputable def f_X9_likely_123  : Nat → Int32 → Int32 → GW → Option (Int32 × GW)
  | 0, _, _, _ => none
  | n9 + 1, x1, x2, w =>
    if inb 17 135 then
    if (gI w 133 (ix 17)) ≤ x2 then
      some (x1, w)
    else
      f_X9_likely_139 (f_X9_likely_123 n9) fu x1 x2 1 0 w
    else none
noncomputable def f_X9_likely_79 (k_36 : Int32 → GW → Option (Int32 × GW)) : Nat → Int32 → Int32 → GW → Option (Int32 × GW)
  | 0, _, _, _ => none
  | n9 + 1, x1, x2, w =>
    if inb 39 135 then
    if (gI w 133 (ix 39)) ≤ x2 then
      k_36 (x1 + 1) w
    else
      (f_X9_waysOfLay x2 w).bind fun q29 =>
      if inb ((8 * x1) + x2) 48 then
      f_X9_likely_79 k_36 n9 x1 (x2 + 1) (sL q29.2 147 (ix ((8 * x1) + x2)) q29.1)
      else none
    else none
noncomputable def f_X9_likely_36  : Nat → Int32 → GW → Option (Int32 × GW)
  | 0, _, _ => none
  | n9 + 1, x1, w =>
    if inb 17 135 then
    if (gI w 133 (ix 17)) ≤ x1 then
      f_X9_likely_123 fu (-2) 0 w
    else
      if inb 1 135 then
      (f_X9_laysBy x1 (gI w 133 (ix 1)) w).bind fun q22 =>
      if q22.1 = 0 then
        (f_X9_no 3 q22.2).bind fun q32 =>
        some (q32.1, q32.2)
      else
        if inb x1 6 then
        f_X9_likely_79 (f_X9_likely_36 n9) fu x1 0 (sL q22.2 148 (ix x1) (gL q22.2 130 30))
        else none
      else none
    else none
noncomputable def f_X9_likely  (w : GW) : Option (Int32 × GW) :=
  (f_X9_good w).bind fun q1 =>
  if (gI q1.2 130 14) = 0 then
    (f_X9_no 1 q1.2).bind fun q36 =>
    some (q36.1, q36.2)
  else
    if inb 39 135 then
    if (gI q1.2 133 (ix 39)) = 0 then
      (f_X9_no 6 q1.2).bind fun q34 =>
      some (q34.1, q34.2)
    else
      f_X9_likely_36 fu 0 q1.2
    else none
set_option maxHeartbeats 4000000 in
set_option maxRecDepth 100000 in
theorem w_X9_likely_205 {p : Program} {l : Launch} {e : Env} {s : State} {m : MethodId} {args : Array Value} {below : List Frame} {meth : Method} {c : Code} {G : GG} (F : CallFix p m c cX9_likely 5 s args (wsU yX9_likely cX9_likely 5 (some .int)) RX9) (hr : meth.sig.returnType = (some .int)) (hlk : meth.locks = false) {z : Int32 × GW} {k_123 : Int32 → Int32 → GW → Option (Int32 × GW)} (Hk_123 : (∀ (x1 : Int32) (x2 : Int32) (w : GW) (H : Heap) (locs : List Loc) (ls : Array Slot), St G w s H locs → lv_has ls 5 [(0, .ref (gad G 130)), (1, .int x1), (2, .int x2)] → k_123 x1 x2 w = some z → W p l e (headSpec (wsU yX9_likely cX9_likely 5 (some .int)) rm_X9_likely).room s m args below meth c H locs 0 0 (MQ below (QI G z) args s 0 0 (gA G)) (F0 m 123 ls []))) : (∀ (x1 : Int32) (x2 : Int32) (w : GW) (H : Heap) (locs : List Loc) (ls : Array Slot), St G w s H locs → lv_has ls 5 [(0, .ref (gad G 130)), (1, .int x1), (2, .int x2)] → f_X9_likely_205 k_123 x1 x2 w = some z → W p l e (headSpec (wsU yX9_likely cX9_likely 5 (some .int)) rm_X9_likely).room s m args below meth c H locs 0 0 (MQ below (QI G z) args s 0 0 (gA G)) (F0 m 205 ls [])) := by
  obtain ⟨hx, hb, hml, hown, hts⟩ := id F
  have hg : ∀ q ∈ lwg, q.before args s = true := fun q h => hts q (List.mem_cons_of_mem _ h)
  intro x1 x2 w H locs ls S hl hz
  rw [f_X9_likely_205] at hz
  refine lv_iinc (v := (x2 + 1)) (lv' := [(2, .int (x2 + 1)), (0, .ref (gad G 130)), (1, .int x1)]) hx hb dX9_likely_205 hl (k := 2) rfl rfl (by decide) rfl (fun ls hl => ?_)
  refine lv_goto (tgt := 123) hx hb dX9_likely_208 (by decide) ?_
  exact Hk_123 x1 (x2 + 1)  _ _ _ _ S (lv_sub hl [1, 2, 0] rfl) hz
set_option maxHeartbeats 4000000 in
set_option maxRecDepth 100000 in
theorem w_X9_likely_203 {p : Program} {l : Launch} {e : Env} {s : State} {m : MethodId} {args : Array Value} {below : List Frame} {meth : Method} {c : Code} {G : GG} (F : CallFix p m c cX9_likely 5 s args (wsU yX9_likely cX9_likely 5 (some .int)) RX9) (hr : meth.sig.returnType = (some .int)) (hlk : meth.locks = false) {z : Int32 × GW} {k_123 : Int32 → Int32 → GW → Option (Int32 × GW)} (Hk_123 : (∀ (x1 : Int32) (x2 : Int32) (w : GW) (H : Heap) (locs : List Loc) (ls : Array Slot), St G w s H locs → lv_has ls 5 [(0, .ref (gad G 130)), (1, .int x1), (2, .int x2)] → k_123 x1 x2 w = some z → W p l e (headSpec (wsU yX9_likely cX9_likely 5 (some .int)) rm_X9_likely).room s m args below meth c H locs 0 0 (MQ below (QI G z) args s 0 0 (gA G)) (F0 m 123 ls []))) : (∀ (x2 : Int32) (w : GW) (H : Heap) (locs : List Loc) (ls : Array Slot), St G w s H locs → lv_has ls 5 [(0, .ref (gad G 130)), (2, .int x2)] → f_X9_likely_203 k_123 x2 w = some z → W p l e (headSpec (wsU yX9_likely cX9_likely 5 (some .int)) rm_X9_likely).room s m args below meth c H locs 0 0 (MQ below (QI G z) args s 0 0 (gA G)) (F0 m 203 ls [])) := by
  obtain ⟨hx, hb, hml, hown, hts⟩ := id F
  have hg : ∀ q ∈ lwg, q.before args s = true := fun q h => hts q (List.mem_cons_of_mem _ h)
  intro x2 w H locs ls S hl hz
  rw [f_X9_likely_203] at hz
  refine lv_iload_n hx hb dX9_likely_203 rfl (lv_at hl 1 rfl) ?_
  refine lv_istore_n (lv' := [(1, .int x2), (0, .ref (gad G 130)), (2, .int x2)]) hx hb dX9_likely_204 rfl hl (by decide) rfl (fun ls hl => ?_)
  exact w_X9_likely_205 F hr hlk Hk_123 x2 x2 _ _ _ _ S (lv_sub hl [1, 0, 2] rfl) hz
set_option maxHeartbeats 4000000 in
set_option maxRecDepth 100000 in
theorem w_X9_likely_177 {p : Program} {l : Launch} {e : Env} {s : State} {m : MethodId} {args : Array Value} {below : List Frame} {meth : Method} {c : Code} {G : GG} (F : CallFix p m c cX9_likely 5 s args (wsU yX9_likely cX9_likely 5 (some .int)) RX9) (hr : meth.sig.returnType = (some .int)) (hlk : meth.locks = false) {z : Int32 × GW} {k_123 : Int32 → Int32 → GW → Option (Int32 × GW)} (Hk_123 : (∀ (x1 : Int32) (x2 : Int32) (w : GW) (H : Heap) (locs : List Loc) (ls : Array Slot), St G w s H locs → lv_has ls 5 [(0, .ref (gad G 130)), (1, .int x1), (2, .int x2)] → k_123 x1 x2 w = some z → W p l e (headSpec (wsU yX9_likely cX9_likely 5 (some .int)) rm_X9_likely).room s m args below meth c H locs 0 0 (MQ below (QI G z) args s 0 0 (gA G)) (F0 m 123 ls []))) {k_139 : Int32 → Int32 → Int32 → Int32 → GW → Option (Int32 × GW)} (Hk_139 : (∀ (x1 : Int32) (x2 : Int32) (x3 : Int32) (x4 : Int32) (w : GW) (H : Heap) (locs : List Loc) (ls : Array Slot), St G w s H locs → lv_has ls 5 [(0, .ref (gad G 130)), (1, .int x1), (2, .int x2), (3, .int x3), (4, .int x4)] → k_139 x1 x2 x3 x4 w = some z → W p l e (headSpec (wsU yX9_likely cX9_likely 5 (some .int)) rm_X9_likely).room s m args below meth c H locs 0 0 (MQ below (QI G z) args s 0 0 (gA G)) (F0 m 139 ls []))) : (∀ (x1 : Int32) (x2 : Int32) (x4 : Int32) (t0 : Int32) (w : GW) (H : Heap) (locs : List Loc) (ls : Array Slot), St G w s H locs → lv_has ls 5 [(0, .ref (gad G 130)), (1, .int x1), (2, .int x2), (4, .int x4)] → f_X9_likely_177 k_123 k_139 x1 x2 x4 t0 w = some z → W p l e (headSpec (wsU yX9_likely cX9_likely 5 (some .int)) rm_X9_likely).room s m args below meth c H locs 0 0 (MQ below (QI G z) args s 0 0 (gA G)) (F0 m 177 ls [.int t0])) := by
  obtain ⟨hx, hb, hml, hown, hts⟩ := id F
  have hg : ∀ q ∈ lwg, q.before args s = true := fun q h => hts q (List.mem_cons_of_mem _ h)
  intro x1 x2 x4 t0 w H locs ls S hl hz
  rw [f_X9_likely_177] at hz
  refine lv_istore_n (lv' := [(3, .int t0), (0, .ref (gad G 130)), (1, .int x1), (2, .int x2), (4, .int x4)]) hx hb dX9_likely_177 rfl hl (by decide) rfl (fun ls hl => ?_)
  refine lv_iinc (v := (x4 + 1)) (lv' := [(4, .int (x4 + 1)), (3, .int t0), (0, .ref (gad G 130)), (1, .int x1), (2, .int x2)]) hx hb dX9_likely_178 hl (k := 4) rfl rfl (by decide) rfl (fun ls hl => ?_)
  refine lv_goto (tgt := 139) hx hb dX9_likely_181 (by decide) ?_
  exact Hk_139 x1 x2 t0 (x4 + 1)  _ _ _ _ S (lv_sub hl [2, 3, 4, 1, 0] rfl) hz
set_option maxHeartbeats 4000000 in
set_option maxRecDepth 100000 in
theorem w_X9_likely_176 {p : Program} {l : Launch} {e : Env} {s : State} {m : MethodId} {args : Array Value} {below : List Frame} {meth : Method} {c : Code} {G : GG} (F : CallFix p m c cX9_likely 5 s args (wsU yX9_likely cX9_likely 5 (some .int)) RX9) (hr : meth.sig.returnType = (some .int)) (hlk : meth.locks = false) {z : Int32 × GW} {k_123 : Int32 → Int32 → GW → Option (Int32 × GW)} (Hk_123 : (∀ (x1 : Int32) (x2 : Int32) (w : GW) (H : Heap) (locs : List Loc) (ls : Array Slot), St G w s H locs → lv_has ls 5 [(0, .ref (gad G 130)), (1, .int x1), (2, .int x2)] → k_123 x1 x2 w = some z → W p l e (headSpec (wsU yX9_likely cX9_likely 5 (some .int)) rm_X9_likely).room s m args below meth c H locs 0 0 (MQ below (QI G z) args s 0 0 (gA G)) (F0 m 123 ls []))) {k_139 : Int32 → Int32 → Int32 → Int32 → GW → Option (Int32 × GW)} (Hk_139 : (∀ (x1 : Int32) (x2 : Int32) (x3 : Int32) (x4 : Int32) (w : GW) (H : Heap) (locs : List Loc) (ls : Array Slot), St G w s H locs → lv_has ls 5 [(0, .ref (gad G 130)), (1, .int x1), (2, .int x2), (3, .int x3), (4, .int x4)] → k_139 x1 x2 x3 x4 w = some z → W p l e (headSpec (wsU yX9_likely cX9_likely 5 (some .int)) rm_X9_likely).room s m args below meth c H locs 0 0 (MQ below (QI G z) args s 0 0 (gA G)) (F0 m 139 ls []))) : (∀ (x1 : Int32) (x2 : Int32) (x4 : Int32) (w : GW) (H : Heap) (locs : List Loc) (ls : Array Slot), St G w s H locs → lv_has ls 5 [(0, .ref (gad G 130)), (1, .int x1), (2, .int x2), (4, .int x4)] → f_X9_likely_176 k_123 k_139 x1 x2 x4 w = some z → W p l e (headSpec (wsU yX9_likely cX9_likely 5 (some .int)) rm_X9_likely).room s m args below meth c H locs 0 0 (MQ below (QI G z) args s 0 0 (gA G)) (F0 m 176 ls [])) := by
  obtain ⟨hx, hb, hml, hown, hts⟩ := id F
  have hg : ∀ q ∈ lwg, q.before args s = true := fun q h => hts q (List.mem_cons_of_mem _ h)
  intro x1 x2 x4 w H locs ls S hl hz
  rw [f_X9_likely_176] at hz
  refine lv_iconst (v := 0) hx hb dX9_likely_176 (by decide) ?_
  exact w_X9_likely_177 F hr hlk Hk_123 Hk_139 x1 x2 x4 0 _ _ _ _ S (lv_sub hl [0, 1, 2, 3] rfl) hz
set_option maxHeartbeats 4000000 in
set_option maxRecDepth 100000 in
theorem w_X9_likely_139 {p : Program} {l : Launch} {e : Env} {s : State} {m : MethodId} {args : Array Value} {below : List Frame} {meth : Method} {c : Code} {G : GG} (F : CallFix p m c cX9_likely 5 s args (wsU yX9_likely cX9_likely 5 (some .int)) RX9) (hr : meth.sig.returnType = (some .int)) (hlk : meth.locks = false) {z : Int32 × GW} {k_123 : Int32 → Int32 → GW → Option (Int32 × GW)} (Hk_123 : (∀ (x1 : Int32) (x2 : Int32) (w : GW) (H : Heap) (locs : List Loc) (ls : Array Slot), St G w s H locs → lv_has ls 5 [(0, .ref (gad G 130)), (1, .int x1), (2, .int x2)] → k_123 x1 x2 w = some z → W p l e (headSpec (wsU yX9_likely cX9_likely 5 (some .int)) rm_X9_likely).room s m args below meth c H locs 0 0 (MQ below (QI G z) args s 0 0 (gA G)) (F0 m 123 ls []))) : ∀ (n9 : Nat), (∀ (x1 : Int32) (x2 : Int32) (x3 : Int32) (x4 : Int32) (w : GW) (H : Heap) (locs : List Loc) (ls : Array Slot), St G w s H locs → lv_has ls 5 [(0, .ref (gad G 130)), (1, .int x1), (2, .int x2), (3, .int x3), (4, .int x4)] → f_X9_likely_139 k_123 n9 x1 x2 x3 x4 w = some z → W p l e (headSpec (wsU yX9_likely cX9_likely 5 (some .int)) rm_X9_likely).room s m args below meth c H locs 0 0 (MQ below (QI G z) args s 0 0 (gA G)) (F0 m 139 ls [])) := by
  obtain ⟨hx, hb, hml, hown, hts⟩ := id F
  have hg : ∀ q ∈ lwg, q.before args s = true := fun q h => hts q (List.mem_cons_of_mem _ h)
  intro n9
  induction n9 with
  | zero =>
    intro x1 x2 x3 x4 w H locs ls S hl hz
    rw [f_X9_likely_139] at hz
    cases hz
  | succ n9 ih =>
    intro x1 x2 x3 x4 w H locs ls S hl hz
    rw [f_X9_likely_139] at hz
    refine lv_iload hx hb dX9_likely_139 (lv_at hl 4 rfl) ?_
    refine lv_aload_n hx hb dX9_likely_141 rfl (lv_at hl 0 rfl) ?_
    refine fg_X9_15 hx hb (fun q h => hg q (tl_X9 q h)) hown (hg _ t_fl_X9_20) S (by decide) dX9_likely_142 ?_
    refine lv_bipush (v := 39) hx hb dX9_likely_145 (by decide) ?_
    obtain ⟨h10, hz⟩ := ck hz
    refine g_iald hx hb S (isA_15 (by decide)) h10 dX9_likely_147 ?_
    refine lv_icmp_ge (tgt := 184) hx hb dX9_likely_148 (by decide) (fun c11 => ?_) (fun c11 => ?_)
    · have hz := ipt (c11) hz
      refine lv_iload_n hx hb dX9_likely_184 rfl (lv_at hl 3 rfl) ?_
      refine lv_if_eq (tgt := 205) hx hb dX9_likely_185 (by decide) (fun c12 => ?_) (fun c12 => ?_)
      · have hz := ipt (c12) hz
        exact w_X9_likely_205 F hr hlk Hk_123 x1 x2 _ _ _ _ S (lv_sub hl [0, 1, 2] rfl) hz
      · have hz := ipf (c12) hz
        refine lv_iload_n hx hb dX9_likely_188 rfl (lv_at hl 1 rfl) ?_
        refine lv_bipush (v := (-2)) hx hb dX9_likely_189 (by decide) ?_
        refine lv_icmp_eq (tgt := 203) hx hb dX9_likely_191 (by decide) (fun c13 => ?_) (fun c13 => ?_)
        · have hz := ipt (c13) hz
          exact w_X9_likely_203 F hr hlk Hk_123 x2 _ _ _ _ S (lv_sub hl [0, 2] rfl) hz
        · have hz := ipf (c13) hz
          refine lv_aload_n hx hb dX9_likely_194 rfl (lv_at hl 0 rfl) ?_
          refine lv_iload_n hx hb dX9_likely_195 rfl (lv_at hl 2 rfl) ?_
          refine lv_iload_n hx hb dX9_likely_196 rfl (lv_at hl 1 rfl) ?_
          obtain ⟨q14, e15, hz⟩ := bd hz
          refine g_callVb (As := [.int x2, .int x1]) (rest := []) F S (c_X9_isLikelier l G x2 x1  _ e15) (cw_X9_likely_X9_isLikelier_376 hg) (S.obj (by decide) (by decide) rfl (oc_X9 _ _ _ (by decide))) rfl hl.1 rfl (Nat.le_of_ble_eq_true rfl) ⟨Nat.zero_le _, Nat.zero_le _⟩ dX9_likely_197 (fun H locs hB16 S => ?_)
          refine lv_if_eq (tgt := 205) hx hb dX9_likely_200 (by decide) (fun c17 => ?_) (fun c17 => ?_)
          · have hz := ipt (c17) hz
            exact w_X9_likely_205 F hr hlk Hk_123 x1 x2 _ _ _ _ S (lv_sub hl [0, 1, 2] rfl) hz
          · have hz := ipf (c17) hz
            exact w_X9_likely_203 F hr hlk Hk_123 x2 _ _ _ _ S (lv_sub hl [0, 2] rfl) hz
    · have hz := ipf (c11) hz
      refine lv_iload_n hx hb dX9_likely_151 rfl (lv_at hl 3 rfl) ?_
      refine lv_if_eq (tgt := 176) hx hb dX9_likely_152 (by decide) (fun c18 => ?_) (fun c18 => ?_)
      · have hz := ipt (c18) hz
        exact w_X9_likely_176 F hr hlk Hk_123 ih x1 x2 x4 _ _ _ _ S (lv_sub hl [0, 1, 2, 4] rfl) hz
      · have hz := ipf (c18) hz
        refine lv_aload_n hx hb dX9_likely_155 rfl (lv_at hl 0 rfl) ?_
        refine fg_X9_35 hx hb (fun q h => hg q (tl_X9 q h)) hown (hg _ t_fl_X9_63) S (by decide) dX9_likely_156 ?_
        refine lv_bipush (v := 8) hx hb dX9_likely_159 (by decide) ?_
        refine lv_iload_n hx hb dX9_likely_161 rfl (lv_at hl 2 rfl) ?_
        refine lv_imul hx hb dX9_likely_162 ?_
        refine lv_iload hx hb dX9_likely_163 (lv_at hl 4 rfl) ?_
        refine lv_iadd hx hb dX9_likely_165 ?_
        obtain ⟨h19, hz⟩ := ck hz
        refine g_lald hx hb S (isA_28 (by decide)) h19 dX9_likely_166 ?_
        refine lv_lconst (v := 0) hx hb dX9_likely_167 (by decide) ?_
        refine W.lcmp hx hb dX9_likely_168 ?_
        refine lv_if_le (tgt := 176) hx hb dX9_likely_169 (by decide) (fun c20 => ?_) (fun c20 => ?_)
        · have hz := ipt ((lg_cmp_le _ _).mp c20) hz
          exact w_X9_likely_176 F hr hlk Hk_123 ih x1 x2 x4 _ _ _ _ S (lv_sub hl [0, 1, 2, 4] rfl) hz
        · have hz := ipf (fun q9 => c20 ((lg_cmp_le _ _).mpr q9)) hz
          refine lv_iconst (v := 1) hx hb dX9_likely_172 (by decide) ?_
          refine lv_goto (tgt := 177) hx hb dX9_likely_173 (by decide) ?_
          exact w_X9_likely_177 F hr hlk Hk_123 ih x1 x2 x4 1 _ _ _ _ S (lv_sub hl [0, 1, 2, 4] rfl) hz
set_option maxHeartbeats 4000000 in
set_option maxRecDepth 100000 in
theorem w_X9_likely_123 {p : Program} {l : Launch} {e : Env} {s : State} {m : MethodId} {args : Array Value} {below : List Frame} {meth : Method} {c : Code} {G : GG} (F : CallFix p m c cX9_likely 5 s args (wsU yX9_likely cX9_likely 5 (some .int)) RX9) (hr : meth.sig.returnType = (some .int)) (hlk : meth.locks = false) {z : Int32 × GW} : ∀ (n9 : Nat), (∀ (x1 : Int32) (x2 : Int32) (w : GW) (H : Heap) (locs : List Loc) (ls : Array Slot), St G w s H locs → lv_has ls 5 [(0, .ref (gad G 130)), (1, .int x1), (2, .int x2)] → f_X9_likely_123 n9 x1 x2 w = some z → W p l e (headSpec (wsU yX9_likely cX9_likely 5 (some .int)) rm_X9_likely).room s m args below meth c H locs 0 0 (MQ below (QI G z) args s 0 0 (gA G)) (F0 m 123 ls [])) := by
  obtain ⟨hx, hb, hml, hown, hts⟩ := id F
  have hg : ∀ q ∈ lwg, q.before args s = true := fun q h => hts q (List.mem_cons_of_mem _ h)
  intro n9
  induction n9 with
  | zero =>
    intro x1 x2 w H locs ls S hl hz
    rw [f_X9_likely_123] at hz
    cases hz
  | succ n9 ih =>
    intro x1 x2 w H locs ls S hl hz
    rw [f_X9_likely_123] at hz
    refine lv_iload_n hx hb dX9_likely_123 rfl (lv_at hl 2 rfl) ?_
    refine lv_aload_n hx hb dX9_likely_124 rfl (lv_at hl 0 rfl) ?_
    refine fg_X9_15 hx hb (fun q h => hg q (tl_X9 q h)) hown (hg _ t_fl_X9_20) S (by decide) dX9_likely_125 ?_
    refine lv_bipush (v := 17) hx hb dX9_likely_128 (by decide) ?_
    obtain ⟨h8, hz⟩ := ck hz
    refine g_iald hx hb S (isA_15 (by decide)) h8 dX9_likely_130 ?_
    refine lv_icmp_ge (tgt := 211) hx hb dX9_likely_131 (by decide) (fun c9 => ?_) (fun c9 => ?_)
    · have hz := ipt (c9) hz
      refine lv_iload_n hx hb dX9_likely_211 rfl (lv_at hl 1 rfl) ?_
      exact g_reti hx hb hr hlk S hz dX9_likely_212
    · have hz := ipf (c9) hz
      refine lv_iconst (v := 1) hx hb dX9_likely_134 (by decide) ?_
      refine lv_istore_n (lv' := [(3, .int 1), (0, .ref (gad G 130)), (1, .int x1), (2, .int x2)]) hx hb dX9_likely_135 rfl hl (by decide) rfl (fun ls hl => ?_)
      refine lv_iconst (v := 0) hx hb dX9_likely_136 (by decide) ?_
      refine lv_istore (lv' := [(4, .int 0), (3, .int 1), (0, .ref (gad G 130)), (1, .int x1), (2, .int x2)]) hx hb dX9_likely_137 hl (by decide) rfl (fun ls hl => ?_)
      exact w_X9_likely_139 F hr hlk ih fu x1 x2 1 0 _ _ _ _ S (lv_sub hl [2, 3, 4, 1, 0] rfl) hz
set_option maxHeartbeats 4000000 in
set_option maxRecDepth 100000 in
theorem w_X9_likely_79 {p : Program} {l : Launch} {e : Env} {s : State} {m : MethodId} {args : Array Value} {below : List Frame} {meth : Method} {c : Code} {G : GG} (F : CallFix p m c cX9_likely 5 s args (wsU yX9_likely cX9_likely 5 (some .int)) RX9) (hr : meth.sig.returnType = (some .int)) (hlk : meth.locks = false) {z : Int32 × GW} {k_36 : Int32 → GW → Option (Int32 × GW)} (Hk_36 : (∀ (x1 : Int32) (w : GW) (H : Heap) (locs : List Loc) (ls : Array Slot), St G w s H locs → lv_has ls 5 [(0, .ref (gad G 130)), (1, .int x1)] → k_36 x1 w = some z → W p l e (headSpec (wsU yX9_likely cX9_likely 5 (some .int)) rm_X9_likely).room s m args below meth c H locs 0 0 (MQ below (QI G z) args s 0 0 (gA G)) (F0 m 36 ls []))) : ∀ (n9 : Nat), (∀ (x1 : Int32) (x2 : Int32) (w : GW) (H : Heap) (locs : List Loc) (ls : Array Slot), St G w s H locs → lv_has ls 5 [(0, .ref (gad G 130)), (1, .int x1), (2, .int x2)] → f_X9_likely_79 k_36 n9 x1 x2 w = some z → W p l e (headSpec (wsU yX9_likely cX9_likely 5 (some .int)) rm_X9_likely).room s m args below meth c H locs 0 0 (MQ below (QI G z) args s 0 0 (gA G)) (F0 m 79 ls [])) := by
  obtain ⟨hx, hb, hml, hown, hts⟩ := id F
  have hg : ∀ q ∈ lwg, q.before args s = true := fun q h => hts q (List.mem_cons_of_mem _ h)
  intro n9
  induction n9 with
  | zero =>
    intro x1 x2 w H locs ls S hl hz
    rw [f_X9_likely_79] at hz
    cases hz
  | succ n9 ih =>
    intro x1 x2 w H locs ls S hl hz
    rw [f_X9_likely_79] at hz
    refine lv_iload_n hx hb dX9_likely_79 rfl (lv_at hl 2 rfl) ?_
    refine lv_aload_n hx hb dX9_likely_80 rfl (lv_at hl 0 rfl) ?_
    refine fg_X9_15 hx hb (fun q h => hg q (tl_X9 q h)) hown (hg _ t_fl_X9_20) S (by decide) dX9_likely_81 ?_
    refine lv_bipush (v := 39) hx hb dX9_likely_84 (by decide) ?_
    obtain ⟨h27, hz⟩ := ck hz
    refine g_iald hx hb S (isA_15 (by decide)) h27 dX9_likely_86 ?_
    refine lv_icmp_ge (tgt := 112) hx hb dX9_likely_87 (by decide) (fun c28 => ?_) (fun c28 => ?_)
    · have hz := ipt (c28) hz
      refine lv_iinc (v := (x1 + 1)) (lv' := [(1, .int (x1 + 1)), (0, .ref (gad G 130)), (2, .int x2)]) hx hb dX9_likely_112 hl (k := 1) rfl rfl (by decide) rfl (fun ls hl => ?_)
      refine lv_goto (tgt := 36) hx hb dX9_likely_115 (by decide) ?_
      exact Hk_36 (x1 + 1)  _ _ _ _ S (lv_sub hl [1, 0] rfl) hz
    · have hz := ipf (c28) hz
      refine lv_aload_n hx hb dX9_likely_90 rfl (lv_at hl 0 rfl) ?_
      refine fg_X9_35 hx hb (fun q h => hg q (tl_X9 q h)) hown (hg _ t_fl_X9_63) S (by decide) dX9_likely_91 ?_
      refine lv_bipush (v := 8) hx hb dX9_likely_94 (by decide) ?_
      refine lv_iload_n hx hb dX9_likely_96 rfl (lv_at hl 1 rfl) ?_
      refine lv_imul hx hb dX9_likely_97 ?_
      refine lv_iload_n hx hb dX9_likely_98 rfl (lv_at hl 2 rfl) ?_
      refine lv_iadd hx hb dX9_likely_99 ?_
      refine lv_aload_n hx hb dX9_likely_100 rfl (lv_at hl 0 rfl) ?_
      refine lv_iload_n hx hb dX9_likely_101 rfl (lv_at hl 2 rfl) ?_
      obtain ⟨q29, e30, hz⟩ := bd hz
      refine g_callVl (As := [.int x2]) (rest := [.int ((8 * x1) + x2), .ref (gad G 147)]) F S (c_X9_waysOfLay l G x2  _ e30) (cw_X9_likely_X9_waysOfLay_347 hg) (S.obj (by decide) (by decide) rfl (oc_X9 _ _ _ (by decide))) rfl hl.1 rfl (Nat.le_of_ble_eq_true rfl) ⟨Nat.zero_le _, Nat.zero_le _⟩ dX9_likely_102 (fun H locs  S => ?_)
      obtain ⟨h31, hz⟩ := ck hz
      refine g_last (x := q29.1) hx hb S (isA_28 (by decide)) h31 dX9_likely_105 (fun H locs S => ?_)
      refine lv_iinc (v := (x2 + 1)) (lv' := [(2, .int (x2 + 1)), (0, .ref (gad G 130)), (1, .int x1)]) hx hb dX9_likely_106 hl (k := 2) rfl rfl (by decide) rfl (fun ls hl => ?_)
      refine lv_goto (tgt := 79) hx hb dX9_likely_109 (by decide) ?_
      exact ih x1 (x2 + 1)  _ _ _ _ S (lv_sub hl [1, 2, 0] rfl) hz
set_option maxHeartbeats 4000000 in
set_option maxRecDepth 100000 in
theorem w_X9_likely_36 {p : Program} {l : Launch} {e : Env} {s : State} {m : MethodId} {args : Array Value} {below : List Frame} {meth : Method} {c : Code} {G : GG} (F : CallFix p m c cX9_likely 5 s args (wsU yX9_likely cX9_likely 5 (some .int)) RX9) (hr : meth.sig.returnType = (some .int)) (hlk : meth.locks = false) {z : Int32 × GW} : ∀ (n9 : Nat), (∀ (x1 : Int32) (w : GW) (H : Heap) (locs : List Loc) (ls : Array Slot), St G w s H locs → lv_has ls 5 [(0, .ref (gad G 130)), (1, .int x1)] → f_X9_likely_36 n9 x1 w = some z → W p l e (headSpec (wsU yX9_likely cX9_likely 5 (some .int)) rm_X9_likely).room s m args below meth c H locs 0 0 (MQ below (QI G z) args s 0 0 (gA G)) (F0 m 36 ls [])) := by
  obtain ⟨hx, hb, hml, hown, hts⟩ := id F
  have hg : ∀ q ∈ lwg, q.before args s = true := fun q h => hts q (List.mem_cons_of_mem _ h)
  intro n9
  induction n9 with
  | zero =>
    intro x1 w H locs ls S hl hz
    rw [f_X9_likely_36] at hz
    cases hz
  | succ n9 ih =>
    intro x1 w H locs ls S hl hz
    rw [f_X9_likely_36] at hz
    refine lv_iload_n hx hb dX9_likely_36 rfl (lv_at hl 1 rfl) ?_
    refine lv_aload_n hx hb dX9_likely_37 rfl (lv_at hl 0 rfl) ?_
    refine fg_X9_15 hx hb (fun q h => hg q (tl_X9 q h)) hown (hg _ t_fl_X9_20) S (by decide) dX9_likely_38 ?_
    refine lv_bipush (v := 17) hx hb dX9_likely_41 (by decide) ?_
    obtain ⟨h6, hz⟩ := ck hz
    refine g_iald hx hb S (isA_15 (by decide)) h6 dX9_likely_43 ?_
    refine lv_icmp_ge (tgt := 118) hx hb dX9_likely_44 (by decide) (fun c7 => ?_) (fun c7 => ?_)
    · have hz := ipt (c7) hz
      refine lv_bipush (v := (-2)) hx hb dX9_likely_118 (by decide) ?_
      refine lv_istore_n (lv' := [(1, .int (-2)), (0, .ref (gad G 130))]) hx hb dX9_likely_120 rfl hl (by decide) rfl (fun ls hl => ?_)
      refine lv_iconst (v := 0) hx hb dX9_likely_121 (by decide) ?_
      refine lv_istore_n (lv' := [(2, .int 0), (1, .int (-2)), (0, .ref (gad G 130))]) hx hb dX9_likely_122 rfl hl (by decide) rfl (fun ls hl => ?_)
      exact w_X9_likely_123 F hr hlk fu (-2) 0 _ _ _ _ S (lv_sub hl [2, 1, 0] rfl) hz
    · have hz := ipf (c7) hz
      refine lv_aload_n hx hb dX9_likely_47 rfl (lv_at hl 0 rfl) ?_
      refine lv_iload_n hx hb dX9_likely_48 rfl (lv_at hl 1 rfl) ?_
      refine lv_aload_n hx hb dX9_likely_49 rfl (lv_at hl 0 rfl) ?_
      refine fg_X9_15 hx hb (fun q h => hg q (tl_X9 q h)) hown (hg _ t_fl_X9_20) S (by decide) dX9_likely_50 ?_
      refine lv_iconst (v := 1) hx hb dX9_likely_53 (by decide) ?_
      obtain ⟨h21, hz⟩ := ck hz
      refine g_iald hx hb S (isA_15 (by decide)) h21 dX9_likely_54 ?_
      obtain ⟨q22, e23, hz⟩ := bd hz
      refine g_callVb (As := [.int x1, .int (gI w 133 (ix 1))]) (rest := []) F S (c_X9_laysBy l G x1 (gI w 133 (ix 1))  _ e23) (cw_X9_likely_X9_laysBy_323 hg) (S.obj (by decide) (by decide) rfl (oc_X9 _ _ _ (by decide))) rfl hl.1 rfl (Nat.le_of_ble_eq_true rfl) ⟨Nat.zero_le _, Nat.zero_le _⟩ dX9_likely_55 (fun H locs hB24 S => ?_)
      refine lv_if_ne (tgt := 67) hx hb dX9_likely_58 (by decide) (fun c25 => ?_) (fun c25 => ?_)
      · have hz := ipf (c25) hz
        refine lv_aload_n hx hb dX9_likely_67 rfl (lv_at hl 0 rfl) ?_
        refine fg_X9_36 hx hb (fun q h => hg q (tl_X9 q h)) hown (hg _ t_fl_X9_66) S (by decide) dX9_likely_68 ?_
        refine lv_iload_n hx hb dX9_likely_71 rfl (lv_at hl 1 rfl) ?_
        refine lv_aload_n hx hb dX9_likely_72 rfl (lv_at hl 0 rfl) ?_
        refine fg_X9_30 hx hb (fun q h => hg q (tl_X9 q h)) hown (hg _ t_fl_X9_255) S (by decide) dX9_likely_73 ?_
        obtain ⟨h26, hz⟩ := ck hz
        refine g_last (x := (gL q22.2 130 30)) hx hb S (isA_26 (by decide)) h26 dX9_likely_76 (fun H locs S => ?_)
        refine lv_iconst (v := 0) hx hb dX9_likely_77 (by decide) ?_
        refine lv_istore_n (lv' := [(2, .int 0), (0, .ref (gad G 130)), (1, .int x1)]) hx hb dX9_likely_78 rfl hl (by decide) rfl (fun ls hl => ?_)
        exact w_X9_likely_79 F hr hlk ih fu x1 0 _ _ _ _ S (lv_sub hl [1, 2, 0] rfl) hz
      · have hz := ipt (c25) hz
        refine lv_aload_n hx hb dX9_likely_61 rfl (lv_at hl 0 rfl) ?_
        refine lv_iconst (v := 3) hx hb dX9_likely_62 (by decide) ?_
        obtain ⟨q32, e33, hz⟩ := bd hz
        refine g_callVi (As := [.int 3]) (rest := []) F S (c_X9_no l G 3  _ e33) (cw_X9_likely_X9_no_153 hg) (S.obj (by decide) (by decide) rfl (oc_X9 _ _ _ (by decide))) rfl hl.1 rfl (Nat.le_of_ble_eq_true rfl) ⟨Nat.zero_le _, Nat.zero_le _⟩ dX9_likely_63 (fun H locs  S => ?_)
        exact g_reti hx hb hr hlk S hz dX9_likely_66
set_option maxHeartbeats 4000000 in
set_option maxRecDepth 100000 in
theorem c_X9_likely (l : Launch) (G : GG)   (w : GW) {z : Int32 × GW} (hz : f_X9_likely  w = some z) : Met l yX9_likely (wsU yX9_likely cX9_likely 5 (some .int)) rm_X9_likely (va_Pc [.ref (gad G 130)] (PreG G w)) (QI G z) 0 0 (gA G) := by
  refine Met.ofW (cc := cX9_likely) (maxL := 5) (ret := (some .int)) (by decide) rfl ?_
  intro p e s m args below meth c s₁ B hml hv
  obtain ⟨rfl, S⟩ := hv
  have F : CallFix p m c cX9_likely 5 s _ (wsU yX9_likely cX9_likely 5 (some .int)) RX9 := ⟨B.exec, B.bytes, hml, findClass_of_methodNamed B.named, atoms_spec B.pre⟩
  have hr := B.returns
  have hlk := B.notSynchronized
  obtain ⟨hx, hb, -, hown, hts⟩ := id F
  have hg : ∀ q ∈ lwg, q.before _ s = true := fun q h => hts q (List.mem_cons_of_mem _ h)
  refine g_entry (Nat.le_of_ble_eq_true rfl) (fun ls hl => ?_)
  have hl : lv_has ls 5 [(0, .ref (gad G 130))] := hl
  have S : St G w s s.heap [] := S
  generalize s.heap = H at S ⊢
  generalize ([] : List Loc) = locs at S ⊢
  rw [f_X9_likely] at hz
  refine lv_aload_n hx hb dX9_likely_0 rfl (lv_at hl 0 rfl) ?_
  obtain ⟨q1, e2, hz⟩ := bd hz
  refine g_callVv (As := []) (rest := []) F S (c_X9_good l G   _ e2) (cw_X9_likely_X9_good_150 hg) (S.obj (by decide) (by decide) rfl (oc_X9 _ _ _ (by decide))) rfl hl.1 rfl (Nat.le_of_ble_eq_true rfl) ⟨Nat.zero_le _, Nat.zero_le _⟩ dX9_likely_1 (fun H locs  S => ?_)
  refine lv_aload_n hx hb dX9_likely_4 rfl (lv_at hl 0 rfl) ?_
  refine fg_X9_14 hx hb (fun q h => hg q (tl_X9 q h)) hown (hg _ t_fl_X9_159) S (by decide) dX9_likely_5 ?_
  refine lv_if_ne (tgt := 17) hx hb dX9_likely_8 (by decide) (fun c3 => ?_) (fun c3 => ?_)
  · have hz := ipf (c3) hz
    refine lv_aload_n hx hb dX9_likely_17 rfl (lv_at hl 0 rfl) ?_
    refine fg_X9_15 hx hb (fun q h => hg q (tl_X9 q h)) hown (hg _ t_fl_X9_20) S (by decide) dX9_likely_18 ?_
    refine lv_bipush (v := 39) hx hb dX9_likely_21 (by decide) ?_
    obtain ⟨h4, hz⟩ := ck hz
    refine g_iald hx hb S (isA_15 (by decide)) h4 dX9_likely_23 ?_
    refine lv_if_ne (tgt := 34) hx hb dX9_likely_24 (by decide) (fun c5 => ?_) (fun c5 => ?_)
    · have hz := ipf (c5) hz
      refine lv_iconst (v := 0) hx hb dX9_likely_34 (by decide) ?_
      refine lv_istore_n (lv' := [(1, .int 0), (0, .ref (gad G 130))]) hx hb dX9_likely_35 rfl hl (by decide) rfl (fun ls hl => ?_)
      exact w_X9_likely_36 F hr hlk fu 0 _ _ _ _ S (lv_sub hl [1, 0] rfl) hz
    · have hz := ipt (c5) hz
      refine lv_aload_n hx hb dX9_likely_27 rfl (lv_at hl 0 rfl) ?_
      refine lv_bipush (v := 6) hx hb dX9_likely_28 (by decide) ?_
      obtain ⟨q34, e35, hz⟩ := bd hz
      refine g_callVi (As := [.int 6]) (rest := []) F S (c_X9_no l G 6  _ e35) (cw_X9_likely_X9_no_153 hg) (S.obj (by decide) (by decide) rfl (oc_X9 _ _ _ (by decide))) rfl hl.1 rfl (Nat.le_of_ble_eq_true rfl) ⟨Nat.zero_le _, Nat.zero_le _⟩ dX9_likely_30 (fun H locs  S => ?_)
      exact g_reti hx hb hr hlk S hz dX9_likely_33
  · have hz := ipt (c3) hz
    refine lv_aload_n hx hb dX9_likely_11 rfl (lv_at hl 0 rfl) ?_
    refine lv_iconst (v := 1) hx hb dX9_likely_12 (by decide) ?_
    obtain ⟨q36, e37, hz⟩ := bd hz
    refine g_callVi (As := [.int 1]) (rest := []) F S (c_X9_no l G 1  _ e37) (cw_X9_likely_X9_no_153 hg) (S.obj (by decide) (by decide) rfl (oc_X9 _ _ _ (by decide))) rfl hl.1 rfl (Nat.le_of_ble_eq_true rfl) ⟨Nat.zero_le _, Nat.zero_le _⟩ dX9_likely_13 (fun H locs  S => ?_)
    exact g_reti hx hb hr hlk S hz dX9_likely_16
noncomputable def f_X9_cannot_71 (k_42 : Int32 → Int32 → GW → Option (Int32 × GW)) (x3 : Int32) (t0 : Int32) (t1 : Int32) (w : GW) : Option (Int32 × GW) :=
  k_42 (t1 ||| t0) (x3 + 1) w
noncomputable def f_X9_cannot_42  : Nat → Int32 → Int32 → GW → Option (Int32 × GW)
  | 0, _, _, _ => none
  | n9 + 1, x2, x3, w =>
    if inb 39 135 then
    if (gI w 133 (ix 39)) ≤ x3 then
      some (x2, w)
    else
      (f_X9_waysOfLay x3 w).bind fun q14 =>
      if q14.1 = 0 then
        f_X9_cannot_71 (f_X9_cannot_42 n9) x3 ((1 : Int32) <<< (x3 &&& 31)) x2 q14.2
      else
        f_X9_cannot_71 (f_X9_cannot_42 n9) x3 0 x2 q14.2
    else none
noncomputable def f_X9_cannot (x1 : Int32) (w : GW) : Option (Int32 × GW) :=
  (f_X9_good w).bind fun q1 =>
  (f_X9_isPorter x1 q1.2).bind fun q3 =>
  if q3.1 = 0 then
    (f_X9_no 1 q3.2).bind fun q19 =>
    some (q19.1, q19.2)
  else
    if inb 1 135 then
    (f_X9_laysBy x1 (gI q3.2 133 (ix 1)) q3.2).bind fun q8 =>
    if q8.1 = 0 then
      (f_X9_no 3 q8.2).bind fun q17 =>
      some (q17.1, q17.2)
    else
      f_X9_cannot_42 fu 0 0 q8.2
    else none
set_option maxHeartbeats 4000000 in
set_option maxRecDepth 100000 in
theorem w_X9_cannot_71 {p : Program} {l : Launch} {e : Env} {s : State} {m : MethodId} {args : Array Value} {below : List Frame} {meth : Method} {c : Code} {G : GG} (F : CallFix p m c cX9_cannot 4 s args (wsU yX9_cannot cX9_cannot 4 (some .int)) RX9) (hr : meth.sig.returnType = (some .int)) (hlk : meth.locks = false) {z : Int32 × GW} {k_42 : Int32 → Int32 → GW → Option (Int32 × GW)} (Hk_42 : (∀ (x2 : Int32) (x3 : Int32) (w : GW) (H : Heap) (locs : List Loc) (ls : Array Slot), St G w s H locs → lv_has ls 4 [(0, .ref (gad G 130)), (2, .int x2), (3, .int x3)] → k_42 x2 x3 w = some z → W p l e (headSpec (wsU yX9_cannot cX9_cannot 4 (some .int)) rm_X9_cannot).room s m args below meth c H locs 0 0 (MQ below (QI G z) args s 0 0 (gA G)) (F0 m 42 ls []))) : (∀ (x3 : Int32) (t0 : Int32) (t1 : Int32) (w : GW) (H : Heap) (locs : List Loc) (ls : Array Slot), St G w s H locs → lv_has ls 4 [(0, .ref (gad G 130)), (3, .int x3)] → f_X9_cannot_71 k_42 x3 t0 t1 w = some z → W p l e (headSpec (wsU yX9_cannot cX9_cannot 4 (some .int)) rm_X9_cannot).room s m args below meth c H locs 0 0 (MQ below (QI G z) args s 0 0 (gA G)) (F0 m 71 ls [.int t0, .int t1])) := by
  obtain ⟨hx, hb, hml, hown, hts⟩ := id F
  have hg : ∀ q ∈ lwg, q.before args s = true := fun q h => hts q (List.mem_cons_of_mem _ h)
  intro x3 t0 t1 w H locs ls S hl hz
  rw [f_X9_cannot_71] at hz
  refine lv_ior hx hb dX9_cannot_71 ?_
  refine lv_istore_n (lv' := [(2, .int (t1 ||| t0)), (0, .ref (gad G 130)), (3, .int x3)]) hx hb dX9_cannot_72 rfl hl (by decide) rfl (fun ls hl => ?_)
  refine lv_iinc (v := (x3 + 1)) (lv' := [(3, .int (x3 + 1)), (2, .int (t1 ||| t0)), (0, .ref (gad G 130))]) hx hb dX9_cannot_73 hl (k := 2) rfl rfl (by decide) rfl (fun ls hl => ?_)
  refine lv_goto (tgt := 42) hx hb dX9_cannot_76 (by decide) ?_
  exact Hk_42 (t1 ||| t0) (x3 + 1)  _ _ _ _ S (lv_sub hl [2, 1, 0] rfl) hz
set_option maxHeartbeats 4000000 in
set_option maxRecDepth 100000 in
theorem w_X9_cannot_42 {p : Program} {l : Launch} {e : Env} {s : State} {m : MethodId} {args : Array Value} {below : List Frame} {meth : Method} {c : Code} {G : GG} (F : CallFix p m c cX9_cannot 4 s args (wsU yX9_cannot cX9_cannot 4 (some .int)) RX9) (hr : meth.sig.returnType = (some .int)) (hlk : meth.locks = false) {z : Int32 × GW} : ∀ (n9 : Nat), (∀ (x2 : Int32) (x3 : Int32) (w : GW) (H : Heap) (locs : List Loc) (ls : Array Slot), St G w s H locs → lv_has ls 4 [(0, .ref (gad G 130)), (2, .int x2), (3, .int x3)] → f_X9_cannot_42 n9 x2 x3 w = some z → W p l e (headSpec (wsU yX9_cannot cX9_cannot 4 (some .int)) rm_X9_cannot).room s m args below meth c H locs 0 0 (MQ below (QI G z) args s 0 0 (gA G)) (F0 m 42 ls [])) := by
  obtain ⟨hx, hb, hml, hown, hts⟩ := id F
  have hg : ∀ q ∈ lwg, q.before args s = true := fun q h => hts q (List.mem_cons_of_mem _ h)
  intro n9
  induction n9 with
  | zero =>
    intro x2 x3 w H locs ls S hl hz
    rw [f_X9_cannot_42] at hz
    cases hz
  | succ n9 ih =>
    intro x2 x3 w H locs ls S hl hz
    rw [f_X9_cannot_42] at hz
    refine lv_iload_n hx hb dX9_cannot_42 rfl (lv_at hl 2 rfl) ?_
    refine lv_aload_n hx hb dX9_cannot_43 rfl (lv_at hl 0 rfl) ?_
    refine fg_X9_15 hx hb (fun q h => hg q (tl_X9 q h)) hown (hg _ t_fl_X9_20) S (by decide) dX9_cannot_44 ?_
    refine lv_bipush (v := 39) hx hb dX9_cannot_47 (by decide) ?_
    obtain ⟨h12, hz⟩ := ck hz
    refine g_iald hx hb S (isA_15 (by decide)) h12 dX9_cannot_49 ?_
    refine lv_icmp_ge (tgt := 79) hx hb dX9_cannot_50 (by decide) (fun c13 => ?_) (fun c13 => ?_)
    · have hz := ipt (c13) hz
      refine lv_iload_n hx hb dX9_cannot_79 rfl (lv_at hl 1 rfl) ?_
      exact g_reti hx hb hr hlk S hz dX9_cannot_80
    · have hz := ipf (c13) hz
      refine lv_iload_n hx hb dX9_cannot_53 rfl (lv_at hl 1 rfl) ?_
      refine lv_aload_n hx hb dX9_cannot_54 rfl (lv_at hl 0 rfl) ?_
      refine lv_iload_n hx hb dX9_cannot_55 rfl (lv_at hl 2 rfl) ?_
      obtain ⟨q14, e15, hz⟩ := bd hz
      refine g_callVl (As := [.int x3]) (rest := [.int x2]) F S (c_X9_waysOfLay l G x3  _ e15) (cw_X9_cannot_X9_waysOfLay_347 hg) (S.obj (by decide) (by decide) rfl (oc_X9 _ _ _ (by decide))) rfl hl.1 rfl (Nat.le_of_ble_eq_true rfl) ⟨Nat.zero_le _, Nat.zero_le _⟩ dX9_cannot_56 (fun H locs  S => ?_)
      refine lv_lconst (v := 0) hx hb dX9_cannot_59 (by decide) ?_
      refine W.lcmp hx hb dX9_cannot_60 ?_
      refine lv_if_ne (tgt := 70) hx hb dX9_cannot_61 (by decide) (fun c16 => ?_) (fun c16 => ?_)
      · have hz := ipf (fun q9 => c16 ((lg_cmp_eq _ _).mpr q9)) hz
        refine lv_iconst (v := 0) hx hb dX9_cannot_70 (by decide) ?_
        exact w_X9_cannot_71 F hr hlk ih x3 0 x2 _ _ _ _ S (lv_sub hl [0, 2] rfl) hz
      · have hz := ipt ((lg_cmp_eq _ _).mp c16) hz
        refine lv_iconst (v := 1) hx hb dX9_cannot_64 (by decide) ?_
        refine lv_iload_n hx hb dX9_cannot_65 rfl (lv_at hl 2 rfl) ?_
        refine lv_ishl hx hb dX9_cannot_66 ?_
        refine lv_goto (tgt := 71) hx hb dX9_cannot_67 (by decide) ?_
        exact w_X9_cannot_71 F hr hlk ih x3 ((1 : Int32) <<< (x3 &&& 31)) x2 _ _ _ _ S (lv_sub hl [0, 2] rfl) hz
set_option maxHeartbeats 4000000 in
set_option maxRecDepth 100000 in
theorem c_X9_cannot (l : Launch) (G : GG) (x1 : Int32)  (w : GW) {z : Int32 × GW} (hz : f_X9_cannot x1 w = some z) : Met l yX9_cannot (wsU yX9_cannot cX9_cannot 4 (some .int)) rm_X9_cannot (va_Pc [.ref (gad G 130), .int x1] (PreG G w)) (QI G z) 0 0 (gA G) := by
  refine Met.ofW (cc := cX9_cannot) (maxL := 4) (ret := (some .int)) (by decide) rfl ?_
  intro p e s m args below meth c s₁ B hml hv
  obtain ⟨rfl, S⟩ := hv
  have F : CallFix p m c cX9_cannot 4 s _ (wsU yX9_cannot cX9_cannot 4 (some .int)) RX9 := ⟨B.exec, B.bytes, hml, findClass_of_methodNamed B.named, atoms_spec B.pre⟩
  have hr := B.returns
  have hlk := B.notSynchronized
  obtain ⟨hx, hb, -, hown, hts⟩ := id F
  have hg : ∀ q ∈ lwg, q.before _ s = true := fun q h => hts q (List.mem_cons_of_mem _ h)
  refine g_entry (Nat.le_of_ble_eq_true rfl) (fun ls hl => ?_)
  have hl : lv_has ls 4 [(0, .ref (gad G 130)), (1, .int x1)] := hl
  have S : St G w s s.heap [] := S
  generalize s.heap = H at S ⊢
  generalize ([] : List Loc) = locs at S ⊢
  rw [f_X9_cannot] at hz
  refine lv_aload_n hx hb dX9_cannot_0 rfl (lv_at hl 0 rfl) ?_
  obtain ⟨q1, e2, hz⟩ := bd hz
  refine g_callVv (As := []) (rest := []) F S (c_X9_good l G   _ e2) (cw_X9_cannot_X9_good_150 hg) (S.obj (by decide) (by decide) rfl (oc_X9 _ _ _ (by decide))) rfl hl.1 rfl (Nat.le_of_ble_eq_true rfl) ⟨Nat.zero_le _, Nat.zero_le _⟩ dX9_cannot_1 (fun H locs  S => ?_)
  refine lv_aload_n hx hb dX9_cannot_4 rfl (lv_at hl 0 rfl) ?_
  refine lv_iload_n hx hb dX9_cannot_5 rfl (lv_at hl 1 rfl) ?_
  obtain ⟨q3, e4, hz⟩ := bd hz
  refine g_callVb (As := [.int x1]) (rest := []) F S (c_X9_isPorter l G x1  _ e4) (cw_X9_cannot_X9_isPorter_320 hg) (S.obj (by decide) (by decide) rfl (oc_X9 _ _ _ (by decide))) rfl hl.1 rfl (Nat.le_of_ble_eq_true rfl) ⟨Nat.zero_le _, Nat.zero_le _⟩ dX9_cannot_6 (fun H locs hB5 S => ?_)
  refine lv_if_ne (tgt := 18) hx hb dX9_cannot_9 (by decide) (fun c6 => ?_) (fun c6 => ?_)
  · have hz := ipf (c6) hz
    refine lv_aload_n hx hb dX9_cannot_18 rfl (lv_at hl 0 rfl) ?_
    refine lv_iload_n hx hb dX9_cannot_19 rfl (lv_at hl 1 rfl) ?_
    refine lv_aload_n hx hb dX9_cannot_20 rfl (lv_at hl 0 rfl) ?_
    refine fg_X9_15 hx hb (fun q h => hg q (tl_X9 q h)) hown (hg _ t_fl_X9_20) S (by decide) dX9_cannot_21 ?_
    refine lv_iconst (v := 1) hx hb dX9_cannot_24 (by decide) ?_
    obtain ⟨h7, hz⟩ := ck hz
    refine g_iald hx hb S (isA_15 (by decide)) h7 dX9_cannot_25 ?_
    obtain ⟨q8, e9, hz⟩ := bd hz
    refine g_callVb (As := [.int x1, .int (gI q3.2 133 (ix 1))]) (rest := []) F S (c_X9_laysBy l G x1 (gI q3.2 133 (ix 1))  _ e9) (cw_X9_cannot_X9_laysBy_323 hg) (S.obj (by decide) (by decide) rfl (oc_X9 _ _ _ (by decide))) rfl hl.1 rfl (Nat.le_of_ble_eq_true rfl) ⟨Nat.zero_le _, Nat.zero_le _⟩ dX9_cannot_26 (fun H locs hB10 S => ?_)
    refine lv_if_ne (tgt := 38) hx hb dX9_cannot_29 (by decide) (fun c11 => ?_) (fun c11 => ?_)
    · have hz := ipf (c11) hz
      refine lv_iconst (v := 0) hx hb dX9_cannot_38 (by decide) ?_
      refine lv_istore_n (lv' := [(2, .int 0), (0, .ref (gad G 130)), (1, .int x1)]) hx hb dX9_cannot_39 rfl hl (by decide) rfl (fun ls hl => ?_)
      refine lv_iconst (v := 0) hx hb dX9_cannot_40 (by decide) ?_
      refine lv_istore_n (lv' := [(3, .int 0), (2, .int 0), (0, .ref (gad G 130)), (1, .int x1)]) hx hb dX9_cannot_41 rfl hl (by decide) rfl (fun ls hl => ?_)
      exact w_X9_cannot_42 F hr hlk fu 0 0 _ _ _ _ S (lv_sub hl [2, 1, 0] rfl) hz
    · have hz := ipt (c11) hz
      refine lv_aload_n hx hb dX9_cannot_32 rfl (lv_at hl 0 rfl) ?_
      refine lv_iconst (v := 3) hx hb dX9_cannot_33 (by decide) ?_
      obtain ⟨q17, e18, hz⟩ := bd hz
      refine g_callVi (As := [.int 3]) (rest := []) F S (c_X9_no l G 3  _ e18) (cw_X9_cannot_X9_no_153 hg) (S.obj (by decide) (by decide) rfl (oc_X9 _ _ _ (by decide))) rfl hl.1 rfl (Nat.le_of_ble_eq_true rfl) ⟨Nat.zero_le _, Nat.zero_le _⟩ dX9_cannot_34 (fun H locs  S => ?_)
      exact g_reti hx hb hr hlk S hz dX9_cannot_37
  · have hz := ipt (c6) hz
    refine lv_aload_n hx hb dX9_cannot_12 rfl (lv_at hl 0 rfl) ?_
    refine lv_iconst (v := 1) hx hb dX9_cannot_13 (by decide) ?_
    obtain ⟨q19, e20, hz⟩ := bd hz
    refine g_callVi (As := [.int 1]) (rest := []) F S (c_X9_no l G 1  _ e20) (cw_X9_cannot_X9_no_153 hg) (S.obj (by decide) (by decide) rfl (oc_X9 _ _ _ (by decide))) rfl hl.1 rfl (Nat.le_of_ble_eq_true rfl) ⟨Nat.zero_le _, Nat.zero_le _⟩ dX9_cannot_14 (fun H locs  S => ?_)
    exact g_reti hx hb hr hlk S hz dX9_cannot_17
noncomputable def f_X9_layDay_2  : Nat → Int32 → GW → Option (Unit × GW)
  | 0, _, _ => none
  | n9 + 1, x1, w =>
    if 5 ≤ x1 then
      if inb 7 9 then
      if (gI w 135 (ix 7)) = (-2) then
        some ((), (sI w 130 22 (-1)))
      else
        if inb 7 9 then
        some ((), (sI w 130 22 (gI w 135 (ix 7))))
        else none
      else none
    else
      if inb x1 9 then
      if inb x1 5 then
      f_X9_layDay_2 n9 (x1 + 1) (sI w 137 (ix x1) (gI w 135 (ix x1)))
      else none
      else none
noncomputable def f_X9_layDay  (w : GW) : Option (Unit × GW) :=
  f_X9_layDay_2 fu 0 w
set_option maxHeartbeats 4000000 in
set_option maxRecDepth 100000 in
theorem w_X9_layDay_2 {p : Program} {l : Launch} {e : Env} {s : State} {m : MethodId} {args : Array Value} {below : List Frame} {meth : Method} {c : Code} {G : GG} (F : CallFix p m c cX9_layDay 2 s args (wsU yX9_layDay cX9_layDay 2 none) RX9) (hr : meth.sig.returnType = none) (hlk : meth.locks = false) {z : Unit × GW} : ∀ (n9 : Nat), (∀ (x1 : Int32) (w : GW) (H : Heap) (locs : List Loc) (ls : Array Slot), St G w s H locs → lv_has ls 2 [(0, .ref (gad G 130)), (1, .int x1)] → f_X9_layDay_2 n9 x1 w = some z → W p l e (headSpec (wsU yX9_layDay cX9_layDay 2 none) rm_X9_layDay).room s m args below meth c H locs 0 0 (MQ below (QV G z) args s 0 0 (gA G)) (F0 m 2 ls [])) := by
  obtain ⟨hx, hb, hml, hown, hts⟩ := id F
  have hg : ∀ q ∈ lwg, q.before args s = true := fun q h => hts q (List.mem_cons_of_mem _ h)
  intro n9
  induction n9 with
  | zero =>
    intro x1 w H locs ls S hl hz
    rw [f_X9_layDay_2] at hz
    cases hz
  | succ n9 ih =>
    intro x1 w H locs ls S hl hz
    rw [f_X9_layDay_2] at hz
    refine lv_iload_n hx hb dX9_layDay_2 rfl (lv_at hl 1 rfl) ?_
    refine lv_iconst (v := 5) hx hb dX9_layDay_3 (by decide) ?_
    refine lv_icmp_ge (tgt := 25) hx hb dX9_layDay_4 (by decide) (fun c1 => ?_) (fun c1 => ?_)
    · have hz := ipt (c1) hz
      refine lv_aload_n hx hb dX9_layDay_25 rfl (lv_at hl 0 rfl) ?_
      refine lv_aload_n hx hb dX9_layDay_26 rfl (lv_at hl 0 rfl) ?_
      refine fg_X9_17 hx hb (fun q h => hg q (tl_X9 q h)) hown (hg _ t_fl_X9_26) S (by decide) dX9_layDay_27 ?_
      refine lv_bipush (v := 7) hx hb dX9_layDay_30 (by decide) ?_
      obtain ⟨h2, hz⟩ := ck hz
      refine g_iald hx hb S (isA_16 (by decide)) h2 dX9_layDay_32 ?_
      refine lv_bipush (v := (-2)) hx hb dX9_layDay_33 (by decide) ?_
      refine lv_icmp_ne (tgt := 42) hx hb dX9_layDay_35 (by decide) (fun c3 => ?_) (fun c3 => ?_)
      · have hz := ipf (c3) hz
        refine lv_aload_n hx hb dX9_layDay_42 rfl (lv_at hl 0 rfl) ?_
        refine fg_X9_17 hx hb (fun q h => hg q (tl_X9 q h)) hown (hg _ t_fl_X9_26) S (by decide) dX9_layDay_43 ?_
        refine lv_bipush (v := 7) hx hb dX9_layDay_46 (by decide) ?_
        obtain ⟨h4, hz⟩ := ck hz
        refine g_iald hx hb S (isA_16 (by decide)) h4 dX9_layDay_48 ?_
        refine fp_X9_22 (v := (gI w 135 (ix 7))) hx hb (fun q h => hg q (tl_X9 q h)) hown (hg _ t_fl_X9_228) S (by decide) dX9_layDay_49 (fun H locs S => ?_)
        exact g_retv hx hb hr hlk S hz dX9_layDay_52
      · have hz := ipt (c3) hz
        refine lv_iconst (v := (-1)) hx hb dX9_layDay_38 (by decide) ?_
        refine lv_goto (tgt := 49) hx hb dX9_layDay_39 (by decide) ?_
        refine fp_X9_22 (v := (-1)) hx hb (fun q h => hg q (tl_X9 q h)) hown (hg _ t_fl_X9_228) S (by decide) dX9_layDay_49 (fun H locs S => ?_)
        exact g_retv hx hb hr hlk S hz dX9_layDay_52
    · have hz := ipf (c1) hz
      refine lv_aload_n hx hb dX9_layDay_7 rfl (lv_at hl 0 rfl) ?_
      refine fg_X9_20 hx hb (fun q h => hg q (tl_X9 q h)) hown (hg _ t_fl_X9_32) S (by decide) dX9_layDay_8 ?_
      refine lv_iload_n hx hb dX9_layDay_11 rfl (lv_at hl 1 rfl) ?_
      refine lv_aload_n hx hb dX9_layDay_12 rfl (lv_at hl 0 rfl) ?_
      refine fg_X9_17 hx hb (fun q h => hg q (tl_X9 q h)) hown (hg _ t_fl_X9_26) S (by decide) dX9_layDay_13 ?_
      refine lv_iload_n hx hb dX9_layDay_16 rfl (lv_at hl 1 rfl) ?_
      obtain ⟨h5, hz⟩ := ck hz
      refine g_iald hx hb S (isA_16 (by decide)) h5 dX9_layDay_17 ?_
      obtain ⟨h6, hz⟩ := ck hz
      refine g_iast (x := (gI w 135 (ix x1))) hx hb S (isA_10 (by decide)) h6 dX9_layDay_18 (fun H locs S => ?_)
      refine lv_iinc (v := (x1 + 1)) (lv' := [(1, .int (x1 + 1)), (0, .ref (gad G 130))]) hx hb dX9_layDay_19 hl (k := 1) rfl rfl (by decide) rfl (fun ls hl => ?_)
      refine lv_goto (tgt := 2) hx hb dX9_layDay_22 (by decide) ?_
      exact ih (x1 + 1)  _ _ _ _ S (lv_sub hl [1, 0] rfl) hz
set_option maxHeartbeats 4000000 in
set_option maxRecDepth 100000 in
theorem c_X9_layDay (l : Launch) (G : GG)   (w : GW) {z : Unit × GW} (hz : f_X9_layDay  w = some z) : Met l yX9_layDay (wsU yX9_layDay cX9_layDay 2 none) rm_X9_layDay (va_Pc [.ref (gad G 130)] (PreG G w)) (QV G z) 0 0 (gA G) := by
  refine Met.ofW (cc := cX9_layDay) (maxL := 2) (ret := none) (by decide) rfl ?_
  intro p e s m args below meth c s₁ B hml hv
  obtain ⟨rfl, S⟩ := hv
  have F : CallFix p m c cX9_layDay 2 s _ (wsU yX9_layDay cX9_layDay 2 none) RX9 := ⟨B.exec, B.bytes, hml, findClass_of_methodNamed B.named, atoms_spec B.pre⟩
  have hr := B.returns
  have hlk := B.notSynchronized
  obtain ⟨hx, hb, -, hown, hts⟩ := id F
  have hg : ∀ q ∈ lwg, q.before _ s = true := fun q h => hts q (List.mem_cons_of_mem _ h)
  refine g_entry (Nat.le_of_ble_eq_true rfl) (fun ls hl => ?_)
  have hl : lv_has ls 2 [(0, .ref (gad G 130))] := hl
  have S : St G w s s.heap [] := S
  generalize s.heap = H at S ⊢
  generalize ([] : List Loc) = locs at S ⊢
  rw [f_X9_layDay] at hz
  refine lv_iconst (v := 0) hx hb dX9_layDay_0 (by decide) ?_
  refine lv_istore_n (lv' := [(1, .int 0), (0, .ref (gad G 130))]) hx hb dX9_layDay_1 rfl hl (by decide) rfl (fun ls hl => ?_)
  exact w_X9_layDay_2 F hr hlk fu 0 _ _ _ _ S (lv_sub hl [1, 0] rfl) hz
noncomputable def f_X9_keepDay_2  : Nat → Int32 → GW → Option (Unit × GW)
  | 0, _, _ => none
  | n9 + 1, x1, w =>
    if 5 ≤ x1 then
      if 0 ≤ (gI w 130 22) then
        if inb 7 9 then
        some ((), (sI w 135 (ix 7) (gI w 130 22)))
        else none
      else
        if inb 7 9 then
        some ((), (sI w 135 (ix 7) (-2)))
        else none
    else
      if inb x1 5 then
      if inb x1 9 then
      f_X9_keepDay_2 n9 (x1 + 1) (sI w 135 (ix x1) (gI w 137 (ix x1)))
      else none
      else none
noncomputable def f_X9_keepDay  (w : GW) : Option (Unit × GW) :=
  f_X9_keepDay_2 fu 0 w
set_option maxHeartbeats 4000000 in
set_option maxRecDepth 100000 in
theorem w_X9_keepDay_2 {p : Program} {l : Launch} {e : Env} {s : State} {m : MethodId} {args : Array Value} {below : List Frame} {meth : Method} {c : Code} {G : GG} (F : CallFix p m c cX9_keepDay 2 s args (wsU yX9_keepDay cX9_keepDay 2 none) RX9) (hr : meth.sig.returnType = none) (hlk : meth.locks = false) {z : Unit × GW} : ∀ (n9 : Nat), (∀ (x1 : Int32) (w : GW) (H : Heap) (locs : List Loc) (ls : Array Slot), St G w s H locs → lv_has ls 2 [(0, .ref (gad G 130)), (1, .int x1)] → f_X9_keepDay_2 n9 x1 w = some z → W p l e (headSpec (wsU yX9_keepDay cX9_keepDay 2 none) rm_X9_keepDay).room s m args below meth c H locs 0 0 (MQ below (QV G z) args s 0 0 (gA G)) (F0 m 2 ls [])) := by
  obtain ⟨hx, hb, hml, hown, hts⟩ := id F
  have hg : ∀ q ∈ lwg, q.before args s = true := fun q h => hts q (List.mem_cons_of_mem _ h)
  intro n9
  induction n9 with
  | zero =>
    intro x1 w H locs ls S hl hz
    rw [f_X9_keepDay_2] at hz
    cases hz
  | succ n9 ih =>
    intro x1 w H locs ls S hl hz
    rw [f_X9_keepDay_2] at hz
    refine lv_iload_n hx hb dX9_keepDay_2 rfl (lv_at hl 1 rfl) ?_
    refine lv_iconst (v := 5) hx hb dX9_keepDay_3 (by decide) ?_
    refine lv_icmp_ge (tgt := 25) hx hb dX9_keepDay_4 (by decide) (fun c1 => ?_) (fun c1 => ?_)
    · have hz := ipt (c1) hz
      refine lv_aload_n hx hb dX9_keepDay_25 rfl (lv_at hl 0 rfl) ?_
      refine fg_X9_17 hx hb (fun q h => hg q (tl_X9 q h)) hown (hg _ t_fl_X9_26) S (by decide) dX9_keepDay_26 ?_
      refine lv_bipush (v := 7) hx hb dX9_keepDay_29 (by decide) ?_
      refine lv_aload_n hx hb dX9_keepDay_31 rfl (lv_at hl 0 rfl) ?_
      refine fg_X9_22 hx hb (fun q h => hg q (tl_X9 q h)) hown (hg _ t_fl_X9_228) S (by decide) dX9_keepDay_32 ?_
      refine lv_if_ge (tgt := 43) hx hb dX9_keepDay_35 (by decide) (fun c2 => ?_) (fun c2 => ?_)
      · have hz := ipt (c2) hz
        refine lv_aload_n hx hb dX9_keepDay_43 rfl (lv_at hl 0 rfl) ?_
        refine fg_X9_22 hx hb (fun q h => hg q (tl_X9 q h)) hown (hg _ t_fl_X9_228) S (by decide) dX9_keepDay_44 ?_
        obtain ⟨h3, hz⟩ := ck hz
        refine g_iast (x := (gI w 130 22)) hx hb S (isA_16 (by decide)) h3 dX9_keepDay_47 (fun H locs S => ?_)
        exact g_retv hx hb hr hlk S hz dX9_keepDay_48
      · have hz := ipf (c2) hz
        refine lv_bipush (v := (-2)) hx hb dX9_keepDay_38 (by decide) ?_
        refine lv_goto (tgt := 47) hx hb dX9_keepDay_40 (by decide) ?_
        obtain ⟨h4, hz⟩ := ck hz
        refine g_iast (x := (-2)) hx hb S (isA_16 (by decide)) h4 dX9_keepDay_47 (fun H locs S => ?_)
        exact g_retv hx hb hr hlk S hz dX9_keepDay_48
    · have hz := ipf (c1) hz
      refine lv_aload_n hx hb dX9_keepDay_7 rfl (lv_at hl 0 rfl) ?_
      refine fg_X9_17 hx hb (fun q h => hg q (tl_X9 q h)) hown (hg _ t_fl_X9_26) S (by decide) dX9_keepDay_8 ?_
      refine lv_iload_n hx hb dX9_keepDay_11 rfl (lv_at hl 1 rfl) ?_
      refine lv_aload_n hx hb dX9_keepDay_12 rfl (lv_at hl 0 rfl) ?_
      refine fg_X9_20 hx hb (fun q h => hg q (tl_X9 q h)) hown (hg _ t_fl_X9_32) S (by decide) dX9_keepDay_13 ?_
      refine lv_iload_n hx hb dX9_keepDay_16 rfl (lv_at hl 1 rfl) ?_
      obtain ⟨h5, hz⟩ := ck hz
      refine g_iald hx hb S (isA_10 (by decide)) h5 dX9_keepDay_17 ?_
      obtain ⟨h6, hz⟩ := ck hz
      refine g_iast (x := (gI w 137 (ix x1))) hx hb S (isA_16 (by decide)) h6 dX9_keepDay_18 (fun H locs S => ?_)
      refine lv_iinc (v := (x1 + 1)) (lv' := [(1, .int (x1 + 1)), (0, .ref (gad G 130))]) hx hb dX9_keepDay_19 hl (k := 1) rfl rfl (by decide) rfl (fun ls hl => ?_)
      refine lv_goto (tgt := 2) hx hb dX9_keepDay_22 (by decide) ?_
      exact ih (x1 + 1)  _ _ _ _ S (lv_sub hl [1, 0] rfl) hz
set_option maxHeartbeats 4000000 in
set_option maxRecDepth 100000 in
theorem c_X9_keepDay (l : Launch) (G : GG)   (w : GW) {z : Unit × GW} (hz : f_X9_keepDay  w = some z) : Met l yX9_keepDay (wsU yX9_keepDay cX9_keepDay 2 none) rm_X9_keepDay (va_Pc [.ref (gad G 130)] (PreG G w)) (QV G z) 0 0 (gA G) := by
  refine Met.ofW (cc := cX9_keepDay) (maxL := 2) (ret := none) (by decide) rfl ?_
  intro p e s m args below meth c s₁ B hml hv
  obtain ⟨rfl, S⟩ := hv
  have F : CallFix p m c cX9_keepDay 2 s _ (wsU yX9_keepDay cX9_keepDay 2 none) RX9 := ⟨B.exec, B.bytes, hml, findClass_of_methodNamed B.named, atoms_spec B.pre⟩
  have hr := B.returns
  have hlk := B.notSynchronized
  obtain ⟨hx, hb, -, hown, hts⟩ := id F
  have hg : ∀ q ∈ lwg, q.before _ s = true := fun q h => hts q (List.mem_cons_of_mem _ h)
  refine g_entry (Nat.le_of_ble_eq_true rfl) (fun ls hl => ?_)
  have hl : lv_has ls 2 [(0, .ref (gad G 130))] := hl
  have S : St G w s s.heap [] := S
  generalize s.heap = H at S ⊢
  generalize ([] : List Loc) = locs at S ⊢
  rw [f_X9_keepDay] at hz
  refine lv_iconst (v := 0) hx hb dX9_keepDay_0 (by decide) ?_
  refine lv_istore_n (lv' := [(1, .int 0), (0, .ref (gad G 130))]) hx hb dX9_keepDay_1 rfl hl (by decide) rfl (fun ls hl => ?_)
  exact w_X9_keepDay_2 F hr hlk fu 0 _ _ _ _ S (lv_sub hl [1, 0] rfl) hz
noncomputable def f_X9_day (x1 : Int32) (x2 : Int32) (w : GW) : Option (Int32 × GW) :=
  (f_X9_good w).bind fun q1 =>
  (f_X9_isPorter x1 q1.2).bind fun q3 =>
  if q3.1 = 0 then
    (f_X9_isNot 1 q3.2).bind fun q16 =>
    some (q16.1, q16.2)
  else
    (f_X9_within x2 0 65536 q3.2).bind fun q7 =>
    if q7.1 = 0 then
      (f_X9_isNot 2 q7.2).bind fun q13 =>
      some (q13.1, q13.2)
    else
      (f_X9_begin x1 x2 q7.2).bind fun q11 =>
      some (1, q11.2)
set_option maxHeartbeats 4000000 in
set_option maxRecDepth 100000 in
theorem c_X9_day (l : Launch) (G : GG) (x1 : Int32) (x2 : Int32)  (w : GW) {z : Int32 × GW} (hz : f_X9_day x1 x2 w = some z) : Met l yX9_day (wsU yX9_day cX9_day 3 (some .boolean)) rm_X9_day (va_Pc [.ref (gad G 130), .int x1, .int x2] (PreG G w)) (QB G z) 0 0 (gA G) := by
  refine Met.ofW (cc := cX9_day) (maxL := 3) (ret := (some .boolean)) (by decide) rfl ?_
  intro p e s m args below meth c s₁ B hml hv
  obtain ⟨rfl, S⟩ := hv
  have F : CallFix p m c cX9_day 3 s _ (wsU yX9_day cX9_day 3 (some .boolean)) RX9 := ⟨B.exec, B.bytes, hml, findClass_of_methodNamed B.named, atoms_spec B.pre⟩
  have hr := B.returns
  have hlk := B.notSynchronized
  obtain ⟨hx, hb, -, hown, hts⟩ := id F
  have hg : ∀ q ∈ lwg, q.before _ s = true := fun q h => hts q (List.mem_cons_of_mem _ h)
  refine g_entry (Nat.le_of_ble_eq_true rfl) (fun ls hl => ?_)
  have hl : lv_has ls 3 [(0, .ref (gad G 130)), (1, .int x1), (2, .int x2)] := hl
  have S : St G w s s.heap [] := S
  generalize s.heap = H at S ⊢
  generalize ([] : List Loc) = locs at S ⊢
  rw [f_X9_day] at hz
  refine lv_aload_n hx hb dX9_day_0 rfl (lv_at hl 0 rfl) ?_
  obtain ⟨q1, e2, hz⟩ := bd hz
  refine g_callVv (As := []) (rest := []) F S (c_X9_good l G   _ e2) (cw_X9_day_X9_good_150 hg) (S.obj (by decide) (by decide) rfl (oc_X9 _ _ _ (by decide))) rfl hl.1 rfl (Nat.le_of_ble_eq_true rfl) ⟨Nat.zero_le _, Nat.zero_le _⟩ dX9_day_1 (fun H locs  S => ?_)
  refine lv_aload_n hx hb dX9_day_4 rfl (lv_at hl 0 rfl) ?_
  refine lv_iload_n hx hb dX9_day_5 rfl (lv_at hl 1 rfl) ?_
  obtain ⟨q3, e4, hz⟩ := bd hz
  refine g_callVb (As := [.int x1]) (rest := []) F S (c_X9_isPorter l G x1  _ e4) (cw_X9_day_X9_isPorter_320 hg) (S.obj (by decide) (by decide) rfl (oc_X9 _ _ _ (by decide))) rfl hl.1 rfl (Nat.le_of_ble_eq_true rfl) ⟨Nat.zero_le _, Nat.zero_le _⟩ dX9_day_6 (fun H locs hB5 S => ?_)
  refine lv_if_ne (tgt := 18) hx hb dX9_day_9 (by decide) (fun c6 => ?_) (fun c6 => ?_)
  · have hz := ipf (c6) hz
    refine lv_iload_n hx hb dX9_day_18 rfl (lv_at hl 2 rfl) ?_
    refine lv_iconst (v := 0) hx hb dX9_day_19 (by decide) ?_
    refine lv_ldcw (v := 65536) hx hb hown (hg _ t_ci_X9_382) dX9_day_20 ?_
    obtain ⟨q7, e8, hz⟩ := bd hz
    refine g_callSb (As := [.int x2, .int 0, .int 65536]) (rest := []) F S (c_X9_within l G x2 0 65536  _ e8) (cw_X9_day_X9_within_138 hg) rfl hl.1 rfl (Nat.le_of_ble_eq_true rfl) ⟨Nat.zero_le _, Nat.zero_le _⟩ dX9_day_23 (fun H locs hB9 S => ?_)
    refine lv_if_ne (tgt := 35) hx hb dX9_day_26 (by decide) (fun c10 => ?_) (fun c10 => ?_)
    · have hz := ipf (c10) hz
      refine lv_aload_n hx hb dX9_day_35 rfl (lv_at hl 0 rfl) ?_
      refine lv_iload_n hx hb dX9_day_36 rfl (lv_at hl 1 rfl) ?_
      refine lv_iload_n hx hb dX9_day_37 rfl (lv_at hl 2 rfl) ?_
      obtain ⟨q11, e12, hz⟩ := bd hz
      refine g_callVv (As := [.int x1, .int x2]) (rest := []) F S (c_X9_begin l G x1 x2  _ e12) (cw_X9_day_X9_begin_165 hg) (S.obj (by decide) (by decide) rfl (oc_X9 _ _ _ (by decide))) rfl hl.1 rfl (Nat.le_of_ble_eq_true rfl) ⟨Nat.zero_le _, Nat.zero_le _⟩ dX9_day_38 (fun H locs  S => ?_)
      refine lv_iconst (v := 1) hx hb dX9_day_41 (by decide) ?_
      exact g_retb hx hb hr hlk S isB_1 hz dX9_day_42
    · have hz := ipt (c10) hz
      refine lv_aload_n hx hb dX9_day_29 rfl (lv_at hl 0 rfl) ?_
      refine lv_iconst (v := 2) hx hb dX9_day_30 (by decide) ?_
      obtain ⟨q13, e14, hz⟩ := bd hz
      refine g_callVb (As := [.int 2]) (rest := []) F S (c_X9_isNot l G 2  _ e14) (cw_X9_day_X9_isNot_379 hg) (S.obj (by decide) (by decide) rfl (oc_X9 _ _ _ (by decide))) rfl hl.1 rfl (Nat.le_of_ble_eq_true rfl) ⟨Nat.zero_le _, Nat.zero_le _⟩ dX9_day_31 (fun H locs hB15 S => ?_)
      exact g_retb hx hb hr hlk S hB15 hz dX9_day_34
  · have hz := ipt (c6) hz
    refine lv_aload_n hx hb dX9_day_12 rfl (lv_at hl 0 rfl) ?_
    refine lv_iconst (v := 1) hx hb dX9_day_13 (by decide) ?_
    obtain ⟨q16, e17, hz⟩ := bd hz
    refine g_callVb (As := [.int 1]) (rest := []) F S (c_X9_isNot l G 1  _ e17) (cw_X9_day_X9_isNot_379 hg) (S.obj (by decide) (by decide) rfl (oc_X9 _ _ _ (by decide))) rfl hl.1 rfl (Nat.le_of_ble_eq_true rfl) ⟨Nat.zero_le _, Nat.zero_le _⟩ dX9_day_14 (fun H locs hB18 S => ?_)
    exact g_retb hx hb hr hlk S hB18 hz dX9_day_17
noncomputable def f_X9_draw (x1 : Int32) (w : GW) : Option (Int32 × GW) :=
  if inb 8 9 then
  if inb 8 9 then
  if inb 8 9 then
  if ¬ x1 = 0 then
  some ((irm (gI (sI w 135 (ix 8) (irm ((75 * (gI w 135 (ix 8))) + 74) 65537)) 135 (ix 8)) x1), (sI w 135 (ix 8) (irm ((75 * (gI w 135 (ix 8))) + 74) 65537)))
  else none
  else none
  else none
  else none
set_option maxHeartbeats 4000000 in
set_option maxRecDepth 100000 in
theorem c_X9_draw (l : Launch) (G : GG) (x1 : Int32)  (w : GW) {z : Int32 × GW} (hz : f_X9_draw x1 w = some z) : Met l yX9_draw (wsU yX9_draw cX9_draw 2 (some .int)) rm_X9_draw (va_Pc [.ref (gad G 130), .int x1] (PreG G w)) (QI G z) 0 0 (gA G) := by
  refine Met.ofW (cc := cX9_draw) (maxL := 2) (ret := (some .int)) (by decide) rfl ?_
  intro p e s m args below meth c s₁ B hml hv
  obtain ⟨rfl, S⟩ := hv
  have F : CallFix p m c cX9_draw 2 s _ (wsU yX9_draw cX9_draw 2 (some .int)) RX9 := ⟨B.exec, B.bytes, hml, findClass_of_methodNamed B.named, atoms_spec B.pre⟩
  have hr := B.returns
  have hlk := B.notSynchronized
  obtain ⟨hx, hb, -, hown, hts⟩ := id F
  have hg : ∀ q ∈ lwg, q.before _ s = true := fun q h => hts q (List.mem_cons_of_mem _ h)
  refine g_entry (Nat.le_of_ble_eq_true rfl) (fun ls hl => ?_)
  have hl : lv_has ls 2 [(0, .ref (gad G 130)), (1, .int x1)] := hl
  have S : St G w s s.heap [] := S
  generalize s.heap = H at S ⊢
  generalize ([] : List Loc) = locs at S ⊢
  rw [f_X9_draw] at hz
  refine lv_aload_n hx hb dX9_draw_0 rfl (lv_at hl 0 rfl) ?_
  refine fg_X9_17 hx hb (fun q h => hg q (tl_X9 q h)) hown (hg _ t_fl_X9_26) S (by decide) dX9_draw_1 ?_
  refine lv_bipush (v := 8) hx hb dX9_draw_4 (by decide) ?_
  refine lv_bipush (v := 75) hx hb dX9_draw_6 (by decide) ?_
  refine lv_aload_n hx hb dX9_draw_8 rfl (lv_at hl 0 rfl) ?_
  refine fg_X9_17 hx hb (fun q h => hg q (tl_X9 q h)) hown (hg _ t_fl_X9_26) S (by decide) dX9_draw_9 ?_
  refine lv_bipush (v := 8) hx hb dX9_draw_12 (by decide) ?_
  obtain ⟨h1, hz⟩ := ck hz
  refine g_iald hx hb S (isA_16 (by decide)) h1 dX9_draw_14 ?_
  refine lv_imul hx hb dX9_draw_15 ?_
  refine lv_bipush (v := 74) hx hb dX9_draw_16 (by decide) ?_
  refine lv_iadd hx hb dX9_draw_18 ?_
  refine lv_ldcw (v := 65537) hx hb hown (hg _ t_ci_X9_383) dX9_draw_19 ?_
  refine g_irem hx hb dX9_draw_22 (by decide) ?_
  obtain ⟨h2, hz⟩ := ck hz
  refine g_iast (x := (irm ((75 * (gI w 135 (ix 8))) + 74) 65537)) hx hb S (isA_16 (by decide)) h2 dX9_draw_23 (fun H locs S => ?_)
  refine lv_aload_n hx hb dX9_draw_24 rfl (lv_at hl 0 rfl) ?_
  refine fg_X9_17 hx hb (fun q h => hg q (tl_X9 q h)) hown (hg _ t_fl_X9_26) S (by decide) dX9_draw_25 ?_
  refine lv_bipush (v := 8) hx hb dX9_draw_28 (by decide) ?_
  obtain ⟨h3, hz⟩ := ck hz
  refine g_iald hx hb S (isA_16 (by decide)) h3 dX9_draw_30 ?_
  refine lv_iload_n hx hb dX9_draw_31 rfl (lv_at hl 1 rfl) ?_
  obtain ⟨h4, hz⟩ := ck hz
  refine g_irem hx hb dX9_draw_32 h4 ?_
  exact g_reti hx hb hr hlk S hz dX9_draw_33
noncomputable def f_X9_putOne_233   (w : GW) : Option (Unit × GW) :=
  (f_X9_keepDay w).bind fun q24 =>
  some ((), q24.2)
noncomputable def f_X9_putOne_217  (x1 : Int32) (w : GW) : Option (Unit × GW) :=
  if 5 ≤ x1 then
    f_X9_putOne_233 w
  else
    if inb 6 9 then
    (f_X9_moves (gI w 135 (ix 6)) w).bind fun q27 =>
    f_X9_putOne_233 q27.2
    else none
noncomputable def f_X9_putOne_175  (x2 : Int32) (x3 : Int32) (t0 : Int32) (w : GW) : Option (Unit × GW) :=
  if inb (24 + x2) 135 then
  if inb (24 + x2) 135 then
  if inb (30 + x2) 135 then
  (f_X9_taken (gI w 133 (ix (24 + x2))) (gI w 133 (ix (30 + x2))) x3 t0 w).bind fun q19 =>
  (f_X9_puts (gI w 133 (ix (24 + x2))) x3 q19.1 q19.2).bind fun q21 =>
  f_X9_putOne_217 q21.1 q21.2
  else none
  else none
  else none
noncomputable def f_X9_putOne_157  (x2 : Int32) (x3 : Int32) (t0 : Int32) (w : GW) : Option (Unit × GW) :=
  if t0 ≤ 1 then
    f_X9_putOne_175 x2 x3 0 w
  else
    (f_X9_draw t0 w).bind fun q29 =>
    f_X9_putOne_175 x2 x3 q29.1 q29.2
noncomputable def f_X9_putOne_85 (k_66 : Int32 → Int32 → Int32 → GW → Option (Unit × GW)) : Nat → Int32 → Int32 → Int32 → Int32 → Int32 → GW → Option (Unit × GW)
  | 0, _, _, _, _, _, _ => none
  | n9 + 1, x2, x3, x4, x5, x6, w =>
    if inb (7 + x6) 135 then
    if x5 < (gI w 133 (ix (7 + x6))) then
      if inb x4 3 then
      k_66 x2 x3 (x4 + 1) (sI w 138 (ix x4) x6)
      else none
    else
      if inb (7 + x6) 135 then
      f_X9_putOne_85 k_66 n9 x2 x3 x4 (x5 - (gI w 133 (ix (7 + x6)))) (x6 + 1) w
      else none
    else none
noncomputable def f_X9_putOne_66  : Nat → Int32 → Int32 → Int32 → GW → Option (Unit × GW)
  | 0, _, _, _, _ => none
  | n9 + 1, x2, x3, x4, w =>
    if x3 ≤ x4 then
      if inb (24 + x2) 135 then
      if (gI w 133 (ix (24 + x2))) = 0 then
        (f_X9_ties x3 w).bind fun q31 =>
        f_X9_putOne_157 x2 x3 q31.1 q31.2
      else
        f_X9_putOne_157 x2 x3 1 w
      else none
    else
      (f_X9_allWeights w).bind fun q33 =>
      (f_X9_draw q33.1 q33.2).bind fun q35 =>
      f_X9_putOne_85 (f_X9_putOne_66 n9) fu x2 x3 x4 q35.1 0 q35.2
noncomputable def f_X9_putOne  (w : GW) : Option (Unit × GW) :=
  if inb 6 9 then
  if inb 6 9 then
  (f_X9_layDay (sI w 135 (ix 6) ((gI w 135 (ix 6)) + 1))).bind fun q3 =>
  if inb 6 9 then
  (f_X9_isDoor (gI q3.2 135 (ix 6)) q3.2).bind fun q6 =>
  if q6.1 = 0 then
    if inb 5 9 then
    if inb (18 + (gI q6.2 135 (ix 5))) 135 then
    f_X9_putOne_66 fu (gI q6.2 135 (ix 5)) (gI q6.2 133 (ix (18 + (gI q6.2 135 (ix 5))))) 0 q6.2
    else none
    else none
  else
    if inb 36 135 then
    (f_X9_goesTo (gI q6.2 133 (ix 36)) q6.2).bind fun q42 =>
    f_X9_putOne_217 q42.1 q42.2
    else none
  else none
  else none
  else none
set_option maxHeartbeats 4000000 in
set_option maxRecDepth 100000 in
theorem w_X9_putOne_233 {p : Program} {l : Launch} {e : Env} {s : State} {m : MethodId} {args : Array Value} {below : List Frame} {meth : Method} {c : Code} {G : GG} (F : CallFix p m c cX9_putOne 7 s args (wsU yX9_putOne cX9_putOne 7 none) RX9) (hr : meth.sig.returnType = none) (hlk : meth.locks = false) {z : Unit × GW} : (∀ (w : GW) (H : Heap) (locs : List Loc) (ls : Array Slot), St G w s H locs → lv_has ls 7 [(0, .ref (gad G 130))] → f_X9_putOne_233  w = some z → W p l e (headSpec (wsU yX9_putOne cX9_putOne 7 none) rm_X9_putOne).room s m args below meth c H locs 0 0 (MQ below (QV G z) args s 0 0 (gA G)) (F0 m 233 ls [])) := by
  obtain ⟨hx, hb, hml, hown, hts⟩ := id F
  have hg : ∀ q ∈ lwg, q.before args s = true := fun q h => hts q (List.mem_cons_of_mem _ h)
  intro w H locs ls S hl hz
  rw [f_X9_putOne_233] at hz
  refine lv_aload_n hx hb dX9_putOne_233 rfl (lv_at hl 0 rfl) ?_
  obtain ⟨q24, e25, hz⟩ := bd hz
  refine g_callVv (As := []) (rest := []) F S (c_X9_keepDay l G   _ e25) (cw_X9_putOne_X9_keepDay_390 hg) (S.obj (by decide) (by decide) rfl (oc_X9 _ _ _ (by decide))) rfl hl.1 rfl (Nat.le_of_ble_eq_true rfl) ⟨Nat.zero_le _, Nat.zero_le _⟩ dX9_putOne_234 (fun H locs  S => ?_)
  exact g_retv hx hb hr hlk S hz dX9_putOne_237
set_option maxHeartbeats 4000000 in
set_option maxRecDepth 100000 in
theorem w_X9_putOne_217 {p : Program} {l : Launch} {e : Env} {s : State} {m : MethodId} {args : Array Value} {below : List Frame} {meth : Method} {c : Code} {G : GG} (F : CallFix p m c cX9_putOne 7 s args (wsU yX9_putOne cX9_putOne 7 none) RX9) (hr : meth.sig.returnType = none) (hlk : meth.locks = false) {z : Unit × GW} : (∀ (x1 : Int32) (w : GW) (H : Heap) (locs : List Loc) (ls : Array Slot), St G w s H locs → lv_has ls 7 [(0, .ref (gad G 130)), (1, .int x1)] → f_X9_putOne_217 x1 w = some z → W p l e (headSpec (wsU yX9_putOne cX9_putOne 7 none) rm_X9_putOne).room s m args below meth c H locs 0 0 (MQ below (QV G z) args s 0 0 (gA G)) (F0 m 217 ls [])) := by
  obtain ⟨hx, hb, hml, hown, hts⟩ := id F
  have hg : ∀ q ∈ lwg, q.before args s = true := fun q h => hts q (List.mem_cons_of_mem _ h)
  intro x1 w H locs ls S hl hz
  rw [f_X9_putOne_217] at hz
  refine lv_iload_n hx hb dX9_putOne_217 rfl (lv_at hl 1 rfl) ?_
  refine lv_iconst (v := 5) hx hb dX9_putOne_218 (by decide) ?_
  refine lv_icmp_ge (tgt := 233) hx hb dX9_putOne_219 (by decide) (fun c23 => ?_) (fun c23 => ?_)
  · have hz := ipt (c23) hz
    exact w_X9_putOne_233 F hr hlk _ _ _ _ S (lv_sub hl [0] rfl) hz
  · have hz := ipf (c23) hz
    refine lv_aload_n hx hb dX9_putOne_222 rfl (lv_at hl 0 rfl) ?_
    refine lv_aload_n hx hb dX9_putOne_223 rfl (lv_at hl 0 rfl) ?_
    refine fg_X9_17 hx hb (fun q h => hg q (tl_X9 q h)) hown (hg _ t_fl_X9_26) S (by decide) dX9_putOne_224 ?_
    refine lv_bipush (v := 6) hx hb dX9_putOne_227 (by decide) ?_
    obtain ⟨h26, hz⟩ := ck hz
    refine g_iald hx hb S (isA_16 (by decide)) h26 dX9_putOne_229 ?_
    obtain ⟨q27, e28, hz⟩ := bd hz
    refine g_callVv (As := [.int (gI w 135 (ix 6))]) (rest := []) F S (c_X9_moves l G (gI w 135 (ix 6))  _ e28) (cw_X9_putOne_X9_moves_283 hg) (S.obj (by decide) (by decide) rfl (oc_X9 _ _ _ (by decide))) rfl hl.1 rfl (Nat.le_of_ble_eq_true rfl) ⟨Nat.zero_le _, Nat.zero_le _⟩ dX9_putOne_230 (fun H locs  S => ?_)
    exact w_X9_putOne_233 F hr hlk _ _ _ _ S (lv_sub hl [0] rfl) hz
set_option maxHeartbeats 4000000 in
set_option maxRecDepth 100000 in
theorem w_X9_putOne_175 {p : Program} {l : Launch} {e : Env} {s : State} {m : MethodId} {args : Array Value} {below : List Frame} {meth : Method} {c : Code} {G : GG} (F : CallFix p m c cX9_putOne 7 s args (wsU yX9_putOne cX9_putOne 7 none) RX9) (hr : meth.sig.returnType = none) (hlk : meth.locks = false) {z : Unit × GW} : (∀ (x2 : Int32) (x3 : Int32) (t0 : Int32) (w : GW) (H : Heap) (locs : List Loc) (ls : Array Slot), St G w s H locs → lv_has ls 7 [(0, .ref (gad G 130)), (2, .int x2), (3, .int x3)] → f_X9_putOne_175 x2 x3 t0 w = some z → W p l e (headSpec (wsU yX9_putOne cX9_putOne 7 none) rm_X9_putOne).room s m args below meth c H locs 0 0 (MQ below (QV G z) args s 0 0 (gA G)) (F0 m 175 ls [.int t0])) := by
  obtain ⟨hx, hb, hml, hown, hts⟩ := id F
  have hg : ∀ q ∈ lwg, q.before args s = true := fun q h => hts q (List.mem_cons_of_mem _ h)
  intro x2 x3 t0 w H locs ls S hl hz
  rw [f_X9_putOne_175] at hz
  refine lv_istore (lv' := [(5, .int t0), (0, .ref (gad G 130)), (2, .int x2), (3, .int x3)]) hx hb dX9_putOne_175 hl (by decide) rfl (fun ls hl => ?_)
  refine lv_aload_n hx hb dX9_putOne_177 rfl (lv_at hl 1 rfl) ?_
  refine lv_aload_n hx hb dX9_putOne_178 rfl (lv_at hl 1 rfl) ?_
  refine fg_X9_15 hx hb (fun q h => hg q (tl_X9 q h)) hown (hg _ t_fl_X9_20) S (by decide) dX9_putOne_179 ?_
  refine lv_bipush (v := 24) hx hb dX9_putOne_182 (by decide) ?_
  refine lv_iload_n hx hb dX9_putOne_184 rfl (lv_at hl 2 rfl) ?_
  refine lv_iadd hx hb dX9_putOne_185 ?_
  obtain ⟨h16, hz⟩ := ck hz
  refine g_iald hx hb S (isA_15 (by decide)) h16 dX9_putOne_186 ?_
  refine lv_iload_n hx hb dX9_putOne_187 rfl (lv_at hl 3 rfl) ?_
  refine lv_aload_n hx hb dX9_putOne_188 rfl (lv_at hl 1 rfl) ?_
  refine lv_aload_n hx hb dX9_putOne_189 rfl (lv_at hl 1 rfl) ?_
  refine fg_X9_15 hx hb (fun q h => hg q (tl_X9 q h)) hown (hg _ t_fl_X9_20) S (by decide) dX9_putOne_190 ?_
  refine lv_bipush (v := 24) hx hb dX9_putOne_193 (by decide) ?_
  refine lv_iload_n hx hb dX9_putOne_195 rfl (lv_at hl 2 rfl) ?_
  refine lv_iadd hx hb dX9_putOne_196 ?_
  obtain ⟨h17, hz⟩ := ck hz
  refine g_iald hx hb S (isA_15 (by decide)) h17 dX9_putOne_197 ?_
  refine lv_aload_n hx hb dX9_putOne_198 rfl (lv_at hl 1 rfl) ?_
  refine fg_X9_15 hx hb (fun q h => hg q (tl_X9 q h)) hown (hg _ t_fl_X9_20) S (by decide) dX9_putOne_199 ?_
  refine lv_bipush (v := 30) hx hb dX9_putOne_202 (by decide) ?_
  refine lv_iload_n hx hb dX9_putOne_204 rfl (lv_at hl 2 rfl) ?_
  refine lv_iadd hx hb dX9_putOne_205 ?_
  obtain ⟨h18, hz⟩ := ck hz
  refine g_iald hx hb S (isA_15 (by decide)) h18 dX9_putOne_206 ?_
  refine lv_iload_n hx hb dX9_putOne_207 rfl (lv_at hl 3 rfl) ?_
  refine lv_iload hx hb dX9_putOne_208 (lv_at hl 0 rfl) ?_
  obtain ⟨q19, e20, hz⟩ := bd hz
  refine g_callVi (As := [.int (gI w 133 (ix (24 + x2))), .int (gI w 133 (ix (30 + x2))), .int x3, .int t0]) (rest := [.int x3, .int (gI w 133 (ix (24 + x2))), .ref (gad G 130)]) F S (c_X9_taken l G (gI w 133 (ix (24 + x2))) (gI w 133 (ix (30 + x2))) x3 t0  _ e20) (cw_X9_putOne_X9_taken_301 hg) (S.obj (by decide) (by decide) rfl (oc_X9 _ _ _ (by decide))) rfl hl.1 rfl (Nat.le_of_ble_eq_true rfl) ⟨Nat.zero_le _, Nat.zero_le _⟩ dX9_putOne_210 (fun H locs  S => ?_)
  obtain ⟨q21, e22, hz⟩ := bd hz
  refine g_callVi (As := [.int (gI w 133 (ix (24 + x2))), .int x3, .int q19.1]) (rest := []) F S (c_X9_puts l G (gI w 133 (ix (24 + x2))) x3 q19.1  _ e22) (cw_X9_putOne_X9_puts_305 hg) (S.obj (by decide) (by decide) rfl (oc_X9 _ _ _ (by decide))) rfl hl.1 rfl (Nat.le_of_ble_eq_true rfl) ⟨Nat.zero_le _, Nat.zero_le _⟩ dX9_putOne_213 (fun H locs  S => ?_)
  refine lv_istore_n (lv' := [(1, .int q21.1), (5, .int t0), (0, .ref (gad G 130)), (2, .int x2), (3, .int x3)]) hx hb dX9_putOne_216 rfl hl (by decide) rfl (fun ls hl => ?_)
  exact w_X9_putOne_217 F hr hlk q21.1 _ _ _ _ S (lv_sub hl [2, 0] rfl) hz
set_option maxHeartbeats 4000000 in
set_option maxRecDepth 100000 in
theorem w_X9_putOne_157 {p : Program} {l : Launch} {e : Env} {s : State} {m : MethodId} {args : Array Value} {below : List Frame} {meth : Method} {c : Code} {G : GG} (F : CallFix p m c cX9_putOne 7 s args (wsU yX9_putOne cX9_putOne 7 none) RX9) (hr : meth.sig.returnType = none) (hlk : meth.locks = false) {z : Unit × GW} : (∀ (x2 : Int32) (x3 : Int32) (t0 : Int32) (w : GW) (H : Heap) (locs : List Loc) (ls : Array Slot), St G w s H locs → lv_has ls 7 [(0, .ref (gad G 130)), (2, .int x2), (3, .int x3)] → f_X9_putOne_157 x2 x3 t0 w = some z → W p l e (headSpec (wsU yX9_putOne cX9_putOne 7 none) rm_X9_putOne).room s m args below meth c H locs 0 0 (MQ below (QV G z) args s 0 0 (gA G)) (F0 m 157 ls [.int t0])) := by
  obtain ⟨hx, hb, hml, hown, hts⟩ := id F
  have hg : ∀ q ∈ lwg, q.before args s = true := fun q h => hts q (List.mem_cons_of_mem _ h)
  intro x2 x3 t0 w H locs ls S hl hz
  rw [f_X9_putOne_157] at hz
  refine lv_istore (lv' := [(4, .int t0), (0, .ref (gad G 130)), (2, .int x2), (3, .int x3)]) hx hb dX9_putOne_157 hl (by decide) rfl (fun ls hl => ?_)
  refine lv_iload hx hb dX9_putOne_159 (lv_at hl 0 rfl) ?_
  refine lv_iconst (v := 1) hx hb dX9_putOne_161 (by decide) ?_
  refine lv_icmp_le (tgt := 174) hx hb dX9_putOne_162 (by decide) (fun c15 => ?_) (fun c15 => ?_)
  · have hz := ipt (c15) hz
    refine lv_iconst (v := 0) hx hb dX9_putOne_174 (by decide) ?_
    exact w_X9_putOne_175 F hr hlk x2 x3 0 _ _ _ _ S (lv_sub hl [1, 2, 3] rfl) hz
  · have hz := ipf (c15) hz
    refine lv_aload_n hx hb dX9_putOne_165 rfl (lv_at hl 1 rfl) ?_
    refine lv_iload hx hb dX9_putOne_166 (lv_at hl 0 rfl) ?_
    obtain ⟨q29, e30, hz⟩ := bd hz
    refine g_callVi (As := [.int t0]) (rest := []) F S (c_X9_draw l G t0  _ e30) (cw_X9_putOne_X9_draw_387 hg) (S.obj (by decide) (by decide) rfl (oc_X9 _ _ _ (by decide))) rfl hl.1 rfl (Nat.le_of_ble_eq_true rfl) ⟨Nat.zero_le _, Nat.zero_le _⟩ dX9_putOne_168 (fun H locs  S => ?_)
    refine lv_goto (tgt := 175) hx hb dX9_putOne_171 (by decide) ?_
    exact w_X9_putOne_175 F hr hlk x2 x3 q29.1 _ _ _ _ S (lv_sub hl [1, 2, 3] rfl) hz
set_option maxHeartbeats 4000000 in
set_option maxRecDepth 100000 in
theorem w_X9_putOne_85 {p : Program} {l : Launch} {e : Env} {s : State} {m : MethodId} {args : Array Value} {below : List Frame} {meth : Method} {c : Code} {G : GG} (F : CallFix p m c cX9_putOne 7 s args (wsU yX9_putOne cX9_putOne 7 none) RX9) (hr : meth.sig.returnType = none) (hlk : meth.locks = false) {z : Unit × GW} {k_66 : Int32 → Int32 → Int32 → GW → Option (Unit × GW)} (Hk_66 : (∀ (x2 : Int32) (x3 : Int32) (x4 : Int32) (w : GW) (H : Heap) (locs : List Loc) (ls : Array Slot), St G w s H locs → lv_has ls 7 [(0, .ref (gad G 130)), (2, .int x2), (3, .int x3), (4, .int x4)] → k_66 x2 x3 x4 w = some z → W p l e (headSpec (wsU yX9_putOne cX9_putOne 7 none) rm_X9_putOne).room s m args below meth c H locs 0 0 (MQ below (QV G z) args s 0 0 (gA G)) (F0 m 66 ls []))) : ∀ (n9 : Nat), (∀ (x2 : Int32) (x3 : Int32) (x4 : Int32) (x5 : Int32) (x6 : Int32) (w : GW) (H : Heap) (locs : List Loc) (ls : Array Slot), St G w s H locs → lv_has ls 7 [(0, .ref (gad G 130)), (2, .int x2), (3, .int x3), (4, .int x4), (5, .int x5), (6, .int x6)] → f_X9_putOne_85 k_66 n9 x2 x3 x4 x5 x6 w = some z → W p l e (headSpec (wsU yX9_putOne cX9_putOne 7 none) rm_X9_putOne).room s m args below meth c H locs 0 0 (MQ below (QV G z) args s 0 0 (gA G)) (F0 m 85 ls [])) := by
  obtain ⟨hx, hb, hml, hown, hts⟩ := id F
  have hg : ∀ q ∈ lwg, q.before args s = true := fun q h => hts q (List.mem_cons_of_mem _ h)
  intro n9
  induction n9 with
  | zero =>
    intro x2 x3 x4 x5 x6 w H locs ls S hl hz
    rw [f_X9_putOne_85] at hz
    cases hz
  | succ n9 ih =>
    intro x2 x3 x4 x5 x6 w H locs ls S hl hz
    rw [f_X9_putOne_85] at hz
    refine lv_iload hx hb dX9_putOne_85 (lv_at hl 4 rfl) ?_
    refine lv_aload_n hx hb dX9_putOne_87 rfl (lv_at hl 0 rfl) ?_
    refine fg_X9_15 hx hb (fun q h => hg q (tl_X9 q h)) hown (hg _ t_fl_X9_20) S (by decide) dX9_putOne_88 ?_
    refine lv_bipush (v := 7) hx hb dX9_putOne_91 (by decide) ?_
    refine lv_iload hx hb dX9_putOne_93 (lv_at hl 5 rfl) ?_
    refine lv_iadd hx hb dX9_putOne_95 ?_
    obtain ⟨h37, hz⟩ := ck hz
    refine g_iald hx hb S (isA_15 (by decide)) h37 dX9_putOne_96 ?_
    refine lv_icmp_lt (tgt := 121) hx hb dX9_putOne_97 (by decide) (fun c38 => ?_) (fun c38 => ?_)
    · have hz := ipt (c38) hz
      refine lv_aload_n hx hb dX9_putOne_121 rfl (lv_at hl 0 rfl) ?_
      refine fg_X9_21 hx hb (fun q h => hg q (tl_X9 q h)) hown (hg _ t_fl_X9_35) S (by decide) dX9_putOne_122 ?_
      refine lv_iload hx hb dX9_putOne_125 (lv_at hl 3 rfl) ?_
      refine lv_iload hx hb dX9_putOne_127 (lv_at hl 5 rfl) ?_
      obtain ⟨h39, hz⟩ := ck hz
      refine g_iast (x := x6) hx hb S (isA_12 (by decide)) h39 dX9_putOne_129 (fun H locs S => ?_)
      refine lv_iinc (v := (x4 + 1)) (lv' := [(4, .int (x4 + 1)), (0, .ref (gad G 130)), (2, .int x2), (3, .int x3), (5, .int x5), (6, .int x6)]) hx hb dX9_putOne_130 hl (k := 3) rfl rfl (by decide) rfl (fun ls hl => ?_)
      refine lv_goto (tgt := 66) hx hb dX9_putOne_133 (by decide) ?_
      exact Hk_66 x2 x3 (x4 + 1)  _ _ _ _ S (lv_sub hl [1, 2, 3, 0] rfl) hz
    · have hz := ipf (c38) hz
      refine lv_iload hx hb dX9_putOne_100 (lv_at hl 4 rfl) ?_
      refine lv_aload_n hx hb dX9_putOne_102 rfl (lv_at hl 0 rfl) ?_
      refine fg_X9_15 hx hb (fun q h => hg q (tl_X9 q h)) hown (hg _ t_fl_X9_20) S (by decide) dX9_putOne_103 ?_
      refine lv_bipush (v := 7) hx hb dX9_putOne_106 (by decide) ?_
      refine lv_iload hx hb dX9_putOne_108 (lv_at hl 5 rfl) ?_
      refine lv_iadd hx hb dX9_putOne_110 ?_
      obtain ⟨h40, hz⟩ := ck hz
      refine g_iald hx hb S (isA_15 (by decide)) h40 dX9_putOne_111 ?_
      refine lv_isub hx hb dX9_putOne_112 ?_
      refine lv_istore (lv' := [(5, .int (x5 - (gI w 133 (ix (7 + x6))))), (0, .ref (gad G 130)), (2, .int x2), (3, .int x3), (4, .int x4), (6, .int x6)]) hx hb dX9_putOne_113 hl (by decide) rfl (fun ls hl => ?_)
      refine lv_iinc (v := (x6 + 1)) (lv' := [(6, .int (x6 + 1)), (5, .int (x5 - (gI w 133 (ix (7 + x6))))), (0, .ref (gad G 130)), (2, .int x2), (3, .int x3), (4, .int x4)]) hx hb dX9_putOne_115 hl (k := 5) rfl rfl (by decide) rfl (fun ls hl => ?_)
      refine lv_goto (tgt := 85) hx hb dX9_putOne_118 (by decide) ?_
      exact ih x2 x3 x4 (x5 - (gI w 133 (ix (7 + x6)))) (x6 + 1)  _ _ _ _ S (lv_sub hl [2, 3, 4, 5, 1, 0] rfl) hz
set_option maxHeartbeats 4000000 in
set_option maxRecDepth 100000 in
theorem w_X9_putOne_66 {p : Program} {l : Launch} {e : Env} {s : State} {m : MethodId} {args : Array Value} {below : List Frame} {meth : Method} {c : Code} {G : GG} (F : CallFix p m c cX9_putOne 7 s args (wsU yX9_putOne cX9_putOne 7 none) RX9) (hr : meth.sig.returnType = none) (hlk : meth.locks = false) {z : Unit × GW} : ∀ (n9 : Nat), (∀ (x2 : Int32) (x3 : Int32) (x4 : Int32) (w : GW) (H : Heap) (locs : List Loc) (ls : Array Slot), St G w s H locs → lv_has ls 7 [(0, .ref (gad G 130)), (2, .int x2), (3, .int x3), (4, .int x4)] → f_X9_putOne_66 n9 x2 x3 x4 w = some z → W p l e (headSpec (wsU yX9_putOne cX9_putOne 7 none) rm_X9_putOne).room s m args below meth c H locs 0 0 (MQ below (QV G z) args s 0 0 (gA G)) (F0 m 66 ls [])) := by
  obtain ⟨hx, hb, hml, hown, hts⟩ := id F
  have hg : ∀ q ∈ lwg, q.before args s = true := fun q h => hts q (List.mem_cons_of_mem _ h)
  intro n9
  induction n9 with
  | zero =>
    intro x2 x3 x4 w H locs ls S hl hz
    rw [f_X9_putOne_66] at hz
    cases hz
  | succ n9 ih =>
    intro x2 x3 x4 w H locs ls S hl hz
    rw [f_X9_putOne_66] at hz
    refine lv_iload hx hb dX9_putOne_66 (lv_at hl 3 rfl) ?_
    refine lv_iload_n hx hb dX9_putOne_68 rfl (lv_at hl 2 rfl) ?_
    refine lv_icmp_ge (tgt := 136) hx hb dX9_putOne_69 (by decide) (fun c12 => ?_) (fun c12 => ?_)
    · have hz := ipt (c12) hz
      refine lv_aload_n hx hb dX9_putOne_136 rfl (lv_at hl 0 rfl) ?_
      refine fg_X9_15 hx hb (fun q h => hg q (tl_X9 q h)) hown (hg _ t_fl_X9_20) S (by decide) dX9_putOne_137 ?_
      refine lv_bipush (v := 24) hx hb dX9_putOne_140 (by decide) ?_
      refine lv_iload_n hx hb dX9_putOne_142 rfl (lv_at hl 1 rfl) ?_
      refine lv_iadd hx hb dX9_putOne_143 ?_
      obtain ⟨h13, hz⟩ := ck hz
      refine g_iald hx hb S (isA_15 (by decide)) h13 dX9_putOne_144 ?_
      refine lv_if_ne (tgt := 156) hx hb dX9_putOne_145 (by decide) (fun c14 => ?_) (fun c14 => ?_)
      · have hz := ipf (c14) hz
        refine lv_iconst (v := 1) hx hb dX9_putOne_156 (by decide) ?_
        exact w_X9_putOne_157 F hr hlk x2 x3 1 _ _ _ _ S (lv_sub hl [0, 1, 2] rfl) hz
      · have hz := ipt (c14) hz
        refine lv_aload_n hx hb dX9_putOne_148 rfl (lv_at hl 0 rfl) ?_
        refine lv_iload_n hx hb dX9_putOne_149 rfl (lv_at hl 2 rfl) ?_
        obtain ⟨q31, e32, hz⟩ := bd hz
        refine g_callVi (As := [.int x3]) (rest := []) F S (c_X9_ties l G x3  _ e32) (cw_X9_putOne_X9_ties_298 hg) (S.obj (by decide) (by decide) rfl (oc_X9 _ _ _ (by decide))) rfl hl.1 rfl (Nat.le_of_ble_eq_true rfl) ⟨Nat.zero_le _, Nat.zero_le _⟩ dX9_putOne_150 (fun H locs  S => ?_)
        refine lv_goto (tgt := 157) hx hb dX9_putOne_153 (by decide) ?_
        exact w_X9_putOne_157 F hr hlk x2 x3 q31.1 _ _ _ _ S (lv_sub hl [0, 1, 2] rfl) hz
    · have hz := ipf (c12) hz
      refine lv_aload_n hx hb dX9_putOne_72 rfl (lv_at hl 0 rfl) ?_
      refine lv_aload_n hx hb dX9_putOne_73 rfl (lv_at hl 0 rfl) ?_
      obtain ⟨q33, e34, hz⟩ := bd hz
      refine g_callVi (As := []) (rest := [.ref (gad G 130)]) F S (c_X9_allWeights l G   _ e34) (cw_X9_putOne_X9_allWeights_240 hg) (S.obj (by decide) (by decide) rfl (oc_X9 _ _ _ (by decide))) rfl hl.1 rfl (Nat.le_of_ble_eq_true rfl) ⟨Nat.zero_le _, Nat.zero_le _⟩ dX9_putOne_74 (fun H locs  S => ?_)
      obtain ⟨q35, e36, hz⟩ := bd hz
      refine g_callVi (As := [.int q33.1]) (rest := []) F S (c_X9_draw l G q33.1  _ e36) (cw_X9_putOne_X9_draw_387 hg) (S.obj (by decide) (by decide) rfl (oc_X9 _ _ _ (by decide))) rfl hl.1 rfl (Nat.le_of_ble_eq_true rfl) ⟨Nat.zero_le _, Nat.zero_le _⟩ dX9_putOne_77 (fun H locs  S => ?_)
      refine lv_istore (lv' := [(5, .int q35.1), (0, .ref (gad G 130)), (2, .int x2), (3, .int x3), (4, .int x4)]) hx hb dX9_putOne_80 hl (by decide) rfl (fun ls hl => ?_)
      refine lv_iconst (v := 0) hx hb dX9_putOne_82 (by decide) ?_
      refine lv_istore (lv' := [(6, .int 0), (5, .int q35.1), (0, .ref (gad G 130)), (2, .int x2), (3, .int x3), (4, .int x4)]) hx hb dX9_putOne_83 hl (by decide) rfl (fun ls hl => ?_)
      exact w_X9_putOne_85 F hr hlk ih fu x2 x3 x4 q35.1 0 _ _ _ _ S (lv_sub hl [2, 3, 4, 5, 1, 0] rfl) hz
set_option maxHeartbeats 4000000 in
set_option maxRecDepth 100000 in
theorem c_X9_putOne (l : Launch) (G : GG)   (w : GW) {z : Unit × GW} (hz : f_X9_putOne  w = some z) : Met l yX9_putOne (wsU yX9_putOne cX9_putOne 7 none) rm_X9_putOne (va_Pc [.ref (gad G 130)] (PreG G w)) (QV G z) 0 0 (gA G) := by
  refine Met.ofW (cc := cX9_putOne) (maxL := 7) (ret := none) (by decide) rfl ?_
  intro p e s m args below meth c s₁ B hml hv
  obtain ⟨rfl, S⟩ := hv
  have F : CallFix p m c cX9_putOne 7 s _ (wsU yX9_putOne cX9_putOne 7 none) RX9 := ⟨B.exec, B.bytes, hml, findClass_of_methodNamed B.named, atoms_spec B.pre⟩
  have hr := B.returns
  have hlk := B.notSynchronized
  obtain ⟨hx, hb, -, hown, hts⟩ := id F
  have hg : ∀ q ∈ lwg, q.before _ s = true := fun q h => hts q (List.mem_cons_of_mem _ h)
  refine g_entry (Nat.le_of_ble_eq_true rfl) (fun ls hl => ?_)
  have hl : lv_has ls 7 [(0, .ref (gad G 130))] := hl
  have S : St G w s s.heap [] := S
  generalize s.heap = H at S ⊢
  generalize ([] : List Loc) = locs at S ⊢
  rw [f_X9_putOne] at hz
  refine lv_aload_n hx hb dX9_putOne_0 rfl (lv_at hl 0 rfl) ?_
  refine fg_X9_17 hx hb (fun q h => hg q (tl_X9 q h)) hown (hg _ t_fl_X9_26) S (by decide) dX9_putOne_1 ?_
  refine lv_bipush (v := 6) hx hb dX9_putOne_4 (by decide) ?_
  refine lv_dup2_11 hx hb dX9_putOne_6 rfl rfl ?_
  obtain ⟨h1, hz⟩ := ck hz
  refine g_iald hx hb S (isA_16 (by decide)) h1 dX9_putOne_7 ?_
  refine lv_iconst (v := 1) hx hb dX9_putOne_8 (by decide) ?_
  refine lv_iadd hx hb dX9_putOne_9 ?_
  obtain ⟨h2, hz⟩ := ck hz
  refine g_iast (x := ((gI w 135 (ix 6)) + 1)) hx hb S (isA_16 (by decide)) h2 dX9_putOne_10 (fun H locs S => ?_)
  refine lv_aload_n hx hb dX9_putOne_11 rfl (lv_at hl 0 rfl) ?_
  obtain ⟨q3, e4, hz⟩ := bd hz
  refine g_callVv (As := []) (rest := []) F S (c_X9_layDay l G   _ e4) (cw_X9_putOne_X9_layDay_384 hg) (S.obj (by decide) (by decide) rfl (oc_X9 _ _ _ (by decide))) rfl hl.1 rfl (Nat.le_of_ble_eq_true rfl) ⟨Nat.zero_le _, Nat.zero_le _⟩ dX9_putOne_12 (fun H locs  S => ?_)
  refine lv_iconst (v := (-1)) hx hb dX9_putOne_15 (by decide) ?_
  refine lv_istore_n (lv' := [(1, .int (-1)), (0, .ref (gad G 130))]) hx hb dX9_putOne_16 rfl hl (by decide) rfl (fun ls hl => ?_)
  refine lv_aload_n hx hb dX9_putOne_17 rfl (lv_at hl 1 rfl) ?_
  refine lv_aload_n hx hb dX9_putOne_18 rfl (lv_at hl 1 rfl) ?_
  refine fg_X9_17 hx hb (fun q h => hg q (tl_X9 q h)) hown (hg _ t_fl_X9_26) S (by decide) dX9_putOne_19 ?_
  refine lv_bipush (v := 6) hx hb dX9_putOne_22 (by decide) ?_
  obtain ⟨h5, hz⟩ := ck hz
  refine g_iald hx hb S (isA_16 (by decide)) h5 dX9_putOne_24 ?_
  obtain ⟨q6, e7, hz⟩ := bd hz
  refine g_callVb (As := [.int (gI q3.2 135 (ix 6))]) (rest := []) F S (c_X9_isDoor l G (gI q3.2 135 (ix 6))  _ e7) (cw_X9_putOne_X9_isDoor_263 hg) (S.obj (by decide) (by decide) rfl (oc_X9 _ _ _ (by decide))) rfl hl.1 rfl (Nat.le_of_ble_eq_true rfl) ⟨Nat.zero_le _, Nat.zero_le _⟩ dX9_putOne_25 (fun H locs hB8 S => ?_)
  refine lv_if_eq (tgt := 46) hx hb dX9_putOne_28 (by decide) (fun c9 => ?_) (fun c9 => ?_)
  · have hz := ipt (c9) hz
    refine lv_aload_n hx hb dX9_putOne_46 rfl (lv_at hl 1 rfl) ?_
    refine fg_X9_17 hx hb (fun q h => hg q (tl_X9 q h)) hown (hg _ t_fl_X9_26) S (by decide) dX9_putOne_47 ?_
    refine lv_iconst (v := 5) hx hb dX9_putOne_50 (by decide) ?_
    obtain ⟨h10, hz⟩ := ck hz
    refine g_iald hx hb S (isA_16 (by decide)) h10 dX9_putOne_51 ?_
    refine lv_istore_n (lv' := [(2, .int (gI q6.2 135 (ix 5))), (1, .int (-1)), (0, .ref (gad G 130))]) hx hb dX9_putOne_52 rfl hl (by decide) rfl (fun ls hl => ?_)
    refine lv_aload_n hx hb dX9_putOne_53 rfl (lv_at hl 2 rfl) ?_
    refine fg_X9_15 hx hb (fun q h => hg q (tl_X9 q h)) hown (hg _ t_fl_X9_20) S (by decide) dX9_putOne_54 ?_
    refine lv_bipush (v := 18) hx hb dX9_putOne_57 (by decide) ?_
    refine lv_iload_n hx hb dX9_putOne_59 rfl (lv_at hl 0 rfl) ?_
    refine lv_iadd hx hb dX9_putOne_60 ?_
    obtain ⟨h11, hz⟩ := ck hz
    refine g_iald hx hb S (isA_15 (by decide)) h11 dX9_putOne_61 ?_
    refine lv_istore_n (lv' := [(3, .int (gI q6.2 133 (ix (18 + (gI q6.2 135 (ix 5)))))), (2, .int (gI q6.2 135 (ix 5))), (1, .int (-1)), (0, .ref (gad G 130))]) hx hb dX9_putOne_62 rfl hl (by decide) rfl (fun ls hl => ?_)
    refine lv_iconst (v := 0) hx hb dX9_putOne_63 (by decide) ?_
    refine lv_istore (lv' := [(4, .int 0), (3, .int (gI q6.2 133 (ix (18 + (gI q6.2 135 (ix 5)))))), (2, .int (gI q6.2 135 (ix 5))), (1, .int (-1)), (0, .ref (gad G 130))]) hx hb dX9_putOne_64 hl (by decide) rfl (fun ls hl => ?_)
    exact w_X9_putOne_66 F hr hlk fu (gI q6.2 135 (ix 5)) (gI q6.2 133 (ix (18 + (gI q6.2 135 (ix 5))))) 0 _ _ _ _ S (lv_sub hl [4, 2, 1, 0] rfl) hz
  · have hz := ipf (c9) hz
    refine lv_aload_n hx hb dX9_putOne_31 rfl (lv_at hl 1 rfl) ?_
    refine lv_aload_n hx hb dX9_putOne_32 rfl (lv_at hl 1 rfl) ?_
    refine fg_X9_15 hx hb (fun q h => hg q (tl_X9 q h)) hown (hg _ t_fl_X9_20) S (by decide) dX9_putOne_33 ?_
    refine lv_bipush (v := 36) hx hb dX9_putOne_36 (by decide) ?_
    obtain ⟨h41, hz⟩ := ck hz
    refine g_iald hx hb S (isA_15 (by decide)) h41 dX9_putOne_38 ?_
    obtain ⟨q42, e43, hz⟩ := bd hz
    refine g_callVi (As := [.int (gI q6.2 133 (ix 36))]) (rest := []) F S (c_X9_goesTo l G (gI q6.2 133 (ix 36))  _ e43) (cw_X9_putOne_X9_goesTo_237 hg) (S.obj (by decide) (by decide) rfl (oc_X9 _ _ _ (by decide))) rfl hl.1 rfl (Nat.le_of_ble_eq_true rfl) ⟨Nat.zero_le _, Nat.zero_le _⟩ dX9_putOne_39 (fun H locs  S => ?_)
    refine lv_istore_n (lv' := [(1, .int q42.1), (0, .ref (gad G 130))]) hx hb dX9_putOne_42 rfl hl (by decide) rfl (fun ls hl => ?_)
    refine lv_goto (tgt := 217) hx hb dX9_putOne_43 (by decide) ?_
    exact w_X9_putOne_217 F hr hlk q42.1 _ _ _ _ S (lv_sub hl [1, 0] rfl) hz
noncomputable def f_X9_put_58  : Nat → Int32 → Int32 → GW → Option (Int32 × GW)
  | 0, _, _, _ => none
  | n9 + 1, x1, x2, w =>
    if x1 ≤ x2 then
      some (x2, w)
    else
      if inb 6 9 then
      if inb 1 135 then
      if (gI w 133 (ix 1)) ≤ (gI w 135 (ix 6)) then
        some (x2, w)
      else
        (f_X9_putOne w).bind fun q15 =>
        f_X9_put_58 n9 x1 (x2 + 1) q15.2
      else none
      else none
noncomputable def f_X9_put (x1 : Int32) (w : GW) : Option (Int32 × GW) :=
  (f_X9_good w).bind fun q1 =>
  if (gI q1.2 130 14) = 0 then
    (f_X9_no 1 q1.2).bind fun q21 =>
    some (q21.1, q21.2)
  else
    (f_X9_within x1 1 8 q1.2).bind fun q4 =>
    if q4.1 = 0 then
      (f_X9_no 2 q4.2).bind fun q19 =>
      some (q19.1, q19.2)
    else
      if inb 6 9 then
      if inb 1 135 then
      if (gI q4.2 135 (ix 6)) = (gI q4.2 133 (ix 1)) then
        (f_X9_no 6 q4.2).bind fun q17 =>
        some (q17.1, q17.2)
      else
        f_X9_put_58 fu x1 0 q4.2
      else none
      else none
set_option maxHeartbeats 4000000 in
set_option maxRecDepth 100000 in
theorem w_X9_put_58 {p : Program} {l : Launch} {e : Env} {s : State} {m : MethodId} {args : Array Value} {below : List Frame} {meth : Method} {c : Code} {G : GG} (F : CallFix p m c cX9_put 3 s args (wsU yX9_put cX9_put 3 (some .int)) RX9) (hr : meth.sig.returnType = (some .int)) (hlk : meth.locks = false) {z : Int32 × GW} : ∀ (n9 : Nat), (∀ (x1 : Int32) (x2 : Int32) (w : GW) (H : Heap) (locs : List Loc) (ls : Array Slot), St G w s H locs → lv_has ls 3 [(0, .ref (gad G 130)), (1, .int x1), (2, .int x2)] → f_X9_put_58 n9 x1 x2 w = some z → W p l e (headSpec (wsU yX9_put cX9_put 3 (some .int)) rm_X9_put).room s m args below meth c H locs 0 0 (MQ below (QI G z) args s 0 0 (gA G)) (F0 m 58 ls [])) := by
  obtain ⟨hx, hb, hml, hown, hts⟩ := id F
  have hg : ∀ q ∈ lwg, q.before args s = true := fun q h => hts q (List.mem_cons_of_mem _ h)
  intro n9
  induction n9 with
  | zero =>
    intro x1 x2 w H locs ls S hl hz
    rw [f_X9_put_58] at hz
    cases hz
  | succ n9 ih =>
    intro x1 x2 w H locs ls S hl hz
    rw [f_X9_put_58] at hz
    refine lv_iload_n hx hb dX9_put_58 rfl (lv_at hl 2 rfl) ?_
    refine lv_iload_n hx hb dX9_put_59 rfl (lv_at hl 1 rfl) ?_
    refine lv_icmp_ge (tgt := 89) hx hb dX9_put_60 (by decide) (fun c11 => ?_) (fun c11 => ?_)
    · have hz := ipt (c11) hz
      refine lv_iload_n hx hb dX9_put_89 rfl (lv_at hl 2 rfl) ?_
      exact g_reti hx hb hr hlk S hz dX9_put_90
    · have hz := ipf (c11) hz
      refine lv_aload_n hx hb dX9_put_63 rfl (lv_at hl 0 rfl) ?_
      refine fg_X9_17 hx hb (fun q h => hg q (tl_X9 q h)) hown (hg _ t_fl_X9_26) S (by decide) dX9_put_64 ?_
      refine lv_bipush (v := 6) hx hb dX9_put_67 (by decide) ?_
      obtain ⟨h12, hz⟩ := ck hz
      refine g_iald hx hb S (isA_16 (by decide)) h12 dX9_put_69 ?_
      refine lv_aload_n hx hb dX9_put_70 rfl (lv_at hl 0 rfl) ?_
      refine fg_X9_15 hx hb (fun q h => hg q (tl_X9 q h)) hown (hg _ t_fl_X9_20) S (by decide) dX9_put_71 ?_
      refine lv_iconst (v := 1) hx hb dX9_put_74 (by decide) ?_
      obtain ⟨h13, hz⟩ := ck hz
      refine g_iald hx hb S (isA_15 (by decide)) h13 dX9_put_75 ?_
      refine lv_icmp_ge (tgt := 89) hx hb dX9_put_76 (by decide) (fun c14 => ?_) (fun c14 => ?_)
      · have hz := ipt (c14) hz
        refine lv_iload_n hx hb dX9_put_89 rfl (lv_at hl 2 rfl) ?_
        exact g_reti hx hb hr hlk S hz dX9_put_90
      · have hz := ipf (c14) hz
        refine lv_aload_n hx hb dX9_put_79 rfl (lv_at hl 0 rfl) ?_
        obtain ⟨q15, e16, hz⟩ := bd hz
        refine g_callVv (As := []) (rest := []) F S (c_X9_putOne l G   _ e16) (cw_X9_put_X9_putOne_393 hg) (S.obj (by decide) (by decide) rfl (oc_X9 _ _ _ (by decide))) rfl hl.1 rfl (Nat.le_of_ble_eq_true rfl) ⟨Nat.zero_le _, Nat.zero_le _⟩ dX9_put_80 (fun H locs  S => ?_)
        refine lv_iinc (v := (x2 + 1)) (lv' := [(2, .int (x2 + 1)), (0, .ref (gad G 130)), (1, .int x1)]) hx hb dX9_put_83 hl (k := 2) rfl rfl (by decide) rfl (fun ls hl => ?_)
        refine lv_goto (tgt := 58) hx hb dX9_put_86 (by decide) ?_
        exact ih x1 (x2 + 1)  _ _ _ _ S (lv_sub hl [1, 2, 0] rfl) hz
set_option maxHeartbeats 4000000 in
set_option maxRecDepth 100000 in
theorem c_X9_put (l : Launch) (G : GG) (x1 : Int32)  (w : GW) {z : Int32 × GW} (hz : f_X9_put x1 w = some z) : Met l yX9_put (wsU yX9_put cX9_put 3 (some .int)) rm_X9_put (va_Pc [.ref (gad G 130), .int x1] (PreG G w)) (QI G z) 0 0 (gA G) := by
  refine Met.ofW (cc := cX9_put) (maxL := 3) (ret := (some .int)) (by decide) rfl ?_
  intro p e s m args below meth c s₁ B hml hv
  obtain ⟨rfl, S⟩ := hv
  have F : CallFix p m c cX9_put 3 s _ (wsU yX9_put cX9_put 3 (some .int)) RX9 := ⟨B.exec, B.bytes, hml, findClass_of_methodNamed B.named, atoms_spec B.pre⟩
  have hr := B.returns
  have hlk := B.notSynchronized
  obtain ⟨hx, hb, -, hown, hts⟩ := id F
  have hg : ∀ q ∈ lwg, q.before _ s = true := fun q h => hts q (List.mem_cons_of_mem _ h)
  refine g_entry (Nat.le_of_ble_eq_true rfl) (fun ls hl => ?_)
  have hl : lv_has ls 3 [(0, .ref (gad G 130)), (1, .int x1)] := hl
  have S : St G w s s.heap [] := S
  generalize s.heap = H at S ⊢
  generalize ([] : List Loc) = locs at S ⊢
  rw [f_X9_put] at hz
  refine lv_aload_n hx hb dX9_put_0 rfl (lv_at hl 0 rfl) ?_
  obtain ⟨q1, e2, hz⟩ := bd hz
  refine g_callVv (As := []) (rest := []) F S (c_X9_good l G   _ e2) (cw_X9_put_X9_good_150 hg) (S.obj (by decide) (by decide) rfl (oc_X9 _ _ _ (by decide))) rfl hl.1 rfl (Nat.le_of_ble_eq_true rfl) ⟨Nat.zero_le _, Nat.zero_le _⟩ dX9_put_1 (fun H locs  S => ?_)
  refine lv_aload_n hx hb dX9_put_4 rfl (lv_at hl 0 rfl) ?_
  refine fg_X9_14 hx hb (fun q h => hg q (tl_X9 q h)) hown (hg _ t_fl_X9_159) S (by decide) dX9_put_5 ?_
  refine lv_if_ne (tgt := 17) hx hb dX9_put_8 (by decide) (fun c3 => ?_) (fun c3 => ?_)
  · have hz := ipf (c3) hz
    refine lv_iload_n hx hb dX9_put_17 rfl (lv_at hl 1 rfl) ?_
    refine lv_iconst (v := 1) hx hb dX9_put_18 (by decide) ?_
    refine lv_bipush (v := 8) hx hb dX9_put_19 (by decide) ?_
    obtain ⟨q4, e5, hz⟩ := bd hz
    refine g_callSb (As := [.int x1, .int 1, .int 8]) (rest := []) F S (c_X9_within l G x1 1 8  _ e5) (cw_X9_put_X9_within_138 hg) rfl hl.1 rfl (Nat.le_of_ble_eq_true rfl) ⟨Nat.zero_le _, Nat.zero_le _⟩ dX9_put_21 (fun H locs hB6 S => ?_)
    refine lv_if_ne (tgt := 33) hx hb dX9_put_24 (by decide) (fun c7 => ?_) (fun c7 => ?_)
    · have hz := ipf (c7) hz
      refine lv_aload_n hx hb dX9_put_33 rfl (lv_at hl 0 rfl) ?_
      refine fg_X9_17 hx hb (fun q h => hg q (tl_X9 q h)) hown (hg _ t_fl_X9_26) S (by decide) dX9_put_34 ?_
      refine lv_bipush (v := 6) hx hb dX9_put_37 (by decide) ?_
      obtain ⟨h8, hz⟩ := ck hz
      refine g_iald hx hb S (isA_16 (by decide)) h8 dX9_put_39 ?_
      refine lv_aload_n hx hb dX9_put_40 rfl (lv_at hl 0 rfl) ?_
      refine fg_X9_15 hx hb (fun q h => hg q (tl_X9 q h)) hown (hg _ t_fl_X9_20) S (by decide) dX9_put_41 ?_
      refine lv_iconst (v := 1) hx hb dX9_put_44 (by decide) ?_
      obtain ⟨h9, hz⟩ := ck hz
      refine g_iald hx hb S (isA_15 (by decide)) h9 dX9_put_45 ?_
      refine lv_icmp_ne (tgt := 56) hx hb dX9_put_46 (by decide) (fun c10 => ?_) (fun c10 => ?_)
      · have hz := ipf (c10) hz
        refine lv_iconst (v := 0) hx hb dX9_put_56 (by decide) ?_
        refine lv_istore_n (lv' := [(2, .int 0), (0, .ref (gad G 130)), (1, .int x1)]) hx hb dX9_put_57 rfl hl (by decide) rfl (fun ls hl => ?_)
        exact w_X9_put_58 F hr hlk fu x1 0 _ _ _ _ S (lv_sub hl [1, 2, 0] rfl) hz
      · have hz := ipt (c10) hz
        refine lv_aload_n hx hb dX9_put_49 rfl (lv_at hl 0 rfl) ?_
        refine lv_bipush (v := 6) hx hb dX9_put_50 (by decide) ?_
        obtain ⟨q17, e18, hz⟩ := bd hz
        refine g_callVi (As := [.int 6]) (rest := []) F S (c_X9_no l G 6  _ e18) (cw_X9_put_X9_no_153 hg) (S.obj (by decide) (by decide) rfl (oc_X9 _ _ _ (by decide))) rfl hl.1 rfl (Nat.le_of_ble_eq_true rfl) ⟨Nat.zero_le _, Nat.zero_le _⟩ dX9_put_52 (fun H locs  S => ?_)
        exact g_reti hx hb hr hlk S hz dX9_put_55
    · have hz := ipt (c7) hz
      refine lv_aload_n hx hb dX9_put_27 rfl (lv_at hl 0 rfl) ?_
      refine lv_iconst (v := 2) hx hb dX9_put_28 (by decide) ?_
      obtain ⟨q19, e20, hz⟩ := bd hz
      refine g_callVi (As := [.int 2]) (rest := []) F S (c_X9_no l G 2  _ e20) (cw_X9_put_X9_no_153 hg) (S.obj (by decide) (by decide) rfl (oc_X9 _ _ _ (by decide))) rfl hl.1 rfl (Nat.le_of_ble_eq_true rfl) ⟨Nat.zero_le _, Nat.zero_le _⟩ dX9_put_29 (fun H locs  S => ?_)
      exact g_reti hx hb hr hlk S hz dX9_put_32
  · have hz := ipt (c3) hz
    refine lv_aload_n hx hb dX9_put_11 rfl (lv_at hl 0 rfl) ?_
    refine lv_iconst (v := 1) hx hb dX9_put_12 (by decide) ?_
    obtain ⟨q21, e22, hz⟩ := bd hz
    refine g_callVi (As := [.int 1]) (rest := []) F S (c_X9_no l G 1  _ e22) (cw_X9_put_X9_no_153 hg) (S.obj (by decide) (by decide) rfl (oc_X9 _ _ _ (by decide))) rfl hl.1 rfl (Nat.le_of_ble_eq_true rfl) ⟨Nat.zero_le _, Nat.zero_le _⟩ dX9_put_13 (fun H locs  S => ?_)
    exact g_reti hx hb hr hlk S hz dX9_put_16
