noncomputable def f_X9_porterLine_414   (w : GW) : Option (Unit × GW) :=
  if inb 17 135 then
  if inb 17 135 then
  some ((), (sI w 134 (ix 17) ((gI w 134 (ix 17)) + 1)))
  else none
  else none
noncomputable def f_X9_porterLine_219  : Nat → Int32 → Int32 → GW → Option (Unit × GW)
  | 0, _, _, _ => none
  | n9 + 1, x1, x3, w =>
    if (gI w 130 8) ≤ x3 then
      if inb (81 + x1) 135 then
      (f_X9_next (sI w 134 (ix (81 + x1)) (gI w 130 8))).bind fun q14 =>
      (f_X9_told 27 1 3 q14.2).bind fun q16 =>
      if inb (18 + x1) 135 then
      if inb (30 + x1) 135 then
      (f_X9_takes 28 (sI (sI q16.2 134 (ix (18 + x1)) q16.1) 134 (ix (30 + x1)) (-2))).bind fun q20 =>
      if q20.1 = 0 then
        (f_X9_takes 29 q20.2).bind fun q24 =>
        if q24.1 = 0 then
          (f_X9_takes 30 q24.2).bind fun q28 =>
          if q28.1 = 0 then
            (f_X9_takes 31 q28.2).bind fun q32 =>
            if q32.1 = 0 then
              if inb (24 + x1) 135 then
              (f_X9_told 32 0 8 (sI q32.2 134 (ix (24 + x1)) 2)).bind fun q37 =>
              if inb (30 + x1) 135 then
              f_X9_porterLine_414 (sI q37.2 134 (ix (30 + x1)) q37.1)
              else none
              else none
            else
              if inb (24 + x1) 135 then
              f_X9_porterLine_414 (sI q32.2 134 (ix (24 + x1)) 4)
              else none
          else
            if inb (24 + x1) 135 then
            f_X9_porterLine_414 (sI q28.2 134 (ix (24 + x1)) 3)
            else none
        else
          if inb (24 + x1) 135 then
          f_X9_porterLine_414 (sI q24.2 134 (ix (24 + x1)) 1)
          else none
      else
        if inb (24 + x1) 135 then
        f_X9_porterLine_414 (sI q20.2 134 (ix (24 + x1)) 0)
        else none
      else none
      else none
      else none
    else
      if inb x3 8 then
      if inb ((87 + (8 * x1)) + x3) 135 then
      f_X9_porterLine_219 n9 x1 (x3 + 1) (sI w 134 (ix ((87 + (8 * x1)) + x3)) (gI w 132 (ix x3)))
      else none
      else none
noncomputable def f_X9_porterLine_209  (x1 : Int32) (w : GW) : Option (Unit × GW) :=
  if (gI w 130 13) = 0 then
    f_X9_porterLine_219 fu x1 0 w
  else
    some ((), w)
noncomputable def f_X9_porterLine_203 (k_99 : Int32 → Int32 → GW → Option (Unit × GW)) (x1 : Int32) (x3 : Int32) (w : GW) : Option (Unit × GW) :=
  k_99 x1 (x3 + 1) w
noncomputable def f_X9_porterLine_189 (k_99 : Int32 → Int32 → GW → Option (Unit × GW)) (x1 : Int32) (x3 : Int32) (x4 : Int32) (w : GW) : Option (Unit × GW) :=
  if x4 = 0 then
    f_X9_porterLine_203 k_99 x1 x3 w
  else
    (f_X9_wrong 3 (gI w 130 4) w).bind fun q53 =>
    f_X9_porterLine_203 k_99 x1 x3 q53.2
noncomputable def f_X9_porterLine_181 (k_99 : Int32 → Int32 → GW → Option (Unit × GW)) (k_137 : Int32 → Int32 → Int32 → Int32 → GW → Option (Unit × GW)) (x1 : Int32) (x3 : Int32) (x5 : Int32) (t0 : Int32) (w : GW) : Option (Unit × GW) :=
  k_137 x1 x3 t0 (x5 + 1) w
noncomputable def f_X9_porterLine_137 (k_99 : Int32 → Int32 → GW → Option (Unit × GW)) : Nat → Int32 → Int32 → Int32 → Int32 → GW → Option (Unit × GW)
  | 0, _, _, _, _, _ => none
  | n9 + 1, x1, x3, x4, x5, w =>
    if (gI w 130 8) ≤ x5 then
      f_X9_porterLine_189 k_99 x1 x3 x4 w
    else
      if x4 = 0 then
        f_X9_porterLine_189 k_99 x1 x3 x4 w
      else
        if inb ((87 + (8 * x3)) + x5) 135 then
        if inb x5 8 then
        if (gI w 134 (ix ((87 + (8 * x3)) + x5))) = (gI w 132 (ix x5)) then
          f_X9_porterLine_181 k_99 (f_X9_porterLine_137 k_99 n9) x1 x3 x5 1 w
        else
          f_X9_porterLine_181 k_99 (f_X9_porterLine_137 k_99 n9) x1 x3 x5 0 w
        else none
        else none
noncomputable def f_X9_porterLine_132 (k_99 : Int32 → Int32 → GW → Option (Unit × GW)) (x1 : Int32) (x3 : Int32) (t0 : Int32) (w : GW) : Option (Unit × GW) :=
  f_X9_porterLine_137 k_99 fu x1 x3 t0 0 w
noncomputable def f_X9_porterLine_99  : Nat → Int32 → Int32 → GW → Option (Unit × GW)
  | 0, _, _, _ => none
  | n9 + 1, x1, x3, w =>
    if x1 ≤ x3 then
      f_X9_porterLine_209 x1 w
    else
      if (gI w 130 13) = 0 then
        if inb (81 + x3) 135 then
        if (gI w 134 (ix (81 + x3))) = (gI w 130 8) then
          f_X9_porterLine_132 (f_X9_porterLine_99 n9) x1 x3 1 w
        else
          f_X9_porterLine_132 (f_X9_porterLine_99 n9) x1 x3 0 w
        else none
      else
        f_X9_porterLine_209 x1 w
noncomputable def f_X9_porterLine_97  (x1 : Int32) (w : GW) : Option (Unit × GW) :=
  f_X9_porterLine_99 fu x1 0 w
noncomputable def f_X9_porterLine_88  (x1 : Int32) (w : GW) : Option (Unit × GW) :=
  (f_X9_wrong 1 (gI w 130 4) w).bind fun q8 =>
  f_X9_porterLine_97 x1 q8.2
noncomputable def f_X9_porterLine_75  (x1 : Int32) (t0 : Int32) (w : GW) : Option (Unit × GW) :=
  if (gI w 130 6) = 2 then
    if t0 = 0 then
      f_X9_porterLine_97 x1 w
    else
      f_X9_porterLine_88 x1 w
  else
    f_X9_porterLine_88 x1 w
noncomputable def f_X9_porterLine_70  (x1 : Int32) (w : GW) : Option (Unit × GW) :=
  f_X9_porterLine_75 x1 1 w
noncomputable def f_X9_porterLine  (w : GW) : Option (Unit × GW) :=
  if (gI w 130 13) = 0 then
    if inb 17 135 then
    (f_X9_isWord 17 w).bind fun q3 =>
    if q3.1 = 0 then
      (f_X9_isWord 20 q3.2).bind fun q60 =>
      if q60.1 = 0 then
        (f_X9_isWord 23 q60.2).bind fun q64 =>
        if q64.1 = 0 then
          (f_X9_isWord 24 q64.2).bind fun q68 =>
          if q68.1 = 0 then
            (f_X9_isWord 25 q68.2).bind fun q72 =>
            if q72.1 = 0 then
              (f_X9_isWord 26 q72.2).bind fun q76 =>
              if q76.1 = 0 then
                f_X9_porterLine_75 (gI w 134 (ix 17)) 0 q76.2
              else
                f_X9_porterLine_70 (gI w 134 (ix 17)) q76.2
            else
              f_X9_porterLine_70 (gI w 134 (ix 17)) q72.2
          else
            f_X9_porterLine_70 (gI w 134 (ix 17)) q68.2
        else
          f_X9_porterLine_70 (gI w 134 (ix 17)) q64.2
      else
        f_X9_porterLine_70 (gI w 134 (ix 17)) q60.2
    else
      f_X9_porterLine_70 (gI w 134 (ix 17)) q3.2
    else none
  else
    some ((), w)
set_option maxHeartbeats 4000000 in
set_option maxRecDepth 100000 in
theorem w_X9_porterLine_414 {p : Program} {l : Launch} {e : Env} {s : State} {m : MethodId} {args : Array Value} {below : List Frame} {meth : Method} {c : Code} {G : GG} (F : CallFix p m c cX9_porterLine 6 s args (wsU yX9_porterLine cX9_porterLine 6 none) RX9) (hr : meth.sig.returnType = none) (hlk : meth.locks = false) {z : Unit × GW} : (∀ (w : GW) (H : Heap) (locs : List Loc) (ls : Array Slot), St G w s H locs → lv_has ls 6 [(0, .ref (gad G 130))] → f_X9_porterLine_414  w = some z → W p l e (headSpec (wsU yX9_porterLine cX9_porterLine 6 none) rm_X9_porterLine).room s m args below meth c H locs 0 0 (MQ below (QV G z) args s 0 0 (gA G)) (F0 m 414 ls [])) := by
  obtain ⟨hx, hb, hml, hown, hts⟩ := id F
  have hg : ∀ q ∈ lwg, q.before args s = true := fun q h => hts q (List.mem_cons_of_mem _ h)
  intro w H locs ls S hl hz
  rw [f_X9_porterLine_414] at hz
  refine lv_aload_n hx hb dX9_porterLine_414 rfl (lv_at hl 0 rfl) ?_
  refine fg_X9_16 hx hb (fun q h => hg q (tl_X9 q h)) hown (hg _ t_fl_X9_23) S (by decide) dX9_porterLine_415 ?_
  refine lv_bipush (v := 17) hx hb dX9_porterLine_418 (by decide) ?_
  refine lv_dup2_11 hx hb dX9_porterLine_420 rfl rfl ?_
  obtain ⟨h40, hz⟩ := ck hz
  refine g_iald hx hb S (isA_15 (by decide)) h40 dX9_porterLine_421 ?_
  refine lv_iconst (v := 1) hx hb dX9_porterLine_422 (by decide) ?_
  refine lv_iadd hx hb dX9_porterLine_423 ?_
  obtain ⟨h41, hz⟩ := ck hz
  refine g_iast (x := ((gI w 134 (ix 17)) + 1)) hx hb S (isA_15 (by decide)) h41 dX9_porterLine_424 (fun H locs S => ?_)
  exact g_retv hx hb hr hlk S hz dX9_porterLine_425
set_option maxHeartbeats 4000000 in
set_option maxRecDepth 100000 in
theorem w_X9_porterLine_219 {p : Program} {l : Launch} {e : Env} {s : State} {m : MethodId} {args : Array Value} {below : List Frame} {meth : Method} {c : Code} {G : GG} (F : CallFix p m c cX9_porterLine 6 s args (wsU yX9_porterLine cX9_porterLine 6 none) RX9) (hr : meth.sig.returnType = none) (hlk : meth.locks = false) {z : Unit × GW} : ∀ (n9 : Nat), (∀ (x1 : Int32) (x3 : Int32) (w : GW) (H : Heap) (locs : List Loc) (ls : Array Slot), St G w s H locs → lv_has ls 6 [(0, .ref (gad G 130)), (1, .int x1), (3, .int x3)] → f_X9_porterLine_219 n9 x1 x3 w = some z → W p l e (headSpec (wsU yX9_porterLine cX9_porterLine 6 none) rm_X9_porterLine).room s m args below meth c H locs 0 0 (MQ below (QV G z) args s 0 0 (gA G)) (F0 m 219 ls [])) := by
  obtain ⟨hx, hb, hml, hown, hts⟩ := id F
  have hg : ∀ q ∈ lwg, q.before args s = true := fun q h => hts q (List.mem_cons_of_mem _ h)
  intro n9
  induction n9 with
  | zero =>
    intro x1 x3 w H locs ls S hl hz
    rw [f_X9_porterLine_219] at hz
    cases hz
  | succ n9 ih =>
    intro x1 x3 w H locs ls S hl hz
    rw [f_X9_porterLine_219] at hz
    refine lv_iload_n hx hb dX9_porterLine_219 rfl (lv_at hl 2 rfl) ?_
    refine lv_aload_n hx hb dX9_porterLine_220 rfl (lv_at hl 0 rfl) ?_
    refine fg_X9_8 hx hb (fun q h => hg q (tl_X9 q h)) hown (hg _ t_fl_X9_91) S (by decide) dX9_porterLine_221 ?_
    refine lv_icmp_ge (tgt := 253) hx hb dX9_porterLine_224 (by decide) (fun c12 => ?_) (fun c12 => ?_)
    · have hz := ipt (c12) hz
      refine lv_aload_n hx hb dX9_porterLine_253 rfl (lv_at hl 0 rfl) ?_
      refine fg_X9_16 hx hb (fun q h => hg q (tl_X9 q h)) hown (hg _ t_fl_X9_23) S (by decide) dX9_porterLine_254 ?_
      refine lv_bipush (v := 81) hx hb dX9_porterLine_257 (by decide) ?_
      refine lv_iload_n hx hb dX9_porterLine_259 rfl (lv_at hl 1 rfl) ?_
      refine lv_iadd hx hb dX9_porterLine_260 ?_
      refine lv_aload_n hx hb dX9_porterLine_261 rfl (lv_at hl 0 rfl) ?_
      refine fg_X9_8 hx hb (fun q h => hg q (tl_X9 q h)) hown (hg _ t_fl_X9_91) S (by decide) dX9_porterLine_262 ?_
      obtain ⟨h13, hz⟩ := ck hz
      refine g_iast (x := (gI w 130 8)) hx hb S (isA_15 (by decide)) h13 dX9_porterLine_265 (fun H locs S => ?_)
      refine lv_aload_n hx hb dX9_porterLine_266 rfl (lv_at hl 0 rfl) ?_
      obtain ⟨q14, e15, hz⟩ := bd hz
      refine g_callVv (As := []) (rest := []) F S (c_X9_next l G   _ e15) (cw_X9_porterLine_X9_next_128 hg) (S.obj (by decide) (by decide) rfl (oc_X9 _ _ _ (by decide))) rfl hl.1 rfl (Nat.le_of_ble_eq_true rfl) ⟨Nat.zero_le _, Nat.zero_le _⟩ dX9_porterLine_267 (fun H locs  S => ?_)
      refine lv_aload_n hx hb dX9_porterLine_270 rfl (lv_at hl 0 rfl) ?_
      refine fg_X9_16 hx hb (fun q h => hg q (tl_X9 q h)) hown (hg _ t_fl_X9_23) S (by decide) dX9_porterLine_271 ?_
      refine lv_bipush (v := 18) hx hb dX9_porterLine_274 (by decide) ?_
      refine lv_iload_n hx hb dX9_porterLine_276 rfl (lv_at hl 1 rfl) ?_
      refine lv_iadd hx hb dX9_porterLine_277 ?_
      refine lv_aload_n hx hb dX9_porterLine_278 rfl (lv_at hl 0 rfl) ?_
      refine g_str 27 (by decide) hx hb S hown rfl dX9_porterLine_279 ?_
      refine lv_iconst (v := 1) hx hb dX9_porterLine_281 (by decide) ?_
      refine lv_iconst (v := 3) hx hb dX9_porterLine_282 (by decide) ?_
      obtain ⟨q16, e17, hz⟩ := bd hz
      refine g_callVi (As := [.ref (gK G 27), .int 1, .int 3]) (rest := [.int (18 + x1), .ref (gad G 134)]) F S (c_X9_told l G 27 1 3 (by decide) _ e17) (cw_X9_porterLine_X9_told_204 hg) (S.obj (by decide) (by decide) rfl (oc_X9 _ _ _ (by decide))) rfl hl.1 rfl (Nat.le_of_ble_eq_true rfl) ⟨Nat.zero_le _, Nat.zero_le _⟩ dX9_porterLine_283 (fun H locs  S => ?_)
      obtain ⟨h18, hz⟩ := ck hz
      refine g_iast (x := q16.1) hx hb S (isA_15 (by decide)) h18 dX9_porterLine_286 (fun H locs S => ?_)
      refine lv_aload_n hx hb dX9_porterLine_287 rfl (lv_at hl 0 rfl) ?_
      refine fg_X9_16 hx hb (fun q h => hg q (tl_X9 q h)) hown (hg _ t_fl_X9_23) S (by decide) dX9_porterLine_288 ?_
      refine lv_bipush (v := 30) hx hb dX9_porterLine_291 (by decide) ?_
      refine lv_iload_n hx hb dX9_porterLine_293 rfl (lv_at hl 1 rfl) ?_
      refine lv_iadd hx hb dX9_porterLine_294 ?_
      refine lv_bipush (v := (-2)) hx hb dX9_porterLine_295 (by decide) ?_
      obtain ⟨h19, hz⟩ := ck hz
      refine g_iast (x := (-2)) hx hb S (isA_15 (by decide)) h19 dX9_porterLine_297 (fun H locs S => ?_)
      refine lv_aload_n hx hb dX9_porterLine_298 rfl (lv_at hl 0 rfl) ?_
      refine g_str 28 (by decide) hx hb S hown rfl dX9_porterLine_299 ?_
      obtain ⟨q20, e21, hz⟩ := bd hz
      refine g_callVb (As := [.ref (gK G 28)]) (rest := []) F S (c_X9_takes l G 28 (by decide) _ e21) (cw_X9_porterLine_X9_takes_131 hg) (S.obj (by decide) (by decide) rfl (oc_X9 _ _ _ (by decide))) rfl hl.1 rfl (Nat.le_of_ble_eq_true rfl) ⟨Nat.zero_le _, Nat.zero_le _⟩ dX9_porterLine_301 (fun H locs hB22 S => ?_)
      refine lv_if_eq (tgt := 320) hx hb dX9_porterLine_304 (by decide) (fun c23 => ?_) (fun c23 => ?_)
      · have hz := ipt (c23) hz
        refine lv_aload_n hx hb dX9_porterLine_320 rfl (lv_at hl 0 rfl) ?_
        refine g_str 29 (by decide) hx hb S hown rfl dX9_porterLine_321 ?_
        obtain ⟨q24, e25, hz⟩ := bd hz
        refine g_callVb (As := [.ref (gK G 29)]) (rest := []) F S (c_X9_takes l G 29 (by decide) _ e25) (cw_X9_porterLine_X9_takes_131 hg) (S.obj (by decide) (by decide) rfl (oc_X9 _ _ _ (by decide))) rfl hl.1 rfl (Nat.le_of_ble_eq_true rfl) ⟨Nat.zero_le _, Nat.zero_le _⟩ dX9_porterLine_323 (fun H locs hB26 S => ?_)
        refine lv_if_eq (tgt := 342) hx hb dX9_porterLine_326 (by decide) (fun c27 => ?_) (fun c27 => ?_)
        · have hz := ipt (c27) hz
          refine lv_aload_n hx hb dX9_porterLine_342 rfl (lv_at hl 0 rfl) ?_
          refine g_str 30 (by decide) hx hb S hown rfl dX9_porterLine_343 ?_
          obtain ⟨q28, e29, hz⟩ := bd hz
          refine g_callVb (As := [.ref (gK G 30)]) (rest := []) F S (c_X9_takes l G 30 (by decide) _ e29) (cw_X9_porterLine_X9_takes_131 hg) (S.obj (by decide) (by decide) rfl (oc_X9 _ _ _ (by decide))) rfl hl.1 rfl (Nat.le_of_ble_eq_true rfl) ⟨Nat.zero_le _, Nat.zero_le _⟩ dX9_porterLine_345 (fun H locs hB30 S => ?_)
          refine lv_if_eq (tgt := 364) hx hb dX9_porterLine_348 (by decide) (fun c31 => ?_) (fun c31 => ?_)
          · have hz := ipt (c31) hz
            refine lv_aload_n hx hb dX9_porterLine_364 rfl (lv_at hl 0 rfl) ?_
            refine g_str 31 (by decide) hx hb S hown rfl dX9_porterLine_365 ?_
            obtain ⟨q32, e33, hz⟩ := bd hz
            refine g_callVb (As := [.ref (gK G 31)]) (rest := []) F S (c_X9_takes l G 31 (by decide) _ e33) (cw_X9_porterLine_X9_takes_131 hg) (S.obj (by decide) (by decide) rfl (oc_X9 _ _ _ (by decide))) rfl hl.1 rfl (Nat.le_of_ble_eq_true rfl) ⟨Nat.zero_le _, Nat.zero_le _⟩ dX9_porterLine_367 (fun H locs hB34 S => ?_)
            refine lv_if_eq (tgt := 386) hx hb dX9_porterLine_370 (by decide) (fun c35 => ?_) (fun c35 => ?_)
            · have hz := ipt (c35) hz
              refine lv_aload_n hx hb dX9_porterLine_386 rfl (lv_at hl 0 rfl) ?_
              refine fg_X9_16 hx hb (fun q h => hg q (tl_X9 q h)) hown (hg _ t_fl_X9_23) S (by decide) dX9_porterLine_387 ?_
              refine lv_bipush (v := 24) hx hb dX9_porterLine_390 (by decide) ?_
              refine lv_iload_n hx hb dX9_porterLine_392 rfl (lv_at hl 1 rfl) ?_
              refine lv_iadd hx hb dX9_porterLine_393 ?_
              refine lv_iconst (v := 2) hx hb dX9_porterLine_394 (by decide) ?_
              obtain ⟨h36, hz⟩ := ck hz
              refine g_iast (x := 2) hx hb S (isA_15 (by decide)) h36 dX9_porterLine_395 (fun H locs S => ?_)
              refine lv_aload_n hx hb dX9_porterLine_396 rfl (lv_at hl 0 rfl) ?_
              refine fg_X9_16 hx hb (fun q h => hg q (tl_X9 q h)) hown (hg _ t_fl_X9_23) S (by decide) dX9_porterLine_397 ?_
              refine lv_bipush (v := 30) hx hb dX9_porterLine_400 (by decide) ?_
              refine lv_iload_n hx hb dX9_porterLine_402 rfl (lv_at hl 1 rfl) ?_
              refine lv_iadd hx hb dX9_porterLine_403 ?_
              refine lv_aload_n hx hb dX9_porterLine_404 rfl (lv_at hl 0 rfl) ?_
              refine g_str 32 (by decide) hx hb S hown rfl dX9_porterLine_405 ?_
              refine lv_iconst (v := 0) hx hb dX9_porterLine_407 (by decide) ?_
              refine lv_bipush (v := 8) hx hb dX9_porterLine_408 (by decide) ?_
              obtain ⟨q37, e38, hz⟩ := bd hz
              refine g_callVi (As := [.ref (gK G 32), .int 0, .int 8]) (rest := [.int (30 + x1), .ref (gad G 134)]) F S (c_X9_told l G 32 0 8 (by decide) _ e38) (cw_X9_porterLine_X9_told_204 hg) (S.obj (by decide) (by decide) rfl (oc_X9 _ _ _ (by decide))) rfl hl.1 rfl (Nat.le_of_ble_eq_true rfl) ⟨Nat.zero_le _, Nat.zero_le _⟩ dX9_porterLine_410 (fun H locs  S => ?_)
              obtain ⟨h39, hz⟩ := ck hz
              refine g_iast (x := q37.1) hx hb S (isA_15 (by decide)) h39 dX9_porterLine_413 (fun H locs S => ?_)
              exact w_X9_porterLine_414 F hr hlk _ _ _ _ S (lv_sub hl [0] rfl) hz
            · have hz := ipf (c35) hz
              refine lv_aload_n hx hb dX9_porterLine_373 rfl (lv_at hl 0 rfl) ?_
              refine fg_X9_16 hx hb (fun q h => hg q (tl_X9 q h)) hown (hg _ t_fl_X9_23) S (by decide) dX9_porterLine_374 ?_
              refine lv_bipush (v := 24) hx hb dX9_porterLine_377 (by decide) ?_
              refine lv_iload_n hx hb dX9_porterLine_379 rfl (lv_at hl 1 rfl) ?_
              refine lv_iadd hx hb dX9_porterLine_380 ?_
              refine lv_iconst (v := 4) hx hb dX9_porterLine_381 (by decide) ?_
              obtain ⟨h42, hz⟩ := ck hz
              refine g_iast (x := 4) hx hb S (isA_15 (by decide)) h42 dX9_porterLine_382 (fun H locs S => ?_)
              refine lv_goto (tgt := 414) hx hb dX9_porterLine_383 (by decide) ?_
              exact w_X9_porterLine_414 F hr hlk _ _ _ _ S (lv_sub hl [0] rfl) hz
          · have hz := ipf (c31) hz
            refine lv_aload_n hx hb dX9_porterLine_351 rfl (lv_at hl 0 rfl) ?_
            refine fg_X9_16 hx hb (fun q h => hg q (tl_X9 q h)) hown (hg _ t_fl_X9_23) S (by decide) dX9_porterLine_352 ?_
            refine lv_bipush (v := 24) hx hb dX9_porterLine_355 (by decide) ?_
            refine lv_iload_n hx hb dX9_porterLine_357 rfl (lv_at hl 1 rfl) ?_
            refine lv_iadd hx hb dX9_porterLine_358 ?_
            refine lv_iconst (v := 3) hx hb dX9_porterLine_359 (by decide) ?_
            obtain ⟨h43, hz⟩ := ck hz
            refine g_iast (x := 3) hx hb S (isA_15 (by decide)) h43 dX9_porterLine_360 (fun H locs S => ?_)
            refine lv_goto (tgt := 414) hx hb dX9_porterLine_361 (by decide) ?_
            exact w_X9_porterLine_414 F hr hlk _ _ _ _ S (lv_sub hl [0] rfl) hz
        · have hz := ipf (c27) hz
          refine lv_aload_n hx hb dX9_porterLine_329 rfl (lv_at hl 0 rfl) ?_
          refine fg_X9_16 hx hb (fun q h => hg q (tl_X9 q h)) hown (hg _ t_fl_X9_23) S (by decide) dX9_porterLine_330 ?_
          refine lv_bipush (v := 24) hx hb dX9_porterLine_333 (by decide) ?_
          refine lv_iload_n hx hb dX9_porterLine_335 rfl (lv_at hl 1 rfl) ?_
          refine lv_iadd hx hb dX9_porterLine_336 ?_
          refine lv_iconst (v := 1) hx hb dX9_porterLine_337 (by decide) ?_
          obtain ⟨h44, hz⟩ := ck hz
          refine g_iast (x := 1) hx hb S (isA_15 (by decide)) h44 dX9_porterLine_338 (fun H locs S => ?_)
          refine lv_goto (tgt := 414) hx hb dX9_porterLine_339 (by decide) ?_
          exact w_X9_porterLine_414 F hr hlk _ _ _ _ S (lv_sub hl [0] rfl) hz
      · have hz := ipf (c23) hz
        refine lv_aload_n hx hb dX9_porterLine_307 rfl (lv_at hl 0 rfl) ?_
        refine fg_X9_16 hx hb (fun q h => hg q (tl_X9 q h)) hown (hg _ t_fl_X9_23) S (by decide) dX9_porterLine_308 ?_
        refine lv_bipush (v := 24) hx hb dX9_porterLine_311 (by decide) ?_
        refine lv_iload_n hx hb dX9_porterLine_313 rfl (lv_at hl 1 rfl) ?_
        refine lv_iadd hx hb dX9_porterLine_314 ?_
        refine lv_iconst (v := 0) hx hb dX9_porterLine_315 (by decide) ?_
        obtain ⟨h45, hz⟩ := ck hz
        refine g_iast (x := 0) hx hb S (isA_15 (by decide)) h45 dX9_porterLine_316 (fun H locs S => ?_)
        refine lv_goto (tgt := 414) hx hb dX9_porterLine_317 (by decide) ?_
        exact w_X9_porterLine_414 F hr hlk _ _ _ _ S (lv_sub hl [0] rfl) hz
    · have hz := ipf (c12) hz
      refine lv_aload_n hx hb dX9_porterLine_227 rfl (lv_at hl 0 rfl) ?_
      refine fg_X9_16 hx hb (fun q h => hg q (tl_X9 q h)) hown (hg _ t_fl_X9_23) S (by decide) dX9_porterLine_228 ?_
      refine lv_bipush (v := 87) hx hb dX9_porterLine_231 (by decide) ?_
      refine lv_bipush (v := 8) hx hb dX9_porterLine_233 (by decide) ?_
      refine lv_iload_n hx hb dX9_porterLine_235 rfl (lv_at hl 1 rfl) ?_
      refine lv_imul hx hb dX9_porterLine_236 ?_
      refine lv_iadd hx hb dX9_porterLine_237 ?_
      refine lv_iload_n hx hb dX9_porterLine_238 rfl (lv_at hl 2 rfl) ?_
      refine lv_iadd hx hb dX9_porterLine_239 ?_
      refine lv_aload_n hx hb dX9_porterLine_240 rfl (lv_at hl 0 rfl) ?_
      refine fg_X9_12 hx hb (fun q h => hg q (tl_X9 q h)) hown (hg _ t_fl_X9_17) S (by decide) dX9_porterLine_241 ?_
      refine lv_iload_n hx hb dX9_porterLine_244 rfl (lv_at hl 2 rfl) ?_
      obtain ⟨h46, hz⟩ := ck hz
      refine g_iald hx hb S (isA_14 (by decide)) h46 dX9_porterLine_245 ?_
      obtain ⟨h47, hz⟩ := ck hz
      refine g_iast (x := (gI w 132 (ix x3))) hx hb S (isA_15 (by decide)) h47 dX9_porterLine_246 (fun H locs S => ?_)
      refine lv_iinc (v := (x3 + 1)) (lv' := [(3, .int (x3 + 1)), (0, .ref (gad G 130)), (1, .int x1)]) hx hb dX9_porterLine_247 hl (k := 2) rfl rfl (by decide) rfl (fun ls hl => ?_)
      refine lv_goto (tgt := 219) hx hb dX9_porterLine_250 (by decide) ?_
      exact ih x1 (x3 + 1)  _ _ _ _ S (lv_sub hl [1, 2, 0] rfl) hz
set_option maxHeartbeats 4000000 in
set_option maxRecDepth 100000 in
theorem w_X9_porterLine_209 {p : Program} {l : Launch} {e : Env} {s : State} {m : MethodId} {args : Array Value} {below : List Frame} {meth : Method} {c : Code} {G : GG} (F : CallFix p m c cX9_porterLine 6 s args (wsU yX9_porterLine cX9_porterLine 6 none) RX9) (hr : meth.sig.returnType = none) (hlk : meth.locks = false) {z : Unit × GW} : (∀ (x1 : Int32) (w : GW) (H : Heap) (locs : List Loc) (ls : Array Slot), St G w s H locs → lv_has ls 6 [(0, .ref (gad G 130)), (1, .int x1)] → f_X9_porterLine_209 x1 w = some z → W p l e (headSpec (wsU yX9_porterLine cX9_porterLine 6 none) rm_X9_porterLine).room s m args below meth c H locs 0 0 (MQ below (QV G z) args s 0 0 (gA G)) (F0 m 209 ls [])) := by
  obtain ⟨hx, hb, hml, hown, hts⟩ := id F
  have hg : ∀ q ∈ lwg, q.before args s = true := fun q h => hts q (List.mem_cons_of_mem _ h)
  intro x1 w H locs ls S hl hz
  rw [f_X9_porterLine_209] at hz
  refine lv_aload_n hx hb dX9_porterLine_209 rfl (lv_at hl 0 rfl) ?_
  refine fg_X9_13 hx hb (fun q h => hg q (tl_X9 q h)) hown (hg _ t_fl_X9_107) S (by decide) dX9_porterLine_210 ?_
  refine lv_if_eq (tgt := 217) hx hb dX9_porterLine_213 (by decide) (fun c11 => ?_) (fun c11 => ?_)
  · have hz := ipt (c11) hz
    refine lv_iconst (v := 0) hx hb dX9_porterLine_217 (by decide) ?_
    refine lv_istore_n (lv' := [(3, .int 0), (0, .ref (gad G 130)), (1, .int x1)]) hx hb dX9_porterLine_218 rfl hl (by decide) rfl (fun ls hl => ?_)
    exact w_X9_porterLine_219 F hr hlk fu x1 0 _ _ _ _ S (lv_sub hl [1, 2, 0] rfl) hz
  · have hz := ipf (c11) hz
    exact g_retv hx hb hr hlk S hz dX9_porterLine_216
set_option maxHeartbeats 4000000 in
set_option maxRecDepth 100000 in
theorem w_X9_porterLine_203 {p : Program} {l : Launch} {e : Env} {s : State} {m : MethodId} {args : Array Value} {below : List Frame} {meth : Method} {c : Code} {G : GG} (F : CallFix p m c cX9_porterLine 6 s args (wsU yX9_porterLine cX9_porterLine 6 none) RX9) (hr : meth.sig.returnType = none) (hlk : meth.locks = false) {z : Unit × GW} {k_99 : Int32 → Int32 → GW → Option (Unit × GW)} (Hk_99 : (∀ (x1 : Int32) (x3 : Int32) (w : GW) (H : Heap) (locs : List Loc) (ls : Array Slot), St G w s H locs → lv_has ls 6 [(0, .ref (gad G 130)), (1, .int x1), (3, .int x3)] → k_99 x1 x3 w = some z → W p l e (headSpec (wsU yX9_porterLine cX9_porterLine 6 none) rm_X9_porterLine).room s m args below meth c H locs 0 0 (MQ below (QV G z) args s 0 0 (gA G)) (F0 m 99 ls []))) : (∀ (x1 : Int32) (x3 : Int32) (w : GW) (H : Heap) (locs : List Loc) (ls : Array Slot), St G w s H locs → lv_has ls 6 [(0, .ref (gad G 130)), (1, .int x1), (3, .int x3)] → f_X9_porterLine_203 k_99 x1 x3 w = some z → W p l e (headSpec (wsU yX9_porterLine cX9_porterLine 6 none) rm_X9_porterLine).room s m args below meth c H locs 0 0 (MQ below (QV G z) args s 0 0 (gA G)) (F0 m 203 ls [])) := by
  obtain ⟨hx, hb, hml, hown, hts⟩ := id F
  have hg : ∀ q ∈ lwg, q.before args s = true := fun q h => hts q (List.mem_cons_of_mem _ h)
  intro x1 x3 w H locs ls S hl hz
  rw [f_X9_porterLine_203] at hz
  refine lv_iinc (v := (x3 + 1)) (lv' := [(3, .int (x3 + 1)), (0, .ref (gad G 130)), (1, .int x1)]) hx hb dX9_porterLine_203 hl (k := 2) rfl rfl (by decide) rfl (fun ls hl => ?_)
  refine lv_goto (tgt := 99) hx hb dX9_porterLine_206 (by decide) ?_
  exact Hk_99 x1 (x3 + 1)  _ _ _ _ S (lv_sub hl [1, 2, 0] rfl) hz
set_option maxHeartbeats 4000000 in
set_option maxRecDepth 100000 in
theorem w_X9_porterLine_189 {p : Program} {l : Launch} {e : Env} {s : State} {m : MethodId} {args : Array Value} {below : List Frame} {meth : Method} {c : Code} {G : GG} (F : CallFix p m c cX9_porterLine 6 s args (wsU yX9_porterLine cX9_porterLine 6 none) RX9) (hr : meth.sig.returnType = none) (hlk : meth.locks = false) {z : Unit × GW} {k_99 : Int32 → Int32 → GW → Option (Unit × GW)} (Hk_99 : (∀ (x1 : Int32) (x3 : Int32) (w : GW) (H : Heap) (locs : List Loc) (ls : Array Slot), St G w s H locs → lv_has ls 6 [(0, .ref (gad G 130)), (1, .int x1), (3, .int x3)] → k_99 x1 x3 w = some z → W p l e (headSpec (wsU yX9_porterLine cX9_porterLine 6 none) rm_X9_porterLine).room s m args below meth c H locs 0 0 (MQ below (QV G z) args s 0 0 (gA G)) (F0 m 99 ls []))) : (∀ (x1 : Int32) (x3 : Int32) (x4 : Int32) (w : GW) (H : Heap) (locs : List Loc) (ls : Array Slot), St G w s H locs → lv_has ls 6 [(0, .ref (gad G 130)), (1, .int x1), (3, .int x3), (4, .int x4)] → f_X9_porterLine_189 k_99 x1 x3 x4 w = some z → W p l e (headSpec (wsU yX9_porterLine cX9_porterLine 6 none) rm_X9_porterLine).room s m args below meth c H locs 0 0 (MQ below (QV G z) args s 0 0 (gA G)) (F0 m 189 ls [])) := by
  obtain ⟨hx, hb, hml, hown, hts⟩ := id F
  have hg : ∀ q ∈ lwg, q.before args s = true := fun q h => hts q (List.mem_cons_of_mem _ h)
  intro x1 x3 x4 w H locs ls S hl hz
  rw [f_X9_porterLine_189] at hz
  refine lv_iload hx hb dX9_porterLine_189 (lv_at hl 3 rfl) ?_
  refine lv_if_eq (tgt := 203) hx hb dX9_porterLine_191 (by decide) (fun c52 => ?_) (fun c52 => ?_)
  · have hz := ipt (c52) hz
    exact w_X9_porterLine_203 F hr hlk Hk_99 x1 x3 _ _ _ _ S (lv_sub hl [0, 1, 2] rfl) hz
  · have hz := ipf (c52) hz
    refine lv_aload_n hx hb dX9_porterLine_194 rfl (lv_at hl 0 rfl) ?_
    refine lv_iconst (v := 3) hx hb dX9_porterLine_195 (by decide) ?_
    refine lv_aload_n hx hb dX9_porterLine_196 rfl (lv_at hl 0 rfl) ?_
    refine fg_X9_4 hx hb (fun q h => hg q (tl_X9 q h)) hown (hg _ t_fl_X9_88) S (by decide) dX9_porterLine_197 ?_
    obtain ⟨q53, e54, hz⟩ := bd hz
    refine g_callVv (As := [.int 3, .int (gI w 130 4)]) (rest := []) F S (c_X9_wrong l G 3 (gI w 130 4)  _ e54) (cw_X9_porterLine_X9_wrong_134 hg) (S.obj (by decide) (by decide) rfl (oc_X9 _ _ _ (by decide))) rfl hl.1 rfl (Nat.le_of_ble_eq_true rfl) ⟨Nat.zero_le _, Nat.zero_le _⟩ dX9_porterLine_200 (fun H locs  S => ?_)
    exact w_X9_porterLine_203 F hr hlk Hk_99 x1 x3 _ _ _ _ S (lv_sub hl [0, 1, 2] rfl) hz
set_option maxHeartbeats 4000000 in
set_option maxRecDepth 100000 in
theorem w_X9_porterLine_181 {p : Program} {l : Launch} {e : Env} {s : State} {m : MethodId} {args : Array Value} {below : List Frame} {meth : Method} {c : Code} {G : GG} (F : CallFix p m c cX9_porterLine 6 s args (wsU yX9_porterLine cX9_porterLine 6 none) RX9) (hr : meth.sig.returnType = none) (hlk : meth.locks = false) {z : Unit × GW} {k_99 : Int32 → Int32 → GW → Option (Unit × GW)} (Hk_99 : (∀ (x1 : Int32) (x3 : Int32) (w : GW) (H : Heap) (locs : List Loc) (ls : Array Slot), St G w s H locs → lv_has ls 6 [(0, .ref (gad G 130)), (1, .int x1), (3, .int x3)] → k_99 x1 x3 w = some z → W p l e (headSpec (wsU yX9_porterLine cX9_porterLine 6 none) rm_X9_porterLine).room s m args below meth c H locs 0 0 (MQ below (QV G z) args s 0 0 (gA G)) (F0 m 99 ls []))) {k_137 : Int32 → Int32 → Int32 → Int32 → GW → Option (Unit × GW)} (Hk_137 : (∀ (x1 : Int32) (x3 : Int32) (x4 : Int32) (x5 : Int32) (w : GW) (H : Heap) (locs : List Loc) (ls : Array Slot), St G w s H locs → lv_has ls 6 [(0, .ref (gad G 130)), (1, .int x1), (3, .int x3), (4, .int x4), (5, .int x5)] → k_137 x1 x3 x4 x5 w = some z → W p l e (headSpec (wsU yX9_porterLine cX9_porterLine 6 none) rm_X9_porterLine).room s m args below meth c H locs 0 0 (MQ below (QV G z) args s 0 0 (gA G)) (F0 m 137 ls []))) : (∀ (x1 : Int32) (x3 : Int32) (x5 : Int32) (t0 : Int32) (w : GW) (H : Heap) (locs : List Loc) (ls : Array Slot), St G w s H locs → lv_has ls 6 [(0, .ref (gad G 130)), (1, .int x1), (3, .int x3), (5, .int x5)] → f_X9_porterLine_181 k_99 k_137 x1 x3 x5 t0 w = some z → W p l e (headSpec (wsU yX9_porterLine cX9_porterLine 6 none) rm_X9_porterLine).room s m args below meth c H locs 0 0 (MQ below (QV G z) args s 0 0 (gA G)) (F0 m 181 ls [.int t0])) := by
  obtain ⟨hx, hb, hml, hown, hts⟩ := id F
  have hg : ∀ q ∈ lwg, q.before args s = true := fun q h => hts q (List.mem_cons_of_mem _ h)
  intro x1 x3 x5 t0 w H locs ls S hl hz
  rw [f_X9_porterLine_181] at hz
  refine lv_istore (lv' := [(4, .int t0), (0, .ref (gad G 130)), (1, .int x1), (3, .int x3), (5, .int x5)]) hx hb dX9_porterLine_181 hl (by decide) rfl (fun ls hl => ?_)
  refine lv_iinc (v := (x5 + 1)) (lv' := [(5, .int (x5 + 1)), (4, .int t0), (0, .ref (gad G 130)), (1, .int x1), (3, .int x3)]) hx hb dX9_porterLine_183 hl (k := 4) rfl rfl (by decide) rfl (fun ls hl => ?_)
  refine lv_goto (tgt := 137) hx hb dX9_porterLine_186 (by decide) ?_
  exact Hk_137 x1 x3 t0 (x5 + 1)  _ _ _ _ S (lv_sub hl [2, 3, 4, 1, 0] rfl) hz
set_option maxHeartbeats 4000000 in
set_option maxRecDepth 100000 in
theorem w_X9_porterLine_137 {p : Program} {l : Launch} {e : Env} {s : State} {m : MethodId} {args : Array Value} {below : List Frame} {meth : Method} {c : Code} {G : GG} (F : CallFix p m c cX9_porterLine 6 s args (wsU yX9_porterLine cX9_porterLine 6 none) RX9) (hr : meth.sig.returnType = none) (hlk : meth.locks = false) {z : Unit × GW} {k_99 : Int32 → Int32 → GW → Option (Unit × GW)} (Hk_99 : (∀ (x1 : Int32) (x3 : Int32) (w : GW) (H : Heap) (locs : List Loc) (ls : Array Slot), St G w s H locs → lv_has ls 6 [(0, .ref (gad G 130)), (1, .int x1), (3, .int x3)] → k_99 x1 x3 w = some z → W p l e (headSpec (wsU yX9_porterLine cX9_porterLine 6 none) rm_X9_porterLine).room s m args below meth c H locs 0 0 (MQ below (QV G z) args s 0 0 (gA G)) (F0 m 99 ls []))) : ∀ (n9 : Nat), (∀ (x1 : Int32) (x3 : Int32) (x4 : Int32) (x5 : Int32) (w : GW) (H : Heap) (locs : List Loc) (ls : Array Slot), St G w s H locs → lv_has ls 6 [(0, .ref (gad G 130)), (1, .int x1), (3, .int x3), (4, .int x4), (5, .int x5)] → f_X9_porterLine_137 k_99 n9 x1 x3 x4 x5 w = some z → W p l e (headSpec (wsU yX9_porterLine cX9_porterLine 6 none) rm_X9_porterLine).room s m args below meth c H locs 0 0 (MQ below (QV G z) args s 0 0 (gA G)) (F0 m 137 ls [])) := by
  obtain ⟨hx, hb, hml, hown, hts⟩ := id F
  have hg : ∀ q ∈ lwg, q.before args s = true := fun q h => hts q (List.mem_cons_of_mem _ h)
  intro n9
  induction n9 with
  | zero =>
    intro x1 x3 x4 x5 w H locs ls S hl hz
    rw [f_X9_porterLine_137] at hz
    cases hz
  | succ n9 ih =>
    intro x1 x3 x4 x5 w H locs ls S hl hz
    rw [f_X9_porterLine_137] at hz
    refine lv_iload hx hb dX9_porterLine_137 (lv_at hl 4 rfl) ?_
    refine lv_aload_n hx hb dX9_porterLine_139 rfl (lv_at hl 0 rfl) ?_
    refine fg_X9_8 hx hb (fun q h => hg q (tl_X9 q h)) hown (hg _ t_fl_X9_91) S (by decide) dX9_porterLine_140 ?_
    refine lv_icmp_ge (tgt := 189) hx hb dX9_porterLine_143 (by decide) (fun c51 => ?_) (fun c51 => ?_)
    · have hz := ipt (c51) hz
      exact w_X9_porterLine_189 F hr hlk Hk_99 x1 x3 x4 _ _ _ _ S (lv_sub hl [0, 1, 2, 3] rfl) hz
    · have hz := ipf (c51) hz
      refine lv_iload hx hb dX9_porterLine_146 (lv_at hl 3 rfl) ?_
      refine lv_if_eq (tgt := 189) hx hb dX9_porterLine_148 (by decide) (fun c55 => ?_) (fun c55 => ?_)
      · have hz := ipt (c55) hz
        exact w_X9_porterLine_189 F hr hlk Hk_99 x1 x3 x4 _ _ _ _ S (lv_sub hl [0, 1, 2, 3] rfl) hz
      · have hz := ipf (c55) hz
        refine lv_aload_n hx hb dX9_porterLine_151 rfl (lv_at hl 0 rfl) ?_
        refine fg_X9_16 hx hb (fun q h => hg q (tl_X9 q h)) hown (hg _ t_fl_X9_23) S (by decide) dX9_porterLine_152 ?_
        refine lv_bipush (v := 87) hx hb dX9_porterLine_155 (by decide) ?_
        refine lv_bipush (v := 8) hx hb dX9_porterLine_157 (by decide) ?_
        refine lv_iload_n hx hb dX9_porterLine_159 rfl (lv_at hl 2 rfl) ?_
        refine lv_imul hx hb dX9_porterLine_160 ?_
        refine lv_iadd hx hb dX9_porterLine_161 ?_
        refine lv_iload hx hb dX9_porterLine_162 (lv_at hl 4 rfl) ?_
        refine lv_iadd hx hb dX9_porterLine_164 ?_
        obtain ⟨h56, hz⟩ := ck hz
        refine g_iald hx hb S (isA_15 (by decide)) h56 dX9_porterLine_165 ?_
        refine lv_aload_n hx hb dX9_porterLine_166 rfl (lv_at hl 0 rfl) ?_
        refine fg_X9_12 hx hb (fun q h => hg q (tl_X9 q h)) hown (hg _ t_fl_X9_17) S (by decide) dX9_porterLine_167 ?_
        refine lv_iload hx hb dX9_porterLine_170 (lv_at hl 4 rfl) ?_
        obtain ⟨h57, hz⟩ := ck hz
        refine g_iald hx hb S (isA_14 (by decide)) h57 dX9_porterLine_172 ?_
        refine lv_icmp_ne (tgt := 180) hx hb dX9_porterLine_173 (by decide) (fun c58 => ?_) (fun c58 => ?_)
        · have hz := ipf (c58) hz
          refine lv_iconst (v := 0) hx hb dX9_porterLine_180 (by decide) ?_
          exact w_X9_porterLine_181 F hr hlk Hk_99 ih x1 x3 x5 0 _ _ _ _ S (lv_sub hl [0, 1, 2, 4] rfl) hz
        · have hz := ipt (c58) hz
          refine lv_iconst (v := 1) hx hb dX9_porterLine_176 (by decide) ?_
          refine lv_goto (tgt := 181) hx hb dX9_porterLine_177 (by decide) ?_
          exact w_X9_porterLine_181 F hr hlk Hk_99 ih x1 x3 x5 1 _ _ _ _ S (lv_sub hl [0, 1, 2, 4] rfl) hz
set_option maxHeartbeats 4000000 in
set_option maxRecDepth 100000 in
theorem w_X9_porterLine_132 {p : Program} {l : Launch} {e : Env} {s : State} {m : MethodId} {args : Array Value} {below : List Frame} {meth : Method} {c : Code} {G : GG} (F : CallFix p m c cX9_porterLine 6 s args (wsU yX9_porterLine cX9_porterLine 6 none) RX9) (hr : meth.sig.returnType = none) (hlk : meth.locks = false) {z : Unit × GW} {k_99 : Int32 → Int32 → GW → Option (Unit × GW)} (Hk_99 : (∀ (x1 : Int32) (x3 : Int32) (w : GW) (H : Heap) (locs : List Loc) (ls : Array Slot), St G w s H locs → lv_has ls 6 [(0, .ref (gad G 130)), (1, .int x1), (3, .int x3)] → k_99 x1 x3 w = some z → W p l e (headSpec (wsU yX9_porterLine cX9_porterLine 6 none) rm_X9_porterLine).room s m args below meth c H locs 0 0 (MQ below (QV G z) args s 0 0 (gA G)) (F0 m 99 ls []))) : (∀ (x1 : Int32) (x3 : Int32) (t0 : Int32) (w : GW) (H : Heap) (locs : List Loc) (ls : Array Slot), St G w s H locs → lv_has ls 6 [(0, .ref (gad G 130)), (1, .int x1), (3, .int x3)] → f_X9_porterLine_132 k_99 x1 x3 t0 w = some z → W p l e (headSpec (wsU yX9_porterLine cX9_porterLine 6 none) rm_X9_porterLine).room s m args below meth c H locs 0 0 (MQ below (QV G z) args s 0 0 (gA G)) (F0 m 132 ls [.int t0])) := by
  obtain ⟨hx, hb, hml, hown, hts⟩ := id F
  have hg : ∀ q ∈ lwg, q.before args s = true := fun q h => hts q (List.mem_cons_of_mem _ h)
  intro x1 x3 t0 w H locs ls S hl hz
  rw [f_X9_porterLine_132] at hz
  refine lv_istore (lv' := [(4, .int t0), (0, .ref (gad G 130)), (1, .int x1), (3, .int x3)]) hx hb dX9_porterLine_132 hl (by decide) rfl (fun ls hl => ?_)
  refine lv_iconst (v := 0) hx hb dX9_porterLine_134 (by decide) ?_
  refine lv_istore (lv' := [(5, .int 0), (4, .int t0), (0, .ref (gad G 130)), (1, .int x1), (3, .int x3)]) hx hb dX9_porterLine_135 hl (by decide) rfl (fun ls hl => ?_)
  exact w_X9_porterLine_137 F hr hlk Hk_99 fu x1 x3 t0 0 _ _ _ _ S (lv_sub hl [2, 3, 4, 1, 0] rfl) hz
set_option maxHeartbeats 4000000 in
set_option maxRecDepth 100000 in
theorem w_X9_porterLine_99 {p : Program} {l : Launch} {e : Env} {s : State} {m : MethodId} {args : Array Value} {below : List Frame} {meth : Method} {c : Code} {G : GG} (F : CallFix p m c cX9_porterLine 6 s args (wsU yX9_porterLine cX9_porterLine 6 none) RX9) (hr : meth.sig.returnType = none) (hlk : meth.locks = false) {z : Unit × GW} : ∀ (n9 : Nat), (∀ (x1 : Int32) (x3 : Int32) (w : GW) (H : Heap) (locs : List Loc) (ls : Array Slot), St G w s H locs → lv_has ls 6 [(0, .ref (gad G 130)), (1, .int x1), (3, .int x3)] → f_X9_porterLine_99 n9 x1 x3 w = some z → W p l e (headSpec (wsU yX9_porterLine cX9_porterLine 6 none) rm_X9_porterLine).room s m args below meth c H locs 0 0 (MQ below (QV G z) args s 0 0 (gA G)) (F0 m 99 ls [])) := by
  obtain ⟨hx, hb, hml, hown, hts⟩ := id F
  have hg : ∀ q ∈ lwg, q.before args s = true := fun q h => hts q (List.mem_cons_of_mem _ h)
  intro n9
  induction n9 with
  | zero =>
    intro x1 x3 w H locs ls S hl hz
    rw [f_X9_porterLine_99] at hz
    cases hz
  | succ n9 ih =>
    intro x1 x3 w H locs ls S hl hz
    rw [f_X9_porterLine_99] at hz
    refine lv_iload_n hx hb dX9_porterLine_99 rfl (lv_at hl 2 rfl) ?_
    refine lv_iload_n hx hb dX9_porterLine_100 rfl (lv_at hl 1 rfl) ?_
    refine lv_icmp_ge (tgt := 209) hx hb dX9_porterLine_101 (by decide) (fun c10 => ?_) (fun c10 => ?_)
    · have hz := ipt (c10) hz
      exact w_X9_porterLine_209 F hr hlk x1 _ _ _ _ S (lv_sub hl [0, 1] rfl) hz
    · have hz := ipf (c10) hz
      refine lv_aload_n hx hb dX9_porterLine_104 rfl (lv_at hl 0 rfl) ?_
      refine fg_X9_13 hx hb (fun q h => hg q (tl_X9 q h)) hown (hg _ t_fl_X9_107) S (by decide) dX9_porterLine_105 ?_
      refine lv_if_ne (tgt := 209) hx hb dX9_porterLine_108 (by decide) (fun c48 => ?_) (fun c48 => ?_)
      · have hz := ipf (c48) hz
        exact w_X9_porterLine_209 F hr hlk x1 _ _ _ _ S (lv_sub hl [0, 1] rfl) hz
      · have hz := ipt (c48) hz
        refine lv_aload_n hx hb dX9_porterLine_111 rfl (lv_at hl 0 rfl) ?_
        refine fg_X9_16 hx hb (fun q h => hg q (tl_X9 q h)) hown (hg _ t_fl_X9_23) S (by decide) dX9_porterLine_112 ?_
        refine lv_bipush (v := 81) hx hb dX9_porterLine_115 (by decide) ?_
        refine lv_iload_n hx hb dX9_porterLine_117 rfl (lv_at hl 2 rfl) ?_
        refine lv_iadd hx hb dX9_porterLine_118 ?_
        obtain ⟨h49, hz⟩ := ck hz
        refine g_iald hx hb S (isA_15 (by decide)) h49 dX9_porterLine_119 ?_
        refine lv_aload_n hx hb dX9_porterLine_120 rfl (lv_at hl 0 rfl) ?_
        refine fg_X9_8 hx hb (fun q h => hg q (tl_X9 q h)) hown (hg _ t_fl_X9_91) S (by decide) dX9_porterLine_121 ?_
        refine lv_icmp_ne (tgt := 131) hx hb dX9_porterLine_124 (by decide) (fun c50 => ?_) (fun c50 => ?_)
        · have hz := ipf (c50) hz
          refine lv_iconst (v := 0) hx hb dX9_porterLine_131 (by decide) ?_
          exact w_X9_porterLine_132 F hr hlk ih x1 x3 0 _ _ _ _ S (lv_sub hl [0, 1, 2] rfl) hz
        · have hz := ipt (c50) hz
          refine lv_iconst (v := 1) hx hb dX9_porterLine_127 (by decide) ?_
          refine lv_goto (tgt := 132) hx hb dX9_porterLine_128 (by decide) ?_
          exact w_X9_porterLine_132 F hr hlk ih x1 x3 1 _ _ _ _ S (lv_sub hl [0, 1, 2] rfl) hz
set_option maxHeartbeats 4000000 in
set_option maxRecDepth 100000 in
theorem w_X9_porterLine_97 {p : Program} {l : Launch} {e : Env} {s : State} {m : MethodId} {args : Array Value} {below : List Frame} {meth : Method} {c : Code} {G : GG} (F : CallFix p m c cX9_porterLine 6 s args (wsU yX9_porterLine cX9_porterLine 6 none) RX9) (hr : meth.sig.returnType = none) (hlk : meth.locks = false) {z : Unit × GW} : (∀ (x1 : Int32) (w : GW) (H : Heap) (locs : List Loc) (ls : Array Slot), St G w s H locs → lv_has ls 6 [(0, .ref (gad G 130)), (1, .int x1)] → f_X9_porterLine_97 x1 w = some z → W p l e (headSpec (wsU yX9_porterLine cX9_porterLine 6 none) rm_X9_porterLine).room s m args below meth c H locs 0 0 (MQ below (QV G z) args s 0 0 (gA G)) (F0 m 97 ls [])) := by
  obtain ⟨hx, hb, hml, hown, hts⟩ := id F
  have hg : ∀ q ∈ lwg, q.before args s = true := fun q h => hts q (List.mem_cons_of_mem _ h)
  intro x1 w H locs ls S hl hz
  rw [f_X9_porterLine_97] at hz
  refine lv_iconst (v := 0) hx hb dX9_porterLine_97 (by decide) ?_
  refine lv_istore_n (lv' := [(3, .int 0), (0, .ref (gad G 130)), (1, .int x1)]) hx hb dX9_porterLine_98 rfl hl (by decide) rfl (fun ls hl => ?_)
  exact w_X9_porterLine_99 F hr hlk fu x1 0 _ _ _ _ S (lv_sub hl [1, 2, 0] rfl) hz
set_option maxHeartbeats 4000000 in
set_option maxRecDepth 100000 in
theorem w_X9_porterLine_88 {p : Program} {l : Launch} {e : Env} {s : State} {m : MethodId} {args : Array Value} {below : List Frame} {meth : Method} {c : Code} {G : GG} (F : CallFix p m c cX9_porterLine 6 s args (wsU yX9_porterLine cX9_porterLine 6 none) RX9) (hr : meth.sig.returnType = none) (hlk : meth.locks = false) {z : Unit × GW} : (∀ (x1 : Int32) (w : GW) (H : Heap) (locs : List Loc) (ls : Array Slot), St G w s H locs → lv_has ls 6 [(0, .ref (gad G 130)), (1, .int x1)] → f_X9_porterLine_88 x1 w = some z → W p l e (headSpec (wsU yX9_porterLine cX9_porterLine 6 none) rm_X9_porterLine).room s m args below meth c H locs 0 0 (MQ below (QV G z) args s 0 0 (gA G)) (F0 m 88 ls [])) := by
  obtain ⟨hx, hb, hml, hown, hts⟩ := id F
  have hg : ∀ q ∈ lwg, q.before args s = true := fun q h => hts q (List.mem_cons_of_mem _ h)
  intro x1 w H locs ls S hl hz
  rw [f_X9_porterLine_88] at hz
  refine lv_aload_n hx hb dX9_porterLine_88 rfl (lv_at hl 0 rfl) ?_
  refine lv_iconst (v := 1) hx hb dX9_porterLine_89 (by decide) ?_
  refine lv_aload_n hx hb dX9_porterLine_90 rfl (lv_at hl 0 rfl) ?_
  refine fg_X9_4 hx hb (fun q h => hg q (tl_X9 q h)) hown (hg _ t_fl_X9_88) S (by decide) dX9_porterLine_91 ?_
  obtain ⟨q8, e9, hz⟩ := bd hz
  refine g_callVv (As := [.int 1, .int (gI w 130 4)]) (rest := []) F S (c_X9_wrong l G 1 (gI w 130 4)  _ e9) (cw_X9_porterLine_X9_wrong_134 hg) (S.obj (by decide) (by decide) rfl (oc_X9 _ _ _ (by decide))) rfl hl.1 rfl (Nat.le_of_ble_eq_true rfl) ⟨Nat.zero_le _, Nat.zero_le _⟩ dX9_porterLine_94 (fun H locs  S => ?_)
  exact w_X9_porterLine_97 F hr hlk x1 _ _ _ _ S (lv_sub hl [0, 1] rfl) hz
set_option maxHeartbeats 4000000 in
set_option maxRecDepth 100000 in
theorem w_X9_porterLine_75 {p : Program} {l : Launch} {e : Env} {s : State} {m : MethodId} {args : Array Value} {below : List Frame} {meth : Method} {c : Code} {G : GG} (F : CallFix p m c cX9_porterLine 6 s args (wsU yX9_porterLine cX9_porterLine 6 none) RX9) (hr : meth.sig.returnType = none) (hlk : meth.locks = false) {z : Unit × GW} : (∀ (x1 : Int32) (t0 : Int32) (w : GW) (H : Heap) (locs : List Loc) (ls : Array Slot), St G w s H locs → lv_has ls 6 [(0, .ref (gad G 130)), (1, .int x1)] → f_X9_porterLine_75 x1 t0 w = some z → W p l e (headSpec (wsU yX9_porterLine cX9_porterLine 6 none) rm_X9_porterLine).room s m args below meth c H locs 0 0 (MQ below (QV G z) args s 0 0 (gA G)) (F0 m 75 ls [.int t0])) := by
  obtain ⟨hx, hb, hml, hown, hts⟩ := id F
  have hg : ∀ q ∈ lwg, q.before args s = true := fun q h => hts q (List.mem_cons_of_mem _ h)
  intro x1 t0 w H locs ls S hl hz
  rw [f_X9_porterLine_75] at hz
  refine lv_istore_n (lv' := [(2, .int t0), (0, .ref (gad G 130)), (1, .int x1)]) hx hb dX9_porterLine_75 rfl hl (by decide) rfl (fun ls hl => ?_)
  refine lv_aload_n hx hb dX9_porterLine_76 rfl (lv_at hl 1 rfl) ?_
  refine fg_X9_6 hx hb (fun q h => hg q (tl_X9 q h)) hown (hg _ t_fl_X9_97) S (by decide) dX9_porterLine_77 ?_
  refine lv_iconst (v := 2) hx hb dX9_porterLine_80 (by decide) ?_
  refine lv_icmp_ne (tgt := 88) hx hb dX9_porterLine_81 (by decide) (fun c7 => ?_) (fun c7 => ?_)
  · have hz := ipf (c7) hz
    exact w_X9_porterLine_88 F hr hlk x1 _ _ _ _ S (lv_sub hl [1, 2] rfl) hz
  · have hz := ipt (c7) hz
    refine lv_iload_n hx hb dX9_porterLine_84 rfl (lv_at hl 0 rfl) ?_
    refine lv_if_eq (tgt := 97) hx hb dX9_porterLine_85 (by decide) (fun c59 => ?_) (fun c59 => ?_)
    · have hz := ipt (c59) hz
      exact w_X9_porterLine_97 F hr hlk x1 _ _ _ _ S (lv_sub hl [1, 2] rfl) hz
    · have hz := ipf (c59) hz
      exact w_X9_porterLine_88 F hr hlk x1 _ _ _ _ S (lv_sub hl [1, 2] rfl) hz
set_option maxHeartbeats 4000000 in
set_option maxRecDepth 100000 in
theorem w_X9_porterLine_70 {p : Program} {l : Launch} {e : Env} {s : State} {m : MethodId} {args : Array Value} {below : List Frame} {meth : Method} {c : Code} {G : GG} (F : CallFix p m c cX9_porterLine 6 s args (wsU yX9_porterLine cX9_porterLine 6 none) RX9) (hr : meth.sig.returnType = none) (hlk : meth.locks = false) {z : Unit × GW} : (∀ (x1 : Int32) (w : GW) (H : Heap) (locs : List Loc) (ls : Array Slot), St G w s H locs → lv_has ls 6 [(0, .ref (gad G 130)), (1, .int x1)] → f_X9_porterLine_70 x1 w = some z → W p l e (headSpec (wsU yX9_porterLine cX9_porterLine 6 none) rm_X9_porterLine).room s m args below meth c H locs 0 0 (MQ below (QV G z) args s 0 0 (gA G)) (F0 m 70 ls [])) := by
  obtain ⟨hx, hb, hml, hown, hts⟩ := id F
  have hg : ∀ q ∈ lwg, q.before args s = true := fun q h => hts q (List.mem_cons_of_mem _ h)
  intro x1 w H locs ls S hl hz
  rw [f_X9_porterLine_70] at hz
  refine lv_iconst (v := 1) hx hb dX9_porterLine_70 (by decide) ?_
  refine lv_goto (tgt := 75) hx hb dX9_porterLine_71 (by decide) ?_
  exact w_X9_porterLine_75 F hr hlk x1 1 _ _ _ _ S (lv_sub hl [0, 1] rfl) hz
set_option maxHeartbeats 4000000 in
set_option maxRecDepth 100000 in
theorem c_X9_porterLine (l : Launch) (G : GG)   (w : GW) {z : Unit × GW} (hz : f_X9_porterLine  w = some z) : Met l yX9_porterLine (wsU yX9_porterLine cX9_porterLine 6 none) rm_X9_porterLine (va_Pc [.ref (gad G 130)] (PreG G w)) (QV G z) 0 0 (gA G) := by
  refine Met.ofW (cc := cX9_porterLine) (maxL := 6) (ret := none) (by decide) rfl ?_
  intro p e s m args below meth c s₁ B hml hv
  obtain ⟨rfl, S⟩ := hv
  have F : CallFix p m c cX9_porterLine 6 s _ (wsU yX9_porterLine cX9_porterLine 6 none) RX9 := ⟨B.exec, B.bytes, hml, findClass_of_methodNamed B.named, atoms_spec B.pre⟩
  have hr := B.returns
  have hlk := B.notSynchronized
  obtain ⟨hx, hb, -, hown, hts⟩ := id F
  have hg : ∀ q ∈ lwg, q.before _ s = true := fun q h => hts q (List.mem_cons_of_mem _ h)
  refine g_entry (Nat.le_of_ble_eq_true rfl) (fun ls hl => ?_)
  have hl : lv_has ls 6 [(0, .ref (gad G 130))] := hl
  have S : St G w s s.heap [] := S
  generalize s.heap = H at S ⊢
  generalize ([] : List Loc) = locs at S ⊢
  rw [f_X9_porterLine] at hz
  refine lv_aload_n hx hb dX9_porterLine_0 rfl (lv_at hl 0 rfl) ?_
  refine fg_X9_13 hx hb (fun q h => hg q (tl_X9 q h)) hown (hg _ t_fl_X9_107) S (by decide) dX9_porterLine_1 ?_
  refine lv_if_eq (tgt := 8) hx hb dX9_porterLine_4 (by decide) (fun c1 => ?_) (fun c1 => ?_)
  · have hz := ipt (c1) hz
    refine lv_aload_n hx hb dX9_porterLine_8 rfl (lv_at hl 0 rfl) ?_
    refine fg_X9_16 hx hb (fun q h => hg q (tl_X9 q h)) hown (hg _ t_fl_X9_23) S (by decide) dX9_porterLine_9 ?_
    refine lv_bipush (v := 17) hx hb dX9_porterLine_12 (by decide) ?_
    obtain ⟨h2, hz⟩ := ck hz
    refine g_iald hx hb S (isA_15 (by decide)) h2 dX9_porterLine_14 ?_
    refine lv_istore_n (lv' := [(1, .int (gI w 134 (ix 17))), (0, .ref (gad G 130))]) hx hb dX9_porterLine_15 rfl hl (by decide) rfl (fun ls hl => ?_)
    refine lv_aload_n hx hb dX9_porterLine_16 rfl (lv_at hl 1 rfl) ?_
    refine g_str 17 (by decide) hx hb S hown rfl dX9_porterLine_17 ?_
    obtain ⟨q3, e4, hz⟩ := bd hz
    refine g_callVb (As := [.ref (gK G 17)]) (rest := []) F S (c_X9_isWord l G 17 (by decide) _ e4) (cw_X9_porterLine_X9_isWord_124 hg) (S.obj (by decide) (by decide) rfl (oc_X9 _ _ _ (by decide))) rfl hl.1 rfl (Nat.le_of_ble_eq_true rfl) ⟨Nat.zero_le _, Nat.zero_le _⟩ dX9_porterLine_19 (fun H locs hB5 S => ?_)
    refine lv_if_ne (tgt := 70) hx hb dX9_porterLine_22 (by decide) (fun c6 => ?_) (fun c6 => ?_)
    · have hz := ipf (c6) hz
      exact w_X9_porterLine_70 F hr hlk (gI w 134 (ix 17)) _ _ _ _ S (lv_sub hl [1, 0] rfl) hz
    · have hz := ipt (c6) hz
      refine lv_aload_n hx hb dX9_porterLine_25 rfl (lv_at hl 1 rfl) ?_
      refine g_str 20 (by decide) hx hb S hown rfl dX9_porterLine_26 ?_
      obtain ⟨q60, e61, hz⟩ := bd hz
      refine g_callVb (As := [.ref (gK G 20)]) (rest := []) F S (c_X9_isWord l G 20 (by decide) _ e61) (cw_X9_porterLine_X9_isWord_124 hg) (S.obj (by decide) (by decide) rfl (oc_X9 _ _ _ (by decide))) rfl hl.1 rfl (Nat.le_of_ble_eq_true rfl) ⟨Nat.zero_le _, Nat.zero_le _⟩ dX9_porterLine_28 (fun H locs hB62 S => ?_)
      refine lv_if_ne (tgt := 70) hx hb dX9_porterLine_31 (by decide) (fun c63 => ?_) (fun c63 => ?_)
      · have hz := ipf (c63) hz
        exact w_X9_porterLine_70 F hr hlk (gI w 134 (ix 17)) _ _ _ _ S (lv_sub hl [1, 0] rfl) hz
      · have hz := ipt (c63) hz
        refine lv_aload_n hx hb dX9_porterLine_34 rfl (lv_at hl 1 rfl) ?_
        refine g_str 23 (by decide) hx hb S hown rfl dX9_porterLine_35 ?_
        obtain ⟨q64, e65, hz⟩ := bd hz
        refine g_callVb (As := [.ref (gK G 23)]) (rest := []) F S (c_X9_isWord l G 23 (by decide) _ e65) (cw_X9_porterLine_X9_isWord_124 hg) (S.obj (by decide) (by decide) rfl (oc_X9 _ _ _ (by decide))) rfl hl.1 rfl (Nat.le_of_ble_eq_true rfl) ⟨Nat.zero_le _, Nat.zero_le _⟩ dX9_porterLine_37 (fun H locs hB66 S => ?_)
        refine lv_if_ne (tgt := 70) hx hb dX9_porterLine_40 (by decide) (fun c67 => ?_) (fun c67 => ?_)
        · have hz := ipf (c67) hz
          exact w_X9_porterLine_70 F hr hlk (gI w 134 (ix 17)) _ _ _ _ S (lv_sub hl [1, 0] rfl) hz
        · have hz := ipt (c67) hz
          refine lv_aload_n hx hb dX9_porterLine_43 rfl (lv_at hl 1 rfl) ?_
          refine g_str 24 (by decide) hx hb S hown rfl dX9_porterLine_44 ?_
          obtain ⟨q68, e69, hz⟩ := bd hz
          refine g_callVb (As := [.ref (gK G 24)]) (rest := []) F S (c_X9_isWord l G 24 (by decide) _ e69) (cw_X9_porterLine_X9_isWord_124 hg) (S.obj (by decide) (by decide) rfl (oc_X9 _ _ _ (by decide))) rfl hl.1 rfl (Nat.le_of_ble_eq_true rfl) ⟨Nat.zero_le _, Nat.zero_le _⟩ dX9_porterLine_46 (fun H locs hB70 S => ?_)
          refine lv_if_ne (tgt := 70) hx hb dX9_porterLine_49 (by decide) (fun c71 => ?_) (fun c71 => ?_)
          · have hz := ipf (c71) hz
            exact w_X9_porterLine_70 F hr hlk (gI w 134 (ix 17)) _ _ _ _ S (lv_sub hl [1, 0] rfl) hz
          · have hz := ipt (c71) hz
            refine lv_aload_n hx hb dX9_porterLine_52 rfl (lv_at hl 1 rfl) ?_
            refine g_str 25 (by decide) hx hb S hown rfl dX9_porterLine_53 ?_
            obtain ⟨q72, e73, hz⟩ := bd hz
            refine g_callVb (As := [.ref (gK G 25)]) (rest := []) F S (c_X9_isWord l G 25 (by decide) _ e73) (cw_X9_porterLine_X9_isWord_124 hg) (S.obj (by decide) (by decide) rfl (oc_X9 _ _ _ (by decide))) rfl hl.1 rfl (Nat.le_of_ble_eq_true rfl) ⟨Nat.zero_le _, Nat.zero_le _⟩ dX9_porterLine_55 (fun H locs hB74 S => ?_)
            refine lv_if_ne (tgt := 70) hx hb dX9_porterLine_58 (by decide) (fun c75 => ?_) (fun c75 => ?_)
            · have hz := ipf (c75) hz
              exact w_X9_porterLine_70 F hr hlk (gI w 134 (ix 17)) _ _ _ _ S (lv_sub hl [1, 0] rfl) hz
            · have hz := ipt (c75) hz
              refine lv_aload_n hx hb dX9_porterLine_61 rfl (lv_at hl 1 rfl) ?_
              refine g_str 26 (by decide) hx hb S hown rfl dX9_porterLine_62 ?_
              obtain ⟨q76, e77, hz⟩ := bd hz
              refine g_callVb (As := [.ref (gK G 26)]) (rest := []) F S (c_X9_isWord l G 26 (by decide) _ e77) (cw_X9_porterLine_X9_isWord_124 hg) (S.obj (by decide) (by decide) rfl (oc_X9 _ _ _ (by decide))) rfl hl.1 rfl (Nat.le_of_ble_eq_true rfl) ⟨Nat.zero_le _, Nat.zero_le _⟩ dX9_porterLine_64 (fun H locs hB78 S => ?_)
              refine lv_if_eq (tgt := 74) hx hb dX9_porterLine_67 (by decide) (fun c79 => ?_) (fun c79 => ?_)
              · have hz := ipt (c79) hz
                refine lv_iconst (v := 0) hx hb dX9_porterLine_74 (by decide) ?_
                exact w_X9_porterLine_75 F hr hlk (gI w 134 (ix 17)) 0 _ _ _ _ S (lv_sub hl [1, 0] rfl) hz
              · have hz := ipf (c79) hz
                exact w_X9_porterLine_70 F hr hlk (gI w 134 (ix 17)) _ _ _ _ S (lv_sub hl [1, 0] rfl) hz
  · have hz := ipf (c1) hz
    exact g_retv hx hb hr hlk S hz dX9_porterLine_7
noncomputable def f_X9_doorLine  (w : GW) : Option (Unit × GW) :=
  if (gI w 130 13) = 0 then
    if inb 0 135 then
    (f_X9_number 0 ((gI w 134 (ix 0)) - 1) w).bind fun q3 =>
    if inb 36 135 then
    (f_X9_told 33 1 9 (sI q3.2 134 (ix 36) q3.1)).bind fun q6 =>
    if (gI q6.2 130 13) = 0 then
      if inb 37 135 then
      some ((), (sI q6.2 134 (ix 37) q6.1))
      else none
    else
      some ((), q6.2)
    else none
    else none
  else
    some ((), w)
set_option maxHeartbeats 4000000 in
set_option maxRecDepth 100000 in
theorem c_X9_doorLine (l : Launch) (G : GG)   (w : GW) {z : Unit × GW} (hz : f_X9_doorLine  w = some z) : Met l yX9_doorLine (wsU yX9_doorLine cX9_doorLine 2 none) rm_X9_doorLine (va_Pc [.ref (gad G 130)] (PreG G w)) (QV G z) 0 0 (gA G) := by
  refine Met.ofW (cc := cX9_doorLine) (maxL := 2) (ret := none) (by decide) rfl ?_
  intro p e s m args below meth c s₁ B hml hv
  obtain ⟨rfl, S⟩ := hv
  have F : CallFix p m c cX9_doorLine 2 s _ (wsU yX9_doorLine cX9_doorLine 2 none) RX9 := ⟨B.exec, B.bytes, hml, findClass_of_methodNamed B.named, atoms_spec B.pre⟩
  have hr := B.returns
  have hlk := B.notSynchronized
  obtain ⟨hx, hb, -, hown, hts⟩ := id F
  have hg : ∀ q ∈ lwg, q.before _ s = true := fun q h => hts q (List.mem_cons_of_mem _ h)
  refine g_entry (Nat.le_of_ble_eq_true rfl) (fun ls hl => ?_)
  have hl : lv_has ls 2 [(0, .ref (gad G 130))] := hl
  have S : St G w s s.heap [] := S
  generalize s.heap = H at S ⊢
  generalize ([] : List Loc) = locs at S ⊢
  rw [f_X9_doorLine] at hz
  refine lv_aload_n hx hb dX9_doorLine_0 rfl (lv_at hl 0 rfl) ?_
  refine fg_X9_13 hx hb (fun q h => hg q (tl_X9 q h)) hown (hg _ t_fl_X9_107) S (by decide) dX9_doorLine_1 ?_
  refine lv_if_eq (tgt := 8) hx hb dX9_doorLine_4 (by decide) (fun c1 => ?_) (fun c1 => ?_)
  · have hz := ipt (c1) hz
    refine lv_aload_n hx hb dX9_doorLine_8 rfl (lv_at hl 0 rfl) ?_
    refine fg_X9_16 hx hb (fun q h => hg q (tl_X9 q h)) hown (hg _ t_fl_X9_23) S (by decide) dX9_doorLine_9 ?_
    refine lv_bipush (v := 36) hx hb dX9_doorLine_12 (by decide) ?_
    refine lv_aload_n hx hb dX9_doorLine_14 rfl (lv_at hl 0 rfl) ?_
    refine lv_iconst (v := 0) hx hb dX9_doorLine_15 (by decide) ?_
    refine lv_aload_n hx hb dX9_doorLine_16 rfl (lv_at hl 0 rfl) ?_
    refine fg_X9_16 hx hb (fun q h => hg q (tl_X9 q h)) hown (hg _ t_fl_X9_23) S (by decide) dX9_doorLine_17 ?_
    refine lv_iconst (v := 0) hx hb dX9_doorLine_20 (by decide) ?_
    obtain ⟨h2, hz⟩ := ck hz
    refine g_iald hx hb S (isA_15 (by decide)) h2 dX9_doorLine_21 ?_
    refine lv_iconst (v := 1) hx hb dX9_doorLine_22 (by decide) ?_
    refine lv_isub hx hb dX9_doorLine_23 ?_
    obtain ⟨q3, e4, hz⟩ := bd hz
    refine g_callVi (As := [.int 0, .int ((gI w 134 (ix 0)) - 1)]) (rest := [.int 36, .ref (gad G 134)]) F S (c_X9_number l G 0 ((gI w 134 (ix 0)) - 1)  _ e4) (cw_X9_doorLine_X9_number_146 hg) (S.obj (by decide) (by decide) rfl (oc_X9 _ _ _ (by decide))) rfl hl.1 rfl (Nat.le_of_ble_eq_true rfl) ⟨Nat.zero_le _, Nat.zero_le _⟩ dX9_doorLine_24 (fun H locs  S => ?_)
    obtain ⟨h5, hz⟩ := ck hz
    refine g_iast (x := q3.1) hx hb S (isA_15 (by decide)) h5 dX9_doorLine_27 (fun H locs S => ?_)
    refine lv_aload_n hx hb dX9_doorLine_28 rfl (lv_at hl 0 rfl) ?_
    refine g_str 33 (by decide) hx hb S hown rfl dX9_doorLine_29 ?_
    refine lv_iconst (v := 1) hx hb dX9_doorLine_31 (by decide) ?_
    refine lv_bipush (v := 9) hx hb dX9_doorLine_32 (by decide) ?_
    obtain ⟨q6, e7, hz⟩ := bd hz
    refine g_callVi (As := [.ref (gK G 33), .int 1, .int 9]) (rest := []) F S (c_X9_told l G 33 1 9 (by decide) _ e7) (cw_X9_doorLine_X9_told_204 hg) (S.obj (by decide) (by decide) rfl (oc_X9 _ _ _ (by decide))) rfl hl.1 rfl (Nat.le_of_ble_eq_true rfl) ⟨Nat.zero_le _, Nat.zero_le _⟩ dX9_doorLine_34 (fun H locs  S => ?_)
    refine lv_istore_n (lv' := [(1, .int q6.1), (0, .ref (gad G 130))]) hx hb dX9_doorLine_37 rfl hl (by decide) rfl (fun ls hl => ?_)
    refine lv_aload_n hx hb dX9_doorLine_38 rfl (lv_at hl 1 rfl) ?_
    refine fg_X9_13 hx hb (fun q h => hg q (tl_X9 q h)) hown (hg _ t_fl_X9_107) S (by decide) dX9_doorLine_39 ?_
    refine lv_if_ne (tgt := 53) hx hb dX9_doorLine_42 (by decide) (fun c8 => ?_) (fun c8 => ?_)
    · have hz := ipf (c8) hz
      exact g_retv hx hb hr hlk S hz dX9_doorLine_53
    · have hz := ipt (c8) hz
      refine lv_aload_n hx hb dX9_doorLine_45 rfl (lv_at hl 1 rfl) ?_
      refine fg_X9_16 hx hb (fun q h => hg q (tl_X9 q h)) hown (hg _ t_fl_X9_23) S (by decide) dX9_doorLine_46 ?_
      refine lv_bipush (v := 37) hx hb dX9_doorLine_49 (by decide) ?_
      refine lv_iload_n hx hb dX9_doorLine_51 rfl (lv_at hl 0 rfl) ?_
      obtain ⟨h9, hz⟩ := ck hz
      refine g_iast (x := q6.1) hx hb S (isA_15 (by decide)) h9 dX9_doorLine_52 (fun H locs S => ?_)
      exact g_retv hx hb hr hlk S hz dX9_doorLine_53
  · have hz := ipf (c1) hz
    exact g_retv hx hb hr hlk S hz dX9_doorLine_7
noncomputable def f_X9_movesLine  (w : GW) : Option (Unit × GW) :=
  (f_X9_told 33 1 9 w).bind fun q1 =>
  if (gI q1.2 130 13) = 0 then
    if inb 38 135 then
    some ((), (sI q1.2 134 (ix 38) q1.1))
    else none
  else
    some ((), q1.2)
set_option maxHeartbeats 4000000 in
set_option maxRecDepth 100000 in
theorem c_X9_movesLine (l : Launch) (G : GG)   (w : GW) {z : Unit × GW} (hz : f_X9_movesLine  w = some z) : Met l yX9_movesLine (wsU yX9_movesLine cX9_movesLine 2 none) rm_X9_movesLine (va_Pc [.ref (gad G 130)] (PreG G w)) (QV G z) 0 0 (gA G) := by
  refine Met.ofW (cc := cX9_movesLine) (maxL := 2) (ret := none) (by decide) rfl ?_
  intro p e s m args below meth c s₁ B hml hv
  obtain ⟨rfl, S⟩ := hv
  have F : CallFix p m c cX9_movesLine 2 s _ (wsU yX9_movesLine cX9_movesLine 2 none) RX9 := ⟨B.exec, B.bytes, hml, findClass_of_methodNamed B.named, atoms_spec B.pre⟩
  have hr := B.returns
  have hlk := B.notSynchronized
  obtain ⟨hx, hb, -, hown, hts⟩ := id F
  have hg : ∀ q ∈ lwg, q.before _ s = true := fun q h => hts q (List.mem_cons_of_mem _ h)
  refine g_entry (Nat.le_of_ble_eq_true rfl) (fun ls hl => ?_)
  have hl : lv_has ls 2 [(0, .ref (gad G 130))] := hl
  have S : St G w s s.heap [] := S
  generalize s.heap = H at S ⊢
  generalize ([] : List Loc) = locs at S ⊢
  rw [f_X9_movesLine] at hz
  refine lv_aload_n hx hb dX9_movesLine_0 rfl (lv_at hl 0 rfl) ?_
  refine g_str 33 (by decide) hx hb S hown rfl dX9_movesLine_1 ?_
  refine lv_iconst (v := 1) hx hb dX9_movesLine_3 (by decide) ?_
  refine lv_bipush (v := 9) hx hb dX9_movesLine_4 (by decide) ?_
  obtain ⟨q1, e2, hz⟩ := bd hz
  refine g_callVi (As := [.ref (gK G 33), .int 1, .int 9]) (rest := []) F S (c_X9_told l G 33 1 9 (by decide) _ e2) (cw_X9_movesLine_X9_told_204 hg) (S.obj (by decide) (by decide) rfl (oc_X9 _ _ _ (by decide))) rfl hl.1 rfl (Nat.le_of_ble_eq_true rfl) ⟨Nat.zero_le _, Nat.zero_le _⟩ dX9_movesLine_6 (fun H locs  S => ?_)
  refine lv_istore_n (lv' := [(1, .int q1.1), (0, .ref (gad G 130))]) hx hb dX9_movesLine_9 rfl hl (by decide) rfl (fun ls hl => ?_)
  refine lv_aload_n hx hb dX9_movesLine_10 rfl (lv_at hl 1 rfl) ?_
  refine fg_X9_13 hx hb (fun q h => hg q (tl_X9 q h)) hown (hg _ t_fl_X9_107) S (by decide) dX9_movesLine_11 ?_
  refine lv_if_ne (tgt := 25) hx hb dX9_movesLine_14 (by decide) (fun c3 => ?_) (fun c3 => ?_)
  · have hz := ipf (c3) hz
    exact g_retv hx hb hr hlk S hz dX9_movesLine_25
  · have hz := ipt (c3) hz
    refine lv_aload_n hx hb dX9_movesLine_17 rfl (lv_at hl 1 rfl) ?_
    refine fg_X9_16 hx hb (fun q h => hg q (tl_X9 q h)) hown (hg _ t_fl_X9_23) S (by decide) dX9_movesLine_18 ?_
    refine lv_bipush (v := 38) hx hb dX9_movesLine_21 (by decide) ?_
    refine lv_iload_n hx hb dX9_movesLine_23 rfl (lv_at hl 0 rfl) ?_
    obtain ⟨h4, hz⟩ := ck hz
    refine g_iast (x := q1.1) hx hb S (isA_15 (by decide)) h4 dX9_movesLine_24 (fun H locs S => ?_)
    exact g_retv hx hb hr hlk S hz dX9_movesLine_25
noncomputable def f_X9_layLine_73 (k_23 : Int32 → Int32 → GW → Option (Unit × GW)) (x1 : Int32) (x2 : Int32) (w : GW) : Option (Unit × GW) :=
  (f_X9_number 0 8 w).bind fun q8 =>
  if inb (x1 + x2) 135 then
  k_23 x1 (x2 + 1) (sI q8.2 134 (ix (x1 + x2)) q8.1)
  else none
noncomputable def f_X9_layLine_62 (k_23 : Int32 → Int32 → GW → Option (Unit × GW)) (x1 : Int32) (x2 : Int32) (w : GW) : Option (Unit × GW) :=
  if (gI w 130 13) = 0 then
    (f_X9_next w).bind fun q14 =>
    f_X9_layLine_73 k_23 x1 x2 q14.2
  else
    f_X9_layLine_73 k_23 x1 x2 w
noncomputable def f_X9_layLine_23  : Nat → Int32 → Int32 → GW → Option (Unit × GW)
  | 0, _, _, _ => none
  | n9 + 1, x1, x2, w =>
    if inb 0 135 then
    if (gI w 134 (ix 0)) ≤ x2 then
      if inb 39 135 then
      if inb 39 135 then
      some ((), (sI w 134 (ix 39) ((gI w 134 (ix 39)) + 1)))
      else none
      else none
    else
      if x2 ≤ 0 then
        f_X9_layLine_73 (f_X9_layLine_23 n9) x1 x2 w
      else
        if (gI w 130 13) = 0 then
          if (gI w 130 6) = 44 then
            f_X9_layLine_62 (f_X9_layLine_23 n9) x1 x2 w
          else
            (f_X9_wrong 1 (gI w 130 4) w).bind fun q16 =>
            f_X9_layLine_62 (f_X9_layLine_23 n9) x1 x2 q16.2
        else
          f_X9_layLine_73 (f_X9_layLine_23 n9) x1 x2 w
    else none
noncomputable def f_X9_layLine  (w : GW) : Option (Unit × GW) :=
  if (gI w 130 13) = 0 then
    if inb 39 135 then
    f_X9_layLine_23 fu (40 + (5 * (gI w 134 (ix 39)))) 0 w
    else none
  else
    some ((), w)
set_option maxHeartbeats 4000000 in
set_option maxRecDepth 100000 in
theorem w_X9_layLine_73 {p : Program} {l : Launch} {e : Env} {s : State} {m : MethodId} {args : Array Value} {below : List Frame} {meth : Method} {c : Code} {G : GG} (F : CallFix p m c cX9_layLine 3 s args (wsU yX9_layLine cX9_layLine 3 none) RX9) (hr : meth.sig.returnType = none) (hlk : meth.locks = false) {z : Unit × GW} {k_23 : Int32 → Int32 → GW → Option (Unit × GW)} (Hk_23 : (∀ (x1 : Int32) (x2 : Int32) (w : GW) (H : Heap) (locs : List Loc) (ls : Array Slot), St G w s H locs → lv_has ls 3 [(0, .ref (gad G 130)), (1, .int x1), (2, .int x2)] → k_23 x1 x2 w = some z → W p l e (headSpec (wsU yX9_layLine cX9_layLine 3 none) rm_X9_layLine).room s m args below meth c H locs 0 0 (MQ below (QV G z) args s 0 0 (gA G)) (F0 m 23 ls []))) : (∀ (x1 : Int32) (x2 : Int32) (w : GW) (H : Heap) (locs : List Loc) (ls : Array Slot), St G w s H locs → lv_has ls 3 [(0, .ref (gad G 130)), (1, .int x1), (2, .int x2)] → f_X9_layLine_73 k_23 x1 x2 w = some z → W p l e (headSpec (wsU yX9_layLine cX9_layLine 3 none) rm_X9_layLine).room s m args below meth c H locs 0 0 (MQ below (QV G z) args s 0 0 (gA G)) (F0 m 73 ls [])) := by
  obtain ⟨hx, hb, hml, hown, hts⟩ := id F
  have hg : ∀ q ∈ lwg, q.before args s = true := fun q h => hts q (List.mem_cons_of_mem _ h)
  intro x1 x2 w H locs ls S hl hz
  rw [f_X9_layLine_73] at hz
  refine lv_aload_n hx hb dX9_layLine_73 rfl (lv_at hl 0 rfl) ?_
  refine fg_X9_16 hx hb (fun q h => hg q (tl_X9 q h)) hown (hg _ t_fl_X9_23) S (by decide) dX9_layLine_74 ?_
  refine lv_iload_n hx hb dX9_layLine_77 rfl (lv_at hl 1 rfl) ?_
  refine lv_iload_n hx hb dX9_layLine_78 rfl (lv_at hl 2 rfl) ?_
  refine lv_iadd hx hb dX9_layLine_79 ?_
  refine lv_aload_n hx hb dX9_layLine_80 rfl (lv_at hl 0 rfl) ?_
  refine lv_iconst (v := 0) hx hb dX9_layLine_81 (by decide) ?_
  refine lv_bipush (v := 8) hx hb dX9_layLine_82 (by decide) ?_
  obtain ⟨q8, e9, hz⟩ := bd hz
  refine g_callVi (As := [.int 0, .int 8]) (rest := [.int (x1 + x2), .ref (gad G 134)]) F S (c_X9_number l G 0 8  _ e9) (cw_X9_layLine_X9_number_146 hg) (S.obj (by decide) (by decide) rfl (oc_X9 _ _ _ (by decide))) rfl hl.1 rfl (Nat.le_of_ble_eq_true rfl) ⟨Nat.zero_le _, Nat.zero_le _⟩ dX9_layLine_84 (fun H locs  S => ?_)
  obtain ⟨h10, hz⟩ := ck hz
  refine g_iast (x := q8.1) hx hb S (isA_15 (by decide)) h10 dX9_layLine_87 (fun H locs S => ?_)
  refine lv_iinc (v := (x2 + 1)) (lv' := [(2, .int (x2 + 1)), (0, .ref (gad G 130)), (1, .int x1)]) hx hb dX9_layLine_88 hl (k := 2) rfl rfl (by decide) rfl (fun ls hl => ?_)
  refine lv_goto (tgt := 23) hx hb dX9_layLine_91 (by decide) ?_
  exact Hk_23 x1 (x2 + 1)  _ _ _ _ S (lv_sub hl [1, 2, 0] rfl) hz
set_option maxHeartbeats 4000000 in
set_option maxRecDepth 100000 in
theorem w_X9_layLine_62 {p : Program} {l : Launch} {e : Env} {s : State} {m : MethodId} {args : Array Value} {below : List Frame} {meth : Method} {c : Code} {G : GG} (F : CallFix p m c cX9_layLine 3 s args (wsU yX9_layLine cX9_layLine 3 none) RX9) (hr : meth.sig.returnType = none) (hlk : meth.locks = false) {z : Unit × GW} {k_23 : Int32 → Int32 → GW → Option (Unit × GW)} (Hk_23 : (∀ (x1 : Int32) (x2 : Int32) (w : GW) (H : Heap) (locs : List Loc) (ls : Array Slot), St G w s H locs → lv_has ls 3 [(0, .ref (gad G 130)), (1, .int x1), (2, .int x2)] → k_23 x1 x2 w = some z → W p l e (headSpec (wsU yX9_layLine cX9_layLine 3 none) rm_X9_layLine).room s m args below meth c H locs 0 0 (MQ below (QV G z) args s 0 0 (gA G)) (F0 m 23 ls []))) : (∀ (x1 : Int32) (x2 : Int32) (w : GW) (H : Heap) (locs : List Loc) (ls : Array Slot), St G w s H locs → lv_has ls 3 [(0, .ref (gad G 130)), (1, .int x1), (2, .int x2)] → f_X9_layLine_62 k_23 x1 x2 w = some z → W p l e (headSpec (wsU yX9_layLine cX9_layLine 3 none) rm_X9_layLine).room s m args below meth c H locs 0 0 (MQ below (QV G z) args s 0 0 (gA G)) (F0 m 62 ls [])) := by
  obtain ⟨hx, hb, hml, hown, hts⟩ := id F
  have hg : ∀ q ∈ lwg, q.before args s = true := fun q h => hts q (List.mem_cons_of_mem _ h)
  intro x1 x2 w H locs ls S hl hz
  rw [f_X9_layLine_62] at hz
  refine lv_aload_n hx hb dX9_layLine_62 rfl (lv_at hl 0 rfl) ?_
  refine fg_X9_13 hx hb (fun q h => hg q (tl_X9 q h)) hown (hg _ t_fl_X9_107) S (by decide) dX9_layLine_63 ?_
  refine lv_if_ne (tgt := 73) hx hb dX9_layLine_66 (by decide) (fun c13 => ?_) (fun c13 => ?_)
  · have hz := ipf (c13) hz
    exact w_X9_layLine_73 F hr hlk Hk_23 x1 x2 _ _ _ _ S (lv_sub hl [0, 1, 2] rfl) hz
  · have hz := ipt (c13) hz
    refine lv_aload_n hx hb dX9_layLine_69 rfl (lv_at hl 0 rfl) ?_
    obtain ⟨q14, e15, hz⟩ := bd hz
    refine g_callVv (As := []) (rest := []) F S (c_X9_next l G   _ e15) (cw_X9_layLine_X9_next_128 hg) (S.obj (by decide) (by decide) rfl (oc_X9 _ _ _ (by decide))) rfl hl.1 rfl (Nat.le_of_ble_eq_true rfl) ⟨Nat.zero_le _, Nat.zero_le _⟩ dX9_layLine_70 (fun H locs  S => ?_)
    exact w_X9_layLine_73 F hr hlk Hk_23 x1 x2 _ _ _ _ S (lv_sub hl [0, 1, 2] rfl) hz
set_option maxHeartbeats 4000000 in
set_option maxRecDepth 100000 in
theorem w_X9_layLine_23 {p : Program} {l : Launch} {e : Env} {s : State} {m : MethodId} {args : Array Value} {below : List Frame} {meth : Method} {c : Code} {G : GG} (F : CallFix p m c cX9_layLine 3 s args (wsU yX9_layLine cX9_layLine 3 none) RX9) (hr : meth.sig.returnType = none) (hlk : meth.locks = false) {z : Unit × GW} : ∀ (n9 : Nat), (∀ (x1 : Int32) (x2 : Int32) (w : GW) (H : Heap) (locs : List Loc) (ls : Array Slot), St G w s H locs → lv_has ls 3 [(0, .ref (gad G 130)), (1, .int x1), (2, .int x2)] → f_X9_layLine_23 n9 x1 x2 w = some z → W p l e (headSpec (wsU yX9_layLine cX9_layLine 3 none) rm_X9_layLine).room s m args below meth c H locs 0 0 (MQ below (QV G z) args s 0 0 (gA G)) (F0 m 23 ls [])) := by
  obtain ⟨hx, hb, hml, hown, hts⟩ := id F
  have hg : ∀ q ∈ lwg, q.before args s = true := fun q h => hts q (List.mem_cons_of_mem _ h)
  intro n9
  induction n9 with
  | zero =>
    intro x1 x2 w H locs ls S hl hz
    rw [f_X9_layLine_23] at hz
    cases hz
  | succ n9 ih =>
    intro x1 x2 w H locs ls S hl hz
    rw [f_X9_layLine_23] at hz
    refine lv_iload_n hx hb dX9_layLine_23 rfl (lv_at hl 2 rfl) ?_
    refine lv_aload_n hx hb dX9_layLine_24 rfl (lv_at hl 0 rfl) ?_
    refine fg_X9_16 hx hb (fun q h => hg q (tl_X9 q h)) hown (hg _ t_fl_X9_23) S (by decide) dX9_layLine_25 ?_
    refine lv_iconst (v := 0) hx hb dX9_layLine_28 (by decide) ?_
    obtain ⟨h3, hz⟩ := ck hz
    refine g_iald hx hb S (isA_15 (by decide)) h3 dX9_layLine_29 ?_
    refine lv_icmp_ge (tgt := 94) hx hb dX9_layLine_30 (by decide) (fun c4 => ?_) (fun c4 => ?_)
    · have hz := ipt (c4) hz
      refine lv_aload_n hx hb dX9_layLine_94 rfl (lv_at hl 0 rfl) ?_
      refine fg_X9_16 hx hb (fun q h => hg q (tl_X9 q h)) hown (hg _ t_fl_X9_23) S (by decide) dX9_layLine_95 ?_
      refine lv_bipush (v := 39) hx hb dX9_layLine_98 (by decide) ?_
      refine lv_dup2_11 hx hb dX9_layLine_100 rfl rfl ?_
      obtain ⟨h5, hz⟩ := ck hz
      refine g_iald hx hb S (isA_15 (by decide)) h5 dX9_layLine_101 ?_
      refine lv_iconst (v := 1) hx hb dX9_layLine_102 (by decide) ?_
      refine lv_iadd hx hb dX9_layLine_103 ?_
      obtain ⟨h6, hz⟩ := ck hz
      refine g_iast (x := ((gI w 134 (ix 39)) + 1)) hx hb S (isA_15 (by decide)) h6 dX9_layLine_104 (fun H locs S => ?_)
      exact g_retv hx hb hr hlk S hz dX9_layLine_105
    · have hz := ipf (c4) hz
      refine lv_iload_n hx hb dX9_layLine_33 rfl (lv_at hl 2 rfl) ?_
      refine lv_if_le (tgt := 73) hx hb dX9_layLine_34 (by decide) (fun c7 => ?_) (fun c7 => ?_)
      · have hz := ipt (c7) hz
        exact w_X9_layLine_73 F hr hlk ih x1 x2 _ _ _ _ S (lv_sub hl [0, 1, 2] rfl) hz
      · have hz := ipf (c7) hz
        refine lv_aload_n hx hb dX9_layLine_37 rfl (lv_at hl 0 rfl) ?_
        refine fg_X9_13 hx hb (fun q h => hg q (tl_X9 q h)) hown (hg _ t_fl_X9_107) S (by decide) dX9_layLine_38 ?_
        refine lv_if_ne (tgt := 73) hx hb dX9_layLine_41 (by decide) (fun c11 => ?_) (fun c11 => ?_)
        · have hz := ipf (c11) hz
          exact w_X9_layLine_73 F hr hlk ih x1 x2 _ _ _ _ S (lv_sub hl [0, 1, 2] rfl) hz
        · have hz := ipt (c11) hz
          refine lv_aload_n hx hb dX9_layLine_44 rfl (lv_at hl 0 rfl) ?_
          refine fg_X9_6 hx hb (fun q h => hg q (tl_X9 q h)) hown (hg _ t_fl_X9_97) S (by decide) dX9_layLine_45 ?_
          refine lv_bipush (v := 44) hx hb dX9_layLine_48 (by decide) ?_
          refine lv_icmp_eq (tgt := 62) hx hb dX9_layLine_50 (by decide) (fun c12 => ?_) (fun c12 => ?_)
          · have hz := ipt (c12) hz
            exact w_X9_layLine_62 F hr hlk ih x1 x2 _ _ _ _ S (lv_sub hl [0, 1, 2] rfl) hz
          · have hz := ipf (c12) hz
            refine lv_aload_n hx hb dX9_layLine_53 rfl (lv_at hl 0 rfl) ?_
            refine lv_iconst (v := 1) hx hb dX9_layLine_54 (by decide) ?_
            refine lv_aload_n hx hb dX9_layLine_55 rfl (lv_at hl 0 rfl) ?_
            refine fg_X9_4 hx hb (fun q h => hg q (tl_X9 q h)) hown (hg _ t_fl_X9_88) S (by decide) dX9_layLine_56 ?_
            obtain ⟨q16, e17, hz⟩ := bd hz
            refine g_callVv (As := [.int 1, .int (gI w 130 4)]) (rest := []) F S (c_X9_wrong l G 1 (gI w 130 4)  _ e17) (cw_X9_layLine_X9_wrong_134 hg) (S.obj (by decide) (by decide) rfl (oc_X9 _ _ _ (by decide))) rfl hl.1 rfl (Nat.le_of_ble_eq_true rfl) ⟨Nat.zero_le _, Nat.zero_le _⟩ dX9_layLine_59 (fun H locs  S => ?_)
            exact w_X9_layLine_62 F hr hlk ih x1 x2 _ _ _ _ S (lv_sub hl [0, 1, 2] rfl) hz
set_option maxHeartbeats 4000000 in
set_option maxRecDepth 100000 in
theorem c_X9_layLine (l : Launch) (G : GG)   (w : GW) {z : Unit × GW} (hz : f_X9_layLine  w = some z) : Met l yX9_layLine (wsU yX9_layLine cX9_layLine 3 none) rm_X9_layLine (va_Pc [.ref (gad G 130)] (PreG G w)) (QV G z) 0 0 (gA G) := by
  refine Met.ofW (cc := cX9_layLine) (maxL := 3) (ret := none) (by decide) rfl ?_
  intro p e s m args below meth c s₁ B hml hv
  obtain ⟨rfl, S⟩ := hv
  have F : CallFix p m c cX9_layLine 3 s _ (wsU yX9_layLine cX9_layLine 3 none) RX9 := ⟨B.exec, B.bytes, hml, findClass_of_methodNamed B.named, atoms_spec B.pre⟩
  have hr := B.returns
  have hlk := B.notSynchronized
  obtain ⟨hx, hb, -, hown, hts⟩ := id F
  have hg : ∀ q ∈ lwg, q.before _ s = true := fun q h => hts q (List.mem_cons_of_mem _ h)
  refine g_entry (Nat.le_of_ble_eq_true rfl) (fun ls hl => ?_)
  have hl : lv_has ls 3 [(0, .ref (gad G 130))] := hl
  have S : St G w s s.heap [] := S
  generalize s.heap = H at S ⊢
  generalize ([] : List Loc) = locs at S ⊢
  rw [f_X9_layLine] at hz
  refine lv_aload_n hx hb dX9_layLine_0 rfl (lv_at hl 0 rfl) ?_
  refine fg_X9_13 hx hb (fun q h => hg q (tl_X9 q h)) hown (hg _ t_fl_X9_107) S (by decide) dX9_layLine_1 ?_
  refine lv_if_eq (tgt := 8) hx hb dX9_layLine_4 (by decide) (fun c1 => ?_) (fun c1 => ?_)
  · have hz := ipt (c1) hz
    refine lv_bipush (v := 40) hx hb dX9_layLine_8 (by decide) ?_
    refine lv_iconst (v := 5) hx hb dX9_layLine_10 (by decide) ?_
    refine lv_aload_n hx hb dX9_layLine_11 rfl (lv_at hl 0 rfl) ?_
    refine fg_X9_16 hx hb (fun q h => hg q (tl_X9 q h)) hown (hg _ t_fl_X9_23) S (by decide) dX9_layLine_12 ?_
    refine lv_bipush (v := 39) hx hb dX9_layLine_15 (by decide) ?_
    obtain ⟨h2, hz⟩ := ck hz
    refine g_iald hx hb S (isA_15 (by decide)) h2 dX9_layLine_17 ?_
    refine lv_imul hx hb dX9_layLine_18 ?_
    refine lv_iadd hx hb dX9_layLine_19 ?_
    refine lv_istore_n (lv' := [(1, .int (40 + (5 * (gI w 134 (ix 39))))), (0, .ref (gad G 130))]) hx hb dX9_layLine_20 rfl hl (by decide) rfl (fun ls hl => ?_)
    refine lv_iconst (v := 0) hx hb dX9_layLine_21 (by decide) ?_
    refine lv_istore_n (lv' := [(2, .int 0), (1, .int (40 + (5 * (gI w 134 (ix 39))))), (0, .ref (gad G 130))]) hx hb dX9_layLine_22 rfl hl (by decide) rfl (fun ls hl => ?_)
    exact w_X9_layLine_23 F hr hlk fu (40 + (5 * (gI w 134 (ix 39)))) 0 _ _ _ _ S (lv_sub hl [2, 1, 0] rfl) hz
  · have hz := ipf (c1) hz
    exact g_retv hx hb hr hlk S hz dX9_layLine_7
noncomputable def f_X9_readLine_173  (t0 : Int32) (t1 : Nat) (w : GW) : Option (Unit × GW) :=
  (f_X9_begins t1 t0 5 1 w).bind fun q31 =>
  if q31.1 = 0 then
    (f_X9_wrong 1 (gI q31.2 130 4) q31.2).bind fun q35 =>
    some ((), q35.2)
  else
    (f_X9_layLine q31.2).bind fun q37 =>
    some ((), q37.2)
noncomputable def f_X9_readLine_138  (t0 : Int32) (t1 : Nat) (w : GW) : Option (Unit × GW) :=
  (f_X9_begins t1 t0 3 0 w).bind fun q25 =>
  if q25.1 = 0 then
    if inb 39 135 then
    if 8 ≤ (gI q25.2 134 (ix 39)) then
      f_X9_readLine_173 0 26 q25.2
    else
      f_X9_readLine_173 1 26 q25.2
    else none
  else
    (f_X9_movesLine q25.2).bind fun q39 =>
    some ((), q39.2)
noncomputable def f_X9_readLine_105  (t0 : Int32) (t1 : Nat) (w : GW) : Option (Unit × GW) :=
  (f_X9_begins t1 t0 3 1 w).bind fun q19 =>
  if q19.1 = 0 then
    if inb 38 135 then
    if (gI q19.2 134 (ix 38)) = 0 then
      f_X9_readLine_138 1 25 q19.2
    else
      f_X9_readLine_138 0 25 q19.2
    else none
  else
    (f_X9_doorLine q19.2).bind fun q41 =>
    some ((), q41.2)
noncomputable def f_X9_readLine_72  (t0 : Int32) (t1 : Nat) (w : GW) : Option (Unit × GW) :=
  (f_X9_begins t1 t0 5 0 w).bind fun q13 =>
  if q13.1 = 0 then
    if inb 37 135 then
    if (gI q13.2 134 (ix 37)) = 0 then
      f_X9_readLine_105 1 24 q13.2
    else
      f_X9_readLine_105 0 24 q13.2
    else none
  else
    (f_X9_porterLine q13.2).bind fun q43 =>
    some ((), q43.2)
noncomputable def f_X9_readLine_18  (t0 : Int32) (t1 : Nat) (w : GW) : Option (Unit × GW) :=
  (f_X9_begins t1 t0 3 0 w).bind fun q3 =>
  if q3.1 = 0 then
    (f_X9_begins 20 1 1 1 q3.2).bind fun q7 =>
    if q7.1 = 0 then
      if inb 17 135 then
      if 6 ≤ (gI q7.2 134 (ix 17)) then
        f_X9_readLine_72 0 23 q7.2
      else
        f_X9_readLine_72 1 23 q7.2
      else none
    else
      (f_X9_boxLine q7.2).bind fun q45 =>
      some ((), q45.2)
  else
    (f_X9_hallLine q3.2).bind fun q47 =>
    some ((), q47.2)
noncomputable def f_X9_readLine  (w : GW) : Option (Unit × GW) :=
  if inb 80 135 then
  if (gI w 134 (ix 80)) = 0 then
    f_X9_readLine_18 1 17 w
  else
    f_X9_readLine_18 0 17 w
  else none
set_option maxHeartbeats 4000000 in
set_option maxRecDepth 100000 in
theorem w_X9_readLine_173 {p : Program} {l : Launch} {e : Env} {s : State} {m : MethodId} {args : Array Value} {below : List Frame} {meth : Method} {c : Code} {G : GG} (F : CallFix p m c cX9_readLine 1 s args (wsU yX9_readLine cX9_readLine 1 none) RX9) (hr : meth.sig.returnType = none) (hlk : meth.locks = false) {z : Unit × GW} : (∀ (t0 : Int32) (t1 : Nat) (ht1 : t1 < 34) (w : GW) (H : Heap) (locs : List Loc) (ls : Array Slot), St G w s H locs → lv_has ls 1 [(0, .ref (gad G 130))] → f_X9_readLine_173 t0 t1 w = some z → W p l e (headSpec (wsU yX9_readLine cX9_readLine 1 none) rm_X9_readLine).room s m args below meth c H locs 0 0 (MQ below (QV G z) args s 0 0 (gA G)) (F0 m 173 ls [.int t0, .ref (gK G t1), .ref (gad G 130)])) := by
  obtain ⟨hx, hb, hml, hown, hts⟩ := id F
  have hg : ∀ q ∈ lwg, q.before args s = true := fun q h => hts q (List.mem_cons_of_mem _ h)
  intro t0 t1 ht1 w H locs ls S hl hz
  rw [f_X9_readLine_173] at hz
  refine lv_iconst (v := 5) hx hb dX9_readLine_173 (by decide) ?_
  refine lv_iconst (v := 1) hx hb dX9_readLine_174 (by decide) ?_
  obtain ⟨q31, e32, hz⟩ := bd hz
  refine g_callVb (As := [.ref (gK G t1), .int t0, .int 5, .int 1]) (rest := []) F S (c_X9_begins l G t1 t0 5 1 ht1 _ e32) (cw_X9_readLine_X9_begins_170 hg) (S.obj (by decide) (by decide) rfl (oc_X9 _ _ _ (by decide))) rfl hl.1 rfl (Nat.le_of_ble_eq_true rfl) ⟨Nat.zero_le _, Nat.zero_le _⟩ dX9_readLine_175 (fun H locs hB33 S => ?_)
  refine lv_if_eq (tgt := 188) hx hb dX9_readLine_178 (by decide) (fun c34 => ?_) (fun c34 => ?_)
  · have hz := ipt (c34) hz
    refine lv_aload_n hx hb dX9_readLine_188 rfl (lv_at hl 0 rfl) ?_
    refine lv_iconst (v := 1) hx hb dX9_readLine_189 (by decide) ?_
    refine lv_aload_n hx hb dX9_readLine_190 rfl (lv_at hl 0 rfl) ?_
    refine fg_X9_4 hx hb (fun q h => hg q (tl_X9 q h)) hown (hg _ t_fl_X9_88) S (by decide) dX9_readLine_191 ?_
    obtain ⟨q35, e36, hz⟩ := bd hz
    refine g_callVv (As := [.int 1, .int (gI q31.2 130 4)]) (rest := []) F S (c_X9_wrong l G 1 (gI q31.2 130 4)  _ e36) (cw_X9_readLine_X9_wrong_134 hg) (S.obj (by decide) (by decide) rfl (oc_X9 _ _ _ (by decide))) rfl hl.1 rfl (Nat.le_of_ble_eq_true rfl) ⟨Nat.zero_le _, Nat.zero_le _⟩ dX9_readLine_194 (fun H locs  S => ?_)
    exact g_retv hx hb hr hlk S hz dX9_readLine_197
  · have hz := ipf (c34) hz
    refine lv_aload_n hx hb dX9_readLine_181 rfl (lv_at hl 0 rfl) ?_
    obtain ⟨q37, e38, hz⟩ := bd hz
    refine g_callVv (As := []) (rest := []) F S (c_X9_layLine l G   _ e38) (cw_X9_readLine_X9_layLine_199 hg) (S.obj (by decide) (by decide) rfl (oc_X9 _ _ _ (by decide))) rfl hl.1 rfl (Nat.le_of_ble_eq_true rfl) ⟨Nat.zero_le _, Nat.zero_le _⟩ dX9_readLine_182 (fun H locs  S => ?_)
    refine lv_goto (tgt := 197) hx hb dX9_readLine_185 (by decide) ?_
    exact g_retv hx hb hr hlk S hz dX9_readLine_197
set_option maxHeartbeats 4000000 in
set_option maxRecDepth 100000 in
theorem w_X9_readLine_138 {p : Program} {l : Launch} {e : Env} {s : State} {m : MethodId} {args : Array Value} {below : List Frame} {meth : Method} {c : Code} {G : GG} (F : CallFix p m c cX9_readLine 1 s args (wsU yX9_readLine cX9_readLine 1 none) RX9) (hr : meth.sig.returnType = none) (hlk : meth.locks = false) {z : Unit × GW} : (∀ (t0 : Int32) (t1 : Nat) (ht1 : t1 < 34) (w : GW) (H : Heap) (locs : List Loc) (ls : Array Slot), St G w s H locs → lv_has ls 1 [(0, .ref (gad G 130))] → f_X9_readLine_138 t0 t1 w = some z → W p l e (headSpec (wsU yX9_readLine cX9_readLine 1 none) rm_X9_readLine).room s m args below meth c H locs 0 0 (MQ below (QV G z) args s 0 0 (gA G)) (F0 m 138 ls [.int t0, .ref (gK G t1), .ref (gad G 130)])) := by
  obtain ⟨hx, hb, hml, hown, hts⟩ := id F
  have hg : ∀ q ∈ lwg, q.before args s = true := fun q h => hts q (List.mem_cons_of_mem _ h)
  intro t0 t1 ht1 w H locs ls S hl hz
  rw [f_X9_readLine_138] at hz
  refine lv_iconst (v := 3) hx hb dX9_readLine_138 (by decide) ?_
  refine lv_iconst (v := 0) hx hb dX9_readLine_139 (by decide) ?_
  obtain ⟨q25, e26, hz⟩ := bd hz
  refine g_callVb (As := [.ref (gK G t1), .int t0, .int 3, .int 0]) (rest := []) F S (c_X9_begins l G t1 t0 3 0 ht1 _ e26) (cw_X9_readLine_X9_begins_170 hg) (S.obj (by decide) (by decide) rfl (oc_X9 _ _ _ (by decide))) rfl hl.1 rfl (Nat.le_of_ble_eq_true rfl) ⟨Nat.zero_le _, Nat.zero_le _⟩ dX9_readLine_140 (fun H locs hB27 S => ?_)
  refine lv_if_eq (tgt := 153) hx hb dX9_readLine_143 (by decide) (fun c28 => ?_) (fun c28 => ?_)
  · have hz := ipt (c28) hz
    refine lv_aload_n hx hb dX9_readLine_153 rfl (lv_at hl 0 rfl) ?_
    refine g_str 26 (by decide) hx hb S hown rfl dX9_readLine_154 ?_
    refine lv_aload_n hx hb dX9_readLine_156 rfl (lv_at hl 0 rfl) ?_
    refine fg_X9_16 hx hb (fun q h => hg q (tl_X9 q h)) hown (hg _ t_fl_X9_23) S (by decide) dX9_readLine_157 ?_
    refine lv_bipush (v := 39) hx hb dX9_readLine_160 (by decide) ?_
    obtain ⟨h29, hz⟩ := ck hz
    refine g_iald hx hb S (isA_15 (by decide)) h29 dX9_readLine_162 ?_
    refine lv_bipush (v := 8) hx hb dX9_readLine_163 (by decide) ?_
    refine lv_icmp_ge (tgt := 172) hx hb dX9_readLine_165 (by decide) (fun c30 => ?_) (fun c30 => ?_)
    · have hz := ipt (c30) hz
      refine lv_iconst (v := 0) hx hb dX9_readLine_172 (by decide) ?_
      exact w_X9_readLine_173 F hr hlk 0 26 (by decide) _ _ _ _ S (lv_sub hl [0] rfl) hz
    · have hz := ipf (c30) hz
      refine lv_iconst (v := 1) hx hb dX9_readLine_168 (by decide) ?_
      refine lv_goto (tgt := 173) hx hb dX9_readLine_169 (by decide) ?_
      exact w_X9_readLine_173 F hr hlk 1 26 (by decide) _ _ _ _ S (lv_sub hl [0] rfl) hz
  · have hz := ipf (c28) hz
    refine lv_aload_n hx hb dX9_readLine_146 rfl (lv_at hl 0 rfl) ?_
    obtain ⟨q39, e40, hz⟩ := bd hz
    refine g_callVv (As := []) (rest := []) F S (c_X9_movesLine l G   _ e40) (cw_X9_readLine_X9_movesLine_194 hg) (S.obj (by decide) (by decide) rfl (oc_X9 _ _ _ (by decide))) rfl hl.1 rfl (Nat.le_of_ble_eq_true rfl) ⟨Nat.zero_le _, Nat.zero_le _⟩ dX9_readLine_147 (fun H locs  S => ?_)
    refine lv_goto (tgt := 197) hx hb dX9_readLine_150 (by decide) ?_
    exact g_retv hx hb hr hlk S hz dX9_readLine_197
set_option maxHeartbeats 4000000 in
set_option maxRecDepth 100000 in
theorem w_X9_readLine_105 {p : Program} {l : Launch} {e : Env} {s : State} {m : MethodId} {args : Array Value} {below : List Frame} {meth : Method} {c : Code} {G : GG} (F : CallFix p m c cX9_readLine 1 s args (wsU yX9_readLine cX9_readLine 1 none) RX9) (hr : meth.sig.returnType = none) (hlk : meth.locks = false) {z : Unit × GW} : (∀ (t0 : Int32) (t1 : Nat) (ht1 : t1 < 34) (w : GW) (H : Heap) (locs : List Loc) (ls : Array Slot), St G w s H locs → lv_has ls 1 [(0, .ref (gad G 130))] → f_X9_readLine_105 t0 t1 w = some z → W p l e (headSpec (wsU yX9_readLine cX9_readLine 1 none) rm_X9_readLine).room s m args below meth c H locs 0 0 (MQ below (QV G z) args s 0 0 (gA G)) (F0 m 105 ls [.int t0, .ref (gK G t1), .ref (gad G 130)])) := by
  obtain ⟨hx, hb, hml, hown, hts⟩ := id F
  have hg : ∀ q ∈ lwg, q.before args s = true := fun q h => hts q (List.mem_cons_of_mem _ h)
  intro t0 t1 ht1 w H locs ls S hl hz
  rw [f_X9_readLine_105] at hz
  refine lv_iconst (v := 3) hx hb dX9_readLine_105 (by decide) ?_
  refine lv_iconst (v := 1) hx hb dX9_readLine_106 (by decide) ?_
  obtain ⟨q19, e20, hz⟩ := bd hz
  refine g_callVb (As := [.ref (gK G t1), .int t0, .int 3, .int 1]) (rest := []) F S (c_X9_begins l G t1 t0 3 1 ht1 _ e20) (cw_X9_readLine_X9_begins_170 hg) (S.obj (by decide) (by decide) rfl (oc_X9 _ _ _ (by decide))) rfl hl.1 rfl (Nat.le_of_ble_eq_true rfl) ⟨Nat.zero_le _, Nat.zero_le _⟩ dX9_readLine_107 (fun H locs hB21 S => ?_)
  refine lv_if_eq (tgt := 120) hx hb dX9_readLine_110 (by decide) (fun c22 => ?_) (fun c22 => ?_)
  · have hz := ipt (c22) hz
    refine lv_aload_n hx hb dX9_readLine_120 rfl (lv_at hl 0 rfl) ?_
    refine g_str 25 (by decide) hx hb S hown rfl dX9_readLine_121 ?_
    refine lv_aload_n hx hb dX9_readLine_123 rfl (lv_at hl 0 rfl) ?_
    refine fg_X9_16 hx hb (fun q h => hg q (tl_X9 q h)) hown (hg _ t_fl_X9_23) S (by decide) dX9_readLine_124 ?_
    refine lv_bipush (v := 38) hx hb dX9_readLine_127 (by decide) ?_
    obtain ⟨h23, hz⟩ := ck hz
    refine g_iald hx hb S (isA_15 (by decide)) h23 dX9_readLine_129 ?_
    refine lv_if_ne (tgt := 137) hx hb dX9_readLine_130 (by decide) (fun c24 => ?_) (fun c24 => ?_)
    · have hz := ipf (c24) hz
      refine lv_iconst (v := 0) hx hb dX9_readLine_137 (by decide) ?_
      exact w_X9_readLine_138 F hr hlk 0 25 (by decide) _ _ _ _ S (lv_sub hl [0] rfl) hz
    · have hz := ipt (c24) hz
      refine lv_iconst (v := 1) hx hb dX9_readLine_133 (by decide) ?_
      refine lv_goto (tgt := 138) hx hb dX9_readLine_134 (by decide) ?_
      exact w_X9_readLine_138 F hr hlk 1 25 (by decide) _ _ _ _ S (lv_sub hl [0] rfl) hz
  · have hz := ipf (c22) hz
    refine lv_aload_n hx hb dX9_readLine_113 rfl (lv_at hl 0 rfl) ?_
    obtain ⟨q41, e42, hz⟩ := bd hz
    refine g_callVv (As := []) (rest := []) F S (c_X9_doorLine l G   _ e42) (cw_X9_readLine_X9_doorLine_189 hg) (S.obj (by decide) (by decide) rfl (oc_X9 _ _ _ (by decide))) rfl hl.1 rfl (Nat.le_of_ble_eq_true rfl) ⟨Nat.zero_le _, Nat.zero_le _⟩ dX9_readLine_114 (fun H locs  S => ?_)
    refine lv_goto (tgt := 197) hx hb dX9_readLine_117 (by decide) ?_
    exact g_retv hx hb hr hlk S hz dX9_readLine_197
set_option maxHeartbeats 4000000 in
set_option maxRecDepth 100000 in
theorem w_X9_readLine_72 {p : Program} {l : Launch} {e : Env} {s : State} {m : MethodId} {args : Array Value} {below : List Frame} {meth : Method} {c : Code} {G : GG} (F : CallFix p m c cX9_readLine 1 s args (wsU yX9_readLine cX9_readLine 1 none) RX9) (hr : meth.sig.returnType = none) (hlk : meth.locks = false) {z : Unit × GW} : (∀ (t0 : Int32) (t1 : Nat) (ht1 : t1 < 34) (w : GW) (H : Heap) (locs : List Loc) (ls : Array Slot), St G w s H locs → lv_has ls 1 [(0, .ref (gad G 130))] → f_X9_readLine_72 t0 t1 w = some z → W p l e (headSpec (wsU yX9_readLine cX9_readLine 1 none) rm_X9_readLine).room s m args below meth c H locs 0 0 (MQ below (QV G z) args s 0 0 (gA G)) (F0 m 72 ls [.int t0, .ref (gK G t1), .ref (gad G 130)])) := by
  obtain ⟨hx, hb, hml, hown, hts⟩ := id F
  have hg : ∀ q ∈ lwg, q.before args s = true := fun q h => hts q (List.mem_cons_of_mem _ h)
  intro t0 t1 ht1 w H locs ls S hl hz
  rw [f_X9_readLine_72] at hz
  refine lv_iconst (v := 5) hx hb dX9_readLine_72 (by decide) ?_
  refine lv_iconst (v := 0) hx hb dX9_readLine_73 (by decide) ?_
  obtain ⟨q13, e14, hz⟩ := bd hz
  refine g_callVb (As := [.ref (gK G t1), .int t0, .int 5, .int 0]) (rest := []) F S (c_X9_begins l G t1 t0 5 0 ht1 _ e14) (cw_X9_readLine_X9_begins_170 hg) (S.obj (by decide) (by decide) rfl (oc_X9 _ _ _ (by decide))) rfl hl.1 rfl (Nat.le_of_ble_eq_true rfl) ⟨Nat.zero_le _, Nat.zero_le _⟩ dX9_readLine_74 (fun H locs hB15 S => ?_)
  refine lv_if_eq (tgt := 87) hx hb dX9_readLine_77 (by decide) (fun c16 => ?_) (fun c16 => ?_)
  · have hz := ipt (c16) hz
    refine lv_aload_n hx hb dX9_readLine_87 rfl (lv_at hl 0 rfl) ?_
    refine g_str 24 (by decide) hx hb S hown rfl dX9_readLine_88 ?_
    refine lv_aload_n hx hb dX9_readLine_90 rfl (lv_at hl 0 rfl) ?_
    refine fg_X9_16 hx hb (fun q h => hg q (tl_X9 q h)) hown (hg _ t_fl_X9_23) S (by decide) dX9_readLine_91 ?_
    refine lv_bipush (v := 37) hx hb dX9_readLine_94 (by decide) ?_
    obtain ⟨h17, hz⟩ := ck hz
    refine g_iald hx hb S (isA_15 (by decide)) h17 dX9_readLine_96 ?_
    refine lv_if_ne (tgt := 104) hx hb dX9_readLine_97 (by decide) (fun c18 => ?_) (fun c18 => ?_)
    · have hz := ipf (c18) hz
      refine lv_iconst (v := 0) hx hb dX9_readLine_104 (by decide) ?_
      exact w_X9_readLine_105 F hr hlk 0 24 (by decide) _ _ _ _ S (lv_sub hl [0] rfl) hz
    · have hz := ipt (c18) hz
      refine lv_iconst (v := 1) hx hb dX9_readLine_100 (by decide) ?_
      refine lv_goto (tgt := 105) hx hb dX9_readLine_101 (by decide) ?_
      exact w_X9_readLine_105 F hr hlk 1 24 (by decide) _ _ _ _ S (lv_sub hl [0] rfl) hz
  · have hz := ipf (c16) hz
    refine lv_aload_n hx hb dX9_readLine_80 rfl (lv_at hl 0 rfl) ?_
    obtain ⟨q43, e44, hz⟩ := bd hz
    refine g_callVv (As := []) (rest := []) F S (c_X9_porterLine l G   _ e44) (cw_X9_readLine_X9_porterLine_184 hg) (S.obj (by decide) (by decide) rfl (oc_X9 _ _ _ (by decide))) rfl hl.1 rfl (Nat.le_of_ble_eq_true rfl) ⟨Nat.zero_le _, Nat.zero_le _⟩ dX9_readLine_81 (fun H locs  S => ?_)
    refine lv_goto (tgt := 197) hx hb dX9_readLine_84 (by decide) ?_
    exact g_retv hx hb hr hlk S hz dX9_readLine_197
set_option maxHeartbeats 4000000 in
set_option maxRecDepth 100000 in
theorem w_X9_readLine_18 {p : Program} {l : Launch} {e : Env} {s : State} {m : MethodId} {args : Array Value} {below : List Frame} {meth : Method} {c : Code} {G : GG} (F : CallFix p m c cX9_readLine 1 s args (wsU yX9_readLine cX9_readLine 1 none) RX9) (hr : meth.sig.returnType = none) (hlk : meth.locks = false) {z : Unit × GW} : (∀ (t0 : Int32) (t1 : Nat) (ht1 : t1 < 34) (w : GW) (H : Heap) (locs : List Loc) (ls : Array Slot), St G w s H locs → lv_has ls 1 [(0, .ref (gad G 130))] → f_X9_readLine_18 t0 t1 w = some z → W p l e (headSpec (wsU yX9_readLine cX9_readLine 1 none) rm_X9_readLine).room s m args below meth c H locs 0 0 (MQ below (QV G z) args s 0 0 (gA G)) (F0 m 18 ls [.int t0, .ref (gK G t1), .ref (gad G 130)])) := by
  obtain ⟨hx, hb, hml, hown, hts⟩ := id F
  have hg : ∀ q ∈ lwg, q.before args s = true := fun q h => hts q (List.mem_cons_of_mem _ h)
  intro t0 t1 ht1 w H locs ls S hl hz
  rw [f_X9_readLine_18] at hz
  refine lv_iconst (v := 3) hx hb dX9_readLine_18 (by decide) ?_
  refine lv_iconst (v := 0) hx hb dX9_readLine_19 (by decide) ?_
  obtain ⟨q3, e4, hz⟩ := bd hz
  refine g_callVb (As := [.ref (gK G t1), .int t0, .int 3, .int 0]) (rest := []) F S (c_X9_begins l G t1 t0 3 0 ht1 _ e4) (cw_X9_readLine_X9_begins_170 hg) (S.obj (by decide) (by decide) rfl (oc_X9 _ _ _ (by decide))) rfl hl.1 rfl (Nat.le_of_ble_eq_true rfl) ⟨Nat.zero_le _, Nat.zero_le _⟩ dX9_readLine_20 (fun H locs hB5 S => ?_)
  refine lv_if_eq (tgt := 33) hx hb dX9_readLine_23 (by decide) (fun c6 => ?_) (fun c6 => ?_)
  · have hz := ipt (c6) hz
    refine lv_aload_n hx hb dX9_readLine_33 rfl (lv_at hl 0 rfl) ?_
    refine g_str 20 (by decide) hx hb S hown rfl dX9_readLine_34 ?_
    refine lv_iconst (v := 1) hx hb dX9_readLine_36 (by decide) ?_
    refine lv_iconst (v := 1) hx hb dX9_readLine_37 (by decide) ?_
    refine lv_iconst (v := 1) hx hb dX9_readLine_38 (by decide) ?_
    obtain ⟨q7, e8, hz⟩ := bd hz
    refine g_callVb (As := [.ref (gK G 20), .int 1, .int 1, .int 1]) (rest := []) F S (c_X9_begins l G 20 1 1 1 (by decide) _ e8) (cw_X9_readLine_X9_begins_170 hg) (S.obj (by decide) (by decide) rfl (oc_X9 _ _ _ (by decide))) rfl hl.1 rfl (Nat.le_of_ble_eq_true rfl) ⟨Nat.zero_le _, Nat.zero_le _⟩ dX9_readLine_39 (fun H locs hB9 S => ?_)
    refine lv_if_eq (tgt := 52) hx hb dX9_readLine_42 (by decide) (fun c10 => ?_) (fun c10 => ?_)
    · have hz := ipt (c10) hz
      refine lv_aload_n hx hb dX9_readLine_52 rfl (lv_at hl 0 rfl) ?_
      refine g_str 23 (by decide) hx hb S hown rfl dX9_readLine_53 ?_
      refine lv_aload_n hx hb dX9_readLine_55 rfl (lv_at hl 0 rfl) ?_
      refine fg_X9_16 hx hb (fun q h => hg q (tl_X9 q h)) hown (hg _ t_fl_X9_23) S (by decide) dX9_readLine_56 ?_
      refine lv_bipush (v := 17) hx hb dX9_readLine_59 (by decide) ?_
      obtain ⟨h11, hz⟩ := ck hz
      refine g_iald hx hb S (isA_15 (by decide)) h11 dX9_readLine_61 ?_
      refine lv_bipush (v := 6) hx hb dX9_readLine_62 (by decide) ?_
      refine lv_icmp_ge (tgt := 71) hx hb dX9_readLine_64 (by decide) (fun c12 => ?_) (fun c12 => ?_)
      · have hz := ipt (c12) hz
        refine lv_iconst (v := 0) hx hb dX9_readLine_71 (by decide) ?_
        exact w_X9_readLine_72 F hr hlk 0 23 (by decide) _ _ _ _ S (lv_sub hl [0] rfl) hz
      · have hz := ipf (c12) hz
        refine lv_iconst (v := 1) hx hb dX9_readLine_67 (by decide) ?_
        refine lv_goto (tgt := 72) hx hb dX9_readLine_68 (by decide) ?_
        exact w_X9_readLine_72 F hr hlk 1 23 (by decide) _ _ _ _ S (lv_sub hl [0] rfl) hz
    · have hz := ipf (c10) hz
      refine lv_aload_n hx hb dX9_readLine_45 rfl (lv_at hl 0 rfl) ?_
      obtain ⟨q45, e46, hz⟩ := bd hz
      refine g_callVv (As := []) (rest := []) F S (c_X9_boxLine l G   _ e46) (cw_X9_readLine_X9_boxLine_179 hg) (S.obj (by decide) (by decide) rfl (oc_X9 _ _ _ (by decide))) rfl hl.1 rfl (Nat.le_of_ble_eq_true rfl) ⟨Nat.zero_le _, Nat.zero_le _⟩ dX9_readLine_46 (fun H locs  S => ?_)
      refine lv_goto (tgt := 197) hx hb dX9_readLine_49 (by decide) ?_
      exact g_retv hx hb hr hlk S hz dX9_readLine_197
  · have hz := ipf (c6) hz
    refine lv_aload_n hx hb dX9_readLine_26 rfl (lv_at hl 0 rfl) ?_
    obtain ⟨q47, e48, hz⟩ := bd hz
    refine g_callVv (As := []) (rest := []) F S (c_X9_hallLine l G   _ e48) (cw_X9_readLine_X9_hallLine_174 hg) (S.obj (by decide) (by decide) rfl (oc_X9 _ _ _ (by decide))) rfl hl.1 rfl (Nat.le_of_ble_eq_true rfl) ⟨Nat.zero_le _, Nat.zero_le _⟩ dX9_readLine_27 (fun H locs  S => ?_)
    refine lv_goto (tgt := 197) hx hb dX9_readLine_30 (by decide) ?_
    exact g_retv hx hb hr hlk S hz dX9_readLine_197
set_option maxHeartbeats 4000000 in
set_option maxRecDepth 100000 in
theorem c_X9_readLine (l : Launch) (G : GG)   (w : GW) {z : Unit × GW} (hz : f_X9_readLine  w = some z) : Met l yX9_readLine (wsU yX9_readLine cX9_readLine 1 none) rm_X9_readLine (va_Pc [.ref (gad G 130)] (PreG G w)) (QV G z) 0 0 (gA G) := by
  refine Met.ofW (cc := cX9_readLine) (maxL := 1) (ret := none) (by decide) rfl ?_
  intro p e s m args below meth c s₁ B hml hv
  obtain ⟨rfl, S⟩ := hv
  have F : CallFix p m c cX9_readLine 1 s _ (wsU yX9_readLine cX9_readLine 1 none) RX9 := ⟨B.exec, B.bytes, hml, findClass_of_methodNamed B.named, atoms_spec B.pre⟩
  have hr := B.returns
  have hlk := B.notSynchronized
  obtain ⟨hx, hb, -, hown, hts⟩ := id F
  have hg : ∀ q ∈ lwg, q.before _ s = true := fun q h => hts q (List.mem_cons_of_mem _ h)
  refine g_entry (Nat.le_of_ble_eq_true rfl) (fun ls hl => ?_)
  have hl : lv_has ls 1 [(0, .ref (gad G 130))] := hl
  have S : St G w s s.heap [] := S
  generalize s.heap = H at S ⊢
  generalize ([] : List Loc) = locs at S ⊢
  rw [f_X9_readLine] at hz
  refine lv_aload_n hx hb dX9_readLine_0 rfl (lv_at hl 0 rfl) ?_
  refine g_str 17 (by decide) hx hb S hown rfl dX9_readLine_1 ?_
  refine lv_aload_n hx hb dX9_readLine_3 rfl (lv_at hl 0 rfl) ?_
  refine fg_X9_16 hx hb (fun q h => hg q (tl_X9 q h)) hown (hg _ t_fl_X9_23) S (by decide) dX9_readLine_4 ?_
  refine lv_bipush (v := 80) hx hb dX9_readLine_7 (by decide) ?_
  obtain ⟨h1, hz⟩ := ck hz
  refine g_iald hx hb S (isA_15 (by decide)) h1 dX9_readLine_9 ?_
  refine lv_if_ne (tgt := 17) hx hb dX9_readLine_10 (by decide) (fun c2 => ?_) (fun c2 => ?_)
  · have hz := ipf (c2) hz
    refine lv_iconst (v := 0) hx hb dX9_readLine_17 (by decide) ?_
    exact w_X9_readLine_18 F hr hlk 0 17 (by decide) _ _ _ _ S (lv_sub hl [0] rfl) hz
  · have hz := ipt (c2) hz
    refine lv_iconst (v := 1) hx hb dX9_readLine_13 (by decide) ?_
    refine lv_goto (tgt := 18) hx hb dX9_readLine_14 (by decide) ?_
    exact w_X9_readLine_18 F hr hlk 1 17 (by decide) _ _ _ _ S (lv_sub hl [0] rfl) hz
noncomputable def f_X9_begin_2  : Nat → Int32 → Int32 → Int32 → GW → Option (Unit × GW)
  | 0, _, _, _, _ => none
  | n9 + 1, x1, x2, x3, w =>
    if 9 ≤ x3 then
      if inb 5 9 then
      if inb 7 9 then
      if inb 8 9 then
      some ((), (sI (sI (sI w 135 (ix 5) x1) 135 (ix 7) (-2)) 135 (ix 8) x2))
      else none
      else none
      else none
    else
      if inb x3 9 then
      f_X9_begin_2 n9 x1 x2 (x3 + 1) (sI w 135 (ix x3) 0)
      else none
noncomputable def f_X9_begin (x1 : Int32) (x2 : Int32) (w : GW) : Option (Unit × GW) :=
  f_X9_begin_2 fu x1 x2 0 w
set_option maxHeartbeats 4000000 in
set_option maxRecDepth 100000 in
theorem w_X9_begin_2 {p : Program} {l : Launch} {e : Env} {s : State} {m : MethodId} {args : Array Value} {below : List Frame} {meth : Method} {c : Code} {G : GG} (F : CallFix p m c cX9_begin 4 s args (wsU yX9_begin cX9_begin 4 none) RX9) (hr : meth.sig.returnType = none) (hlk : meth.locks = false) {z : Unit × GW} : ∀ (n9 : Nat), (∀ (x1 : Int32) (x2 : Int32) (x3 : Int32) (w : GW) (H : Heap) (locs : List Loc) (ls : Array Slot), St G w s H locs → lv_has ls 4 [(0, .ref (gad G 130)), (1, .int x1), (2, .int x2), (3, .int x3)] → f_X9_begin_2 n9 x1 x2 x3 w = some z → W p l e (headSpec (wsU yX9_begin cX9_begin 4 none) rm_X9_begin).room s m args below meth c H locs 0 0 (MQ below (QV G z) args s 0 0 (gA G)) (F0 m 2 ls [])) := by
  obtain ⟨hx, hb, hml, hown, hts⟩ := id F
  have hg : ∀ q ∈ lwg, q.before args s = true := fun q h => hts q (List.mem_cons_of_mem _ h)
  intro n9
  induction n9 with
  | zero =>
    intro x1 x2 x3 w H locs ls S hl hz
    rw [f_X9_begin_2] at hz
    cases hz
  | succ n9 ih =>
    intro x1 x2 x3 w H locs ls S hl hz
    rw [f_X9_begin_2] at hz
    refine lv_iload_n hx hb dX9_begin_2 rfl (lv_at hl 3 rfl) ?_
    refine lv_bipush (v := 9) hx hb dX9_begin_3 (by decide) ?_
    refine lv_icmp_ge (tgt := 21) hx hb dX9_begin_5 (by decide) (fun c1 => ?_) (fun c1 => ?_)
    · have hz := ipt (c1) hz
      refine lv_aload_n hx hb dX9_begin_21 rfl (lv_at hl 0 rfl) ?_
      refine fg_X9_17 hx hb (fun q h => hg q (tl_X9 q h)) hown (hg _ t_fl_X9_26) S (by decide) dX9_begin_22 ?_
      refine lv_iconst (v := 5) hx hb dX9_begin_25 (by decide) ?_
      refine lv_iload_n hx hb dX9_begin_26 rfl (lv_at hl 1 rfl) ?_
      obtain ⟨h2, hz⟩ := ck hz
      refine g_iast (x := x1) hx hb S (isA_16 (by decide)) h2 dX9_begin_27 (fun H locs S => ?_)
      refine lv_aload_n hx hb dX9_begin_28 rfl (lv_at hl 0 rfl) ?_
      refine fg_X9_17 hx hb (fun q h => hg q (tl_X9 q h)) hown (hg _ t_fl_X9_26) S (by decide) dX9_begin_29 ?_
      refine lv_bipush (v := 7) hx hb dX9_begin_32 (by decide) ?_
      refine lv_bipush (v := (-2)) hx hb dX9_begin_34 (by decide) ?_
      obtain ⟨h3, hz⟩ := ck hz
      refine g_iast (x := (-2)) hx hb S (isA_16 (by decide)) h3 dX9_begin_36 (fun H locs S => ?_)
      refine lv_aload_n hx hb dX9_begin_37 rfl (lv_at hl 0 rfl) ?_
      refine fg_X9_17 hx hb (fun q h => hg q (tl_X9 q h)) hown (hg _ t_fl_X9_26) S (by decide) dX9_begin_38 ?_
      refine lv_bipush (v := 8) hx hb dX9_begin_41 (by decide) ?_
      refine lv_iload_n hx hb dX9_begin_43 rfl (lv_at hl 2 rfl) ?_
      obtain ⟨h4, hz⟩ := ck hz
      refine g_iast (x := x2) hx hb S (isA_16 (by decide)) h4 dX9_begin_44 (fun H locs S => ?_)
      exact g_retv hx hb hr hlk S hz dX9_begin_45
    · have hz := ipf (c1) hz
      refine lv_aload_n hx hb dX9_begin_8 rfl (lv_at hl 0 rfl) ?_
      refine fg_X9_17 hx hb (fun q h => hg q (tl_X9 q h)) hown (hg _ t_fl_X9_26) S (by decide) dX9_begin_9 ?_
      refine lv_iload_n hx hb dX9_begin_12 rfl (lv_at hl 3 rfl) ?_
      refine lv_iconst (v := 0) hx hb dX9_begin_13 (by decide) ?_
      obtain ⟨h5, hz⟩ := ck hz
      refine g_iast (x := 0) hx hb S (isA_16 (by decide)) h5 dX9_begin_14 (fun H locs S => ?_)
      refine lv_iinc (v := (x3 + 1)) (lv' := [(3, .int (x3 + 1)), (0, .ref (gad G 130)), (1, .int x1), (2, .int x2)]) hx hb dX9_begin_15 hl (k := 3) rfl rfl (by decide) rfl (fun ls hl => ?_)
      refine lv_goto (tgt := 2) hx hb dX9_begin_18 (by decide) ?_
      exact ih x1 x2 (x3 + 1)  _ _ _ _ S (lv_sub hl [1, 2, 3, 0] rfl) hz
set_option maxHeartbeats 4000000 in
set_option maxRecDepth 100000 in
theorem c_X9_begin (l : Launch) (G : GG) (x1 : Int32) (x2 : Int32)  (w : GW) {z : Unit × GW} (hz : f_X9_begin x1 x2 w = some z) : Met l yX9_begin (wsU yX9_begin cX9_begin 4 none) rm_X9_begin (va_Pc [.ref (gad G 130), .int x1, .int x2] (PreG G w)) (QV G z) 0 0 (gA G) := by
  refine Met.ofW (cc := cX9_begin) (maxL := 4) (ret := none) (by decide) rfl ?_
  intro p e s m args below meth c s₁ B hml hv
  obtain ⟨rfl, S⟩ := hv
  have F : CallFix p m c cX9_begin 4 s _ (wsU yX9_begin cX9_begin 4 none) RX9 := ⟨B.exec, B.bytes, hml, findClass_of_methodNamed B.named, atoms_spec B.pre⟩
  have hr := B.returns
  have hlk := B.notSynchronized
  obtain ⟨hx, hb, -, hown, hts⟩ := id F
  have hg : ∀ q ∈ lwg, q.before _ s = true := fun q h => hts q (List.mem_cons_of_mem _ h)
  refine g_entry (Nat.le_of_ble_eq_true rfl) (fun ls hl => ?_)
  have hl : lv_has ls 4 [(0, .ref (gad G 130)), (1, .int x1), (2, .int x2)] := hl
  have S : St G w s s.heap [] := S
  generalize s.heap = H at S ⊢
  generalize ([] : List Loc) = locs at S ⊢
  rw [f_X9_begin] at hz
  refine lv_iconst (v := 0) hx hb dX9_begin_0 (by decide) ?_
  refine lv_istore_n (lv' := [(3, .int 0), (0, .ref (gad G 130)), (1, .int x1), (2, .int x2)]) hx hb dX9_begin_1 rfl hl (by decide) rfl (fun ls hl => ?_)
  exact w_X9_begin_2 F hr hlk fu x1 x2 0 _ _ _ _ S (lv_sub hl [1, 2, 3, 0] rfl) hz
noncomputable def f_X9_hall_212  : Nat → Int32 → GW → Option (Int32 × GW)
  | 0, _, _ => none
  | n9 + 1, x2, w =>
    if 135 ≤ x2 then
      (f_X9_begin 0 0 (sI (sI w 130 14 1) 130 19 0)).bind fun q18 =>
      if inb 17 135 then
      some ((gI q18.2 133 (ix 17)), q18.2)
      else none
    else
      if inb x2 135 then
      if inb x2 135 then
      f_X9_hall_212 n9 (x2 + 1) (sI w 133 (ix x2) (gI w 134 (ix x2)))
      else none
      else none
noncomputable def f_X9_hall_197   (w : GW) : Option (Int32 × GW) :=
  if (gI w 130 13) = 0 then
    f_X9_hall_212 fu 0 w
  else
    (f_X9_no 4 w).bind fun q23 =>
    some (q23.1, q23.2)
noncomputable def f_X9_hall_187   (w : GW) : Option (Int32 × GW) :=
  (f_X9_wrong 6 (gI w 130 4) w).bind fun q27 =>
  f_X9_hall_197 q27.2
noncomputable def f_X9_hall_160   (w : GW) : Option (Int32 × GW) :=
  if (gI w 130 13) = 0 then
    if inb 80 135 then
    if (gI w 134 (ix 80)) = 0 then
      f_X9_hall_187 w
    else
      if inb 17 135 then
      if (gI w 134 (ix 17)) = 0 then
        f_X9_hall_187 w
      else
        f_X9_hall_197 w
      else none
    else none
  else
    f_X9_hall_197 w
noncomputable def f_X9_hall_137   (w : GW) : Option (Int32 × GW) :=
  if (gI w 130 13) = 0 then
    if (gI w 130 6) = 0 then
      f_X9_hall_160 w
    else
      (f_X9_wrong 1 (gI w 130 4) w).bind fun q32 =>
      f_X9_hall_160 q32.2
  else
    f_X9_hall_160 w
noncomputable def f_X9_hall_110  : Nat → GW → Option (Int32 × GW)
  | 0, _ => none
  | n9 + 1, w =>
    if (gI w 130 13) = 0 then
      if (gI w 130 6) = 59 then
        (f_X9_next w).bind fun q35 =>
        (f_X9_readLine q35.2).bind fun q37 =>
        f_X9_hall_110 n9  q37.2
      else
        f_X9_hall_137 w
    else
      f_X9_hall_137 w
noncomputable def f_X9_hall_61  : Nat → Int32 → Int32 → GW → Option (Int32 × GW)
  | 0, _, _, _ => none
  | n9 + 1, x1, x2, w =>
    if 5 ≤ x2 then
      (f_X9_next (sI (sI w 130 3 x1) 130 5 0)).bind fun q9 =>
      (f_X9_readLine q9.2).bind fun q11 =>
      f_X9_hall_110 fu q11.2
    else
      if inb (2 + x2) 135 then
      if inb (7 + x2) 135 then
      f_X9_hall_61 n9 x1 (x2 + 1) (sI (sI w 134 (ix (2 + x2)) 8) 134 (ix (7 + x2)) 1)
      else none
      else none
noncomputable def f_X9_hall_39  : Nat → Int32 → Int32 → GW → Option (Int32 × GW)
  | 0, _, _, _ => none
  | n9 + 1, x1, x2, w =>
    if 135 ≤ x2 then
      f_X9_hall_61 fu x1 0 w
    else
      if inb x2 135 then
      f_X9_hall_39 n9 x1 (x2 + 1) (sI w 134 (ix x2) 0)
      else none
noncomputable def f_X9_hall (x1 : Int32) (w : GW) : Option (Int32 × GW) :=
  (f_X9_good w).bind fun q1 =>
  (f_X9_within x1 0 (gI q1.2 130 2) q1.2).bind fun q3 =>
  if q3.1 = 0 then
    (f_X9_no 2 q3.2).bind fun q42 =>
    some (q42.1, q42.2)
  else
    f_X9_hall_39 fu x1 0 (sI (sI (sI q3.2 130 2 0) 130 9 0) 130 13 0)
set_option maxHeartbeats 4000000 in
set_option maxRecDepth 100000 in
theorem w_X9_hall_212 {p : Program} {l : Launch} {e : Env} {s : State} {m : MethodId} {args : Array Value} {below : List Frame} {meth : Method} {c : Code} {G : GG} (F : CallFix p m c cX9_hall 3 s args (wsU yX9_hall cX9_hall 3 (some .int)) RX9) (hr : meth.sig.returnType = (some .int)) (hlk : meth.locks = false) {z : Int32 × GW} : ∀ (n9 : Nat), (∀ (x2 : Int32) (w : GW) (H : Heap) (locs : List Loc) (ls : Array Slot), St G w s H locs → lv_has ls 3 [(0, .ref (gad G 130)), (2, .int x2)] → f_X9_hall_212 n9 x2 w = some z → W p l e (headSpec (wsU yX9_hall cX9_hall 3 (some .int)) rm_X9_hall).room s m args below meth c H locs 0 0 (MQ below (QI G z) args s 0 0 (gA G)) (F0 m 212 ls [])) := by
  obtain ⟨hx, hb, hml, hown, hts⟩ := id F
  have hg : ∀ q ∈ lwg, q.before args s = true := fun q h => hts q (List.mem_cons_of_mem _ h)
  intro n9
  induction n9 with
  | zero =>
    intro x2 w H locs ls S hl hz
    rw [f_X9_hall_212] at hz
    cases hz
  | succ n9 ih =>
    intro x2 w H locs ls S hl hz
    rw [f_X9_hall_212] at hz
    refine lv_iload_n hx hb dX9_hall_212 rfl (lv_at hl 1 rfl) ?_
    refine lv_sipush (v := 135) hx hb dX9_hall_213 (by decide) ?_
    refine lv_icmp_ge (tgt := 237) hx hb dX9_hall_216 (by decide) (fun c17 => ?_) (fun c17 => ?_)
    · have hz := ipt (c17) hz
      refine lv_aload_n hx hb dX9_hall_237 rfl (lv_at hl 0 rfl) ?_
      refine lv_iconst (v := 1) hx hb dX9_hall_238 (by decide) ?_
      refine fp_X9_14 (v := 1) hx hb (fun q h => hg q (tl_X9 q h)) hown (hg _ t_fl_X9_159) S (by decide) isB_1 dX9_hall_239 (fun H locs S => ?_)
      refine lv_aload_n hx hb dX9_hall_242 rfl (lv_at hl 0 rfl) ?_
      refine lv_iconst (v := 0) hx hb dX9_hall_243 (by decide) ?_
      refine fp_X9_19 (v := 0) hx hb (fun q h => hg q (tl_X9 q h)) hown (hg _ t_fl_X9_162) S (by decide) dX9_hall_244 (fun H locs S => ?_)
      refine lv_aload_n hx hb dX9_hall_247 rfl (lv_at hl 0 rfl) ?_
      refine lv_iconst (v := 0) hx hb dX9_hall_248 (by decide) ?_
      refine lv_iconst (v := 0) hx hb dX9_hall_249 (by decide) ?_
      obtain ⟨q18, e19, hz⟩ := bd hz
      refine g_callVv (As := [.int 0, .int 0]) (rest := []) F S (c_X9_begin l G 0 0  _ e19) (cw_X9_hall_X9_begin_165 hg) (S.obj (by decide) (by decide) rfl (oc_X9 _ _ _ (by decide))) rfl hl.1 rfl (Nat.le_of_ble_eq_true rfl) ⟨Nat.zero_le _, Nat.zero_le _⟩ dX9_hall_250 (fun H locs  S => ?_)
      refine lv_aload_n hx hb dX9_hall_253 rfl (lv_at hl 0 rfl) ?_
      refine fg_X9_15 hx hb (fun q h => hg q (tl_X9 q h)) hown (hg _ t_fl_X9_20) S (by decide) dX9_hall_254 ?_
      refine lv_bipush (v := 17) hx hb dX9_hall_257 (by decide) ?_
      obtain ⟨h20, hz⟩ := ck hz
      refine g_iald hx hb S (isA_15 (by decide)) h20 dX9_hall_259 ?_
      exact g_reti hx hb hr hlk S hz dX9_hall_260
    · have hz := ipf (c17) hz
      refine lv_aload_n hx hb dX9_hall_219 rfl (lv_at hl 0 rfl) ?_
      refine fg_X9_15 hx hb (fun q h => hg q (tl_X9 q h)) hown (hg _ t_fl_X9_20) S (by decide) dX9_hall_220 ?_
      refine lv_iload_n hx hb dX9_hall_223 rfl (lv_at hl 1 rfl) ?_
      refine lv_aload_n hx hb dX9_hall_224 rfl (lv_at hl 0 rfl) ?_
      refine fg_X9_16 hx hb (fun q h => hg q (tl_X9 q h)) hown (hg _ t_fl_X9_23) S (by decide) dX9_hall_225 ?_
      refine lv_iload_n hx hb dX9_hall_228 rfl (lv_at hl 1 rfl) ?_
      obtain ⟨h21, hz⟩ := ck hz
      refine g_iald hx hb S (isA_15 (by decide)) h21 dX9_hall_229 ?_
      obtain ⟨h22, hz⟩ := ck hz
      refine g_iast (x := (gI w 134 (ix x2))) hx hb S (isA_15 (by decide)) h22 dX9_hall_230 (fun H locs S => ?_)
      refine lv_iinc (v := (x2 + 1)) (lv' := [(2, .int (x2 + 1)), (0, .ref (gad G 130))]) hx hb dX9_hall_231 hl (k := 1) rfl rfl (by decide) rfl (fun ls hl => ?_)
      refine lv_goto (tgt := 212) hx hb dX9_hall_234 (by decide) ?_
      exact ih (x2 + 1)  _ _ _ _ S (lv_sub hl [1, 0] rfl) hz
set_option maxHeartbeats 4000000 in
set_option maxRecDepth 100000 in
theorem w_X9_hall_197 {p : Program} {l : Launch} {e : Env} {s : State} {m : MethodId} {args : Array Value} {below : List Frame} {meth : Method} {c : Code} {G : GG} (F : CallFix p m c cX9_hall 3 s args (wsU yX9_hall cX9_hall 3 (some .int)) RX9) (hr : meth.sig.returnType = (some .int)) (hlk : meth.locks = false) {z : Int32 × GW} : (∀ (w : GW) (H : Heap) (locs : List Loc) (ls : Array Slot), St G w s H locs → lv_has ls 3 [(0, .ref (gad G 130))] → f_X9_hall_197  w = some z → W p l e (headSpec (wsU yX9_hall cX9_hall 3 (some .int)) rm_X9_hall).room s m args below meth c H locs 0 0 (MQ below (QI G z) args s 0 0 (gA G)) (F0 m 197 ls [])) := by
  obtain ⟨hx, hb, hml, hown, hts⟩ := id F
  have hg : ∀ q ∈ lwg, q.before args s = true := fun q h => hts q (List.mem_cons_of_mem _ h)
  intro w H locs ls S hl hz
  rw [f_X9_hall_197] at hz
  refine lv_aload_n hx hb dX9_hall_197 rfl (lv_at hl 0 rfl) ?_
  refine fg_X9_13 hx hb (fun q h => hg q (tl_X9 q h)) hown (hg _ t_fl_X9_107) S (by decide) dX9_hall_198 ?_
  refine lv_if_eq (tgt := 210) hx hb dX9_hall_201 (by decide) (fun c16 => ?_) (fun c16 => ?_)
  · have hz := ipt (c16) hz
    refine lv_iconst (v := 0) hx hb dX9_hall_210 (by decide) ?_
    refine lv_istore_n (lv' := [(2, .int 0), (0, .ref (gad G 130))]) hx hb dX9_hall_211 rfl hl (by decide) rfl (fun ls hl => ?_)
    exact w_X9_hall_212 F hr hlk fu 0 _ _ _ _ S (lv_sub hl [1, 0] rfl) hz
  · have hz := ipf (c16) hz
    refine lv_aload_n hx hb dX9_hall_204 rfl (lv_at hl 0 rfl) ?_
    refine lv_iconst (v := 4) hx hb dX9_hall_205 (by decide) ?_
    obtain ⟨q23, e24, hz⟩ := bd hz
    refine g_callVi (As := [.int 4]) (rest := []) F S (c_X9_no l G 4  _ e24) (cw_X9_hall_X9_no_153 hg) (S.obj (by decide) (by decide) rfl (oc_X9 _ _ _ (by decide))) rfl hl.1 rfl (Nat.le_of_ble_eq_true rfl) ⟨Nat.zero_le _, Nat.zero_le _⟩ dX9_hall_206 (fun H locs  S => ?_)
    exact g_reti hx hb hr hlk S hz dX9_hall_209
set_option maxHeartbeats 4000000 in
set_option maxRecDepth 100000 in
theorem w_X9_hall_187 {p : Program} {l : Launch} {e : Env} {s : State} {m : MethodId} {args : Array Value} {below : List Frame} {meth : Method} {c : Code} {G : GG} (F : CallFix p m c cX9_hall 3 s args (wsU yX9_hall cX9_hall 3 (some .int)) RX9) (hr : meth.sig.returnType = (some .int)) (hlk : meth.locks = false) {z : Int32 × GW} : (∀ (w : GW) (H : Heap) (locs : List Loc) (ls : Array Slot), St G w s H locs → lv_has ls 3 [(0, .ref (gad G 130))] → f_X9_hall_187  w = some z → W p l e (headSpec (wsU yX9_hall cX9_hall 3 (some .int)) rm_X9_hall).room s m args below meth c H locs 0 0 (MQ below (QI G z) args s 0 0 (gA G)) (F0 m 187 ls [])) := by
  obtain ⟨hx, hb, hml, hown, hts⟩ := id F
  have hg : ∀ q ∈ lwg, q.before args s = true := fun q h => hts q (List.mem_cons_of_mem _ h)
  intro w H locs ls S hl hz
  rw [f_X9_hall_187] at hz
  refine lv_aload_n hx hb dX9_hall_187 rfl (lv_at hl 0 rfl) ?_
  refine lv_bipush (v := 6) hx hb dX9_hall_188 (by decide) ?_
  refine lv_aload_n hx hb dX9_hall_190 rfl (lv_at hl 0 rfl) ?_
  refine fg_X9_4 hx hb (fun q h => hg q (tl_X9 q h)) hown (hg _ t_fl_X9_88) S (by decide) dX9_hall_191 ?_
  obtain ⟨q27, e28, hz⟩ := bd hz
  refine g_callVv (As := [.int 6, .int (gI w 130 4)]) (rest := []) F S (c_X9_wrong l G 6 (gI w 130 4)  _ e28) (cw_X9_hall_X9_wrong_134 hg) (S.obj (by decide) (by decide) rfl (oc_X9 _ _ _ (by decide))) rfl hl.1 rfl (Nat.le_of_ble_eq_true rfl) ⟨Nat.zero_le _, Nat.zero_le _⟩ dX9_hall_194 (fun H locs  S => ?_)
  exact w_X9_hall_197 F hr hlk _ _ _ _ S (lv_sub hl [0] rfl) hz
set_option maxHeartbeats 4000000 in
set_option maxRecDepth 100000 in
theorem w_X9_hall_160 {p : Program} {l : Launch} {e : Env} {s : State} {m : MethodId} {args : Array Value} {below : List Frame} {meth : Method} {c : Code} {G : GG} (F : CallFix p m c cX9_hall 3 s args (wsU yX9_hall cX9_hall 3 (some .int)) RX9) (hr : meth.sig.returnType = (some .int)) (hlk : meth.locks = false) {z : Int32 × GW} : (∀ (w : GW) (H : Heap) (locs : List Loc) (ls : Array Slot), St G w s H locs → lv_has ls 3 [(0, .ref (gad G 130))] → f_X9_hall_160  w = some z → W p l e (headSpec (wsU yX9_hall cX9_hall 3 (some .int)) rm_X9_hall).room s m args below meth c H locs 0 0 (MQ below (QI G z) args s 0 0 (gA G)) (F0 m 160 ls [])) := by
  obtain ⟨hx, hb, hml, hown, hts⟩ := id F
  have hg : ∀ q ∈ lwg, q.before args s = true := fun q h => hts q (List.mem_cons_of_mem _ h)
  intro w H locs ls S hl hz
  rw [f_X9_hall_160] at hz
  refine lv_aload_n hx hb dX9_hall_160 rfl (lv_at hl 0 rfl) ?_
  refine fg_X9_13 hx hb (fun q h => hg q (tl_X9 q h)) hown (hg _ t_fl_X9_107) S (by decide) dX9_hall_161 ?_
  refine lv_if_ne (tgt := 197) hx hb dX9_hall_164 (by decide) (fun c15 => ?_) (fun c15 => ?_)
  · have hz := ipf (c15) hz
    exact w_X9_hall_197 F hr hlk _ _ _ _ S (lv_sub hl [0] rfl) hz
  · have hz := ipt (c15) hz
    refine lv_aload_n hx hb dX9_hall_167 rfl (lv_at hl 0 rfl) ?_
    refine fg_X9_16 hx hb (fun q h => hg q (tl_X9 q h)) hown (hg _ t_fl_X9_23) S (by decide) dX9_hall_168 ?_
    refine lv_bipush (v := 80) hx hb dX9_hall_171 (by decide) ?_
    obtain ⟨h25, hz⟩ := ck hz
    refine g_iald hx hb S (isA_15 (by decide)) h25 dX9_hall_173 ?_
    refine lv_if_eq (tgt := 187) hx hb dX9_hall_174 (by decide) (fun c26 => ?_) (fun c26 => ?_)
    · have hz := ipt (c26) hz
      exact w_X9_hall_187 F hr hlk _ _ _ _ S (lv_sub hl [0] rfl) hz
    · have hz := ipf (c26) hz
      refine lv_aload_n hx hb dX9_hall_177 rfl (lv_at hl 0 rfl) ?_
      refine fg_X9_16 hx hb (fun q h => hg q (tl_X9 q h)) hown (hg _ t_fl_X9_23) S (by decide) dX9_hall_178 ?_
      refine lv_bipush (v := 17) hx hb dX9_hall_181 (by decide) ?_
      obtain ⟨h29, hz⟩ := ck hz
      refine g_iald hx hb S (isA_15 (by decide)) h29 dX9_hall_183 ?_
      refine lv_if_ne (tgt := 197) hx hb dX9_hall_184 (by decide) (fun c30 => ?_) (fun c30 => ?_)
      · have hz := ipf (c30) hz
        exact w_X9_hall_197 F hr hlk _ _ _ _ S (lv_sub hl [0] rfl) hz
      · have hz := ipt (c30) hz
        exact w_X9_hall_187 F hr hlk _ _ _ _ S (lv_sub hl [0] rfl) hz
set_option maxHeartbeats 4000000 in
set_option maxRecDepth 100000 in
theorem w_X9_hall_137 {p : Program} {l : Launch} {e : Env} {s : State} {m : MethodId} {args : Array Value} {below : List Frame} {meth : Method} {c : Code} {G : GG} (F : CallFix p m c cX9_hall 3 s args (wsU yX9_hall cX9_hall 3 (some .int)) RX9) (hr : meth.sig.returnType = (some .int)) (hlk : meth.locks = false) {z : Int32 × GW} : (∀ (w : GW) (H : Heap) (locs : List Loc) (ls : Array Slot), St G w s H locs → lv_has ls 3 [(0, .ref (gad G 130))] → f_X9_hall_137  w = some z → W p l e (headSpec (wsU yX9_hall cX9_hall 3 (some .int)) rm_X9_hall).room s m args below meth c H locs 0 0 (MQ below (QI G z) args s 0 0 (gA G)) (F0 m 137 ls [])) := by
  obtain ⟨hx, hb, hml, hown, hts⟩ := id F
  have hg : ∀ q ∈ lwg, q.before args s = true := fun q h => hts q (List.mem_cons_of_mem _ h)
  intro w H locs ls S hl hz
  rw [f_X9_hall_137] at hz
  refine lv_aload_n hx hb dX9_hall_137 rfl (lv_at hl 0 rfl) ?_
  refine fg_X9_13 hx hb (fun q h => hg q (tl_X9 q h)) hown (hg _ t_fl_X9_107) S (by decide) dX9_hall_138 ?_
  refine lv_if_ne (tgt := 160) hx hb dX9_hall_141 (by decide) (fun c14 => ?_) (fun c14 => ?_)
  · have hz := ipf (c14) hz
    exact w_X9_hall_160 F hr hlk _ _ _ _ S (lv_sub hl [0] rfl) hz
  · have hz := ipt (c14) hz
    refine lv_aload_n hx hb dX9_hall_144 rfl (lv_at hl 0 rfl) ?_
    refine fg_X9_6 hx hb (fun q h => hg q (tl_X9 q h)) hown (hg _ t_fl_X9_97) S (by decide) dX9_hall_145 ?_
    refine lv_if_eq (tgt := 160) hx hb dX9_hall_148 (by decide) (fun c31 => ?_) (fun c31 => ?_)
    · have hz := ipt (c31) hz
      exact w_X9_hall_160 F hr hlk _ _ _ _ S (lv_sub hl [0] rfl) hz
    · have hz := ipf (c31) hz
      refine lv_aload_n hx hb dX9_hall_151 rfl (lv_at hl 0 rfl) ?_
      refine lv_iconst (v := 1) hx hb dX9_hall_152 (by decide) ?_
      refine lv_aload_n hx hb dX9_hall_153 rfl (lv_at hl 0 rfl) ?_
      refine fg_X9_4 hx hb (fun q h => hg q (tl_X9 q h)) hown (hg _ t_fl_X9_88) S (by decide) dX9_hall_154 ?_
      obtain ⟨q32, e33, hz⟩ := bd hz
      refine g_callVv (As := [.int 1, .int (gI w 130 4)]) (rest := []) F S (c_X9_wrong l G 1 (gI w 130 4)  _ e33) (cw_X9_hall_X9_wrong_134 hg) (S.obj (by decide) (by decide) rfl (oc_X9 _ _ _ (by decide))) rfl hl.1 rfl (Nat.le_of_ble_eq_true rfl) ⟨Nat.zero_le _, Nat.zero_le _⟩ dX9_hall_157 (fun H locs  S => ?_)
      exact w_X9_hall_160 F hr hlk _ _ _ _ S (lv_sub hl [0] rfl) hz
set_option maxHeartbeats 4000000 in
set_option maxRecDepth 100000 in
theorem w_X9_hall_110 {p : Program} {l : Launch} {e : Env} {s : State} {m : MethodId} {args : Array Value} {below : List Frame} {meth : Method} {c : Code} {G : GG} (F : CallFix p m c cX9_hall 3 s args (wsU yX9_hall cX9_hall 3 (some .int)) RX9) (hr : meth.sig.returnType = (some .int)) (hlk : meth.locks = false) {z : Int32 × GW} : ∀ (n9 : Nat), (∀ (w : GW) (H : Heap) (locs : List Loc) (ls : Array Slot), St G w s H locs → lv_has ls 3 [(0, .ref (gad G 130))] → f_X9_hall_110 n9  w = some z → W p l e (headSpec (wsU yX9_hall cX9_hall 3 (some .int)) rm_X9_hall).room s m args below meth c H locs 0 0 (MQ below (QI G z) args s 0 0 (gA G)) (F0 m 110 ls [])) := by
  obtain ⟨hx, hb, hml, hown, hts⟩ := id F
  have hg : ∀ q ∈ lwg, q.before args s = true := fun q h => hts q (List.mem_cons_of_mem _ h)
  intro n9
  induction n9 with
  | zero =>
    intro w H locs ls S hl hz
    rw [f_X9_hall_110] at hz
    cases hz
  | succ n9 ih =>
    intro w H locs ls S hl hz
    rw [f_X9_hall_110] at hz
    refine lv_aload_n hx hb dX9_hall_110 rfl (lv_at hl 0 rfl) ?_
    refine fg_X9_13 hx hb (fun q h => hg q (tl_X9 q h)) hown (hg _ t_fl_X9_107) S (by decide) dX9_hall_111 ?_
    refine lv_if_ne (tgt := 137) hx hb dX9_hall_114 (by decide) (fun c13 => ?_) (fun c13 => ?_)
    · have hz := ipf (c13) hz
      exact w_X9_hall_137 F hr hlk _ _ _ _ S (lv_sub hl [0] rfl) hz
    · have hz := ipt (c13) hz
      refine lv_aload_n hx hb dX9_hall_117 rfl (lv_at hl 0 rfl) ?_
      refine fg_X9_6 hx hb (fun q h => hg q (tl_X9 q h)) hown (hg _ t_fl_X9_97) S (by decide) dX9_hall_118 ?_
      refine lv_bipush (v := 59) hx hb dX9_hall_121 (by decide) ?_
      refine lv_icmp_ne (tgt := 137) hx hb dX9_hall_123 (by decide) (fun c34 => ?_) (fun c34 => ?_)
      · have hz := ipf (c34) hz
        exact w_X9_hall_137 F hr hlk _ _ _ _ S (lv_sub hl [0] rfl) hz
      · have hz := ipt (c34) hz
        refine lv_aload_n hx hb dX9_hall_126 rfl (lv_at hl 0 rfl) ?_
        obtain ⟨q35, e36, hz⟩ := bd hz
        refine g_callVv (As := []) (rest := []) F S (c_X9_next l G   _ e36) (cw_X9_hall_X9_next_128 hg) (S.obj (by decide) (by decide) rfl (oc_X9 _ _ _ (by decide))) rfl hl.1 rfl (Nat.le_of_ble_eq_true rfl) ⟨Nat.zero_le _, Nat.zero_le _⟩ dX9_hall_127 (fun H locs  S => ?_)
        refine lv_aload_n hx hb dX9_hall_130 rfl (lv_at hl 0 rfl) ?_
        obtain ⟨q37, e38, hz⟩ := bd hz
        refine g_callVv (As := []) (rest := []) F S (c_X9_readLine l G   _ e38) (cw_X9_hall_X9_readLine_156 hg) (S.obj (by decide) (by decide) rfl (oc_X9 _ _ _ (by decide))) rfl hl.1 rfl (Nat.le_of_ble_eq_true rfl) ⟨Nat.zero_le _, Nat.zero_le _⟩ dX9_hall_131 (fun H locs  S => ?_)
        refine lv_goto (tgt := 110) hx hb dX9_hall_134 (by decide) ?_
        exact ih   _ _ _ _ S (lv_sub hl [0] rfl) hz
set_option maxHeartbeats 4000000 in
set_option maxRecDepth 100000 in
theorem w_X9_hall_61 {p : Program} {l : Launch} {e : Env} {s : State} {m : MethodId} {args : Array Value} {below : List Frame} {meth : Method} {c : Code} {G : GG} (F : CallFix p m c cX9_hall 3 s args (wsU yX9_hall cX9_hall 3 (some .int)) RX9) (hr : meth.sig.returnType = (some .int)) (hlk : meth.locks = false) {z : Int32 × GW} : ∀ (n9 : Nat), (∀ (x1 : Int32) (x2 : Int32) (w : GW) (H : Heap) (locs : List Loc) (ls : Array Slot), St G w s H locs → lv_has ls 3 [(0, .ref (gad G 130)), (1, .int x1), (2, .int x2)] → f_X9_hall_61 n9 x1 x2 w = some z → W p l e (headSpec (wsU yX9_hall cX9_hall 3 (some .int)) rm_X9_hall).room s m args below meth c H locs 0 0 (MQ below (QI G z) args s 0 0 (gA G)) (F0 m 61 ls [])) := by
  obtain ⟨hx, hb, hml, hown, hts⟩ := id F
  have hg : ∀ q ∈ lwg, q.before args s = true := fun q h => hts q (List.mem_cons_of_mem _ h)
  intro n9
  induction n9 with
  | zero =>
    intro x1 x2 w H locs ls S hl hz
    rw [f_X9_hall_61] at hz
    cases hz
  | succ n9 ih =>
    intro x1 x2 w H locs ls S hl hz
    rw [f_X9_hall_61] at hz
    refine lv_iload_n hx hb dX9_hall_61 rfl (lv_at hl 2 rfl) ?_
    refine lv_iconst (v := 5) hx hb dX9_hall_62 (by decide) ?_
    refine lv_icmp_ge (tgt := 92) hx hb dX9_hall_63 (by decide) (fun c8 => ?_) (fun c8 => ?_)
    · have hz := ipt (c8) hz
      refine lv_aload_n hx hb dX9_hall_92 rfl (lv_at hl 0 rfl) ?_
      refine lv_iload_n hx hb dX9_hall_93 rfl (lv_at hl 1 rfl) ?_
      refine fp_X9_3 (v := x1) hx hb (fun q h => hg q (tl_X9 q h)) hown (hg _ t_fl_X9_78) S (by decide) dX9_hall_94 (fun H locs S => ?_)
      refine lv_aload_n hx hb dX9_hall_97 rfl (lv_at hl 0 rfl) ?_
      refine lv_iconst (v := 0) hx hb dX9_hall_98 (by decide) ?_
      refine fp_X9_5 (v := 0) hx hb (fun q h => hg q (tl_X9 q h)) hown (hg _ t_fl_X9_81) S (by decide) dX9_hall_99 (fun H locs S => ?_)
      refine lv_aload_n hx hb dX9_hall_102 rfl (lv_at hl 0 rfl) ?_
      obtain ⟨q9, e10, hz⟩ := bd hz
      refine g_callVv (As := []) (rest := []) F S (c_X9_next l G   _ e10) (cw_X9_hall_X9_next_128 hg) (S.obj (by decide) (by decide) rfl (oc_X9 _ _ _ (by decide))) rfl hl.1 rfl (Nat.le_of_ble_eq_true rfl) ⟨Nat.zero_le _, Nat.zero_le _⟩ dX9_hall_103 (fun H locs  S => ?_)
      refine lv_aload_n hx hb dX9_hall_106 rfl (lv_at hl 0 rfl) ?_
      obtain ⟨q11, e12, hz⟩ := bd hz
      refine g_callVv (As := []) (rest := []) F S (c_X9_readLine l G   _ e12) (cw_X9_hall_X9_readLine_156 hg) (S.obj (by decide) (by decide) rfl (oc_X9 _ _ _ (by decide))) rfl hl.1 rfl (Nat.le_of_ble_eq_true rfl) ⟨Nat.zero_le _, Nat.zero_le _⟩ dX9_hall_107 (fun H locs  S => ?_)
      exact w_X9_hall_110 F hr hlk fu _ _ _ _ S (lv_sub hl [0] rfl) hz
    · have hz := ipf (c8) hz
      refine lv_aload_n hx hb dX9_hall_66 rfl (lv_at hl 0 rfl) ?_
      refine fg_X9_16 hx hb (fun q h => hg q (tl_X9 q h)) hown (hg _ t_fl_X9_23) S (by decide) dX9_hall_67 ?_
      refine lv_iconst (v := 2) hx hb dX9_hall_70 (by decide) ?_
      refine lv_iload_n hx hb dX9_hall_71 rfl (lv_at hl 2 rfl) ?_
      refine lv_iadd hx hb dX9_hall_72 ?_
      refine lv_bipush (v := 8) hx hb dX9_hall_73 (by decide) ?_
      obtain ⟨h39, hz⟩ := ck hz
      refine g_iast (x := 8) hx hb S (isA_15 (by decide)) h39 dX9_hall_75 (fun H locs S => ?_)
      refine lv_aload_n hx hb dX9_hall_76 rfl (lv_at hl 0 rfl) ?_
      refine fg_X9_16 hx hb (fun q h => hg q (tl_X9 q h)) hown (hg _ t_fl_X9_23) S (by decide) dX9_hall_77 ?_
      refine lv_bipush (v := 7) hx hb dX9_hall_80 (by decide) ?_
      refine lv_iload_n hx hb dX9_hall_82 rfl (lv_at hl 2 rfl) ?_
      refine lv_iadd hx hb dX9_hall_83 ?_
      refine lv_iconst (v := 1) hx hb dX9_hall_84 (by decide) ?_
      obtain ⟨h40, hz⟩ := ck hz
      refine g_iast (x := 1) hx hb S (isA_15 (by decide)) h40 dX9_hall_85 (fun H locs S => ?_)
      refine lv_iinc (v := (x2 + 1)) (lv' := [(2, .int (x2 + 1)), (0, .ref (gad G 130)), (1, .int x1)]) hx hb dX9_hall_86 hl (k := 2) rfl rfl (by decide) rfl (fun ls hl => ?_)
      refine lv_goto (tgt := 61) hx hb dX9_hall_89 (by decide) ?_
      exact ih x1 (x2 + 1)  _ _ _ _ S (lv_sub hl [1, 2, 0] rfl) hz
set_option maxHeartbeats 4000000 in
set_option maxRecDepth 100000 in
theorem w_X9_hall_39 {p : Program} {l : Launch} {e : Env} {s : State} {m : MethodId} {args : Array Value} {below : List Frame} {meth : Method} {c : Code} {G : GG} (F : CallFix p m c cX9_hall 3 s args (wsU yX9_hall cX9_hall 3 (some .int)) RX9) (hr : meth.sig.returnType = (some .int)) (hlk : meth.locks = false) {z : Int32 × GW} : ∀ (n9 : Nat), (∀ (x1 : Int32) (x2 : Int32) (w : GW) (H : Heap) (locs : List Loc) (ls : Array Slot), St G w s H locs → lv_has ls 3 [(0, .ref (gad G 130)), (1, .int x1), (2, .int x2)] → f_X9_hall_39 n9 x1 x2 w = some z → W p l e (headSpec (wsU yX9_hall cX9_hall 3 (some .int)) rm_X9_hall).room s m args below meth c H locs 0 0 (MQ below (QI G z) args s 0 0 (gA G)) (F0 m 39 ls [])) := by
  obtain ⟨hx, hb, hml, hown, hts⟩ := id F
  have hg : ∀ q ∈ lwg, q.before args s = true := fun q h => hts q (List.mem_cons_of_mem _ h)
  intro n9
  induction n9 with
  | zero =>
    intro x1 x2 w H locs ls S hl hz
    rw [f_X9_hall_39] at hz
    cases hz
  | succ n9 ih =>
    intro x1 x2 w H locs ls S hl hz
    rw [f_X9_hall_39] at hz
    refine lv_iload_n hx hb dX9_hall_39 rfl (lv_at hl 2 rfl) ?_
    refine lv_sipush (v := 135) hx hb dX9_hall_40 (by decide) ?_
    refine lv_icmp_ge (tgt := 59) hx hb dX9_hall_43 (by decide) (fun c7 => ?_) (fun c7 => ?_)
    · have hz := ipt (c7) hz
      refine lv_iconst (v := 0) hx hb dX9_hall_59 (by decide) ?_
      refine lv_istore_n (lv' := [(2, .int 0), (0, .ref (gad G 130)), (1, .int x1)]) hx hb dX9_hall_60 rfl hl (by decide) rfl (fun ls hl => ?_)
      exact w_X9_hall_61 F hr hlk fu x1 0 _ _ _ _ S (lv_sub hl [1, 2, 0] rfl) hz
    · have hz := ipf (c7) hz
      refine lv_aload_n hx hb dX9_hall_46 rfl (lv_at hl 0 rfl) ?_
      refine fg_X9_16 hx hb (fun q h => hg q (tl_X9 q h)) hown (hg _ t_fl_X9_23) S (by decide) dX9_hall_47 ?_
      refine lv_iload_n hx hb dX9_hall_50 rfl (lv_at hl 2 rfl) ?_
      refine lv_iconst (v := 0) hx hb dX9_hall_51 (by decide) ?_
      obtain ⟨h41, hz⟩ := ck hz
      refine g_iast (x := 0) hx hb S (isA_15 (by decide)) h41 dX9_hall_52 (fun H locs S => ?_)
      refine lv_iinc (v := (x2 + 1)) (lv' := [(2, .int (x2 + 1)), (0, .ref (gad G 130)), (1, .int x1)]) hx hb dX9_hall_53 hl (k := 2) rfl rfl (by decide) rfl (fun ls hl => ?_)
      refine lv_goto (tgt := 39) hx hb dX9_hall_56 (by decide) ?_
      exact ih x1 (x2 + 1)  _ _ _ _ S (lv_sub hl [1, 2, 0] rfl) hz
set_option maxHeartbeats 4000000 in
set_option maxRecDepth 100000 in
theorem c_X9_hall (l : Launch) (G : GG) (x1 : Int32)  (w : GW) {z : Int32 × GW} (hz : f_X9_hall x1 w = some z) : Met l yX9_hall (wsU yX9_hall cX9_hall 3 (some .int)) rm_X9_hall (va_Pc [.ref (gad G 130), .int x1] (PreG G w)) (QI G z) 0 0 (gA G) := by
  refine Met.ofW (cc := cX9_hall) (maxL := 3) (ret := (some .int)) (by decide) rfl ?_
  intro p e s m args below meth c s₁ B hml hv
  obtain ⟨rfl, S⟩ := hv
  have F : CallFix p m c cX9_hall 3 s _ (wsU yX9_hall cX9_hall 3 (some .int)) RX9 := ⟨B.exec, B.bytes, hml, findClass_of_methodNamed B.named, atoms_spec B.pre⟩
  have hr := B.returns
  have hlk := B.notSynchronized
  obtain ⟨hx, hb, -, hown, hts⟩ := id F
  have hg : ∀ q ∈ lwg, q.before _ s = true := fun q h => hts q (List.mem_cons_of_mem _ h)
  refine g_entry (Nat.le_of_ble_eq_true rfl) (fun ls hl => ?_)
  have hl : lv_has ls 3 [(0, .ref (gad G 130)), (1, .int x1)] := hl
  have S : St G w s s.heap [] := S
  generalize s.heap = H at S ⊢
  generalize ([] : List Loc) = locs at S ⊢
  rw [f_X9_hall] at hz
  refine lv_aload_n hx hb dX9_hall_0 rfl (lv_at hl 0 rfl) ?_
  obtain ⟨q1, e2, hz⟩ := bd hz
  refine g_callVv (As := []) (rest := []) F S (c_X9_good l G   _ e2) (cw_X9_hall_X9_good_150 hg) (S.obj (by decide) (by decide) rfl (oc_X9 _ _ _ (by decide))) rfl hl.1 rfl (Nat.le_of_ble_eq_true rfl) ⟨Nat.zero_le _, Nat.zero_le _⟩ dX9_hall_1 (fun H locs  S => ?_)
  refine lv_iload_n hx hb dX9_hall_4 rfl (lv_at hl 1 rfl) ?_
  refine lv_iconst (v := 0) hx hb dX9_hall_5 (by decide) ?_
  refine lv_aload_n hx hb dX9_hall_6 rfl (lv_at hl 0 rfl) ?_
  refine fg_X9_2 hx hb (fun q h => hg q (tl_X9 q h)) hown (hg _ t_fl_X9_75) S (by decide) dX9_hall_7 ?_
  obtain ⟨q3, e4, hz⟩ := bd hz
  refine g_callSb (As := [.int x1, .int 0, .int (gI q1.2 130 2)]) (rest := []) F S (c_X9_within l G x1 0 (gI q1.2 130 2)  _ e4) (cw_X9_hall_X9_within_138 hg) rfl hl.1 rfl (Nat.le_of_ble_eq_true rfl) ⟨Nat.zero_le _, Nat.zero_le _⟩ dX9_hall_10 (fun H locs hB5 S => ?_)
  refine lv_if_ne (tgt := 22) hx hb dX9_hall_13 (by decide) (fun c6 => ?_) (fun c6 => ?_)
  · have hz := ipf (c6) hz
    refine lv_aload_n hx hb dX9_hall_22 rfl (lv_at hl 0 rfl) ?_
    refine lv_iconst (v := 0) hx hb dX9_hall_23 (by decide) ?_
    refine fp_X9_2 (v := 0) hx hb (fun q h => hg q (tl_X9 q h)) hown (hg _ t_fl_X9_75) S (by decide) dX9_hall_24 (fun H locs S => ?_)
    refine lv_aload_n hx hb dX9_hall_27 rfl (lv_at hl 0 rfl) ?_
    refine lv_iconst (v := 0) hx hb dX9_hall_28 (by decide) ?_
    refine fp_X9_9 (v := 0) hx hb (fun q h => hg q (tl_X9 q h)) hown (hg _ t_fl_X9_111) S (by decide) dX9_hall_29 (fun H locs S => ?_)
    refine lv_aload_n hx hb dX9_hall_32 rfl (lv_at hl 0 rfl) ?_
    refine lv_iconst (v := 0) hx hb dX9_hall_33 (by decide) ?_
    refine fp_X9_13 (v := 0) hx hb (fun q h => hg q (tl_X9 q h)) hown (hg _ t_fl_X9_107) S (by decide) isB_0 dX9_hall_34 (fun H locs S => ?_)
    refine lv_iconst (v := 0) hx hb dX9_hall_37 (by decide) ?_
    refine lv_istore_n (lv' := [(2, .int 0), (0, .ref (gad G 130)), (1, .int x1)]) hx hb dX9_hall_38 rfl hl (by decide) rfl (fun ls hl => ?_)
    exact w_X9_hall_39 F hr hlk fu x1 0 _ _ _ _ S (lv_sub hl [1, 2, 0] rfl) hz
  · have hz := ipt (c6) hz
    refine lv_aload_n hx hb dX9_hall_16 rfl (lv_at hl 0 rfl) ?_
    refine lv_iconst (v := 2) hx hb dX9_hall_17 (by decide) ?_
    obtain ⟨q42, e43, hz⟩ := bd hz
    refine g_callVi (As := [.int 2]) (rest := []) F S (c_X9_no l G 2  _ e43) (cw_X9_hall_X9_no_153 hg) (S.obj (by decide) (by decide) rfl (oc_X9 _ _ _ (by decide))) rfl hl.1 rfl (Nat.le_of_ble_eq_true rfl) ⟨Nat.zero_le _, Nat.zero_le _⟩ dX9_hall_18 (fun H locs  S => ?_)
    exact g_reti hx hb hr hlk S hz dX9_hall_21
noncomputable def f_X9_fault  (w : GW) : Option (Int32 × GW) :=
  some ((gI (sI w 130 0 0) 130 9), (sI w 130 0 0))
set_option maxHeartbeats 4000000 in
set_option maxRecDepth 100000 in
theorem c_X9_fault (l : Launch) (G : GG)   (w : GW) {z : Int32 × GW} (hz : f_X9_fault  w = some z) : Met l yX9_fault (wsU yX9_fault cX9_fault 1 (some .int)) rm_X9_fault (va_Pc [.ref (gad G 130)] (PreG G w)) (QI G z) 0 0 (gA G) := by
  refine Met.ofW (cc := cX9_fault) (maxL := 1) (ret := (some .int)) (by decide) rfl ?_
  intro p e s m args below meth c s₁ B hml hv
  obtain ⟨rfl, S⟩ := hv
  have F : CallFix p m c cX9_fault 1 s _ (wsU yX9_fault cX9_fault 1 (some .int)) RX9 := ⟨B.exec, B.bytes, hml, findClass_of_methodNamed B.named, atoms_spec B.pre⟩
  have hr := B.returns
  have hlk := B.notSynchronized
  obtain ⟨hx, hb, -, hown, hts⟩ := id F
  have hg : ∀ q ∈ lwg, q.before _ s = true := fun q h => hts q (List.mem_cons_of_mem _ h)
  refine g_entry (Nat.le_of_ble_eq_true rfl) (fun ls hl => ?_)
  have hl : lv_has ls 1 [(0, .ref (gad G 130))] := hl
  have S : St G w s s.heap [] := S
  generalize s.heap = H at S ⊢
  generalize ([] : List Loc) = locs at S ⊢
  rw [f_X9_fault] at hz
  refine lv_aload_n hx hb dX9_fault_0 rfl (lv_at hl 0 rfl) ?_
  refine lv_iconst (v := 0) hx hb dX9_fault_1 (by decide) ?_
  refine fp_X9_0 (v := 0) hx hb (fun q h => hg q (tl_X9 q h)) hown (hg _ t_fl_X9_69) S (by decide) dX9_fault_2 (fun H locs S => ?_)
  refine lv_aload_n hx hb dX9_fault_5 rfl (lv_at hl 0 rfl) ?_
  refine fg_X9_9 hx hb (fun q h => hg q (tl_X9 q h)) hown (hg _ t_fl_X9_111) S (by decide) dX9_fault_6 ?_
  exact g_reti hx hb hr hlk S hz dX9_fault_9
noncomputable def f_X9_where  (w : GW) : Option (Int32 × GW) :=
  if (gI (sI w 130 0 0) 130 11) = 4 then
    some ((gI (sI w 130 0 0) 130 10), (sI w 130 0 0))
  else
    some ((-1), (sI w 130 0 0))
set_option maxHeartbeats 4000000 in
set_option maxRecDepth 100000 in
theorem c_X9_where (l : Launch) (G : GG)   (w : GW) {z : Int32 × GW} (hz : f_X9_where  w = some z) : Met l yX9_where (wsU yX9_where cX9_where 1 (some .int)) rm_X9_where (va_Pc [.ref (gad G 130)] (PreG G w)) (QI G z) 0 0 (gA G) := by
  refine Met.ofW (cc := cX9_where) (maxL := 1) (ret := (some .int)) (by decide) rfl ?_
  intro p e s m args below meth c s₁ B hml hv
  obtain ⟨rfl, S⟩ := hv
  have F : CallFix p m c cX9_where 1 s _ (wsU yX9_where cX9_where 1 (some .int)) RX9 := ⟨B.exec, B.bytes, hml, findClass_of_methodNamed B.named, atoms_spec B.pre⟩
  have hr := B.returns
  have hlk := B.notSynchronized
  obtain ⟨hx, hb, -, hown, hts⟩ := id F
  have hg : ∀ q ∈ lwg, q.before _ s = true := fun q h => hts q (List.mem_cons_of_mem _ h)
  refine g_entry (Nat.le_of_ble_eq_true rfl) (fun ls hl => ?_)
  have hl : lv_has ls 1 [(0, .ref (gad G 130))] := hl
  have S : St G w s s.heap [] := S
  generalize s.heap = H at S ⊢
  generalize ([] : List Loc) = locs at S ⊢
  rw [f_X9_where] at hz
  refine lv_aload_n hx hb dX9_where_0 rfl (lv_at hl 0 rfl) ?_
  refine lv_iconst (v := 0) hx hb dX9_where_1 (by decide) ?_
  refine fp_X9_0 (v := 0) hx hb (fun q h => hg q (tl_X9 q h)) hown (hg _ t_fl_X9_69) S (by decide) dX9_where_2 (fun H locs S => ?_)
  refine lv_aload_n hx hb dX9_where_5 rfl (lv_at hl 0 rfl) ?_
  refine fg_X9_11 hx hb (fun q h => hg q (tl_X9 q h)) hown (hg _ t_fl_X9_72) S (by decide) dX9_where_6 ?_
  refine lv_iconst (v := 4) hx hb dX9_where_9 (by decide) ?_
  refine lv_icmp_ne (tgt := 20) hx hb dX9_where_10 (by decide) (fun c1 => ?_) (fun c1 => ?_)
  · have hz := ipf (c1) hz
    refine lv_iconst (v := (-1)) hx hb dX9_where_20 (by decide) ?_
    exact g_reti hx hb hr hlk S hz dX9_where_21
  · have hz := ipt (c1) hz
    refine lv_aload_n hx hb dX9_where_13 rfl (lv_at hl 0 rfl) ?_
    refine fg_X9_10 hx hb (fun q h => hg q (tl_X9 q h)) hown (hg _ t_fl_X9_13) S (by decide) dX9_where_14 ?_
    refine lv_goto (tgt := 21) hx hb dX9_where_17 (by decide) ?_
    exact g_reti hx hb hr hlk S hz dX9_where_21
noncomputable def f_X9_isPorter (x1 : Int32) (w : GW) : Option (Int32 × GW) :=
  if (gI w 130 14) = 0 then
    some (0, w)
  else
    if inb 17 135 then
    (f_X9_within x1 0 ((gI w 133 (ix 17)) - 1) w).bind fun q3 =>
    if q3.1 = 0 then
      some (0, q3.2)
    else
      some (1, q3.2)
    else none
set_option maxHeartbeats 4000000 in
set_option maxRecDepth 100000 in
theorem c_X9_isPorter (l : Launch) (G : GG) (x1 : Int32)  (w : GW) {z : Int32 × GW} (hz : f_X9_isPorter x1 w = some z) : Met l yX9_isPorter (wsU yX9_isPorter cX9_isPorter 2 (some .boolean)) rm_X9_isPorter (va_Pc [.ref (gad G 130), .int x1] (PreG G w)) (QB G z) 0 0 (gA G) := by
  refine Met.ofW (cc := cX9_isPorter) (maxL := 2) (ret := (some .boolean)) (by decide) rfl ?_
  intro p e s m args below meth c s₁ B hml hv
  obtain ⟨rfl, S⟩ := hv
  have F : CallFix p m c cX9_isPorter 2 s _ (wsU yX9_isPorter cX9_isPorter 2 (some .boolean)) RX9 := ⟨B.exec, B.bytes, hml, findClass_of_methodNamed B.named, atoms_spec B.pre⟩
  have hr := B.returns
  have hlk := B.notSynchronized
  obtain ⟨hx, hb, -, hown, hts⟩ := id F
  have hg : ∀ q ∈ lwg, q.before _ s = true := fun q h => hts q (List.mem_cons_of_mem _ h)
  refine g_entry (Nat.le_of_ble_eq_true rfl) (fun ls hl => ?_)
  have hl : lv_has ls 2 [(0, .ref (gad G 130)), (1, .int x1)] := hl
  have S : St G w s s.heap [] := S
  generalize s.heap = H at S ⊢
  generalize ([] : List Loc) = locs at S ⊢
  rw [f_X9_isPorter] at hz
  refine lv_aload_n hx hb dX9_isPorter_0 rfl (lv_at hl 0 rfl) ?_
  refine fg_X9_14 hx hb (fun q h => hg q (tl_X9 q h)) hown (hg _ t_fl_X9_159) S (by decide) dX9_isPorter_1 ?_
  refine lv_if_eq (tgt := 28) hx hb dX9_isPorter_4 (by decide) (fun c1 => ?_) (fun c1 => ?_)
  · have hz := ipt (c1) hz
    refine lv_iconst (v := 0) hx hb dX9_isPorter_28 (by decide) ?_
    exact g_retb hx hb hr hlk S isB_0 hz dX9_isPorter_29
  · have hz := ipf (c1) hz
    refine lv_iload_n hx hb dX9_isPorter_7 rfl (lv_at hl 1 rfl) ?_
    refine lv_iconst (v := 0) hx hb dX9_isPorter_8 (by decide) ?_
    refine lv_aload_n hx hb dX9_isPorter_9 rfl (lv_at hl 0 rfl) ?_
    refine fg_X9_15 hx hb (fun q h => hg q (tl_X9 q h)) hown (hg _ t_fl_X9_20) S (by decide) dX9_isPorter_10 ?_
    refine lv_bipush (v := 17) hx hb dX9_isPorter_13 (by decide) ?_
    obtain ⟨h2, hz⟩ := ck hz
    refine g_iald hx hb S (isA_15 (by decide)) h2 dX9_isPorter_15 ?_
    refine lv_iconst (v := 1) hx hb dX9_isPorter_16 (by decide) ?_
    refine lv_isub hx hb dX9_isPorter_17 ?_
    obtain ⟨q3, e4, hz⟩ := bd hz
    refine g_callSb (As := [.int x1, .int 0, .int ((gI w 133 (ix 17)) - 1)]) (rest := []) F S (c_X9_within l G x1 0 ((gI w 133 (ix 17)) - 1)  _ e4) (cw_X9_isPorter_X9_within_138 hg) rfl hl.1 rfl (Nat.le_of_ble_eq_true rfl) ⟨Nat.zero_le _, Nat.zero_le _⟩ dX9_isPorter_18 (fun H locs hB5 S => ?_)
    refine lv_if_eq (tgt := 28) hx hb dX9_isPorter_21 (by decide) (fun c6 => ?_) (fun c6 => ?_)
    · have hz := ipt (c6) hz
      refine lv_iconst (v := 0) hx hb dX9_isPorter_28 (by decide) ?_
      exact g_retb hx hb hr hlk S isB_0 hz dX9_isPorter_29
    · have hz := ipf (c6) hz
      refine lv_iconst (v := 1) hx hb dX9_isPorter_24 (by decide) ?_
      refine lv_goto (tgt := 29) hx hb dX9_isPorter_25 (by decide) ?_
      exact g_retb hx hb hr hlk S isB_1 hz dX9_isPorter_29
noncomputable def f_X9_isBox (x1 : Int32) (w : GW) : Option (Int32 × GW) :=
  if (gI w 130 14) = 0 then
    some (0, w)
  else
    if inb 0 135 then
    (f_X9_within x1 0 ((gI w 133 (ix 0)) - 1) w).bind fun q3 =>
    if q3.1 = 0 then
      some (0, q3.2)
    else
      some (1, q3.2)
    else none
set_option maxHeartbeats 4000000 in
set_option maxRecDepth 100000 in
theorem c_X9_isBox (l : Launch) (G : GG) (x1 : Int32)  (w : GW) {z : Int32 × GW} (hz : f_X9_isBox x1 w = some z) : Met l yX9_isBox (wsU yX9_isBox cX9_isBox 2 (some .boolean)) rm_X9_isBox (va_Pc [.ref (gad G 130), .int x1] (PreG G w)) (QB G z) 0 0 (gA G) := by
  refine Met.ofW (cc := cX9_isBox) (maxL := 2) (ret := (some .boolean)) (by decide) rfl ?_
  intro p e s m args below meth c s₁ B hml hv
  obtain ⟨rfl, S⟩ := hv
  have F : CallFix p m c cX9_isBox 2 s _ (wsU yX9_isBox cX9_isBox 2 (some .boolean)) RX9 := ⟨B.exec, B.bytes, hml, findClass_of_methodNamed B.named, atoms_spec B.pre⟩
  have hr := B.returns
  have hlk := B.notSynchronized
  obtain ⟨hx, hb, -, hown, hts⟩ := id F
  have hg : ∀ q ∈ lwg, q.before _ s = true := fun q h => hts q (List.mem_cons_of_mem _ h)
  refine g_entry (Nat.le_of_ble_eq_true rfl) (fun ls hl => ?_)
  have hl : lv_has ls 2 [(0, .ref (gad G 130)), (1, .int x1)] := hl
  have S : St G w s s.heap [] := S
  generalize s.heap = H at S ⊢
  generalize ([] : List Loc) = locs at S ⊢
  rw [f_X9_isBox] at hz
  refine lv_aload_n hx hb dX9_isBox_0 rfl (lv_at hl 0 rfl) ?_
  refine fg_X9_14 hx hb (fun q h => hg q (tl_X9 q h)) hown (hg _ t_fl_X9_159) S (by decide) dX9_isBox_1 ?_
  refine lv_if_eq (tgt := 27) hx hb dX9_isBox_4 (by decide) (fun c1 => ?_) (fun c1 => ?_)
  · have hz := ipt (c1) hz
    refine lv_iconst (v := 0) hx hb dX9_isBox_27 (by decide) ?_
    exact g_retb hx hb hr hlk S isB_0 hz dX9_isBox_28
  · have hz := ipf (c1) hz
    refine lv_iload_n hx hb dX9_isBox_7 rfl (lv_at hl 1 rfl) ?_
    refine lv_iconst (v := 0) hx hb dX9_isBox_8 (by decide) ?_
    refine lv_aload_n hx hb dX9_isBox_9 rfl (lv_at hl 0 rfl) ?_
    refine fg_X9_15 hx hb (fun q h => hg q (tl_X9 q h)) hown (hg _ t_fl_X9_20) S (by decide) dX9_isBox_10 ?_
    refine lv_iconst (v := 0) hx hb dX9_isBox_13 (by decide) ?_
    obtain ⟨h2, hz⟩ := ck hz
    refine g_iald hx hb S (isA_15 (by decide)) h2 dX9_isBox_14 ?_
    refine lv_iconst (v := 1) hx hb dX9_isBox_15 (by decide) ?_
    refine lv_isub hx hb dX9_isBox_16 ?_
    obtain ⟨q3, e4, hz⟩ := bd hz
    refine g_callSb (As := [.int x1, .int 0, .int ((gI w 133 (ix 0)) - 1)]) (rest := []) F S (c_X9_within l G x1 0 ((gI w 133 (ix 0)) - 1)  _ e4) (cw_X9_isBox_X9_within_138 hg) rfl hl.1 rfl (Nat.le_of_ble_eq_true rfl) ⟨Nat.zero_le _, Nat.zero_le _⟩ dX9_isBox_17 (fun H locs hB5 S => ?_)
    refine lv_if_eq (tgt := 27) hx hb dX9_isBox_20 (by decide) (fun c6 => ?_) (fun c6 => ?_)
    · have hz := ipt (c6) hz
      refine lv_iconst (v := 0) hx hb dX9_isBox_27 (by decide) ?_
      exact g_retb hx hb hr hlk S isB_0 hz dX9_isBox_28
    · have hz := ipf (c6) hz
      refine lv_iconst (v := 1) hx hb dX9_isBox_23 (by decide) ?_
      refine lv_goto (tgt := 28) hx hb dX9_isBox_24 (by decide) ?_
      exact g_retb hx hb hr hlk S isB_1 hz dX9_isBox_28
noncomputable def f_X9_allWeights_4  : Nat → Int32 → Int32 → GW → Option (Int32 × GW)
  | 0, _, _, _ => none
  | n9 + 1, x1, x2, w =>
    if inb 0 135 then
    if (gI w 133 (ix 0)) ≤ x2 then
      some (x1, w)
    else
      if inb (7 + x2) 135 then
      f_X9_allWeights_4 n9 (x1 + (gI w 133 (ix (7 + x2)))) (x2 + 1) w
      else none
    else none
noncomputable def f_X9_allWeights  (w : GW) : Option (Int32 × GW) :=
  f_X9_allWeights_4 fu 0 0 w
set_option maxHeartbeats 4000000 in
set_option maxRecDepth 100000 in
theorem w_X9_allWeights_4 {p : Program} {l : Launch} {e : Env} {s : State} {m : MethodId} {args : Array Value} {below : List Frame} {meth : Method} {c : Code} {G : GG} (F : CallFix p m c cX9_allWeights 3 s args (wsU yX9_allWeights cX9_allWeights 3 (some .int)) RX9) (hr : meth.sig.returnType = (some .int)) (hlk : meth.locks = false) {z : Int32 × GW} : ∀ (n9 : Nat), (∀ (x1 : Int32) (x2 : Int32) (w : GW) (H : Heap) (locs : List Loc) (ls : Array Slot), St G w s H locs → lv_has ls 3 [(0, .ref (gad G 130)), (1, .int x1), (2, .int x2)] → f_X9_allWeights_4 n9 x1 x2 w = some z → W p l e (headSpec (wsU yX9_allWeights cX9_allWeights 3 (some .int)) rm_X9_allWeights).room s m args below meth c H locs 0 0 (MQ below (QI G z) args s 0 0 (gA G)) (F0 m 4 ls [])) := by
  obtain ⟨hx, hb, hml, hown, hts⟩ := id F
  have hg : ∀ q ∈ lwg, q.before args s = true := fun q h => hts q (List.mem_cons_of_mem _ h)
  intro n9
  induction n9 with
  | zero =>
    intro x1 x2 w H locs ls S hl hz
    rw [f_X9_allWeights_4] at hz
    cases hz
  | succ n9 ih =>
    intro x1 x2 w H locs ls S hl hz
    rw [f_X9_allWeights_4] at hz
    refine lv_iload_n hx hb dX9_allWeights_4 rfl (lv_at hl 2 rfl) ?_
    refine lv_aload_n hx hb dX9_allWeights_5 rfl (lv_at hl 0 rfl) ?_
    refine fg_X9_15 hx hb (fun q h => hg q (tl_X9 q h)) hown (hg _ t_fl_X9_20) S (by decide) dX9_allWeights_6 ?_
    refine lv_iconst (v := 0) hx hb dX9_allWeights_9 (by decide) ?_
    obtain ⟨h1, hz⟩ := ck hz
    refine g_iald hx hb S (isA_15 (by decide)) h1 dX9_allWeights_10 ?_
    refine lv_icmp_ge (tgt := 32) hx hb dX9_allWeights_11 (by decide) (fun c2 => ?_) (fun c2 => ?_)
    · have hz := ipt (c2) hz
      refine lv_iload_n hx hb dX9_allWeights_32 rfl (lv_at hl 1 rfl) ?_
      exact g_reti hx hb hr hlk S hz dX9_allWeights_33
    · have hz := ipf (c2) hz
      refine lv_iload_n hx hb dX9_allWeights_14 rfl (lv_at hl 1 rfl) ?_
      refine lv_aload_n hx hb dX9_allWeights_15 rfl (lv_at hl 0 rfl) ?_
      refine fg_X9_15 hx hb (fun q h => hg q (tl_X9 q h)) hown (hg _ t_fl_X9_20) S (by decide) dX9_allWeights_16 ?_
      refine lv_bipush (v := 7) hx hb dX9_allWeights_19 (by decide) ?_
      refine lv_iload_n hx hb dX9_allWeights_21 rfl (lv_at hl 2 rfl) ?_
      refine lv_iadd hx hb dX9_allWeights_22 ?_
      obtain ⟨h3, hz⟩ := ck hz
      refine g_iald hx hb S (isA_15 (by decide)) h3 dX9_allWeights_23 ?_
      refine lv_iadd hx hb dX9_allWeights_24 ?_
      refine lv_istore_n (lv' := [(1, .int (x1 + (gI w 133 (ix (7 + x2))))), (0, .ref (gad G 130)), (2, .int x2)]) hx hb dX9_allWeights_25 rfl hl (by decide) rfl (fun ls hl => ?_)
      refine lv_iinc (v := (x2 + 1)) (lv' := [(2, .int (x2 + 1)), (1, .int (x1 + (gI w 133 (ix (7 + x2))))), (0, .ref (gad G 130))]) hx hb dX9_allWeights_26 hl (k := 2) rfl rfl (by decide) rfl (fun ls hl => ?_)
      refine lv_goto (tgt := 4) hx hb dX9_allWeights_29 (by decide) ?_
      exact ih (x1 + (gI w 133 (ix (7 + x2)))) (x2 + 1)  _ _ _ _ S (lv_sub hl [2, 1, 0] rfl) hz
set_option maxHeartbeats 4000000 in
set_option maxRecDepth 100000 in
theorem c_X9_allWeights (l : Launch) (G : GG)   (w : GW) {z : Int32 × GW} (hz : f_X9_allWeights  w = some z) : Met l yX9_allWeights (wsU yX9_allWeights cX9_allWeights 3 (some .int)) rm_X9_allWeights (va_Pc [.ref (gad G 130)] (PreG G w)) (QI G z) 0 0 (gA G) := by
  refine Met.ofW (cc := cX9_allWeights) (maxL := 3) (ret := (some .int)) (by decide) rfl ?_
  intro p e s m args below meth c s₁ B hml hv
  obtain ⟨rfl, S⟩ := hv
  have F : CallFix p m c cX9_allWeights 3 s _ (wsU yX9_allWeights cX9_allWeights 3 (some .int)) RX9 := ⟨B.exec, B.bytes, hml, findClass_of_methodNamed B.named, atoms_spec B.pre⟩
  have hr := B.returns
  have hlk := B.notSynchronized
  obtain ⟨hx, hb, -, hown, hts⟩ := id F
  have hg : ∀ q ∈ lwg, q.before _ s = true := fun q h => hts q (List.mem_cons_of_mem _ h)
  refine g_entry (Nat.le_of_ble_eq_true rfl) (fun ls hl => ?_)
  have hl : lv_has ls 3 [(0, .ref (gad G 130))] := hl
  have S : St G w s s.heap [] := S
  generalize s.heap = H at S ⊢
  generalize ([] : List Loc) = locs at S ⊢
  rw [f_X9_allWeights] at hz
  refine lv_iconst (v := 0) hx hb dX9_allWeights_0 (by decide) ?_
  refine lv_istore_n (lv' := [(1, .int 0), (0, .ref (gad G 130))]) hx hb dX9_allWeights_1 rfl hl (by decide) rfl (fun ls hl => ?_)
  refine lv_iconst (v := 0) hx hb dX9_allWeights_2 (by decide) ?_
  refine lv_istore_n (lv' := [(2, .int 0), (1, .int 0), (0, .ref (gad G 130))]) hx hb dX9_allWeights_3 rfl hl (by decide) rfl (fun ls hl => ?_)
  exact w_X9_allWeights_4 F hr hlk fu 0 0 _ _ _ _ S (lv_sub hl [2, 1, 0] rfl) hz
