noncomputable def f_X9_layGoes_287 (k_114 : Int32 → Int32 → Int32 → Int32 → Int32 → GW → Option (Unit × GW)) (k_160 : Int32 → Int32 → Int32 → Int32 → Int32 → Int64 → Int32 → Int32 → GW → Option (Unit × GW)) (x1 : Int32) (x2 : Int32) (x3 : Int32) (x4 : Int32) (x5 : Int32) (x6 : Int64) (x8 : Int32) (x9 : Int32) (w : GW) : Option (Unit × GW) :=
  k_160 x1 x2 x3 x4 x5 x6 x8 (x9 + 1) w
noncomputable def f_X9_layGoes_284 (k_114 : Int32 → Int32 → Int32 → Int32 → Int32 → GW → Option (Unit × GW)) (k_160 : Int32 → Int32 → Int32 → Int32 → Int32 → Int64 → Int32 → Int32 → GW → Option (Unit × GW)) (x1 : Int32) (x2 : Int32) (x3 : Int32) (x4 : Int32) (x5 : Int32) (x6 : Int64) (x8 : Int32) (x9 : Int32) (t0 : Int32) (w : GW) : Option (Unit × GW) :=
  f_X9_layGoes_287 k_114 k_160 x1 x2 x3 x4 x5 x6 x8 x9 (sI w 130 39 t0)
noncomputable def f_X9_layGoes_275 (k_114 : Int32 → Int32 → Int32 → Int32 → Int32 → GW → Option (Unit × GW)) (k_160 : Int32 → Int32 → Int32 → Int32 → Int32 → Int64 → Int32 → Int32 → GW → Option (Unit × GW)) (x1 : Int32) (x2 : Int32) (x3 : Int32) (x4 : Int32) (x5 : Int32) (x6 : Int64) (x8 : Int32) (x9 : Int32) (w : GW) : Option (Unit × GW) :=
  f_X9_layGoes_284 k_114 k_160 x1 x2 x3 x4 x5 x6 x8 x9 (gI w 130 22) w
noncomputable def f_X9_layGoes_250 (k_114 : Int32 → Int32 → Int32 → Int32 → Int32 → GW → Option (Unit × GW)) (k_160 : Int32 → Int32 → Int32 → Int32 → Int32 → Int64 → Int32 → Int32 → GW → Option (Unit × GW)) (x1 : Int32) (x2 : Int32) (x3 : Int32) (x4 : Int32) (x5 : Int32) (x6 : Int64) (x8 : Int32) (x9 : Int32) (t0 : Int64) (t1 : Int64) (w : GW) : Option (Unit × GW) :=
  if (gI (sL w 130 37 (t1 + t0)) 130 39) = (-5) then
    f_X9_layGoes_275 k_114 k_160 x1 x2 x3 x4 x5 x6 x8 x9 (sL w 130 37 (t1 + t0))
  else
    if (gI (sL w 130 37 (t1 + t0)) 130 39) = (gI (sL w 130 37 (t1 + t0)) 130 22) then
      f_X9_layGoes_275 k_114 k_160 x1 x2 x3 x4 x5 x6 x8 x9 (sL w 130 37 (t1 + t0))
    else
      f_X9_layGoes_284 k_114 k_160 x1 x2 x3 x4 x5 x6 x8 x9 (-6) (sL w 130 37 (t1 + t0))
noncomputable def f_X9_layGoes_160 (k_114 : Int32 → Int32 → Int32 → Int32 → Int32 → GW → Option (Unit × GW)) : Nat → Int32 → Int32 → Int32 → Int32 → Int32 → Int64 → Int32 → Int32 → GW → Option (Unit × GW)
  | 0, _, _, _, _, _, _, _, _, _ => none
  | n9 + 1, x1, x2, x3, x4, x5, x6, x8, x9, w =>
    if x8 ≤ x9 then
      k_114 x1 x2 x3 x4 (x5 + 1) w
    else
      (f_X9_layDay w).bind fun q21 =>
      if inb (24 + x2) 135 then
      if inb (24 + x2) 135 then
      if inb (30 + x2) 135 then
      (f_X9_taken (gI q21.2 133 (ix (24 + x2))) (gI q21.2 133 (ix (30 + x2))) x3 x9 q21.2).bind fun q26 =>
      (f_X9_puts (gI q21.2 133 (ix (24 + x2))) x3 q26.1 q26.2).bind fun q28 =>
      if q28.1 = x1 then
        if inb (24 + x2) 135 then
        if (gI q28.2 133 (ix (24 + x2))) = 0 then
          (f_X9_tiesOf x3 q28.2).bind fun q35 =>
          if ¬ (x8.toInt64) = 0 then
          f_X9_layGoes_250 k_114 (f_X9_layGoes_160 k_114 n9) x1 x2 x3 x4 x5 x6 x8 x9 (x6 * (q35.1 / (x8.toInt64))) (gL q28.2 130 37) q35.2
          else none
        else
          f_X9_layGoes_250 k_114 (f_X9_layGoes_160 k_114 n9) x1 x2 x3 x4 x5 x6 x8 x9 x6 (gL q28.2 130 37) q28.2
        else none
      else
        f_X9_layGoes_287 k_114 (f_X9_layGoes_160 k_114 n9) x1 x2 x3 x4 x5 x6 x8 x9 q28.2
      else none
      else none
      else none
noncomputable def f_X9_layGoes_155 (k_114 : Int32 → Int32 → Int32 → Int32 → Int32 → GW → Option (Unit × GW)) (x1 : Int32) (x2 : Int32) (x3 : Int32) (x4 : Int32) (x5 : Int32) (x6 : Int64) (t0 : Int32) (w : GW) : Option (Unit × GW) :=
  f_X9_layGoes_160 k_114 fu x1 x2 x3 x4 x5 x6 t0 0 w
noncomputable def f_X9_layGoes_114  : Nat → Int32 → Int32 → Int32 → Int32 → Int32 → GW → Option (Unit × GW)
  | 0, _, _, _, _, _, _ => none
  | n9 + 1, x1, x2, x3, x4, x5, w =>
    if x4 ≤ x5 then
      some ((), w)
    else
      (f_X9_layDay w).bind fun q14 =>
      (f_X9_layGlances x5 x3 q14.2).bind fun q16 =>
      if inb (24 + x2) 135 then
      if (gI q16.2 133 (ix (24 + x2))) = 0 then
        (f_X9_ties x3 q16.2).bind fun q38 =>
        f_X9_layGoes_155 (f_X9_layGoes_114 n9) x1 x2 x3 x4 x5 q16.1 q38.1 q38.2
      else
        f_X9_layGoes_155 (f_X9_layGoes_114 n9) x1 x2 x3 x4 x5 q16.1 1 q16.2
      else none
noncomputable def f_X9_layGoes_74  (t0 : Int64) (w : GW) : Option (Unit × GW) :=
  some ((), (sI (sL w 130 37 t0) 130 39 (gI (sL w 130 37 t0) 130 22)))
noncomputable def f_X9_layGoes (x1 : Int32) (w : GW) : Option (Unit × GW) :=
  if inb 5 9 then
  if inb (18 + (gI w 135 (ix 5))) 135 then
  if inb 6 9 then
  (f_X9_isDoor ((gI (sI (sL (sL w 130 37 0) 130 38 1) 130 39 (-5)) 135 (ix 6)) + 1) (sI (sL (sL w 130 37 0) 130 38 1) 130 39 (-5))).bind fun q4 =>
  if q4.1 = 0 then
    if inb (24 + (gI w 135 (ix 5))) 135 then
    (f_X9_waysOf (gI q4.2 133 (ix (24 + (gI w 135 (ix 5))))) (gI w 133 (ix (18 + (gI w 135 (ix 5))))) q4.2).bind fun q9 =>
    (f_X9_glancesOf (gI w 133 (ix (18 + (gI w 135 (ix 5))))) (sL q9.2 130 38 q9.1)).bind fun q11 =>
    f_X9_layGoes_114 fu x1 (gI w 135 (ix 5)) (gI w 133 (ix (18 + (gI w 135 (ix 5))))) q11.1 0 q11.2
    else none
  else
    (f_X9_layDay q4.2).bind fun q40 =>
    if inb 36 135 then
    (f_X9_goesTo (gI q40.2 133 (ix 36)) q40.2).bind fun q43 =>
    if q43.1 = x1 then
      f_X9_layGoes_74 1 q43.2
    else
      f_X9_layGoes_74 0 q43.2
    else none
  else none
  else none
  else none
set_option maxHeartbeats 4000000 in
set_option maxRecDepth 100000 in
theorem w_X9_layGoes_287 {p : Program} {l : Launch} {e : Env} {s : State} {m : MethodId} {args : Array Value} {below : List Frame} {meth : Method} {c : Code} {G : GG} (F : CallFix p m c cX9_layGoes 10 s args (wsU yX9_layGoes cX9_layGoes 10 none) RX9) (hr : meth.sig.returnType = none) (hlk : meth.locks = false) {z : Unit × GW} {k_114 : Int32 → Int32 → Int32 → Int32 → Int32 → GW → Option (Unit × GW)} (Hk_114 : (∀ (x1 : Int32) (x2 : Int32) (x3 : Int32) (x4 : Int32) (x5 : Int32) (w : GW) (H : Heap) (locs : List Loc) (ls : Array Slot), St G w s H locs → lv_has ls 10 [(0, .ref (gad G 130)), (1, .int x1), (2, .int x2), (3, .int x3), (4, .int x4), (5, .int x5)] → k_114 x1 x2 x3 x4 x5 w = some z → W p l e (headSpec (wsU yX9_layGoes cX9_layGoes 10 none) rm_X9_layGoes).room s m args below meth c H locs 0 0 (MQ below (QV G z) args s 0 0 (gA G)) (F0 m 114 ls []))) {k_160 : Int32 → Int32 → Int32 → Int32 → Int32 → Int64 → Int32 → Int32 → GW → Option (Unit × GW)} (Hk_160 : (∀ (x1 : Int32) (x2 : Int32) (x3 : Int32) (x4 : Int32) (x5 : Int32) (x6 : Int64) (x8 : Int32) (x9 : Int32) (w : GW) (H : Heap) (locs : List Loc) (ls : Array Slot), St G w s H locs → lv_has ls 10 [(0, .ref (gad G 130)), (1, .int x1), (2, .int x2), (3, .int x3), (4, .int x4), (5, .int x5), (6, .long x6), (8, .int x8), (9, .int x9)] → k_160 x1 x2 x3 x4 x5 x6 x8 x9 w = some z → W p l e (headSpec (wsU yX9_layGoes cX9_layGoes 10 none) rm_X9_layGoes).room s m args below meth c H locs 0 0 (MQ below (QV G z) args s 0 0 (gA G)) (F0 m 160 ls []))) : (∀ (x1 : Int32) (x2 : Int32) (x3 : Int32) (x4 : Int32) (x5 : Int32) (x6 : Int64) (x8 : Int32) (x9 : Int32) (w : GW) (H : Heap) (locs : List Loc) (ls : Array Slot), St G w s H locs → lv_has ls 10 [(0, .ref (gad G 130)), (1, .int x1), (2, .int x2), (3, .int x3), (4, .int x4), (5, .int x5), (6, .long x6), (8, .int x8), (9, .int x9)] → f_X9_layGoes_287 k_114 k_160 x1 x2 x3 x4 x5 x6 x8 x9 w = some z → W p l e (headSpec (wsU yX9_layGoes cX9_layGoes 10 none) rm_X9_layGoes).room s m args below meth c H locs 0 0 (MQ below (QV G z) args s 0 0 (gA G)) (F0 m 287 ls [])) := by
  obtain ⟨hx, hb, hml, hown, hts⟩ := id F
  have hg : ∀ q ∈ lwg, q.before args s = true := fun q h => hts q (List.mem_cons_of_mem _ h)
  intro x1 x2 x3 x4 x5 x6 x8 x9 w H locs ls S hl hz
  rw [f_X9_layGoes_287] at hz
  refine lv_iinc (v := (x9 + 1)) (lv' := [(9, .int (x9 + 1)), (0, .ref (gad G 130)), (1, .int x1), (2, .int x2), (3, .int x3), (4, .int x4), (5, .int x5), (6, .long x6), (8, .int x8)]) hx hb dX9_layGoes_287 hl (k := 8) rfl rfl (by decide) rfl (fun ls hl => ?_)
  refine lv_goto (tgt := 160) hx hb dX9_layGoes_290 (by decide) ?_
  exact Hk_160 x1 x2 x3 x4 x5 x6 x8 (x9 + 1)  _ _ _ _ S (lv_sub hl [1, 2, 3, 4, 5, 6, 7, 8, 0] rfl) hz
set_option maxHeartbeats 4000000 in
set_option maxRecDepth 100000 in
theorem w_X9_layGoes_284 {p : Program} {l : Launch} {e : Env} {s : State} {m : MethodId} {args : Array Value} {below : List Frame} {meth : Method} {c : Code} {G : GG} (F : CallFix p m c cX9_layGoes 10 s args (wsU yX9_layGoes cX9_layGoes 10 none) RX9) (hr : meth.sig.returnType = none) (hlk : meth.locks = false) {z : Unit × GW} {k_114 : Int32 → Int32 → Int32 → Int32 → Int32 → GW → Option (Unit × GW)} (Hk_114 : (∀ (x1 : Int32) (x2 : Int32) (x3 : Int32) (x4 : Int32) (x5 : Int32) (w : GW) (H : Heap) (locs : List Loc) (ls : Array Slot), St G w s H locs → lv_has ls 10 [(0, .ref (gad G 130)), (1, .int x1), (2, .int x2), (3, .int x3), (4, .int x4), (5, .int x5)] → k_114 x1 x2 x3 x4 x5 w = some z → W p l e (headSpec (wsU yX9_layGoes cX9_layGoes 10 none) rm_X9_layGoes).room s m args below meth c H locs 0 0 (MQ below (QV G z) args s 0 0 (gA G)) (F0 m 114 ls []))) {k_160 : Int32 → Int32 → Int32 → Int32 → Int32 → Int64 → Int32 → Int32 → GW → Option (Unit × GW)} (Hk_160 : (∀ (x1 : Int32) (x2 : Int32) (x3 : Int32) (x4 : Int32) (x5 : Int32) (x6 : Int64) (x8 : Int32) (x9 : Int32) (w : GW) (H : Heap) (locs : List Loc) (ls : Array Slot), St G w s H locs → lv_has ls 10 [(0, .ref (gad G 130)), (1, .int x1), (2, .int x2), (3, .int x3), (4, .int x4), (5, .int x5), (6, .long x6), (8, .int x8), (9, .int x9)] → k_160 x1 x2 x3 x4 x5 x6 x8 x9 w = some z → W p l e (headSpec (wsU yX9_layGoes cX9_layGoes 10 none) rm_X9_layGoes).room s m args below meth c H locs 0 0 (MQ below (QV G z) args s 0 0 (gA G)) (F0 m 160 ls []))) : (∀ (x1 : Int32) (x2 : Int32) (x3 : Int32) (x4 : Int32) (x5 : Int32) (x6 : Int64) (x8 : Int32) (x9 : Int32) (t0 : Int32) (w : GW) (H : Heap) (locs : List Loc) (ls : Array Slot), St G w s H locs → lv_has ls 10 [(0, .ref (gad G 130)), (1, .int x1), (2, .int x2), (3, .int x3), (4, .int x4), (5, .int x5), (6, .long x6), (8, .int x8), (9, .int x9)] → f_X9_layGoes_284 k_114 k_160 x1 x2 x3 x4 x5 x6 x8 x9 t0 w = some z → W p l e (headSpec (wsU yX9_layGoes cX9_layGoes 10 none) rm_X9_layGoes).room s m args below meth c H locs 0 0 (MQ below (QV G z) args s 0 0 (gA G)) (F0 m 284 ls [.int t0, .ref (gad G 130)])) := by
  obtain ⟨hx, hb, hml, hown, hts⟩ := id F
  have hg : ∀ q ∈ lwg, q.before args s = true := fun q h => hts q (List.mem_cons_of_mem _ h)
  intro x1 x2 x3 x4 x5 x6 x8 x9 t0 w H locs ls S hl hz
  rw [f_X9_layGoes_284] at hz
  refine fp_X9_39 (v := t0) hx hb (fun q h => hg q (tl_X9 q h)) hown (hg _ t_fl_X9_402) S (by decide) dX9_layGoes_284 (fun H locs S => ?_)
  exact w_X9_layGoes_287 F hr hlk Hk_114 Hk_160 x1 x2 x3 x4 x5 x6 x8 x9 _ _ _ _ S (lv_sub hl [0, 1, 2, 3, 4, 5, 6, 7, 8] rfl) hz
set_option maxHeartbeats 4000000 in
set_option maxRecDepth 100000 in
theorem w_X9_layGoes_275 {p : Program} {l : Launch} {e : Env} {s : State} {m : MethodId} {args : Array Value} {below : List Frame} {meth : Method} {c : Code} {G : GG} (F : CallFix p m c cX9_layGoes 10 s args (wsU yX9_layGoes cX9_layGoes 10 none) RX9) (hr : meth.sig.returnType = none) (hlk : meth.locks = false) {z : Unit × GW} {k_114 : Int32 → Int32 → Int32 → Int32 → Int32 → GW → Option (Unit × GW)} (Hk_114 : (∀ (x1 : Int32) (x2 : Int32) (x3 : Int32) (x4 : Int32) (x5 : Int32) (w : GW) (H : Heap) (locs : List Loc) (ls : Array Slot), St G w s H locs → lv_has ls 10 [(0, .ref (gad G 130)), (1, .int x1), (2, .int x2), (3, .int x3), (4, .int x4), (5, .int x5)] → k_114 x1 x2 x3 x4 x5 w = some z → W p l e (headSpec (wsU yX9_layGoes cX9_layGoes 10 none) rm_X9_layGoes).room s m args below meth c H locs 0 0 (MQ below (QV G z) args s 0 0 (gA G)) (F0 m 114 ls []))) {k_160 : Int32 → Int32 → Int32 → Int32 → Int32 → Int64 → Int32 → Int32 → GW → Option (Unit × GW)} (Hk_160 : (∀ (x1 : Int32) (x2 : Int32) (x3 : Int32) (x4 : Int32) (x5 : Int32) (x6 : Int64) (x8 : Int32) (x9 : Int32) (w : GW) (H : Heap) (locs : List Loc) (ls : Array Slot), St G w s H locs → lv_has ls 10 [(0, .ref (gad G 130)), (1, .int x1), (2, .int x2), (3, .int x3), (4, .int x4), (5, .int x5), (6, .long x6), (8, .int x8), (9, .int x9)] → k_160 x1 x2 x3 x4 x5 x6 x8 x9 w = some z → W p l e (headSpec (wsU yX9_layGoes cX9_layGoes 10 none) rm_X9_layGoes).room s m args below meth c H locs 0 0 (MQ below (QV G z) args s 0 0 (gA G)) (F0 m 160 ls []))) : (∀ (x1 : Int32) (x2 : Int32) (x3 : Int32) (x4 : Int32) (x5 : Int32) (x6 : Int64) (x8 : Int32) (x9 : Int32) (w : GW) (H : Heap) (locs : List Loc) (ls : Array Slot), St G w s H locs → lv_has ls 10 [(0, .ref (gad G 130)), (1, .int x1), (2, .int x2), (3, .int x3), (4, .int x4), (5, .int x5), (6, .long x6), (8, .int x8), (9, .int x9)] → f_X9_layGoes_275 k_114 k_160 x1 x2 x3 x4 x5 x6 x8 x9 w = some z → W p l e (headSpec (wsU yX9_layGoes cX9_layGoes 10 none) rm_X9_layGoes).room s m args below meth c H locs 0 0 (MQ below (QV G z) args s 0 0 (gA G)) (F0 m 275 ls [.ref (gad G 130)])) := by
  obtain ⟨hx, hb, hml, hown, hts⟩ := id F
  have hg : ∀ q ∈ lwg, q.before args s = true := fun q h => hts q (List.mem_cons_of_mem _ h)
  intro x1 x2 x3 x4 x5 x6 x8 x9 w H locs ls S hl hz
  rw [f_X9_layGoes_275] at hz
  refine lv_aload_n hx hb dX9_layGoes_275 rfl (lv_at hl 0 rfl) ?_
  refine fg_X9_22 hx hb (fun q h => hg q (tl_X9 q h)) hown (hg _ t_fl_X9_228) S (by decide) dX9_layGoes_276 ?_
  refine lv_goto (tgt := 284) hx hb dX9_layGoes_279 (by decide) ?_
  exact w_X9_layGoes_284 F hr hlk Hk_114 Hk_160 x1 x2 x3 x4 x5 x6 x8 x9 (gI w 130 22) _ _ _ _ S (lv_sub hl [0, 1, 2, 3, 4, 5, 6, 7, 8] rfl) hz
set_option maxHeartbeats 4000000 in
set_option maxRecDepth 100000 in
theorem w_X9_layGoes_250 {p : Program} {l : Launch} {e : Env} {s : State} {m : MethodId} {args : Array Value} {below : List Frame} {meth : Method} {c : Code} {G : GG} (F : CallFix p m c cX9_layGoes 10 s args (wsU yX9_layGoes cX9_layGoes 10 none) RX9) (hr : meth.sig.returnType = none) (hlk : meth.locks = false) {z : Unit × GW} {k_114 : Int32 → Int32 → Int32 → Int32 → Int32 → GW → Option (Unit × GW)} (Hk_114 : (∀ (x1 : Int32) (x2 : Int32) (x3 : Int32) (x4 : Int32) (x5 : Int32) (w : GW) (H : Heap) (locs : List Loc) (ls : Array Slot), St G w s H locs → lv_has ls 10 [(0, .ref (gad G 130)), (1, .int x1), (2, .int x2), (3, .int x3), (4, .int x4), (5, .int x5)] → k_114 x1 x2 x3 x4 x5 w = some z → W p l e (headSpec (wsU yX9_layGoes cX9_layGoes 10 none) rm_X9_layGoes).room s m args below meth c H locs 0 0 (MQ below (QV G z) args s 0 0 (gA G)) (F0 m 114 ls []))) {k_160 : Int32 → Int32 → Int32 → Int32 → Int32 → Int64 → Int32 → Int32 → GW → Option (Unit × GW)} (Hk_160 : (∀ (x1 : Int32) (x2 : Int32) (x3 : Int32) (x4 : Int32) (x5 : Int32) (x6 : Int64) (x8 : Int32) (x9 : Int32) (w : GW) (H : Heap) (locs : List Loc) (ls : Array Slot), St G w s H locs → lv_has ls 10 [(0, .ref (gad G 130)), (1, .int x1), (2, .int x2), (3, .int x3), (4, .int x4), (5, .int x5), (6, .long x6), (8, .int x8), (9, .int x9)] → k_160 x1 x2 x3 x4 x5 x6 x8 x9 w = some z → W p l e (headSpec (wsU yX9_layGoes cX9_layGoes 10 none) rm_X9_layGoes).room s m args below meth c H locs 0 0 (MQ below (QV G z) args s 0 0 (gA G)) (F0 m 160 ls []))) : (∀ (x1 : Int32) (x2 : Int32) (x3 : Int32) (x4 : Int32) (x5 : Int32) (x6 : Int64) (x8 : Int32) (x9 : Int32) (t0 : Int64) (t1 : Int64) (w : GW) (H : Heap) (locs : List Loc) (ls : Array Slot), St G w s H locs → lv_has ls 10 [(0, .ref (gad G 130)), (1, .int x1), (2, .int x2), (3, .int x3), (4, .int x4), (5, .int x5), (6, .long x6), (8, .int x8), (9, .int x9)] → f_X9_layGoes_250 k_114 k_160 x1 x2 x3 x4 x5 x6 x8 x9 t0 t1 w = some z → W p l e (headSpec (wsU yX9_layGoes cX9_layGoes 10 none) rm_X9_layGoes).room s m args below meth c H locs 0 0 (MQ below (QV G z) args s 0 0 (gA G)) (F0 m 250 ls [.long t0, .long t1, .ref (gad G 130)])) := by
  obtain ⟨hx, hb, hml, hown, hts⟩ := id F
  have hg : ∀ q ∈ lwg, q.before args s = true := fun q h => hts q (List.mem_cons_of_mem _ h)
  intro x1 x2 x3 x4 x5 x6 x8 x9 t0 t1 w H locs ls S hl hz
  rw [f_X9_layGoes_250] at hz
  refine lv_ladd hx hb dX9_layGoes_250 ?_
  refine fp_X9_37 (v := (t1 + t0)) hx hb (fun q h => hg q (tl_X9 q h)) hown (hg _ t_fl_X9_396) S (by decide) dX9_layGoes_251 (fun H locs S => ?_)
  refine lv_aload_n hx hb dX9_layGoes_254 rfl (lv_at hl 0 rfl) ?_
  refine lv_aload_n hx hb dX9_layGoes_255 rfl (lv_at hl 0 rfl) ?_
  refine fg_X9_39 hx hb (fun q h => hg q (tl_X9 q h)) hown (hg _ t_fl_X9_402) S (by decide) dX9_layGoes_256 ?_
  refine lv_bipush (v := (-5)) hx hb dX9_layGoes_259 (by decide) ?_
  refine lv_icmp_eq (tgt := 275) hx hb dX9_layGoes_261 (by decide) (fun c33 => ?_) (fun c33 => ?_)
  · have hz := ipt (c33) hz
    exact w_X9_layGoes_275 F hr hlk Hk_114 Hk_160 x1 x2 x3 x4 x5 x6 x8 x9 _ _ _ _ S (lv_sub hl [0, 1, 2, 3, 4, 5, 6, 7, 8] rfl) hz
  · have hz := ipf (c33) hz
    refine lv_aload_n hx hb dX9_layGoes_264 rfl (lv_at hl 0 rfl) ?_
    refine fg_X9_39 hx hb (fun q h => hg q (tl_X9 q h)) hown (hg _ t_fl_X9_402) S (by decide) dX9_layGoes_265 ?_
    refine lv_aload_n hx hb dX9_layGoes_268 rfl (lv_at hl 0 rfl) ?_
    refine fg_X9_22 hx hb (fun q h => hg q (tl_X9 q h)) hown (hg _ t_fl_X9_228) S (by decide) dX9_layGoes_269 ?_
    refine lv_icmp_ne (tgt := 282) hx hb dX9_layGoes_272 (by decide) (fun c34 => ?_) (fun c34 => ?_)
    · have hz := ipf (c34) hz
      refine lv_bipush (v := (-6)) hx hb dX9_layGoes_282 (by decide) ?_
      exact w_X9_layGoes_284 F hr hlk Hk_114 Hk_160 x1 x2 x3 x4 x5 x6 x8 x9 (-6) _ _ _ _ S (lv_sub hl [0, 1, 2, 3, 4, 5, 6, 7, 8] rfl) hz
    · have hz := ipt (c34) hz
      exact w_X9_layGoes_275 F hr hlk Hk_114 Hk_160 x1 x2 x3 x4 x5 x6 x8 x9 _ _ _ _ S (lv_sub hl [0, 1, 2, 3, 4, 5, 6, 7, 8] rfl) hz
set_option maxHeartbeats 4000000 in
set_option maxRecDepth 100000 in
theorem w_X9_layGoes_160 {p : Program} {l : Launch} {e : Env} {s : State} {m : MethodId} {args : Array Value} {below : List Frame} {meth : Method} {c : Code} {G : GG} (F : CallFix p m c cX9_layGoes 10 s args (wsU yX9_layGoes cX9_layGoes 10 none) RX9) (hr : meth.sig.returnType = none) (hlk : meth.locks = false) {z : Unit × GW} {k_114 : Int32 → Int32 → Int32 → Int32 → Int32 → GW → Option (Unit × GW)} (Hk_114 : (∀ (x1 : Int32) (x2 : Int32) (x3 : Int32) (x4 : Int32) (x5 : Int32) (w : GW) (H : Heap) (locs : List Loc) (ls : Array Slot), St G w s H locs → lv_has ls 10 [(0, .ref (gad G 130)), (1, .int x1), (2, .int x2), (3, .int x3), (4, .int x4), (5, .int x5)] → k_114 x1 x2 x3 x4 x5 w = some z → W p l e (headSpec (wsU yX9_layGoes cX9_layGoes 10 none) rm_X9_layGoes).room s m args below meth c H locs 0 0 (MQ below (QV G z) args s 0 0 (gA G)) (F0 m 114 ls []))) : ∀ (n9 : Nat), (∀ (x1 : Int32) (x2 : Int32) (x3 : Int32) (x4 : Int32) (x5 : Int32) (x6 : Int64) (x8 : Int32) (x9 : Int32) (w : GW) (H : Heap) (locs : List Loc) (ls : Array Slot), St G w s H locs → lv_has ls 10 [(0, .ref (gad G 130)), (1, .int x1), (2, .int x2), (3, .int x3), (4, .int x4), (5, .int x5), (6, .long x6), (8, .int x8), (9, .int x9)] → f_X9_layGoes_160 k_114 n9 x1 x2 x3 x4 x5 x6 x8 x9 w = some z → W p l e (headSpec (wsU yX9_layGoes cX9_layGoes 10 none) rm_X9_layGoes).room s m args below meth c H locs 0 0 (MQ below (QV G z) args s 0 0 (gA G)) (F0 m 160 ls [])) := by
  obtain ⟨hx, hb, hml, hown, hts⟩ := id F
  have hg : ∀ q ∈ lwg, q.before args s = true := fun q h => hts q (List.mem_cons_of_mem _ h)
  intro n9
  induction n9 with
  | zero =>
    intro x1 x2 x3 x4 x5 x6 x8 x9 w H locs ls S hl hz
    rw [f_X9_layGoes_160] at hz
    cases hz
  | succ n9 ih =>
    intro x1 x2 x3 x4 x5 x6 x8 x9 w H locs ls S hl hz
    rw [f_X9_layGoes_160] at hz
    refine lv_iload hx hb dX9_layGoes_160 (lv_at hl 8 rfl) ?_
    refine lv_iload hx hb dX9_layGoes_162 (lv_at hl 7 rfl) ?_
    refine lv_icmp_ge (tgt := 293) hx hb dX9_layGoes_164 (by decide) (fun c20 => ?_) (fun c20 => ?_)
    · have hz := ipt (c20) hz
      refine lv_iinc (v := (x5 + 1)) (lv' := [(5, .int (x5 + 1)), (0, .ref (gad G 130)), (1, .int x1), (2, .int x2), (3, .int x3), (4, .int x4), (6, .long x6), (8, .int x8), (9, .int x9)]) hx hb dX9_layGoes_293 hl (k := 5) rfl rfl (by decide) rfl (fun ls hl => ?_)
      refine lv_goto (tgt := 114) hx hb dX9_layGoes_296 (by decide) ?_
      exact Hk_114 x1 x2 x3 x4 (x5 + 1)  _ _ _ _ S (lv_sub hl [1, 2, 3, 4, 5, 0] rfl) hz
    · have hz := ipf (c20) hz
      refine lv_aload_n hx hb dX9_layGoes_167 rfl (lv_at hl 0 rfl) ?_
      obtain ⟨q21, e22, hz⟩ := bd hz
      refine g_callVv (As := []) (rest := []) F S (c_X9_layDay l G   _ e22) (cw_X9_layGoes_X9_layDay_384 hg) (S.obj (by decide) (by decide) rfl (oc_X9 _ _ _ (by decide))) rfl hl.1 rfl (Nat.le_of_ble_eq_true rfl) ⟨Nat.zero_le _, Nat.zero_le _⟩ dX9_layGoes_168 (fun H locs  S => ?_)
      refine lv_aload_n hx hb dX9_layGoes_171 rfl (lv_at hl 0 rfl) ?_
      refine lv_aload_n hx hb dX9_layGoes_172 rfl (lv_at hl 0 rfl) ?_
      refine fg_X9_15 hx hb (fun q h => hg q (tl_X9 q h)) hown (hg _ t_fl_X9_20) S (by decide) dX9_layGoes_173 ?_
      refine lv_bipush (v := 24) hx hb dX9_layGoes_176 (by decide) ?_
      refine lv_iload_n hx hb dX9_layGoes_178 rfl (lv_at hl 2 rfl) ?_
      refine lv_iadd hx hb dX9_layGoes_179 ?_
      obtain ⟨h23, hz⟩ := ck hz
      refine g_iald hx hb S (isA_15 (by decide)) h23 dX9_layGoes_180 ?_
      refine lv_iload_n hx hb dX9_layGoes_181 rfl (lv_at hl 3 rfl) ?_
      refine lv_aload_n hx hb dX9_layGoes_182 rfl (lv_at hl 0 rfl) ?_
      refine lv_aload_n hx hb dX9_layGoes_183 rfl (lv_at hl 0 rfl) ?_
      refine fg_X9_15 hx hb (fun q h => hg q (tl_X9 q h)) hown (hg _ t_fl_X9_20) S (by decide) dX9_layGoes_184 ?_
      refine lv_bipush (v := 24) hx hb dX9_layGoes_187 (by decide) ?_
      refine lv_iload_n hx hb dX9_layGoes_189 rfl (lv_at hl 2 rfl) ?_
      refine lv_iadd hx hb dX9_layGoes_190 ?_
      obtain ⟨h24, hz⟩ := ck hz
      refine g_iald hx hb S (isA_15 (by decide)) h24 dX9_layGoes_191 ?_
      refine lv_aload_n hx hb dX9_layGoes_192 rfl (lv_at hl 0 rfl) ?_
      refine fg_X9_15 hx hb (fun q h => hg q (tl_X9 q h)) hown (hg _ t_fl_X9_20) S (by decide) dX9_layGoes_193 ?_
      refine lv_bipush (v := 30) hx hb dX9_layGoes_196 (by decide) ?_
      refine lv_iload_n hx hb dX9_layGoes_198 rfl (lv_at hl 2 rfl) ?_
      refine lv_iadd hx hb dX9_layGoes_199 ?_
      obtain ⟨h25, hz⟩ := ck hz
      refine g_iald hx hb S (isA_15 (by decide)) h25 dX9_layGoes_200 ?_
      refine lv_iload_n hx hb dX9_layGoes_201 rfl (lv_at hl 3 rfl) ?_
      refine lv_iload hx hb dX9_layGoes_202 (lv_at hl 8 rfl) ?_
      obtain ⟨q26, e27, hz⟩ := bd hz
      refine g_callVi (As := [.int (gI q21.2 133 (ix (24 + x2))), .int (gI q21.2 133 (ix (30 + x2))), .int x3, .int x9]) (rest := [.int x3, .int (gI q21.2 133 (ix (24 + x2))), .ref (gad G 130)]) F S (c_X9_taken l G (gI q21.2 133 (ix (24 + x2))) (gI q21.2 133 (ix (30 + x2))) x3 x9  _ e27) (cw_X9_layGoes_X9_taken_301 hg) (S.obj (by decide) (by decide) rfl (oc_X9 _ _ _ (by decide))) rfl hl.1 rfl (Nat.le_of_ble_eq_true rfl) ⟨Nat.zero_le _, Nat.zero_le _⟩ dX9_layGoes_204 (fun H locs  S => ?_)
      obtain ⟨q28, e29, hz⟩ := bd hz
      refine g_callVi (As := [.int (gI q21.2 133 (ix (24 + x2))), .int x3, .int q26.1]) (rest := []) F S (c_X9_puts l G (gI q21.2 133 (ix (24 + x2))) x3 q26.1  _ e29) (cw_X9_layGoes_X9_puts_305 hg) (S.obj (by decide) (by decide) rfl (oc_X9 _ _ _ (by decide))) rfl hl.1 rfl (Nat.le_of_ble_eq_true rfl) ⟨Nat.zero_le _, Nat.zero_le _⟩ dX9_layGoes_207 (fun H locs  S => ?_)
      refine lv_iload_n hx hb dX9_layGoes_210 rfl (lv_at hl 1 rfl) ?_
      refine lv_icmp_eq (tgt := 217) hx hb dX9_layGoes_211 (by decide) (fun c30 => ?_) (fun c30 => ?_)
      · have hz := ipt (c30) hz
        refine lv_aload_n hx hb dX9_layGoes_217 rfl (lv_at hl 0 rfl) ?_
        refine lv_dup hx hb dX9_layGoes_218 rfl ?_
        refine fg_X9_37 hx hb (fun q h => hg q (tl_X9 q h)) hown (hg _ t_fl_X9_396) S (by decide) dX9_layGoes_219 ?_
        refine lv_aload_n hx hb dX9_layGoes_222 rfl (lv_at hl 0 rfl) ?_
        refine fg_X9_15 hx hb (fun q h => hg q (tl_X9 q h)) hown (hg _ t_fl_X9_20) S (by decide) dX9_layGoes_223 ?_
        refine lv_bipush (v := 24) hx hb dX9_layGoes_226 (by decide) ?_
        refine lv_iload_n hx hb dX9_layGoes_228 rfl (lv_at hl 2 rfl) ?_
        refine lv_iadd hx hb dX9_layGoes_229 ?_
        obtain ⟨h31, hz⟩ := ck hz
        refine g_iald hx hb S (isA_15 (by decide)) h31 dX9_layGoes_230 ?_
        refine lv_if_ne (tgt := 248) hx hb dX9_layGoes_231 (by decide) (fun c32 => ?_) (fun c32 => ?_)
        · have hz := ipf (c32) hz
          refine lv_lload hx hb dX9_layGoes_248 (lv_at hl 6 rfl) ?_
          exact w_X9_layGoes_250 F hr hlk Hk_114 ih x1 x2 x3 x4 x5 x6 x8 x9 x6 (gL q28.2 130 37) _ _ _ _ S (lv_sub hl [0, 1, 2, 3, 4, 5, 6, 7, 8] rfl) hz
        · have hz := ipt (c32) hz
          refine lv_lload hx hb dX9_layGoes_234 (lv_at hl 6 rfl) ?_
          refine lv_iload_n hx hb dX9_layGoes_236 rfl (lv_at hl 3 rfl) ?_
          obtain ⟨q35, e36, hz⟩ := bd hz
          refine g_callSl (As := [.int x3]) (rest := [.long x6, .long (gL q28.2 130 37), .ref (gad G 130)]) F S (c_X9_tiesOf l G x3  _ e36) (cw_X9_layGoes_X9_tiesOf_243 hg) rfl hl.1 rfl (Nat.le_of_ble_eq_true rfl) ⟨Nat.zero_le _, Nat.zero_le _⟩ dX9_layGoes_237 (fun H locs  S => ?_)
          refine lv_iload hx hb dX9_layGoes_240 (lv_at hl 7 rfl) ?_
          refine lv_i2l (v := x8.toInt64) hx hb dX9_layGoes_242 rfl ?_
          obtain ⟨h37, hz⟩ := ck hz
          refine g_ldiv hx hb dX9_layGoes_243 h37 ?_
          refine lv_lmul hx hb dX9_layGoes_244 ?_
          refine lv_goto (tgt := 250) hx hb dX9_layGoes_245 (by decide) ?_
          exact w_X9_layGoes_250 F hr hlk Hk_114 ih x1 x2 x3 x4 x5 x6 x8 x9 (x6 * (q35.1 / (x8.toInt64))) (gL q28.2 130 37) _ _ _ _ S (lv_sub hl [0, 1, 2, 3, 4, 5, 6, 7, 8] rfl) hz
      · have hz := ipf (c30) hz
        refine lv_goto (tgt := 287) hx hb dX9_layGoes_214 (by decide) ?_
        exact w_X9_layGoes_287 F hr hlk Hk_114 ih x1 x2 x3 x4 x5 x6 x8 x9 _ _ _ _ S (lv_sub hl [0, 1, 2, 3, 4, 5, 6, 7, 8] rfl) hz
set_option maxHeartbeats 4000000 in
set_option maxRecDepth 100000 in
theorem w_X9_layGoes_155 {p : Program} {l : Launch} {e : Env} {s : State} {m : MethodId} {args : Array Value} {below : List Frame} {meth : Method} {c : Code} {G : GG} (F : CallFix p m c cX9_layGoes 10 s args (wsU yX9_layGoes cX9_layGoes 10 none) RX9) (hr : meth.sig.returnType = none) (hlk : meth.locks = false) {z : Unit × GW} {k_114 : Int32 → Int32 → Int32 → Int32 → Int32 → GW → Option (Unit × GW)} (Hk_114 : (∀ (x1 : Int32) (x2 : Int32) (x3 : Int32) (x4 : Int32) (x5 : Int32) (w : GW) (H : Heap) (locs : List Loc) (ls : Array Slot), St G w s H locs → lv_has ls 10 [(0, .ref (gad G 130)), (1, .int x1), (2, .int x2), (3, .int x3), (4, .int x4), (5, .int x5)] → k_114 x1 x2 x3 x4 x5 w = some z → W p l e (headSpec (wsU yX9_layGoes cX9_layGoes 10 none) rm_X9_layGoes).room s m args below meth c H locs 0 0 (MQ below (QV G z) args s 0 0 (gA G)) (F0 m 114 ls []))) : (∀ (x1 : Int32) (x2 : Int32) (x3 : Int32) (x4 : Int32) (x5 : Int32) (x6 : Int64) (t0 : Int32) (w : GW) (H : Heap) (locs : List Loc) (ls : Array Slot), St G w s H locs → lv_has ls 10 [(0, .ref (gad G 130)), (1, .int x1), (2, .int x2), (3, .int x3), (4, .int x4), (5, .int x5), (6, .long x6)] → f_X9_layGoes_155 k_114 x1 x2 x3 x4 x5 x6 t0 w = some z → W p l e (headSpec (wsU yX9_layGoes cX9_layGoes 10 none) rm_X9_layGoes).room s m args below meth c H locs 0 0 (MQ below (QV G z) args s 0 0 (gA G)) (F0 m 155 ls [.int t0])) := by
  obtain ⟨hx, hb, hml, hown, hts⟩ := id F
  have hg : ∀ q ∈ lwg, q.before args s = true := fun q h => hts q (List.mem_cons_of_mem _ h)
  intro x1 x2 x3 x4 x5 x6 t0 w H locs ls S hl hz
  rw [f_X9_layGoes_155] at hz
  refine lv_istore (lv' := [(8, .int t0), (0, .ref (gad G 130)), (1, .int x1), (2, .int x2), (3, .int x3), (4, .int x4), (5, .int x5), (6, .long x6)]) hx hb dX9_layGoes_155 hl (by decide) rfl (fun ls hl => ?_)
  refine lv_iconst (v := 0) hx hb dX9_layGoes_157 (by decide) ?_
  refine lv_istore (lv' := [(9, .int 0), (8, .int t0), (0, .ref (gad G 130)), (1, .int x1), (2, .int x2), (3, .int x3), (4, .int x4), (5, .int x5), (6, .long x6)]) hx hb dX9_layGoes_158 hl (by decide) rfl (fun ls hl => ?_)
  exact w_X9_layGoes_160 F hr hlk Hk_114 fu x1 x2 x3 x4 x5 x6 t0 0 _ _ _ _ S (lv_sub hl [2, 3, 4, 5, 6, 7, 8, 1, 0] rfl) hz
set_option maxHeartbeats 4000000 in
set_option maxRecDepth 100000 in
theorem w_X9_layGoes_114 {p : Program} {l : Launch} {e : Env} {s : State} {m : MethodId} {args : Array Value} {below : List Frame} {meth : Method} {c : Code} {G : GG} (F : CallFix p m c cX9_layGoes 10 s args (wsU yX9_layGoes cX9_layGoes 10 none) RX9) (hr : meth.sig.returnType = none) (hlk : meth.locks = false) {z : Unit × GW} : ∀ (n9 : Nat), (∀ (x1 : Int32) (x2 : Int32) (x3 : Int32) (x4 : Int32) (x5 : Int32) (w : GW) (H : Heap) (locs : List Loc) (ls : Array Slot), St G w s H locs → lv_has ls 10 [(0, .ref (gad G 130)), (1, .int x1), (2, .int x2), (3, .int x3), (4, .int x4), (5, .int x5)] → f_X9_layGoes_114 n9 x1 x2 x3 x4 x5 w = some z → W p l e (headSpec (wsU yX9_layGoes cX9_layGoes 10 none) rm_X9_layGoes).room s m args below meth c H locs 0 0 (MQ below (QV G z) args s 0 0 (gA G)) (F0 m 114 ls [])) := by
  obtain ⟨hx, hb, hml, hown, hts⟩ := id F
  have hg : ∀ q ∈ lwg, q.before args s = true := fun q h => hts q (List.mem_cons_of_mem _ h)
  intro n9
  induction n9 with
  | zero =>
    intro x1 x2 x3 x4 x5 w H locs ls S hl hz
    rw [f_X9_layGoes_114] at hz
    cases hz
  | succ n9 ih =>
    intro x1 x2 x3 x4 x5 w H locs ls S hl hz
    rw [f_X9_layGoes_114] at hz
    refine lv_iload hx hb dX9_layGoes_114 (lv_at hl 5 rfl) ?_
    refine lv_iload hx hb dX9_layGoes_116 (lv_at hl 4 rfl) ?_
    refine lv_icmp_ge (tgt := 299) hx hb dX9_layGoes_118 (by decide) (fun c13 => ?_) (fun c13 => ?_)
    · have hz := ipt (c13) hz
      exact g_retv hx hb hr hlk S hz dX9_layGoes_299
    · have hz := ipf (c13) hz
      refine lv_aload_n hx hb dX9_layGoes_121 rfl (lv_at hl 0 rfl) ?_
      obtain ⟨q14, e15, hz⟩ := bd hz
      refine g_callVv (As := []) (rest := []) F S (c_X9_layDay l G   _ e15) (cw_X9_layGoes_X9_layDay_384 hg) (S.obj (by decide) (by decide) rfl (oc_X9 _ _ _ (by decide))) rfl hl.1 rfl (Nat.le_of_ble_eq_true rfl) ⟨Nat.zero_le _, Nat.zero_le _⟩ dX9_layGoes_122 (fun H locs  S => ?_)
      refine lv_aload_n hx hb dX9_layGoes_125 rfl (lv_at hl 0 rfl) ?_
      refine lv_iload hx hb dX9_layGoes_126 (lv_at hl 5 rfl) ?_
      refine lv_iload_n hx hb dX9_layGoes_128 rfl (lv_at hl 3 rfl) ?_
      obtain ⟨q16, e17, hz⟩ := bd hz
      refine g_callVl (As := [.int x5, .int x3]) (rest := []) F S (c_X9_layGlances l G x5 x3  _ e17) (cw_X9_layGoes_X9_layGlances_295 hg) (S.obj (by decide) (by decide) rfl (oc_X9 _ _ _ (by decide))) rfl hl.1 rfl (Nat.le_of_ble_eq_true rfl) ⟨Nat.zero_le _, Nat.zero_le _⟩ dX9_layGoes_129 (fun H locs  S => ?_)
      refine lv_lstore (lv' := [(6, .long q16.1), (0, .ref (gad G 130)), (1, .int x1), (2, .int x2), (3, .int x3), (4, .int x4), (5, .int x5)]) hx hb dX9_layGoes_132 hl (by decide) rfl (fun ls hl => ?_)
      refine lv_aload_n hx hb dX9_layGoes_134 rfl (lv_at hl 1 rfl) ?_
      refine fg_X9_15 hx hb (fun q h => hg q (tl_X9 q h)) hown (hg _ t_fl_X9_20) S (by decide) dX9_layGoes_135 ?_
      refine lv_bipush (v := 24) hx hb dX9_layGoes_138 (by decide) ?_
      refine lv_iload_n hx hb dX9_layGoes_140 rfl (lv_at hl 3 rfl) ?_
      refine lv_iadd hx hb dX9_layGoes_141 ?_
      obtain ⟨h18, hz⟩ := ck hz
      refine g_iald hx hb S (isA_15 (by decide)) h18 dX9_layGoes_142 ?_
      refine lv_if_ne (tgt := 154) hx hb dX9_layGoes_143 (by decide) (fun c19 => ?_) (fun c19 => ?_)
      · have hz := ipf (c19) hz
        refine lv_iconst (v := 1) hx hb dX9_layGoes_154 (by decide) ?_
        exact w_X9_layGoes_155 F hr hlk ih x1 x2 x3 x4 x5 q16.1 1 _ _ _ _ S (lv_sub hl [1, 2, 3, 4, 5, 6, 0] rfl) hz
      · have hz := ipt (c19) hz
        refine lv_aload_n hx hb dX9_layGoes_146 rfl (lv_at hl 1 rfl) ?_
        refine lv_iload_n hx hb dX9_layGoes_147 rfl (lv_at hl 4 rfl) ?_
        obtain ⟨q38, e39, hz⟩ := bd hz
        refine g_callVi (As := [.int x3]) (rest := []) F S (c_X9_ties l G x3  _ e39) (cw_X9_layGoes_X9_ties_298 hg) (S.obj (by decide) (by decide) rfl (oc_X9 _ _ _ (by decide))) rfl hl.1 rfl (Nat.le_of_ble_eq_true rfl) ⟨Nat.zero_le _, Nat.zero_le _⟩ dX9_layGoes_148 (fun H locs  S => ?_)
        refine lv_goto (tgt := 155) hx hb dX9_layGoes_151 (by decide) ?_
        exact w_X9_layGoes_155 F hr hlk ih x1 x2 x3 x4 x5 q16.1 q38.1 _ _ _ _ S (lv_sub hl [1, 2, 3, 4, 5, 6, 0] rfl) hz
set_option maxHeartbeats 4000000 in
set_option maxRecDepth 100000 in
theorem w_X9_layGoes_74 {p : Program} {l : Launch} {e : Env} {s : State} {m : MethodId} {args : Array Value} {below : List Frame} {meth : Method} {c : Code} {G : GG} (F : CallFix p m c cX9_layGoes 10 s args (wsU yX9_layGoes cX9_layGoes 10 none) RX9) (hr : meth.sig.returnType = none) (hlk : meth.locks = false) {z : Unit × GW} : (∀ (t0 : Int64) (w : GW) (H : Heap) (locs : List Loc) (ls : Array Slot), St G w s H locs → lv_has ls 10 [(0, .ref (gad G 130))] → f_X9_layGoes_74 t0 w = some z → W p l e (headSpec (wsU yX9_layGoes cX9_layGoes 10 none) rm_X9_layGoes).room s m args below meth c H locs 0 0 (MQ below (QV G z) args s 0 0 (gA G)) (F0 m 74 ls [.long t0, .ref (gad G 130)])) := by
  obtain ⟨hx, hb, hml, hown, hts⟩ := id F
  have hg : ∀ q ∈ lwg, q.before args s = true := fun q h => hts q (List.mem_cons_of_mem _ h)
  intro t0 w H locs ls S hl hz
  rw [f_X9_layGoes_74] at hz
  refine fp_X9_37 (v := t0) hx hb (fun q h => hg q (tl_X9 q h)) hown (hg _ t_fl_X9_396) S (by decide) dX9_layGoes_74 (fun H locs S => ?_)
  refine lv_aload_n hx hb dX9_layGoes_77 rfl (lv_at hl 0 rfl) ?_
  refine lv_aload_n hx hb dX9_layGoes_78 rfl (lv_at hl 0 rfl) ?_
  refine fg_X9_22 hx hb (fun q h => hg q (tl_X9 q h)) hown (hg _ t_fl_X9_228) S (by decide) dX9_layGoes_79 ?_
  refine fp_X9_39 (v := (gI (sL w 130 37 t0) 130 22)) hx hb (fun q h => hg q (tl_X9 q h)) hown (hg _ t_fl_X9_402) S (by decide) dX9_layGoes_82 (fun H locs S => ?_)
  exact g_retv hx hb hr hlk S hz dX9_layGoes_85
set_option maxHeartbeats 4000000 in
set_option maxRecDepth 100000 in
theorem c_X9_layGoes (l : Launch) (G : GG) (x1 : Int32)  (w : GW) {z : Unit × GW} (hz : f_X9_layGoes x1 w = some z) : Met l yX9_layGoes (wsU yX9_layGoes cX9_layGoes 10 none) rm_X9_layGoes (va_Pc [.ref (gad G 130), .int x1] (PreG G w)) (QV G z) 0 0 (gA G) := by
  refine Met.ofW (cc := cX9_layGoes) (maxL := 10) (ret := none) (by decide) rfl ?_
  intro p e s m args below meth c s₁ B hml hv
  obtain ⟨rfl, S⟩ := hv
  have F : CallFix p m c cX9_layGoes 10 s _ (wsU yX9_layGoes cX9_layGoes 10 none) RX9 := ⟨B.exec, B.bytes, hml, findClass_of_methodNamed B.named, atoms_spec B.pre⟩
  have hr := B.returns
  have hlk := B.notSynchronized
  obtain ⟨hx, hb, -, hown, hts⟩ := id F
  have hg : ∀ q ∈ lwg, q.before _ s = true := fun q h => hts q (List.mem_cons_of_mem _ h)
  refine g_entry (Nat.le_of_ble_eq_true rfl) (fun ls hl => ?_)
  have hl : lv_has ls 10 [(0, .ref (gad G 130)), (1, .int x1)] := hl
  have S : St G w s s.heap [] := S
  generalize s.heap = H at S ⊢
  generalize ([] : List Loc) = locs at S ⊢
  rw [f_X9_layGoes] at hz
  refine lv_aload_n hx hb dX9_layGoes_0 rfl (lv_at hl 0 rfl) ?_
  refine fg_X9_17 hx hb (fun q h => hg q (tl_X9 q h)) hown (hg _ t_fl_X9_26) S (by decide) dX9_layGoes_1 ?_
  refine lv_iconst (v := 5) hx hb dX9_layGoes_4 (by decide) ?_
  obtain ⟨h1, hz⟩ := ck hz
  refine g_iald hx hb S (isA_16 (by decide)) h1 dX9_layGoes_5 ?_
  refine lv_istore_n (lv' := [(2, .int (gI w 135 (ix 5))), (0, .ref (gad G 130)), (1, .int x1)]) hx hb dX9_layGoes_6 rfl hl (by decide) rfl (fun ls hl => ?_)
  refine lv_aload_n hx hb dX9_layGoes_7 rfl (lv_at hl 1 rfl) ?_
  refine fg_X9_15 hx hb (fun q h => hg q (tl_X9 q h)) hown (hg _ t_fl_X9_20) S (by decide) dX9_layGoes_8 ?_
  refine lv_bipush (v := 18) hx hb dX9_layGoes_11 (by decide) ?_
  refine lv_iload_n hx hb dX9_layGoes_13 rfl (lv_at hl 0 rfl) ?_
  refine lv_iadd hx hb dX9_layGoes_14 ?_
  obtain ⟨h2, hz⟩ := ck hz
  refine g_iald hx hb S (isA_15 (by decide)) h2 dX9_layGoes_15 ?_
  refine lv_istore_n (lv' := [(3, .int (gI w 133 (ix (18 + (gI w 135 (ix 5)))))), (2, .int (gI w 135 (ix 5))), (0, .ref (gad G 130)), (1, .int x1)]) hx hb dX9_layGoes_16 rfl hl (by decide) rfl (fun ls hl => ?_)
  refine lv_aload_n hx hb dX9_layGoes_17 rfl (lv_at hl 2 rfl) ?_
  refine lv_lconst (v := 0) hx hb dX9_layGoes_18 (by decide) ?_
  refine fp_X9_37 (v := 0) hx hb (fun q h => hg q (tl_X9 q h)) hown (hg _ t_fl_X9_396) S (by decide) dX9_layGoes_19 (fun H locs S => ?_)
  refine lv_aload_n hx hb dX9_layGoes_22 rfl (lv_at hl 2 rfl) ?_
  refine lv_lconst (v := 1) hx hb dX9_layGoes_23 (by decide) ?_
  refine fp_X9_38 (v := 1) hx hb (fun q h => hg q (tl_X9 q h)) hown (hg _ t_fl_X9_399) S (by decide) dX9_layGoes_24 (fun H locs S => ?_)
  refine lv_aload_n hx hb dX9_layGoes_27 rfl (lv_at hl 2 rfl) ?_
  refine lv_bipush (v := (-5)) hx hb dX9_layGoes_28 (by decide) ?_
  refine fp_X9_39 (v := (-5)) hx hb (fun q h => hg q (tl_X9 q h)) hown (hg _ t_fl_X9_402) S (by decide) dX9_layGoes_30 (fun H locs S => ?_)
  refine lv_aload_n hx hb dX9_layGoes_33 rfl (lv_at hl 2 rfl) ?_
  refine lv_aload_n hx hb dX9_layGoes_34 rfl (lv_at hl 2 rfl) ?_
  refine fg_X9_17 hx hb (fun q h => hg q (tl_X9 q h)) hown (hg _ t_fl_X9_26) S (by decide) dX9_layGoes_35 ?_
  refine lv_bipush (v := 6) hx hb dX9_layGoes_38 (by decide) ?_
  obtain ⟨h3, hz⟩ := ck hz
  refine g_iald hx hb S (isA_16 (by decide)) h3 dX9_layGoes_40 ?_
  refine lv_iconst (v := 1) hx hb dX9_layGoes_41 (by decide) ?_
  refine lv_iadd hx hb dX9_layGoes_42 ?_
  obtain ⟨q4, e5, hz⟩ := bd hz
  refine g_callVb (As := [.int ((gI (sI (sL (sL w 130 37 0) 130 38 1) 130 39 (-5)) 135 (ix 6)) + 1)]) (rest := []) F S (c_X9_isDoor l G ((gI (sI (sL (sL w 130 37 0) 130 38 1) 130 39 (-5)) 135 (ix 6)) + 1)  _ e5) (cw_X9_layGoes_X9_isDoor_263 hg) (S.obj (by decide) (by decide) rfl (oc_X9 _ _ _ (by decide))) rfl hl.1 rfl (Nat.le_of_ble_eq_true rfl) ⟨Nat.zero_le _, Nat.zero_le _⟩ dX9_layGoes_43 (fun H locs hB6 S => ?_)
  refine lv_if_eq (tgt := 86) hx hb dX9_layGoes_46 (by decide) (fun c7 => ?_) (fun c7 => ?_)
  · have hz := ipt (c7) hz
    refine lv_aload_n hx hb dX9_layGoes_86 rfl (lv_at hl 2 rfl) ?_
    refine lv_aload_n hx hb dX9_layGoes_87 rfl (lv_at hl 2 rfl) ?_
    refine lv_aload_n hx hb dX9_layGoes_88 rfl (lv_at hl 2 rfl) ?_
    refine fg_X9_15 hx hb (fun q h => hg q (tl_X9 q h)) hown (hg _ t_fl_X9_20) S (by decide) dX9_layGoes_89 ?_
    refine lv_bipush (v := 24) hx hb dX9_layGoes_92 (by decide) ?_
    refine lv_iload_n hx hb dX9_layGoes_94 rfl (lv_at hl 1 rfl) ?_
    refine lv_iadd hx hb dX9_layGoes_95 ?_
    obtain ⟨h8, hz⟩ := ck hz
    refine g_iald hx hb S (isA_15 (by decide)) h8 dX9_layGoes_96 ?_
    refine lv_iload_n hx hb dX9_layGoes_97 rfl (lv_at hl 0 rfl) ?_
    obtain ⟨q9, e10, hz⟩ := bd hz
    refine g_callVl (As := [.int (gI q4.2 133 (ix (24 + (gI w 135 (ix 5))))), .int (gI w 133 (ix (18 + (gI w 135 (ix 5)))))]) (rest := [.ref (gad G 130)]) F S (c_X9_waysOf l G (gI q4.2 133 (ix (24 + (gI w 135 (ix 5))))) (gI w 133 (ix (18 + (gI w 135 (ix 5)))))  _ e10) (cw_X9_layGoes_X9_waysOf_259 hg) (S.obj (by decide) (by decide) rfl (oc_X9 _ _ _ (by decide))) rfl hl.1 rfl (Nat.le_of_ble_eq_true rfl) ⟨Nat.zero_le _, Nat.zero_le _⟩ dX9_layGoes_98 (fun H locs  S => ?_)
    refine fp_X9_38 (v := q9.1) hx hb (fun q h => hg q (tl_X9 q h)) hown (hg _ t_fl_X9_399) S (by decide) dX9_layGoes_101 (fun H locs S => ?_)
    refine lv_aload_n hx hb dX9_layGoes_104 rfl (lv_at hl 2 rfl) ?_
    refine lv_iload_n hx hb dX9_layGoes_105 rfl (lv_at hl 0 rfl) ?_
    obtain ⟨q11, e12, hz⟩ := bd hz
    refine g_callVi (As := [.int (gI w 133 (ix (18 + (gI w 135 (ix 5)))))]) (rest := []) F S (c_X9_glancesOf l G (gI w 133 (ix (18 + (gI w 135 (ix 5)))))  _ e12) (cw_X9_layGoes_X9_glancesOf_292 hg) (S.obj (by decide) (by decide) rfl (oc_X9 _ _ _ (by decide))) rfl hl.1 rfl (Nat.le_of_ble_eq_true rfl) ⟨Nat.zero_le _, Nat.zero_le _⟩ dX9_layGoes_106 (fun H locs  S => ?_)
    refine lv_istore (lv' := [(4, .int q11.1), (3, .int (gI w 133 (ix (18 + (gI w 135 (ix 5)))))), (2, .int (gI w 135 (ix 5))), (0, .ref (gad G 130)), (1, .int x1)]) hx hb dX9_layGoes_109 hl (by decide) rfl (fun ls hl => ?_)
    refine lv_iconst (v := 0) hx hb dX9_layGoes_111 (by decide) ?_
    refine lv_istore (lv' := [(5, .int 0), (4, .int q11.1), (3, .int (gI w 133 (ix (18 + (gI w 135 (ix 5)))))), (2, .int (gI w 135 (ix 5))), (0, .ref (gad G 130)), (1, .int x1)]) hx hb dX9_layGoes_112 hl (by decide) rfl (fun ls hl => ?_)
    exact w_X9_layGoes_114 F hr hlk fu x1 (gI w 135 (ix 5)) (gI w 133 (ix (18 + (gI w 135 (ix 5))))) q11.1 0 _ _ _ _ S (lv_sub hl [4, 5, 3, 2, 1, 0] rfl) hz
  · have hz := ipf (c7) hz
    refine lv_aload_n hx hb dX9_layGoes_49 rfl (lv_at hl 2 rfl) ?_
    obtain ⟨q40, e41, hz⟩ := bd hz
    refine g_callVv (As := []) (rest := []) F S (c_X9_layDay l G   _ e41) (cw_X9_layGoes_X9_layDay_384 hg) (S.obj (by decide) (by decide) rfl (oc_X9 _ _ _ (by decide))) rfl hl.1 rfl (Nat.le_of_ble_eq_true rfl) ⟨Nat.zero_le _, Nat.zero_le _⟩ dX9_layGoes_50 (fun H locs  S => ?_)
    refine lv_aload_n hx hb dX9_layGoes_53 rfl (lv_at hl 2 rfl) ?_
    refine lv_aload_n hx hb dX9_layGoes_54 rfl (lv_at hl 2 rfl) ?_
    refine lv_aload_n hx hb dX9_layGoes_55 rfl (lv_at hl 2 rfl) ?_
    refine fg_X9_15 hx hb (fun q h => hg q (tl_X9 q h)) hown (hg _ t_fl_X9_20) S (by decide) dX9_layGoes_56 ?_
    refine lv_bipush (v := 36) hx hb dX9_layGoes_59 (by decide) ?_
    obtain ⟨h42, hz⟩ := ck hz
    refine g_iald hx hb S (isA_15 (by decide)) h42 dX9_layGoes_61 ?_
    obtain ⟨q43, e44, hz⟩ := bd hz
    refine g_callVi (As := [.int (gI q40.2 133 (ix 36))]) (rest := [.ref (gad G 130)]) F S (c_X9_goesTo l G (gI q40.2 133 (ix 36))  _ e44) (cw_X9_layGoes_X9_goesTo_237 hg) (S.obj (by decide) (by decide) rfl (oc_X9 _ _ _ (by decide))) rfl hl.1 rfl (Nat.le_of_ble_eq_true rfl) ⟨Nat.zero_le _, Nat.zero_le _⟩ dX9_layGoes_62 (fun H locs  S => ?_)
    refine lv_iload_n hx hb dX9_layGoes_65 rfl (lv_at hl 3 rfl) ?_
    refine lv_icmp_ne (tgt := 73) hx hb dX9_layGoes_66 (by decide) (fun c45 => ?_) (fun c45 => ?_)
    · have hz := ipf (c45) hz
      refine lv_lconst (v := 0) hx hb dX9_layGoes_73 (by decide) ?_
      exact w_X9_layGoes_74 F hr hlk 0 _ _ _ _ S (lv_sub hl [2] rfl) hz
    · have hz := ipt (c45) hz
      refine lv_lconst (v := 1) hx hb dX9_layGoes_69 (by decide) ?_
      refine lv_goto (tgt := 74) hx hb dX9_layGoes_70 (by decide) ?_
      exact w_X9_layGoes_74 F hr hlk 1 _ _ _ _ S (lv_sub hl [2] rfl) hz
noncomputable def f_X9_goes (x1 : Int32) (x2 : Int32) (w : GW) : Option (Int64 × GW) :=
  (f_X9_good w).bind fun q1 =>
  (f_X9_isBox x1 q1.2).bind fun q3 =>
  if q3.1 = 0 then
    (f_X9_no 1 q3.2).bind fun q16 =>
    some ((q16.1.toInt64), q16.2)
  else
    if inb 6 9 then
    if inb 1 135 then
    if (gI q3.2 135 (ix 6)) = (gI q3.2 133 (ix 1)) then
      (f_X9_no 6 q3.2).bind fun q14 =>
      some ((q14.1.toInt64), q14.2)
    else
      (f_X9_layGoes x1 q3.2).bind fun q10 =>
      (f_X9_lowest (gL q10.2 130 37) (gL q10.2 130 38) x2 q10.2).bind fun q12 =>
      some (q12.1, q12.2)
    else none
    else none
set_option maxHeartbeats 4000000 in
set_option maxRecDepth 100000 in
theorem c_X9_goes (l : Launch) (G : GG) (x1 : Int32) (x2 : Int32)  (w : GW) {z : Int64 × GW} (hz : f_X9_goes x1 x2 w = some z) : Met l yX9_goes (wsU yX9_goes cX9_goes 3 (some .long)) rm_X9_goes (va_Pc [.ref (gad G 130), .int x1, .int x2] (PreG G w)) (QL G z) 0 0 (gA G) := by
  refine Met.ofW (cc := cX9_goes) (maxL := 3) (ret := (some .long)) (by decide) rfl ?_
  intro p e s m args below meth c s₁ B hml hv
  obtain ⟨rfl, S⟩ := hv
  have F : CallFix p m c cX9_goes 3 s _ (wsU yX9_goes cX9_goes 3 (some .long)) RX9 := ⟨B.exec, B.bytes, hml, findClass_of_methodNamed B.named, atoms_spec B.pre⟩
  have hr := B.returns
  have hlk := B.notSynchronized
  obtain ⟨hx, hb, -, hown, hts⟩ := id F
  have hg : ∀ q ∈ lwg, q.before _ s = true := fun q h => hts q (List.mem_cons_of_mem _ h)
  refine g_entry (Nat.le_of_ble_eq_true rfl) (fun ls hl => ?_)
  have hl : lv_has ls 3 [(0, .ref (gad G 130)), (1, .int x1), (2, .int x2)] := hl
  have S : St G w s s.heap [] := S
  generalize s.heap = H at S ⊢
  generalize ([] : List Loc) = locs at S ⊢
  rw [f_X9_goes] at hz
  refine lv_aload_n hx hb dX9_goes_0 rfl (lv_at hl 0 rfl) ?_
  obtain ⟨q1, e2, hz⟩ := bd hz
  refine g_callVv (As := []) (rest := []) F S (c_X9_good l G   _ e2) (cw_X9_goes_X9_good_150 hg) (S.obj (by decide) (by decide) rfl (oc_X9 _ _ _ (by decide))) rfl hl.1 rfl (Nat.le_of_ble_eq_true rfl) ⟨Nat.zero_le _, Nat.zero_le _⟩ dX9_goes_1 (fun H locs  S => ?_)
  refine lv_aload_n hx hb dX9_goes_4 rfl (lv_at hl 0 rfl) ?_
  refine lv_iload_n hx hb dX9_goes_5 rfl (lv_at hl 1 rfl) ?_
  obtain ⟨q3, e4, hz⟩ := bd hz
  refine g_callVb (As := [.int x1]) (rest := []) F S (c_X9_isBox l G x1  _ e4) (cw_X9_goes_X9_isBox_341 hg) (S.obj (by decide) (by decide) rfl (oc_X9 _ _ _ (by decide))) rfl hl.1 rfl (Nat.le_of_ble_eq_true rfl) ⟨Nat.zero_le _, Nat.zero_le _⟩ dX9_goes_6 (fun H locs hB5 S => ?_)
  refine lv_if_ne (tgt := 19) hx hb dX9_goes_9 (by decide) (fun c6 => ?_) (fun c6 => ?_)
  · have hz := ipf (c6) hz
    refine lv_aload_n hx hb dX9_goes_19 rfl (lv_at hl 0 rfl) ?_
    refine fg_X9_17 hx hb (fun q h => hg q (tl_X9 q h)) hown (hg _ t_fl_X9_26) S (by decide) dX9_goes_20 ?_
    refine lv_bipush (v := 6) hx hb dX9_goes_23 (by decide) ?_
    obtain ⟨h7, hz⟩ := ck hz
    refine g_iald hx hb S (isA_16 (by decide)) h7 dX9_goes_25 ?_
    refine lv_aload_n hx hb dX9_goes_26 rfl (lv_at hl 0 rfl) ?_
    refine fg_X9_15 hx hb (fun q h => hg q (tl_X9 q h)) hown (hg _ t_fl_X9_20) S (by decide) dX9_goes_27 ?_
    refine lv_iconst (v := 1) hx hb dX9_goes_30 (by decide) ?_
    obtain ⟨h8, hz⟩ := ck hz
    refine g_iald hx hb S (isA_15 (by decide)) h8 dX9_goes_31 ?_
    refine lv_icmp_ne (tgt := 43) hx hb dX9_goes_32 (by decide) (fun c9 => ?_) (fun c9 => ?_)
    · have hz := ipf (c9) hz
      refine lv_aload_n hx hb dX9_goes_43 rfl (lv_at hl 0 rfl) ?_
      refine lv_iload_n hx hb dX9_goes_44 rfl (lv_at hl 1 rfl) ?_
      obtain ⟨q10, e11, hz⟩ := bd hz
      refine g_callVv (As := [.int x1]) (rest := []) F S (c_X9_layGoes l G x1  _ e11) (cw_X9_goes_X9_layGoes_405 hg) (S.obj (by decide) (by decide) rfl (oc_X9 _ _ _ (by decide))) rfl hl.1 rfl (Nat.le_of_ble_eq_true rfl) ⟨Nat.zero_le _, Nat.zero_le _⟩ dX9_goes_45 (fun H locs  S => ?_)
      refine lv_aload_n hx hb dX9_goes_48 rfl (lv_at hl 0 rfl) ?_
      refine fg_X9_37 hx hb (fun q h => hg q (tl_X9 q h)) hown (hg _ t_fl_X9_396) S (by decide) dX9_goes_49 ?_
      refine lv_aload_n hx hb dX9_goes_52 rfl (lv_at hl 0 rfl) ?_
      refine fg_X9_38 hx hb (fun q h => hg q (tl_X9 q h)) hown (hg _ t_fl_X9_399) S (by decide) dX9_goes_53 ?_
      refine lv_iload_n hx hb dX9_goes_56 rfl (lv_at hl 2 rfl) ?_
      obtain ⟨q12, e13, hz⟩ := bd hz
      refine g_callSl (As := [.long (gL q10.2 130 37), .long (gL q10.2 130 38), .int x2]) (rest := []) F S (c_X9_lowest l G (gL q10.2 130 37) (gL q10.2 130 38) x2  _ e13) (cw_X9_goes_X9_lowest_334 hg) rfl hl.1 rfl (Nat.le_of_ble_eq_true rfl) ⟨Nat.zero_le _, Nat.zero_le _⟩ dX9_goes_57 (fun H locs  S => ?_)
      exact g_retl hx hb hr hlk S hz dX9_goes_60
    · have hz := ipt (c9) hz
      refine lv_aload_n hx hb dX9_goes_35 rfl (lv_at hl 0 rfl) ?_
      refine lv_bipush (v := 6) hx hb dX9_goes_36 (by decide) ?_
      obtain ⟨q14, e15, hz⟩ := bd hz
      refine g_callVi (As := [.int 6]) (rest := []) F S (c_X9_no l G 6  _ e15) (cw_X9_goes_X9_no_153 hg) (S.obj (by decide) (by decide) rfl (oc_X9 _ _ _ (by decide))) rfl hl.1 rfl (Nat.le_of_ble_eq_true rfl) ⟨Nat.zero_le _, Nat.zero_le _⟩ dX9_goes_38 (fun H locs  S => ?_)
      refine lv_i2l (v := q14.1.toInt64) hx hb dX9_goes_41 rfl ?_
      exact g_retl hx hb hr hlk S hz dX9_goes_42
  · have hz := ipt (c6) hz
    refine lv_aload_n hx hb dX9_goes_12 rfl (lv_at hl 0 rfl) ?_
    refine lv_iconst (v := 1) hx hb dX9_goes_13 (by decide) ?_
    obtain ⟨q16, e17, hz⟩ := bd hz
    refine g_callVi (As := [.int 1]) (rest := []) F S (c_X9_no l G 1  _ e17) (cw_X9_goes_X9_no_153 hg) (S.obj (by decide) (by decide) rfl (oc_X9 _ _ _ (by decide))) rfl hl.1 rfl (Nat.le_of_ble_eq_true rfl) ⟨Nat.zero_le _, Nat.zero_le _⟩ dX9_goes_14 (fun H locs  S => ?_)
    refine lv_i2l (v := q16.1.toInt64) hx hb dX9_goes_17 rfl ?_
    exact g_retl hx hb hr hlk S hz dX9_goes_18
noncomputable def f_X9_place_64   (w : GW) : Option (Int32 × GW) :=
  (f_X9_no 5 w).bind fun q13 =>
  some (q13.1, q13.2)
noncomputable def f_X9_place (x1 : Int32) (w : GW) : Option (Int32 × GW) :=
  (f_X9_good w).bind fun q1 =>
  (f_X9_isBox x1 q1.2).bind fun q3 =>
  if q3.1 = 0 then
    (f_X9_no 1 q3.2).bind fun q30 =>
    some (q30.1, q30.2)
  else
    if inb 6 9 then
    if inb 1 135 then
    if (gI q3.2 135 (ix 6)) = (gI q3.2 133 (ix 1)) then
      (f_X9_no 6 q3.2).bind fun q28 =>
      some (q28.1, q28.2)
    else
      (f_X9_layGoes x1 q3.2).bind fun q10 =>
      if (gL q10.2 130 37) = 0 then
        f_X9_place_64 q10.2
      else
        if (gI q10.2 130 39) = (-6) then
          f_X9_place_64 q10.2
        else
          (f_X9_layDay q10.2).bind fun q16 =>
          if inb x1 5 then
          if inb x1 5 then
          if inb 6 9 then
          if inb 6 9 then
          if inb 6 9 then
          (f_X9_moves (gI (sI (sI (sI q16.2 137 (ix x1) ((gI q16.2 137 (ix x1)) + 1)) 130 22 (gI (sI q16.2 137 (ix x1) ((gI q16.2 137 (ix x1)) + 1)) 130 39)) 135 (ix 6) ((gI (sI (sI q16.2 137 (ix x1) ((gI q16.2 137 (ix x1)) + 1)) 130 22 (gI (sI q16.2 137 (ix x1) ((gI q16.2 137 (ix x1)) + 1)) 130 39)) 135 (ix 6)) + 1)) 135 (ix 6)) (sI (sI (sI q16.2 137 (ix x1) ((gI q16.2 137 (ix x1)) + 1)) 130 22 (gI (sI q16.2 137 (ix x1) ((gI q16.2 137 (ix x1)) + 1)) 130 39)) 135 (ix 6) ((gI (sI (sI q16.2 137 (ix x1) ((gI q16.2 137 (ix x1)) + 1)) 130 22 (gI (sI q16.2 137 (ix x1) ((gI q16.2 137 (ix x1)) + 1)) 130 39)) 135 (ix 6)) + 1))).bind fun q23 =>
          (f_X9_keepDay q23.2).bind fun q25 =>
          if inb x1 9 then
          some ((gI q25.2 135 (ix x1)), q25.2)
          else none
          else none
          else none
          else none
          else none
          else none
    else none
    else none
set_option maxHeartbeats 4000000 in
set_option maxRecDepth 100000 in
theorem w_X9_place_64 {p : Program} {l : Launch} {e : Env} {s : State} {m : MethodId} {args : Array Value} {below : List Frame} {meth : Method} {c : Code} {G : GG} (F : CallFix p m c cX9_place 2 s args (wsU yX9_place cX9_place 2 (some .int)) RX9) (hr : meth.sig.returnType = (some .int)) (hlk : meth.locks = false) {z : Int32 × GW} : (∀ (w : GW) (H : Heap) (locs : List Loc) (ls : Array Slot), St G w s H locs → lv_has ls 2 [(0, .ref (gad G 130))] → f_X9_place_64  w = some z → W p l e (headSpec (wsU yX9_place cX9_place 2 (some .int)) rm_X9_place).room s m args below meth c H locs 0 0 (MQ below (QI G z) args s 0 0 (gA G)) (F0 m 64 ls [])) := by
  obtain ⟨hx, hb, hml, hown, hts⟩ := id F
  have hg : ∀ q ∈ lwg, q.before args s = true := fun q h => hts q (List.mem_cons_of_mem _ h)
  intro w H locs ls S hl hz
  rw [f_X9_place_64] at hz
  refine lv_aload_n hx hb dX9_place_64 rfl (lv_at hl 0 rfl) ?_
  refine lv_iconst (v := 5) hx hb dX9_place_65 (by decide) ?_
  obtain ⟨q13, e14, hz⟩ := bd hz
  refine g_callVi (As := [.int 5]) (rest := []) F S (c_X9_no l G 5  _ e14) (cw_X9_place_X9_no_153 hg) (S.obj (by decide) (by decide) rfl (oc_X9 _ _ _ (by decide))) rfl hl.1 rfl (Nat.le_of_ble_eq_true rfl) ⟨Nat.zero_le _, Nat.zero_le _⟩ dX9_place_66 (fun H locs  S => ?_)
  exact g_reti hx hb hr hlk S hz dX9_place_69
set_option maxHeartbeats 4000000 in
set_option maxRecDepth 100000 in
theorem c_X9_place (l : Launch) (G : GG) (x1 : Int32)  (w : GW) {z : Int32 × GW} (hz : f_X9_place x1 w = some z) : Met l yX9_place (wsU yX9_place cX9_place 2 (some .int)) rm_X9_place (va_Pc [.ref (gad G 130), .int x1] (PreG G w)) (QI G z) 0 0 (gA G) := by
  refine Met.ofW (cc := cX9_place) (maxL := 2) (ret := (some .int)) (by decide) rfl ?_
  intro p e s m args below meth c s₁ B hml hv
  obtain ⟨rfl, S⟩ := hv
  have F : CallFix p m c cX9_place 2 s _ (wsU yX9_place cX9_place 2 (some .int)) RX9 := ⟨B.exec, B.bytes, hml, findClass_of_methodNamed B.named, atoms_spec B.pre⟩
  have hr := B.returns
  have hlk := B.notSynchronized
  obtain ⟨hx, hb, -, hown, hts⟩ := id F
  have hg : ∀ q ∈ lwg, q.before _ s = true := fun q h => hts q (List.mem_cons_of_mem _ h)
  refine g_entry (Nat.le_of_ble_eq_true rfl) (fun ls hl => ?_)
  have hl : lv_has ls 2 [(0, .ref (gad G 130)), (1, .int x1)] := hl
  have S : St G w s s.heap [] := S
  generalize s.heap = H at S ⊢
  generalize ([] : List Loc) = locs at S ⊢
  rw [f_X9_place] at hz
  refine lv_aload_n hx hb dX9_place_0 rfl (lv_at hl 0 rfl) ?_
  obtain ⟨q1, e2, hz⟩ := bd hz
  refine g_callVv (As := []) (rest := []) F S (c_X9_good l G   _ e2) (cw_X9_place_X9_good_150 hg) (S.obj (by decide) (by decide) rfl (oc_X9 _ _ _ (by decide))) rfl hl.1 rfl (Nat.le_of_ble_eq_true rfl) ⟨Nat.zero_le _, Nat.zero_le _⟩ dX9_place_1 (fun H locs  S => ?_)
  refine lv_aload_n hx hb dX9_place_4 rfl (lv_at hl 0 rfl) ?_
  refine lv_iload_n hx hb dX9_place_5 rfl (lv_at hl 1 rfl) ?_
  obtain ⟨q3, e4, hz⟩ := bd hz
  refine g_callVb (As := [.int x1]) (rest := []) F S (c_X9_isBox l G x1  _ e4) (cw_X9_place_X9_isBox_341 hg) (S.obj (by decide) (by decide) rfl (oc_X9 _ _ _ (by decide))) rfl hl.1 rfl (Nat.le_of_ble_eq_true rfl) ⟨Nat.zero_le _, Nat.zero_le _⟩ dX9_place_6 (fun H locs hB5 S => ?_)
  refine lv_if_ne (tgt := 18) hx hb dX9_place_9 (by decide) (fun c6 => ?_) (fun c6 => ?_)
  · have hz := ipf (c6) hz
    refine lv_aload_n hx hb dX9_place_18 rfl (lv_at hl 0 rfl) ?_
    refine fg_X9_17 hx hb (fun q h => hg q (tl_X9 q h)) hown (hg _ t_fl_X9_26) S (by decide) dX9_place_19 ?_
    refine lv_bipush (v := 6) hx hb dX9_place_22 (by decide) ?_
    obtain ⟨h7, hz⟩ := ck hz
    refine g_iald hx hb S (isA_16 (by decide)) h7 dX9_place_24 ?_
    refine lv_aload_n hx hb dX9_place_25 rfl (lv_at hl 0 rfl) ?_
    refine fg_X9_15 hx hb (fun q h => hg q (tl_X9 q h)) hown (hg _ t_fl_X9_20) S (by decide) dX9_place_26 ?_
    refine lv_iconst (v := 1) hx hb dX9_place_29 (by decide) ?_
    obtain ⟨h8, hz⟩ := ck hz
    refine g_iald hx hb S (isA_15 (by decide)) h8 dX9_place_30 ?_
    refine lv_icmp_ne (tgt := 41) hx hb dX9_place_31 (by decide) (fun c9 => ?_) (fun c9 => ?_)
    · have hz := ipf (c9) hz
      refine lv_aload_n hx hb dX9_place_41 rfl (lv_at hl 0 rfl) ?_
      refine lv_iload_n hx hb dX9_place_42 rfl (lv_at hl 1 rfl) ?_
      obtain ⟨q10, e11, hz⟩ := bd hz
      refine g_callVv (As := [.int x1]) (rest := []) F S (c_X9_layGoes l G x1  _ e11) (cw_X9_place_X9_layGoes_405 hg) (S.obj (by decide) (by decide) rfl (oc_X9 _ _ _ (by decide))) rfl hl.1 rfl (Nat.le_of_ble_eq_true rfl) ⟨Nat.zero_le _, Nat.zero_le _⟩ dX9_place_43 (fun H locs  S => ?_)
      refine lv_aload_n hx hb dX9_place_46 rfl (lv_at hl 0 rfl) ?_
      refine fg_X9_37 hx hb (fun q h => hg q (tl_X9 q h)) hown (hg _ t_fl_X9_396) S (by decide) dX9_place_47 ?_
      refine lv_lconst (v := 0) hx hb dX9_place_50 (by decide) ?_
      refine W.lcmp hx hb dX9_place_51 ?_
      refine lv_if_eq (tgt := 64) hx hb dX9_place_52 (by decide) (fun c12 => ?_) (fun c12 => ?_)
      · have hz := ipt ((lg_cmp_eq _ _).mp c12) hz
        exact w_X9_place_64 F hr hlk _ _ _ _ S (lv_sub hl [0] rfl) hz
      · have hz := ipf (fun q9 => c12 ((lg_cmp_eq _ _).mpr q9)) hz
        refine lv_aload_n hx hb dX9_place_55 rfl (lv_at hl 0 rfl) ?_
        refine fg_X9_39 hx hb (fun q h => hg q (tl_X9 q h)) hown (hg _ t_fl_X9_402) S (by decide) dX9_place_56 ?_
        refine lv_bipush (v := (-6)) hx hb dX9_place_59 (by decide) ?_
        refine lv_icmp_ne (tgt := 70) hx hb dX9_place_61 (by decide) (fun c15 => ?_) (fun c15 => ?_)
        · have hz := ipf (c15) hz
          refine lv_aload_n hx hb dX9_place_70 rfl (lv_at hl 0 rfl) ?_
          obtain ⟨q16, e17, hz⟩ := bd hz
          refine g_callVv (As := []) (rest := []) F S (c_X9_layDay l G   _ e17) (cw_X9_place_X9_layDay_384 hg) (S.obj (by decide) (by decide) rfl (oc_X9 _ _ _ (by decide))) rfl hl.1 rfl (Nat.le_of_ble_eq_true rfl) ⟨Nat.zero_le _, Nat.zero_le _⟩ dX9_place_71 (fun H locs  S => ?_)
          refine lv_aload_n hx hb dX9_place_74 rfl (lv_at hl 0 rfl) ?_
          refine fg_X9_20 hx hb (fun q h => hg q (tl_X9 q h)) hown (hg _ t_fl_X9_32) S (by decide) dX9_place_75 ?_
          refine lv_iload_n hx hb dX9_place_78 rfl (lv_at hl 1 rfl) ?_
          refine lv_dup2_11 hx hb dX9_place_79 rfl rfl ?_
          obtain ⟨h18, hz⟩ := ck hz
          refine g_iald hx hb S (isA_10 (by decide)) h18 dX9_place_80 ?_
          refine lv_iconst (v := 1) hx hb dX9_place_81 (by decide) ?_
          refine lv_iadd hx hb dX9_place_82 ?_
          obtain ⟨h19, hz⟩ := ck hz
          refine g_iast (x := ((gI q16.2 137 (ix x1)) + 1)) hx hb S (isA_10 (by decide)) h19 dX9_place_83 (fun H locs S => ?_)
          refine lv_aload_n hx hb dX9_place_84 rfl (lv_at hl 0 rfl) ?_
          refine lv_aload_n hx hb dX9_place_85 rfl (lv_at hl 0 rfl) ?_
          refine fg_X9_39 hx hb (fun q h => hg q (tl_X9 q h)) hown (hg _ t_fl_X9_402) S (by decide) dX9_place_86 ?_
          refine fp_X9_22 (v := (gI (sI q16.2 137 (ix x1) ((gI q16.2 137 (ix x1)) + 1)) 130 39)) hx hb (fun q h => hg q (tl_X9 q h)) hown (hg _ t_fl_X9_228) S (by decide) dX9_place_89 (fun H locs S => ?_)
          refine lv_aload_n hx hb dX9_place_92 rfl (lv_at hl 0 rfl) ?_
          refine fg_X9_17 hx hb (fun q h => hg q (tl_X9 q h)) hown (hg _ t_fl_X9_26) S (by decide) dX9_place_93 ?_
          refine lv_bipush (v := 6) hx hb dX9_place_96 (by decide) ?_
          refine lv_dup2_11 hx hb dX9_place_98 rfl rfl ?_
          obtain ⟨h20, hz⟩ := ck hz
          refine g_iald hx hb S (isA_16 (by decide)) h20 dX9_place_99 ?_
          refine lv_iconst (v := 1) hx hb dX9_place_100 (by decide) ?_
          refine lv_iadd hx hb dX9_place_101 ?_
          obtain ⟨h21, hz⟩ := ck hz
          refine g_iast (x := ((gI (sI (sI q16.2 137 (ix x1) ((gI q16.2 137 (ix x1)) + 1)) 130 22 (gI (sI q16.2 137 (ix x1) ((gI q16.2 137 (ix x1)) + 1)) 130 39)) 135 (ix 6)) + 1)) hx hb S (isA_16 (by decide)) h21 dX9_place_102 (fun H locs S => ?_)
          refine lv_aload_n hx hb dX9_place_103 rfl (lv_at hl 0 rfl) ?_
          refine lv_aload_n hx hb dX9_place_104 rfl (lv_at hl 0 rfl) ?_
          refine fg_X9_17 hx hb (fun q h => hg q (tl_X9 q h)) hown (hg _ t_fl_X9_26) S (by decide) dX9_place_105 ?_
          refine lv_bipush (v := 6) hx hb dX9_place_108 (by decide) ?_
          obtain ⟨h22, hz⟩ := ck hz
          refine g_iald hx hb S (isA_16 (by decide)) h22 dX9_place_110 ?_
          obtain ⟨q23, e24, hz⟩ := bd hz
          refine g_callVv (As := [.int (gI (sI (sI (sI q16.2 137 (ix x1) ((gI q16.2 137 (ix x1)) + 1)) 130 22 (gI (sI q16.2 137 (ix x1) ((gI q16.2 137 (ix x1)) + 1)) 130 39)) 135 (ix 6) ((gI (sI (sI q16.2 137 (ix x1) ((gI q16.2 137 (ix x1)) + 1)) 130 22 (gI (sI q16.2 137 (ix x1) ((gI q16.2 137 (ix x1)) + 1)) 130 39)) 135 (ix 6)) + 1)) 135 (ix 6))]) (rest := []) F S (c_X9_moves l G (gI (sI (sI (sI q16.2 137 (ix x1) ((gI q16.2 137 (ix x1)) + 1)) 130 22 (gI (sI q16.2 137 (ix x1) ((gI q16.2 137 (ix x1)) + 1)) 130 39)) 135 (ix 6) ((gI (sI (sI q16.2 137 (ix x1) ((gI q16.2 137 (ix x1)) + 1)) 130 22 (gI (sI q16.2 137 (ix x1) ((gI q16.2 137 (ix x1)) + 1)) 130 39)) 135 (ix 6)) + 1)) 135 (ix 6))  _ e24) (cw_X9_place_X9_moves_283 hg) (S.obj (by decide) (by decide) rfl (oc_X9 _ _ _ (by decide))) rfl hl.1 rfl (Nat.le_of_ble_eq_true rfl) ⟨Nat.zero_le _, Nat.zero_le _⟩ dX9_place_111 (fun H locs  S => ?_)
          refine lv_aload_n hx hb dX9_place_114 rfl (lv_at hl 0 rfl) ?_
          obtain ⟨q25, e26, hz⟩ := bd hz
          refine g_callVv (As := []) (rest := []) F S (c_X9_keepDay l G   _ e26) (cw_X9_place_X9_keepDay_390 hg) (S.obj (by decide) (by decide) rfl (oc_X9 _ _ _ (by decide))) rfl hl.1 rfl (Nat.le_of_ble_eq_true rfl) ⟨Nat.zero_le _, Nat.zero_le _⟩ dX9_place_115 (fun H locs  S => ?_)
          refine lv_aload_n hx hb dX9_place_118 rfl (lv_at hl 0 rfl) ?_
          refine fg_X9_17 hx hb (fun q h => hg q (tl_X9 q h)) hown (hg _ t_fl_X9_26) S (by decide) dX9_place_119 ?_
          refine lv_iload_n hx hb dX9_place_122 rfl (lv_at hl 1 rfl) ?_
          obtain ⟨h27, hz⟩ := ck hz
          refine g_iald hx hb S (isA_16 (by decide)) h27 dX9_place_123 ?_
          exact g_reti hx hb hr hlk S hz dX9_place_124
        · have hz := ipt (c15) hz
          exact w_X9_place_64 F hr hlk _ _ _ _ S (lv_sub hl [0] rfl) hz
    · have hz := ipt (c9) hz
      refine lv_aload_n hx hb dX9_place_34 rfl (lv_at hl 0 rfl) ?_
      refine lv_bipush (v := 6) hx hb dX9_place_35 (by decide) ?_
      obtain ⟨q28, e29, hz⟩ := bd hz
      refine g_callVi (As := [.int 6]) (rest := []) F S (c_X9_no l G 6  _ e29) (cw_X9_place_X9_no_153 hg) (S.obj (by decide) (by decide) rfl (oc_X9 _ _ _ (by decide))) rfl hl.1 rfl (Nat.le_of_ble_eq_true rfl) ⟨Nat.zero_le _, Nat.zero_le _⟩ dX9_place_37 (fun H locs  S => ?_)
      exact g_reti hx hb hr hlk S hz dX9_place_40
  · have hz := ipt (c6) hz
    refine lv_aload_n hx hb dX9_place_12 rfl (lv_at hl 0 rfl) ?_
    refine lv_iconst (v := 1) hx hb dX9_place_13 (by decide) ?_
    obtain ⟨q30, e31, hz⟩ := bd hz
    refine g_callVi (As := [.int 1]) (rest := []) F S (c_X9_no l G 1  _ e31) (cw_X9_place_X9_no_153 hg) (S.obj (by decide) (by decide) rfl (oc_X9 _ _ _ (by decide))) rfl hl.1 rfl (Nat.le_of_ble_eq_true rfl) ⟨Nat.zero_le _, Nat.zero_le _⟩ dX9_place_14 (fun H locs  S => ?_)
    exact g_reti hx hb hr hlk S hz dX9_place_17
noncomputable def f_X9_box (x1 : Int32) (w : GW) : Option (Int32 × GW) :=
  (f_X9_good w).bind fun q1 =>
  (f_X9_isBox x1 q1.2).bind fun q3 =>
  if q3.1 = 0 then
    (f_X9_no 1 q3.2).bind fun q7 =>
    some (q7.1, q7.2)
  else
    if inb x1 9 then
    some ((gI q3.2 135 (ix x1)), q3.2)
    else none
set_option maxHeartbeats 4000000 in
set_option maxRecDepth 100000 in
theorem c_X9_box (l : Launch) (G : GG) (x1 : Int32)  (w : GW) {z : Int32 × GW} (hz : f_X9_box x1 w = some z) : Met l yX9_box (wsU yX9_box cX9_box 2 (some .int)) rm_X9_box (va_Pc [.ref (gad G 130), .int x1] (PreG G w)) (QI G z) 0 0 (gA G) := by
  refine Met.ofW (cc := cX9_box) (maxL := 2) (ret := (some .int)) (by decide) rfl ?_
  intro p e s m args below meth c s₁ B hml hv
  obtain ⟨rfl, S⟩ := hv
  have F : CallFix p m c cX9_box 2 s _ (wsU yX9_box cX9_box 2 (some .int)) RX9 := ⟨B.exec, B.bytes, hml, findClass_of_methodNamed B.named, atoms_spec B.pre⟩
  have hr := B.returns
  have hlk := B.notSynchronized
  obtain ⟨hx, hb, -, hown, hts⟩ := id F
  have hg : ∀ q ∈ lwg, q.before _ s = true := fun q h => hts q (List.mem_cons_of_mem _ h)
  refine g_entry (Nat.le_of_ble_eq_true rfl) (fun ls hl => ?_)
  have hl : lv_has ls 2 [(0, .ref (gad G 130)), (1, .int x1)] := hl
  have S : St G w s s.heap [] := S
  generalize s.heap = H at S ⊢
  generalize ([] : List Loc) = locs at S ⊢
  rw [f_X9_box] at hz
  refine lv_aload_n hx hb dX9_box_0 rfl (lv_at hl 0 rfl) ?_
  obtain ⟨q1, e2, hz⟩ := bd hz
  refine g_callVv (As := []) (rest := []) F S (c_X9_good l G   _ e2) (cw_X9_box_X9_good_150 hg) (S.obj (by decide) (by decide) rfl (oc_X9 _ _ _ (by decide))) rfl hl.1 rfl (Nat.le_of_ble_eq_true rfl) ⟨Nat.zero_le _, Nat.zero_le _⟩ dX9_box_1 (fun H locs  S => ?_)
  refine lv_aload_n hx hb dX9_box_4 rfl (lv_at hl 0 rfl) ?_
  refine lv_iload_n hx hb dX9_box_5 rfl (lv_at hl 1 rfl) ?_
  obtain ⟨q3, e4, hz⟩ := bd hz
  refine g_callVb (As := [.int x1]) (rest := []) F S (c_X9_isBox l G x1  _ e4) (cw_X9_box_X9_isBox_341 hg) (S.obj (by decide) (by decide) rfl (oc_X9 _ _ _ (by decide))) rfl hl.1 rfl (Nat.le_of_ble_eq_true rfl) ⟨Nat.zero_le _, Nat.zero_le _⟩ dX9_box_6 (fun H locs hB5 S => ?_)
  refine lv_if_eq (tgt := 21) hx hb dX9_box_9 (by decide) (fun c6 => ?_) (fun c6 => ?_)
  · have hz := ipt (c6) hz
    refine lv_aload_n hx hb dX9_box_21 rfl (lv_at hl 0 rfl) ?_
    refine lv_iconst (v := 1) hx hb dX9_box_22 (by decide) ?_
    obtain ⟨q7, e8, hz⟩ := bd hz
    refine g_callVi (As := [.int 1]) (rest := []) F S (c_X9_no l G 1  _ e8) (cw_X9_box_X9_no_153 hg) (S.obj (by decide) (by decide) rfl (oc_X9 _ _ _ (by decide))) rfl hl.1 rfl (Nat.le_of_ble_eq_true rfl) ⟨Nat.zero_le _, Nat.zero_le _⟩ dX9_box_23 (fun H locs  S => ?_)
    exact g_reti hx hb hr hlk S hz dX9_box_26
  · have hz := ipf (c6) hz
    refine lv_aload_n hx hb dX9_box_12 rfl (lv_at hl 0 rfl) ?_
    refine fg_X9_17 hx hb (fun q h => hg q (tl_X9 q h)) hown (hg _ t_fl_X9_26) S (by decide) dX9_box_13 ?_
    refine lv_iload_n hx hb dX9_box_16 rfl (lv_at hl 1 rfl) ?_
    obtain ⟨h9, hz⟩ := ck hz
    refine g_iald hx hb S (isA_16 (by decide)) h9 dX9_box_17 ?_
    refine lv_goto (tgt := 26) hx hb dX9_box_18 (by decide) ?_
    exact g_reti hx hb hr hlk S hz dX9_box_26
noncomputable def f_X9_recall  (w : GW) : Option (Int32 × GW) :=
  (f_X9_good w).bind fun q1 =>
  if (gI q1.2 130 14) = 0 then
    (f_X9_no 1 q1.2).bind fun q4 =>
    some (q4.1, q4.2)
  else
    if inb 7 9 then
    some ((gI q1.2 135 (ix 7)), q1.2)
    else none
set_option maxHeartbeats 4000000 in
set_option maxRecDepth 100000 in
theorem c_X9_recall (l : Launch) (G : GG)   (w : GW) {z : Int32 × GW} (hz : f_X9_recall  w = some z) : Met l yX9_recall (wsU yX9_recall cX9_recall 1 (some .int)) rm_X9_recall (va_Pc [.ref (gad G 130)] (PreG G w)) (QI G z) 0 0 (gA G) := by
  refine Met.ofW (cc := cX9_recall) (maxL := 1) (ret := (some .int)) (by decide) rfl ?_
  intro p e s m args below meth c s₁ B hml hv
  obtain ⟨rfl, S⟩ := hv
  have F : CallFix p m c cX9_recall 1 s _ (wsU yX9_recall cX9_recall 1 (some .int)) RX9 := ⟨B.exec, B.bytes, hml, findClass_of_methodNamed B.named, atoms_spec B.pre⟩
  have hr := B.returns
  have hlk := B.notSynchronized
  obtain ⟨hx, hb, -, hown, hts⟩ := id F
  have hg : ∀ q ∈ lwg, q.before _ s = true := fun q h => hts q (List.mem_cons_of_mem _ h)
  refine g_entry (Nat.le_of_ble_eq_true rfl) (fun ls hl => ?_)
  have hl : lv_has ls 1 [(0, .ref (gad G 130))] := hl
  have S : St G w s s.heap [] := S
  generalize s.heap = H at S ⊢
  generalize ([] : List Loc) = locs at S ⊢
  rw [f_X9_recall] at hz
  refine lv_aload_n hx hb dX9_recall_0 rfl (lv_at hl 0 rfl) ?_
  obtain ⟨q1, e2, hz⟩ := bd hz
  refine g_callVv (As := []) (rest := []) F S (c_X9_good l G   _ e2) (cw_X9_recall_X9_good_150 hg) (S.obj (by decide) (by decide) rfl (oc_X9 _ _ _ (by decide))) rfl hl.1 rfl (Nat.le_of_ble_eq_true rfl) ⟨Nat.zero_le _, Nat.zero_le _⟩ dX9_recall_1 (fun H locs  S => ?_)
  refine lv_aload_n hx hb dX9_recall_4 rfl (lv_at hl 0 rfl) ?_
  refine fg_X9_14 hx hb (fun q h => hg q (tl_X9 q h)) hown (hg _ t_fl_X9_159) S (by decide) dX9_recall_5 ?_
  refine lv_if_eq (tgt := 21) hx hb dX9_recall_8 (by decide) (fun c3 => ?_) (fun c3 => ?_)
  · have hz := ipt (c3) hz
    refine lv_aload_n hx hb dX9_recall_21 rfl (lv_at hl 0 rfl) ?_
    refine lv_iconst (v := 1) hx hb dX9_recall_22 (by decide) ?_
    obtain ⟨q4, e5, hz⟩ := bd hz
    refine g_callVi (As := [.int 1]) (rest := []) F S (c_X9_no l G 1  _ e5) (cw_X9_recall_X9_no_153 hg) (S.obj (by decide) (by decide) rfl (oc_X9 _ _ _ (by decide))) rfl hl.1 rfl (Nat.le_of_ble_eq_true rfl) ⟨Nat.zero_le _, Nat.zero_le _⟩ dX9_recall_23 (fun H locs  S => ?_)
    exact g_reti hx hb hr hlk S hz dX9_recall_26
  · have hz := ipf (c3) hz
    refine lv_aload_n hx hb dX9_recall_11 rfl (lv_at hl 0 rfl) ?_
    refine fg_X9_17 hx hb (fun q h => hg q (tl_X9 q h)) hown (hg _ t_fl_X9_26) S (by decide) dX9_recall_12 ?_
    refine lv_bipush (v := 7) hx hb dX9_recall_15 (by decide) ?_
    obtain ⟨h6, hz⟩ := ck hz
    refine g_iald hx hb S (isA_16 (by decide)) h6 dX9_recall_17 ?_
    refine lv_goto (tgt := 26) hx hb dX9_recall_18 (by decide) ?_
    exact g_reti hx hb hr hlk S hz dX9_recall_26
noncomputable def f_X9_mark_33  : Nat → Int32 → GW → Option (Int32 × GW)
  | 0, _, _ => none
  | n9 + 1, x1, w =>
    if 9 ≤ x1 then
      some (((gI (sI w 130 19 ((gI w 130 19) + 1)) 130 19) - 1), (sI w 130 19 ((gI w 130 19) + 1)))
    else
      if inb x1 9 then
      if inb ((9 * (gI w 130 19)) + x1) 27 then
      f_X9_mark_33 n9 (x1 + 1) (sI w 136 (ix ((9 * (gI w 130 19)) + x1)) (gI w 135 (ix x1)))
      else none
      else none
noncomputable def f_X9_mark  (w : GW) : Option (Int32 × GW) :=
  (f_X9_good w).bind fun q1 =>
  if (gI q1.2 130 14) = 0 then
    (f_X9_no 1 q1.2).bind fun q10 =>
    some (q10.1, q10.2)
  else
    if (gI q1.2 130 19) = 3 then
      (f_X9_no 3 q1.2).bind fun q8 =>
      some (q8.1, q8.2)
    else
      f_X9_mark_33 fu 0 q1.2
set_option maxHeartbeats 4000000 in
set_option maxRecDepth 100000 in
theorem w_X9_mark_33 {p : Program} {l : Launch} {e : Env} {s : State} {m : MethodId} {args : Array Value} {below : List Frame} {meth : Method} {c : Code} {G : GG} (F : CallFix p m c cX9_mark 2 s args (wsU yX9_mark cX9_mark 2 (some .int)) RX9) (hr : meth.sig.returnType = (some .int)) (hlk : meth.locks = false) {z : Int32 × GW} : ∀ (n9 : Nat), (∀ (x1 : Int32) (w : GW) (H : Heap) (locs : List Loc) (ls : Array Slot), St G w s H locs → lv_has ls 2 [(0, .ref (gad G 130)), (1, .int x1)] → f_X9_mark_33 n9 x1 w = some z → W p l e (headSpec (wsU yX9_mark cX9_mark 2 (some .int)) rm_X9_mark).room s m args below meth c H locs 0 0 (MQ below (QI G z) args s 0 0 (gA G)) (F0 m 33 ls [])) := by
  obtain ⟨hx, hb, hml, hown, hts⟩ := id F
  have hg : ∀ q ∈ lwg, q.before args s = true := fun q h => hts q (List.mem_cons_of_mem _ h)
  intro n9
  induction n9 with
  | zero =>
    intro x1 w H locs ls S hl hz
    rw [f_X9_mark_33] at hz
    cases hz
  | succ n9 ih =>
    intro x1 w H locs ls S hl hz
    rw [f_X9_mark_33] at hz
    refine lv_iload_n hx hb dX9_mark_33 rfl (lv_at hl 1 rfl) ?_
    refine lv_bipush (v := 9) hx hb dX9_mark_34 (by decide) ?_
    refine lv_icmp_ge (tgt := 65) hx hb dX9_mark_36 (by decide) (fun c5 => ?_) (fun c5 => ?_)
    · have hz := ipt (c5) hz
      refine lv_aload_n hx hb dX9_mark_65 rfl (lv_at hl 0 rfl) ?_
      refine lv_dup hx hb dX9_mark_66 rfl ?_
      refine fg_X9_19 hx hb (fun q h => hg q (tl_X9 q h)) hown (hg _ t_fl_X9_162) S (by decide) dX9_mark_67 ?_
      refine lv_iconst (v := 1) hx hb dX9_mark_70 (by decide) ?_
      refine lv_iadd hx hb dX9_mark_71 ?_
      refine fp_X9_19 (v := ((gI w 130 19) + 1)) hx hb (fun q h => hg q (tl_X9 q h)) hown (hg _ t_fl_X9_162) S (by decide) dX9_mark_72 (fun H locs S => ?_)
      refine lv_aload_n hx hb dX9_mark_75 rfl (lv_at hl 0 rfl) ?_
      refine fg_X9_19 hx hb (fun q h => hg q (tl_X9 q h)) hown (hg _ t_fl_X9_162) S (by decide) dX9_mark_76 ?_
      refine lv_iconst (v := 1) hx hb dX9_mark_79 (by decide) ?_
      refine lv_isub hx hb dX9_mark_80 ?_
      exact g_reti hx hb hr hlk S hz dX9_mark_81
    · have hz := ipf (c5) hz
      refine lv_aload_n hx hb dX9_mark_39 rfl (lv_at hl 0 rfl) ?_
      refine fg_X9_18 hx hb (fun q h => hg q (tl_X9 q h)) hown (hg _ t_fl_X9_29) S (by decide) dX9_mark_40 ?_
      refine lv_bipush (v := 9) hx hb dX9_mark_43 (by decide) ?_
      refine lv_aload_n hx hb dX9_mark_45 rfl (lv_at hl 0 rfl) ?_
      refine fg_X9_19 hx hb (fun q h => hg q (tl_X9 q h)) hown (hg _ t_fl_X9_162) S (by decide) dX9_mark_46 ?_
      refine lv_imul hx hb dX9_mark_49 ?_
      refine lv_iload_n hx hb dX9_mark_50 rfl (lv_at hl 1 rfl) ?_
      refine lv_iadd hx hb dX9_mark_51 ?_
      refine lv_aload_n hx hb dX9_mark_52 rfl (lv_at hl 0 rfl) ?_
      refine fg_X9_17 hx hb (fun q h => hg q (tl_X9 q h)) hown (hg _ t_fl_X9_26) S (by decide) dX9_mark_53 ?_
      refine lv_iload_n hx hb dX9_mark_56 rfl (lv_at hl 1 rfl) ?_
      obtain ⟨h6, hz⟩ := ck hz
      refine g_iald hx hb S (isA_16 (by decide)) h6 dX9_mark_57 ?_
      obtain ⟨h7, hz⟩ := ck hz
      refine g_iast (x := (gI w 135 (ix x1))) hx hb S (isA_17 (by decide)) h7 dX9_mark_58 (fun H locs S => ?_)
      refine lv_iinc (v := (x1 + 1)) (lv' := [(1, .int (x1 + 1)), (0, .ref (gad G 130))]) hx hb dX9_mark_59 hl (k := 1) rfl rfl (by decide) rfl (fun ls hl => ?_)
      refine lv_goto (tgt := 33) hx hb dX9_mark_62 (by decide) ?_
      exact ih (x1 + 1)  _ _ _ _ S (lv_sub hl [1, 0] rfl) hz
set_option maxHeartbeats 4000000 in
set_option maxRecDepth 100000 in
theorem c_X9_mark (l : Launch) (G : GG)   (w : GW) {z : Int32 × GW} (hz : f_X9_mark  w = some z) : Met l yX9_mark (wsU yX9_mark cX9_mark 2 (some .int)) rm_X9_mark (va_Pc [.ref (gad G 130)] (PreG G w)) (QI G z) 0 0 (gA G) := by
  refine Met.ofW (cc := cX9_mark) (maxL := 2) (ret := (some .int)) (by decide) rfl ?_
  intro p e s m args below meth c s₁ B hml hv
  obtain ⟨rfl, S⟩ := hv
  have F : CallFix p m c cX9_mark 2 s _ (wsU yX9_mark cX9_mark 2 (some .int)) RX9 := ⟨B.exec, B.bytes, hml, findClass_of_methodNamed B.named, atoms_spec B.pre⟩
  have hr := B.returns
  have hlk := B.notSynchronized
  obtain ⟨hx, hb, -, hown, hts⟩ := id F
  have hg : ∀ q ∈ lwg, q.before _ s = true := fun q h => hts q (List.mem_cons_of_mem _ h)
  refine g_entry (Nat.le_of_ble_eq_true rfl) (fun ls hl => ?_)
  have hl : lv_has ls 2 [(0, .ref (gad G 130))] := hl
  have S : St G w s s.heap [] := S
  generalize s.heap = H at S ⊢
  generalize ([] : List Loc) = locs at S ⊢
  rw [f_X9_mark] at hz
  refine lv_aload_n hx hb dX9_mark_0 rfl (lv_at hl 0 rfl) ?_
  obtain ⟨q1, e2, hz⟩ := bd hz
  refine g_callVv (As := []) (rest := []) F S (c_X9_good l G   _ e2) (cw_X9_mark_X9_good_150 hg) (S.obj (by decide) (by decide) rfl (oc_X9 _ _ _ (by decide))) rfl hl.1 rfl (Nat.le_of_ble_eq_true rfl) ⟨Nat.zero_le _, Nat.zero_le _⟩ dX9_mark_1 (fun H locs  S => ?_)
  refine lv_aload_n hx hb dX9_mark_4 rfl (lv_at hl 0 rfl) ?_
  refine fg_X9_14 hx hb (fun q h => hg q (tl_X9 q h)) hown (hg _ t_fl_X9_159) S (by decide) dX9_mark_5 ?_
  refine lv_if_ne (tgt := 17) hx hb dX9_mark_8 (by decide) (fun c3 => ?_) (fun c3 => ?_)
  · have hz := ipf (c3) hz
    refine lv_aload_n hx hb dX9_mark_17 rfl (lv_at hl 0 rfl) ?_
    refine fg_X9_19 hx hb (fun q h => hg q (tl_X9 q h)) hown (hg _ t_fl_X9_162) S (by decide) dX9_mark_18 ?_
    refine lv_iconst (v := 3) hx hb dX9_mark_21 (by decide) ?_
    refine lv_icmp_ne (tgt := 31) hx hb dX9_mark_22 (by decide) (fun c4 => ?_) (fun c4 => ?_)
    · have hz := ipf (c4) hz
      refine lv_iconst (v := 0) hx hb dX9_mark_31 (by decide) ?_
      refine lv_istore_n (lv' := [(1, .int 0), (0, .ref (gad G 130))]) hx hb dX9_mark_32 rfl hl (by decide) rfl (fun ls hl => ?_)
      exact w_X9_mark_33 F hr hlk fu 0 _ _ _ _ S (lv_sub hl [1, 0] rfl) hz
    · have hz := ipt (c4) hz
      refine lv_aload_n hx hb dX9_mark_25 rfl (lv_at hl 0 rfl) ?_
      refine lv_iconst (v := 3) hx hb dX9_mark_26 (by decide) ?_
      obtain ⟨q8, e9, hz⟩ := bd hz
      refine g_callVi (As := [.int 3]) (rest := []) F S (c_X9_no l G 3  _ e9) (cw_X9_mark_X9_no_153 hg) (S.obj (by decide) (by decide) rfl (oc_X9 _ _ _ (by decide))) rfl hl.1 rfl (Nat.le_of_ble_eq_true rfl) ⟨Nat.zero_le _, Nat.zero_le _⟩ dX9_mark_27 (fun H locs  S => ?_)
      exact g_reti hx hb hr hlk S hz dX9_mark_30
  · have hz := ipt (c3) hz
    refine lv_aload_n hx hb dX9_mark_11 rfl (lv_at hl 0 rfl) ?_
    refine lv_iconst (v := 1) hx hb dX9_mark_12 (by decide) ?_
    obtain ⟨q10, e11, hz⟩ := bd hz
    refine g_callVi (As := [.int 1]) (rest := []) F S (c_X9_no l G 1  _ e11) (cw_X9_mark_X9_no_153 hg) (S.obj (by decide) (by decide) rfl (oc_X9 _ _ _ (by decide))) rfl hl.1 rfl (Nat.le_of_ble_eq_true rfl) ⟨Nat.zero_le _, Nat.zero_le _⟩ dX9_mark_13 (fun H locs  S => ?_)
    exact g_reti hx hb hr hlk S hz dX9_mark_16
noncomputable def f_X9_back_26  : Nat → Int32 → Int32 → GW → Option (Int32 × GW)
  | 0, _, _, _ => none
  | n9 + 1, x1, x2, w =>
    if 9 ≤ x2 then
      some (1, w)
    else
      if inb ((9 * x1) + x2) 27 then
      if inb x2 9 then
      f_X9_back_26 n9 x1 (x2 + 1) (sI w 135 (ix x2) (gI w 136 (ix ((9 * x1) + x2))))
      else none
      else none
noncomputable def f_X9_back (x1 : Int32) (w : GW) : Option (Int32 × GW) :=
  (f_X9_good w).bind fun q1 =>
  (f_X9_within x1 0 ((gI q1.2 130 19) - 1) q1.2).bind fun q3 =>
  if q3.1 = 0 then
    (f_X9_isNot 1 q3.2).bind fun q10 =>
    some (q10.1, q10.2)
  else
    f_X9_back_26 fu x1 0 q3.2
set_option maxHeartbeats 4000000 in
set_option maxRecDepth 100000 in
theorem w_X9_back_26 {p : Program} {l : Launch} {e : Env} {s : State} {m : MethodId} {args : Array Value} {below : List Frame} {meth : Method} {c : Code} {G : GG} (F : CallFix p m c cX9_back 3 s args (wsU yX9_back cX9_back 3 (some .boolean)) RX9) (hr : meth.sig.returnType = (some .boolean)) (hlk : meth.locks = false) {z : Int32 × GW} : ∀ (n9 : Nat), (∀ (x1 : Int32) (x2 : Int32) (w : GW) (H : Heap) (locs : List Loc) (ls : Array Slot), St G w s H locs → lv_has ls 3 [(0, .ref (gad G 130)), (1, .int x1), (2, .int x2)] → f_X9_back_26 n9 x1 x2 w = some z → W p l e (headSpec (wsU yX9_back cX9_back 3 (some .boolean)) rm_X9_back).room s m args below meth c H locs 0 0 (MQ below (QB G z) args s 0 0 (gA G)) (F0 m 26 ls [])) := by
  obtain ⟨hx, hb, hml, hown, hts⟩ := id F
  have hg : ∀ q ∈ lwg, q.before args s = true := fun q h => hts q (List.mem_cons_of_mem _ h)
  intro n9
  induction n9 with
  | zero =>
    intro x1 x2 w H locs ls S hl hz
    rw [f_X9_back_26] at hz
    cases hz
  | succ n9 ih =>
    intro x1 x2 w H locs ls S hl hz
    rw [f_X9_back_26] at hz
    refine lv_iload_n hx hb dX9_back_26 rfl (lv_at hl 2 rfl) ?_
    refine lv_bipush (v := 9) hx hb dX9_back_27 (by decide) ?_
    refine lv_icmp_ge (tgt := 55) hx hb dX9_back_29 (by decide) (fun c7 => ?_) (fun c7 => ?_)
    · have hz := ipt (c7) hz
      refine lv_iconst (v := 1) hx hb dX9_back_55 (by decide) ?_
      exact g_retb hx hb hr hlk S isB_1 hz dX9_back_56
    · have hz := ipf (c7) hz
      refine lv_aload_n hx hb dX9_back_32 rfl (lv_at hl 0 rfl) ?_
      refine fg_X9_17 hx hb (fun q h => hg q (tl_X9 q h)) hown (hg _ t_fl_X9_26) S (by decide) dX9_back_33 ?_
      refine lv_iload_n hx hb dX9_back_36 rfl (lv_at hl 2 rfl) ?_
      refine lv_aload_n hx hb dX9_back_37 rfl (lv_at hl 0 rfl) ?_
      refine fg_X9_18 hx hb (fun q h => hg q (tl_X9 q h)) hown (hg _ t_fl_X9_29) S (by decide) dX9_back_38 ?_
      refine lv_bipush (v := 9) hx hb dX9_back_41 (by decide) ?_
      refine lv_iload_n hx hb dX9_back_43 rfl (lv_at hl 1 rfl) ?_
      refine lv_imul hx hb dX9_back_44 ?_
      refine lv_iload_n hx hb dX9_back_45 rfl (lv_at hl 2 rfl) ?_
      refine lv_iadd hx hb dX9_back_46 ?_
      obtain ⟨h8, hz⟩ := ck hz
      refine g_iald hx hb S (isA_17 (by decide)) h8 dX9_back_47 ?_
      obtain ⟨h9, hz⟩ := ck hz
      refine g_iast (x := (gI w 136 (ix ((9 * x1) + x2)))) hx hb S (isA_16 (by decide)) h9 dX9_back_48 (fun H locs S => ?_)
      refine lv_iinc (v := (x2 + 1)) (lv' := [(2, .int (x2 + 1)), (0, .ref (gad G 130)), (1, .int x1)]) hx hb dX9_back_49 hl (k := 2) rfl rfl (by decide) rfl (fun ls hl => ?_)
      refine lv_goto (tgt := 26) hx hb dX9_back_52 (by decide) ?_
      exact ih x1 (x2 + 1)  _ _ _ _ S (lv_sub hl [1, 2, 0] rfl) hz
set_option maxHeartbeats 4000000 in
set_option maxRecDepth 100000 in
theorem c_X9_back (l : Launch) (G : GG) (x1 : Int32)  (w : GW) {z : Int32 × GW} (hz : f_X9_back x1 w = some z) : Met l yX9_back (wsU yX9_back cX9_back 3 (some .boolean)) rm_X9_back (va_Pc [.ref (gad G 130), .int x1] (PreG G w)) (QB G z) 0 0 (gA G) := by
  refine Met.ofW (cc := cX9_back) (maxL := 3) (ret := (some .boolean)) (by decide) rfl ?_
  intro p e s m args below meth c s₁ B hml hv
  obtain ⟨rfl, S⟩ := hv
  have F : CallFix p m c cX9_back 3 s _ (wsU yX9_back cX9_back 3 (some .boolean)) RX9 := ⟨B.exec, B.bytes, hml, findClass_of_methodNamed B.named, atoms_spec B.pre⟩
  have hr := B.returns
  have hlk := B.notSynchronized
  obtain ⟨hx, hb, -, hown, hts⟩ := id F
  have hg : ∀ q ∈ lwg, q.before _ s = true := fun q h => hts q (List.mem_cons_of_mem _ h)
  refine g_entry (Nat.le_of_ble_eq_true rfl) (fun ls hl => ?_)
  have hl : lv_has ls 3 [(0, .ref (gad G 130)), (1, .int x1)] := hl
  have S : St G w s s.heap [] := S
  generalize s.heap = H at S ⊢
  generalize ([] : List Loc) = locs at S ⊢
  rw [f_X9_back] at hz
  refine lv_aload_n hx hb dX9_back_0 rfl (lv_at hl 0 rfl) ?_
  obtain ⟨q1, e2, hz⟩ := bd hz
  refine g_callVv (As := []) (rest := []) F S (c_X9_good l G   _ e2) (cw_X9_back_X9_good_150 hg) (S.obj (by decide) (by decide) rfl (oc_X9 _ _ _ (by decide))) rfl hl.1 rfl (Nat.le_of_ble_eq_true rfl) ⟨Nat.zero_le _, Nat.zero_le _⟩ dX9_back_1 (fun H locs  S => ?_)
  refine lv_iload_n hx hb dX9_back_4 rfl (lv_at hl 1 rfl) ?_
  refine lv_iconst (v := 0) hx hb dX9_back_5 (by decide) ?_
  refine lv_aload_n hx hb dX9_back_6 rfl (lv_at hl 0 rfl) ?_
  refine fg_X9_19 hx hb (fun q h => hg q (tl_X9 q h)) hown (hg _ t_fl_X9_162) S (by decide) dX9_back_7 ?_
  refine lv_iconst (v := 1) hx hb dX9_back_10 (by decide) ?_
  refine lv_isub hx hb dX9_back_11 ?_
  obtain ⟨q3, e4, hz⟩ := bd hz
  refine g_callSb (As := [.int x1, .int 0, .int ((gI q1.2 130 19) - 1)]) (rest := []) F S (c_X9_within l G x1 0 ((gI q1.2 130 19) - 1)  _ e4) (cw_X9_back_X9_within_138 hg) rfl hl.1 rfl (Nat.le_of_ble_eq_true rfl) ⟨Nat.zero_le _, Nat.zero_le _⟩ dX9_back_12 (fun H locs hB5 S => ?_)
  refine lv_if_ne (tgt := 24) hx hb dX9_back_15 (by decide) (fun c6 => ?_) (fun c6 => ?_)
  · have hz := ipf (c6) hz
    refine lv_iconst (v := 0) hx hb dX9_back_24 (by decide) ?_
    refine lv_istore_n (lv' := [(2, .int 0), (0, .ref (gad G 130)), (1, .int x1)]) hx hb dX9_back_25 rfl hl (by decide) rfl (fun ls hl => ?_)
    exact w_X9_back_26 F hr hlk fu x1 0 _ _ _ _ S (lv_sub hl [1, 2, 0] rfl) hz
  · have hz := ipt (c6) hz
    refine lv_aload_n hx hb dX9_back_18 rfl (lv_at hl 0 rfl) ?_
    refine lv_iconst (v := 1) hx hb dX9_back_19 (by decide) ?_
    obtain ⟨q10, e11, hz⟩ := bd hz
    refine g_callVb (As := [.int 1]) (rest := []) F S (c_X9_isNot l G 1  _ e11) (cw_X9_back_X9_isNot_379 hg) (S.obj (by decide) (by decide) rfl (oc_X9 _ _ _ (by decide))) rfl hl.1 rfl (Nat.le_of_ble_eq_true rfl) ⟨Nat.zero_le _, Nat.zero_le _⟩ dX9_back_20 (fun H locs hB12 S => ?_)
    exact g_retb hx hb hr hlk S hB12 hz dX9_back_23
noncomputable def f_X9_porter_52   (w : GW) : Option (Int32 × GW) :=
  (f_X9_no 1 w).bind fun q7 =>
  some (q7.1, q7.2)
noncomputable def f_X9_porter_46  (x1 : Int32) (t0 : Int32) (w : GW) : Option (Int32 × GW) :=
  if inb (t0 + x1) 135 then
  some ((gI w 133 (ix (t0 + x1))), w)
  else none
noncomputable def f_X9_porter (x1 : Int32) (x2 : Int32) (w : GW) : Option (Int32 × GW) :=
  (f_X9_good w).bind fun q1 =>
  (f_X9_isPorter x1 q1.2).bind fun q3 =>
  if q3.1 = 0 then
    f_X9_porter_52 q3.2
  else
    (f_X9_within x2 0 2 q3.2).bind fun q9 =>
    if q9.1 = 0 then
      f_X9_porter_52 q9.2
    else
      if x2 = 0 then
        f_X9_porter_46 x1 18 q9.2
      else
        if x2 = 1 then
          f_X9_porter_46 x1 24 q9.2
        else
          f_X9_porter_46 x1 30 q9.2
set_option maxHeartbeats 4000000 in
set_option maxRecDepth 100000 in
theorem w_X9_porter_52 {p : Program} {l : Launch} {e : Env} {s : State} {m : MethodId} {args : Array Value} {below : List Frame} {meth : Method} {c : Code} {G : GG} (F : CallFix p m c cX9_porter 3 s args (wsU yX9_porter cX9_porter 3 (some .int)) RX9) (hr : meth.sig.returnType = (some .int)) (hlk : meth.locks = false) {z : Int32 × GW} : (∀ (w : GW) (H : Heap) (locs : List Loc) (ls : Array Slot), St G w s H locs → lv_has ls 3 [(0, .ref (gad G 130))] → f_X9_porter_52  w = some z → W p l e (headSpec (wsU yX9_porter cX9_porter 3 (some .int)) rm_X9_porter).room s m args below meth c H locs 0 0 (MQ below (QI G z) args s 0 0 (gA G)) (F0 m 52 ls [])) := by
  obtain ⟨hx, hb, hml, hown, hts⟩ := id F
  have hg : ∀ q ∈ lwg, q.before args s = true := fun q h => hts q (List.mem_cons_of_mem _ h)
  intro w H locs ls S hl hz
  rw [f_X9_porter_52] at hz
  refine lv_aload_n hx hb dX9_porter_52 rfl (lv_at hl 0 rfl) ?_
  refine lv_iconst (v := 1) hx hb dX9_porter_53 (by decide) ?_
  obtain ⟨q7, e8, hz⟩ := bd hz
  refine g_callVi (As := [.int 1]) (rest := []) F S (c_X9_no l G 1  _ e8) (cw_X9_porter_X9_no_153 hg) (S.obj (by decide) (by decide) rfl (oc_X9 _ _ _ (by decide))) rfl hl.1 rfl (Nat.le_of_ble_eq_true rfl) ⟨Nat.zero_le _, Nat.zero_le _⟩ dX9_porter_54 (fun H locs  S => ?_)
  exact g_reti hx hb hr hlk S hz dX9_porter_57
set_option maxHeartbeats 4000000 in
set_option maxRecDepth 100000 in
theorem w_X9_porter_46 {p : Program} {l : Launch} {e : Env} {s : State} {m : MethodId} {args : Array Value} {below : List Frame} {meth : Method} {c : Code} {G : GG} (F : CallFix p m c cX9_porter 3 s args (wsU yX9_porter cX9_porter 3 (some .int)) RX9) (hr : meth.sig.returnType = (some .int)) (hlk : meth.locks = false) {z : Int32 × GW} : (∀ (x1 : Int32) (t0 : Int32) (w : GW) (H : Heap) (locs : List Loc) (ls : Array Slot), St G w s H locs → lv_has ls 3 [(1, .int x1)] → f_X9_porter_46 x1 t0 w = some z → W p l e (headSpec (wsU yX9_porter cX9_porter 3 (some .int)) rm_X9_porter).room s m args below meth c H locs 0 0 (MQ below (QI G z) args s 0 0 (gA G)) (F0 m 46 ls [.int t0, .ref (gad G 133)])) := by
  obtain ⟨hx, hb, hml, hown, hts⟩ := id F
  have hg : ∀ q ∈ lwg, q.before args s = true := fun q h => hts q (List.mem_cons_of_mem _ h)
  intro x1 t0 w H locs ls S hl hz
  rw [f_X9_porter_46] at hz
  refine lv_iload_n hx hb dX9_porter_46 rfl (lv_at hl 0 rfl) ?_
  refine lv_iadd hx hb dX9_porter_47 ?_
  obtain ⟨h15, hz⟩ := ck hz
  refine g_iald hx hb S (isA_15 (by decide)) h15 dX9_porter_48 ?_
  refine lv_goto (tgt := 57) hx hb dX9_porter_49 (by decide) ?_
  exact g_reti hx hb hr hlk S hz dX9_porter_57
set_option maxHeartbeats 4000000 in
set_option maxRecDepth 100000 in
theorem c_X9_porter (l : Launch) (G : GG) (x1 : Int32) (x2 : Int32)  (w : GW) {z : Int32 × GW} (hz : f_X9_porter x1 x2 w = some z) : Met l yX9_porter (wsU yX9_porter cX9_porter 3 (some .int)) rm_X9_porter (va_Pc [.ref (gad G 130), .int x1, .int x2] (PreG G w)) (QI G z) 0 0 (gA G) := by
  refine Met.ofW (cc := cX9_porter) (maxL := 3) (ret := (some .int)) (by decide) rfl ?_
  intro p e s m args below meth c s₁ B hml hv
  obtain ⟨rfl, S⟩ := hv
  have F : CallFix p m c cX9_porter 3 s _ (wsU yX9_porter cX9_porter 3 (some .int)) RX9 := ⟨B.exec, B.bytes, hml, findClass_of_methodNamed B.named, atoms_spec B.pre⟩
  have hr := B.returns
  have hlk := B.notSynchronized
  obtain ⟨hx, hb, -, hown, hts⟩ := id F
  have hg : ∀ q ∈ lwg, q.before _ s = true := fun q h => hts q (List.mem_cons_of_mem _ h)
  refine g_entry (Nat.le_of_ble_eq_true rfl) (fun ls hl => ?_)
  have hl : lv_has ls 3 [(0, .ref (gad G 130)), (1, .int x1), (2, .int x2)] := hl
  have S : St G w s s.heap [] := S
  generalize s.heap = H at S ⊢
  generalize ([] : List Loc) = locs at S ⊢
  rw [f_X9_porter] at hz
  refine lv_aload_n hx hb dX9_porter_0 rfl (lv_at hl 0 rfl) ?_
  obtain ⟨q1, e2, hz⟩ := bd hz
  refine g_callVv (As := []) (rest := []) F S (c_X9_good l G   _ e2) (cw_X9_porter_X9_good_150 hg) (S.obj (by decide) (by decide) rfl (oc_X9 _ _ _ (by decide))) rfl hl.1 rfl (Nat.le_of_ble_eq_true rfl) ⟨Nat.zero_le _, Nat.zero_le _⟩ dX9_porter_1 (fun H locs  S => ?_)
  refine lv_aload_n hx hb dX9_porter_4 rfl (lv_at hl 0 rfl) ?_
  refine lv_iload_n hx hb dX9_porter_5 rfl (lv_at hl 1 rfl) ?_
  obtain ⟨q3, e4, hz⟩ := bd hz
  refine g_callVb (As := [.int x1]) (rest := []) F S (c_X9_isPorter l G x1  _ e4) (cw_X9_porter_X9_isPorter_320 hg) (S.obj (by decide) (by decide) rfl (oc_X9 _ _ _ (by decide))) rfl hl.1 rfl (Nat.le_of_ble_eq_true rfl) ⟨Nat.zero_le _, Nat.zero_le _⟩ dX9_porter_6 (fun H locs hB5 S => ?_)
  refine lv_if_eq (tgt := 52) hx hb dX9_porter_9 (by decide) (fun c6 => ?_) (fun c6 => ?_)
  · have hz := ipt (c6) hz
    exact w_X9_porter_52 F hr hlk _ _ _ _ S (lv_sub hl [0] rfl) hz
  · have hz := ipf (c6) hz
    refine lv_iload_n hx hb dX9_porter_12 rfl (lv_at hl 2 rfl) ?_
    refine lv_iconst (v := 0) hx hb dX9_porter_13 (by decide) ?_
    refine lv_iconst (v := 2) hx hb dX9_porter_14 (by decide) ?_
    obtain ⟨q9, e10, hz⟩ := bd hz
    refine g_callSb (As := [.int x2, .int 0, .int 2]) (rest := []) F S (c_X9_within l G x2 0 2  _ e10) (cw_X9_porter_X9_within_138 hg) rfl hl.1 rfl (Nat.le_of_ble_eq_true rfl) ⟨Nat.zero_le _, Nat.zero_le _⟩ dX9_porter_15 (fun H locs hB11 S => ?_)
    refine lv_if_eq (tgt := 52) hx hb dX9_porter_18 (by decide) (fun c12 => ?_) (fun c12 => ?_)
    · have hz := ipt (c12) hz
      exact w_X9_porter_52 F hr hlk _ _ _ _ S (lv_sub hl [0] rfl) hz
    · have hz := ipf (c12) hz
      refine lv_aload_n hx hb dX9_porter_21 rfl (lv_at hl 0 rfl) ?_
      refine fg_X9_15 hx hb (fun q h => hg q (tl_X9 q h)) hown (hg _ t_fl_X9_20) S (by decide) dX9_porter_22 ?_
      refine lv_iload_n hx hb dX9_porter_25 rfl (lv_at hl 2 rfl) ?_
      refine lv_if_ne (tgt := 34) hx hb dX9_porter_26 (by decide) (fun c13 => ?_) (fun c13 => ?_)
      · have hz := ipf (c13) hz
        refine lv_iload_n hx hb dX9_porter_34 rfl (lv_at hl 2 rfl) ?_
        refine lv_iconst (v := 1) hx hb dX9_porter_35 (by decide) ?_
        refine lv_icmp_ne (tgt := 44) hx hb dX9_porter_36 (by decide) (fun c14 => ?_) (fun c14 => ?_)
        · have hz := ipf (c14) hz
          refine lv_bipush (v := 30) hx hb dX9_porter_44 (by decide) ?_
          exact w_X9_porter_46 F hr hlk x1 30 _ _ _ _ S (lv_sub hl [1] rfl) hz
        · have hz := ipt (c14) hz
          refine lv_bipush (v := 24) hx hb dX9_porter_39 (by decide) ?_
          refine lv_goto (tgt := 46) hx hb dX9_porter_41 (by decide) ?_
          exact w_X9_porter_46 F hr hlk x1 24 _ _ _ _ S (lv_sub hl [1] rfl) hz
      · have hz := ipt (c13) hz
        refine lv_bipush (v := 18) hx hb dX9_porter_29 (by decide) ?_
        refine lv_goto (tgt := 46) hx hb dX9_porter_31 (by decide) ?_
        exact w_X9_porter_46 F hr hlk x1 18 _ _ _ _ S (lv_sub hl [1] rfl) hz
noncomputable def f_X9_boxOf_26  (x1 : Int32) (t0 : Int32) (w : GW) : Option (Int32 × GW) :=
  if inb (t0 + x1) 135 then
  some ((gI w 133 (ix (t0 + x1))), w)
  else none
noncomputable def f_X9_boxOf (x1 : Int32) (x2 : Int32) (w : GW) : Option (Int32 × GW) :=
  (f_X9_good w).bind fun q1 =>
  (f_X9_isBox x1 q1.2).bind fun q3 =>
  if q3.1 = 0 then
    (f_X9_no 1 q3.2).bind fun q7 =>
    some (q7.1, q7.2)
  else
    if x2 = 0 then
      f_X9_boxOf_26 x1 2 q3.2
    else
      f_X9_boxOf_26 x1 7 q3.2
set_option maxHeartbeats 4000000 in
set_option maxRecDepth 100000 in
theorem w_X9_boxOf_26 {p : Program} {l : Launch} {e : Env} {s : State} {m : MethodId} {args : Array Value} {below : List Frame} {meth : Method} {c : Code} {G : GG} (F : CallFix p m c cX9_boxOf 3 s args (wsU yX9_boxOf cX9_boxOf 3 (some .int)) RX9) (hr : meth.sig.returnType = (some .int)) (hlk : meth.locks = false) {z : Int32 × GW} : (∀ (x1 : Int32) (t0 : Int32) (w : GW) (H : Heap) (locs : List Loc) (ls : Array Slot), St G w s H locs → lv_has ls 3 [(1, .int x1)] → f_X9_boxOf_26 x1 t0 w = some z → W p l e (headSpec (wsU yX9_boxOf cX9_boxOf 3 (some .int)) rm_X9_boxOf).room s m args below meth c H locs 0 0 (MQ below (QI G z) args s 0 0 (gA G)) (F0 m 26 ls [.int t0, .ref (gad G 133)])) := by
  obtain ⟨hx, hb, hml, hown, hts⟩ := id F
  have hg : ∀ q ∈ lwg, q.before args s = true := fun q h => hts q (List.mem_cons_of_mem _ h)
  intro x1 t0 w H locs ls S hl hz
  rw [f_X9_boxOf_26] at hz
  refine lv_iload_n hx hb dX9_boxOf_26 rfl (lv_at hl 0 rfl) ?_
  refine lv_iadd hx hb dX9_boxOf_27 ?_
  obtain ⟨h10, hz⟩ := ck hz
  refine g_iald hx hb S (isA_15 (by decide)) h10 dX9_boxOf_28 ?_
  refine lv_goto (tgt := 37) hx hb dX9_boxOf_29 (by decide) ?_
  exact g_reti hx hb hr hlk S hz dX9_boxOf_37
set_option maxHeartbeats 4000000 in
set_option maxRecDepth 100000 in
theorem c_X9_boxOf (l : Launch) (G : GG) (x1 : Int32) (x2 : Int32)  (w : GW) {z : Int32 × GW} (hz : f_X9_boxOf x1 x2 w = some z) : Met l yX9_boxOf (wsU yX9_boxOf cX9_boxOf 3 (some .int)) rm_X9_boxOf (va_Pc [.ref (gad G 130), .int x1, .int x2] (PreG G w)) (QI G z) 0 0 (gA G) := by
  refine Met.ofW (cc := cX9_boxOf) (maxL := 3) (ret := (some .int)) (by decide) rfl ?_
  intro p e s m args below meth c s₁ B hml hv
  obtain ⟨rfl, S⟩ := hv
  have F : CallFix p m c cX9_boxOf 3 s _ (wsU yX9_boxOf cX9_boxOf 3 (some .int)) RX9 := ⟨B.exec, B.bytes, hml, findClass_of_methodNamed B.named, atoms_spec B.pre⟩
  have hr := B.returns
  have hlk := B.notSynchronized
  obtain ⟨hx, hb, -, hown, hts⟩ := id F
  have hg : ∀ q ∈ lwg, q.before _ s = true := fun q h => hts q (List.mem_cons_of_mem _ h)
  refine g_entry (Nat.le_of_ble_eq_true rfl) (fun ls hl => ?_)
  have hl : lv_has ls 3 [(0, .ref (gad G 130)), (1, .int x1), (2, .int x2)] := hl
  have S : St G w s s.heap [] := S
  generalize s.heap = H at S ⊢
  generalize ([] : List Loc) = locs at S ⊢
  rw [f_X9_boxOf] at hz
  refine lv_aload_n hx hb dX9_boxOf_0 rfl (lv_at hl 0 rfl) ?_
  obtain ⟨q1, e2, hz⟩ := bd hz
  refine g_callVv (As := []) (rest := []) F S (c_X9_good l G   _ e2) (cw_X9_boxOf_X9_good_150 hg) (S.obj (by decide) (by decide) rfl (oc_X9 _ _ _ (by decide))) rfl hl.1 rfl (Nat.le_of_ble_eq_true rfl) ⟨Nat.zero_le _, Nat.zero_le _⟩ dX9_boxOf_1 (fun H locs  S => ?_)
  refine lv_aload_n hx hb dX9_boxOf_4 rfl (lv_at hl 0 rfl) ?_
  refine lv_iload_n hx hb dX9_boxOf_5 rfl (lv_at hl 1 rfl) ?_
  obtain ⟨q3, e4, hz⟩ := bd hz
  refine g_callVb (As := [.int x1]) (rest := []) F S (c_X9_isBox l G x1  _ e4) (cw_X9_boxOf_X9_isBox_341 hg) (S.obj (by decide) (by decide) rfl (oc_X9 _ _ _ (by decide))) rfl hl.1 rfl (Nat.le_of_ble_eq_true rfl) ⟨Nat.zero_le _, Nat.zero_le _⟩ dX9_boxOf_6 (fun H locs hB5 S => ?_)
  refine lv_if_eq (tgt := 32) hx hb dX9_boxOf_9 (by decide) (fun c6 => ?_) (fun c6 => ?_)
  · have hz := ipt (c6) hz
    refine lv_aload_n hx hb dX9_boxOf_32 rfl (lv_at hl 0 rfl) ?_
    refine lv_iconst (v := 1) hx hb dX9_boxOf_33 (by decide) ?_
    obtain ⟨q7, e8, hz⟩ := bd hz
    refine g_callVi (As := [.int 1]) (rest := []) F S (c_X9_no l G 1  _ e8) (cw_X9_boxOf_X9_no_153 hg) (S.obj (by decide) (by decide) rfl (oc_X9 _ _ _ (by decide))) rfl hl.1 rfl (Nat.le_of_ble_eq_true rfl) ⟨Nat.zero_le _, Nat.zero_le _⟩ dX9_boxOf_34 (fun H locs  S => ?_)
    exact g_reti hx hb hr hlk S hz dX9_boxOf_37
  · have hz := ipf (c6) hz
    refine lv_aload_n hx hb dX9_boxOf_12 rfl (lv_at hl 0 rfl) ?_
    refine fg_X9_15 hx hb (fun q h => hg q (tl_X9 q h)) hown (hg _ t_fl_X9_20) S (by decide) dX9_boxOf_13 ?_
    refine lv_iload_n hx hb dX9_boxOf_16 rfl (lv_at hl 2 rfl) ?_
    refine lv_if_eq (tgt := 25) hx hb dX9_boxOf_17 (by decide) (fun c9 => ?_) (fun c9 => ?_)
    · have hz := ipt (c9) hz
      refine lv_iconst (v := 2) hx hb dX9_boxOf_25 (by decide) ?_
      exact w_X9_boxOf_26 F hr hlk x1 2 _ _ _ _ S (lv_sub hl [1] rfl) hz
    · have hz := ipf (c9) hz
      refine lv_bipush (v := 7) hx hb dX9_boxOf_20 (by decide) ?_
      refine lv_goto (tgt := 26) hx hb dX9_boxOf_22 (by decide) ?_
      exact w_X9_boxOf_26 F hr hlk x1 7 _ _ _ _ S (lv_sub hl [1] rfl) hz
noncomputable def f_X9_led_54   (w : GW) : Option (Int32 × GW) :=
  some (0, (sI w 130 0 1))
noncomputable def f_X9_led_48 (k_4 : Int32 → Int32 → Int32 → GW → Option (Int32 × GW)) (x1 : Int32) (x2 : Int32) (x3 : Int32) (w : GW) : Option (Int32 × GW) :=
  k_4 x1 x2 (x3 + 1) w
noncomputable def f_X9_led_4  : Nat → Int32 → Int32 → Int32 → GW → Option (Int32 × GW)
  | 0, _, _, _, _ => none
  | n9 + 1, x1, x2, x3, w =>
    if (gI w 130 14) = 0 then
      f_X9_led_54 w
    else
      if inb 0 135 then
      if (gI w 133 (ix 0)) ≤ x3 then
        f_X9_led_54 w
      else
        if inb x3 9 then
        if (gI w 135 (ix x3)) ≤ 0 then
          if x2 = x1 then
            some (x3, (sI w 130 0 0))
          else
            f_X9_led_48 (f_X9_led_4 n9) x1 (x2 + 1) x3 w
        else
          f_X9_led_48 (f_X9_led_4 n9) x1 x2 x3 w
        else none
      else none
noncomputable def f_X9_led (x1 : Int32) (w : GW) : Option (Int32 × GW) :=
  f_X9_led_4 fu x1 0 0 w
set_option maxHeartbeats 4000000 in
set_option maxRecDepth 100000 in
theorem w_X9_led_54 {p : Program} {l : Launch} {e : Env} {s : State} {m : MethodId} {args : Array Value} {below : List Frame} {meth : Method} {c : Code} {G : GG} (F : CallFix p m c cX9_led 4 s args (wsU yX9_led cX9_led 4 (some .int)) RX9) (hr : meth.sig.returnType = (some .int)) (hlk : meth.locks = false) {z : Int32 × GW} : (∀ (w : GW) (H : Heap) (locs : List Loc) (ls : Array Slot), St G w s H locs → lv_has ls 4 [(0, .ref (gad G 130))] → f_X9_led_54  w = some z → W p l e (headSpec (wsU yX9_led cX9_led 4 (some .int)) rm_X9_led).room s m args below meth c H locs 0 0 (MQ below (QI G z) args s 0 0 (gA G)) (F0 m 54 ls [])) := by
  obtain ⟨hx, hb, hml, hown, hts⟩ := id F
  have hg : ∀ q ∈ lwg, q.before args s = true := fun q h => hts q (List.mem_cons_of_mem _ h)
  intro w H locs ls S hl hz
  rw [f_X9_led_54] at hz
  refine lv_aload_n hx hb dX9_led_54 rfl (lv_at hl 0 rfl) ?_
  refine lv_iconst (v := 1) hx hb dX9_led_55 (by decide) ?_
  refine fp_X9_0 (v := 1) hx hb (fun q h => hg q (tl_X9 q h)) hown (hg _ t_fl_X9_69) S (by decide) dX9_led_56 (fun H locs S => ?_)
  refine lv_iconst (v := 0) hx hb dX9_led_59 (by decide) ?_
  exact g_reti hx hb hr hlk S hz dX9_led_60
set_option maxHeartbeats 4000000 in
set_option maxRecDepth 100000 in
theorem w_X9_led_48 {p : Program} {l : Launch} {e : Env} {s : State} {m : MethodId} {args : Array Value} {below : List Frame} {meth : Method} {c : Code} {G : GG} (F : CallFix p m c cX9_led 4 s args (wsU yX9_led cX9_led 4 (some .int)) RX9) (hr : meth.sig.returnType = (some .int)) (hlk : meth.locks = false) {z : Int32 × GW} {k_4 : Int32 → Int32 → Int32 → GW → Option (Int32 × GW)} (Hk_4 : (∀ (x1 : Int32) (x2 : Int32) (x3 : Int32) (w : GW) (H : Heap) (locs : List Loc) (ls : Array Slot), St G w s H locs → lv_has ls 4 [(0, .ref (gad G 130)), (1, .int x1), (2, .int x2), (3, .int x3)] → k_4 x1 x2 x3 w = some z → W p l e (headSpec (wsU yX9_led cX9_led 4 (some .int)) rm_X9_led).room s m args below meth c H locs 0 0 (MQ below (QI G z) args s 0 0 (gA G)) (F0 m 4 ls []))) : (∀ (x1 : Int32) (x2 : Int32) (x3 : Int32) (w : GW) (H : Heap) (locs : List Loc) (ls : Array Slot), St G w s H locs → lv_has ls 4 [(0, .ref (gad G 130)), (1, .int x1), (2, .int x2), (3, .int x3)] → f_X9_led_48 k_4 x1 x2 x3 w = some z → W p l e (headSpec (wsU yX9_led cX9_led 4 (some .int)) rm_X9_led).room s m args below meth c H locs 0 0 (MQ below (QI G z) args s 0 0 (gA G)) (F0 m 48 ls [])) := by
  obtain ⟨hx, hb, hml, hown, hts⟩ := id F
  have hg : ∀ q ∈ lwg, q.before args s = true := fun q h => hts q (List.mem_cons_of_mem _ h)
  intro x1 x2 x3 w H locs ls S hl hz
  rw [f_X9_led_48] at hz
  refine lv_iinc (v := (x3 + 1)) (lv' := [(3, .int (x3 + 1)), (0, .ref (gad G 130)), (1, .int x1), (2, .int x2)]) hx hb dX9_led_48 hl (k := 3) rfl rfl (by decide) rfl (fun ls hl => ?_)
  refine lv_goto (tgt := 4) hx hb dX9_led_51 (by decide) ?_
  exact Hk_4 x1 x2 (x3 + 1)  _ _ _ _ S (lv_sub hl [1, 2, 3, 0] rfl) hz
set_option maxHeartbeats 4000000 in
set_option maxRecDepth 100000 in
theorem w_X9_led_4 {p : Program} {l : Launch} {e : Env} {s : State} {m : MethodId} {args : Array Value} {below : List Frame} {meth : Method} {c : Code} {G : GG} (F : CallFix p m c cX9_led 4 s args (wsU yX9_led cX9_led 4 (some .int)) RX9) (hr : meth.sig.returnType = (some .int)) (hlk : meth.locks = false) {z : Int32 × GW} : ∀ (n9 : Nat), (∀ (x1 : Int32) (x2 : Int32) (x3 : Int32) (w : GW) (H : Heap) (locs : List Loc) (ls : Array Slot), St G w s H locs → lv_has ls 4 [(0, .ref (gad G 130)), (1, .int x1), (2, .int x2), (3, .int x3)] → f_X9_led_4 n9 x1 x2 x3 w = some z → W p l e (headSpec (wsU yX9_led cX9_led 4 (some .int)) rm_X9_led).room s m args below meth c H locs 0 0 (MQ below (QI G z) args s 0 0 (gA G)) (F0 m 4 ls [])) := by
  obtain ⟨hx, hb, hml, hown, hts⟩ := id F
  have hg : ∀ q ∈ lwg, q.before args s = true := fun q h => hts q (List.mem_cons_of_mem _ h)
  intro n9
  induction n9 with
  | zero =>
    intro x1 x2 x3 w H locs ls S hl hz
    rw [f_X9_led_4] at hz
    cases hz
  | succ n9 ih =>
    intro x1 x2 x3 w H locs ls S hl hz
    rw [f_X9_led_4] at hz
    refine lv_aload_n hx hb dX9_led_4 rfl (lv_at hl 0 rfl) ?_
    refine fg_X9_14 hx hb (fun q h => hg q (tl_X9 q h)) hown (hg _ t_fl_X9_159) S (by decide) dX9_led_5 ?_
    refine lv_if_eq (tgt := 54) hx hb dX9_led_8 (by decide) (fun c1 => ?_) (fun c1 => ?_)
    · have hz := ipt (c1) hz
      exact w_X9_led_54 F hr hlk _ _ _ _ S (lv_sub hl [0] rfl) hz
    · have hz := ipf (c1) hz
      refine lv_iload_n hx hb dX9_led_11 rfl (lv_at hl 3 rfl) ?_
      refine lv_aload_n hx hb dX9_led_12 rfl (lv_at hl 0 rfl) ?_
      refine fg_X9_15 hx hb (fun q h => hg q (tl_X9 q h)) hown (hg _ t_fl_X9_20) S (by decide) dX9_led_13 ?_
      refine lv_iconst (v := 0) hx hb dX9_led_16 (by decide) ?_
      obtain ⟨h2, hz⟩ := ck hz
      refine g_iald hx hb S (isA_15 (by decide)) h2 dX9_led_17 ?_
      refine lv_icmp_ge (tgt := 54) hx hb dX9_led_18 (by decide) (fun c3 => ?_) (fun c3 => ?_)
      · have hz := ipt (c3) hz
        exact w_X9_led_54 F hr hlk _ _ _ _ S (lv_sub hl [0] rfl) hz
      · have hz := ipf (c3) hz
        refine lv_aload_n hx hb dX9_led_21 rfl (lv_at hl 0 rfl) ?_
        refine fg_X9_17 hx hb (fun q h => hg q (tl_X9 q h)) hown (hg _ t_fl_X9_26) S (by decide) dX9_led_22 ?_
        refine lv_iload_n hx hb dX9_led_25 rfl (lv_at hl 3 rfl) ?_
        obtain ⟨h4, hz⟩ := ck hz
        refine g_iald hx hb S (isA_16 (by decide)) h4 dX9_led_26 ?_
        refine lv_if_le (tgt := 33) hx hb dX9_led_27 (by decide) (fun c5 => ?_) (fun c5 => ?_)
        · have hz := ipt (c5) hz
          refine lv_iload_n hx hb dX9_led_33 rfl (lv_at hl 2 rfl) ?_
          refine lv_iload_n hx hb dX9_led_34 rfl (lv_at hl 1 rfl) ?_
          refine lv_icmp_ne (tgt := 45) hx hb dX9_led_35 (by decide) (fun c6 => ?_) (fun c6 => ?_)
          · have hz := ipf (c6) hz
            refine lv_iinc (v := (x2 + 1)) (lv' := [(2, .int (x2 + 1)), (0, .ref (gad G 130)), (1, .int x1), (3, .int x3)]) hx hb dX9_led_45 hl (k := 2) rfl rfl (by decide) rfl (fun ls hl => ?_)
            exact w_X9_led_48 F hr hlk ih x1 (x2 + 1) x3 _ _ _ _ S (lv_sub hl [1, 2, 0, 3] rfl) hz
          · have hz := ipt (c6) hz
            refine lv_aload_n hx hb dX9_led_38 rfl (lv_at hl 0 rfl) ?_
            refine lv_iconst (v := 0) hx hb dX9_led_39 (by decide) ?_
            refine fp_X9_0 (v := 0) hx hb (fun q h => hg q (tl_X9 q h)) hown (hg _ t_fl_X9_69) S (by decide) dX9_led_40 (fun H locs S => ?_)
            refine lv_iload_n hx hb dX9_led_43 rfl (lv_at hl 3 rfl) ?_
            exact g_reti hx hb hr hlk S hz dX9_led_44
        · have hz := ipf (c5) hz
          refine lv_goto (tgt := 48) hx hb dX9_led_30 (by decide) ?_
          exact w_X9_led_48 F hr hlk ih x1 x2 x3 _ _ _ _ S (lv_sub hl [0, 1, 2, 3] rfl) hz
set_option maxHeartbeats 4000000 in
set_option maxRecDepth 100000 in
theorem c_X9_led (l : Launch) (G : GG) (x1 : Int32)  (w : GW) {z : Int32 × GW} (hz : f_X9_led x1 w = some z) : Met l yX9_led (wsU yX9_led cX9_led 4 (some .int)) rm_X9_led (va_Pc [.ref (gad G 130), .int x1] (PreG G w)) (QI G z) 0 0 (gA G) := by
  refine Met.ofW (cc := cX9_led) (maxL := 4) (ret := (some .int)) (by decide) rfl ?_
  intro p e s m args below meth c s₁ B hml hv
  obtain ⟨rfl, S⟩ := hv
  have F : CallFix p m c cX9_led 4 s _ (wsU yX9_led cX9_led 4 (some .int)) RX9 := ⟨B.exec, B.bytes, hml, findClass_of_methodNamed B.named, atoms_spec B.pre⟩
  have hr := B.returns
  have hlk := B.notSynchronized
  obtain ⟨hx, hb, -, hown, hts⟩ := id F
  have hg : ∀ q ∈ lwg, q.before _ s = true := fun q h => hts q (List.mem_cons_of_mem _ h)
  refine g_entry (Nat.le_of_ble_eq_true rfl) (fun ls hl => ?_)
  have hl : lv_has ls 4 [(0, .ref (gad G 130)), (1, .int x1)] := hl
  have S : St G w s s.heap [] := S
  generalize s.heap = H at S ⊢
  generalize ([] : List Loc) = locs at S ⊢
  rw [f_X9_led] at hz
  refine lv_iconst (v := 0) hx hb dX9_led_0 (by decide) ?_
  refine lv_istore_n (lv' := [(2, .int 0), (0, .ref (gad G 130)), (1, .int x1)]) hx hb dX9_led_1 rfl hl (by decide) rfl (fun ls hl => ?_)
  refine lv_iconst (v := 0) hx hb dX9_led_2 (by decide) ?_
  refine lv_istore_n (lv' := [(3, .int 0), (2, .int 0), (0, .ref (gad G 130)), (1, .int x1)]) hx hb dX9_led_3 rfl hl (by decide) rfl (fun ls hl => ?_)
  exact w_X9_led_4 F hr hlk fu x1 0 0 _ _ _ _ S (lv_sub hl [2, 3, 1, 0] rfl) hz
noncomputable def f_X9_size_43  : Nat → Int32 → Int32 → Int32 → GW → Option (Int32 × GW)
  | 0, _, _, _, _ => none
  | n9 + 1, x1, x2, x3, w =>
    if 5 ≤ x3 then
      if x1 = 0 then
        if inb 0 135 then
        some ((gI w 133 (ix 0)), w)
        else none
      else
      if x1 = 1 then
        if inb 1 135 then
        some ((gI w 133 (ix 1)), w)
        else none
      else
      if x1 = 2 then
        if inb 17 135 then
        some ((gI w 133 (ix 17)), w)
        else none
      else
      if x1 = 3 then
        if inb 39 135 then
        some ((gI w 133 (ix 39)), w)
        else none
      else
      if x1 = 4 then
        if inb 5 9 then
        some ((gI w 135 (ix 5)), w)
        else none
      else
      if x1 = 5 then
        if inb 6 9 then
        some ((gI w 135 (ix 6)), w)
        else none
      else
      if x1 = 6 then
        if inb 6 9 then
        some (((gI w 135 (ix 6)) - x2), w)
        else none
      else
      if x1 = 7 then
        if inb 8 9 then
        some ((gI w 135 (ix 8)), w)
        else none
      else
      if x1 = 8 then
        some ((gI w 130 19), w)
      else
      some ((-1), w)
    else
      if inb x3 9 then
      f_X9_size_43 n9 x1 (x2 + (gI w 135 (ix x3))) (x3 + 1) w
      else none
noncomputable def f_X9_size (x1 : Int32) (w : GW) : Option (Int32 × GW) :=
  if x1 = 9 then
    some ((gI (sI w 130 0 0) 130 2), (sI w 130 0 0))
  else
    if (gI (sI w 130 0 0) 130 14) = 0 then
      (f_X9_within x1 0 8 (sI w 130 0 0)).bind fun q22 =>
      if q22.1 = 0 then
        some ((-1), q22.2)
      else
        some (0, q22.2)
    else
      f_X9_size_43 fu x1 0 0 (sI w 130 0 0)
set_option maxHeartbeats 4000000 in
set_option maxRecDepth 100000 in
theorem w_X9_size_43 {p : Program} {l : Launch} {e : Env} {s : State} {m : MethodId} {args : Array Value} {below : List Frame} {meth : Method} {c : Code} {G : GG} (F : CallFix p m c cX9_size 4 s args (wsU yX9_size cX9_size 4 (some .int)) RX9) (hr : meth.sig.returnType = (some .int)) (hlk : meth.locks = false) {z : Int32 × GW} : ∀ (n9 : Nat), (∀ (x1 : Int32) (x2 : Int32) (x3 : Int32) (w : GW) (H : Heap) (locs : List Loc) (ls : Array Slot), St G w s H locs → lv_has ls 4 [(0, .ref (gad G 130)), (1, .int x1), (2, .int x2), (3, .int x3)] → f_X9_size_43 n9 x1 x2 x3 w = some z → W p l e (headSpec (wsU yX9_size cX9_size 4 (some .int)) rm_X9_size).room s m args below meth c H locs 0 0 (MQ below (QI G z) args s 0 0 (gA G)) (F0 m 43 ls [])) := by
  obtain ⟨hx, hb, hml, hown, hts⟩ := id F
  have hg : ∀ q ∈ lwg, q.before args s = true := fun q h => hts q (List.mem_cons_of_mem _ h)
  intro n9
  induction n9 with
  | zero =>
    intro x1 x2 x3 w H locs ls S hl hz
    rw [f_X9_size_43] at hz
    cases hz
  | succ n9 ih =>
    intro x1 x2 x3 w H locs ls S hl hz
    rw [f_X9_size_43] at hz
    refine lv_iload_n hx hb dX9_size_43 rfl (lv_at hl 3 rfl) ?_
    refine lv_iconst (v := 5) hx hb dX9_size_44 (by decide) ?_
    refine lv_icmp_ge (tgt := 63) hx hb dX9_size_45 (by decide) (fun c3 => ?_) (fun c3 => ?_)
    · have hz := ipt (c3) hz
      refine lv_iload_n hx hb dX9_size_63 rfl (lv_at hl 1 rfl) ?_
      by_cases c4 : x1 = 0
      · have hz := ipt c4 hz
        refine lv_tableIn (off := 52) (tgt := 116) hx hb dX9_size_64 (by rw [c4]; decide) (by rw [c4]; decide) (by rw [c4]; rfl) (by decide) ?_
        refine lv_aload_n hx hb dX9_size_116 rfl (lv_at hl 0 rfl) ?_
        refine fg_X9_15 hx hb (fun q h => hg q (tl_X9 q h)) hown (hg _ t_fl_X9_20) S (by decide) dX9_size_117 ?_
        refine lv_iconst (v := 0) hx hb dX9_size_120 (by decide) ?_
        obtain ⟨h5, hz⟩ := ck hz
        refine g_iald hx hb S (isA_15 (by decide)) h5 dX9_size_121 ?_
        exact g_reti hx hb hr hlk S hz dX9_size_122
      have hz := ipf c4 hz
      by_cases c6 : x1 = 1
      · have hz := ipt c6 hz
        refine lv_tableIn (off := 59) (tgt := 123) hx hb dX9_size_64 (by rw [c6]; decide) (by rw [c6]; decide) (by rw [c6]; rfl) (by decide) ?_
        refine lv_aload_n hx hb dX9_size_123 rfl (lv_at hl 0 rfl) ?_
        refine fg_X9_15 hx hb (fun q h => hg q (tl_X9 q h)) hown (hg _ t_fl_X9_20) S (by decide) dX9_size_124 ?_
        refine lv_iconst (v := 1) hx hb dX9_size_127 (by decide) ?_
        obtain ⟨h7, hz⟩ := ck hz
        refine g_iald hx hb S (isA_15 (by decide)) h7 dX9_size_128 ?_
        exact g_reti hx hb hr hlk S hz dX9_size_129
      have hz := ipf c6 hz
      by_cases c8 : x1 = 2
      · have hz := ipt c8 hz
        refine lv_tableIn (off := 66) (tgt := 130) hx hb dX9_size_64 (by rw [c8]; decide) (by rw [c8]; decide) (by rw [c8]; rfl) (by decide) ?_
        refine lv_aload_n hx hb dX9_size_130 rfl (lv_at hl 0 rfl) ?_
        refine fg_X9_15 hx hb (fun q h => hg q (tl_X9 q h)) hown (hg _ t_fl_X9_20) S (by decide) dX9_size_131 ?_
        refine lv_bipush (v := 17) hx hb dX9_size_134 (by decide) ?_
        obtain ⟨h9, hz⟩ := ck hz
        refine g_iald hx hb S (isA_15 (by decide)) h9 dX9_size_136 ?_
        exact g_reti hx hb hr hlk S hz dX9_size_137
      have hz := ipf c8 hz
      by_cases c10 : x1 = 3
      · have hz := ipt c10 hz
        refine lv_tableIn (off := 74) (tgt := 138) hx hb dX9_size_64 (by rw [c10]; decide) (by rw [c10]; decide) (by rw [c10]; rfl) (by decide) ?_
        refine lv_aload_n hx hb dX9_size_138 rfl (lv_at hl 0 rfl) ?_
        refine fg_X9_15 hx hb (fun q h => hg q (tl_X9 q h)) hown (hg _ t_fl_X9_20) S (by decide) dX9_size_139 ?_
        refine lv_bipush (v := 39) hx hb dX9_size_142 (by decide) ?_
        obtain ⟨h11, hz⟩ := ck hz
        refine g_iald hx hb S (isA_15 (by decide)) h11 dX9_size_144 ?_
        exact g_reti hx hb hr hlk S hz dX9_size_145
      have hz := ipf c10 hz
      by_cases c12 : x1 = 4
      · have hz := ipt c12 hz
        refine lv_tableIn (off := 82) (tgt := 146) hx hb dX9_size_64 (by rw [c12]; decide) (by rw [c12]; decide) (by rw [c12]; rfl) (by decide) ?_
        refine lv_aload_n hx hb dX9_size_146 rfl (lv_at hl 0 rfl) ?_
        refine fg_X9_17 hx hb (fun q h => hg q (tl_X9 q h)) hown (hg _ t_fl_X9_26) S (by decide) dX9_size_147 ?_
        refine lv_iconst (v := 5) hx hb dX9_size_150 (by decide) ?_
        obtain ⟨h13, hz⟩ := ck hz
        refine g_iald hx hb S (isA_16 (by decide)) h13 dX9_size_151 ?_
        exact g_reti hx hb hr hlk S hz dX9_size_152
      have hz := ipf c12 hz
      by_cases c14 : x1 = 5
      · have hz := ipt c14 hz
        refine lv_tableIn (off := 89) (tgt := 153) hx hb dX9_size_64 (by rw [c14]; decide) (by rw [c14]; decide) (by rw [c14]; rfl) (by decide) ?_
        refine lv_aload_n hx hb dX9_size_153 rfl (lv_at hl 0 rfl) ?_
        refine fg_X9_17 hx hb (fun q h => hg q (tl_X9 q h)) hown (hg _ t_fl_X9_26) S (by decide) dX9_size_154 ?_
        refine lv_bipush (v := 6) hx hb dX9_size_157 (by decide) ?_
        obtain ⟨h15, hz⟩ := ck hz
        refine g_iald hx hb S (isA_16 (by decide)) h15 dX9_size_159 ?_
        exact g_reti hx hb hr hlk S hz dX9_size_160
      have hz := ipf c14 hz
      by_cases c16 : x1 = 6
      · have hz := ipt c16 hz
        refine lv_tableIn (off := 97) (tgt := 161) hx hb dX9_size_64 (by rw [c16]; decide) (by rw [c16]; decide) (by rw [c16]; rfl) (by decide) ?_
        refine lv_aload_n hx hb dX9_size_161 rfl (lv_at hl 0 rfl) ?_
        refine fg_X9_17 hx hb (fun q h => hg q (tl_X9 q h)) hown (hg _ t_fl_X9_26) S (by decide) dX9_size_162 ?_
        refine lv_bipush (v := 6) hx hb dX9_size_165 (by decide) ?_
        obtain ⟨h17, hz⟩ := ck hz
        refine g_iald hx hb S (isA_16 (by decide)) h17 dX9_size_167 ?_
        refine lv_iload_n hx hb dX9_size_168 rfl (lv_at hl 2 rfl) ?_
        refine lv_isub hx hb dX9_size_169 ?_
        exact g_reti hx hb hr hlk S hz dX9_size_170
      have hz := ipf c16 hz
      by_cases c18 : x1 = 7
      · have hz := ipt c18 hz
        refine lv_tableIn (off := 107) (tgt := 171) hx hb dX9_size_64 (by rw [c18]; decide) (by rw [c18]; decide) (by rw [c18]; rfl) (by decide) ?_
        refine lv_aload_n hx hb dX9_size_171 rfl (lv_at hl 0 rfl) ?_
        refine fg_X9_17 hx hb (fun q h => hg q (tl_X9 q h)) hown (hg _ t_fl_X9_26) S (by decide) dX9_size_172 ?_
        refine lv_bipush (v := 8) hx hb dX9_size_175 (by decide) ?_
        obtain ⟨h19, hz⟩ := ck hz
        refine g_iald hx hb S (isA_16 (by decide)) h19 dX9_size_177 ?_
        exact g_reti hx hb hr hlk S hz dX9_size_178
      have hz := ipf c18 hz
      by_cases c20 : x1 = 8
      · have hz := ipt c20 hz
        refine lv_tableIn (off := 115) (tgt := 179) hx hb dX9_size_64 (by rw [c20]; decide) (by rw [c20]; decide) (by rw [c20]; rfl) (by decide) ?_
        refine lv_aload_n hx hb dX9_size_179 rfl (lv_at hl 0 rfl) ?_
        refine fg_X9_19 hx hb (fun q h => hg q (tl_X9 q h)) hown (hg _ t_fl_X9_162) S (by decide) dX9_size_180 ?_
        exact g_reti hx hb hr hlk S hz dX9_size_183
      have hz := ipf c20 hz
      have hsw := tsw_out 9 (by decide) (show ∀ j : Nat, j < 9 → ¬ x1 = Int32.ofNat j from (lt_s (lt_s (lt_s (lt_s (lt_s (lt_s (lt_s (lt_s (lt_s lt_0 c4) c6) c8) c10) c12) c14) c16) c18) c20))
      refine lv_tableOut (tgt := 184) hx hb dX9_size_64 hsw (by decide) ?_
      refine lv_iconst (v := (-1)) hx hb dX9_size_184 (by decide) ?_
      exact g_reti hx hb hr hlk S hz dX9_size_185
    · have hz := ipf (c3) hz
      refine lv_iload_n hx hb dX9_size_48 rfl (lv_at hl 2 rfl) ?_
      refine lv_aload_n hx hb dX9_size_49 rfl (lv_at hl 0 rfl) ?_
      refine fg_X9_17 hx hb (fun q h => hg q (tl_X9 q h)) hown (hg _ t_fl_X9_26) S (by decide) dX9_size_50 ?_
      refine lv_iload_n hx hb dX9_size_53 rfl (lv_at hl 3 rfl) ?_
      obtain ⟨h21, hz⟩ := ck hz
      refine g_iald hx hb S (isA_16 (by decide)) h21 dX9_size_54 ?_
      refine lv_iadd hx hb dX9_size_55 ?_
      refine lv_istore_n (lv' := [(2, .int (x2 + (gI w 135 (ix x3)))), (0, .ref (gad G 130)), (1, .int x1), (3, .int x3)]) hx hb dX9_size_56 rfl hl (by decide) rfl (fun ls hl => ?_)
      refine lv_iinc (v := (x3 + 1)) (lv' := [(3, .int (x3 + 1)), (2, .int (x2 + (gI w 135 (ix x3)))), (0, .ref (gad G 130)), (1, .int x1)]) hx hb dX9_size_57 hl (k := 3) rfl rfl (by decide) rfl (fun ls hl => ?_)
      refine lv_goto (tgt := 43) hx hb dX9_size_60 (by decide) ?_
      exact ih x1 (x2 + (gI w 135 (ix x3))) (x3 + 1)  _ _ _ _ S (lv_sub hl [2, 3, 1, 0] rfl) hz
set_option maxHeartbeats 4000000 in
set_option maxRecDepth 100000 in
theorem c_X9_size (l : Launch) (G : GG) (x1 : Int32)  (w : GW) {z : Int32 × GW} (hz : f_X9_size x1 w = some z) : Met l yX9_size (wsU yX9_size cX9_size 4 (some .int)) rm_X9_size (va_Pc [.ref (gad G 130), .int x1] (PreG G w)) (QI G z) 0 0 (gA G) := by
  refine Met.ofW (cc := cX9_size) (maxL := 4) (ret := (some .int)) (by decide) rfl ?_
  intro p e s m args below meth c s₁ B hml hv
  obtain ⟨rfl, S⟩ := hv
  have F : CallFix p m c cX9_size 4 s _ (wsU yX9_size cX9_size 4 (some .int)) RX9 := ⟨B.exec, B.bytes, hml, findClass_of_methodNamed B.named, atoms_spec B.pre⟩
  have hr := B.returns
  have hlk := B.notSynchronized
  obtain ⟨hx, hb, -, hown, hts⟩ := id F
  have hg : ∀ q ∈ lwg, q.before _ s = true := fun q h => hts q (List.mem_cons_of_mem _ h)
  refine g_entry (Nat.le_of_ble_eq_true rfl) (fun ls hl => ?_)
  have hl : lv_has ls 4 [(0, .ref (gad G 130)), (1, .int x1)] := hl
  have S : St G w s s.heap [] := S
  generalize s.heap = H at S ⊢
  generalize ([] : List Loc) = locs at S ⊢
  rw [f_X9_size] at hz
  refine lv_aload_n hx hb dX9_size_0 rfl (lv_at hl 0 rfl) ?_
  refine lv_iconst (v := 0) hx hb dX9_size_1 (by decide) ?_
  refine fp_X9_0 (v := 0) hx hb (fun q h => hg q (tl_X9 q h)) hown (hg _ t_fl_X9_69) S (by decide) dX9_size_2 (fun H locs S => ?_)
  refine lv_iload_n hx hb dX9_size_5 rfl (lv_at hl 1 rfl) ?_
  refine lv_bipush (v := 9) hx hb dX9_size_6 (by decide) ?_
  refine lv_icmp_ne (tgt := 16) hx hb dX9_size_8 (by decide) (fun c1 => ?_) (fun c1 => ?_)
  · have hz := ipf (c1) hz
    refine lv_aload_n hx hb dX9_size_16 rfl (lv_at hl 0 rfl) ?_
    refine fg_X9_14 hx hb (fun q h => hg q (tl_X9 q h)) hown (hg _ t_fl_X9_159) S (by decide) dX9_size_17 ?_
    refine lv_if_ne (tgt := 39) hx hb dX9_size_20 (by decide) (fun c2 => ?_) (fun c2 => ?_)
    · have hz := ipf (c2) hz
      refine lv_iconst (v := 0) hx hb dX9_size_39 (by decide) ?_
      refine lv_istore_n (lv' := [(2, .int 0), (0, .ref (gad G 130)), (1, .int x1)]) hx hb dX9_size_40 rfl hl (by decide) rfl (fun ls hl => ?_)
      refine lv_iconst (v := 0) hx hb dX9_size_41 (by decide) ?_
      refine lv_istore_n (lv' := [(3, .int 0), (2, .int 0), (0, .ref (gad G 130)), (1, .int x1)]) hx hb dX9_size_42 rfl hl (by decide) rfl (fun ls hl => ?_)
      exact w_X9_size_43 F hr hlk fu x1 0 0 _ _ _ _ S (lv_sub hl [2, 3, 1, 0] rfl) hz
    · have hz := ipt (c2) hz
      refine lv_iload_n hx hb dX9_size_23 rfl (lv_at hl 1 rfl) ?_
      refine lv_iconst (v := 0) hx hb dX9_size_24 (by decide) ?_
      refine lv_bipush (v := 8) hx hb dX9_size_25 (by decide) ?_
      obtain ⟨q22, e23, hz⟩ := bd hz
      refine g_callSb (As := [.int x1, .int 0, .int 8]) (rest := []) F S (c_X9_within l G x1 0 8  _ e23) (cw_X9_size_X9_within_138 hg) rfl hl.1 rfl (Nat.le_of_ble_eq_true rfl) ⟨Nat.zero_le _, Nat.zero_le _⟩ dX9_size_27 (fun H locs hB24 S => ?_)
      refine lv_if_eq (tgt := 37) hx hb dX9_size_30 (by decide) (fun c25 => ?_) (fun c25 => ?_)
      · have hz := ipt (c25) hz
        refine lv_iconst (v := (-1)) hx hb dX9_size_37 (by decide) ?_
        exact g_reti hx hb hr hlk S hz dX9_size_38
      · have hz := ipf (c25) hz
        refine lv_iconst (v := 0) hx hb dX9_size_33 (by decide) ?_
        refine lv_goto (tgt := 38) hx hb dX9_size_34 (by decide) ?_
        exact g_reti hx hb hr hlk S hz dX9_size_38
  · have hz := ipt (c1) hz
    refine lv_aload_n hx hb dX9_size_11 rfl (lv_at hl 0 rfl) ?_
    refine fg_X9_2 hx hb (fun q h => hg q (tl_X9 q h)) hown (hg _ t_fl_X9_75) S (by decide) dX9_size_12 ?_
    exact g_reti hx hb hr hlk S hz dX9_size_15
noncomputable def f_X9_trouble  (w : GW) : Option (Int32 × GW) :=
  some ((gI (sI w 130 0 0) 130 11), (sI w 130 0 0))
set_option maxHeartbeats 4000000 in
set_option maxRecDepth 100000 in
theorem c_X9_trouble (l : Launch) (G : GG)   (w : GW) {z : Int32 × GW} (hz : f_X9_trouble  w = some z) : Met l yX9_trouble (wsU yX9_trouble cX9_trouble 1 (some .int)) rm_X9_trouble (va_Pc [.ref (gad G 130)] (PreG G w)) (QI G z) 0 0 (gA G) := by
  refine Met.ofW (cc := cX9_trouble) (maxL := 1) (ret := (some .int)) (by decide) rfl ?_
  intro p e s m args below meth c s₁ B hml hv
  obtain ⟨rfl, S⟩ := hv
  have F : CallFix p m c cX9_trouble 1 s _ (wsU yX9_trouble cX9_trouble 1 (some .int)) RX9 := ⟨B.exec, B.bytes, hml, findClass_of_methodNamed B.named, atoms_spec B.pre⟩
  have hr := B.returns
  have hlk := B.notSynchronized
  obtain ⟨hx, hb, -, hown, hts⟩ := id F
  have hg : ∀ q ∈ lwg, q.before _ s = true := fun q h => hts q (List.mem_cons_of_mem _ h)
  refine g_entry (Nat.le_of_ble_eq_true rfl) (fun ls hl => ?_)
  have hl : lv_has ls 1 [(0, .ref (gad G 130))] := hl
  have S : St G w s s.heap [] := S
  generalize s.heap = H at S ⊢
  generalize ([] : List Loc) = locs at S ⊢
  rw [f_X9_trouble] at hz
  refine lv_aload_n hx hb dX9_trouble_0 rfl (lv_at hl 0 rfl) ?_
  refine lv_iconst (v := 0) hx hb dX9_trouble_1 (by decide) ?_
  refine fp_X9_0 (v := 0) hx hb (fun q h => hg q (tl_X9 q h)) hown (hg _ t_fl_X9_69) S (by decide) dX9_trouble_2 (fun H locs S => ?_)
  refine lv_aload_n hx hb dX9_trouble_5 rfl (lv_at hl 0 rfl) ?_
  refine fg_X9_11 hx hb (fun q h => hg q (tl_X9 q h)) hown (hg _ t_fl_X9_72) S (by decide) dX9_trouble_6 ?_
  exact g_reti hx hb hr hlk S hz dX9_trouble_9
