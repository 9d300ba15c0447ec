/-! led at the machine: the class's method returns or throws; the law's helper catches -/
abbrev nseN : String := "java/util/NoSuchElementException"
abbrev nseL : List Cond := vx_at0 RX8 293 nseN ["java/lang/RuntimeException", "java/lang/Exception"]
set_option maxRecDepth 100000 in
theorem x_good : ∀ w ∈ nseL.filter goodWord, w ∈ lwg := by
  intro w hw
  have h := goodIn_r (big := tables_1_1 ++ (tables_1_4 ++ (tables_1_5 ++ tables_1_7))) (nseL.filter goodWord) [16, 483, 492, 494, 497, 499, 484, 485, 26, 27, 486, 491, 495, 511, 473, 512, 475, 513, 477, 487, 489, 479, 501, 502, 503, 504, 504, 505, 506, 507, 507, 508, 509, 484, 500, 462, 470, 471, 472, 474, 476, 478, 482, 481, 480] (by decide +kernel) (by decide +kernel) w hw
  have h2 : w ∈ lw_tbl := by
    rcases List.mem_append.mp h.1 with q | q
    · exact tm_1 q
    · rcases List.mem_append.mp q with q | q
      · exact tm_4 q
      · rcases List.mem_append.mp q with q | q
        · exact tm_5 q
        · exact tm_7 q
  exact List.mem_filter.mpr ⟨h2, (List.mem_filter.mp hw).2⟩
def PL (G : GG) (w : GW) (U : State) : Prop := PreG G w U ∧ LW (gA G) U U.heap
theorem PL.blind {G : GG} {w : GW} {As : List Value} : FrameBlind (va_Pc As (PL G w)) := by
  intro a U g mk h
  obtain ⟨h0, h1, h2⟩ := h
  exact ⟨h0, (PreG.blind (As := As) a U g mk ⟨h0, h1⟩).2, h2.blind⟩
theorem St.preL {G : GG} {w : GW} {s U : State} {H : Heap} {locs : List Loc} (S : St G w s H locs) (hL : LW (gA G) s s.heap) (hU : U.heap = H) (hW : s.WarmedH U.vm) : PL G w U := by
  refine ⟨S.pre hU hW, ?_⟩
  subst hU
  exact hL.go hW (fun a h1 h2 => S.2.2.2.1.2.1 a h1 h2)
def QLd (G : GG) (o : Option Int32) (w : GW) : Array Value → State → Outcome → State → Prop := va_Qi (fun r (u : GW) => o = some r ∧ u = w) (fun u t => PoG G u t) (gA G)
def XLd (G : GG) (o : Option Int32) (w : GW) : String → State → State → Prop := vx_X (fun u : GW => o = none ∧ u = w) (fun E u t => E = nseN ∧ PoG G u t) (gA G)
abbrev rm_led8 : Room := { frames := 6, cells := 1, slots := 6, locals := 90 }
abbrev rm_led9 : Room := { frames := 7, cells := 1, slots := 6, locals := 120 }
set_option maxHeartbeats 4000000 in
set_option maxRecDepth 100000 in
theorem w_X8_led_4 {p : Program} {l : Launch} {e : Env} {s : State} {m : MethodId} {args : Array Value} {below : List Frame} {meth : Method} {c : Code} {G : GG} (F : CallFix p m c cX8_led 4 s args (wsU yX8_led cX8_led 4 (some .int)) RX8) (hr : meth.sig.returnType = (some .int)) (hlk : meth.locks = false) (hl0 : l.stackTraces = false) (hx0 : ∀ x ∈ c.exceptionTable.toList, False) (hL : LW (gA G) s s.heap) {o : Option Int32} {w : GW} : ∀ (n9 : Nat) (x1 x2 x3 : Int32) (H : Heap) (locs : List Loc) (ls : Array Slot), St G w s H locs → lv_has ls 4 [(0, .ref (gad G 0)), (1, .int x1), (2, .int x2), (3, .int x3)] → f_X8_led_4 n9 x1 x2 x3 w = some (o, w) → W p l e (headSpec (wsU yX8_led cX8_led 4 (some .int)) rm_led8).room s m args below meth c H locs 0 0 (vx_MQ below (QLd G o w) (XLd G o w) args s 1 6 (gA G)) (F0 m 4 ls []) := by
  obtain ⟨hx, hb, hml, hown, hts⟩ := id F
  have hg : ∀ q ∈ lwg, q.before args s = true := fun q h => hts q (List.mem_cons_of_mem _ h)
  intro n9
  induction n9 with
  | zero =>
    intro x1 x2 x3 H locs ls S hl hz
    rw [f_X8_led_4] at hz
    cases hz
  | succ n9 ih =>
    intro x1 x2 x3 H locs ls S hl hz
    rw [f_X8_led_4] at hz
    refine lv_iload_n hx hb dX8_led_4 rfl (lv_at hl 3 rfl) ?_
    refine lv_aload_n hx hb dX8_led_5 rfl (lv_at hl 0 rfl) ?_
    refine fg_X8_9 hx hb (fun q h => hg q (tl_X8 q h)) hown (hg _ t_fl_X8_28) S (by decide) dX8_led_6 ?_
    refine fg_X3_1 hx hb (fun q h => hg q (tl_X3 q h)) hown (hg _ t_fl_X8_288) S (kd_H _) dX8_led_9 ?_
    refine lv_icmp_ge (tgt := 43) hx hb dX8_led_12 (by decide) (fun c1 => ?_) (fun c1 => ?_)
    · have hz := ipt c1 hz
      have ho : o = none := (congrArg Prod.fst (Option.some.inj hz)).symm
      exact vx_throw0 (own := RX8) (cls := nseN) (names := ["java/lang/RuntimeException", "java/lang/Exception"]) (A := gA G) hx hb hl0 hown (by decide +kernel) (by decide +kernel) (hg _ t_cl_X8_291) (hg _ (List.mem_filter.mpr ⟨t_i_nse, by decide +kernel⟩))
        (vx_hat (B := [.declares ⟨"java/lang/RuntimeException", "<init>", "()V"⟩, .declares ⟨"java/lang/Exception", "<init>", "()V"⟩, .declares ⟨"java/lang/Throwable", "<init>", "()V"⟩, .castable nseN nseN]) (fun w hw => hg w (x_good w hw)) (by decide +kernel) (vx_c (va_tabs rfl rfl hL.2.2.1) (vx_c (va_tabs rfl rfl hL.2.2.2.1) (vx_c (va_tabs rfl rfl hL.2.2.2.2.1) (vx_c (va_tabs rfl rfl hL.2.2.2.2.2) vx_n)))))
        (by decide +kernel) hL.1 hL.2.1 S.2.2.2.1 (hl.1.trans hml.symm) dX8_led_43 dX8_led_46 dX8_led_47 dX8_led_50 (fun x h => (hx0 x h).elim) (by decide) (by decide) (by decide) (by decide) hlk
        (fun t hA hz1 hk => ⟨w, ⟨ho, rfl⟩, ⟨rfl, S.2.1.kept (fun k x hx => hk x.1 ((S.2.1 k x hx).lt))⟩, Nat.le_trans S.2.2.2.1.1 hz1, fun q h1 h2 => (hk q (Nat.lt_of_lt_of_le h1 S.2.2.2.1.1)).trans (S.2.2.2.1.2.1 q h1 h2)⟩) S.2.2.2.1.2.2 (by decide) (by decide)
    · have hz := ipf c1 hz
      refine lv_aload_n hx hb dX8_led_15 rfl (lv_at hl 0 rfl) ?_
      refine fg_X8_7 hx hb (fun q h => hg q (tl_X8 q h)) hown (hg _ t_fl_X8_73) S (by decide) dX8_led_16 ?_
      refine fg_X2_5 hx hb (fun q h => hg q (tl_X2 q h)) hown (hg _ t_fl_X8_244) S (by decide) dX8_led_19 ?_
      refine lv_iload_n hx hb dX8_led_22 rfl (lv_at hl 3 rfl) ?_
      obtain ⟨h2, hz⟩ := ck hz
      refine g_iald hx hb S (isA_10 (by decide)) h2 dX8_led_23 ?_
      refine lv_if_ne (tgt := 37) hx hb dX8_led_24 (by decide) (fun c3 => ?_) (fun c3 => ?_)
      · have hz := ipf c3 hz
        refine lv_iinc (v := (x3 + 1)) (lv' := [(3, .int (x3 + 1)), (0, .ref (gad G 0)), (1, .int x1), (2, .int x2)]) hx hb dX8_led_37 hl (k := 3) rfl rfl (by decide) rfl (fun ls hl => ?_)
        refine lv_goto (tgt := 4) hx hb dX8_led_40 (by decide) ?_
        exact ih x1 x2 (x3 + 1) _ _ _ S (lv_sub hl [1, 2, 3, 0] rfl) hz
      · have hz := ipt c3 hz
        refine lv_iload_n hx hb dX8_led_27 rfl (lv_at hl 2 rfl) ?_
        refine lv_iload_n hx hb dX8_led_28 rfl (lv_at hl 1 rfl) ?_
        refine lv_icmp_ne (tgt := 34) hx hb dX8_led_29 (by decide) (fun c4 => ?_) (fun c4 => ?_)
        · have hz := ipf c4 hz
          refine lv_iinc (v := (x2 + 1)) (lv' := [(2, .int (x2 + 1)), (0, .ref (gad G 0)), (1, .int x1), (3, .int x3)]) hx hb dX8_led_34 hl (k := 2) rfl rfl (by decide) rfl (fun ls hl => ?_)
          refine lv_iinc (v := (x3 + 1)) (lv' := [(3, .int (x3 + 1)), (2, .int (x2 + 1)), (0, .ref (gad G 0)), (1, .int x1)]) hx hb dX8_led_37 hl (k := 3) rfl rfl (by decide) rfl (fun ls hl => ?_)
          refine lv_goto (tgt := 4) hx hb dX8_led_40 (by decide) ?_
          exact ih x1 (x2 + 1) (x3 + 1) _ _ _ S (lv_sub hl [2, 3, 1, 0] rfl) hz
        · have hz := ipt (by first | exact c4 | exact Decidable.not_not.mp c4) hz
          have ho : o = some x3 := (congrArg Prod.fst (Option.some.inj hz)).symm
          refine lv_iload_n hx hb dX8_led_32 rfl (lv_at hl 3 rfl) ?_
          refine W.widen (k := 1) (n := 6) (by decide) (by decide) ?_
          refine vx_ret ?_
          exact W.iret (v := x3) hx hb hr (fun t ht hW => ⟨⟨x3, w, rfl, ⟨ho, rfl⟩, by show va_P _ _ _ t.heap; rw [ht]; exact S.2.1⟩, S.2.2.2.1.F ht⟩) S.2.2.2.1.2.2 dX8_led_33 hlk
set_option maxRecDepth 100000 in
theorem c_X8_led (l : Launch) (hl0 : l.stackTraces = false) (G : GG) (x1 : Int32) (w : GW) {o : Option Int32} (hz : f_X8_led x1 w = some (o, w)) : vx_Met l yX8_led (wsU yX8_led cX8_led 4 (some .int)) rm_led8 (va_Pc [.ref (gad G 0), .int x1] (PL G w)) (QLd G o w) (XLd G o w) 1 6 (gA G) := by
  refine vx_ofW (cc := cX8_led) (maxL := 4) (ret := some .int) (by decide) rfl ?_
  intro p e s m args below meth c s₁ B hml hx0 hv
  obtain ⟨rfl, S, hL⟩ := hv
  have F : CallFix p m c cX8_led 4 s _ (wsU yX8_led cX8_led 4 (some .int)) RX8 := ⟨B.exec, B.bytes, hml, findClass_of_methodNamed B.named, atoms_spec B.pre⟩
  have hr := B.returns
  have hlk := B.notSynchronized
  obtain ⟨hx, hb, -, hown, hts⟩ := id F
  refine g_entry (Nat.le_of_ble_eq_true rfl) (fun ls hl => ?_)
  have hl : lv_has ls 4 [(0, .ref (gad G 0)), (1, .int x1)] := hl
  have S : St G w s s.heap [] := S
  refine lv_iconst (v := 0) hx hb dX8_led_0 (by decide) ?_
  refine lv_istore_n (lv' := [(2, .int 0), (0, .ref (gad G 0)), (1, .int x1)]) hx hb dX8_led_1 rfl hl (by decide) rfl (fun ls hl => ?_)
  refine lv_iconst (v := 0) hx hb dX8_led_2 (by decide) ?_
  refine lv_istore_n (lv' := [(3, .int 0), (2, .int 0), (0, .ref (gad G 0)), (1, .int x1)]) hx hb dX8_led_3 rfl hl (by decide) rfl (fun ls hl => ?_)
  rw [f_X8_led] at hz
  exact w_X8_led_4 F hr hlk hl0 hx0 hL fu x1 0 0 _ _ _ S (lv_sub hl [2, 3, 1, 0] rfl) hz
def wsLed : List Cond := Cond.codeWith yL_led cL_led 4 (some .int) [(0, 9, 12, 13)] :: lwg
/-- what the law's helper leaves -/
def LO (o : Option Int32) (w : GW) : Int32 × GW := match o with
  | none => (1, w)
  | some b => (0, sL w 149 (ix 0) b.toInt64)
set_option maxHeartbeats 4000000 in
set_option maxRecDepth 100000 in
theorem c_L_led (l : Launch) (hl0 : l.stackTraces = false) (G : GG) (x1 : Int32) (w : GW) {o : Option Int32} (hz : f_X8_led x1 w = some (o, w)) : Met l yL_led wsLed rm_led9 (va_Pc [.ref (gad G 0), .int x1, .ref (gad G 149)] (PL G w)) (QI G (LO o w)) 1 6 (gA G) := by
  refine va_MetW (cc := cL_led) (maxL := 4) (ret := some .int) (hh := [(0, 9, 12, 13)]) (by decide) rfl ?_
  intro p e s m args below meth c s₁ B hml hv
  obtain ⟨rfl, S, hL⟩ := hv
  have F : CallFix p m c cL_led 4 s _ wsLed RL := ⟨B.exec, B.bytes, hml, findClass_of_methodNamed B.named, atoms_spec B.pre⟩
  have hr := B.returns
  have hlk := B.notSynchronized
  obtain ⟨hx, hb, -, hown, hts⟩ := id F
  have hg : ∀ q ∈ lwg, q.before _ s = true := fun q h => hts q (List.mem_cons_of_mem _ h)
  have htab := vx_table (x := yL_led) B (hts _ List.mem_cons_self)
  refine g_entry (Nat.le_of_ble_eq_true rfl) (fun ls hl => ?_)
  have hl : lv_has ls 4 [(0, .ref (gad G 0)), (1, .int x1), (2, .ref (gad G 149))] := hl
  have S : St G w s s.heap [] := S
  refine lv_aload_n hx hb dL_led_0 rfl (lv_at hl 2 rfl) ?_
  refine lv_iconst (v := 0) hx hb dL_led_1 (by decide) ?_
  refine lv_aload_n hx hb dL_led_2 rfl (lv_at hl 0 rfl) ?_
  refine lv_iload_n hx hb dL_led_3 rfl (lv_at hl 1 rfl) ?_
  refine vx_calli (vx_runV (As := [.int x1]) (rest := [.int 0, .ref (gad G 149)]) F (c_X8_led l hl0 G x1 w hz) (cwV 1 hg (goodV t_co_X8_led t_ml_L_7 t_im_X8_led t_se_X8_led t_in_X8) rfl rfl rfl (by decide +kernel) ⟨Nat.le_of_ble_eq_true rfl, Nat.le_of_ble_eq_true rfl⟩) ⟨PL.blind, S.obj (k := 0) (by decide) (by decide) rfl (oc_X8 _ _ _ (by decide)), fun U hU hW9 => ⟨rfl, S.preL hL hU hW9⟩⟩ rfl rfl hl.1 rfl (lv_room (Nat.le_of_ble_eq_true rfl)) dL_led_4 ⟨Nat.le_of_ble_eq_true rfl, Nat.le_of_ble_eq_true rfl⟩) S.2.2.2.1 (fun q _ h => h) (fun q h => h) (fun q _ h => h) (fun E ce q9 u t H1 locs1 ht hvm hp hB hz1 hk1 hS hce hcv hcl => ?_) (fun r u t H1 locs1 ht hvm hp hB hz1 hk1 hS => ?_)
  · obtain ⟨ho, rfl⟩ := hp
    obtain ⟨rfl, hB⟩ := hB
    subst ho
    refine vx_catch (own := RL) (name := nseN) (E := nseN) hown [] ⟨0, 9, 12, 13⟩ [] htab (fun z hz => by cases hz) (by decide +kernel) (by decide) (hg _ t_cl_L_13) (va_tabs rfl rfl hL.2.2.2.2.2) hce hcv hcl ?_
    refine lv_astore_n (lv' := [(3, .ref q9), (0, .ref (gad G 0)), (1, .int x1), (2, .ref (gad G 149))]) hx hb dL_led_12 rfl hl (by decide) rfl (fun ls hl => ?_)
    refine lv_iconst (v := 1) hx hb dL_led_13 (by decide) ?_
    exact g_reti hx hb hr hlk (S.back ht hB hS) rfl dL_led_14
  · obtain ⟨ho, rfl⟩ := hp
    subst ho
    have S := S.back ht hB hS
    refine lv_i2l hx hb dL_led_7 rfl ?_
    refine g_last (n := 1) (k := 149) hx hb S (isA_29 (by decide)) (by decide) dL_led_8 (fun H locs S => ?_)
    refine lv_goto (tgt := 15) hx hb dL_led_9 (by decide) ?_
    refine lv_iconst (v := 0) hx hb dL_led_15 (by decide) ?_
    exact g_reti hx hb hr hlk S rfl dL_led_16
/-- the law's own array is none of the system's -/
theorem JJ.out {w : GW} (H : JJ w) (j : Nat) (v : Int64) : JJ (sL w 149 j v) := by
  have L : KM w (sL w 149 j v) := ⟨fun p k h => ⟨rfl, by show (if p = 149 ∧ k = j then v else w.2.1 p k) = w.2.1 p k; rw [if_neg (by omega)]⟩, fun r => rfl⟩
  obtain ⟨T, H⟩ := H
  refine ⟨T, ?_⟩
  rcases H with ⟨σ, d, mk, ms, S, C, M⟩ | H
  · exact Or.inl ⟨σ, d, mk, ms, S, ⟨C.1, C.2.1.km S.1 L, C.2.2⟩, M.1.km L, M.2⟩
  · exact Or.inr H
