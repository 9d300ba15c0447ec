/-! constructors that make one array, or none -/
abbrev bX2 : List Value := [.int 0, .int 0, .int 0, .int 0, .int 0, .null]
abbrev nX2 (q : Nat) : List Value := [.int 0, .int 0, .int 0, .int 0, .int 0, .ref q]
set_option maxHeartbeats 4000000 in
set_option maxRecDepth 100000 in
theorem c_X2_init (l : Launch) (D : va_G) (dA : Nat → ClassId) (A : Nat → Prop) (ws : va_W) (h : Nat) : Met l yX2_init (wsU yX2_init cX2_init 1 none) { frames := 1, cells := 1, slots := 5, locals := 12 } (va_Pc [.ref h] (PC D dA A (ws ++ [(h, .inr (2, bX2))]))) (va_Qv (fun _ : Nat => True) (fun q t => PW D A (ws ++ [(h, .inr (2, nX2 q)), (q, .inl (dA 0, 5, .inl (fun _ => 0)))]) t) A) 1 5 A := by
  refine Met.ofW (cc := cX2_init) (maxL := 1) (ret := none) (by decide) rfl ?_
  intro p e s m args below meth c s₁ B hml hv
  obtain ⟨rfl, hK, hP, hD, hA, hO⟩ := hv
  have F : CallFix p m c cX2_init 1 s _ (wsU yX2_init cX2_init 1 none) RX2 := ⟨B.exec, B.bytes, hml, findClass_of_methodNamed B.named, atoms_spec B.pre⟩
  have hr := B.returns
  have hlk := B.notSynchronized
  have hin : meth.name = "<init>" := (name_of_methodNamed B.named B.method).1
  obtain ⟨hx, hb, -, hown, hts⟩ := id F
  have hg : ∀ q ∈ lwg, q.before _ s = true := fun q h => hts q (List.mem_cons_of_mem _ h)
  have hS : va_S A s.heap s.heap [] := va_S.rf
  refine g_entry (Nat.le_of_ble_eq_true rfl) (fun ls hl => ?_)
  have hl : lv_has ls 1 [(0, .ref h)] := hl
  refine lv_aload_n hx hb dX2_init_0 rfl (lv_at hl 0 rfl) ?_
  refine W.objInit hx hb hown (hg _ t_oi_X2) (hg _ t_oi_im) (hg _ t_oi_co) rfl (by rw [hml]; exact hl.1) rfl dX2_init_1 (Nat.le_of_ble_eq_true rfl) (Nat.le_of_ble_eq_true rfl) ?_
  refine W.eq (g2 := F0 m 4 ls []) rfl ?_
  refine lv_aload_n hx hb dX2_init_4 rfl (lv_at hl 0 rfl) ?_
  refine lv_iconst (v := 5) hx hb dX2_init_5 (by decide) ?_
  refine va_newa (atype := .int) (N' := 5) (a0 := (5, .inl (fun _ => 0))) hx hb (hg _ t_ac_int) rfl hK hP hD hS hA (fun cA => rfl) (by decide) (by decide) (Nat.le_of_ble_eq_true rfl) (Nat.le_of_ble_eq_true rfl) (Nat.le_of_ble_eq_true rfl) dX2_init_6 (fun q cA H hK2 hP hD hS => ?_)
  have hc : cA = dA 0 := arr_one (k := 0) rfl hK2
  subst hc
  rw [List.append_assoc] at hP hD
  refine va_putF (ci := 2) (v := .ref q) (ty := .array .int) (C := RX2) (T := TX2) (N := 6) (fs := bX2) hx hb (fun q h => hg q (tl_X2 q h)) (fun _ h => h) tyX2 tyX2_ok nmX2 hown hK hP hD hS (ws.length + 0) ((at_pre _ _ _).trans rfl) rfl 5 (by decide) (hg _ t_fl_X2_9) (fun _ h9 => h9) rfl hin rfl (by decide +kernel) rfl rfl (Nat.le_of_ble_eq_true rfl) dX2_init_8 (fun H locs hP hD hS => ?_)
  rw [set_pre] at hP hD
  exact W.vret hx hb hr (fun t ht hW => ⟨⟨q, rfl, trivial, by subst ht; exact ⟨hP, hD⟩⟩, hS.F ht⟩) hS.2.2 dX2_init_11 hlk
abbrev bX5 : List Value := [.null]
abbrev nX5 (q : Nat) : List Value := [.ref q]
set_option maxHeartbeats 4000000 in
set_option maxRecDepth 100000 in
theorem c_X5_init (l : Launch) (D : va_G) (dA : Nat → ClassId) (A : Nat → Prop) (ws : va_W) (h : Nat) : Met l yX5_init (wsU yX5_init cX5_init 1 none) { frames := 1, cells := 1, slots := 18, locals := 12 } (va_Pc [.ref h] (PC D dA A (ws ++ [(h, .inr (5, bX5))]))) (va_Qv (fun _ : Nat => True) (fun q t => PW D A (ws ++ [(h, .inr (5, nX5 q)), (q, .inl (dA 1, 18, .inr (.inl (fun _ => 0))))]) t) A) 1 18 A := by
  refine Met.ofW (cc := cX5_init) (maxL := 1) (ret := none) (by decide) rfl ?_
  intro p e s m args below meth c s₁ B hml hv
  obtain ⟨rfl, hK, hP, hD, hA, hO⟩ := hv
  have F : CallFix p m c cX5_init 1 s _ (wsU yX5_init cX5_init 1 none) RX5 := ⟨B.exec, B.bytes, hml, findClass_of_methodNamed B.named, atoms_spec B.pre⟩
  have hr := B.returns
  have hlk := B.notSynchronized
  have hin : meth.name = "<init>" := (name_of_methodNamed B.named B.method).1
  obtain ⟨hx, hb, -, hown, hts⟩ := id F
  have hg : ∀ q ∈ lwg, q.before _ s = true := fun q h => hts q (List.mem_cons_of_mem _ h)
  have hS : va_S A s.heap s.heap [] := va_S.rf
  refine g_entry (Nat.le_of_ble_eq_true rfl) (fun ls hl => ?_)
  have hl : lv_has ls 1 [(0, .ref h)] := hl
  refine lv_aload_n hx hb dX5_init_0 rfl (lv_at hl 0 rfl) ?_
  refine W.objInit hx hb hown (hg _ t_oi_X5) (hg _ t_oi_im) (hg _ t_oi_co) rfl (by rw [hml]; exact hl.1) rfl dX5_init_1 (Nat.le_of_ble_eq_true rfl) (Nat.le_of_ble_eq_true rfl) ?_
  refine W.eq (g2 := F0 m 4 ls []) rfl ?_
  refine lv_aload_n hx hb dX5_init_4 rfl (lv_at hl 0 rfl) ?_
  refine lv_bipush (v := 18) hx hb dX5_init_5 (by decide) ?_
  refine va_newa (atype := .long) (N' := 18) (a0 := (18, .inr (.inl (fun _ => 0)))) hx hb (hg _ t_ac_long) rfl hK hP hD hS hA (fun cA => rfl) (by decide) (by decide) (Nat.le_of_ble_eq_true rfl) (Nat.le_of_ble_eq_true rfl) (Nat.le_of_ble_eq_true rfl) dX5_init_7 (fun q cA H hK2 hP hD hS => ?_)
  have hc : cA = dA 1 := arr_one (k := 1) rfl hK2
  subst hc
  rw [List.append_assoc] at hP hD
  refine va_putF (ci := 5) (v := .ref q) (ty := .array .long) (C := RX5) (T := TX5) (N := 1) (fs := bX5) hx hb (fun q h => hg q (tl_X5 q h)) (fun _ h => h) tyX5 tyX5_ok nmX5 hown hK hP hD hS (ws.length + 0) ((at_pre _ _ _).trans rfl) rfl 0 (by decide) (hg _ t_fl_X5_9) (fun _ h9 => h9) rfl hin rfl (by decide +kernel) rfl rfl (Nat.le_of_ble_eq_true rfl) dX5_init_9 (fun H locs hP hD hS => ?_)
  rw [set_pre] at hP hD
  exact W.vret hx hb hr (fun t ht hW => ⟨⟨q, rfl, trivial, by subst ht; exact ⟨hP, hD⟩⟩, hS.F ht⟩) hS.2.2 dX5_init_12 hlk
set_option maxHeartbeats 4000000 in
set_option maxRecDepth 100000 in
theorem c_X4_init (l : Launch) (D : va_G) (dA : Nat → ClassId) (A : Nat → Prop) (ws : va_W) (h : Nat) : Met l yX4_init (wsU yX4_init cX4_init 1 none) { frames := 1, cells := 0, slots := 0, locals := 12 } (va_Pc [.ref h] (PC D dA A (ws ++ [(h, .inr (4, [.int 0, .int 0, .int 0]))]))) (va_Qv (fun _ : Unit => True) (fun _ t => PW D A (ws ++ [(h, .inr (4, [.int 0, .int 0, .int 0]))]) t) A) 0 0 A := by
  refine Met.ofW (cc := cX4_init) (maxL := 1) (ret := none) (by decide) rfl ?_
  intro p e s m args below meth c s₁ B hml hv
  obtain ⟨rfl, hK, hP, hD, hA, hO⟩ := hv
  have F : CallFix p m c cX4_init 1 s _ (wsU yX4_init cX4_init 1 none) RX4 := ⟨B.exec, B.bytes, hml, findClass_of_methodNamed B.named, atoms_spec B.pre⟩
  have hr := B.returns
  have hlk := B.notSynchronized
  obtain ⟨hx, hb, -, hown, hts⟩ := id F
  have hg : ∀ q ∈ lwg, q.before _ s = true := fun q h => hts q (List.mem_cons_of_mem _ h)
  have hS : va_S A s.heap s.heap [] := va_S.rf
  refine g_entry (Nat.le_of_ble_eq_true rfl) (fun ls hl => ?_)
  have hl : lv_has ls 1 [(0, .ref h)] := hl
  refine lv_aload_n hx hb dX4_init_0 rfl (lv_at hl 0 rfl) ?_
  refine W.objInit hx hb hown (hg _ t_oi_X4) (hg _ t_oi_im) (hg _ t_oi_co) rfl (by rw [hml]; exact hl.1) rfl dX4_init_1 (Nat.le_of_ble_eq_true rfl) (Nat.le_of_ble_eq_true rfl) ?_
  refine W.eq (g2 := F0 m 4 ls []) rfl ?_
  exact W.vret hx hb hr (fun t ht hW => ⟨⟨(), rfl, trivial, by show va_P _ _ _ t.heap ∧ _; rw [ht]; exact ⟨hP, hD⟩⟩, hS.F ht⟩) hS.2.2 dX4_init_4 hlk
