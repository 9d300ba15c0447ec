/-! constructors that call others -/
theorem PC.blind {D : va_G} {dA : Nat → ClassId} {A : Nat → Prop} {ws : va_W} {As : List Value} : FrameBlind (va_Pc As (PC D dA A ws)) := by
  intro a U g mk h
  obtain ⟨h0, hK, hP, hD, hA, hO⟩ := h
  exact ⟨h0, va_K.moved (u := U) (U := U.calling g mk a) (Vm.Alike.refl U.vm) hK, hP, hD, hA, hO.same (u := U) (U := U.calling g mk a) rfl⟩
set_option maxHeartbeats 4000000 in
set_option maxRecDepth 100000 in
theorem c_X1_init (l : Launch) (D : va_G) (dA : Nat → ClassId) (A : Nat → Prop) (ws : va_W) (h hh : Nat) : Met l yX1_init (wsU yX1_init cX1_init 2 none) { frames := 2, cells := 4, slots := 68, locals := 32 } (va_Pc [.ref h, .ref hh] (PC D dA A (ws ++ [(h, .inr (1, [.null, .null, .null, .null, .null]))]))) (va_Qv (fun _ : Nat × Nat × Nat × Nat => True) (fun u t => PW D A (ws ++ [(h, .inr (1, [.ref u.2.1, .ref u.2.2.1, .ref u.2.2.2, .ref hh, .ref u.1])), (u.1, .inr (4, [.int 0, .int 0, .int 0])), (u.2.1, .inl (dA 1, 32, .inr (.inl (fun _ => 0)))), (u.2.2.1, .inl (dA 0, 3, .inl (fun _ => 0))), (u.2.2.2, .inl (dA 1, 30, .inr (.inl (fun _ => 0))))]) t) A) 4 68 A := by
  refine Met.ofW (cc := cX1_init) (maxL := 2) (ret := none) (by decide) rfl ?_
  intro p e s m args below meth c s₁ B hml hv
  obtain ⟨rfl, hK, hP, hD, hA, hO⟩ := hv
  have F : CallFix p m c cX1_init 2 s _ (wsU yX1_init cX1_init 2 none) RX1 := ⟨B.exec, B.bytes, hml, findClass_of_methodNamed B.named, atoms_spec B.pre⟩
  have hr := B.returns
  have hlk := B.notSynchronized
  have hin : meth.name = "<init>" := (name_of_methodNamed B.named B.method).1
  obtain ⟨hx, hb, -, hown, hts⟩ := id F
  have hg : ∀ q ∈ lwg, q.before _ s = true := fun q h => hts q (List.mem_cons_of_mem _ h)
  have hS : va_S A s.heap s.heap [] := va_S.rf
  refine g_entry (Nat.le_of_ble_eq_true rfl) (fun ls hl => ?_)
  have hl : lv_has ls 2 [(0, .ref h), (1, .ref hh)] := hl
  refine lv_aload_n hx hb dX1_init_0 rfl (lv_at hl 0 rfl) ?_
  refine W.objInit hx hb hown (hg _ t_oi_X1) (hg _ t_oi_im) (hg _ t_oi_co) rfl (by rw [hml]; exact hl.1) rfl dX1_init_1 (Nat.le_of_ble_eq_true rfl) (Nat.le_of_ble_eq_true rfl) ?_
  refine W.eq (g2 := F0 m 4 ls []) rfl ?_
  refine lv_aload_n hx hb dX1_init_4 rfl (lv_at hl 0 rfl) ?_
  refine lv_aload_n hx hb dX1_init_5 rfl (lv_at hl 1 rfl) ?_
  refine va_put (ci := 1) (v := .ref hh) (ty := .object RX3) (C := RX1) (T := TX1) (N := 5) (fs := [.null, .null, .null, .null, .null]) hx hb (fun q h => hg q (tl_X1 q h)) (fun _ h => h) tyX1 tyX1_ok nmX1 hown hK hP hD hS (ws.length + 0) ((at_pre _ _ _).trans rfl) rfl 3 (by decide) (hg _ t_fl_X1_9) (fun _ h9 => h9) rfl (by decide +kernel) rfl rfl (Nat.le_of_ble_eq_true rfl) dX1_init_6 (fun H locs hP hD hS => ?_)
  rw [set_pre] at hP hD
  have hP : va_P D vwCl (ws ++ [(h, .inr (1, [.null, .null, .null, .ref hh, .null]))]) H := hP
  have hD : va_D A (ws ++ [(h, .inr (1, [.null, .null, .null, .ref hh, .null]))]) := hD
  refine lv_aload_n hx hb dX1_init_9 rfl (lv_at hl 0 rfl) ?_
  refine va_new (ci := 4) (fs := [.int 0, .int 0, .int 0]) (C := RX4) (T := TX4) (N := 3) hx hb (fun q h => hg q (tl_X4 q h)) (fun _ h => h) tyX4 tyX4_ok hown (hg _ t_cl_X1_15) (hg _ t_ii_X4) (hg _ t_in_X4) hK hP hD hS hA rfl (fun j hj => by rcases (show j = 0 ∨ j = 1 ∨ j = 2 by omega) with rfl | rfl | rfl <;> rfl) (Nat.le_of_ble_eq_true rfl) (Nat.le_of_ble_eq_true rfl) dX1_init_10 (fun q0 H hP hD hS => ?_)
  refine lv_dup hx hb dX1_init_13 rfl ?_
  refine va_callv (va_runIN (As := []) (rest := [.ref q0, .ref h]) F (c_X4_init l D dA A _ q0) ⟨va_cnB 0 hg (goodU t_co_X4_init) rfl rfl rfl hO.2.2.2.2.2.1 (hg _ t_in_X4) (by decide +kernel) ⟨Nat.le_of_ble_eq_true rfl, Nat.le_of_ble_eq_true rfl⟩, rfl, hg _ t_im_X4_init⟩ ⟨PC.blind, fun U hU hW => ⟨rfl, va_K.moved hW.alike hK, by rw [hU]; exact hP, hD, fun q h9 => hA q (Nat.le_trans hS.1 (by rw [← hU]; exact h9)), hO.warm hW⟩⟩ rfl rfl hl.1 rfl (lv_room (Nat.le_of_ble_eq_true rfl)) dX1_init_14 ⟨Nat.le_of_ble_eq_true rfl, Nat.le_of_ble_eq_true rfl⟩) hS (fun q _ h => h) (fun q h => h) (fun u t H1 locs ht hvm h5 hB hz1 hk1 hS => ?_)
  obtain ⟨hP, hD⟩ := hB
  rw [ht] at hP
  rw [List.append_assoc] at hP hD
  refine va_put (ci := 1) (v := .ref q0) (ty := .object RX4) (C := RX1) (T := TX1) (N := 5) (fs := [.null, .null, .null, .ref hh, .null]) hx hb (fun q h => hg q (tl_X1 q h)) (fun _ h => h) tyX1 tyX1_ok nmX1 hown hK hP hD hS (ws.length + 0) ((at_pre _ _ _).trans rfl) rfl 4 (by decide) (hg _ t_fl_X1_18) (fun _ h9 => h9) rfl (by decide +kernel) rfl rfl (Nat.le_of_ble_eq_true rfl) dX1_init_17 (fun H locs hP hD hS => ?_)
  rw [set_pre] at hP hD
  have hP : va_P D vwCl (ws ++ [(h, .inr (1, [.null, .null, .null, .ref hh, .ref q0])), (q0, .inr (4, [.int 0, .int 0, .int 0]))]) H := hP
  have hD : va_D A (ws ++ [(h, .inr (1, [.null, .null, .null, .ref hh, .ref q0])), (q0, .inr (4, [.int 0, .int 0, .int 0]))]) := hD
  refine lv_aload_n hx hb dX1_init_20 rfl (lv_at hl 0 rfl) ?_
  refine lv_bipush (v := 32) hx hb dX1_init_21 (by decide) ?_
  refine va_newa (atype := .long) (N' := 32) (a0 := (32, .inr (.inl (fun _ => 0)))) hx hb (hg _ t_ac_long) rfl hK hP hD hS hA (fun cA => rfl) (by decide) (by decide) (Nat.le_of_ble_eq_true rfl) (Nat.le_of_ble_eq_true rfl) (Nat.le_of_ble_eq_true rfl) dX1_init_23 (fun q1 cA H hK2 hP hD hS => ?_)
  have hc : cA = dA 1 := arr_one (k := 1) rfl hK2
  subst hc
  rw [List.append_assoc] at hP hD
  refine va_putF (ci := 1) (v := .ref q1) (ty := .array .long) (C := RX1) (T := TX1) (N := 5) (fs := [.null, .null, .null, .ref hh, .ref q0]) hx hb (fun q h => hg q (tl_X1 q h)) (fun _ h => h) tyX1 tyX1_ok nmX1 hown hK hP hD hS (ws.length + 0) ((at_pre _ _ _).trans rfl) rfl 0 (by decide) (hg _ t_fl_X1_22) (fun _ h9 => h9) rfl hin rfl (by decide +kernel) rfl rfl (Nat.le_of_ble_eq_true rfl) dX1_init_25 (fun H locs hP hD hS => ?_)
  rw [set_pre] at hP hD
  have hP : va_P D vwCl (ws ++ [(h, .inr (1, [.ref q1, .null, .null, .ref hh, .ref q0])), (q0, .inr (4, [.int 0, .int 0, .int 0])), (q1, .inl (dA 1, 32, .inr (.inl (fun _ => 0))))]) H := hP
  have hD : va_D A (ws ++ [(h, .inr (1, [.ref q1, .null, .null, .ref hh, .ref q0])), (q0, .inr (4, [.int 0, .int 0, .int 0])), (q1, .inl (dA 1, 32, .inr (.inl (fun _ => 0))))]) := hD
  refine lv_aload_n hx hb dX1_init_28 rfl (lv_at hl 0 rfl) ?_
  refine lv_iconst (v := 3) hx hb dX1_init_29 (by decide) ?_
  refine va_newa (atype := .int) (N' := 3) (a0 := (3, .inl (fun _ => 0))) hx hb (hg _ t_ac_int) rfl hK hP hD hS hA (fun cA => rfl) (by decide) (by decide) (Nat.le_of_ble_eq_true rfl) (Nat.le_of_ble_eq_true rfl) (Nat.le_of_ble_eq_true rfl) dX1_init_30 (fun q2 cA H hK2 hP hD hS => ?_)
  have hc : cA = dA 0 := arr_one (k := 0) rfl hK2
  subst hc
  rw [List.append_assoc] at hP hD
  refine va_putF (ci := 1) (v := .ref q2) (ty := .array .int) (C := RX1) (T := TX1) (N := 5) (fs := [.ref q1, .null, .null, .ref hh, .ref q0]) hx hb (fun q h => hg q (tl_X1 q h)) (fun _ h => h) tyX1 tyX1_ok nmX1 hown hK hP hD hS (ws.length + 0) ((at_pre _ _ _).trans rfl) rfl 1 (by decide) (hg _ t_fl_X1_26) (fun _ h9 => h9) rfl hin rfl (by decide +kernel) rfl rfl (Nat.le_of_ble_eq_true rfl) dX1_init_32 (fun H locs hP hD hS => ?_)
  rw [set_pre] at hP hD
  have hP : va_P D vwCl (ws ++ [(h, .inr (1, [.ref q1, .ref q2, .null, .ref hh, .ref q0])), (q0, .inr (4, [.int 0, .int 0, .int 0])), (q1, .inl (dA 1, 32, .inr (.inl (fun _ => 0)))), (q2, .inl (dA 0, 3, .inl (fun _ => 0)))]) H := hP
  have hD : va_D A (ws ++ [(h, .inr (1, [.ref q1, .ref q2, .null, .ref hh, .ref q0])), (q0, .inr (4, [.int 0, .int 0, .int 0])), (q1, .inl (dA 1, 32, .inr (.inl (fun _ => 0)))), (q2, .inl (dA 0, 3, .inl (fun _ => 0)))]) := hD
  refine lv_aload_n hx hb dX1_init_35 rfl (lv_at hl 0 rfl) ?_
  refine lv_bipush (v := 30) hx hb dX1_init_36 (by decide) ?_
  refine va_newa (atype := .long) (N' := 30) (a0 := (30, .inr (.inl (fun _ => 0)))) hx hb (hg _ t_ac_long) rfl hK hP hD hS hA (fun cA => rfl) (by decide) (by decide) (Nat.le_of_ble_eq_true rfl) (Nat.le_of_ble_eq_true rfl) (Nat.le_of_ble_eq_true rfl) dX1_init_38 (fun q3 cA H hK2 hP hD hS => ?_)
  have hc : cA = dA 1 := arr_one (k := 1) rfl hK2
  subst hc
  rw [List.append_assoc] at hP hD
  refine va_putF (ci := 1) (v := .ref q3) (ty := .array .long) (C := RX1) (T := TX1) (N := 5) (fs := [.ref q1, .ref q2, .null, .ref hh, .ref q0]) hx hb (fun q h => hg q (tl_X1 q h)) (fun _ h => h) tyX1 tyX1_ok nmX1 hown hK hP hD hS (ws.length + 0) ((at_pre _ _ _).trans rfl) rfl 2 (by decide) (hg _ t_fl_X1_30) (fun _ h9 => h9) rfl hin rfl (by decide +kernel) rfl rfl (Nat.le_of_ble_eq_true rfl) dX1_init_40 (fun H locs hP hD hS => ?_)
  rw [set_pre] at hP hD
  exact W.vret hx hb hr (fun t ht hW => ⟨⟨(q0, q1, q2, q3), rfl, trivial, by subst ht; exact ⟨hP, hD⟩⟩, hS.F ht⟩) hS.2.2 dX1_init_43 hlk
