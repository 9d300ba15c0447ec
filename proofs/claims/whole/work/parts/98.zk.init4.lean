/-! the reader's constructor -/
set_option maxHeartbeats 4000000 in
set_option maxRecDepth 100000 in
theorem c_X6_init (l : Launch) (D : va_G) (dA : Nat → ClassId) (A : Nat → Prop) (ws : va_W) (h hh : Nat) : Met l yX6_init (wsU yX6_init cX6_init 2 none) { frames := 3, cells := 21, slots := 109, locals := 53 } (va_Pc [.ref h, .ref hh] (PC D dA A (ws ++ [(h, .inr (6, [.null, .null, .int 0, .int 0, .int 0]))]))) (va_Qv (fun _ : Nat × ((Nat × Nat × Nat × Nat) × (Nat × Nat × Nat × Nat × Nat × Nat) × Nat × Nat × (Nat → Nat)) => True) (fun u t => PW D A (ws ++ ([(h, .inr (6, [.ref hh, .ref u.1, .int 0, .int 0, .int 0]))] ++ hallW dA u.1 u.2)) t) A) 21 109 A := by
  refine Met.ofW (cc := cX6_init) (maxL := 2) (ret := none) (by decide) rfl ?_
  intro p e s m args below meth c s₁ B hml hv
  obtain ⟨rfl, hK, hP, hD, hA, hO⟩ := hv
  have F : CallFix p m c cX6_init 2 s _ (wsU yX6_init cX6_init 2 none) RX6 := ⟨B.exec, B.bytes, hml, findClass_of_methodNamed B.named, atoms_spec B.pre⟩
  have hr := B.returns
  have hlk := B.notSynchronized
  have hin : meth.name = "<init>" := (name_of_methodNamed B.named B.method).1
  obtain ⟨hx, hb, -, hown, hts⟩ := id F
  have hg : ∀ q ∈ lwg, q.before _ s = true := fun q h => hts q (List.mem_cons_of_mem _ h)
  have hS : va_S A s.heap s.heap [] := va_S.rf
  refine g_entry (Nat.le_of_ble_eq_true rfl) (fun ls hl => ?_)
  have hl : lv_has ls 2 [(0, .ref h), (1, .ref hh)] := hl
  refine lv_aload_n hx hb dX6_init_0 rfl (lv_at hl 0 rfl) ?_
  refine W.objInit hx hb hown (hg _ t_oi_X6) (hg _ t_oi_im) (hg _ t_oi_co) rfl (by rw [hml]; exact hl.1) rfl dX6_init_1 (Nat.le_of_ble_eq_true rfl) (Nat.le_of_ble_eq_true rfl) ?_
  refine W.eq (g2 := F0 m 4 ls []) rfl ?_
  refine lv_aload_n hx hb dX6_init_4 rfl (lv_at hl 0 rfl) ?_
  refine lv_aload_n hx hb dX6_init_5 rfl (lv_at hl 1 rfl) ?_
  refine va_putF (ci := 6) (v := .ref hh) (ty := .object RX7) (C := RX6) (T := TX6) (N := 5) (fs := [.null, .null, .int 0, .int 0, .int 0]) hx hb (fun q h => hg q (tl_X6 q h)) (fun _ h => h) tyX6 tyX6_ok nmX6 hown hK hP hD hS (ws.length + 0) ((at_pre _ _ _).trans rfl) rfl 0 (by decide) (hg _ t_fl_X6_9) (fun _ h9 => h9) rfl hin rfl (by decide +kernel) rfl rfl (Nat.le_of_ble_eq_true rfl) dX6_init_6 (fun H locs hP hD hS => ?_)
  rw [set_pre] at hP hD
  have hP : va_P D vwCl (ws ++ [(h, .inr (6, [.ref hh, .null, .int 0, .int 0, .int 0]))]) H := hP
  have hD : va_D A (ws ++ [(h, .inr (6, [.ref hh, .null, .int 0, .int 0, .int 0]))]) := hD
  refine lv_aload_n hx hb dX6_init_9 rfl (lv_at hl 0 rfl) ?_
  refine va_new (ci := 3) (fs := [.int 0, .int 0, .int 0, .int 0, .int 0, .int 0, .int 0, .int 0, .int 0, .int 0, .null, .null, .null, .null, .null, .null]) (C := RX3) (T := TX3) (N := 16) hx hb (fun q h => hg q (tl_X3 q h)) (fun _ h => h) tyX3 tyX3_ok hown (hg _ t_cl_X6_15) (hg _ t_ii_X3) (hg _ t_in_X3) hK hP hD hS hA rfl (fun j hj => by rcases (show j = 0 ∨ j = 1 ∨ j = 2 ∨ j = 3 ∨ j = 4 ∨ j = 5 ∨ j = 6 ∨ j = 7 ∨ j = 8 ∨ j = 9 ∨ j = 10 ∨ j = 11 ∨ j = 12 ∨ j = 13 ∨ j = 14 ∨ j = 15 by omega) with rfl | rfl | rfl | rfl | rfl | rfl | rfl | rfl | rfl | rfl | rfl | rfl | rfl | rfl | rfl | rfl <;> rfl) (Nat.le_of_ble_eq_true rfl) (Nat.le_of_ble_eq_true rfl) dX6_init_10 (fun q0 H hP hD hS => ?_)
  refine lv_dup hx hb dX6_init_13 rfl ?_
  refine va_callv (va_runI (As := []) (rest := [.ref q0, .ref h]) F (c_X3_init l D dA A _ q0) (cwI 0 hg (goodU t_co_X3_init) rfl rfl rfl (hg _ t_in_X3) (hg _ t_ml_X6_17) (hg _ t_im_X3_init) rfl (by decide +kernel) ⟨Nat.le_of_ble_eq_true rfl, Nat.le_of_ble_eq_true rfl⟩) ⟨PC.blind, fun U hU hW => ⟨rfl, va_K.moved hW.alike hK, by rw [hU]; exact hP, hD, fun q h9 => hA q (Nat.le_trans hS.1 (by rw [← hU]; exact h9)), hO.warm hW⟩⟩ rfl rfl hl.1 rfl (lv_room (Nat.le_of_ble_eq_true rfl)) dX6_init_14 ⟨Nat.le_of_ble_eq_true rfl, Nat.le_of_ble_eq_true rfl⟩) hS (fun q _ h => h) (fun q h => h) (fun u t H1 locs ht hvm h5 hB hz1 hk1 hS => ?_)
  obtain ⟨hP, hD⟩ := hB
  rw [ht] at hP
  rw [List.append_assoc] at hP hD
  refine va_put (ci := 6) (v := .ref q0) (ty := .object RX3) (C := RX6) (T := TX6) (N := 5) (fs := [.ref hh, .null, .int 0, .int 0, .int 0]) hx hb (fun q h => hg q (tl_X6 q h)) (fun _ h => h) tyX6 tyX6_ok nmX6 hown hK hP hD hS (ws.length + 0) ((at_pre _ _ _).trans rfl) rfl 1 (by decide) (hg _ t_fl_X6_18) (fun _ h9 => h9) rfl (by decide +kernel) rfl rfl (Nat.le_of_ble_eq_true rfl) dX6_init_17 (fun H locs hP hD hS => ?_)
  rw [set_pre] at hP hD
  exact W.vret hx hb hr (fun t ht hW => ⟨⟨(q0, u), rfl, trivial, by subst ht; exact ⟨hP, hD⟩⟩, hS.F ht⟩) hS.2.2 dX6_init_20 hlk
