/-! String.length and charAt of the String constants, walked -/
section J1
variable {p : Program} {l : Launch} {e : Env} {R : Room} {s : State} {m : MethodId} {args : Array Value} {below : List Frame} {meth : Method} {c : Code} {H : Heap} {locs : List Loc} {cells slots : Nat} {Q : State → Prop}
variable {cc : ByteArray} {pc : Nat} {ls : Array Slot} {rest : List Value} {G : GG} {w : GW}
theorem g_rett {z : Int32 × GW} {v : Int32} {ty : FieldType} (hx : p.tables.exec = Jvm.exec) (hb : c.code = cc) (hr : meth.sig.returnType = some ty) (hn : narrow ty (.int v) = .int v) (hlk : meth.locks = false) (S : St G w s H locs) (hz : some (v, w) = some z) (hdg : decode cc pc = .ok (.ireturn, 1)) : W p l e R s m args below meth c H locs cells slots (MQ below (QI G z) args s cells slots (gA G)) (F0 m pc ls [.int v]) := by
  have hz := Option.some.inj hz
  exact W.zret (v := v) hx hb hr hn (fun t ht hW => ⟨⟨v, w, rfl, hz, by show va_P _ _ _ t.heap; rw [ht]; exact S.2.1⟩, S.2.2.2.1.F ht⟩) S.2.2.2.1.2.2 hdg hlk
end J1
theorem sLen_lt : ∀ i, i < 34 → sLen i < 100 := by decide +kernel
theorem sCh_ok : ∀ i, i < 34 → ∀ j, j < sLen i → ((sCh i j &&& 255).toUInt32.toUInt16.toUInt32.toInt32 = sCh i j ∧ narrow .char (.int (sCh i j)) = .int (sCh i j)) := by decide +kernel
set_option maxHeartbeats 4000000 in
set_option maxRecDepth 100000 in
theorem c_coder (l : Launch) (G : GG) (i : Nat) (hi : i < 34) (w : GW) : Met l yJ0_coder_7d493 (wsU yJ0_coder_7d493 cJ0_coder_7d493 1 (some .byte)) rm_J0_coder_7d493 (va_Pc [.ref (gK G i)] (PreG G w)) (QI G (0, w)) 0 0 (gA G) := by
  refine Met.ofW (cc := cJ0_coder_7d493) (maxL := 1) (ret := (some .byte)) (by decide) rfl ?_
  intro p e s m args below meth c s₁ B hml hv
  obtain ⟨rfl, S⟩ := hv
  have F : CallFix p m c cJ0_coder_7d493 1 s _ (wsU yJ0_coder_7d493 cJ0_coder_7d493 1 (some .byte)) RJ0 := ⟨B.exec, B.bytes, hml, findClass_of_methodNamed B.named, atoms_spec B.pre⟩
  have hr := B.returns
  have hlk := B.notSynchronized
  obtain ⟨hx, hb, -, hown, hts⟩ := id F
  have hg : ∀ q ∈ lwg, q.before _ s = true := fun q h => hts q (List.mem_cons_of_mem _ h)
  refine g_entry (Nat.le_of_ble_eq_true rfl) (fun ls hl => ?_)
  have hl : lv_has ls 1 [(0, .ref (gK G i))] := hl
  have S : St G w s s.heap [] := S
  generalize s.heap = H at S ⊢
  generalize ([] : List Loc) = locs at S ⊢
  refine va_gets hx hb S.2.2.2.2.2.2.2.1 S.2.2.2.1 hown (hg _ t_fl_J0_38) (fun _ h => h) dJ0_coder_7d493_0 ?_
  refine lv_if_eq (tgt := 13) hx hb dJ0_coder_7d493_3 (by decide) (fun h1 => absurd h1 (by decide)) (fun h1 => ?_)
  refine lv_aload_n hx hb dJ0_coder_7d493_6 rfl (lv_at hl 0 rfl) ?_
  refine vk_getf hx hb (S.2.2.2.2.1 i hi).1.2.1 S.2.2.2.1 hown (hg _ t_fl_J0_15) (fun _ h => h) dJ0_coder_7d493_7 ?_
  refine lv_goto (tgt := 14) hx hb dJ0_coder_7d493_10 (by decide) ?_
  exact g_rett hx hb hr rfl hlk S rfl dJ0_coder_7d493_14
set_option maxHeartbeats 4000000 in
set_option maxRecDepth 100000 in
theorem c_slen (l : Launch) (G : GG) (i : Nat) (hi : i < 34) (w : GW) : Met l yJ0_length_8abf5 (wsU yJ0_length_8abf5 cJ0_length_8abf5 1 (some .int)) rm_J0_length_8abf5 (va_Pc [.ref (gK G i)] (PreG G w)) (QI G (Int32.ofNat (sLen i), w)) 0 0 (gA G) := by
  refine Met.ofW (cc := cJ0_length_8abf5) (maxL := 1) (ret := (some .int)) (by decide) rfl ?_
  intro p e s m args below meth c s₁ B hml hv
  obtain ⟨rfl, S⟩ := hv
  have F : CallFix p m c cJ0_length_8abf5 1 s _ (wsU yJ0_length_8abf5 cJ0_length_8abf5 1 (some .int)) RJ0 := ⟨B.exec, B.bytes, hml, findClass_of_methodNamed B.named, atoms_spec B.pre⟩
  have hr := B.returns
  have hlk := B.notSynchronized
  obtain ⟨hx, hb, -, hown, hts⟩ := id F
  have hg : ∀ q ∈ lwg, q.before _ s = true := fun q h => hts q (List.mem_cons_of_mem _ h)
  refine g_entry (Nat.le_of_ble_eq_true rfl) (fun ls hl => ?_)
  have hl : lv_has ls 1 [(0, .ref (gK G i))] := hl
  have S : St G w s s.heap [] := S
  have S0 := S
  generalize s.heap = H at S ⊢
  generalize ([] : List Loc) = locs at S ⊢
  refine lv_aload_n hx hb dJ0_length_8abf5_0 rfl (lv_at hl 0 rfl) ?_
  refine vk_getf hx hb (S.2.2.2.2.1 i hi).1.2.2.1 S.2.2.2.1 hown (hg _ t_fl_J0_9) (fun _ h => h) dJ0_length_8abf5_1 ?_
  refine va_tlen hx hb (S.2.2.2.2.1 i hi).1.2.2.2 S.2.2.2.1 rfl dJ0_length_8abf5_4 ?_
  refine lv_aload_n hx hb dJ0_length_8abf5_5 rfl (lv_at hl 0 rfl) ?_
  refine g_callVi (As := []) (rest := [.int (Int32.ofNat (sLen i))]) F S (c_coder l G i hi w) (cw_J0_length_8abf5_J0_coder_7d493_335 hg) (S.str hi) rfl hl.1 rfl (Nat.le_of_ble_eq_true rfl) ⟨Nat.zero_le _, Nat.zero_le _⟩ dJ0_length_8abf5_6 (fun H locs S => ?_)
  refine lv_ishr hx hb dJ0_length_8abf5_9 ?_
  exact g_reti hx hb hr hlk S (by show some (_ >>> ((0 : Int32) &&& 31), _) = _; rw [show ((0 : Int32) &&& 31) = 0 from by decide]; rw [Int32.shiftRight_zero]) dJ0_length_8abf5_10
set_option maxHeartbeats 4000000 in
set_option maxRecDepth 100000 in
theorem c_isL (l : Launch) (G : GG) (i : Nat) (hi : i < 34) (w : GW) : Met l yJ0_isLatin1_aae02 (wsU yJ0_isLatin1_aae02 cJ0_isLatin1_aae02 1 (some .boolean)) rm_J0_isLatin1_aae02 (va_Pc [.ref (gK G i)] (PreG G w)) (QI G (1, w)) 0 0 (gA G) := by
  refine Met.ofW (cc := cJ0_isLatin1_aae02) (maxL := 1) (ret := (some .boolean)) (by decide) rfl ?_
  intro p e s m args below meth c s₁ B hml hv
  obtain ⟨rfl, S⟩ := hv
  have F : CallFix p m c cJ0_isLatin1_aae02 1 s _ (wsU yJ0_isLatin1_aae02 cJ0_isLatin1_aae02 1 (some .boolean)) RJ0 := ⟨B.exec, B.bytes, hml, findClass_of_methodNamed B.named, atoms_spec B.pre⟩
  have hr := B.returns
  have hlk := B.notSynchronized
  obtain ⟨hx, hb, -, hown, hts⟩ := id F
  have hg : ∀ q ∈ lwg, q.before _ s = true := fun q h => hts q (List.mem_cons_of_mem _ h)
  refine g_entry (Nat.le_of_ble_eq_true rfl) (fun ls hl => ?_)
  have hl : lv_has ls 1 [(0, .ref (gK G i))] := hl
  have S : St G w s s.heap [] := S
  generalize s.heap = H at S ⊢
  generalize ([] : List Loc) = locs at S ⊢
  refine va_gets hx hb S.2.2.2.2.2.2.2.1 S.2.2.2.1 hown (hg _ t_fl_J0_38) (fun _ h => h) dJ0_isLatin1_aae02_0 ?_
  refine lv_if_eq (tgt := 17) hx hb dJ0_isLatin1_aae02_3 (by decide) (fun h1 => absurd h1 (by decide)) (fun h1 => ?_)
  refine lv_aload_n hx hb dJ0_isLatin1_aae02_6 rfl (lv_at hl 0 rfl) ?_
  refine vk_getf hx hb (S.2.2.2.2.1 i hi).1.2.1 S.2.2.2.1 hown (hg _ t_fl_J0_15) (fun _ h => h) dJ0_isLatin1_aae02_7 ?_
  refine lv_if_ne (tgt := 17) hx hb dJ0_isLatin1_aae02_10 (by decide) (fun h1 => absurd rfl h1) (fun h1 => ?_)
  refine lv_iconst (v := 1) hx hb dJ0_isLatin1_aae02_13 (by decide) ?_
  refine lv_goto (tgt := 18) hx hb dJ0_isLatin1_aae02_14 (by decide) ?_
  exact g_rett hx hb hr rfl hlk S rfl dJ0_isLatin1_aae02_18
set_option maxHeartbeats 4000000 in
set_option maxRecDepth 100000 in
theorem c_chk3 (l : Launch) (G : GG) (i n : Int32) (f : Value) (hf : f = .null ∨ ∃ t, f = .ref t) (h0 : ¬ i < 0) (h1 : i < n) (w : GW) : Met l yJ3_checkIndex_8e157 (wsU yJ3_checkIndex_8e157 cJ3_checkIndex_8e157 3 (some .int)) rm_J3_checkIndex_8e157 (va_Pc [.int i, .int n, f] (PreG G w)) (QI G (i, w)) 0 0 (gA G) := by
  refine Met.ofW (cc := cJ3_checkIndex_8e157) (maxL := 3) (ret := (some .int)) (by decide) rfl ?_
  intro p e s m args below meth c s₁ B hml hv
  obtain ⟨rfl, S⟩ := hv
  have F : CallFix p m c cJ3_checkIndex_8e157 3 s _ (wsU yJ3_checkIndex_8e157 cJ3_checkIndex_8e157 3 (some .int)) RJ3 := ⟨B.exec, B.bytes, hml, findClass_of_methodNamed B.named, atoms_spec B.pre⟩
  have hr := B.returns
  have hlk := B.notSynchronized
  obtain ⟨hx, hb, -, hown, hts⟩ := id F
  refine g_entry (by rcases hf with rfl | ⟨t, rfl⟩ <;> exact Nat.le_of_ble_eq_true rfl) (fun ls hl => ?_)
  have hl : lv_has ls 3 [(0, .int i), (1, .int n), (2, f)] := hl
  have S : St G w s s.heap [] := S
  generalize s.heap = H at S ⊢
  generalize ([] : List Loc) = locs at S ⊢
  refine lv_iload_n hx hb dJ3_checkIndex_8e157_0 rfl (lv_at hl 0 rfl) ?_
  refine lv_if_lt (tgt := 9) hx hb dJ3_checkIndex_8e157_1 (by decide) (fun h => absurd h h0) (fun h => ?_)
  refine lv_iload_n hx hb dJ3_checkIndex_8e157_4 rfl (lv_at hl 0 rfl) ?_
  refine lv_iload_n hx hb dJ3_checkIndex_8e157_5 rfl (lv_at hl 1 rfl) ?_
  refine lv_icmp_lt (tgt := 16) hx hb dJ3_checkIndex_8e157_6 (by decide) (fun h => ?_) (fun h => absurd h1 h)
  refine lv_iload_n hx hb dJ3_checkIndex_8e157_16 rfl (lv_at hl 0 rfl) ?_
  exact g_reti hx hb hr hlk S rfl dJ3_checkIndex_8e157_17
set_option maxHeartbeats 4000000 in
set_option maxRecDepth 100000 in
theorem c_chk (l : Launch) (G : GG) (i n : Int32) (h0 : ¬ i < 0) (h1 : i < n) (w : GW) : Met l yJ0_checkIndex_df160 (wsU yJ0_checkIndex_df160 cJ0_checkIndex_df160 2 none) rm_J0_checkIndex_df160 (va_Pc [.int i, .int n] (PreG G w)) (QV G ((), w)) 0 0 (gA G) := by
  refine Met.ofW (cc := cJ0_checkIndex_df160) (maxL := 2) (ret := none) (by decide) rfl ?_
  intro p e s m args below meth c s₁ B hml hv
  obtain ⟨rfl, S⟩ := hv
  have F : CallFix p m c cJ0_checkIndex_df160 2 s _ (wsU yJ0_checkIndex_df160 cJ0_checkIndex_df160 2 none) RJ0 := ⟨B.exec, B.bytes, hml, findClass_of_methodNamed B.named, atoms_spec B.pre⟩
  have hr := B.returns
  have hlk := B.notSynchronized
  obtain ⟨hx, hb, -, hown, hts⟩ := id F
  have hg : ∀ q ∈ lwg, q.before _ s = true := fun q h => hts q (List.mem_cons_of_mem _ h)
  refine g_entry (Nat.le_of_ble_eq_true rfl) (fun ls hl => ?_)
  have hl : lv_has ls 2 [(0, .int i), (1, .int n)] := hl
  have S : St G w s s.heap [] := S
  generalize s.heap = H at S ⊢
  generalize ([] : List Loc) = locs at S ⊢
  refine lv_iload_n hx hb dJ0_checkIndex_df160_0 rfl (lv_at hl 0 rfl) ?_
  refine lv_iload_n hx hb dJ0_checkIndex_df160_1 rfl (lv_at hl 1 rfl) ?_
  have key : ∀ f : Value, (f = .null ∨ ∃ t, f = .ref t) → W p l e (headSpec (wsU yJ0_checkIndex_df160 cJ0_checkIndex_df160 2 none) rm_J0_checkIndex_df160).room s m #[.int i, .int n] below meth c H locs 0 0 (MQ below (QV G ((), w)) #[.int i, .int n] s 0 0 (gA G)) (F0 m 5 ls [f, .int n, .int i]) := by
    intro f hf
    refine g_callSi (As := [.int i, .int n, f]) (rest := []) F S (c_chk3 l G i n f hf h0 h1 w) (cw_J0_checkIndex_df160_J3_checkIndex_8e157_1059 hg) rfl hl.1 rfl (Nat.le_of_ble_eq_true rfl) ⟨Nat.zero_le _, Nat.zero_le _⟩ dJ0_checkIndex_df160_5 (fun H locs S => ?_)
    refine lv_pop hx hb dJ0_checkIndex_df160_8 rfl ?_
    exact g_retv hx hb hr hlk S rfl dJ0_checkIndex_df160_9
  rcases S.2.2.2.2.2.2.2.2.1 with hZ | ⟨t, hZ⟩
  · exact va_gets hx hb hZ S.2.2.2.1 hown (hg _ t_fl_J0_1053) (fun _ h => h) dJ0_checkIndex_df160_2 (key _ (Or.inl rfl))
  · exact va_gets hx hb hZ S.2.2.2.1 hown (hg _ t_fl_J0_1053) (fun _ h => h) dJ0_checkIndex_df160_2 (key _ (Or.inr ⟨t, rfl⟩))
set_option maxHeartbeats 4000000 in
set_option maxRecDepth 100000 in
theorem c_lchar (l : Launch) (G : GG) (i : Nat) (k : Int32) (hi : i < 34) (hk : inb k (sLen i)) (w : GW) : Met l yJ1_charAt_3b067 (wsU yJ1_charAt_3b067 cJ1_charAt_3b067 2 (some .char)) rm_J1_charAt_3b067 (va_Pc [.ref (gV G i), .int k] (PreG G w)) (QI G (sCh i (ix k), w)) 0 0 (gA G) := by
  refine Met.ofW (cc := cJ1_charAt_3b067) (maxL := 2) (ret := (some .char)) (by decide) rfl ?_
  intro p e s m args below meth c s₁ B hml hv
  obtain ⟨rfl, S⟩ := hv
  have F : CallFix p m c cJ1_charAt_3b067 2 s _ (wsU yJ1_charAt_3b067 cJ1_charAt_3b067 2 (some .char)) RJ1 := ⟨B.exec, B.bytes, hml, findClass_of_methodNamed B.named, atoms_spec B.pre⟩
  have hr := B.returns
  have hlk := B.notSynchronized
  obtain ⟨hx, hb, -, hown, hts⟩ := id F
  have hg : ∀ q ∈ lwg, q.before _ s = true := fun q h => hts q (List.mem_cons_of_mem _ h)
  refine g_entry (Nat.le_of_ble_eq_true rfl) (fun ls hl => ?_)
  have hl : lv_has ls 2 [(0, .ref (gV G i)), (1, .int k)] := hl
  have S : St G w s s.heap [] := S
  generalize s.heap = H at S ⊢
  generalize ([] : List Loc) = locs at S ⊢
  have hL := sLen_lt i hi
  obtain ⟨k', hk', rfl⟩ := vp_in_of (inb_in hk) (by omega)
  have hkl : nI k' < Int32.ofNat (sLen i) := nI_lt hk' (by omega)
  refine lv_iload_n hx hb dJ1_charAt_3b067_0 rfl (lv_at hl 1 rfl) ?_
  refine lv_aload_n hx hb dJ1_charAt_3b067_1 rfl (lv_at hl 0 rfl) ?_
  refine va_tlen hx hb (S.2.2.2.2.1 i hi).1.2.2.2 S.2.2.2.1 rfl dJ1_charAt_3b067_2 ?_
  refine g_callSv (As := [.int (nI k'), .int (Int32.ofNat (sLen i))]) (rest := []) F S (c_chk l G (nI k') (Int32.ofNat (sLen i)) hk.1 hkl w) (cw_J1_charAt_3b067_J0_checkIndex_df160_9 hg) rfl hl.1 rfl (Nat.le_of_ble_eq_true rfl) ⟨Nat.zero_le _, Nat.zero_le _⟩ dJ1_charAt_3b067_3 (fun H locs S => ?_)
  refine lv_aload_n hx hb dJ1_charAt_3b067_6 rfl (lv_at hl 0 rfl) ?_
  refine lv_iload_n hx hb dJ1_charAt_3b067_7 rfl (lv_at hl 1 rfl) ?_
  refine va_tb hx hb (S.2.2.2.2.1 i hi).1.2.2.2 S.2.2.2.1 (inb_in hk) rfl dJ1_charAt_3b067_8 ?_
  refine lv_sipush (v := 255) hx hb dJ1_charAt_3b067_9 (by decide) ?_
  refine lv_iand hx hb dJ1_charAt_3b067_12 ?_
  refine lv_i2c (v := sCh i (ix (nI k'))) hx hb dJ1_charAt_3b067_13 (by
    have h := (sCh_ok i hi (ix (nI k')) hk.2).1
    exact h) ?_
  exact g_rett hx hb hr (sCh_ok i hi (ix (nI k')) hk.2).2 hlk S rfl dJ1_charAt_3b067_14
set_option maxHeartbeats 4000000 in
set_option maxRecDepth 100000 in
theorem c_schar (l : Launch) (G : GG) (i : Nat) (k : Int32) (hi : i < 34) (hk : inb k (sLen i)) (w : GW) : Met l yJ0_charAt_5068e (wsU yJ0_charAt_5068e cJ0_charAt_5068e 2 (some .char)) rm_J0_charAt_5068e (va_Pc [.ref (gK G i), .int k] (PreG G w)) (QI G (sCh i (ix k), w)) 0 0 (gA G) := by
  refine Met.ofW (cc := cJ0_charAt_5068e) (maxL := 2) (ret := (some .char)) (by decide) rfl ?_
  intro p e s m args below meth c s₁ B hml hv
  obtain ⟨rfl, S⟩ := hv
  have F : CallFix p m c cJ0_charAt_5068e 2 s _ (wsU yJ0_charAt_5068e cJ0_charAt_5068e 2 (some .char)) RJ0 := ⟨B.exec, B.bytes, hml, findClass_of_methodNamed B.named, atoms_spec B.pre⟩
  have hr := B.returns
  have hlk := B.notSynchronized
  obtain ⟨hx, hb, -, hown, hts⟩ := id F
  have hg : ∀ q ∈ lwg, q.before _ s = true := fun q h => hts q (List.mem_cons_of_mem _ h)
  refine g_entry (Nat.le_of_ble_eq_true rfl) (fun ls hl => ?_)
  have hl : lv_has ls 2 [(0, .ref (gK G i)), (1, .int k)] := hl
  have S : St G w s s.heap [] := S
  generalize s.heap = H at S ⊢
  generalize ([] : List Loc) = locs at S ⊢
  refine lv_aload_n hx hb dJ0_charAt_5068e_0 rfl (lv_at hl 0 rfl) ?_
  refine g_callVi (As := []) (rest := []) F S (c_isL l G i hi w) (cw_J0_charAt_5068e_J0_isLatin1_aae02_492 hg) (S.str hi) rfl hl.1 rfl (Nat.le_of_ble_eq_true rfl) ⟨Nat.zero_le _, Nat.zero_le _⟩ dJ0_charAt_5068e_1 (fun H locs S => ?_)
  refine lv_if_eq (tgt := 16) hx hb dJ0_charAt_5068e_4 (by decide) (fun h1 => absurd (show (1 : Int32) = 0 from h1) (by decide)) (fun h1 => ?_)
  refine lv_aload_n hx hb dJ0_charAt_5068e_7 rfl (lv_at hl 0 rfl) ?_
  refine vk_getf hx hb (S.2.2.2.2.1 i hi).1.2.2.1 S.2.2.2.1 hown (hg _ t_fl_J0_9) (fun _ h => h) dJ0_charAt_5068e_8 ?_
  refine lv_iload_n hx hb dJ0_charAt_5068e_11 rfl (lv_at hl 1 rfl) ?_
  refine g_callSi (As := [.ref (gV G i), .int k]) (rest := []) F S (c_lchar l G i k hi hk w) (cw_J0_charAt_5068e_J1_charAt_3b067_495 hg) rfl hl.1 rfl (Nat.le_of_ble_eq_true rfl) ⟨Nat.zero_le _, Nat.zero_le _⟩ dJ0_charAt_5068e_12 (fun H locs S => ?_)
  exact g_rett hx hb hr (sCh_ok i hi (ix k) hk.2).2 hlk S rfl dJ0_charAt_5068e_15
