/-! constructors: pictures grow behind a prefix -/
def AOs (U : State) : Prop := va_AO RX4 U ∧ va_AO RX2 U ∧ va_AOA .int U ∧ va_AOA .long U ∧ va_Nw (.methodLinkNest RX3 28 yX4_init RX8) U ∧ va_Nw (.methodLinkNest RX1 17 yX4_init RX8) U ∧ va_Nw (.methodLinkNest RX8 55 yX4_init RX8) U
theorem va_AOA.moved {C : FieldType} {u U : State} (hvm : u.vm.Alike U.vm) (h : va_AOA C u) : va_AOA C U := by
  unfold va_AOA Cond.before Cond.holds at h ⊢
  simp only [Cond.value] at h ⊢
  have hf : ∀ n, U.vm.findClass n = u.vm.findClass n := fun n => hvm.findClass n _
  rw [hf]
  cases hc : u.vm.findClass (FieldType.array C).toString with
  | none => rw [hc] at h; simp at h
  | some comp =>
    rw [hc, Option.bind_some] at h
    rw [Option.bind_some]
    have e1 := va_idx_bare U.vm comp
    have e2 := va_idx_bare u.vm comp
    have e3 : U.vm.bare = u.vm.bare := by first | exact hvm.bare_eq | exact hvm.bare_eq.symm
    rw [e3] at e1
    obtain ⟨o, ho1, ho2⟩ : ∃ o, _ = o ∧ _ = o := ⟨_, e1.symm.trans e2, rfl⟩
    replace h := (congrArg (fun o : Option Nat => (o.bind (fun c => (u.vm.classes[c]?).map fun (k : Class) => match k.kind with | .array _ ty => decide (ty = FieldType.array C) && decide (u.vm.findClass ("[" ++ (FieldType.array C).toString) = some c) | _ => false) == some true)) ho2).symm.trans h
    refine (congrArg (fun o : Option Nat => (o.bind (fun c => (U.vm.classes[c]?).map fun (k : Class) => match k.kind with | .array _ ty => decide (ty = FieldType.array C) && decide (U.vm.findClass ("[" ++ (FieldType.array C).toString) = some c) | _ => false) == some true)) ho1).trans ?_
    cases o with
    | none => simp at h
    | some i =>
      cases hk : u.vm.classes[i]? with
      | none => simp [hk] at h
      | some k =>
        obtain ⟨k', hk', he⟩ := hvm.2.2 _ _ hk
        have hkind : k'.kind = k.kind := by rw [he]
        simp only [hk, Option.bind_some, Option.map_some] at h
        simp only [hk', Option.bind_some, Option.map_some, hkind, hf]
        exact h
theorem AOs.warm {s U : State} (hW : s.WarmedH U.vm) (h : AOs s) : AOs U := ⟨va_AO.moved hW.alike h.1, va_AO.moved hW.alike h.2.1, va_AOA.moved hW.alike h.2.2.1, va_AOA.moved hW.alike h.2.2.2.1, va_Nw.warmM hW h.2.2.2.2.1, va_Nw.warmM hW h.2.2.2.2.2.1, va_Nw.warmM hW h.2.2.2.2.2.2⟩
theorem AOs.same {u U : State} (hv : u.vm = U.vm) (h : AOs u) : AOs U := by
  have hA : u.vm.Alike U.vm := by rw [hv]; exact Vm.Alike.refl U.vm
  exact ⟨va_AO.moved hA h.1, va_AO.moved hA h.2.1, va_AOA.moved hA h.2.2.1, va_AOA.moved hA h.2.2.2.1, va_Nw.same rfl hv h.2.2.2.2.1, va_Nw.same rfl hv h.2.2.2.2.2.1, va_Nw.same rfl hv h.2.2.2.2.2.2⟩
theorem va_RA.find {U : State} {c : ClassId} {ty : FieldType} (h : va_RA U c ty) : U.vm.findClass ("[" ++ ty.toString) = some c := by
  cases ty with
  | object C => obtain ⟨_, _, _, _, _, h⟩ := h; exact h
  | _ => exact h
theorem va_RA.one {U : State} {c c2 : ClassId} {ty : FieldType} (h : va_RA U c ty) (h2 : va_RA U c2 ty) : c = c2 := Option.some.inj (h.find.symm.trans h2.find)
/-- the class of a new array is the one that is known -/
theorem arr_one {D : va_G} {cl : List vw_C} {tys : List (ClassId × FieldType)} {s : State} {cA c : ClassId} {ty : FieldType} {k : Nat} (hk : tys[k]? = some (c, ty)) (h : va_K D cl (tys ++ [(cA, ty)]) s) : cA = c := by
  have h1 := (h.2 tys.length (cA, ty) (by rw [List.getElem?_append_right (Nat.le_refl _), Nat.sub_self]; rfl)).2
  have hl : k < tys.length := (List.getElem?_eq_some_iff.mp hk).1
  have h2 := (h.2 k (c, ty) (by rw [List.getElem?_append_left hl]; exact hk)).2
  exact h1.one h2
theorem at_pre {α : Type} (ws l : List α) (i : Nat) : (ws ++ l)[ws.length + i]? = l[i]? := by
  rw [List.getElem?_append_right (Nat.le_add_right _ _), Nat.add_sub_cancel_left]
theorem set_pre {α : Type} (ws l : List α) (i : Nat) (x : α) : (ws ++ l).set (ws.length + i) x = ws ++ l.set i x := by
  rw [List.set_append_right _ _ (Nat.le_add_right _ _), Nat.add_sub_cancel_left]
/-- before a constructor, and behind it -/
def PC (D : va_G) (dA : Nat → ClassId) (A : Nat → Prop) (ws : va_W) (U : State) : Prop := va_K D vwCl (tysW dA) U ∧ va_P D vwCl ws U.heap ∧ va_D A ws ∧ (∀ q, U.heap.size ≤ q → A q) ∧ AOs U
def PW (D : va_G) (A : Nat → Prop) (ws : va_W) (t : State) : Prop := va_P D vwCl ws t.heap ∧ va_D A ws
abbrev bX7 : List Value := [.null, .int 0, .int 0, .int 0, .int 0, .int 0, .int 0, .long 0]
abbrev nX7 (q : Nat) : List Value := [.ref q, .int 0, .int 0, .int 0, .int 0, .int 0, .int 0, .long 0]
set_option maxHeartbeats 4000000 in
set_option maxRecDepth 100000 in
theorem c_X7_init (l : Launch) (D : va_G) (dA : Nat → ClassId) (A : Nat → Prop) (ws : va_W) (h : Nat) : Met l yX7_init (wsU yX7_init cX7_init 1 none) { frames := 1, cells := 1, slots := 900, locals := 12 } (va_Pc [.ref h] (PC D dA A (ws ++ [(h, .inr (7, bX7))]))) (va_Qv (fun _ : Nat => True) (fun q t => PW D A (ws ++ [(h, .inr (7, nX7 q)), (q, .inl (dA 0, 900, .inl (fun _ => 0)))]) t) A) 1 900 A := by
  refine Met.ofW (cc := cX7_init) (maxL := 1) (ret := none) (by decide) rfl ?_
  intro p e s m args below meth c s₁ B hml hv
  obtain ⟨rfl, hK, hP, hD, hA, hO⟩ := hv
  have F : CallFix p m c cX7_init 1 s _ (wsU yX7_init cX7_init 1 none) RX7 := ⟨B.exec, B.bytes, hml, findClass_of_methodNamed B.named, atoms_spec B.pre⟩
  have hr := B.returns
  have hlk := B.notSynchronized
  have hin : meth.name = "<init>" := (name_of_methodNamed B.named B.method).1
  obtain ⟨hx, hb, -, hown, hts⟩ := id F
  have hg : ∀ q ∈ lwg, q.before _ s = true := fun q h => hts q (List.mem_cons_of_mem _ h)
  have hS : va_S A s.heap s.heap [] := va_S.rf
  refine g_entry (Nat.le_of_ble_eq_true rfl) (fun ls hl => ?_)
  have hl : lv_has ls 1 [(0, .ref h)] := hl
  refine lv_aload_n hx hb dX7_init_0 rfl (lv_at hl 0 rfl) ?_
  refine W.objInit hx hb hown (hg _ t_oi_X7) (hg _ t_oi_im) (hg _ t_oi_co) rfl (by rw [hml]; exact hl.1) rfl dX7_init_1 (Nat.le_of_ble_eq_true rfl) (Nat.le_of_ble_eq_true rfl) ?_
  refine W.eq (g2 := F0 m 4 ls []) rfl ?_
  refine lv_aload_n hx hb dX7_init_4 rfl (lv_at hl 0 rfl) ?_
  refine lv_sipush (v := 900) hx hb dX7_init_5 (by decide) ?_
  refine va_newa (atype := .int) (N' := 900) (a0 := (900, .inl (fun _ => 0))) hx hb (hg _ t_ac_int) rfl hK hP hD hS hA (fun cA => rfl) (by decide) (by decide) (Nat.le_of_ble_eq_true rfl) (Nat.le_of_ble_eq_true rfl) (Nat.le_of_ble_eq_true rfl) dX7_init_8 (fun q cA H hK2 hP hD hS => ?_)
  have hc : cA = dA 0 := arr_one (k := 0) rfl hK2
  subst hc
  rw [List.append_assoc] at hP hD
  refine va_putF (ci := 7) (v := .ref q) (ty := .array .int) (C := RX7) (T := TX7) (N := 8) (fs := bX7) hx hb (fun q h => hg q (tl_X7 q h)) (fun _ h => h) tyX7 tyX7_ok nmX7 hown hK hP hD hS (ws.length + 0) ((at_pre _ _ _).trans rfl) rfl 0 (by decide) (hg _ t_fl_X7_9) (fun _ h9 => h9) rfl hin rfl (by decide +kernel) rfl rfl (Nat.le_of_ble_eq_true rfl) dX7_init_10 (fun H locs hP hD hS => ?_)
  rw [set_pre] at hP hD
  exact W.vret hx hb hr (fun t ht hW => ⟨⟨q, rfl, trivial, by subst ht; exact ⟨hP, hD⟩⟩, hS.F ht⟩) hS.2.2 dX7_init_13 hlk
