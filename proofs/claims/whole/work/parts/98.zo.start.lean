/-! what the Statement gives of the start (written by wip/gen/start.py) -/
theorem k_prim {ty : FieldType} {s : State} {args : Array Value} (h : (Cond.arrayClass ty).before args s = true) : ∃ c, ArrOfT s c ty ∧ s.vm.findClass ("[" ++ ty.toString) = some c := by
  obtain ⟨c, k, comp, h1, h2, h3⟩ := Cond.arrayClass_spec h
  exact ⟨c, fun n z => ⟨(fun k h => by cases h), k, h2, comp, h3⟩, h1⟩
theorem k_obj {C : String} {s : State} {args : Array Value} (h : (Cond.arrayOver (.object C)).before args s = true) : ∃ c, ArrOfT s c (.object C) ∧ va_RA s c (.object C) := by
  obtain ⟨comp, c, k, h1, -, h2, h3, h4⟩ := Cond.arrayOver_spec h
  exact ⟨c, fun n z => ⟨(fun k h => by cases h), k, h2, comp, h3⟩, k, comp, h2, h3, h1, h4⟩
theorem k_arr {ty : FieldType} {s : State} {args : Array Value} (h : (Cond.arrayOver (.array ty)).before args s = true) : ∃ c, ArrOfT s c (.array ty) ∧ va_RA s c (.array ty) := by
  obtain ⟨comp, c, k, h1, -, h2, h3, h4⟩ := arrayOver_specB h
  exact ⟨c, fun n z => ⟨(fun k h => by cases h), k, h2, comp, h3⟩, h4⟩
def ixOf {α : Type} (a0 a1 a2 a3 a4 a5 a6 a7 a8 a9 : α) (k : Nat) : α := match k with
  | 0 => a0 | 1 => a1 | 2 => a2 | 3 => a3 | 4 => a4 | 5 => a5 | 6 => a6 | 7 => a7 | 8 => a8 | _ => a9
set_option maxRecDepth 100000 in
theorem start_K {s : State} {args : Array Value} (hts : ∀ w ∈ lw_tbl, w.before args s = true) : ∃ (D : va_G) (dA : Nat → ClassId), va_K D vwCl (tysW dA) s := by
  have hg : ∀ w ∈ lwg, w.before args s = true := fun w h => hts w ((List.mem_filter.mp h).1)
  obtain ⟨c0, i0, h0⟩ := u_known (C := RX0) (T := TX0) (N := 11) (n := 11) hg tl_X0 (hg _ t_ii_X0)
  obtain ⟨c1, i1, h1⟩ := u_known (C := RX1) (T := TX1) (N := 5) (n := 5) hg tl_X1 (hg _ t_ii_X1)
  obtain ⟨c2, i2, h2⟩ := u_known (C := RX2) (T := TX2) (N := 6) (n := 6) hg tl_X2 (hg _ t_ii_X2)
  obtain ⟨c3, i3, h3⟩ := u_known (C := RX3) (T := TX3) (N := 16) (n := 16) hg tl_X3 (hg _ t_ii_X3)
  obtain ⟨c4, i4, h4⟩ := u_known (C := RX4) (T := TX4) (N := 3) (n := 3) hg tl_X4 (hg _ t_ii_X4)
  obtain ⟨c5, i5, h5⟩ := u_known (C := RX5) (T := TX5) (N := 1) (n := 1) hg tl_X5 (hg _ t_ii_X5)
  obtain ⟨c6, i6, h6⟩ := u_known (C := RX6) (T := TX6) (N := 5) (n := 5) hg tl_X6 (hg _ t_ii_X6)
  obtain ⟨c7, i7, h7⟩ := u_known (C := RX7) (T := TX7) (N := 8) (n := 8) hg tl_X7 (hg _ t_ii_X7)
  obtain ⟨c8, i8, h8⟩ := u_known (C := RX8) (T := TX8) (N := 13) (n := 13) hg tl_X8 (hg _ t_ii_X8)
  obtain ⟨c9, i9, h9⟩ := u_known (C := RX9) (T := TX9) (N := 40) (n := 40) hg tl_X9 (hg _ t_ii_X9)
  obtain ⟨e0, u0, v0⟩ := k_prim (hg _ t_ac_int)
  obtain ⟨e1, u1, v1⟩ := k_prim (hg _ t_ac_long)
  obtain ⟨e2, u2, v2⟩ := k_prim (hg _ t_ac_boolean)
  obtain ⟨e3, u3, v3⟩ := k_obj (hts _ t_ao_X2)
  obtain ⟨e4, u4, v4⟩ := k_obj (hts _ t_ao_X4)
  obtain ⟨e5, u5, v5⟩ := k_arr (hts _ t_ao_long)
  obtain ⟨e6, u6, v6⟩ := k_arr (hts _ t_ao_int)
  refine ⟨(ixOf c0 c1 c2 c3 c4 c5 c6 c7 c8 c9, ixOf i0 i1 i2 i3 i4 i5 i6 i7 i8 i9), ixOf e0 e1 e2 e3 e4 e5 e6 e6 e6 e6, fun c q hq => ?_, fun k q hq => ?_⟩
  · match c, hq with
    | 0, hq => cases hq; exact h0
    | 1, hq => cases hq; exact h1
    | 2, hq => cases hq; exact h2
    | 3, hq => cases hq; exact h3
    | 4, hq => cases hq; exact h4
    | 5, hq => cases hq; exact h5
    | 6, hq => cases hq; exact h6
    | 7, hq => cases hq; exact h7
    | 8, hq => cases hq; exact h8
    | 9, hq => cases hq; exact h9
    | n + 10, hq => cases hq
  · match k, hq with
    | 0, hq => cases hq; exact ⟨u0, v0⟩
    | 1, hq => cases hq; exact ⟨u1, v1⟩
    | 2, hq => cases hq; exact ⟨u2, v2⟩
    | 3, hq => cases hq; exact ⟨u3, v3⟩
    | 4, hq => cases hq; exact ⟨u4, v4⟩
    | 5, hq => cases hq; exact ⟨u5, v5⟩
    | 6, hq => cases hq; exact ⟨u6, v6⟩
    | n + 7, hq => cases hq
def flN : List Cond := flatC (Jvm.Cond.and given_1 narrow_1)
def nB : List Nat := [74, 82, 91, 102, 109, 117, 127, 137, 145, 154, 161, 170, 177, 185, 193, 203, 214, 223, 232, 242, 254, 262, 271, 282, 293, 302, 312, 320, 330, 338, 347, 358, 370, 379]
def tmK (i : Nat) : Term := .string (strR.getD i ("", 0, "")).1 (strR.getD i ("", 0, "")).2.1
abbrev tmKV (i : Nat) : Term := .field (tmK i) "java/lang/String" "value" "[B"
abbrev tmKF : Term := .static "EmptierOfTwo" "FEWER" "[I"
set_option maxRecDepth 100000 in
theorem flS_ex : ∀ i, i < 34 → flN[nB.getD i 0]? = some (Cond.exactly (tmK i) "java/lang/String") := by decide +kernel
set_option maxRecDepth 100000 in
theorem flS_co : ∀ i, i < 34 → flN[nB.getD i 0 + 1]? = some (Cond.eq (.field (tmK i) "java/lang/String" "coder" "B") (.int 0)) := by decide +kernel
set_option maxRecDepth 100000 in
theorem flS_ar : ∀ i, i < 34 → flN[nB.getD i 0 + 2]? = some (Cond.arrayOf (tmKV i) .byte) := by decide +kernel
set_option maxRecDepth 100000 in
theorem flS_le : ∀ i, i < 34 → flN[nB.getD i 0 + 3]? = some (Cond.eq (.length (tmKV i)) (.int (Int32.ofNat (sLen i)))) := by decide +kernel
set_option maxRecDepth 100000 in
theorem flS_el : ∀ i, i < 34 → ∀ j, j < sLen i → flN[nB.getD i 0 + 4 + j]? = some (Cond.eq (.elem (tmKV i) (.int (Int32.ofNat j))) (.int (sCh i j))) := by decide +kernel
set_option maxRecDepth 100000 in
theorem flS_sl : ∀ i, i < 34 → sLen i < 2 ^ 31 := by decide +kernel
set_option maxRecDepth 100000 in
theorem flF_ar : flN[10]? = some (Cond.arrayOf tmKF .int) := by decide +kernel
set_option maxRecDepth 100000 in
theorem flF_le : flN[11]? = some (Cond.eq (.length tmKF) (.int 50)) := by decide +kernel
set_option maxRecDepth 100000 in
theorem flF_el : ∀ j, j < 50 → flN[12 + j]? = some (Cond.eq (.elem tmKF (.int (Int32.ofNat j))) (.int (fewA j))) := by decide +kernel
set_option maxRecDepth 100000 in
theorem fl_cs : flN[4]? = some (Cond.eq (.static "java/lang/String" "COMPACT_STRINGS" "Z") (.int 1)) := by decide +kernel
set_option maxRecDepth 100000 in
theorem fl_si : flN[5]? = some (Cond.isRef (.static "jdk/internal/util/Preconditions" "SIOOBE_FORMATTER" "Ljava/util/function/BiFunction;")) := by decide +kernel
set_option maxRecDepth 100000 in
theorem fl_us : flN[62]? = some (Cond.isRef (.static Bundle.tN "UNASSIGNED_STACK" Bundle.steD)) := by decide +kernel
set_option maxRecDepth 100000 in
theorem fl_ss : flN[63]? = some (Cond.isRef (.static Bundle.tN "SUPPRESSED_SENTINEL" Bundle.listD)) := by decide +kernel
def sWs (i : Nat) : Cond := .stringRef (strR.getD i ("", 0, "")).1 (strR.getD i ("", 0, "")).2.1 (strR.getD i ("", 0, "")).2.2
set_option maxRecDepth 100000 in
theorem flS_rf : ∀ i, i < 34 → sWs i ∈ lw_tbl := by
  intro i hi
  match i, hi with
  | 0, _ => exact tm_2 (List.mem_of_getElem? (i := 176) (by decide +kernel))
  | 1, _ => exact tm_2 (List.mem_of_getElem? (i := 238) (by decide +kernel))
  | 2, _ => exact tm_3 (List.mem_of_getElem? (i := 11) (by decide +kernel))
  | 3, _ => exact tm_3 (List.mem_of_getElem? (i := 12) (by decide +kernel))
  | 4, _ => exact tm_3 (List.mem_of_getElem? (i := 17) (by decide +kernel))
  | 5, _ => exact tm_3 (List.mem_of_getElem? (i := 18) (by decide +kernel))
  | 6, _ => exact tm_3 (List.mem_of_getElem? (i := 19) (by decide +kernel))
  | 7, _ => exact tm_3 (List.mem_of_getElem? (i := 28) (by decide +kernel))
  | 8, _ => exact tm_3 (List.mem_of_getElem? (i := 29) (by decide +kernel))
  | 9, _ => exact tm_3 (List.mem_of_getElem? (i := 30) (by decide +kernel))
  | 10, _ => exact tm_3 (List.mem_of_getElem? (i := 35) (by decide +kernel))
  | 11, _ => exact tm_3 (List.mem_of_getElem? (i := 40) (by decide +kernel))
  | 12, _ => exact tm_3 (List.mem_of_getElem? (i := 41) (by decide +kernel))
  | 13, _ => exact tm_3 (List.mem_of_getElem? (i := 42) (by decide +kernel))
  | 14, _ => exact tm_3 (List.mem_of_getElem? (i := 43) (by decide +kernel))
  | 15, _ => exact tm_3 (List.mem_of_getElem? (i := 44) (by decide +kernel))
  | 16, _ => exact tm_3 (List.mem_of_getElem? (i := 53) (by decide +kernel))
  | 17, _ => exact tm_5 (List.mem_of_getElem? (i := 210) (by decide +kernel))
  | 18, _ => exact tm_5 (List.mem_of_getElem? (i := 229) (by decide +kernel))
  | 19, _ => exact tm_6 (List.mem_of_getElem? (i := 6) (by decide +kernel))
  | 20, _ => exact tm_6 (List.mem_of_getElem? (i := 7) (by decide +kernel))
  | 21, _ => exact tm_6 (List.mem_of_getElem? (i := 12) (by decide +kernel))
  | 22, _ => exact tm_6 (List.mem_of_getElem? (i := 13) (by decide +kernel))
  | 23, _ => exact tm_6 (List.mem_of_getElem? (i := 14) (by decide +kernel))
  | 24, _ => exact tm_6 (List.mem_of_getElem? (i := 19) (by decide +kernel))
  | 25, _ => exact tm_6 (List.mem_of_getElem? (i := 20) (by decide +kernel))
  | 26, _ => exact tm_6 (List.mem_of_getElem? (i := 21) (by decide +kernel))
  | 27, _ => exact tm_6 (List.mem_of_getElem? (i := 22) (by decide +kernel))
  | 28, _ => exact tm_6 (List.mem_of_getElem? (i := 23) (by decide +kernel))
  | 29, _ => exact tm_6 (List.mem_of_getElem? (i := 24) (by decide +kernel))
  | 30, _ => exact tm_6 (List.mem_of_getElem? (i := 25) (by decide +kernel))
  | 31, _ => exact tm_6 (List.mem_of_getElem? (i := 26) (by decide +kernel))
  | 32, _ => exact tm_6 (List.mem_of_getElem? (i := 27) (by decide +kernel))
  | 33, _ => exact tm_6 (List.mem_of_getElem? (i := 32) (by decide +kernel))
  | n + 34, h => exact absurd h (by omega)
set_option maxRecDepth 100000 in
theorem t_ls_few : Cond.laysStatic "EmptierOfTwo" "FEWER" "[I" ∈ lw_tbl := tm_3 (List.mem_of_getElem? (i := 87) (by decide +kernel))
set_option maxRecDepth 100000 in
theorem t_ls_cs : Cond.laysStatic "java/lang/String" "COMPACT_STRINGS" "Z" ∈ lw_tbl := tm_2 (List.mem_of_getElem? (i := 190) (by decide +kernel))
set_option maxRecDepth 100000 in
theorem t_ls_si : Cond.laysStatic "jdk/internal/util/Preconditions" "SIOOBE_FORMATTER" "Ljava/util/function/BiFunction;" ∈ lw_tbl := tm_2 (List.mem_of_getElem? (i := 206) (by decide +kernel))
set_option maxRecDepth 100000 in
theorem t_ls_us : Cond.laysStatic Bundle.tN "UNASSIGNED_STACK" Bundle.steD ∈ lw_tbl := tm_5 (List.mem_of_getElem? (i := 8) (by decide +kernel))
set_option maxRecDepth 100000 in
theorem t_ls_ss : Cond.laysStatic Bundle.tN "SUPPRESSED_SENTINEL" Bundle.listD ∈ lw_tbl := tm_5 (List.mem_of_getElem? (i := 10) (by decide +kernel))
set_option maxRecDepth 100000 in
theorem t_i_str : Cond.initialized "java/lang/String" ∈ lw_tbl := tm_1 (List.mem_of_getElem? (i := 12) (by decide +kernel))
set_option maxRecDepth 100000 in
theorem t_i_pre : Cond.initialized "jdk/internal/util/Preconditions" ∈ lw_tbl := tm_1 (List.mem_of_getElem? (i := 14) (by decide +kernel))
set_option maxRecDepth 100000 in
theorem t_i_thr : Cond.initialized Bundle.tN ∈ lw_tbl := tm_1 (List.mem_of_getElem? (i := 16) (by decide +kernel))
set_option maxRecDepth 100000 in
theorem t_i_nse : Cond.initialized "java/util/NoSuchElementException" ∈ lw_tbl := tm_1 (List.mem_of_getElem? (i := 19) (by decide +kernel))
set_option maxRecDepth 100000 in
theorem t_n_pack : Cond.methodLinkNest "EmptierOfTwo$Chances" 58 ⟨"EmptierOfTwo", "pack", "([I)I"⟩ "EmptierOfTwo" ∈ lw_tbl := tm_3 (List.mem_of_getElem? (i := 88) (by decide +kernel))
set_option maxRecDepth 100000 in
theorem t_n_few : Cond.fieldLinkNest "EmptierOfTwo$Chances" 80 "EmptierOfTwo" "FEWER" "[I" "EmptierOfTwo" ∈ lw_tbl := tm_3 (List.mem_of_getElem? (i := 86) (by decide +kernel))
set_option maxRecDepth 100000 in
theorem t_n_p3 : Cond.methodLinkNest RX3 28 yX4_init RX8 ∈ lw_tbl := tm_1 (List.mem_of_getElem? (i := 80) (by decide +kernel))
set_option maxRecDepth 100000 in
theorem t_n_p1 : Cond.methodLinkNest RX1 17 yX4_init RX8 ∈ lw_tbl := tm_1 (List.mem_of_getElem? (i := 212) (by decide +kernel))
set_option maxRecDepth 100000 in
theorem t_n_p8 : Cond.methodLinkNest RX8 55 yX4_init RX8 ∈ lw_tbl := tm_2 (List.mem_of_getElem? (i := 35) (by decide +kernel))
set_option maxRecDepth 100000 in
theorem t_d_rt : Cond.declares ⟨"java/lang/RuntimeException", "<init>", "()V"⟩ ∈ lw_tbl := tm_4 (List.mem_of_getElem? (i := 224) (by decide +kernel))
set_option maxRecDepth 100000 in
theorem t_d_ex : Cond.declares ⟨"java/lang/Exception", "<init>", "()V"⟩ ∈ lw_tbl := tm_4 (List.mem_of_getElem? (i := 226) (by decide +kernel))
set_option maxRecDepth 100000 in
theorem t_d_th : Cond.declares ⟨"java/lang/Throwable", "<init>", "()V"⟩ ∈ lw_tbl := tm_4 (List.mem_of_getElem? (i := 228) (by decide +kernel))
set_option maxRecDepth 100000 in
theorem t_c_nn : Cond.castable "java/util/NoSuchElementException" "java/util/NoSuchElementException" ∈ lw_tbl := tm_4 (List.mem_of_getElem? (i := 223) (by decide +kernel))
set_option maxRecDepth 100000 in
theorem start_S {s : State} {args : Array Value} (hts : ∀ w ∈ lw_tbl, w.before args s = true) (hgv : (Jvm.Cond.and given_1 narrow_1).before args s = true) {A : Nat → Prop} (hA : ∀ a : Nat, a < s.heap.size → ¬ A a) : ∃ kf vf : Nat → Nat, ∀ i, i < 34 → (va_O "java/lang/String" (kf i) A s s.heap ∧ va_OF "java/lang/String" "coder" "B" (.int 0) (kf i) A s s.heap ∧ va_OF "java/lang/String" "value" "[B" (.ref (vf i)) (kf i) A s s.heap ∧ va_T .byte (vf i) (sLen i) (fun j => .int (sCh i j)) A s s.heap) ∧ vk_R (strR.getD i ("", 0, "")).1 (strR.getD i ("", 0, "")).2.1 (strR.getD i ("", 0, "")).2.2 (kf i) s := by
  have hf : ∀ w ∈ flN, w.before args s = true := flat_of_before _ hgv
  have h0 : ∀ i : Nat, ∃ q : Nat × Nat, i < 34 → (va_O "java/lang/String" q.1 A s s.heap ∧ va_OF "java/lang/String" "coder" "B" (.int 0) q.1 A s s.heap ∧ va_OF "java/lang/String" "value" "[B" (.ref q.2) q.1 A s s.heap ∧ va_T .byte q.2 (sLen i) (fun j => .int (sCh i j)) A s s.heap) ∧ vk_R (strR.getD i ("", 0, "")).1 (strR.getD i ("", 0, "")).2.1 (strR.getD i ("", 0, "")).2.2 q.1 s := by
    intro i
    by_cases hi : i < 34
    · have hex := hf _ (List.mem_of_getElem? (flS_ex i hi))
      have hco := hf _ (List.mem_of_getElem? (flS_co i hi))
      have har := hf _ (List.mem_of_getElem? (flS_ar i hi))
      have hle := hf _ (List.mem_of_getElem? (flS_le i hi))
      obtain ⟨a, c, cA, kA, q1, q2, q3, q4, q5, q6, -⟩ := Cond.exactly_spec (args := args) (first := s) (o := none) (s := s) (idx := []) (t := tmK i) (cls := "java/lang/String") hex
      obtain ⟨t, ht, hT⟩ := va_Tof (f := fun j => .int (sCh i j)) (A := A) (flS_sl i hi) har (va_eqt hle) (fun j hj => va_eqt (hf _ (List.mem_of_getElem? (flS_el i hi j hj)))) hA
      exact ⟨(a, t), fun _ => ⟨⟨⟨cA, q3, q5, by rw [q6]; exact q2, hA a (Array.getElem?_eq_some_iff.mp q3).1⟩, vk_OFof q1 (va_eqt hco) hA, vk_OFof q1 ht hA, hT⟩, vk_R.of (hts _ (flS_rf i hi)) (by
        first | exact q1 | (rw [← q1]; rfl))⟩⟩
    · exact ⟨(0, 0), fun h => absurd h hi⟩
  exact ⟨fun i => (Classical.choose (h0 i)).1, fun i => (Classical.choose (h0 i)).2, fun i => Classical.choose_spec (h0 i)⟩
/-- what the throw asks of the machine, and of the tables -/
def LW (A : Nat → Prop) (U : State) (H : Heap) : Prop := vx_Zq Bundle.tN "UNASSIGNED_STACK" Bundle.steD A U H ∧ vx_Zq Bundle.tN "SUPPRESSED_SENTINEL" Bundle.listD A U H ∧ va_Nw (.declares ⟨"java/lang/RuntimeException", "<init>", "()V"⟩) U ∧ va_Nw (.declares ⟨"java/lang/Exception", "<init>", "()V"⟩) U ∧ va_Nw (.declares ⟨"java/lang/Throwable", "<init>", "()V"⟩) U ∧ va_Nw (.castable "java/util/NoSuchElementException" "java/util/NoSuchElementException") U
theorem LW.go {A : Nat → Prop} {s U : State} {H H1 : Heap} (h : LW A s H) (hW : s.WarmedH U.vm) (hq : ∀ a : Nat, a < H.size → ¬ A a → H1[a]? = H[a]?) : LW A U H1 := by
  obtain ⟨h1, h2, h3, h4, h5, h6⟩ := h
  exact ⟨(h1.moved hW.alike).kept hq, (h2.moved hW.alike).kept hq, va_Nw.warmD hW h3, va_Nw.warmD hW h4, va_Nw.warmD hW h5, va_Nw.warmC hW h6⟩
theorem LW.blind {A : Nat → Prop} {U : State} {H : Heap} {g : JFrame} {mk : MethodId} {a : Array Value} (h : LW A U H) : LW A (U.calling g mk a) H := by
  obtain ⟨h1, h2, h3, h4, h5, h6⟩ := h
  have hv : U.vm.Alike (U.calling g mk a).vm := Vm.Alike.refl U.vm
  exact ⟨h1.moved hv, h2.moved hv, va_Nw.same rfl (u := U) rfl h3, va_Nw.same rfl (u := U) rfl h4, va_Nw.same rfl (u := U) rfl h5, va_Nw.same rfl (u := U) rfl h6⟩
set_option maxRecDepth 100000 in
theorem start_SW {s : State} {args : Array Value} (hts : ∀ w ∈ lw_tbl, w.before args s = true) (hgv : (Jvm.Cond.and given_1 narrow_1).before args s = true) {A : Nat → Prop} (hA : ∀ a : Nat, a < s.heap.size → ¬ A a) : ∃ (kf vf : Nat → Nat) (ff : Nat), (∀ (D : va_G) (ad : Nat → Nat) (dA : Nat → ClassId), SW (D, ad, dA, A, kf, vf, ff) s s.heap) ∧ LW A s s.heap ∧ AOs s := by
  have hf : ∀ w ∈ flN, w.before args s = true := flat_of_before _ hgv
  have hg : ∀ w ∈ lwg, w.before args s = true := fun w h => hts w ((List.mem_filter.mp h).1)
  obtain ⟨kf, vf, hS⟩ := start_S hts hgv hA
  obtain ⟨ff, hff, hT⟩ := va_Tof (tm := tmKF) (ty := .int) (N := 50) (f := fun j => .int (fewA j)) (A := A) (by decide) (hf _ (List.mem_of_getElem? flF_ar)) (va_eqt (hf _ (List.mem_of_getElem? flF_le))) (fun j hj => va_eqt (hf _ (List.mem_of_getElem? (flF_el j hj)))) hA
  refine ⟨kf, vf, ff, fun D ad dA => ⟨hS, va_Zref (hts _ t_ls_few) (hg _ t_in_X8) hff hA, hT, va_Zof (hts _ t_ls_cs) (hts _ t_i_str) (va_eqt (hf _ (List.mem_of_getElem? fl_cs))) hA, va_Zqof (hts _ t_ls_si) (hts _ t_i_pre) (hf _ (List.mem_of_getElem? fl_si)) hA, va_Nw.of rfl (hts _ t_n_pack), va_Nw.of rfl (hts _ t_n_few)⟩, ?_, ?_⟩
  · exact ⟨vx_Zqof (hts _ t_ls_us) (hts _ t_i_thr) (hf _ (List.mem_of_getElem? fl_us)) hA, vx_Zqof (hts _ t_ls_ss) (hts _ t_i_thr) (hf _ (List.mem_of_getElem? fl_ss)) hA, va_Nw.of rfl (hts _ t_d_rt), va_Nw.of rfl (hts _ t_d_ex), va_Nw.of rfl (hts _ t_d_th), va_Nw.of rfl (hts _ t_c_nn)⟩
  · exact ⟨hts _ t_ao_X4, hts _ t_ao_X2, hts _ t_ao_int, hts _ t_ao_long, va_Nw.of rfl (hts _ t_n_p3), va_Nw.of rfl (hts _ t_n_p1), va_Nw.of rfl (hts _ t_n_p8)⟩
